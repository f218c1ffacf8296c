theorem lkX6_90 : Cond.methodLink RX6 90 yX6_countSecond ∈ mTs := mTs_in 1125 (by decide +kernel) (by decide +kernel)
theorem myX6_countSecond : mYV yX6_countSecond cX6_countSecond 16 (some .int) 1 := ⟨⟨mTs_in 1128 (by decide +kernel) (by decide +kernel), mTs_in 122 (by decide +kernel) (by decide +kernel), ⟨by decide, by decide⟩, by decide +kernel⟩, mTs_in 1127 (by decide +kernel) (by decide +kernel), mTs_in 46 (by decide +kernel) (by decide +kernel)⟩
theorem lkX7_18 : Cond.fieldLink RX7 18 (TX7 2).1 (TX7 2).2.1 (TX7 2).2.2.1 ∈ mTs := mTs_in 235 (by decide +kernel) (by decide +kernel)
theorem inX7 : ∀ w ∈ u_ws RX7 TX7 4, w ∈ mTs := mTs_ins _ [237, 239, 241, 243] (by decide +kernel) (by decide +kernel)
theorem fdX7_2 : mFld 6 2 2 4 RX7 TX7 := ⟨rfl, inX7, by decide, rfl, by decide⟩
theorem lkX7_9 : Cond.fieldLink RX7 9 (TX7 0).1 (TX7 0).2.1 (TX7 0).2.2.1 ∈ mTs := mTs_in 233 (by decide +kernel) (by decide +kernel)
theorem fdX7_0 : mFld 6 0 0 4 RX7 TX7 := ⟨rfl, inX7, by decide, rfl, by decide⟩
theorem ptX7_0 : mPut 6 0 0 4 RX7 TX7 tyX7 .int := ⟨fdX7_0, tyX7_ok, nmX7, (by decide +kernel), rfl⟩
theorem lkX7_32 : Cond.methodLink RX7 32 yX7_note ∈ mTs := mTs_in 657 (by decide +kernel) (by decide +kernel)
theorem myX7_note : mYV yX7_note cX7_note 4 none 1 := ⟨⟨mTs_in 660 (by decide +kernel) (by decide +kernel), mTs_in 120 (by decide +kernel) (by decide +kernel), ⟨by decide, by decide⟩, by decide +kernel⟩, mTs_in 659 (by decide +kernel) (by decide +kernel), mTs_in 17 (by decide +kernel) (by decide +kernel)⟩
theorem lkX7_56 : Cond.methodLink RX7 56 yJ9_abs_0f7a4 ∈ mTs := mTs_in 677 (by decide +kernel) (by decide +kernel)
theorem myJ9_abs_0f7a4 : mYS yJ9_abs_0f7a4 cJ9_abs_0f7a4 1 (some .int) 1 := ⟨⟨mTs_in 679 (by decide +kernel) (by decide +kernel), mTs_in 132 (by decide +kernel) (by decide +kernel), ⟨by decide, by decide⟩, by decide +kernel⟩, mTs_in 678 (by decide +kernel) (by decide +kernel)⟩
theorem lkX7_53 : Cond.methodLink RX7 53 yX0_second ∈ mTs := mTs_in 680 (by decide +kernel) (by decide +kernel)
theorem myX0_second : mYV yX0_second cX0_second 2 (some .int) 1 := ⟨⟨mTs_in 683 (by decide +kernel) (by decide +kernel), mTs_in 119 (by decide +kernel) (by decide +kernel), ⟨by decide, by decide⟩, by decide +kernel⟩, mTs_in 681 (by decide +kernel) (by decide +kernel), mTs_in 682 (by decide +kernel) (by decide +kernel)⟩
theorem lkX7_50 : Cond.methodLink RX7 50 yX7_noteDivisors ∈ mTs := mTs_in 673 (by decide +kernel) (by decide +kernel)
theorem myX7_noteDivisors : mYV yX7_noteDivisors cX7_noteDivisors 5 none 1 := ⟨⟨mTs_in 676 (by decide +kernel) (by decide +kernel), mTs_in 120 (by decide +kernel) (by decide +kernel), ⟨by decide, by decide⟩, by decide +kernel⟩, mTs_in 675 (by decide +kernel) (by decide +kernel), mTs_in 19 (by decide +kernel) (by decide +kernel)⟩
theorem lkX7_43 : Cond.methodLink RX7 43 yX0_kind ∈ mTs := mTs_in 665 (by decide +kernel) (by decide +kernel)
theorem myX0_kind : mYV yX0_kind cX0_kind 2 (some .int) 1 := ⟨⟨mTs_in 668 (by decide +kernel) (by decide +kernel), mTs_in 119 (by decide +kernel) (by decide +kernel), ⟨by decide, by decide⟩, by decide +kernel⟩, mTs_in 666 (by decide +kernel) (by decide +kernel), mTs_in 667 (by decide +kernel) (by decide +kernel)⟩
theorem lkX7_47 : Cond.methodLink RX7 47 yX0_first ∈ mTs := mTs_in 669 (by decide +kernel) (by decide +kernel)
theorem myX0_first : mYV yX0_first cX0_first 2 (some .int) 1 := ⟨⟨mTs_in 672 (by decide +kernel) (by decide +kernel), mTs_in 119 (by decide +kernel) (by decide +kernel), ⟨by decide, by decide⟩, by decide +kernel⟩, mTs_in 670 (by decide +kernel) (by decide +kernel), mTs_in 671 (by decide +kernel) (by decide +kernel)⟩
theorem lkX7_86 : Cond.methodLink RX7 86 yX5_isSquareModulo ∈ mTs := mTs_in 703 (by decide +kernel) (by decide +kernel)
theorem myX5_isSquareModulo : mYS yX5_isSquareModulo cX5_isSquareModulo 7 (some .boolean) 2 := ⟨⟨mTs_in 705 (by decide +kernel) (by decide +kernel), mTs_in 133 (by decide +kernel) (by decide +kernel), ⟨by decide, by decide⟩, by decide +kernel⟩, mTs_in 704 (by decide +kernel) (by decide +kernel)⟩
theorem lkX7_82 : Cond.constantLong RX7 82 (2) ∈ mTs := mTs_in 701 (by decide +kernel) (by decide +kernel)
theorem lkX7_84 : Cond.constantLong RX7 84 (8) ∈ mTs := mTs_in 702 (by decide +kernel) (by decide +kernel)
theorem lkX7_78 : Cond.methodLink RX7 78 yX5_quotient ∈ mTs := mTs_in 695 (by decide +kernel) (by decide +kernel)
theorem lkX7_72 : Cond.methodLink RX7 72 yX5_howOften ∈ mTs := mTs_in 692 (by decide +kernel) (by decide +kernel)
theorem myX5_howOften : mYS yX5_howOften cX5_howOften 6 (some .int) 2 := ⟨⟨mTs_in 694 (by decide +kernel) (by decide +kernel), mTs_in 133 (by decide +kernel) (by decide +kernel), ⟨by decide, by decide⟩, by decide +kernel⟩, mTs_in 693 (by decide +kernel) (by decide +kernel)⟩
theorem lkX7_93 : Cond.methodLink RX7 93 yX7_powerThatIs ∈ mTs := mTs_in 720 (by decide +kernel) (by decide +kernel)
theorem myX7_powerThatIs : mYV yX7_powerThatIs cX7_powerThatIs 7 (some .int) 3 := ⟨⟨mTs_in 723 (by decide +kernel) (by decide +kernel), mTs_in 120 (by decide +kernel) (by decide +kernel), ⟨by decide, by decide⟩, by decide +kernel⟩, mTs_in 722 (by decide +kernel) (by decide +kernel), mTs_in 24 (by decide +kernel) (by decide +kernel)⟩
theorem lkX7_24 : Cond.fieldLink RX7 24 (TX7 3).1 (TX7 3).2.1 (TX7 3).2.2.1 ∈ mTs := mTs_in 236 (by decide +kernel) (by decide +kernel)
theorem fdX7_3 : mFld 6 3 2 4 RX7 TX7 := ⟨rfl, inX7, by decide, rfl, by decide⟩
theorem lkX7_97 : Cond.constantLong RX7 97 (6) ∈ mTs := mTs_in 724 (by decide +kernel) (by decide +kernel)
theorem lkX7_99 : Cond.methodLink RX7 99 yX5_rest ∈ mTs := mTs_in 725 (by decide +kernel) (by decide +kernel)
theorem lkX7_90 : Cond.methodLink RX7 90 yX7_leastGenerator ∈ mTs := mTs_in 716 (by decide +kernel) (by decide +kernel)
theorem myX7_leastGenerator : mYV yX7_leastGenerator cX7_leastGenerator 3 (some .int) 1 := ⟨⟨mTs_in 719 (by decide +kernel) (by decide +kernel), mTs_in 120 (by decide +kernel) (by decide +kernel), ⟨by decide, by decide⟩, by decide +kernel⟩, mTs_in 718 (by decide +kernel) (by decide +kernel), mTs_in 23 (by decide +kernel) (by decide +kernel)⟩
theorem lkX7_102 : Cond.methodLink RX7 102 yX0_sign ∈ mTs := mTs_in 730 (by decide +kernel) (by decide +kernel)
theorem myX0_sign : mYV yX0_sign cX0_sign 3 (some .int) 2 := ⟨⟨mTs_in 733 (by decide +kernel) (by decide +kernel), mTs_in 119 (by decide +kernel) (by decide +kernel), ⟨by decide, by decide⟩, by decide +kernel⟩, mTs_in 731 (by decide +kernel) (by decide +kernel), mTs_in 732 (by decide +kernel) (by decide +kernel)⟩
theorem lkX7_106 : Cond.methodLink RX7 106 yX0_term ∈ mTs := mTs_in 734 (by decide +kernel) (by decide +kernel)
theorem myX0_term : mYV yX0_term cX0_term 3 (some .int) 2 := ⟨⟨mTs_in 737 (by decide +kernel) (by decide +kernel), mTs_in 119 (by decide +kernel) (by decide +kernel), ⟨by decide, by decide⟩, by decide +kernel⟩, mTs_in 735 (by decide +kernel) (by decide +kernel), mTs_in 736 (by decide +kernel) (by decide +kernel)⟩
theorem lkX7_61 : Cond.methodLink RX7 61 yX7_isRamified ∈ mTs := mTs_in 688 (by decide +kernel) (by decide +kernel)
theorem myX7_isRamified : mYV yX7_isRamified cX7_isRamified 12 (some .boolean) 3 := ⟨⟨mTs_in 691 (by decide +kernel) (by decide +kernel), mTs_in 120 (by decide +kernel) (by decide +kernel), ⟨by decide, by decide⟩, by decide +kernel⟩, mTs_in 690 (by decide +kernel) (by decide +kernel), mTs_in 21 (by decide +kernel) (by decide +kernel)⟩
theorem lkX7_65 : Cond.methodLink RX7 65 yX7_reckonCyclic ∈ mTs := mTs_in 712 (by decide +kernel) (by decide +kernel)
theorem myX7_reckonCyclic : mYV yX7_reckonCyclic cX7_reckonCyclic 10 none 3 := ⟨⟨mTs_in 715 (by decide +kernel) (by decide +kernel), mTs_in 120 (by decide +kernel) (by decide +kernel), ⟨by decide, by decide⟩, by decide +kernel⟩, mTs_in 714 (by decide +kernel) (by decide +kernel), mTs_in 22 (by decide +kernel) (by decide +kernel)⟩
theorem lkX7_69 : Cond.methodLink RX7 69 yX7_reckonSum ∈ mTs := mTs_in 726 (by decide +kernel) (by decide +kernel)
theorem myX7_reckonSum : mYV yX7_reckonSum cX7_reckonSum 7 none 2 := ⟨⟨mTs_in 729 (by decide +kernel) (by decide +kernel), mTs_in 120 (by decide +kernel) (by decide +kernel), ⟨by decide, by decide⟩, by decide +kernel⟩, mTs_in 728 (by decide +kernel) (by decide +kernel), mTs_in 25 (by decide +kernel) (by decide +kernel)⟩
theorem lkX7_15 : Cond.fieldLink RX7 15 (TX7 1).1 (TX7 1).2.1 (TX7 1).2.2.1 ∈ mTs := mTs_in 234 (by decide +kernel) (by decide +kernel)
theorem fdX7_1 : mFld 6 1 0 4 RX7 TX7 := ⟨rfl, inX7, by decide, rfl, by decide⟩
theorem lkX7_40 : Cond.methodLink RX7 40 yX7_reckonOne ∈ mTs := mTs_in 684 (by decide +kernel) (by decide +kernel)
theorem myX7_reckonOne : mYV yX7_reckonOne cX7_reckonOne 6 none 2 := ⟨⟨mTs_in 687 (by decide +kernel) (by decide +kernel), mTs_in 120 (by decide +kernel) (by decide +kernel), ⟨by decide, by decide⟩, by decide +kernel⟩, mTs_in 686 (by decide +kernel) (by decide +kernel), mTs_in 20 (by decide +kernel) (by decide +kernel)⟩
theorem lkX7_36 : Cond.methodLink RX7 36 yX7_noteAll ∈ mTs := mTs_in 661 (by decide +kernel) (by decide +kernel)
theorem myX7_noteAll : mYV yX7_noteAll cX7_noteAll 3 none 2 := ⟨⟨mTs_in 664 (by decide +kernel) (by decide +kernel), mTs_in 120 (by decide +kernel) (by decide +kernel), ⟨by decide, by decide⟩, by decide +kernel⟩, mTs_in 663 (by decide +kernel) (by decide +kernel), mTs_in 18 (by decide +kernel) (by decide +kernel)⟩
theorem lkX7_27 : Cond.methodLink RX7 27 yX0_size ∈ mTs := mTs_in 653 (by decide +kernel) (by decide +kernel)
theorem myX0_size : mYV yX0_size cX0_size 1 (some .int) 0 := ⟨⟨mTs_in 656 (by decide +kernel) (by decide +kernel), mTs_in 119 (by decide +kernel) (by decide +kernel), ⟨by decide, by decide⟩, by decide +kernel⟩, mTs_in 654 (by decide +kernel) (by decide +kernel), mTs_in 655 (by decide +kernel) (by decide +kernel)⟩
theorem ptX7_1 : mPut 6 1 0 4 RX7 TX7 tyX7 .int := ⟨fdX7_1, tyX7_ok, nmX7, (by decide +kernel), rfl⟩
theorem lkX7_109 : Cond.methodLink RX7 109 yX5_greatestDivisor ∈ mTs := mTs_in 795 (by decide +kernel) (by decide +kernel)
theorem lkX10_25 : Cond.fieldLink RX10 25 (TX10 4).1 (TX10 4).2.1 (TX10 4).2.2.1 ∈ mTs := mTs_in 162 (by decide +kernel) (by decide +kernel)
theorem fdX10_4 : mFld 9 4 0 5 RX10 TX10 := ⟨rfl, inX10, by decide, rfl, by decide⟩
theorem ptX10_4 : mPut 9 4 0 5 RX10 TX10 tyX10 .int := ⟨fdX10_4, tyX10_ok, nmX10, (by decide +kernel), rfl⟩
theorem lkX10_15 : Cond.fieldLink RX10 15 (TX10 1).1 (TX10 1).2.1 (TX10 1).2.2.1 ∈ mTs := mTs_in 159 (by decide +kernel) (by decide +kernel)
theorem fdX10_1 : mFld 9 1 0 5 RX10 TX10 := ⟨rfl, inX10, by decide, rfl, by decide⟩
theorem lkX10_39 : Cond.methodLink RX10 39 yX10_isDigit ∈ mTs := mTs_in 462 (by decide +kernel) (by decide +kernel)
theorem myX10_isDigit : mYV yX10_isDigit cX10_isDigit 2 (some .boolean) 1 := ⟨⟨mTs_in 465 (by decide +kernel) (by decide +kernel), mTs_in 118 (by decide +kernel) (by decide +kernel), ⟨by decide, by decide⟩, by decide +kernel⟩, mTs_in 464 (by decide +kernel) (by decide +kernel), mTs_in 3 (by decide +kernel) (by decide +kernel)⟩
theorem ptX10_3 : mPut 9 3 0 5 RX10 TX10 tyX10 .int := ⟨fdX10_3, tyX10_ok, nmX10, (by decide +kernel), rfl⟩
theorem lkX10_31 : Cond.methodLink RX10 31 yX10_isLetter ∈ mTs := mTs_in 454 (by decide +kernel) (by decide +kernel)
theorem myX10_isLetter : mYV yX10_isLetter cX10_isLetter 2 (some .boolean) 1 := ⟨⟨mTs_in 457 (by decide +kernel) (by decide +kernel), mTs_in 118 (by decide +kernel) (by decide +kernel), ⟨by decide, by decide⟩, by decide +kernel⟩, mTs_in 456 (by decide +kernel) (by decide +kernel), mTs_in 1 (by decide +kernel) (by decide +kernel)⟩
theorem lkX10_42 : Cond.methodLink RX10 42 yX10_signKind ∈ mTs := mTs_in 466 (by decide +kernel) (by decide +kernel)
theorem myX10_signKind : mYV yX10_signKind cX10_signKind 2 (some .int) 1 := ⟨⟨mTs_in 469 (by decide +kernel) (by decide +kernel), mTs_in 118 (by decide +kernel) (by decide +kernel), ⟨by decide, by decide⟩, by decide +kernel⟩, mTs_in 468 (by decide +kernel) (by decide +kernel), mTs_in 4 (by decide +kernel) (by decide +kernel)⟩
theorem lkX10_35 : Cond.methodLink RX10 35 yX10_takeRun ∈ mTs := mTs_in 458 (by decide +kernel) (by decide +kernel)
theorem myX10_takeRun : mYV yX10_takeRun cX10_takeRun 2 none 1 := ⟨⟨mTs_in 461 (by decide +kernel) (by decide +kernel), mTs_in 118 (by decide +kernel) (by decide +kernel), ⟨by decide, by decide⟩, by decide +kernel⟩, mTs_in 460 (by decide +kernel) (by decide +kernel), mTs_in 2 (by decide +kernel) (by decide +kernel)⟩
theorem ptX10_2 : mPut 9 2 0 5 RX10 TX10 tyX10 .int := ⟨fdX10_2, tyX10_ok, nmX10, (by decide +kernel), rfl⟩
theorem ptX10_1 : mPut 9 1 0 5 RX10 TX10 tyX10 .int := ⟨fdX10_1, tyX10_ok, nmX10, (by decide +kernel), rfl⟩
theorem lkX10_28 : Cond.methodLink RX10 28 yX10_step ∈ mTs := mTs_in 450 (by decide +kernel) (by decide +kernel)
theorem myX10_step : mYV yX10_step cX10_step 1 none 0 := ⟨⟨mTs_in 453 (by decide +kernel) (by decide +kernel), mTs_in 118 (by decide +kernel) (by decide +kernel), ⟨by decide, by decide⟩, by decide +kernel⟩, mTs_in 451 (by decide +kernel) (by decide +kernel), mTs_in 452 (by decide +kernel) (by decide +kernel)⟩
theorem ptX10_0 : mPut 9 0 2 5 RX10 TX10 tyX10 (.array .byte) := ⟨fdX10_0, tyX10_ok, nmX10, (by decide +kernel), rfl⟩
theorem lkX8_12 : Cond.fieldLink RX8 12 (TX8 0).1 (TX8 0).2.1 (TX8 0).2.2.1 ∈ mTs := mTs_in 211 (by decide +kernel) (by decide +kernel)
theorem inX8 : ∀ w ∈ u_ws RX8 TX8 4, w ∈ mTs := mTs_ins _ [215, 217, 219, 221] (by decide +kernel) (by decide +kernel)
theorem fdX8_0 : mFld 7 0 2 4 RX8 TX8 := ⟨rfl, inX8, by decide, rfl, by decide⟩
theorem lkX8_48 : Cond.methodLink RX8 48 yX10_start ∈ mTs := mTs_in 545 (by decide +kernel) (by decide +kernel)
theorem myX10_start : mYV yX10_start cX10_start 1 (some .int) 0 := ⟨⟨mTs_in 548 (by decide +kernel) (by decide +kernel), mTs_in 118 (by decide +kernel) (by decide +kernel), ⟨by decide, by decide⟩, by decide +kernel⟩, mTs_in 546 (by decide +kernel) (by decide +kernel), mTs_in 547 (by decide +kernel) (by decide +kernel)⟩
theorem lkX8_25 : Cond.fieldLink RX8 25 (TX8 2).1 (TX8 2).2.1 (TX8 2).2.2.1 ∈ mTs := mTs_in 213 (by decide +kernel) (by decide +kernel)
theorem fdX8_2 : mFld 7 2 0 4 RX8 TX8 := ⟨rfl, inX8, by decide, rfl, by decide⟩
theorem ptX8_2 : mPut 7 2 0 4 RX8 TX8 tyX8 .int := ⟨fdX8_2, tyX8_ok, nmX8, (by decide +kernel), rfl⟩
theorem dX6_countOfNorm_0 : decode cX6_countOfNorm 0 = .ok (.iload_n 1, 1) := by decide +kernel
theorem dX6_countOfNorm_1 : decode cX6_countOfNorm 1 = .ok (.i2l, 1) := by decide +kernel
theorem dX6_countOfNorm_2 : decode cX6_countOfNorm 2 = .ok (.aload_n 0, 1) := by decide +kernel
theorem dX6_countOfNorm_3 : decode cX6_countOfNorm 3 = .ok (.invokevirtual 72, 3) := by decide +kernel
theorem dX6_countOfNorm_6 : decode cX6_countOfNorm 6 = .ok (.lmul, 1) := by decide +kernel
theorem dX6_countOfNorm_7 : decode cX6_countOfNorm 7 = .ok (.aload_n 0, 1) := by decide +kernel
theorem dX6_countOfNorm_8 : decode cX6_countOfNorm 8 = .ok (.invokevirtual 72, 3) := by decide +kernel
theorem dX6_countOfNorm_11 : decode cX6_countOfNorm 11 = .ok (.lmul, 1) := by decide +kernel
theorem dX6_countOfNorm_12 : decode cX6_countOfNorm 12 = .ok (.lstore_n 2, 1) := by decide +kernel
theorem dX6_countOfNorm_13 : decode cX6_countOfNorm 13 = .ok (.aload_n 0, 1) := by decide +kernel
theorem dX6_countOfNorm_14 : decode cX6_countOfNorm 14 = .ok (.iconst 0, 1) := by decide +kernel
theorem dX6_countOfNorm_15 : decode cX6_countOfNorm 15 = .ok (.invokevirtual 86, 3) := by decide +kernel
theorem dX6_countOfNorm_18 : decode cX6_countOfNorm 18 = .ok (.iconst 0, 1) := by decide +kernel
theorem dX6_countOfNorm_19 : decode cX6_countOfNorm 19 = .ok (.laload, 1) := by decide +kernel
theorem dX6_countOfNorm_20 : decode cX6_countOfNorm 20 = .ok (.lstore 4, 2) := by decide +kernel
theorem dX6_countOfNorm_22 : decode cX6_countOfNorm 22 = .ok (.iconst 0, 1) := by decide +kernel
theorem dX6_countOfNorm_23 : decode cX6_countOfNorm 23 = .ok (.istore 6, 2) := by decide +kernel
theorem dX6_countOfNorm_25 : decode cX6_countOfNorm 25 = .ok (.lload 4, 2) := by decide +kernel
theorem dX6_countOfNorm_27 : decode cX6_countOfNorm 27 = .ok (.lconst 0, 1) := by decide +kernel
theorem dX6_countOfNorm_28 : decode cX6_countOfNorm 28 = .ok (.lcmp, 1) := by decide +kernel
theorem dX6_countOfNorm_29 : decode cX6_countOfNorm 29 = .ok (.ifCond .gt 5, 3) := by decide +kernel
theorem dX6_countOfNorm_32 : decode cX6_countOfNorm 32 = .ok (.iconst 0, 1) := by decide +kernel
theorem dX6_countOfNorm_33 : decode cX6_countOfNorm 33 = .ok (.ireturn, 1) := by decide +kernel
theorem dX6_countOfNorm_34 : decode cX6_countOfNorm 34 = .ok (.lload_n 2, 1) := by decide +kernel
theorem dX6_countOfNorm_35 : decode cX6_countOfNorm 35 = .ok (.invokestatic 87, 3) := by decide +kernel
theorem dX6_countOfNorm_38 : decode cX6_countOfNorm 38 = .ok (.lload 4, 2) := by decide +kernel
theorem dX6_countOfNorm_40 : decode cX6_countOfNorm 40 = .ok (.invokestatic 60, 3) := by decide +kernel
theorem dX6_countOfNorm_43 : decode cX6_countOfNorm 43 = .ok (.lstore 7, 2) := by decide +kernel
theorem dX6_countOfNorm_45 : decode cX6_countOfNorm 45 = .ok (.lload 7, 2) := by decide +kernel
theorem dX6_countOfNorm_47 : decode cX6_countOfNorm 47 = .ok (.lneg, 1) := by decide +kernel
theorem dX6_countOfNorm_48 : decode cX6_countOfNorm 48 = .ok (.lstore 9, 2) := by decide +kernel
theorem dX6_countOfNorm_50 : decode cX6_countOfNorm 50 = .ok (.lload 9, 2) := by decide +kernel
theorem dX6_countOfNorm_52 : decode cX6_countOfNorm 52 = .ok (.lload 7, 2) := by decide +kernel
theorem dX6_countOfNorm_54 : decode cX6_countOfNorm 54 = .ok (.lcmp, 1) := by decide +kernel
theorem dX6_countOfNorm_55 : decode cX6_countOfNorm 55 = .ok (.ifCond .gt 69, 3) := by decide +kernel
theorem dX6_countOfNorm_58 : decode cX6_countOfNorm 58 = .ok (.iconst 0, 1) := by decide +kernel
theorem dX6_countOfNorm_59 : decode cX6_countOfNorm 59 = .ok (.istore 11, 2) := by decide +kernel
theorem dX6_countOfNorm_61 : decode cX6_countOfNorm 61 = .ok (.iload 11, 2) := by decide +kernel
theorem dX6_countOfNorm_63 : decode cX6_countOfNorm 63 = .ok (.iconst 4, 1) := by decide +kernel
theorem dX6_countOfNorm_64 : decode cX6_countOfNorm 64 = .ok (.if_icmp .ge 27, 3) := by decide +kernel
theorem dX6_countOfNorm_67 : decode cX6_countOfNorm 67 = .ok (.aload_n 0, 1) := by decide +kernel
theorem dX6_countOfNorm_68 : decode cX6_countOfNorm 68 = .ok (.getfield 23, 3) := by decide +kernel
theorem dX6_countOfNorm_71 : decode cX6_countOfNorm 71 = .ok (.iload 11, 2) := by decide +kernel
theorem dX6_countOfNorm_73 : decode cX6_countOfNorm 73 = .ok (.lload 9, 2) := by decide +kernel
theorem dX6_countOfNorm_75 : decode cX6_countOfNorm 75 = .ok (.aload_n 0, 1) := by decide +kernel
theorem dX6_countOfNorm_76 : decode cX6_countOfNorm 76 = .ok (.iconst 0, 1) := by decide +kernel
theorem dX6_countOfNorm_77 : decode cX6_countOfNorm 77 = .ok (.invokevirtual 86, 3) := by decide +kernel
theorem dX6_countOfNorm_80 : decode cX6_countOfNorm 80 = .ok (.iload 11, 2) := by decide +kernel
theorem dX6_countOfNorm_82 : decode cX6_countOfNorm 82 = .ok (.laload, 1) := by decide +kernel
theorem dX6_countOfNorm_83 : decode cX6_countOfNorm 83 = .ok (.lmul, 1) := by decide +kernel
theorem dX6_countOfNorm_84 : decode cX6_countOfNorm 84 = .ok (.lastore, 1) := by decide +kernel
theorem dX6_countOfNorm_85 : decode cX6_countOfNorm 85 = .ok (.iinc 11 1, 3) := by decide +kernel
theorem dX6_countOfNorm_88 : decode cX6_countOfNorm 88 = .ok (.goto (-27), 3) := by decide +kernel
theorem dX6_countOfNorm_91 : decode cX6_countOfNorm 91 = .ok (.iload 6, 2) := by decide +kernel
theorem dX6_countOfNorm_93 : decode cX6_countOfNorm 93 = .ok (.aload_n 0, 1) := by decide +kernel
theorem dX6_countOfNorm_94 : decode cX6_countOfNorm 94 = .ok (.lload_n 2, 1) := by decide +kernel
theorem dX6_countOfNorm_95 : decode cX6_countOfNorm 95 = .ok (.aload_n 0, 1) := by decide +kernel
theorem dX6_countOfNorm_96 : decode cX6_countOfNorm 96 = .ok (.getfield 23, 3) := by decide +kernel
theorem dX6_countOfNorm_99 : decode cX6_countOfNorm 99 = .ok (.iconst 0, 1) := by decide +kernel
theorem dX6_countOfNorm_100 : decode cX6_countOfNorm 100 = .ok (.laload, 1) := by decide +kernel
theorem dX6_countOfNorm_101 : decode cX6_countOfNorm 101 = .ok (.aload_n 0, 1) := by decide +kernel
theorem dX6_countOfNorm_102 : decode cX6_countOfNorm 102 = .ok (.getfield 23, 3) := by decide +kernel
theorem dX6_countOfNorm_105 : decode cX6_countOfNorm 105 = .ok (.iconst 0, 1) := by decide +kernel
theorem dX6_countOfNorm_106 : decode cX6_countOfNorm 106 = .ok (.laload, 1) := by decide +kernel
theorem dX6_countOfNorm_107 : decode cX6_countOfNorm 107 = .ok (.lmul, 1) := by decide +kernel
theorem dX6_countOfNorm_108 : decode cX6_countOfNorm 108 = .ok (.lsub, 1) := by decide +kernel
theorem dX6_countOfNorm_109 : decode cX6_countOfNorm 109 = .ok (.invokevirtual 90, 3) := by decide +kernel
theorem dX6_countOfNorm_112 : decode cX6_countOfNorm 112 = .ok (.iadd, 1) := by decide +kernel
theorem dX6_countOfNorm_113 : decode cX6_countOfNorm 113 = .ok (.istore 6, 2) := by decide +kernel
theorem dX6_countOfNorm_115 : decode cX6_countOfNorm 115 = .ok (.lload 9, 2) := by decide +kernel
theorem dX6_countOfNorm_117 : decode cX6_countOfNorm 117 = .ok (.lconst 1, 1) := by decide +kernel
theorem dX6_countOfNorm_118 : decode cX6_countOfNorm 118 = .ok (.ladd, 1) := by decide +kernel
theorem dX6_countOfNorm_119 : decode cX6_countOfNorm 119 = .ok (.lstore 9, 2) := by decide +kernel
theorem dX6_countOfNorm_121 : decode cX6_countOfNorm 121 = .ok (.goto (-71), 3) := by decide +kernel
theorem dX6_countOfNorm_124 : decode cX6_countOfNorm 124 = .ok (.iload 6, 2) := by decide +kernel
theorem dX6_countOfNorm_126 : decode cX6_countOfNorm 126 = .ok (.ireturn, 1) := by decide +kernel
theorem dX7_note_0 : decode cX7_note 0 = .ok (.iconst 0, 1) := by decide +kernel
theorem dX7_note_1 : decode cX7_note 1 = .ok (.istore_n 2, 1) := by decide +kernel
theorem dX7_note_2 : decode cX7_note 2 = .ok (.iload_n 2, 1) := by decide +kernel
theorem dX7_note_3 : decode cX7_note 3 = .ok (.aload_n 0, 1) := by decide +kernel
theorem dX7_note_4 : decode cX7_note 4 = .ok (.getfield 9, 3) := by decide +kernel
theorem dX7_note_7 : decode cX7_note 7 = .ok (.if_icmp .ge 19, 3) := by decide +kernel
theorem dX7_note_10 : decode cX7_note 10 = .ok (.aload_n 0, 1) := by decide +kernel
theorem dX7_note_11 : decode cX7_note 11 = .ok (.getfield 18, 3) := by decide +kernel
theorem dX7_note_14 : decode cX7_note 14 = .ok (.iload_n 2, 1) := by decide +kernel
theorem dX7_note_15 : decode cX7_note 15 = .ok (.iaload, 1) := by decide +kernel
theorem dX7_note_16 : decode cX7_note 16 = .ok (.iload_n 1, 1) := by decide +kernel
theorem dX7_note_17 : decode cX7_note 17 = .ok (.if_icmp .ge 9, 3) := by decide +kernel
theorem dX7_note_20 : decode cX7_note 20 = .ok (.iinc 2 1, 3) := by decide +kernel
theorem dX7_note_23 : decode cX7_note 23 = .ok (.goto (-21), 3) := by decide +kernel
theorem dX7_note_26 : decode cX7_note 26 = .ok (.aload_n 0, 1) := by decide +kernel
theorem dX7_note_27 : decode cX7_note 27 = .ok (.getfield 9, 3) := by decide +kernel
theorem dX7_note_30 : decode cX7_note 30 = .ok (.bipush 64, 2) := by decide +kernel
theorem dX7_note_32 : decode cX7_note 32 = .ok (.if_icmp .ge 21, 3) := by decide +kernel
theorem dX7_note_35 : decode cX7_note 35 = .ok (.iload_n 2, 1) := by decide +kernel
theorem dX7_note_36 : decode cX7_note 36 = .ok (.aload_n 0, 1) := by decide +kernel
theorem dX7_note_37 : decode cX7_note 37 = .ok (.getfield 9, 3) := by decide +kernel
theorem dX7_note_40 : decode cX7_note 40 = .ok (.if_icmp .ge 14, 3) := by decide +kernel
theorem dX7_note_43 : decode cX7_note 43 = .ok (.aload_n 0, 1) := by decide +kernel
theorem dX7_note_44 : decode cX7_note 44 = .ok (.getfield 18, 3) := by decide +kernel
theorem dX7_note_47 : decode cX7_note 47 = .ok (.iload_n 2, 1) := by decide +kernel
theorem dX7_note_48 : decode cX7_note 48 = .ok (.iaload, 1) := by decide +kernel
theorem dX7_note_49 : decode cX7_note 49 = .ok (.iload_n 1, 1) := by decide +kernel
theorem dX7_note_50 : decode cX7_note 50 = .ok (.if_icmp .ne 4, 3) := by decide +kernel
theorem dX7_note_53 : decode cX7_note 53 = .ok (.return_, 1) := by decide +kernel
theorem dX7_note_54 : decode cX7_note 54 = .ok (.aload_n 0, 1) := by decide +kernel
theorem dX7_note_55 : decode cX7_note 55 = .ok (.getfield 9, 3) := by decide +kernel
theorem dX7_note_58 : decode cX7_note 58 = .ok (.istore_n 3, 1) := by decide +kernel
theorem dX7_note_59 : decode cX7_note 59 = .ok (.iload_n 3, 1) := by decide +kernel
theorem dX7_note_60 : decode cX7_note 60 = .ok (.iload_n 2, 1) := by decide +kernel
theorem dX7_note_61 : decode cX7_note 61 = .ok (.if_icmp .le 23, 3) := by decide +kernel
theorem dX7_note_64 : decode cX7_note 64 = .ok (.aload_n 0, 1) := by decide +kernel
theorem dX7_note_65 : decode cX7_note 65 = .ok (.getfield 18, 3) := by decide +kernel
theorem dX7_note_68 : decode cX7_note 68 = .ok (.iload_n 3, 1) := by decide +kernel
theorem dX7_note_69 : decode cX7_note 69 = .ok (.aload_n 0, 1) := by decide +kernel
theorem dX7_note_70 : decode cX7_note 70 = .ok (.getfield 18, 3) := by decide +kernel
theorem dX7_note_73 : decode cX7_note 73 = .ok (.iload_n 3, 1) := by decide +kernel
theorem dX7_note_74 : decode cX7_note 74 = .ok (.iconst 1, 1) := by decide +kernel
theorem dX7_note_75 : decode cX7_note 75 = .ok (.isub, 1) := by decide +kernel
theorem dX7_note_76 : decode cX7_note 76 = .ok (.iaload, 1) := by decide +kernel
theorem dX7_note_77 : decode cX7_note 77 = .ok (.iastore, 1) := by decide +kernel
theorem dX7_note_78 : decode cX7_note 78 = .ok (.iinc 3 (-1), 3) := by decide +kernel
theorem dX7_note_81 : decode cX7_note 81 = .ok (.goto (-22), 3) := by decide +kernel
theorem dX7_note_84 : decode cX7_note 84 = .ok (.aload_n 0, 1) := by decide +kernel
theorem dX7_note_85 : decode cX7_note 85 = .ok (.getfield 18, 3) := by decide +kernel
theorem dX7_note_88 : decode cX7_note 88 = .ok (.iload_n 2, 1) := by decide +kernel
theorem dX7_note_89 : decode cX7_note 89 = .ok (.iload_n 1, 1) := by decide +kernel
theorem dX7_note_90 : decode cX7_note 90 = .ok (.iastore, 1) := by decide +kernel
theorem dX7_note_91 : decode cX7_note 91 = .ok (.aload_n 0, 1) := by decide +kernel
theorem dX7_note_92 : decode cX7_note 92 = .ok (.dup, 1) := by decide +kernel
theorem dX7_note_93 : decode cX7_note 93 = .ok (.getfield 9, 3) := by decide +kernel
theorem dX7_note_96 : decode cX7_note 96 = .ok (.iconst 1, 1) := by decide +kernel
theorem dX7_note_97 : decode cX7_note 97 = .ok (.iadd, 1) := by decide +kernel
theorem dX7_note_98 : decode cX7_note 98 = .ok (.putfield 9, 3) := by decide +kernel
theorem dX7_note_101 : decode cX7_note 101 = .ok (.return_, 1) := by decide +kernel
theorem dX7_noteDivisors_0 : decode cX7_noteDivisors 0 = .ok (.iload_n 1, 1) := by decide +kernel
theorem dX7_noteDivisors_1 : decode cX7_noteDivisors 1 = .ok (.invokestatic 56, 3) := by decide +kernel
theorem dX7_noteDivisors_4 : decode cX7_noteDivisors 4 = .ok (.istore_n 2, 1) := by decide +kernel
theorem dX7_noteDivisors_5 : decode cX7_noteDivisors 5 = .ok (.iconst 2, 1) := by decide +kernel
theorem dX7_noteDivisors_6 : decode cX7_noteDivisors 6 = .ok (.istore_n 3, 1) := by decide +kernel
theorem dX7_noteDivisors_7 : decode cX7_noteDivisors 7 = .ok (.iload_n 3, 1) := by decide +kernel
theorem dX7_noteDivisors_8 : decode cX7_noteDivisors 8 = .ok (.sipush 999, 3) := by decide +kernel
theorem dX7_noteDivisors_11 : decode cX7_noteDivisors 11 = .ok (.if_icmp .gt 51, 3) := by decide +kernel
theorem dX7_noteDivisors_14 : decode cX7_noteDivisors 14 = .ok (.iload_n 2, 1) := by decide +kernel
theorem dX7_noteDivisors_15 : decode cX7_noteDivisors 15 = .ok (.iconst 1, 1) := by decide +kernel
theorem dX7_noteDivisors_16 : decode cX7_noteDivisors 16 = .ok (.if_icmp .le 46, 3) := by decide +kernel
theorem dX7_noteDivisors_19 : decode cX7_noteDivisors 19 = .ok (.iload_n 2, 1) := by decide +kernel
theorem dX7_noteDivisors_20 : decode cX7_noteDivisors 20 = .ok (.iload_n 3, 1) := by decide +kernel
theorem dX7_noteDivisors_21 : decode cX7_noteDivisors 21 = .ok (.irem, 1) := by decide +kernel
theorem dX7_noteDivisors_22 : decode cX7_noteDivisors 22 = .ok (.ifCond .ne 8, 3) := by decide +kernel
theorem dX7_noteDivisors_25 : decode cX7_noteDivisors 25 = .ok (.aload_n 0, 1) := by decide +kernel
theorem dX7_noteDivisors_26 : decode cX7_noteDivisors 26 = .ok (.iload_n 3, 1) := by decide +kernel
theorem dX7_noteDivisors_27 : decode cX7_noteDivisors 27 = .ok (.invokevirtual 32, 3) := by decide +kernel
theorem dX7_noteDivisors_30 : decode cX7_noteDivisors 30 = .ok (.iconst 0, 1) := by decide +kernel
theorem dX7_noteDivisors_31 : decode cX7_noteDivisors 31 = .ok (.istore 4, 2) := by decide +kernel
theorem dX7_noteDivisors_33 : decode cX7_noteDivisors 33 = .ok (.iload 4, 2) := by decide +kernel
theorem dX7_noteDivisors_35 : decode cX7_noteDivisors 35 = .ok (.bipush 32, 2) := by decide +kernel
theorem dX7_noteDivisors_37 : decode cX7_noteDivisors 37 = .ok (.if_icmp .ge 19, 3) := by decide +kernel
theorem dX7_noteDivisors_40 : decode cX7_noteDivisors 40 = .ok (.iload_n 2, 1) := by decide +kernel
theorem dX7_noteDivisors_41 : decode cX7_noteDivisors 41 = .ok (.iload_n 3, 1) := by decide +kernel
theorem dX7_noteDivisors_42 : decode cX7_noteDivisors 42 = .ok (.irem, 1) := by decide +kernel
theorem dX7_noteDivisors_43 : decode cX7_noteDivisors 43 = .ok (.ifCond .ne 13, 3) := by decide +kernel
theorem dX7_noteDivisors_46 : decode cX7_noteDivisors 46 = .ok (.iload_n 2, 1) := by decide +kernel
theorem dX7_noteDivisors_47 : decode cX7_noteDivisors 47 = .ok (.iload_n 3, 1) := by decide +kernel
theorem dX7_noteDivisors_48 : decode cX7_noteDivisors 48 = .ok (.idiv, 1) := by decide +kernel
theorem dX7_noteDivisors_49 : decode cX7_noteDivisors 49 = .ok (.istore_n 2, 1) := by decide +kernel
theorem dX7_noteDivisors_50 : decode cX7_noteDivisors 50 = .ok (.iinc 4 1, 3) := by decide +kernel
theorem dX7_noteDivisors_53 : decode cX7_noteDivisors 53 = .ok (.goto (-20), 3) := by decide +kernel
theorem dX7_noteDivisors_56 : decode cX7_noteDivisors 56 = .ok (.iinc 3 1, 3) := by decide +kernel
theorem dX7_noteDivisors_59 : decode cX7_noteDivisors 59 = .ok (.goto (-52), 3) := by decide +kernel
theorem dX7_noteDivisors_62 : decode cX7_noteDivisors 62 = .ok (.return_, 1) := by decide +kernel
theorem dX7_noteAll_0 : decode cX7_noteAll 0 = .ok (.aload_n 1, 1) := by decide +kernel
theorem dX7_noteAll_1 : decode cX7_noteAll 1 = .ok (.iload_n 2, 1) := by decide +kernel
theorem dX7_noteAll_2 : decode cX7_noteAll 2 = .ok (.invokevirtual 43, 3) := by decide +kernel
theorem dX7_noteAll_5 : decode cX7_noteAll 5 = .ok (.iconst 2, 1) := by decide +kernel
theorem dX7_noteAll_6 : decode cX7_noteAll 6 = .ok (.if_icmp .ne 4, 3) := by decide +kernel
theorem dX7_noteAll_9 : decode cX7_noteAll 9 = .ok (.return_, 1) := by decide +kernel
theorem dX7_noteAll_10 : decode cX7_noteAll 10 = .ok (.aload_n 1, 1) := by decide +kernel
theorem dX7_noteAll_11 : decode cX7_noteAll 11 = .ok (.iload_n 2, 1) := by decide +kernel
theorem dX7_noteAll_12 : decode cX7_noteAll 12 = .ok (.invokevirtual 43, 3) := by decide +kernel
theorem dX7_noteAll_15 : decode cX7_noteAll 15 = .ok (.iconst 1, 1) := by decide +kernel
theorem dX7_noteAll_16 : decode cX7_noteAll 16 = .ok (.if_icmp .ne 15, 3) := by decide +kernel
theorem dX7_noteAll_19 : decode cX7_noteAll 19 = .ok (.aload_n 0, 1) := by decide +kernel
theorem dX7_noteAll_20 : decode cX7_noteAll 20 = .ok (.aload_n 1, 1) := by decide +kernel
theorem dX7_noteAll_21 : decode cX7_noteAll 21 = .ok (.iload_n 2, 1) := by decide +kernel
theorem dX7_noteAll_22 : decode cX7_noteAll 22 = .ok (.invokevirtual 47, 3) := by decide +kernel
theorem dX7_noteAll_25 : decode cX7_noteAll 25 = .ok (.invokevirtual 32, 3) := by decide +kernel
theorem dX7_noteAll_28 : decode cX7_noteAll 28 = .ok (.goto 12, 3) := by decide +kernel
theorem dX7_noteAll_31 : decode cX7_noteAll 31 = .ok (.aload_n 0, 1) := by decide +kernel
theorem dX7_noteAll_32 : decode cX7_noteAll 32 = .ok (.aload_n 1, 1) := by decide +kernel
theorem dX7_noteAll_33 : decode cX7_noteAll 33 = .ok (.iload_n 2, 1) := by decide +kernel
theorem dX7_noteAll_34 : decode cX7_noteAll 34 = .ok (.invokevirtual 47, 3) := by decide +kernel
theorem dX7_noteAll_37 : decode cX7_noteAll 37 = .ok (.invokevirtual 50, 3) := by decide +kernel
theorem dX7_noteAll_40 : decode cX7_noteAll 40 = .ok (.aload_n 0, 1) := by decide +kernel
theorem dX7_noteAll_41 : decode cX7_noteAll 41 = .ok (.aload_n 1, 1) := by decide +kernel
theorem dX7_noteAll_42 : decode cX7_noteAll 42 = .ok (.iload_n 2, 1) := by decide +kernel
theorem dX7_noteAll_43 : decode cX7_noteAll 43 = .ok (.invokevirtual 53, 3) := by decide +kernel
theorem dX7_noteAll_46 : decode cX7_noteAll 46 = .ok (.invokevirtual 50, 3) := by decide +kernel
theorem dX7_noteAll_49 : decode cX7_noteAll 49 = .ok (.return_, 1) := by decide +kernel
theorem dX7_isRamified_0 : decode cX7_isRamified 0 = .ok (.iload_n 3, 1) := by decide +kernel
theorem dX7_isRamified_1 : decode cX7_isRamified 1 = .ok (.ifCond .ne 17, 3) := by decide +kernel
theorem dX7_isRamified_4 : decode cX7_isRamified 4 = .ok (.iload_n 1, 1) := by decide +kernel
theorem dX7_isRamified_5 : decode cX7_isRamified 5 = .ok (.ifCond .ge 11, 3) := by decide +kernel
theorem dX7_isRamified_8 : decode cX7_isRamified 8 = .ok (.iload_n 2, 1) := by decide +kernel
theorem dX7_isRamified_9 : decode cX7_isRamified 9 = .ok (.ifCond .ge 7, 3) := by decide +kernel
theorem dX7_isRamified_12 : decode cX7_isRamified 12 = .ok (.iconst 1, 1) := by decide +kernel
theorem dX7_isRamified_13 : decode cX7_isRamified 13 = .ok (.goto 4, 3) := by decide +kernel
theorem dX7_isRamified_16 : decode cX7_isRamified 16 = .ok (.iconst 0, 1) := by decide +kernel
theorem dX7_isRamified_17 : decode cX7_isRamified 17 = .ok (.ireturn, 1) := by decide +kernel
theorem dX7_isRamified_18 : decode cX7_isRamified 18 = .ok (.iload_n 3, 1) := by decide +kernel
theorem dX7_isRamified_19 : decode cX7_isRamified 19 = .ok (.iload_n 1, 1) := by decide +kernel
theorem dX7_isRamified_20 : decode cX7_isRamified 20 = .ok (.i2l, 1) := by decide +kernel
theorem dX7_isRamified_21 : decode cX7_isRamified 21 = .ok (.invokestatic 72, 3) := by decide +kernel
theorem dX7_isRamified_24 : decode cX7_isRamified 24 = .ok (.istore 4, 2) := by decide +kernel
theorem dX7_isRamified_26 : decode cX7_isRamified 26 = .ok (.iload_n 3, 1) := by decide +kernel
theorem dX7_isRamified_27 : decode cX7_isRamified 27 = .ok (.iload_n 2, 1) := by decide +kernel
theorem dX7_isRamified_28 : decode cX7_isRamified 28 = .ok (.i2l, 1) := by decide +kernel
theorem dX7_isRamified_29 : decode cX7_isRamified 29 = .ok (.invokestatic 72, 3) := by decide +kernel
theorem dX7_isRamified_32 : decode cX7_isRamified 32 = .ok (.istore 5, 2) := by decide +kernel
theorem dX7_isRamified_34 : decode cX7_isRamified 34 = .ok (.iload 4, 2) := by decide +kernel
theorem dX7_isRamified_36 : decode cX7_isRamified 36 = .ok (.iconst 1, 1) := by decide +kernel
theorem dX7_isRamified_37 : decode cX7_isRamified 37 = .ok (.if_icmp .ne 13, 3) := by decide +kernel
theorem dX7_isRamified_40 : decode cX7_isRamified 40 = .ok (.iload_n 1, 1) := by decide +kernel
theorem dX7_isRamified_41 : decode cX7_isRamified 41 = .ok (.i2l, 1) := by decide +kernel
theorem dX7_isRamified_42 : decode cX7_isRamified 42 = .ok (.iload_n 3, 1) := by decide +kernel
theorem dX7_isRamified_43 : decode cX7_isRamified 43 = .ok (.i2l, 1) := by decide +kernel
theorem dX7_isRamified_44 : decode cX7_isRamified 44 = .ok (.invokestatic 78, 3) := by decide +kernel
theorem dX7_isRamified_47 : decode cX7_isRamified 47 = .ok (.goto 5, 3) := by decide +kernel
theorem dX7_isRamified_50 : decode cX7_isRamified 50 = .ok (.iload_n 1, 1) := by decide +kernel
theorem dX7_isRamified_51 : decode cX7_isRamified 51 = .ok (.i2l, 1) := by decide +kernel
theorem dX7_isRamified_52 : decode cX7_isRamified 52 = .ok (.lstore 6, 2) := by decide +kernel
theorem dX7_isRamified_54 : decode cX7_isRamified 54 = .ok (.iload 5, 2) := by decide +kernel
theorem dX7_isRamified_56 : decode cX7_isRamified 56 = .ok (.iconst 1, 1) := by decide +kernel
theorem dX7_isRamified_57 : decode cX7_isRamified 57 = .ok (.if_icmp .ne 13, 3) := by decide +kernel
theorem dX7_isRamified_60 : decode cX7_isRamified 60 = .ok (.iload_n 2, 1) := by decide +kernel
theorem dX7_isRamified_61 : decode cX7_isRamified 61 = .ok (.i2l, 1) := by decide +kernel
theorem dX7_isRamified_62 : decode cX7_isRamified 62 = .ok (.iload_n 3, 1) := by decide +kernel
theorem dX7_isRamified_63 : decode cX7_isRamified 63 = .ok (.i2l, 1) := by decide +kernel
theorem dX7_isRamified_64 : decode cX7_isRamified 64 = .ok (.invokestatic 78, 3) := by decide +kernel
theorem dX7_isRamified_67 : decode cX7_isRamified 67 = .ok (.goto 5, 3) := by decide +kernel
theorem dX7_isRamified_70 : decode cX7_isRamified 70 = .ok (.iload_n 2, 1) := by decide +kernel
theorem dX7_isRamified_71 : decode cX7_isRamified 71 = .ok (.i2l, 1) := by decide +kernel
theorem dX7_isRamified_72 : decode cX7_isRamified 72 = .ok (.lstore 8, 2) := by decide +kernel
theorem dX7_isRamified_74 : decode cX7_isRamified 74 = .ok (.iload_n 3, 1) := by decide +kernel
theorem dX7_isRamified_75 : decode cX7_isRamified 75 = .ok (.iconst 2, 1) := by decide +kernel
theorem dX7_isRamified_76 : decode cX7_isRamified 76 = .ok (.if_icmp .ne 71, 3) := by decide +kernel
theorem dX7_isRamified_79 : decode cX7_isRamified 79 = .ok (.lload 6, 2) := by decide +kernel
theorem dX7_isRamified_81 : decode cX7_isRamified 81 = .ok (.lconst 1, 1) := by decide +kernel
theorem dX7_isRamified_82 : decode cX7_isRamified 82 = .ok (.lsub, 1) := by decide +kernel
theorem dX7_isRamified_83 : decode cX7_isRamified 83 = .ok (.ldc2_w 82, 3) := by decide +kernel
theorem dX7_isRamified_86 : decode cX7_isRamified 86 = .ok (.ldiv, 1) := by decide +kernel
theorem dX7_isRamified_87 : decode cX7_isRamified 87 = .ok (.lload 8, 2) := by decide +kernel
theorem dX7_isRamified_89 : decode cX7_isRamified 89 = .ok (.lconst 1, 1) := by decide +kernel
theorem dX7_isRamified_90 : decode cX7_isRamified 90 = .ok (.lsub, 1) := by decide +kernel
theorem dX7_isRamified_91 : decode cX7_isRamified 91 = .ok (.ldc2_w 82, 3) := by decide +kernel
theorem dX7_isRamified_94 : decode cX7_isRamified 94 = .ok (.ldiv, 1) := by decide +kernel
theorem dX7_isRamified_95 : decode cX7_isRamified 95 = .ok (.lmul, 1) := by decide +kernel
theorem dX7_isRamified_96 : decode cX7_isRamified 96 = .ok (.iload 4, 2) := by decide +kernel
theorem dX7_isRamified_98 : decode cX7_isRamified 98 = .ok (.i2l, 1) := by decide +kernel
theorem dX7_isRamified_99 : decode cX7_isRamified 99 = .ok (.lload 8, 2) := by decide +kernel
theorem dX7_isRamified_101 : decode cX7_isRamified 101 = .ok (.lload 8, 2) := by decide +kernel
theorem dX7_isRamified_103 : decode cX7_isRamified 103 = .ok (.lmul, 1) := by decide +kernel
theorem dX7_isRamified_104 : decode cX7_isRamified 104 = .ok (.lconst 1, 1) := by decide +kernel
theorem dX7_isRamified_105 : decode cX7_isRamified 105 = .ok (.lsub, 1) := by decide +kernel
theorem dX7_isRamified_106 : decode cX7_isRamified 106 = .ok (.ldc2_w 84, 3) := by decide +kernel
theorem dX7_isRamified_109 : decode cX7_isRamified 109 = .ok (.ldiv, 1) := by decide +kernel
theorem dX7_isRamified_110 : decode cX7_isRamified 110 = .ok (.lmul, 1) := by decide +kernel
theorem dX7_isRamified_111 : decode cX7_isRamified 111 = .ok (.ladd, 1) := by decide +kernel
theorem dX7_isRamified_112 : decode cX7_isRamified 112 = .ok (.iload 5, 2) := by decide +kernel
theorem dX7_isRamified_114 : decode cX7_isRamified 114 = .ok (.i2l, 1) := by decide +kernel
theorem dX7_isRamified_115 : decode cX7_isRamified 115 = .ok (.lload 6, 2) := by decide +kernel
theorem dX7_isRamified_117 : decode cX7_isRamified 117 = .ok (.lload 6, 2) := by decide +kernel
theorem dX7_isRamified_119 : decode cX7_isRamified 119 = .ok (.lmul, 1) := by decide +kernel
theorem dX7_isRamified_120 : decode cX7_isRamified 120 = .ok (.lconst 1, 1) := by decide +kernel
theorem dX7_isRamified_121 : decode cX7_isRamified 121 = .ok (.lsub, 1) := by decide +kernel
theorem dX7_isRamified_122 : decode cX7_isRamified 122 = .ok (.ldc2_w 84, 3) := by decide +kernel
theorem dX7_isRamified_125 : decode cX7_isRamified 125 = .ok (.ldiv, 1) := by decide +kernel
theorem dX7_isRamified_126 : decode cX7_isRamified 126 = .ok (.lmul, 1) := by decide +kernel
theorem dX7_isRamified_127 : decode cX7_isRamified 127 = .ok (.ladd, 1) := by decide +kernel
theorem dX7_isRamified_128 : decode cX7_isRamified 128 = .ok (.lstore 10, 2) := by decide +kernel
theorem dX7_isRamified_130 : decode cX7_isRamified 130 = .ok (.lload 10, 2) := by decide +kernel
theorem dX7_isRamified_132 : decode cX7_isRamified 132 = .ok (.ldc2_w 82, 3) := by decide +kernel
theorem dX7_isRamified_135 : decode cX7_isRamified 135 = .ok (.lrem, 1) := by decide +kernel
theorem dX7_isRamified_136 : decode cX7_isRamified 136 = .ok (.lconst 0, 1) := by decide +kernel
theorem dX7_isRamified_137 : decode cX7_isRamified 137 = .ok (.lcmp, 1) := by decide +kernel
theorem dX7_isRamified_138 : decode cX7_isRamified 138 = .ok (.ifCond .eq 7, 3) := by decide +kernel
theorem dX7_isRamified_141 : decode cX7_isRamified 141 = .ok (.iconst 1, 1) := by decide +kernel
theorem dX7_isRamified_142 : decode cX7_isRamified 142 = .ok (.goto 4, 3) := by decide +kernel
theorem dX7_isRamified_145 : decode cX7_isRamified 145 = .ok (.iconst 0, 1) := by decide +kernel
theorem dX7_isRamified_146 : decode cX7_isRamified 146 = .ok (.ireturn, 1) := by decide +kernel
theorem dX7_isRamified_147 : decode cX7_isRamified 147 = .ok (.iload 4, 2) := by decide +kernel
theorem dX7_isRamified_149 : decode cX7_isRamified 149 = .ok (.iconst 1, 1) := by decide +kernel
theorem dX7_isRamified_150 : decode cX7_isRamified 150 = .ok (.if_icmp .ne 24, 3) := by decide +kernel
theorem dX7_isRamified_153 : decode cX7_isRamified 153 = .ok (.iload 5, 2) := by decide +kernel
theorem dX7_isRamified_155 : decode cX7_isRamified 155 = .ok (.iconst 1, 1) := by decide +kernel
theorem dX7_isRamified_156 : decode cX7_isRamified 156 = .ok (.if_icmp .ne 18, 3) := by decide +kernel
theorem dX7_isRamified_159 : decode cX7_isRamified 159 = .ok (.iload_n 3, 1) := by decide +kernel
theorem dX7_isRamified_160 : decode cX7_isRamified 160 = .ok (.iconst 1, 1) := by decide +kernel
theorem dX7_isRamified_161 : decode cX7_isRamified 161 = .ok (.isub, 1) := by decide +kernel
theorem dX7_isRamified_162 : decode cX7_isRamified 162 = .ok (.iconst 2, 1) := by decide +kernel
theorem dX7_isRamified_163 : decode cX7_isRamified 163 = .ok (.idiv, 1) := by decide +kernel
theorem dX7_isRamified_164 : decode cX7_isRamified 164 = .ok (.iconst 2, 1) := by decide +kernel
theorem dX7_isRamified_165 : decode cX7_isRamified 165 = .ok (.irem, 1) := by decide +kernel
theorem dX7_isRamified_166 : decode cX7_isRamified 166 = .ok (.iconst 1, 1) := by decide +kernel
theorem dX7_isRamified_167 : decode cX7_isRamified 167 = .ok (.if_icmp .ne 7, 3) := by decide +kernel
theorem dX7_isRamified_170 : decode cX7_isRamified 170 = .ok (.iconst 1, 1) := by decide +kernel
theorem dX7_isRamified_171 : decode cX7_isRamified 171 = .ok (.goto 4, 3) := by decide +kernel
theorem dX7_isRamified_174 : decode cX7_isRamified 174 = .ok (.iconst 0, 1) := by decide +kernel
theorem dX7_isRamified_175 : decode cX7_isRamified 175 = .ok (.istore 10, 2) := by decide +kernel
theorem dX7_isRamified_177 : decode cX7_isRamified 177 = .ok (.iload 5, 2) := by decide +kernel
theorem dX7_isRamified_179 : decode cX7_isRamified 179 = .ok (.iconst 1, 1) := by decide +kernel
theorem dX7_isRamified_180 : decode cX7_isRamified 180 = .ok (.if_icmp .ne 24, 3) := by decide +kernel
theorem dX7_isRamified_183 : decode cX7_isRamified 183 = .ok (.lload 6, 2) := by decide +kernel
theorem dX7_isRamified_185 : decode cX7_isRamified 185 = .ok (.iload_n 3, 1) := by decide +kernel
theorem dX7_isRamified_186 : decode cX7_isRamified 186 = .ok (.invokestatic 86, 3) := by decide +kernel
theorem dX7_isRamified_189 : decode cX7_isRamified 189 = .ok (.ifCond .ne 15, 3) := by decide +kernel
theorem dX7_isRamified_192 : decode cX7_isRamified 192 = .ok (.iload 10, 2) := by decide +kernel
theorem dX7_isRamified_194 : decode cX7_isRamified 194 = .ok (.ifCond .ne 7, 3) := by decide +kernel
theorem dX7_isRamified_197 : decode cX7_isRamified 197 = .ok (.iconst 1, 1) := by decide +kernel
theorem dX7_isRamified_198 : decode cX7_isRamified 198 = .ok (.goto 4, 3) := by decide +kernel
theorem dX7_isRamified_201 : decode cX7_isRamified 201 = .ok (.iconst 0, 1) := by decide +kernel
theorem dX7_isRamified_202 : decode cX7_isRamified 202 = .ok (.istore 10, 2) := by decide +kernel
theorem dX7_isRamified_204 : decode cX7_isRamified 204 = .ok (.iload 4, 2) := by decide +kernel
theorem dX7_isRamified_206 : decode cX7_isRamified 206 = .ok (.iconst 1, 1) := by decide +kernel
theorem dX7_isRamified_207 : decode cX7_isRamified 207 = .ok (.if_icmp .ne 24, 3) := by decide +kernel
theorem dX7_isRamified_210 : decode cX7_isRamified 210 = .ok (.lload 8, 2) := by decide +kernel
theorem dX7_isRamified_212 : decode cX7_isRamified 212 = .ok (.iload_n 3, 1) := by decide +kernel
theorem dX7_isRamified_213 : decode cX7_isRamified 213 = .ok (.invokestatic 86, 3) := by decide +kernel
theorem dX7_isRamified_216 : decode cX7_isRamified 216 = .ok (.ifCond .ne 15, 3) := by decide +kernel
theorem dX7_isRamified_219 : decode cX7_isRamified 219 = .ok (.iload 10, 2) := by decide +kernel
theorem dX7_isRamified_221 : decode cX7_isRamified 221 = .ok (.ifCond .ne 7, 3) := by decide +kernel
theorem dX7_isRamified_224 : decode cX7_isRamified 224 = .ok (.iconst 1, 1) := by decide +kernel
theorem dX7_isRamified_225 : decode cX7_isRamified 225 = .ok (.goto 4, 3) := by decide +kernel
theorem dX7_isRamified_228 : decode cX7_isRamified 228 = .ok (.iconst 0, 1) := by decide +kernel
theorem dX7_isRamified_229 : decode cX7_isRamified 229 = .ok (.istore 10, 2) := by decide +kernel
theorem dX7_isRamified_231 : decode cX7_isRamified 231 = .ok (.iload 10, 2) := by decide +kernel
theorem dX7_isRamified_233 : decode cX7_isRamified 233 = .ok (.ireturn, 1) := by decide +kernel
theorem dX7_powerThatIs_0 : decode cX7_powerThatIs 0 = .ok (.lconst 1, 1) := by decide +kernel
theorem dX7_powerThatIs_1 : decode cX7_powerThatIs 1 = .ok (.lstore 4, 2) := by decide +kernel
theorem dX7_powerThatIs_3 : decode cX7_powerThatIs 3 = .ok (.iconst 1, 1) := by decide +kernel
theorem dX7_powerThatIs_4 : decode cX7_powerThatIs 4 = .ok (.istore 6, 2) := by decide +kernel
theorem dX7_powerThatIs_6 : decode cX7_powerThatIs 6 = .ok (.iload 6, 2) := by decide +kernel
theorem dX7_powerThatIs_8 : decode cX7_powerThatIs 8 = .ok (.iload_n 3, 1) := by decide +kernel
theorem dX7_powerThatIs_9 : decode cX7_powerThatIs 9 = .ok (.if_icmp .ge 32, 3) := by decide +kernel
theorem dX7_powerThatIs_12 : decode cX7_powerThatIs 12 = .ok (.lload 4, 2) := by decide +kernel
theorem dX7_powerThatIs_14 : decode cX7_powerThatIs 14 = .ok (.iload_n 2, 1) := by decide +kernel
theorem dX7_powerThatIs_15 : decode cX7_powerThatIs 15 = .ok (.i2l, 1) := by decide +kernel
theorem dX7_powerThatIs_16 : decode cX7_powerThatIs 16 = .ok (.lmul, 1) := by decide +kernel
theorem dX7_powerThatIs_17 : decode cX7_powerThatIs 17 = .ok (.iload_n 3, 1) := by decide +kernel
theorem dX7_powerThatIs_18 : decode cX7_powerThatIs 18 = .ok (.i2l, 1) := by decide +kernel
theorem dX7_powerThatIs_19 : decode cX7_powerThatIs 19 = .ok (.lrem, 1) := by decide +kernel
theorem dX7_powerThatIs_20 : decode cX7_powerThatIs 20 = .ok (.lstore 4, 2) := by decide +kernel
theorem dX7_powerThatIs_22 : decode cX7_powerThatIs 22 = .ok (.lload 4, 2) := by decide +kernel
theorem dX7_powerThatIs_24 : decode cX7_powerThatIs 24 = .ok (.iload_n 1, 1) := by decide +kernel
theorem dX7_powerThatIs_25 : decode cX7_powerThatIs 25 = .ok (.iload_n 3, 1) := by decide +kernel
theorem dX7_powerThatIs_26 : decode cX7_powerThatIs 26 = .ok (.irem, 1) := by decide +kernel
theorem dX7_powerThatIs_27 : decode cX7_powerThatIs 27 = .ok (.i2l, 1) := by decide +kernel
theorem dX7_powerThatIs_28 : decode cX7_powerThatIs 28 = .ok (.lcmp, 1) := by decide +kernel
theorem dX7_powerThatIs_29 : decode cX7_powerThatIs 29 = .ok (.ifCond .ne 6, 3) := by decide +kernel
theorem dX7_powerThatIs_32 : decode cX7_powerThatIs 32 = .ok (.iload 6, 2) := by decide +kernel
theorem dX7_powerThatIs_34 : decode cX7_powerThatIs 34 = .ok (.ireturn, 1) := by decide +kernel
theorem dX7_powerThatIs_35 : decode cX7_powerThatIs 35 = .ok (.iinc 6 1, 3) := by decide +kernel
theorem dX7_powerThatIs_38 : decode cX7_powerThatIs 38 = .ok (.goto (-32), 3) := by decide +kernel
theorem dX7_powerThatIs_41 : decode cX7_powerThatIs 41 = .ok (.iconst 0, 1) := by decide +kernel
theorem dX7_powerThatIs_42 : decode cX7_powerThatIs 42 = .ok (.ireturn, 1) := by decide +kernel
theorem dX7_leastGenerator_0 : decode cX7_leastGenerator 0 = .ok (.iconst 2, 1) := by decide +kernel
theorem dX7_leastGenerator_1 : decode cX7_leastGenerator 1 = .ok (.istore_n 2, 1) := by decide +kernel
theorem dX7_leastGenerator_2 : decode cX7_leastGenerator 2 = .ok (.iload_n 2, 1) := by decide +kernel
theorem dX7_leastGenerator_3 : decode cX7_leastGenerator 3 = .ok (.iload_n 1, 1) := by decide +kernel
theorem dX7_leastGenerator_4 : decode cX7_leastGenerator 4 = .ok (.if_icmp .ge 24, 3) := by decide +kernel
theorem dX7_leastGenerator_7 : decode cX7_leastGenerator 7 = .ok (.aload_n 0, 1) := by decide +kernel
theorem dX7_leastGenerator_8 : decode cX7_leastGenerator 8 = .ok (.iconst 1, 1) := by decide +kernel
theorem dX7_leastGenerator_9 : decode cX7_leastGenerator 9 = .ok (.iload_n 2, 1) := by decide +kernel
theorem dX7_leastGenerator_10 : decode cX7_leastGenerator 10 = .ok (.iload_n 1, 1) := by decide +kernel
theorem dX7_leastGenerator_11 : decode cX7_leastGenerator 11 = .ok (.invokevirtual 93, 3) := by decide +kernel
theorem dX7_leastGenerator_14 : decode cX7_leastGenerator 14 = .ok (.iload_n 1, 1) := by decide +kernel
theorem dX7_leastGenerator_15 : decode cX7_leastGenerator 15 = .ok (.iconst 1, 1) := by decide +kernel
theorem dX7_leastGenerator_16 : decode cX7_leastGenerator 16 = .ok (.isub, 1) := by decide +kernel
theorem dX7_leastGenerator_17 : decode cX7_leastGenerator 17 = .ok (.if_icmp .ne 5, 3) := by decide +kernel
theorem dX7_leastGenerator_20 : decode cX7_leastGenerator 20 = .ok (.iload_n 2, 1) := by decide +kernel
theorem dX7_leastGenerator_21 : decode cX7_leastGenerator 21 = .ok (.ireturn, 1) := by decide +kernel
theorem dX7_leastGenerator_22 : decode cX7_leastGenerator 22 = .ok (.iinc 2 1, 3) := by decide +kernel
theorem dX7_leastGenerator_25 : decode cX7_leastGenerator 25 = .ok (.goto (-23), 3) := by decide +kernel
theorem dX7_leastGenerator_28 : decode cX7_leastGenerator 28 = .ok (.iconst 1, 1) := by decide +kernel
theorem dX7_leastGenerator_29 : decode cX7_leastGenerator 29 = .ok (.ireturn, 1) := by decide +kernel
theorem dX7_reckonCyclic_0 : decode cX7_reckonCyclic 0 = .ok (.aload_n 0, 1) := by decide +kernel
theorem dX7_reckonCyclic_1 : decode cX7_reckonCyclic 1 = .ok (.iload_n 2, 1) := by decide +kernel
theorem dX7_reckonCyclic_2 : decode cX7_reckonCyclic 2 = .ok (.invokevirtual 90, 3) := by decide +kernel
theorem dX7_reckonCyclic_5 : decode cX7_reckonCyclic 5 = .ok (.istore 4, 2) := by decide +kernel
theorem dX7_reckonCyclic_7 : decode cX7_reckonCyclic 7 = .ok (.iconst 0, 1) := by decide +kernel
theorem dX7_reckonCyclic_8 : decode cX7_reckonCyclic 8 = .ok (.istore 5, 2) := by decide +kernel
theorem dX7_reckonCyclic_10 : decode cX7_reckonCyclic 10 = .ok (.iconst (-1), 1) := by decide +kernel
theorem dX7_reckonCyclic_11 : decode cX7_reckonCyclic 11 = .ok (.istore 6, 2) := by decide +kernel
theorem dX7_reckonCyclic_13 : decode cX7_reckonCyclic 13 = .ok (.iconst 0, 1) := by decide +kernel
theorem dX7_reckonCyclic_14 : decode cX7_reckonCyclic 14 = .ok (.istore 7, 2) := by decide +kernel
theorem dX7_reckonCyclic_16 : decode cX7_reckonCyclic 16 = .ok (.iload 7, 2) := by decide +kernel
theorem dX7_reckonCyclic_18 : decode cX7_reckonCyclic 18 = .ok (.aload_n 0, 1) := by decide +kernel
theorem dX7_reckonCyclic_19 : decode cX7_reckonCyclic 19 = .ok (.getfield 9, 3) := by decide +kernel
theorem dX7_reckonCyclic_22 : decode cX7_reckonCyclic 22 = .ok (.if_icmp .ge 95, 3) := by decide +kernel
theorem dX7_reckonCyclic_25 : decode cX7_reckonCyclic 25 = .ok (.aload_n 0, 1) := by decide +kernel
theorem dX7_reckonCyclic_26 : decode cX7_reckonCyclic 26 = .ok (.getfield 18, 3) := by decide +kernel
theorem dX7_reckonCyclic_29 : decode cX7_reckonCyclic 29 = .ok (.iload 7, 2) := by decide +kernel
theorem dX7_reckonCyclic_31 : decode cX7_reckonCyclic 31 = .ok (.iaload, 1) := by decide +kernel
theorem dX7_reckonCyclic_32 : decode cX7_reckonCyclic 32 = .ok (.istore 8, 2) := by decide +kernel
theorem dX7_reckonCyclic_34 : decode cX7_reckonCyclic 34 = .ok (.aload_n 0, 1) := by decide +kernel
theorem dX7_reckonCyclic_35 : decode cX7_reckonCyclic 35 = .ok (.getfield 24, 3) := by decide +kernel
theorem dX7_reckonCyclic_38 : decode cX7_reckonCyclic 38 = .ok (.iload_n 1, 1) := by decide +kernel
theorem dX7_reckonCyclic_39 : decode cX7_reckonCyclic 39 = .ok (.aaload, 1) := by decide +kernel
theorem dX7_reckonCyclic_40 : decode cX7_reckonCyclic 40 = .ok (.iload 7, 2) := by decide +kernel
theorem dX7_reckonCyclic_42 : decode cX7_reckonCyclic 42 = .ok (.iconst 0, 1) := by decide +kernel
theorem dX7_reckonCyclic_43 : decode cX7_reckonCyclic 43 = .ok (.iastore, 1) := by decide +kernel
theorem dX7_reckonCyclic_44 : decode cX7_reckonCyclic 44 = .ok (.iload 8, 2) := by decide +kernel
theorem dX7_reckonCyclic_46 : decode cX7_reckonCyclic 46 = .ok (.iload_n 2, 1) := by decide +kernel
theorem dX7_reckonCyclic_47 : decode cX7_reckonCyclic 47 = .ok (.if_icmp .ne 10, 3) := by decide +kernel
theorem dX7_reckonCyclic_50 : decode cX7_reckonCyclic 50 = .ok (.iload 7, 2) := by decide +kernel
theorem dX7_reckonCyclic_52 : decode cX7_reckonCyclic 52 = .ok (.istore 6, 2) := by decide +kernel
theorem dX7_reckonCyclic_54 : decode cX7_reckonCyclic 54 = .ok (.goto 43, 3) := by decide +kernel
theorem dX7_reckonCyclic_57 : decode cX7_reckonCyclic 57 = .ok (.iload 8, 2) := by decide +kernel
theorem dX7_reckonCyclic_59 : decode cX7_reckonCyclic 59 = .ok (.iconst 1, 1) := by decide +kernel
theorem dX7_reckonCyclic_60 : decode cX7_reckonCyclic 60 = .ok (.if_icmp .le 37, 3) := by decide +kernel
theorem dX7_reckonCyclic_63 : decode cX7_reckonCyclic 63 = .ok (.iload 8, 2) := by decide +kernel
theorem dX7_reckonCyclic_65 : decode cX7_reckonCyclic 65 = .ok (.iload_n 3, 1) := by decide +kernel
theorem dX7_reckonCyclic_66 : decode cX7_reckonCyclic 66 = .ok (.i2l, 1) := by decide +kernel
theorem dX7_reckonCyclic_67 : decode cX7_reckonCyclic 67 = .ok (.invokestatic 72, 3) := by decide +kernel
theorem dX7_reckonCyclic_70 : decode cX7_reckonCyclic 70 = .ok (.aload_n 0, 1) := by decide +kernel
theorem dX7_reckonCyclic_71 : decode cX7_reckonCyclic 71 = .ok (.iload 8, 2) := by decide +kernel
theorem dX7_reckonCyclic_73 : decode cX7_reckonCyclic 73 = .ok (.iload 4, 2) := by decide +kernel
theorem dX7_reckonCyclic_75 : decode cX7_reckonCyclic 75 = .ok (.iload_n 2, 1) := by decide +kernel
theorem dX7_reckonCyclic_76 : decode cX7_reckonCyclic 76 = .ok (.invokevirtual 93, 3) := by decide +kernel
theorem dX7_reckonCyclic_79 : decode cX7_reckonCyclic 79 = .ok (.imul, 1) := by decide +kernel
theorem dX7_reckonCyclic_80 : decode cX7_reckonCyclic 80 = .ok (.istore 9, 2) := by decide +kernel
theorem dX7_reckonCyclic_82 : decode cX7_reckonCyclic 82 = .ok (.aload_n 0, 1) := by decide +kernel
theorem dX7_reckonCyclic_83 : decode cX7_reckonCyclic 83 = .ok (.getfield 24, 3) := by decide +kernel
theorem dX7_reckonCyclic_86 : decode cX7_reckonCyclic 86 = .ok (.iload_n 1, 1) := by decide +kernel
theorem dX7_reckonCyclic_87 : decode cX7_reckonCyclic 87 = .ok (.aaload, 1) := by decide +kernel
theorem dX7_reckonCyclic_88 : decode cX7_reckonCyclic 88 = .ok (.iload 7, 2) := by decide +kernel
theorem dX7_reckonCyclic_90 : decode cX7_reckonCyclic 90 = .ok (.iconst 2, 1) := by decide +kernel
theorem dX7_reckonCyclic_91 : decode cX7_reckonCyclic 91 = .ok (.iload 9, 2) := by decide +kernel
theorem dX7_reckonCyclic_93 : decode cX7_reckonCyclic 93 = .ok (.iconst 3, 1) := by decide +kernel
theorem dX7_reckonCyclic_94 : decode cX7_reckonCyclic 94 = .ok (.irem, 1) := by decide +kernel
theorem dX7_reckonCyclic_95 : decode cX7_reckonCyclic 95 = .ok (.imul, 1) := by decide +kernel
theorem dX7_reckonCyclic_96 : decode cX7_reckonCyclic 96 = .ok (.iastore, 1) := by decide +kernel
theorem dX7_reckonCyclic_97 : decode cX7_reckonCyclic 97 = .ok (.iload 5, 2) := by decide +kernel
theorem dX7_reckonCyclic_99 : decode cX7_reckonCyclic 99 = .ok (.aload_n 0, 1) := by decide +kernel
theorem dX7_reckonCyclic_100 : decode cX7_reckonCyclic 100 = .ok (.getfield 24, 3) := by decide +kernel
theorem dX7_reckonCyclic_103 : decode cX7_reckonCyclic 103 = .ok (.iload_n 1, 1) := by decide +kernel
theorem dX7_reckonCyclic_104 : decode cX7_reckonCyclic 104 = .ok (.aaload, 1) := by decide +kernel
theorem dX7_reckonCyclic_105 : decode cX7_reckonCyclic 105 = .ok (.iload 7, 2) := by decide +kernel
theorem dX7_reckonCyclic_107 : decode cX7_reckonCyclic 107 = .ok (.iaload, 1) := by decide +kernel
theorem dX7_reckonCyclic_108 : decode cX7_reckonCyclic 108 = .ok (.iadd, 1) := by decide +kernel
theorem dX7_reckonCyclic_109 : decode cX7_reckonCyclic 109 = .ok (.istore 5, 2) := by decide +kernel
theorem dX7_reckonCyclic_111 : decode cX7_reckonCyclic 111 = .ok (.iinc 7 1, 3) := by decide +kernel
theorem dX7_reckonCyclic_114 : decode cX7_reckonCyclic 114 = .ok (.goto (-98), 3) := by decide +kernel
theorem dX7_reckonCyclic_117 : decode cX7_reckonCyclic 117 = .ok (.iload 6, 2) := by decide +kernel
theorem dX7_reckonCyclic_119 : decode cX7_reckonCyclic 119 = .ok (.iconst (-1), 1) := by decide +kernel
theorem dX7_reckonCyclic_120 : decode cX7_reckonCyclic 120 = .ok (.if_icmp .eq 23, 3) := by decide +kernel
theorem dX7_reckonCyclic_123 : decode cX7_reckonCyclic 123 = .ok (.aload_n 0, 1) := by decide +kernel
theorem dX7_reckonCyclic_124 : decode cX7_reckonCyclic 124 = .ok (.getfield 24, 3) := by decide +kernel
theorem dX7_reckonCyclic_127 : decode cX7_reckonCyclic 127 = .ok (.iload_n 1, 1) := by decide +kernel
theorem dX7_reckonCyclic_128 : decode cX7_reckonCyclic 128 = .ok (.aaload, 1) := by decide +kernel
theorem dX7_reckonCyclic_129 : decode cX7_reckonCyclic 129 = .ok (.iload 6, 2) := by decide +kernel
theorem dX7_reckonCyclic_131 : decode cX7_reckonCyclic 131 = .ok (.iload 5, 2) := by decide +kernel
theorem dX7_reckonCyclic_133 : decode cX7_reckonCyclic 133 = .ok (.ineg, 1) := by decide +kernel
theorem dX7_reckonCyclic_134 : decode cX7_reckonCyclic 134 = .ok (.i2l, 1) := by decide +kernel
theorem dX7_reckonCyclic_135 : decode cX7_reckonCyclic 135 = .ok (.ldc2_w 97, 3) := by decide +kernel
theorem dX7_reckonCyclic_138 : decode cX7_reckonCyclic 138 = .ok (.invokestatic 99, 3) := by decide +kernel
theorem dX7_reckonCyclic_141 : decode cX7_reckonCyclic 141 = .ok (.l2i, 1) := by decide +kernel
theorem dX7_reckonCyclic_142 : decode cX7_reckonCyclic 142 = .ok (.iastore, 1) := by decide +kernel
theorem dX7_reckonCyclic_143 : decode cX7_reckonCyclic 143 = .ok (.return_, 1) := by decide +kernel
theorem dX7_reckonSum_0 : decode cX7_reckonSum 0 = .ok (.iconst 0, 1) := by decide +kernel
theorem dX7_reckonSum_1 : decode cX7_reckonSum 1 = .ok (.istore_n 3, 1) := by decide +kernel
theorem dX7_reckonSum_2 : decode cX7_reckonSum 2 = .ok (.iload_n 3, 1) := by decide +kernel
theorem dX7_reckonSum_3 : decode cX7_reckonSum 3 = .ok (.aload_n 0, 1) := by decide +kernel
theorem dX7_reckonSum_4 : decode cX7_reckonSum 4 = .ok (.getfield 9, 3) := by decide +kernel
theorem dX7_reckonSum_7 : decode cX7_reckonSum 7 = .ok (.if_icmp .ge 82, 3) := by decide +kernel
theorem dX7_reckonSum_10 : decode cX7_reckonSum 10 = .ok (.lconst 0, 1) := by decide +kernel
theorem dX7_reckonSum_11 : decode cX7_reckonSum 11 = .ok (.lstore 4, 2) := by decide +kernel
theorem dX7_reckonSum_13 : decode cX7_reckonSum 13 = .ok (.iconst 0, 1) := by decide +kernel
theorem dX7_reckonSum_14 : decode cX7_reckonSum 14 = .ok (.istore 6, 2) := by decide +kernel
theorem dX7_reckonSum_16 : decode cX7_reckonSum 16 = .ok (.iload 6, 2) := by decide +kernel
theorem dX7_reckonSum_18 : decode cX7_reckonSum 18 = .ok (.aload_n 1, 1) := by decide +kernel
theorem dX7_reckonSum_19 : decode cX7_reckonSum 19 = .ok (.iload_n 2, 1) := by decide +kernel
theorem dX7_reckonSum_20 : decode cX7_reckonSum 20 = .ok (.invokevirtual 47, 3) := by decide +kernel
theorem dX7_reckonSum_23 : decode cX7_reckonSum 23 = .ok (.if_icmp .ge 43, 3) := by decide +kernel
theorem dX7_reckonSum_26 : decode cX7_reckonSum 26 = .ok (.iload 6, 2) := by decide +kernel
theorem dX7_reckonSum_28 : decode cX7_reckonSum 28 = .ok (.iconst 4, 1) := by decide +kernel
theorem dX7_reckonSum_29 : decode cX7_reckonSum 29 = .ok (.if_icmp .ge 37, 3) := by decide +kernel
theorem dX7_reckonSum_32 : decode cX7_reckonSum 32 = .ok (.lload 4, 2) := by decide +kernel
theorem dX7_reckonSum_34 : decode cX7_reckonSum 34 = .ok (.aload_n 1, 1) := by decide +kernel
theorem dX7_reckonSum_35 : decode cX7_reckonSum 35 = .ok (.iload_n 2, 1) := by decide +kernel
theorem dX7_reckonSum_36 : decode cX7_reckonSum 36 = .ok (.iload 6, 2) := by decide +kernel
theorem dX7_reckonSum_38 : decode cX7_reckonSum 38 = .ok (.invokevirtual 102, 3) := by decide +kernel
theorem dX7_reckonSum_41 : decode cX7_reckonSum 41 = .ok (.aload_n 0, 1) := by decide +kernel
theorem dX7_reckonSum_42 : decode cX7_reckonSum 42 = .ok (.getfield 24, 3) := by decide +kernel
theorem dX7_reckonSum_45 : decode cX7_reckonSum 45 = .ok (.aload_n 1, 1) := by decide +kernel
theorem dX7_reckonSum_46 : decode cX7_reckonSum 46 = .ok (.iload_n 2, 1) := by decide +kernel
theorem dX7_reckonSum_47 : decode cX7_reckonSum 47 = .ok (.iload 6, 2) := by decide +kernel
theorem dX7_reckonSum_49 : decode cX7_reckonSum 49 = .ok (.invokevirtual 106, 3) := by decide +kernel
theorem dX7_reckonSum_52 : decode cX7_reckonSum 52 = .ok (.aaload, 1) := by decide +kernel
theorem dX7_reckonSum_53 : decode cX7_reckonSum 53 = .ok (.iload_n 3, 1) := by decide +kernel
theorem dX7_reckonSum_54 : decode cX7_reckonSum 54 = .ok (.iaload, 1) := by decide +kernel
theorem dX7_reckonSum_55 : decode cX7_reckonSum 55 = .ok (.imul, 1) := by decide +kernel
theorem dX7_reckonSum_56 : decode cX7_reckonSum 56 = .ok (.i2l, 1) := by decide +kernel
theorem dX7_reckonSum_57 : decode cX7_reckonSum 57 = .ok (.ladd, 1) := by decide +kernel
theorem dX7_reckonSum_58 : decode cX7_reckonSum 58 = .ok (.lstore 4, 2) := by decide +kernel
theorem dX7_reckonSum_60 : decode cX7_reckonSum 60 = .ok (.iinc 6 1, 3) := by decide +kernel
theorem dX7_reckonSum_63 : decode cX7_reckonSum 63 = .ok (.goto (-47), 3) := by decide +kernel
theorem dX7_reckonSum_66 : decode cX7_reckonSum 66 = .ok (.aload_n 0, 1) := by decide +kernel
theorem dX7_reckonSum_67 : decode cX7_reckonSum 67 = .ok (.getfield 24, 3) := by decide +kernel
theorem dX7_reckonSum_70 : decode cX7_reckonSum 70 = .ok (.iload_n 2, 1) := by decide +kernel
theorem dX7_reckonSum_71 : decode cX7_reckonSum 71 = .ok (.aaload, 1) := by decide +kernel
theorem dX7_reckonSum_72 : decode cX7_reckonSum 72 = .ok (.iload_n 3, 1) := by decide +kernel
theorem dX7_reckonSum_73 : decode cX7_reckonSum 73 = .ok (.lload 4, 2) := by decide +kernel
theorem dX7_reckonSum_75 : decode cX7_reckonSum 75 = .ok (.ldc2_w 97, 3) := by decide +kernel
theorem dX7_reckonSum_78 : decode cX7_reckonSum 78 = .ok (.invokestatic 99, 3) := by decide +kernel
theorem dX7_reckonSum_81 : decode cX7_reckonSum 81 = .ok (.l2i, 1) := by decide +kernel
theorem dX7_reckonSum_82 : decode cX7_reckonSum 82 = .ok (.iastore, 1) := by decide +kernel
theorem dX7_reckonSum_83 : decode cX7_reckonSum 83 = .ok (.iinc 3 1, 3) := by decide +kernel
theorem dX7_reckonSum_86 : decode cX7_reckonSum 86 = .ok (.goto (-84), 3) := by decide +kernel
theorem dX7_reckonSum_89 : decode cX7_reckonSum 89 = .ok (.return_, 1) := by decide +kernel
theorem dX7_reckonOne_0 : decode cX7_reckonOne 0 = .ok (.aload_n 1, 1) := by decide +kernel
theorem dX7_reckonOne_1 : decode cX7_reckonOne 1 = .ok (.iload_n 2, 1) := by decide +kernel
theorem dX7_reckonOne_2 : decode cX7_reckonOne 2 = .ok (.invokevirtual 47, 3) := by decide +kernel
theorem dX7_reckonOne_5 : decode cX7_reckonOne 5 = .ok (.istore_n 3, 1) := by decide +kernel
theorem dX7_reckonOne_6 : decode cX7_reckonOne 6 = .ok (.aload_n 1, 1) := by decide +kernel
theorem dX7_reckonOne_7 : decode cX7_reckonOne 7 = .ok (.iload_n 2, 1) := by decide +kernel
theorem dX7_reckonOne_8 : decode cX7_reckonOne 8 = .ok (.invokevirtual 53, 3) := by decide +kernel
theorem dX7_reckonOne_11 : decode cX7_reckonOne 11 = .ok (.istore 4, 2) := by decide +kernel
theorem dX7_reckonOne_13 : decode cX7_reckonOne 13 = .ok (.aload_n 1, 1) := by decide +kernel
theorem dX7_reckonOne_14 : decode cX7_reckonOne 14 = .ok (.iload_n 2, 1) := by decide +kernel
theorem dX7_reckonOne_15 : decode cX7_reckonOne 15 = .ok (.invokevirtual 43, 3) := by decide +kernel
theorem dX7_reckonOne_18 : decode cX7_reckonOne 18 = .ok (.lookupswitch 89 #[(0, 26), (1, 78)], 26) := by decide +kernel
theorem dX7_reckonOne_44 : decode cX7_reckonOne 44 = .ok (.iconst 0, 1) := by decide +kernel
theorem dX7_reckonOne_45 : decode cX7_reckonOne 45 = .ok (.istore 5, 2) := by decide +kernel
theorem dX7_reckonOne_47 : decode cX7_reckonOne 47 = .ok (.iload 5, 2) := by decide +kernel
theorem dX7_reckonOne_49 : decode cX7_reckonOne 49 = .ok (.aload_n 0, 1) := by decide +kernel
theorem dX7_reckonOne_50 : decode cX7_reckonOne 50 = .ok (.getfield 9, 3) := by decide +kernel
theorem dX7_reckonOne_53 : decode cX7_reckonOne 53 = .ok (.if_icmp .ge 40, 3) := by decide +kernel
theorem dX7_reckonOne_56 : decode cX7_reckonOne 56 = .ok (.aload_n 0, 1) := by decide +kernel
theorem dX7_reckonOne_57 : decode cX7_reckonOne 57 = .ok (.getfield 24, 3) := by decide +kernel
theorem dX7_reckonOne_60 : decode cX7_reckonOne 60 = .ok (.iload_n 2, 1) := by decide +kernel
theorem dX7_reckonOne_61 : decode cX7_reckonOne 61 = .ok (.aaload, 1) := by decide +kernel
theorem dX7_reckonOne_62 : decode cX7_reckonOne 62 = .ok (.iload 5, 2) := by decide +kernel
theorem dX7_reckonOne_64 : decode cX7_reckonOne 64 = .ok (.aload_n 0, 1) := by decide +kernel
theorem dX7_reckonOne_65 : decode cX7_reckonOne 65 = .ok (.iload_n 3, 1) := by decide +kernel
theorem dX7_reckonOne_66 : decode cX7_reckonOne 66 = .ok (.iload 4, 2) := by decide +kernel
theorem dX7_reckonOne_68 : decode cX7_reckonOne 68 = .ok (.aload_n 0, 1) := by decide +kernel
theorem dX7_reckonOne_69 : decode cX7_reckonOne 69 = .ok (.getfield 18, 3) := by decide +kernel
theorem dX7_reckonOne_72 : decode cX7_reckonOne 72 = .ok (.iload 5, 2) := by decide +kernel
theorem dX7_reckonOne_74 : decode cX7_reckonOne 74 = .ok (.iaload, 1) := by decide +kernel
theorem dX7_reckonOne_75 : decode cX7_reckonOne 75 = .ok (.invokevirtual 61, 3) := by decide +kernel
theorem dX7_reckonOne_78 : decode cX7_reckonOne 78 = .ok (.ifCond .eq 7, 3) := by decide +kernel
theorem dX7_reckonOne_81 : decode cX7_reckonOne 81 = .ok (.iconst 3, 1) := by decide +kernel
theorem dX7_reckonOne_82 : decode cX7_reckonOne 82 = .ok (.goto 4, 3) := by decide +kernel
theorem dX7_reckonOne_85 : decode cX7_reckonOne 85 = .ok (.iconst 0, 1) := by decide +kernel
theorem dX7_reckonOne_86 : decode cX7_reckonOne 86 = .ok (.iastore, 1) := by decide +kernel
theorem dX7_reckonOne_87 : decode cX7_reckonOne 87 = .ok (.iinc 5 1, 3) := by decide +kernel
theorem dX7_reckonOne_90 : decode cX7_reckonOne 90 = .ok (.goto (-43), 3) := by decide +kernel
theorem dX7_reckonOne_93 : decode cX7_reckonOne 93 = .ok (.goto 20, 3) := by decide +kernel
theorem dX7_reckonOne_96 : decode cX7_reckonOne 96 = .ok (.aload_n 0, 1) := by decide +kernel
theorem dX7_reckonOne_97 : decode cX7_reckonOne 97 = .ok (.iload_n 2, 1) := by decide +kernel
theorem dX7_reckonOne_98 : decode cX7_reckonOne 98 = .ok (.iload_n 3, 1) := by decide +kernel
theorem dX7_reckonOne_99 : decode cX7_reckonOne 99 = .ok (.iload 4, 2) := by decide +kernel
theorem dX7_reckonOne_101 : decode cX7_reckonOne 101 = .ok (.invokevirtual 65, 3) := by decide +kernel
theorem dX7_reckonOne_104 : decode cX7_reckonOne 104 = .ok (.goto 9, 3) := by decide +kernel
theorem dX7_reckonOne_107 : decode cX7_reckonOne 107 = .ok (.aload_n 0, 1) := by decide +kernel
theorem dX7_reckonOne_108 : decode cX7_reckonOne 108 = .ok (.aload_n 1, 1) := by decide +kernel
theorem dX7_reckonOne_109 : decode cX7_reckonOne 109 = .ok (.iload_n 2, 1) := by decide +kernel
theorem dX7_reckonOne_110 : decode cX7_reckonOne 110 = .ok (.invokevirtual 69, 3) := by decide +kernel
theorem dX7_reckonOne_113 : decode cX7_reckonOne 113 = .ok (.return_, 1) := by decide +kernel
theorem dX7_reckon_0 : decode cX7_reckon 0 = .ok (.aload_n 0, 1) := by decide +kernel
theorem dX7_reckon_1 : decode cX7_reckon 1 = .ok (.iconst 0, 1) := by decide +kernel
theorem dX7_reckon_2 : decode cX7_reckon 2 = .ok (.putfield 9, 3) := by decide +kernel
theorem dX7_reckon_5 : decode cX7_reckon 5 = .ok (.aload_n 0, 1) := by decide +kernel
theorem dX7_reckon_6 : decode cX7_reckon 6 = .ok (.aload_n 1, 1) := by decide +kernel
theorem dX7_reckon_7 : decode cX7_reckon 7 = .ok (.invokevirtual 27, 3) := by decide +kernel
theorem dX7_reckon_10 : decode cX7_reckon 10 = .ok (.putfield 15, 3) := by decide +kernel
theorem dX7_reckon_13 : decode cX7_reckon 13 = .ok (.aload_n 0, 1) := by decide +kernel
theorem dX7_reckon_14 : decode cX7_reckon 14 = .ok (.iconst 0, 1) := by decide +kernel
theorem dX7_reckon_15 : decode cX7_reckon 15 = .ok (.invokevirtual 32, 3) := by decide +kernel
theorem dX7_reckon_18 : decode cX7_reckon 18 = .ok (.aload_n 0, 1) := by decide +kernel
theorem dX7_reckon_19 : decode cX7_reckon 19 = .ok (.iconst 2, 1) := by decide +kernel
theorem dX7_reckon_20 : decode cX7_reckon 20 = .ok (.invokevirtual 32, 3) := by decide +kernel
theorem dX7_reckon_23 : decode cX7_reckon 23 = .ok (.iconst 0, 1) := by decide +kernel
theorem dX7_reckon_24 : decode cX7_reckon 24 = .ok (.istore_n 2, 1) := by decide +kernel
theorem dX7_reckon_25 : decode cX7_reckon 25 = .ok (.iload_n 2, 1) := by decide +kernel
theorem dX7_reckon_26 : decode cX7_reckon 26 = .ok (.aload_n 0, 1) := by decide +kernel
theorem dX7_reckon_27 : decode cX7_reckon 27 = .ok (.getfield 15, 3) := by decide +kernel
theorem dX7_reckon_30 : decode cX7_reckon 30 = .ok (.if_icmp .ge 15, 3) := by decide +kernel
theorem dX7_reckon_33 : decode cX7_reckon 33 = .ok (.aload_n 0, 1) := by decide +kernel
theorem dX7_reckon_34 : decode cX7_reckon 34 = .ok (.aload_n 1, 1) := by decide +kernel
theorem dX7_reckon_35 : decode cX7_reckon 35 = .ok (.iload_n 2, 1) := by decide +kernel
theorem dX7_reckon_36 : decode cX7_reckon 36 = .ok (.invokevirtual 36, 3) := by decide +kernel
theorem dX7_reckon_39 : decode cX7_reckon 39 = .ok (.iinc 2 1, 3) := by decide +kernel
theorem dX7_reckon_42 : decode cX7_reckon 42 = .ok (.goto (-17), 3) := by decide +kernel
theorem dX7_reckon_45 : decode cX7_reckon 45 = .ok (.iconst 0, 1) := by decide +kernel
theorem dX7_reckon_46 : decode cX7_reckon 46 = .ok (.istore_n 2, 1) := by decide +kernel
theorem dX7_reckon_47 : decode cX7_reckon 47 = .ok (.iload_n 2, 1) := by decide +kernel
theorem dX7_reckon_48 : decode cX7_reckon 48 = .ok (.aload_n 0, 1) := by decide +kernel
theorem dX7_reckon_49 : decode cX7_reckon 49 = .ok (.getfield 15, 3) := by decide +kernel
theorem dX7_reckon_52 : decode cX7_reckon 52 = .ok (.if_icmp .ge 15, 3) := by decide +kernel
theorem dX7_reckon_55 : decode cX7_reckon 55 = .ok (.aload_n 0, 1) := by decide +kernel
theorem dX7_reckon_56 : decode cX7_reckon 56 = .ok (.aload_n 1, 1) := by decide +kernel
theorem dX7_reckon_57 : decode cX7_reckon 57 = .ok (.iload_n 2, 1) := by decide +kernel
theorem dX7_reckon_58 : decode cX7_reckon 58 = .ok (.invokevirtual 40, 3) := by decide +kernel
theorem dX7_reckon_61 : decode cX7_reckon 61 = .ok (.iinc 2 1, 3) := by decide +kernel
theorem dX7_reckon_64 : decode cX7_reckon 64 = .ok (.goto (-17), 3) := by decide +kernel
theorem dX7_reckon_67 : decode cX7_reckon 67 = .ok (.return_, 1) := by decide +kernel
theorem dX7_sixthsAt_0 : decode cX7_sixthsAt 0 = .ok (.iconst 0, 1) := by decide +kernel
theorem dX7_sixthsAt_1 : decode cX7_sixthsAt 1 = .ok (.istore_n 3, 1) := by decide +kernel
theorem dX7_sixthsAt_2 : decode cX7_sixthsAt 2 = .ok (.iload_n 3, 1) := by decide +kernel
theorem dX7_sixthsAt_3 : decode cX7_sixthsAt 3 = .ok (.aload_n 0, 1) := by decide +kernel
theorem dX7_sixthsAt_4 : decode cX7_sixthsAt 4 = .ok (.getfield 9, 3) := by decide +kernel
theorem dX7_sixthsAt_7 : decode cX7_sixthsAt 7 = .ok (.if_icmp .ge 28, 3) := by decide +kernel
theorem dX7_sixthsAt_10 : decode cX7_sixthsAt 10 = .ok (.aload_n 0, 1) := by decide +kernel
theorem dX7_sixthsAt_11 : decode cX7_sixthsAt 11 = .ok (.getfield 18, 3) := by decide +kernel
theorem dX7_sixthsAt_14 : decode cX7_sixthsAt 14 = .ok (.iload_n 3, 1) := by decide +kernel
theorem dX7_sixthsAt_15 : decode cX7_sixthsAt 15 = .ok (.iaload, 1) := by decide +kernel
theorem dX7_sixthsAt_16 : decode cX7_sixthsAt 16 = .ok (.iload_n 2, 1) := by decide +kernel
theorem dX7_sixthsAt_17 : decode cX7_sixthsAt 17 = .ok (.if_icmp .ne 12, 3) := by decide +kernel
theorem dX7_sixthsAt_20 : decode cX7_sixthsAt 20 = .ok (.aload_n 0, 1) := by decide +kernel
theorem dX7_sixthsAt_21 : decode cX7_sixthsAt 21 = .ok (.getfield 24, 3) := by decide +kernel
theorem dX7_sixthsAt_24 : decode cX7_sixthsAt 24 = .ok (.iload_n 1, 1) := by decide +kernel
theorem dX7_sixthsAt_25 : decode cX7_sixthsAt 25 = .ok (.aaload, 1) := by decide +kernel
theorem dX7_sixthsAt_26 : decode cX7_sixthsAt 26 = .ok (.iload_n 3, 1) := by decide +kernel
theorem dX7_sixthsAt_27 : decode cX7_sixthsAt 27 = .ok (.iaload, 1) := by decide +kernel
theorem dX7_sixthsAt_28 : decode cX7_sixthsAt 28 = .ok (.ireturn, 1) := by decide +kernel
theorem dX7_sixthsAt_29 : decode cX7_sixthsAt 29 = .ok (.iinc 3 1, 3) := by decide +kernel
theorem dX7_sixthsAt_32 : decode cX7_sixthsAt 32 = .ok (.goto (-30), 3) := by decide +kernel
theorem dX7_sixthsAt_35 : decode cX7_sixthsAt 35 = .ok (.iconst 0, 1) := by decide +kernel
theorem dX7_sixthsAt_36 : decode cX7_sixthsAt 36 = .ok (.ireturn, 1) := by decide +kernel
theorem dX7_howMany_0 : decode cX7_howMany 0 = .ok (.iconst 0, 1) := by decide +kernel
theorem dX7_howMany_1 : decode cX7_howMany 1 = .ok (.istore_n 2, 1) := by decide +kernel
theorem dX7_howMany_2 : decode cX7_howMany 2 = .ok (.iconst 0, 1) := by decide +kernel
theorem dX7_howMany_3 : decode cX7_howMany 3 = .ok (.istore_n 3, 1) := by decide +kernel
theorem dX7_howMany_4 : decode cX7_howMany 4 = .ok (.iload_n 3, 1) := by decide +kernel
theorem dX7_howMany_5 : decode cX7_howMany 5 = .ok (.aload_n 0, 1) := by decide +kernel
theorem dX7_howMany_6 : decode cX7_howMany 6 = .ok (.getfield 9, 3) := by decide +kernel
theorem dX7_howMany_9 : decode cX7_howMany 9 = .ok (.if_icmp .ge 28, 3) := by decide +kernel
theorem dX7_howMany_12 : decode cX7_howMany 12 = .ok (.iload_n 2, 1) := by decide +kernel
theorem dX7_howMany_13 : decode cX7_howMany 13 = .ok (.aload_n 0, 1) := by decide +kernel
theorem dX7_howMany_14 : decode cX7_howMany 14 = .ok (.getfield 24, 3) := by decide +kernel
theorem dX7_howMany_17 : decode cX7_howMany 17 = .ok (.iload_n 1, 1) := by decide +kernel
theorem dX7_howMany_18 : decode cX7_howMany 18 = .ok (.aaload, 1) := by decide +kernel
theorem dX7_howMany_19 : decode cX7_howMany 19 = .ok (.iload_n 3, 1) := by decide +kernel
theorem dX7_howMany_20 : decode cX7_howMany 20 = .ok (.iaload, 1) := by decide +kernel
theorem dX7_howMany_21 : decode cX7_howMany 21 = .ok (.ifCond .eq 7, 3) := by decide +kernel
theorem dX7_howMany_24 : decode cX7_howMany 24 = .ok (.iconst 1, 1) := by decide +kernel
theorem dX7_howMany_25 : decode cX7_howMany 25 = .ok (.goto 4, 3) := by decide +kernel
theorem dX7_howMany_28 : decode cX7_howMany 28 = .ok (.iconst 0, 1) := by decide +kernel
theorem dX7_howMany_29 : decode cX7_howMany 29 = .ok (.iadd, 1) := by decide +kernel
theorem dX7_howMany_30 : decode cX7_howMany 30 = .ok (.istore_n 2, 1) := by decide +kernel
theorem dX7_howMany_31 : decode cX7_howMany 31 = .ok (.iinc 3 1, 3) := by decide +kernel
theorem dX7_howMany_34 : decode cX7_howMany 34 = .ok (.goto (-30), 3) := by decide +kernel
theorem dX7_howMany_37 : decode cX7_howMany 37 = .ok (.iload_n 2, 1) := by decide +kernel
theorem dX7_howMany_38 : decode cX7_howMany 38 = .ok (.ireturn, 1) := by decide +kernel
theorem dX7_placeOf_0 : decode cX7_placeOf 0 = .ok (.iload_n 2, 1) := by decide +kernel
theorem dX7_placeOf_1 : decode cX7_placeOf 1 = .ok (.istore_n 3, 1) := by decide +kernel
theorem dX7_placeOf_2 : decode cX7_placeOf 2 = .ok (.iconst 0, 1) := by decide +kernel
theorem dX7_placeOf_3 : decode cX7_placeOf 3 = .ok (.istore 4, 2) := by decide +kernel
theorem dX7_placeOf_5 : decode cX7_placeOf 5 = .ok (.iload 4, 2) := by decide +kernel
theorem dX7_placeOf_7 : decode cX7_placeOf 7 = .ok (.aload_n 0, 1) := by decide +kernel
theorem dX7_placeOf_8 : decode cX7_placeOf 8 = .ok (.getfield 9, 3) := by decide +kernel
theorem dX7_placeOf_11 : decode cX7_placeOf 11 = .ok (.if_icmp .ge 36, 3) := by decide +kernel
theorem dX7_placeOf_14 : decode cX7_placeOf 14 = .ok (.aload_n 0, 1) := by decide +kernel
theorem dX7_placeOf_15 : decode cX7_placeOf 15 = .ok (.getfield 24, 3) := by decide +kernel
theorem dX7_placeOf_18 : decode cX7_placeOf 18 = .ok (.iload_n 1, 1) := by decide +kernel
theorem dX7_placeOf_19 : decode cX7_placeOf 19 = .ok (.aaload, 1) := by decide +kernel
theorem dX7_placeOf_20 : decode cX7_placeOf 20 = .ok (.iload 4, 2) := by decide +kernel
theorem dX7_placeOf_22 : decode cX7_placeOf 22 = .ok (.iaload, 1) := by decide +kernel
theorem dX7_placeOf_23 : decode cX7_placeOf 23 = .ok (.ifCond .eq 18, 3) := by decide +kernel
theorem dX7_placeOf_26 : decode cX7_placeOf 26 = .ok (.iload_n 3, 1) := by decide +kernel
theorem dX7_placeOf_27 : decode cX7_placeOf 27 = .ok (.ifCond .ne 11, 3) := by decide +kernel
theorem dX7_placeOf_30 : decode cX7_placeOf 30 = .ok (.aload_n 0, 1) := by decide +kernel
theorem dX7_placeOf_31 : decode cX7_placeOf 31 = .ok (.getfield 18, 3) := by decide +kernel
theorem dX7_placeOf_34 : decode cX7_placeOf 34 = .ok (.iload 4, 2) := by decide +kernel
theorem dX7_placeOf_36 : decode cX7_placeOf 36 = .ok (.iaload, 1) := by decide +kernel
theorem dX7_placeOf_37 : decode cX7_placeOf 37 = .ok (.ireturn, 1) := by decide +kernel
theorem dX7_placeOf_38 : decode cX7_placeOf 38 = .ok (.iinc 3 (-1), 3) := by decide +kernel
theorem dX7_placeOf_41 : decode cX7_placeOf 41 = .ok (.iinc 4 1, 3) := by decide +kernel
theorem dX7_placeOf_44 : decode cX7_placeOf 44 = .ok (.goto (-39), 3) := by decide +kernel
theorem dX7_placeOf_47 : decode cX7_placeOf 47 = .ok (.bipush (-2), 2) := by decide +kernel
theorem dX7_placeOf_49 : decode cX7_placeOf 49 = .ok (.ireturn, 1) := by decide +kernel
theorem dX7_indexOf_0 : decode cX7_indexOf 0 = .ok (.ldc2_w 97, 3) := by decide +kernel
theorem dX7_indexOf_3 : decode cX7_indexOf 3 = .ok (.lstore_n 2, 1) := by decide +kernel
theorem dX7_indexOf_4 : decode cX7_indexOf 4 = .ok (.iconst 0, 1) := by decide +kernel
theorem dX7_indexOf_5 : decode cX7_indexOf 5 = .ok (.istore 4, 2) := by decide +kernel
theorem dX7_indexOf_7 : decode cX7_indexOf 7 = .ok (.iload 4, 2) := by decide +kernel
theorem dX7_indexOf_9 : decode cX7_indexOf 9 = .ok (.aload_n 0, 1) := by decide +kernel
theorem dX7_indexOf_10 : decode cX7_indexOf 10 = .ok (.getfield 9, 3) := by decide +kernel
theorem dX7_indexOf_13 : decode cX7_indexOf 13 = .ok (.if_icmp .ge 24, 3) := by decide +kernel
theorem dX7_indexOf_16 : decode cX7_indexOf 16 = .ok (.lload_n 2, 1) := by decide +kernel
theorem dX7_indexOf_17 : decode cX7_indexOf 17 = .ok (.aload_n 0, 1) := by decide +kernel
theorem dX7_indexOf_18 : decode cX7_indexOf 18 = .ok (.getfield 24, 3) := by decide +kernel
theorem dX7_indexOf_21 : decode cX7_indexOf 21 = .ok (.iload_n 1, 1) := by decide +kernel
theorem dX7_indexOf_22 : decode cX7_indexOf 22 = .ok (.aaload, 1) := by decide +kernel
theorem dX7_indexOf_23 : decode cX7_indexOf 23 = .ok (.iload 4, 2) := by decide +kernel
theorem dX7_indexOf_25 : decode cX7_indexOf 25 = .ok (.iaload, 1) := by decide +kernel
theorem dX7_indexOf_26 : decode cX7_indexOf 26 = .ok (.i2l, 1) := by decide +kernel
theorem dX7_indexOf_27 : decode cX7_indexOf 27 = .ok (.invokestatic 109, 3) := by decide +kernel
theorem dX7_indexOf_30 : decode cX7_indexOf 30 = .ok (.lstore_n 2, 1) := by decide +kernel
theorem dX7_indexOf_31 : decode cX7_indexOf 31 = .ok (.iinc 4 1, 3) := by decide +kernel
theorem dX7_indexOf_34 : decode cX7_indexOf 34 = .ok (.goto (-27), 3) := by decide +kernel
theorem dX7_indexOf_37 : decode cX7_indexOf 37 = .ok (.ldc2_w 97, 3) := by decide +kernel
theorem dX7_indexOf_40 : decode cX7_indexOf 40 = .ok (.lload_n 2, 1) := by decide +kernel
theorem dX7_indexOf_41 : decode cX7_indexOf 41 = .ok (.invokestatic 78, 3) := by decide +kernel
theorem dX7_indexOf_44 : decode cX7_indexOf 44 = .ok (.l2i, 1) := by decide +kernel
theorem dX7_indexOf_45 : decode cX7_indexOf 45 = .ok (.ireturn, 1) := by decide +kernel
theorem dX7_areAlike_0 : decode cX7_areAlike 0 = .ok (.iconst 1, 1) := by decide +kernel
theorem dX7_areAlike_1 : decode cX7_areAlike 1 = .ok (.istore_n 3, 1) := by decide +kernel
theorem dX7_areAlike_2 : decode cX7_areAlike 2 = .ok (.iconst 0, 1) := by decide +kernel
theorem dX7_areAlike_3 : decode cX7_areAlike 3 = .ok (.istore 4, 2) := by decide +kernel
theorem dX7_areAlike_5 : decode cX7_areAlike 5 = .ok (.iload 4, 2) := by decide +kernel
theorem dX7_areAlike_7 : decode cX7_areAlike 7 = .ok (.aload_n 0, 1) := by decide +kernel
theorem dX7_areAlike_8 : decode cX7_areAlike 8 = .ok (.getfield 9, 3) := by decide +kernel
theorem dX7_areAlike_11 : decode cX7_areAlike 11 = .ok (.if_icmp .ge 40, 3) := by decide +kernel
theorem dX7_areAlike_14 : decode cX7_areAlike 14 = .ok (.iload_n 3, 1) := by decide +kernel
theorem dX7_areAlike_15 : decode cX7_areAlike 15 = .ok (.ifCond .eq 36, 3) := by decide +kernel
theorem dX7_areAlike_18 : decode cX7_areAlike 18 = .ok (.aload_n 0, 1) := by decide +kernel
theorem dX7_areAlike_19 : decode cX7_areAlike 19 = .ok (.getfield 24, 3) := by decide +kernel
theorem dX7_areAlike_22 : decode cX7_areAlike 22 = .ok (.iload_n 1, 1) := by decide +kernel
theorem dX7_areAlike_23 : decode cX7_areAlike 23 = .ok (.aaload, 1) := by decide +kernel
theorem dX7_areAlike_24 : decode cX7_areAlike 24 = .ok (.iload 4, 2) := by decide +kernel
theorem dX7_areAlike_26 : decode cX7_areAlike 26 = .ok (.iaload, 1) := by decide +kernel
theorem dX7_areAlike_27 : decode cX7_areAlike 27 = .ok (.aload_n 0, 1) := by decide +kernel
theorem dX7_areAlike_28 : decode cX7_areAlike 28 = .ok (.getfield 24, 3) := by decide +kernel
theorem dX7_areAlike_31 : decode cX7_areAlike 31 = .ok (.iload_n 2, 1) := by decide +kernel
theorem dX7_areAlike_32 : decode cX7_areAlike 32 = .ok (.aaload, 1) := by decide +kernel
theorem dX7_areAlike_33 : decode cX7_areAlike 33 = .ok (.iload 4, 2) := by decide +kernel
theorem dX7_areAlike_35 : decode cX7_areAlike 35 = .ok (.iaload, 1) := by decide +kernel
theorem dX7_areAlike_36 : decode cX7_areAlike 36 = .ok (.if_icmp .ne 7, 3) := by decide +kernel
theorem dX7_areAlike_39 : decode cX7_areAlike 39 = .ok (.iconst 1, 1) := by decide +kernel
theorem dX7_areAlike_40 : decode cX7_areAlike 40 = .ok (.goto 4, 3) := by decide +kernel
theorem dX7_areAlike_43 : decode cX7_areAlike 43 = .ok (.iconst 0, 1) := by decide +kernel
theorem dX7_areAlike_44 : decode cX7_areAlike 44 = .ok (.istore_n 3, 1) := by decide +kernel
theorem dX7_areAlike_45 : decode cX7_areAlike 45 = .ok (.iinc 4 1, 3) := by decide +kernel
theorem dX7_areAlike_48 : decode cX7_areAlike 48 = .ok (.goto (-43), 3) := by decide +kernel
theorem dX7_areAlike_51 : decode cX7_areAlike 51 = .ok (.iload_n 3, 1) := by decide +kernel
theorem dX7_areAlike_52 : decode cX7_areAlike 52 = .ok (.ireturn, 1) := by decide +kernel
theorem dX7_product_0 : decode cX7_product 0 = .ok (.lconst 1, 1) := by decide +kernel
theorem dX7_product_1 : decode cX7_product 1 = .ok (.lstore_n 2, 1) := by decide +kernel
theorem dX7_product_2 : decode cX7_product 2 = .ok (.iconst 0, 1) := by decide +kernel
theorem dX7_product_3 : decode cX7_product 3 = .ok (.istore 4, 2) := by decide +kernel
theorem dX7_product_5 : decode cX7_product 5 = .ok (.iload 4, 2) := by decide +kernel
theorem dX7_product_7 : decode cX7_product 7 = .ok (.aload_n 0, 1) := by decide +kernel
theorem dX7_product_8 : decode cX7_product 8 = .ok (.getfield 9, 3) := by decide +kernel
theorem dX7_product_11 : decode cX7_product 11 = .ok (.if_icmp .ge 42, 3) := by decide +kernel
theorem dX7_product_14 : decode cX7_product 14 = .ok (.aload_n 0, 1) := by decide +kernel
theorem dX7_product_15 : decode cX7_product 15 = .ok (.getfield 18, 3) := by decide +kernel
theorem dX7_product_18 : decode cX7_product 18 = .ok (.iload 4, 2) := by decide +kernel
theorem dX7_product_20 : decode cX7_product 20 = .ok (.iaload, 1) := by decide +kernel
theorem dX7_product_21 : decode cX7_product 21 = .ok (.ifCond .eq 26, 3) := by decide +kernel
theorem dX7_product_24 : decode cX7_product 24 = .ok (.aload_n 0, 1) := by decide +kernel
theorem dX7_product_25 : decode cX7_product 25 = .ok (.getfield 24, 3) := by decide +kernel
theorem dX7_product_28 : decode cX7_product 28 = .ok (.iload_n 1, 1) := by decide +kernel
theorem dX7_product_29 : decode cX7_product 29 = .ok (.aaload, 1) := by decide +kernel
theorem dX7_product_30 : decode cX7_product 30 = .ok (.iload 4, 2) := by decide +kernel
theorem dX7_product_32 : decode cX7_product 32 = .ok (.iaload, 1) := by decide +kernel
theorem dX7_product_33 : decode cX7_product 33 = .ok (.ifCond .eq 14, 3) := by decide +kernel
theorem dX7_product_36 : decode cX7_product 36 = .ok (.lload_n 2, 1) := by decide +kernel
theorem dX7_product_37 : decode cX7_product 37 = .ok (.aload_n 0, 1) := by decide +kernel
theorem dX7_product_38 : decode cX7_product 38 = .ok (.getfield 18, 3) := by decide +kernel
theorem dX7_product_41 : decode cX7_product 41 = .ok (.iload 4, 2) := by decide +kernel
theorem dX7_product_43 : decode cX7_product 43 = .ok (.iaload, 1) := by decide +kernel
theorem dX7_product_44 : decode cX7_product 44 = .ok (.i2l, 1) := by decide +kernel
theorem dX7_product_45 : decode cX7_product 45 = .ok (.lmul, 1) := by decide +kernel
theorem dX7_product_46 : decode cX7_product 46 = .ok (.lstore_n 2, 1) := by decide +kernel
theorem dX7_product_47 : decode cX7_product 47 = .ok (.iinc 4 1, 3) := by decide +kernel
theorem dX7_product_50 : decode cX7_product 50 = .ok (.goto (-45), 3) := by decide +kernel
theorem dX7_product_53 : decode cX7_product 53 = .ok (.lload_n 2, 1) := by decide +kernel
theorem dX7_product_54 : decode cX7_product 54 = .ok (.lreturn, 1) := by decide +kernel
theorem dX10_isLetter_0 : decode cX10_isLetter 0 = .ok (.aload_n 0, 1) := by decide +kernel
theorem dX10_isLetter_1 : decode cX10_isLetter 1 = .ok (.getfield 9, 3) := by decide +kernel
theorem dX10_isLetter_4 : decode cX10_isLetter 4 = .ok (.iload_n 1, 1) := by decide +kernel
theorem dX10_isLetter_5 : decode cX10_isLetter 5 = .ok (.baload, 1) := by decide +kernel
theorem dX10_isLetter_6 : decode cX10_isLetter 6 = .ok (.bipush 97, 2) := by decide +kernel
theorem dX10_isLetter_8 : decode cX10_isLetter 8 = .ok (.if_icmp .lt 18, 3) := by decide +kernel
theorem dX10_isLetter_11 : decode cX10_isLetter 11 = .ok (.aload_n 0, 1) := by decide +kernel
theorem dX10_isLetter_12 : decode cX10_isLetter 12 = .ok (.getfield 9, 3) := by decide +kernel
theorem dX10_isLetter_15 : decode cX10_isLetter 15 = .ok (.iload_n 1, 1) := by decide +kernel
theorem dX10_isLetter_16 : decode cX10_isLetter 16 = .ok (.baload, 1) := by decide +kernel
theorem dX10_isLetter_17 : decode cX10_isLetter 17 = .ok (.bipush 122, 2) := by decide +kernel
theorem dX10_isLetter_19 : decode cX10_isLetter 19 = .ok (.if_icmp .gt 7, 3) := by decide +kernel
theorem dX10_isLetter_22 : decode cX10_isLetter 22 = .ok (.iconst 1, 1) := by decide +kernel
theorem dX10_isLetter_23 : decode cX10_isLetter 23 = .ok (.goto 4, 3) := by decide +kernel
theorem dX10_isLetter_26 : decode cX10_isLetter 26 = .ok (.iconst 0, 1) := by decide +kernel
theorem dX10_isLetter_27 : decode cX10_isLetter 27 = .ok (.ireturn, 1) := by decide +kernel
theorem dX10_isDigit_0 : decode cX10_isDigit 0 = .ok (.aload_n 0, 1) := by decide +kernel
theorem dX10_isDigit_1 : decode cX10_isDigit 1 = .ok (.getfield 9, 3) := by decide +kernel
theorem dX10_isDigit_4 : decode cX10_isDigit 4 = .ok (.iload_n 1, 1) := by decide +kernel
theorem dX10_isDigit_5 : decode cX10_isDigit 5 = .ok (.baload, 1) := by decide +kernel
theorem dX10_isDigit_6 : decode cX10_isDigit 6 = .ok (.bipush 48, 2) := by decide +kernel
theorem dX10_isDigit_8 : decode cX10_isDigit 8 = .ok (.if_icmp .lt 18, 3) := by decide +kernel
theorem dX10_isDigit_11 : decode cX10_isDigit 11 = .ok (.aload_n 0, 1) := by decide +kernel
theorem dX10_isDigit_12 : decode cX10_isDigit 12 = .ok (.getfield 9, 3) := by decide +kernel
theorem dX10_isDigit_15 : decode cX10_isDigit 15 = .ok (.iload_n 1, 1) := by decide +kernel
theorem dX10_isDigit_16 : decode cX10_isDigit 16 = .ok (.baload, 1) := by decide +kernel
theorem dX10_isDigit_17 : decode cX10_isDigit 17 = .ok (.bipush 57, 2) := by decide +kernel
theorem dX10_isDigit_19 : decode cX10_isDigit 19 = .ok (.if_icmp .gt 7, 3) := by decide +kernel
theorem dX10_isDigit_22 : decode cX10_isDigit 22 = .ok (.iconst 1, 1) := by decide +kernel
theorem dX10_isDigit_23 : decode cX10_isDigit 23 = .ok (.goto 4, 3) := by decide +kernel
theorem dX10_isDigit_26 : decode cX10_isDigit 26 = .ok (.iconst 0, 1) := by decide +kernel
theorem dX10_isDigit_27 : decode cX10_isDigit 27 = .ok (.ireturn, 1) := by decide +kernel
theorem dX10_takeRun_0 : decode cX10_takeRun 0 = .ok (.aload_n 0, 1) := by decide +kernel
theorem dX10_takeRun_1 : decode cX10_takeRun 1 = .ok (.aload_n 0, 1) := by decide +kernel
theorem dX10_takeRun_2 : decode cX10_takeRun 2 = .ok (.getfield 19, 3) := by decide +kernel
theorem dX10_takeRun_5 : decode cX10_takeRun 5 = .ok (.iconst 1, 1) := by decide +kernel
theorem dX10_takeRun_6 : decode cX10_takeRun 6 = .ok (.iadd, 1) := by decide +kernel
theorem dX10_takeRun_7 : decode cX10_takeRun 7 = .ok (.putfield 22, 3) := by decide +kernel
theorem dX10_takeRun_10 : decode cX10_takeRun 10 = .ok (.aload_n 0, 1) := by decide +kernel
theorem dX10_takeRun_11 : decode cX10_takeRun 11 = .ok (.getfield 22, 3) := by decide +kernel
theorem dX10_takeRun_14 : decode cX10_takeRun 14 = .ok (.aload_n 0, 1) := by decide +kernel
theorem dX10_takeRun_15 : decode cX10_takeRun 15 = .ok (.getfield 15, 3) := by decide +kernel
theorem dX10_takeRun_18 : decode cX10_takeRun 18 = .ok (.if_icmp .ge 46, 3) := by decide +kernel
theorem dX10_takeRun_21 : decode cX10_takeRun 21 = .ok (.iload_n 1, 1) := by decide +kernel
theorem dX10_takeRun_22 : decode cX10_takeRun 22 = .ok (.iconst 1, 1) := by decide +kernel
theorem dX10_takeRun_23 : decode cX10_takeRun 23 = .ok (.if_icmp .ne 17, 3) := by decide +kernel
theorem dX10_takeRun_26 : decode cX10_takeRun 26 = .ok (.aload_n 0, 1) := by decide +kernel
theorem dX10_takeRun_27 : decode cX10_takeRun 27 = .ok (.aload_n 0, 1) := by decide +kernel
theorem dX10_takeRun_28 : decode cX10_takeRun 28 = .ok (.getfield 22, 3) := by decide +kernel
theorem dX10_takeRun_31 : decode cX10_takeRun 31 = .ok (.invokevirtual 31, 3) := by decide +kernel
theorem dX10_takeRun_34 : decode cX10_takeRun 34 = .ok (.ifCond .eq 30, 3) := by decide +kernel
theorem dX10_takeRun_37 : decode cX10_takeRun 37 = .ok (.goto 14, 3) := by decide +kernel
theorem dX10_takeRun_40 : decode cX10_takeRun 40 = .ok (.aload_n 0, 1) := by decide +kernel
theorem dX10_takeRun_41 : decode cX10_takeRun 41 = .ok (.aload_n 0, 1) := by decide +kernel
theorem dX10_takeRun_42 : decode cX10_takeRun 42 = .ok (.getfield 22, 3) := by decide +kernel
theorem dX10_takeRun_45 : decode cX10_takeRun 45 = .ok (.invokevirtual 39, 3) := by decide +kernel
theorem dX10_takeRun_48 : decode cX10_takeRun 48 = .ok (.ifCond .eq 16, 3) := by decide +kernel
theorem dX10_takeRun_51 : decode cX10_takeRun 51 = .ok (.aload_n 0, 1) := by decide +kernel
theorem dX10_takeRun_52 : decode cX10_takeRun 52 = .ok (.dup, 1) := by decide +kernel
theorem dX10_takeRun_53 : decode cX10_takeRun 53 = .ok (.getfield 22, 3) := by decide +kernel
theorem dX10_takeRun_56 : decode cX10_takeRun 56 = .ok (.iconst 1, 1) := by decide +kernel
theorem dX10_takeRun_57 : decode cX10_takeRun 57 = .ok (.iadd, 1) := by decide +kernel
theorem dX10_takeRun_58 : decode cX10_takeRun 58 = .ok (.putfield 22, 3) := by decide +kernel
theorem dX10_takeRun_61 : decode cX10_takeRun 61 = .ok (.goto (-51), 3) := by decide +kernel
theorem dX10_takeRun_64 : decode cX10_takeRun 64 = .ok (.aload_n 0, 1) := by decide +kernel
theorem dX10_takeRun_65 : decode cX10_takeRun 65 = .ok (.iload_n 1, 1) := by decide +kernel
theorem dX10_takeRun_66 : decode cX10_takeRun 66 = .ok (.iconst 1, 1) := by decide +kernel
theorem dX10_takeRun_67 : decode cX10_takeRun 67 = .ok (.if_icmp .ne 22, 3) := by decide +kernel
theorem dX10_takeRun_70 : decode cX10_takeRun 70 = .ok (.aload_n 0, 1) := by decide +kernel
theorem dX10_takeRun_71 : decode cX10_takeRun 71 = .ok (.getfield 22, 3) := by decide +kernel
theorem dX10_takeRun_74 : decode cX10_takeRun 74 = .ok (.aload_n 0, 1) := by decide +kernel
theorem dX10_takeRun_75 : decode cX10_takeRun 75 = .ok (.getfield 19, 3) := by decide +kernel
theorem dX10_takeRun_78 : decode cX10_takeRun 78 = .ok (.isub, 1) := by decide +kernel
theorem dX10_takeRun_79 : decode cX10_takeRun 79 = .ok (.bipush 10, 2) := by decide +kernel
theorem dX10_takeRun_81 : decode cX10_takeRun 81 = .ok (.if_icmp .le 8, 3) := by decide +kernel
theorem dX10_takeRun_84 : decode cX10_takeRun 84 = .ok (.bipush 6, 2) := by decide +kernel
theorem dX10_takeRun_86 : decode cX10_takeRun 86 = .ok (.goto 4, 3) := by decide +kernel
theorem dX10_takeRun_89 : decode cX10_takeRun 89 = .ok (.iload_n 1, 1) := by decide +kernel
theorem dX10_takeRun_90 : decode cX10_takeRun 90 = .ok (.putfield 25, 3) := by decide +kernel
theorem dX10_takeRun_93 : decode cX10_takeRun 93 = .ok (.return_, 1) := by decide +kernel
theorem dX10_signKind_0 : decode cX10_signKind 0 = .ok (.iload_n 1, 1) := by decide +kernel
theorem dX10_signKind_1 : decode cX10_signKind 1 = .ok (.lookupswitch 41 #[(43, 35), (45, 37), (59, 39)], 35) := by decide +kernel
theorem dX10_signKind_36 : decode cX10_signKind 36 = .ok (.iconst 3, 1) := by decide +kernel
theorem dX10_signKind_37 : decode cX10_signKind 37 = .ok (.ireturn, 1) := by decide +kernel
theorem dX10_signKind_38 : decode cX10_signKind 38 = .ok (.iconst 4, 1) := by decide +kernel
theorem dX10_signKind_39 : decode cX10_signKind 39 = .ok (.ireturn, 1) := by decide +kernel
theorem dX10_signKind_40 : decode cX10_signKind 40 = .ok (.iconst 5, 1) := by decide +kernel
theorem dX10_signKind_41 : decode cX10_signKind 41 = .ok (.ireturn, 1) := by decide +kernel
theorem dX10_signKind_42 : decode cX10_signKind 42 = .ok (.bipush 6, 2) := by decide +kernel
theorem dX10_signKind_44 : decode cX10_signKind 44 = .ok (.ireturn, 1) := by decide +kernel
theorem dX10_step_0 : decode cX10_step 0 = .ok (.aload_n 0, 1) := by decide +kernel
theorem dX10_step_1 : decode cX10_step 1 = .ok (.aload_n 0, 1) := by decide +kernel
theorem dX10_step_2 : decode cX10_step 2 = .ok (.getfield 22, 3) := by decide +kernel
theorem dX10_step_5 : decode cX10_step 5 = .ok (.putfield 19, 3) := by decide +kernel
theorem dX10_step_8 : decode cX10_step 8 = .ok (.aload_n 0, 1) := by decide +kernel
theorem dX10_step_9 : decode cX10_step 9 = .ok (.getfield 19, 3) := by decide +kernel
theorem dX10_step_12 : decode cX10_step 12 = .ok (.aload_n 0, 1) := by decide +kernel
theorem dX10_step_13 : decode cX10_step 13 = .ok (.getfield 15, 3) := by decide +kernel
theorem dX10_step_16 : decode cX10_step 16 = .ok (.if_icmp .ge 44, 3) := by decide +kernel
theorem dX10_step_19 : decode cX10_step 19 = .ok (.aload_n 0, 1) := by decide +kernel
theorem dX10_step_20 : decode cX10_step 20 = .ok (.getfield 9, 3) := by decide +kernel
theorem dX10_step_23 : decode cX10_step 23 = .ok (.aload_n 0, 1) := by decide +kernel
theorem dX10_step_24 : decode cX10_step 24 = .ok (.getfield 19, 3) := by decide +kernel
theorem dX10_step_27 : decode cX10_step 27 = .ok (.baload, 1) := by decide +kernel
theorem dX10_step_28 : decode cX10_step 28 = .ok (.bipush 32, 2) := by decide +kernel
theorem dX10_step_30 : decode cX10_step 30 = .ok (.if_icmp .eq 17, 3) := by decide +kernel
theorem dX10_step_33 : decode cX10_step 33 = .ok (.aload_n 0, 1) := by decide +kernel
theorem dX10_step_34 : decode cX10_step 34 = .ok (.getfield 9, 3) := by decide +kernel
theorem dX10_step_37 : decode cX10_step 37 = .ok (.aload_n 0, 1) := by decide +kernel
theorem dX10_step_38 : decode cX10_step 38 = .ok (.getfield 19, 3) := by decide +kernel
theorem dX10_step_41 : decode cX10_step 41 = .ok (.baload, 1) := by decide +kernel
theorem dX10_step_42 : decode cX10_step 42 = .ok (.bipush 10, 2) := by decide +kernel
theorem dX10_step_44 : decode cX10_step 44 = .ok (.if_icmp .ne 16, 3) := by decide +kernel
theorem dX10_step_47 : decode cX10_step 47 = .ok (.aload_n 0, 1) := by decide +kernel
theorem dX10_step_48 : decode cX10_step 48 = .ok (.dup, 1) := by decide +kernel
theorem dX10_step_49 : decode cX10_step 49 = .ok (.getfield 19, 3) := by decide +kernel
theorem dX10_step_52 : decode cX10_step 52 = .ok (.iconst 1, 1) := by decide +kernel
theorem dX10_step_53 : decode cX10_step 53 = .ok (.iadd, 1) := by decide +kernel
theorem dX10_step_54 : decode cX10_step 54 = .ok (.putfield 19, 3) := by decide +kernel
theorem dX10_step_57 : decode cX10_step 57 = .ok (.goto (-49), 3) := by decide +kernel
theorem dX10_step_60 : decode cX10_step 60 = .ok (.aload_n 0, 1) := by decide +kernel
theorem dX10_step_61 : decode cX10_step 61 = .ok (.getfield 19, 3) := by decide +kernel
theorem dX10_step_64 : decode cX10_step 64 = .ok (.aload_n 0, 1) := by decide +kernel
theorem dX10_step_65 : decode cX10_step 65 = .ok (.getfield 15, 3) := by decide +kernel
theorem dX10_step_68 : decode cX10_step 68 = .ok (.if_icmp .lt 17, 3) := by decide +kernel
theorem dX10_step_71 : decode cX10_step 71 = .ok (.aload_n 0, 1) := by decide +kernel
theorem dX10_step_72 : decode cX10_step 72 = .ok (.iconst 0, 1) := by decide +kernel
theorem dX10_step_73 : decode cX10_step 73 = .ok (.putfield 25, 3) := by decide +kernel
theorem dX10_step_76 : decode cX10_step 76 = .ok (.aload_n 0, 1) := by decide +kernel
theorem dX10_step_77 : decode cX10_step 77 = .ok (.aload_n 0, 1) := by decide +kernel
theorem dX10_step_78 : decode cX10_step 78 = .ok (.getfield 19, 3) := by decide +kernel
theorem dX10_step_81 : decode cX10_step 81 = .ok (.putfield 22, 3) := by decide +kernel
theorem dX10_step_84 : decode cX10_step 84 = .ok (.return_, 1) := by decide +kernel
theorem dX10_step_85 : decode cX10_step 85 = .ok (.aload_n 0, 1) := by decide +kernel
theorem dX10_step_86 : decode cX10_step 86 = .ok (.aload_n 0, 1) := by decide +kernel
theorem dX10_step_87 : decode cX10_step 87 = .ok (.getfield 19, 3) := by decide +kernel
theorem dX10_step_90 : decode cX10_step 90 = .ok (.invokevirtual 31, 3) := by decide +kernel
theorem dX10_step_93 : decode cX10_step 93 = .ok (.ifCond .eq 11, 3) := by decide +kernel
theorem dX10_step_96 : decode cX10_step 96 = .ok (.aload_n 0, 1) := by decide +kernel
theorem dX10_step_97 : decode cX10_step 97 = .ok (.iconst 1, 1) := by decide +kernel
theorem dX10_step_98 : decode cX10_step 98 = .ok (.invokevirtual 35, 3) := by decide +kernel
theorem dX10_step_101 : decode cX10_step 101 = .ok (.goto 49, 3) := by decide +kernel
theorem dX10_step_104 : decode cX10_step 104 = .ok (.aload_n 0, 1) := by decide +kernel
theorem dX10_step_105 : decode cX10_step 105 = .ok (.aload_n 0, 1) := by decide +kernel
theorem dX10_step_106 : decode cX10_step 106 = .ok (.getfield 19, 3) := by decide +kernel
theorem dX10_step_109 : decode cX10_step 109 = .ok (.invokevirtual 39, 3) := by decide +kernel
theorem dX10_step_112 : decode cX10_step 112 = .ok (.ifCond .eq 11, 3) := by decide +kernel
theorem dX10_step_115 : decode cX10_step 115 = .ok (.aload_n 0, 1) := by decide +kernel
theorem dX10_step_116 : decode cX10_step 116 = .ok (.iconst 2, 1) := by decide +kernel
theorem dX10_step_117 : decode cX10_step 117 = .ok (.invokevirtual 35, 3) := by decide +kernel
theorem dX10_step_120 : decode cX10_step 120 = .ok (.goto 30, 3) := by decide +kernel
theorem dX10_step_123 : decode cX10_step 123 = .ok (.aload_n 0, 1) := by decide +kernel
theorem dX10_step_124 : decode cX10_step 124 = .ok (.aload_n 0, 1) := by decide +kernel
theorem dX10_step_125 : decode cX10_step 125 = .ok (.aload_n 0, 1) := by decide +kernel
theorem dX10_step_126 : decode cX10_step 126 = .ok (.getfield 9, 3) := by decide +kernel
theorem dX10_step_129 : decode cX10_step 129 = .ok (.aload_n 0, 1) := by decide +kernel
theorem dX10_step_130 : decode cX10_step 130 = .ok (.getfield 19, 3) := by decide +kernel
theorem dX10_step_133 : decode cX10_step 133 = .ok (.baload, 1) := by decide +kernel
theorem dX10_step_134 : decode cX10_step 134 = .ok (.invokevirtual 42, 3) := by decide +kernel
theorem dX10_step_137 : decode cX10_step 137 = .ok (.putfield 25, 3) := by decide +kernel
theorem dX10_step_140 : decode cX10_step 140 = .ok (.aload_n 0, 1) := by decide +kernel
theorem dX10_step_141 : decode cX10_step 141 = .ok (.aload_n 0, 1) := by decide +kernel
theorem dX10_step_142 : decode cX10_step 142 = .ok (.getfield 19, 3) := by decide +kernel
theorem dX10_step_145 : decode cX10_step 145 = .ok (.iconst 1, 1) := by decide +kernel
theorem dX10_step_146 : decode cX10_step 146 = .ok (.iadd, 1) := by decide +kernel
theorem dX10_step_147 : decode cX10_step 147 = .ok (.putfield 22, 3) := by decide +kernel
theorem dX10_step_150 : decode cX10_step 150 = .ok (.return_, 1) := by decide +kernel
theorem dX10_begin_0 : decode cX10_begin 0 = .ok (.aload_n 0, 1) := by decide +kernel
theorem dX10_begin_1 : decode cX10_begin 1 = .ok (.aload_n 1, 1) := by decide +kernel
theorem dX10_begin_2 : decode cX10_begin 2 = .ok (.putfield 9, 3) := by decide +kernel
theorem dX10_begin_5 : decode cX10_begin 5 = .ok (.aload_n 0, 1) := by decide +kernel
theorem dX10_begin_6 : decode cX10_begin 6 = .ok (.iload_n 2, 1) := by decide +kernel
theorem dX10_begin_7 : decode cX10_begin 7 = .ok (.aload_n 1, 1) := by decide +kernel
theorem dX10_begin_8 : decode cX10_begin 8 = .ok (.arraylength, 1) := by decide +kernel
theorem dX10_begin_9 : decode cX10_begin 9 = .ok (.if_icmp .ge 7, 3) := by decide +kernel
theorem dX10_begin_12 : decode cX10_begin 12 = .ok (.iload_n 2, 1) := by decide +kernel
theorem dX10_begin_13 : decode cX10_begin 13 = .ok (.goto 5, 3) := by decide +kernel
theorem dX10_begin_16 : decode cX10_begin 16 = .ok (.aload_n 1, 1) := by decide +kernel
theorem dX10_begin_17 : decode cX10_begin 17 = .ok (.arraylength, 1) := by decide +kernel
theorem dX10_begin_18 : decode cX10_begin 18 = .ok (.putfield 15, 3) := by decide +kernel
theorem dX10_begin_21 : decode cX10_begin 21 = .ok (.aload_n 0, 1) := by decide +kernel
theorem dX10_begin_22 : decode cX10_begin 22 = .ok (.iconst 0, 1) := by decide +kernel
theorem dX10_begin_23 : decode cX10_begin 23 = .ok (.putfield 22, 3) := by decide +kernel
theorem dX10_begin_26 : decode cX10_begin 26 = .ok (.aload_n 0, 1) := by decide +kernel
theorem dX10_begin_27 : decode cX10_begin 27 = .ok (.invokevirtual 28, 3) := by decide +kernel
theorem dX10_begin_30 : decode cX10_begin 30 = .ok (.return_, 1) := by decide +kernel
theorem dX10_start_0 : decode cX10_start 0 = .ok (.aload_n 0, 1) := by decide +kernel
theorem dX10_start_1 : decode cX10_start 1 = .ok (.getfield 19, 3) := by decide +kernel
theorem dX10_start_4 : decode cX10_start 4 = .ok (.ireturn, 1) := by decide +kernel
theorem dX8_refuse_0 : decode cX8_refuse 0 = .ok (.aload_n 0, 1) := by decide +kernel
theorem dX8_refuse_1 : decode cX8_refuse 1 = .ok (.bipush 8, 2) := by decide +kernel
theorem dX8_refuse_3 : decode cX8_refuse 3 = .ok (.aload_n 0, 1) := by decide +kernel
theorem dX8_refuse_4 : decode cX8_refuse 4 = .ok (.getfield 12, 3) := by decide +kernel
theorem dX8_refuse_7 : decode cX8_refuse 7 = .ok (.invokevirtual 48, 3) := by decide +kernel
theorem dX8_refuse_10 : decode cX8_refuse 10 = .ok (.imul, 1) := by decide +kernel
theorem dX8_refuse_11 : decode cX8_refuse 11 = .ok (.iload_n 1, 1) := by decide +kernel
theorem dX8_refuse_12 : decode cX8_refuse 12 = .ok (.iadd, 1) := by decide +kernel
theorem dX8_refuse_13 : decode cX8_refuse 13 = .ok (.putfield 25, 3) := by decide +kernel
theorem dX8_refuse_16 : decode cX8_refuse 16 = .ok (.iconst 0, 1) := by decide +kernel
theorem dX8_refuse_17 : decode cX8_refuse 17 = .ok (.ireturn, 1) := by decide +kernel
theorem dX10_is_0 : decode cX10_is 0 = .ok (.aload_n 0, 1) := by decide +kernel
theorem dX10_is_1 : decode cX10_is 1 = .ok (.getfield 25, 3) := by decide +kernel
theorem dX10_is_4 : decode cX10_is 4 = .ok (.iload_n 1, 1) := by decide +kernel
theorem dX10_is_5 : decode cX10_is 5 = .ok (.if_icmp .ne 7, 3) := by decide +kernel
theorem dX10_is_8 : decode cX10_is 8 = .ok (.iconst 1, 1) := by decide +kernel
theorem dX10_is_9 : decode cX10_is 9 = .ok (.goto 4, 3) := by decide +kernel
theorem dX10_is_12 : decode cX10_is 12 = .ok (.iconst 0, 1) := by decide +kernel
theorem dX10_is_13 : decode cX10_is 13 = .ok (.ireturn, 1) := by decide +kernel
def mX6_countOfNorm_B124 (v0 : Nat) (v1 : Int) (v6 : Int) (σ : mSt) : Option (Int × mSt) := some (v6, σ)
def mX6_countOfNorm_B91 (v0 : Nat) (v1 : Int) (v2 : Int) (v7 : Int) (c50 : Int → Int → mSt → Option (Int × mSt)) (x124 : Int → mSt → Option (Int × mSt)) (v6 : Int) (v9 : Int) (σ : mSt) : Option (Int × mSt) := mRef (σ v0 3) fun r1 => mG (ixOK r1 21 0) <| mRef (σ v0 3) fun r4 => mG (ixOK r4 21 0) <| mCall (mX6_countSecond v0 (v2 - ((σ r1 0) * (σ r4 0))) σ) fun b7 s8 => bnd (v6 + b7) fun a10 => bnd (v9 + 1) fun a12 => c50 a10 a12 s8
def mX6_countOfNorm_L61 (v0 : Nat) (v1 : Int) (v2 : Int) (v6 : Int) (v7 : Int) (v9 : Int) (x91 : mSt → Option (Int × mSt)) : Nat → Int → mSt → Option (Int × mSt)
  | 0, _, _ => none
  | n + 1, v11, σ => if 4 ≤ wI v11 then (x91 σ) else mRef (σ v0 3) fun r15 => mCall (mX6_numbersOf v0 0 σ) fun b17 s18 => mG (ixOK b17.toNat 21 v11) <| mG (ixOK r15 21 v11) <| bnd (upS s18 r15 (wI v11).toNat (v9 * (s18 b17.toNat (wI v11).toNat))) fun s22 => bnd (v11 + 1) fun a24 => mX6_countOfNorm_L61 v0 v1 v2 v6 v7 v9 x91 n a24 s22
def mX6_countOfNorm_L50 (v0 : Nat) (v1 : Int) (v2 : Int) (v7 : Int) (x124 : Int → mSt → Option (Int × mSt)) : Nat → Int → Int → mSt → Option (Int × mSt)
  | 0, _, _, _ => none
  | n + 1, v6, v9, σ => if wL v7 < wL v9 then (x124 v6 σ) else mX6_countOfNorm_L61 v0 v1 v2 v6 v7 v9 (fun zσ => mX6_countOfNorm_B91 v0 v1 v2 v7 (mX6_countOfNorm_L50 v0 v1 v2 v7 x124 n) x124 v6 v9 zσ) mF 0 σ
def mX6_countOfNorm (v0 : Nat) (v1 : Int) (σ : mSt) : Option (Int × mSt) := mG (isC v0 5) <| mCall (mX6_below v0 σ) fun b27 s28 => mCall (mX6_below v0 s28) fun b30 s31 => bnd (((wI v1) * b27) * b30) fun a33 => mCall (mX6_numbersOf v0 0 s31) fun b35 s36 => mG (ixOK b35.toNat 21 0) <| bnd (s36 b35.toNat 0) fun a39 => if 0 < wL a39 then (mCall (mX5_root a33 s36) fun b42 s43 => mCall (mX5_quotient b42 a39 s43) fun b45 s46 => bnd (-b45) fun a48 => mX6_countOfNorm_L50 v0 v1 a33 b45 (fun z6 zσ => mX6_countOfNorm_B124 v0 v1 z6 zσ) mF 0 a48 s46) else some (0, s36)
def mX7_note_B84 (v0 : Nat) (v1 : Int) (v2 : Int) (σ : mSt) : Option (Int × mSt) := mRef (σ v0 2) fun r1 => mG (ixOK r1 20 v2) <| bnd (upS σ r1 (wI v2).toNat v1) fun s4 => bnd (upS s4 v0 0 ((s4 v0 0) + 1)) fun s6 => some (0, s6)
def mX7_note_L59 (v0 : Nat) (v1 : Int) (v2 : Int) (x84 : mSt → Option (Int × mSt)) : Nat → Int → mSt → Option (Int × mSt)
  | 0, _, _ => none
  | n + 1, v3, σ => if wI v3 ≤ wI v2 then (x84 σ) else mRef (σ v0 2) fun r9 => mRef (σ v0 2) fun r11 => mG (ixOK r11 20 (v3 - 1)) <| mG (ixOK r9 20 v3) <| bnd (upS σ r9 (wI v3).toNat (σ r11 (wI (v3 - 1)).toNat)) fun s15 => bnd (v3 + (-1)) fun a17 => mX7_note_L59 v0 v1 v2 x84 n a17 s15
def mX7_note_B54 (v0 : Nat) (v1 : Int) (v2 : Int) (σ : mSt) : Option (Int × mSt) := bnd (σ v0 0) fun a19 => mX7_note_L59 v0 v1 v2 (fun zσ => mX7_note_B84 v0 v1 v2 zσ) mF a19 σ
def mX7_note_B26 (v0 : Nat) (v1 : Int) (v2 : Int) (σ : mSt) : Option (Int × mSt) := if 64 ≤ wI (σ v0 0) then (some (0, σ)) else if wI (σ v0 0) ≤ wI v2 then (mX7_note_B54 v0 v1 v2 σ) else mRef (σ v0 2) fun r23 => mG (ixOK r23 20 v2) <| if wI (σ r23 (wI v2).toNat) = wI v1 then (some (0, σ)) else mX7_note_B54 v0 v1 v2 σ
def mX7_note_L2 (v0 : Nat) (v1 : Int) (x26 : Int → mSt → Option (Int × mSt)) : Nat → Int → mSt → Option (Int × mSt)
  | 0, _, _ => none
  | n + 1, v2, σ => if wI (σ v0 0) ≤ wI v2 then (x26 v2 σ) else mRef (σ v0 2) fun r28 => mG (ixOK r28 20 v2) <| if wI v1 ≤ wI (σ r28 (wI v2).toNat) then (x26 v2 σ) else bnd (v2 + 1) fun a32 => mX7_note_L2 v0 v1 x26 n a32 σ
def mX7_note (v0 : Nat) (v1 : Int) (σ : mSt) : Option (Int × mSt) := mG (isC v0 6) <| mX7_note_L2 v0 v1 (fun z2 zσ => mX7_note_B26 v0 v1 z2 zσ) mF 0 σ
def mX7_noteDivisors_B62 (v0 : Nat) (v1 : Int) (σ : mSt) : Option (Int × mSt) := some (0, σ)
def mX7_noteDivisors_B56 (v0 : Nat) (v1 : Int) (c7 : Int → Int → mSt → Option (Int × mSt)) (x62 : mSt → Option (Int × mSt)) (v2 : Int) (v3 : Int) (σ : mSt) : Option (Int × mSt) := bnd (v3 + 1) fun a1 => c7 v2 a1 σ
def mX7_noteDivisors_L33 (v0 : Nat) (v1 : Int) (v3 : Int) (x56 : Int → mSt → Option (Int × mSt)) : Nat → Int → Int → mSt → Option (Int × mSt)
  | 0, _, _, _ => none
  | n + 1, v2, v4, σ => if 32 ≤ wI v4 then (x56 v2 σ) else mG (wI v3 ≠ 0) <| if wI ((wI v2).tmod (wI v3)) = 0 then (bnd ((wI v2).tdiv (wI v3)) fun a6 => bnd (v4 + 1) fun a8 => mX7_noteDivisors_L33 v0 v1 v3 x56 n a6 a8 σ) else x56 v2 σ
def mX7_noteDivisors_B30 (v0 : Nat) (v1 : Int) (c7 : Int → Int → mSt → Option (Int × mSt)) (x62 : mSt → Option (Int × mSt)) (v2 : Int) (v3 : Int) (σ : mSt) : Option (Int × mSt) := mX7_noteDivisors_L33 v0 v1 v3 (fun z2 zσ => mX7_noteDivisors_B56 v0 v1 c7 x62 z2 v3 zσ) mF v2 0 σ
def mX7_noteDivisors_L7 (v0 : Nat) (v1 : Int) (x62 : mSt → Option (Int × mSt)) : Nat → Int → Int → mSt → Option (Int × mSt)
  | 0, _, _, _ => none
  | n + 1, v2, v3, σ => if 999 < wI v3 then (x62 σ) else if wI v2 ≤ 1 then (x62 σ) else mG (wI v3 ≠ 0) <| if wI ((wI v2).tmod (wI v3)) = 0 then (mCall (mX7_note v0 v3 σ) fun b14 s15 => mX7_noteDivisors_B30 v0 v1 (mX7_noteDivisors_L7 v0 v1 x62 n) x62 v2 v3 s15) else mX7_noteDivisors_B30 v0 v1 (mX7_noteDivisors_L7 v0 v1 x62 n) x62 v2 v3 σ
def mX7_noteDivisors (v0 : Nat) (v1 : Int) (σ : mSt) : Option (Int × mSt) := mG (isC v0 6) <| mCall (mJ9_abs_0f7a4 v1 σ) fun b17 s18 => mX7_noteDivisors_L7 v0 v1 (fun zσ => mX7_noteDivisors_B62 v0 v1 zσ) mF b17 2 s18
def mX7_noteAll_B40 (v0 : Nat) (v1 : Nat) (v2 : Int) (σ : mSt) : Option (Int × mSt) := mCall (mX0_second v1 v2 σ) fun b1 s2 => mCall (mX7_noteDivisors v0 b1 s2) fun b4 s5 => some (0, s5)
def mX7_noteAll (v0 : Nat) (v1 : Nat) (v2 : Int) (σ : mSt) : Option (Int × mSt) := mG (isC v0 6) <| mCall (mX0_kind v1 v2 σ) fun b7 s8 => if wI b7 = 2 then (some (0, s8)) else mCall (mX0_kind v1 v2 s8) fun b11 s12 => if wI b11 = 1 then (mCall (mX0_first v1 v2 s12) fun b21 s22 => mCall (mX7_note v0 b21 s22) fun b24 s25 => mX7_noteAll_B40 v0 v1 v2 s25) else mCall (mX0_first v1 v2 s12) fun b15 s16 => mCall (mX7_noteDivisors v0 b15 s16) fun b18 s19 => mX7_noteAll_B40 v0 v1 v2 s19
def mX7_isRamified_B229 (v0 : Nat) (v1 : Int) (v2 : Int) (v3 : Int) (t0 : Int) (σ : mSt) : Option (Int × mSt) := mG (t0 = 0 ∨ t0 = 1) <| some (t0, σ)
def mX7_isRamified_B204 (v0 : Nat) (v1 : Int) (v2 : Int) (v3 : Int) (v4 : Int) (v8 : Int) (v10 : Int) (σ : mSt) : Option (Int × mSt) := if wI v4 = 1 then (mCall (mX5_isSquareModulo v8 v3 σ) fun b4 s5 => if wI b4 = 0 then (if wI v10 = 0 then (mX7_isRamified_B229 v0 v1 v2 v3 1 s5) else mX7_isRamified_B229 v0 v1 v2 v3 0 s5) else mG (v10 = 0 ∨ v10 = 1) <| some (v10, s5)) else mG (v10 = 0 ∨ v10 = 1) <| some (v10, σ)
def mX7_isRamified_B202 (v0 : Nat) (v1 : Int) (v2 : Int) (v3 : Int) (v4 : Int) (v8 : Int) (t0 : Int) (σ : mSt) : Option (Int × mSt) := mX7_isRamified_B204 v0 v1 v2 v3 v4 v8 t0 σ
def mX7_isRamified_B175 (v0 : Nat) (v1 : Int) (v2 : Int) (v3 : Int) (v4 : Int) (v5 : Int) (v6 : Int) (v8 : Int) (t0 : Int) (σ : mSt) : Option (Int × mSt) := if wI v5 = 1 then (mCall (mX5_isSquareModulo v6 v3 σ) fun b11 s12 => if wI b11 = 0 then (if wI t0 = 0 then (mX7_isRamified_B202 v0 v1 v2 v3 v4 v8 1 s12) else mX7_isRamified_B202 v0 v1 v2 v3 v4 v8 0 s12) else mX7_isRamified_B204 v0 v1 v2 v3 v4 v8 t0 s12) else mX7_isRamified_B204 v0 v1 v2 v3 v4 v8 t0 σ
def mX7_isRamified_B174 (v0 : Nat) (v1 : Int) (v2 : Int) (v3 : Int) (v4 : Int) (v5 : Int) (v6 : Int) (v8 : Int) (σ : mSt) : Option (Int × mSt) := mX7_isRamified_B175 v0 v1 v2 v3 v4 v5 v6 v8 0 σ
def mX7_isRamified_B72 (v0 : Nat) (v1 : Int) (v2 : Int) (v3 : Int) (v4 : Int) (v5 : Int) (v6 : Int) (t0 : Int) (σ : mSt) : Option (Int × mSt) := if wI v3 = 2 then (mG (wL 2 ≠ 0) <| mG (wL 8 ≠ 0) <| bnd (((((wL (v6 - 1)).tdiv (wL 2)) * ((wL (t0 - 1)).tdiv (wL 2))) + ((wI v4) * ((wL ((t0 * t0) - 1)).tdiv (wL 8)))) + ((wI v5) * ((wL ((v6 * v6) - 1)).tdiv (wL 8)))) fun a23 => if wL ((wL a23).tmod (wL 2)) = 0 then (some (0, σ)) else some (1, σ)) else if wI v4 = 1 then (if wI v5 = 1 then (mG (wI 2 ≠ 0) <| if wI ((wI ((wI (v3 - 1)).tdiv (wI 2))).tmod (wI 2)) = 1 then (mX7_isRamified_B175 v0 v1 v2 v3 v4 v5 v6 t0 1 σ) else mX7_isRamified_B174 v0 v1 v2 v3 v4 v5 v6 t0 σ) else mX7_isRamified_B174 v0 v1 v2 v3 v4 v5 v6 t0 σ) else mX7_isRamified_B174 v0 v1 v2 v3 v4 v5 v6 t0 σ
def mX7_isRamified_B52 (v0 : Nat) (v1 : Int) (v2 : Int) (v3 : Int) (v4 : Int) (v5 : Int) (t0 : Int) (σ : mSt) : Option (Int × mSt) := if wI v5 = 1 then (mCall (mX5_quotient (wI v2) (wI v3) σ) fun b27 s28 => mX7_isRamified_B72 v0 v1 v2 v3 v4 v5 t0 b27 s28) else mX7_isRamified_B72 v0 v1 v2 v3 v4 v5 t0 (wI v2) σ
def mX7_isRamified_B16 (v0 : Nat) (v1 : Int) (v2 : Int) (v3 : Int) (σ : mSt) : Option (Int × mSt) := some (0, σ)
def mX7_isRamified (v0 : Nat) (v1 : Int) (v2 : Int) (v3 : Int) (σ : mSt) : Option (Int × mSt) := mG (isC v0 6) <| if wI v3 = 0 then (if 0 ≤ wI v1 then (mX7_isRamified_B16 v0 v1 v2 v3 σ) else if 0 ≤ wI v2 then (mX7_isRamified_B16 v0 v1 v2 v3 σ) else some (1, σ)) else mCall (mX5_howOften v3 (wI v1) σ) fun b31 s32 => mCall (mX5_howOften v3 (wI v2) s32) fun b34 s35 => if wI b31 = 1 then (mCall (mX5_quotient (wI v1) (wI v3) s35) fun b38 s39 => mX7_isRamified_B52 v0 v1 v2 v3 b31 b34 b38 s39) else mX7_isRamified_B52 v0 v1 v2 v3 b31 b34 (wI v1) s35
def mX7_powerThatIs_B41 (v0 : Nat) (v1 : Int) (v2 : Int) (v3 : Int) (σ : mSt) : Option (Int × mSt) := some (0, σ)
def mX7_powerThatIs_L6 (v0 : Nat) (v1 : Int) (v2 : Int) (v3 : Int) (x41 : mSt → Option (Int × mSt)) : Nat → Int → Int → mSt → Option (Int × mSt)
  | 0, _, _, _ => none
  | n + 1, v4, v6, σ => if wI v3 ≤ wI v6 then (x41 σ) else mG (wL (wI v3) ≠ 0) <| bnd ((wL (v4 * (wI v2))).tmod (wL (wI v3))) fun a3 => mG (wI v3 ≠ 0) <| if wL a3 = wL (wI ((wI v1).tmod (wI v3))) then (some (v6, σ)) else bnd (v6 + 1) fun a7 => mX7_powerThatIs_L6 v0 v1 v2 v3 x41 n a3 a7 σ
def mX7_powerThatIs (v0 : Nat) (v1 : Int) (v2 : Int) (v3 : Int) (σ : mSt) : Option (Int × mSt) := mG (isC v0 6) <| mX7_powerThatIs_L6 v0 v1 v2 v3 (fun zσ => mX7_powerThatIs_B41 v0 v1 v2 v3 zσ) mF 1 1 σ
def mX7_leastGenerator_B28 (v0 : Nat) (v1 : Int) (σ : mSt) : Option (Int × mSt) := some (1, σ)
def mX7_leastGenerator_L2 (v0 : Nat) (v1 : Int) (x28 : mSt → Option (Int × mSt)) : Nat → Int → mSt → Option (Int × mSt)
  | 0, _, _ => none
  | n + 1, v2, σ => if wI v1 ≤ wI v2 then (x28 σ) else mCall (mX7_powerThatIs v0 1 v2 v1 σ) fun b2 s3 => if wI b2 = wI (v1 - 1) then (some (v2, s3)) else bnd (v2 + 1) fun a6 => mX7_leastGenerator_L2 v0 v1 x28 n a6 s3
def mX7_leastGenerator (v0 : Nat) (v1 : Int) (σ : mSt) : Option (Int × mSt) := mG (isC v0 6) <| mX7_leastGenerator_L2 v0 v1 (fun zσ => mX7_leastGenerator_B28 v0 v1 zσ) mF 2 σ
def mX7_reckonCyclic_B117 (v0 : Nat) (v1 : Int) (v2 : Int) (v3 : Int) (v5 : Int) (v6 : Int) (σ : mSt) : Option (Int × mSt) := if wI v6 = (-1) then (some (0, σ)) else mRef (σ v0 3) fun r2 => mG (ixOK r2 26 v1) <| mRef (σ r2 (wI v1).toNat) fun r5 => mCall (mX5_rest (wI (-v5)) 6 σ) fun b7 s8 => mG (ixOK r5 20 v6) <| bnd (upS s8 r5 (wI v6).toNat b7) fun s11 => some (0, s11)
def mX7_reckonCyclic_B97 (v0 : Nat) (v1 : Int) (v2 : Int) (v3 : Int) (v4 : Int) (c16 : Int → Int → Int → mSt → Option (Int × mSt)) (x117 : Int → Int → mSt → Option (Int × mSt)) (v5 : Int) (v6 : Int) (v7 : Int) (σ : mSt) : Option (Int × mSt) := mRef (σ v0 3) fun r13 => mG (ixOK r13 26 v1) <| mRef (σ r13 (wI v1).toNat) fun r16 => mG (ixOK r16 20 v7) <| bnd (v5 + (σ r16 (wI v7).toNat)) fun a19 => bnd (v7 + 1) fun a21 => c16 a19 v6 a21 σ
def mX7_reckonCyclic_L16 (v0 : Nat) (v1 : Int) (v2 : Int) (v3 : Int) (v4 : Int) (x117 : Int → Int → mSt → Option (Int × mSt)) : Nat → Int → Int → Int → mSt → Option (Int × mSt)
  | 0, _, _, _, _ => none
  | n + 1, v5, v6, v7, σ => if wI (σ v0 0) ≤ wI v7 then (x117 v5 v6 σ) else mRef (σ v0 2) fun r24 => mG (ixOK r24 20 v7) <| bnd (σ r24 (wI v7).toNat) fun a27 => mRef (σ v0 3) fun r29 => mG (ixOK r29 26 v1) <| mRef (σ r29 (wI v1).toNat) fun r32 => mG (ixOK r32 20 v7) <| bnd (upS σ r32 (wI v7).toNat 0) fun s35 => if wI a27 = wI v2 then (mX7_reckonCyclic_B97 v0 v1 v2 v3 v4 (mX7_reckonCyclic_L16 v0 v1 v2 v3 v4 x117 n) x117 v5 v7 v7 s35) else if wI a27 ≤ 1 then (mX7_reckonCyclic_B97 v0 v1 v2 v3 v4 (mX7_reckonCyclic_L16 v0 v1 v2 v3 v4 x117 n) x117 v5 v6 v7 s35) else mCall (mX5_howOften a27 (wI v3) s35) fun b39 s40 => mCall (mX7_powerThatIs v0 a27 v4 v2 s40) fun b42 s43 => bnd (b39 * b42) fun a45 => mRef (s43 v0 3) fun r47 => mG (ixOK r47 26 v1) <| mRef (s43 r47 (wI v1).toNat) fun r50 => mG (wI 3 ≠ 0) <| mG (ixOK r50 20 v7) <| bnd (upS s43 r50 (wI v7).toNat (2 * ((wI a45).tmod (wI 3)))) fun s54 => mX7_reckonCyclic_B97 v0 v1 v2 v3 v4 (mX7_reckonCyclic_L16 v0 v1 v2 v3 v4 x117 n) x117 v5 v6 v7 s54
def mX7_reckonCyclic (v0 : Nat) (v1 : Int) (v2 : Int) (v3 : Int) (σ : mSt) : Option (Int × mSt) := mG (isC v0 6) <| mCall (mX7_leastGenerator v0 v2 σ) fun b56 s57 => mX7_reckonCyclic_L16 v0 v1 v2 v3 b56 (fun z5 z6 zσ => mX7_reckonCyclic_B117 v0 v1 v2 v3 z5 z6 zσ) mF 0 (-1) 0 s57
def mX7_reckonSum_B89 (v0 : Nat) (v1 : Nat) (v2 : Int) (σ : mSt) : Option (Int × mSt) := some (0, σ)
def mX7_reckonSum_B66 (v0 : Nat) (v1 : Nat) (v2 : Int) (c2 : Int → mSt → Option (Int × mSt)) (x89 : mSt → Option (Int × mSt)) (v3 : Int) (v4 : Int) (σ : mSt) : Option (Int × mSt) := mRef (σ v0 3) fun r1 => mG (ixOK r1 26 v2) <| mRef (σ r1 (wI v2).toNat) fun r4 => mCall (mX5_rest v4 6 σ) fun b6 s7 => mG (ixOK r4 20 v3) <| bnd (upS s7 r4 (wI v3).toNat b6) fun s10 => bnd (v3 + 1) fun a12 => c2 a12 s10
def mX7_reckonSum_L16 (v0 : Nat) (v1 : Nat) (v2 : Int) (v3 : Int) (x66 : Int → mSt → Option (Int × mSt)) : Nat → Int → Int → mSt → Option (Int × mSt)
  | 0, _, _, _ => none
  | n + 1, v4, v6, σ => mCall (mX0_first v1 v2 σ) fun b14 s15 => if wI b14 ≤ wI v6 then (x66 v4 s15) else if 4 ≤ wI v6 then (x66 v4 s15) else mCall (mX0_sign v1 v2 v6 s15) fun b19 s20 => mRef (s20 v0 3) fun r22 => mCall (mX0_term v1 v2 v6 s20) fun b24 s25 => mG (ixOK r22 26 b24) <| mRef (s25 r22 (wI b24).toNat) fun r28 => mG (ixOK r28 20 v3) <| bnd (v4 + (wI (b19 * (s25 r28 (wI v3).toNat)))) fun a31 => bnd (v6 + 1) fun a33 => mX7_reckonSum_L16 v0 v1 v2 v3 x66 n a31 a33 s25
def mX7_reckonSum_L2 (v0 : Nat) (v1 : Nat) (v2 : Int) (x89 : mSt → Option (Int × mSt)) : Nat → Int → mSt → Option (Int × mSt)
  | 0, _, _ => none
  | n + 1, v3, σ => if wI (σ v0 0) ≤ wI v3 then (x89 σ) else mX7_reckonSum_L16 v0 v1 v2 v3 (fun z4 zσ => mX7_reckonSum_B66 v0 v1 v2 (mX7_reckonSum_L2 v0 v1 v2 x89 n) x89 v3 z4 zσ) mF 0 0 σ
def mX7_reckonSum (v0 : Nat) (v1 : Nat) (v2 : Int) (σ : mSt) : Option (Int × mSt) := mG (isC v0 6) <| mX7_reckonSum_L2 v0 v1 v2 (fun zσ => mX7_reckonSum_B89 v0 v1 v2 zσ) mF 0 σ
def mX7_reckonOne_B93 (v0 : Nat) (v1 : Nat) (v2 : Int) (σ : mSt) : Option (Int × mSt) := some (0, σ)
def mX7_reckonOne_L47 (v0 : Nat) (v1 : Nat) (v2 : Int) (v3 : Int) (v4 : Int) (x93 : mSt → Option (Int × mSt)) : Nat → Int → mSt → Option (Int × mSt)
  | 0, _, _ => none
  | n + 1, v5, σ => if wI (σ v0 0) ≤ wI v5 then (x93 σ) else mRef (σ v0 3) fun r2 => mG (ixOK r2 26 v2) <| mRef (σ r2 (wI v2).toNat) fun r5 => mRef (σ v0 2) fun r7 => mG (ixOK r7 20 v5) <| mCall (mX7_isRamified v0 v3 v4 (σ r7 (wI v5).toNat) σ) fun b10 s11 => if wI b10 = 0 then (mG (ixOK r5 20 v5) <| bnd (upS s11 r5 (wI v5).toNat 0) fun s15 => bnd (v5 + 1) fun a17 => mX7_reckonOne_L47 v0 v1 v2 v3 v4 x93 n a17 s15) else mG (ixOK r5 20 v5) <| bnd (upS s11 r5 (wI v5).toNat 3) fun s20 => bnd (v5 + 1) fun a22 => mX7_reckonOne_L47 v0 v1 v2 v3 v4 x93 n a22 s20
def mX7_reckonOne (v0 : Nat) (v1 : Nat) (v2 : Int) (σ : mSt) : Option (Int × mSt) := mG (isC v0 6) <| mCall (mX0_first v1 v2 σ) fun b24 s25 => mCall (mX0_second v1 v2 s25) fun b27 s28 => mCall (mX0_kind v1 v2 s28) fun b30 s31 => if wI b30 = 0 then (mX7_reckonOne_L47 v0 v1 v2 b24 b27 (fun zσ => mX7_reckonOne_B93 v0 v1 v2 zσ) mF 0 s31) else if wI b30 = 1 then (mCall (mX7_reckonCyclic v0 v2 b24 b27 s31) fun b35 s36 => some (0, s36)) else mCall (mX7_reckonSum v0 v1 v2 s31) fun b38 s39 => some (0, s39)
def mX7_reckon_B67 (v0 : Nat) (v1 : Nat) (σ : mSt) : Option (Int × mSt) := some (0, σ)
def mX7_reckon_L47 (v0 : Nat) (v1 : Nat) (x67 : mSt → Option (Int × mSt)) : Nat → Int → mSt → Option (Int × mSt)
  | 0, _, _ => none
  | n + 1, v2, σ => if wI (σ v0 1) ≤ wI v2 then (x67 σ) else mCall (mX7_reckonOne v0 v1 v2 σ) fun b2 s3 => bnd (v2 + 1) fun a5 => mX7_reckon_L47 v0 v1 x67 n a5 s3
def mX7_reckon_B45 (v0 : Nat) (v1 : Nat) (σ : mSt) : Option (Int × mSt) := mX7_reckon_L47 v0 v1 (fun zσ => mX7_reckon_B67 v0 v1 zσ) mF 0 σ
def mX7_reckon_L25 (v0 : Nat) (v1 : Nat) (x45 : mSt → Option (Int × mSt)) : Nat → Int → mSt → Option (Int × mSt)
  | 0, _, _ => none
  | n + 1, v2, σ => if wI (σ v0 1) ≤ wI v2 then (x45 σ) else mCall (mX7_noteAll v0 v1 v2 σ) fun b8 s9 => bnd (v2 + 1) fun a11 => mX7_reckon_L25 v0 v1 x45 n a11 s9
def mX7_reckon (v0 : Nat) (v1 : Nat) (σ : mSt) : Option (Int × mSt) := mG (isC v0 6) <| bnd (upS σ v0 0 0) fun s13 => mCall (mX0_size v1 s13) fun b15 s16 => bnd (upS s16 v0 1 b15) fun s18 => mCall (mX7_note v0 0 s18) fun b20 s21 => mCall (mX7_note v0 2 s21) fun b23 s24 => mX7_reckon_L25 v0 v1 (fun zσ => mX7_reckon_B45 v0 v1 zσ) mF 0 s24
def mX7_sixthsAt_B35 (v0 : Nat) (v1 : Int) (v2 : Int) (σ : mSt) : Option (Int × mSt) := some (0, σ)
def mX7_sixthsAt_L2 (v0 : Nat) (v1 : Int) (v2 : Int) (x35 : mSt → Option (Int × mSt)) : Nat → Int → mSt → Option (Int × mSt)
  | 0, _, _ => none
  | n + 1, v3, σ => if wI (σ v0 0) ≤ wI v3 then (x35 σ) else mRef (σ v0 2) fun r2 => mG (ixOK r2 20 v3) <| if wI (σ r2 (wI v3).toNat) = wI v2 then (mRef (σ v0 3) fun r8 => mG (ixOK r8 26 v1) <| mRef (σ r8 (wI v1).toNat) fun r11 => mG (ixOK r11 20 v3) <| some (σ r11 (wI v3).toNat, σ)) else bnd (v3 + 1) fun a6 => mX7_sixthsAt_L2 v0 v1 v2 x35 n a6 σ
def mX7_sixthsAt (v0 : Nat) (v1 : Int) (v2 : Int) (σ : mSt) : Option (Int × mSt) := mG (isC v0 6) <| mX7_sixthsAt_L2 v0 v1 v2 (fun zσ => mX7_sixthsAt_B35 v0 v1 v2 zσ) mF 0 σ
def mX7_howMany_B37 (v0 : Nat) (v1 : Int) (v2 : Int) (σ : mSt) : Option (Int × mSt) := some (v2, σ)
def mX7_howMany_L4 (v0 : Nat) (v1 : Int) (x37 : Int → mSt → Option (Int × mSt)) : Nat → Int → Int → mSt → Option (Int × mSt)
  | 0, _, _, _ => none
  | n + 1, v2, v3, σ => if wI (σ v0 0) ≤ wI v3 then (x37 v2 σ) else mRef (σ v0 3) fun r2 => mG (ixOK r2 26 v1) <| mRef (σ r2 (wI v1).toNat) fun r5 => mG (ixOK r5 20 v3) <| if wI (σ r5 (wI v3).toNat) = 0 then (bnd (v2 + 0) fun a9 => bnd (v3 + 1) fun a11 => mX7_howMany_L4 v0 v1 x37 n a9 a11 σ) else bnd (v2 + 1) fun a13 => bnd (v3 + 1) fun a15 => mX7_howMany_L4 v0 v1 x37 n a13 a15 σ
def mX7_howMany (v0 : Nat) (v1 : Int) (σ : mSt) : Option (Int × mSt) := mG (isC v0 6) <| mX7_howMany_L4 v0 v1 (fun z2 zσ => mX7_howMany_B37 v0 v1 z2 zσ) mF 0 0 σ
def mX7_placeOf_B47 (v0 : Nat) (v1 : Int) (v2 : Int) (σ : mSt) : Option (Int × mSt) := some ((-2), σ)
def mX7_placeOf_L5 (v0 : Nat) (v1 : Int) (v2 : Int) (x47 : mSt → Option (Int × mSt)) : Nat → Int → Int → mSt → Option (Int × mSt)
  | 0, _, _, _ => none
  | n + 1, v3, v4, σ => if wI (σ v0 0) ≤ wI v4 then (x47 σ) else mRef (σ v0 3) fun r2 => mG (ixOK r2 26 v1) <| mRef (σ r2 (wI v1).toNat) fun r5 => mG (ixOK r5 20 v4) <| if wI (σ r5 (wI v4).toNat) = 0 then (bnd (v4 + 1) fun a9 => mX7_placeOf_L5 v0 v1 v2 x47 n v3 a9 σ) else if wI v3 = 0 then (mRef (σ v0 2) fun r16 => mG (ixOK r16 20 v4) <| some (σ r16 (wI v4).toNat, σ)) else bnd (v3 + (-1)) fun a12 => bnd (v4 + 1) fun a14 => mX7_placeOf_L5 v0 v1 v2 x47 n a12 a14 σ
def mX7_placeOf (v0 : Nat) (v1 : Int) (v2 : Int) (σ : mSt) : Option (Int × mSt) := mG (isC v0 6) <| mX7_placeOf_L5 v0 v1 v2 (fun zσ => mX7_placeOf_B47 v0 v1 v2 zσ) mF v2 0 σ
def mX7_indexOf_B37 (v0 : Nat) (v1 : Int) (v2 : Int) (σ : mSt) : Option (Int × mSt) := mCall (mX5_quotient 6 v2 σ) fun b1 s2 => some (b1, s2)
def mX7_indexOf_L7 (v0 : Nat) (v1 : Int) (x37 : Int → mSt → Option (Int × mSt)) : Nat → Int → Int → mSt → Option (Int × mSt)
  | 0, _, _, _ => none
  | n + 1, v2, v4, σ => if wI (σ v0 0) ≤ wI v4 then (x37 v2 σ) else mRef (σ v0 3) fun r5 => mG (ixOK r5 26 v1) <| mRef (σ r5 (wI v1).toNat) fun r8 => mG (ixOK r8 20 v4) <| mCall (mX5_greatestDivisor v2 (wI (σ r8 (wI v4).toNat)) σ) fun b11 s12 => bnd (v4 + 1) fun a14 => mX7_indexOf_L7 v0 v1 x37 n b11 a14 s12
def mX7_indexOf (v0 : Nat) (v1 : Int) (σ : mSt) : Option (Int × mSt) := mG (isC v0 6) <| mX7_indexOf_L7 v0 v1 (fun z2 zσ => mX7_indexOf_B37 v0 v1 z2 zσ) mF 6 0 σ
def mX7_areAlike_B51 (v0 : Nat) (v1 : Int) (v2 : Int) (v3 : Int) (σ : mSt) : Option (Int × mSt) := mG (v3 = 0 ∨ v3 = 1) <| some (v3, σ)
def mX7_areAlike_L5 (v0 : Nat) (v1 : Int) (v2 : Int) (x51 : Int → mSt → Option (Int × mSt)) : Nat → Int → Int → mSt → Option (Int × mSt)
  | 0, _, _, _ => none
  | n + 1, v3, v4, σ => if wI (σ v0 0) ≤ wI v4 then (x51 v3 σ) else if wI v3 = 0 then (x51 v3 σ) else mRef (σ v0 3) fun r4 => mG (ixOK r4 26 v1) <| mRef (σ r4 (wI v1).toNat) fun r7 => mG (ixOK r7 20 v4) <| mRef (σ v0 3) fun r10 => mG (ixOK r10 26 v2) <| mRef (σ r10 (wI v2).toNat) fun r13 => mG (ixOK r13 20 v4) <| if wI (σ r7 (wI v4).toNat) = wI (σ r13 (wI v4).toNat) then (bnd (v4 + 1) fun a19 => mX7_areAlike_L5 v0 v1 v2 x51 n 1 a19 σ) else bnd (v4 + 1) fun a17 => mX7_areAlike_L5 v0 v1 v2 x51 n 0 a17 σ
def mX7_areAlike (v0 : Nat) (v1 : Int) (v2 : Int) (σ : mSt) : Option (Int × mSt) := mG (isC v0 6) <| mX7_areAlike_L5 v0 v1 v2 (fun z3 zσ => mX7_areAlike_B51 v0 v1 v2 z3 zσ) mF 1 0 σ
def mX7_product_B53 (v0 : Nat) (v1 : Int) (v2 : Int) (σ : mSt) : Option (Int × mSt) := some (v2, σ)
def mX7_product_L5 (v0 : Nat) (v1 : Int) (x53 : Int → mSt → Option (Int × mSt)) : Nat → Int → Int → mSt → Option (Int × mSt)
  | 0, _, _, _ => none
  | n + 1, v2, v4, σ => if wI (σ v0 0) ≤ wI v4 then (x53 v2 σ) else mRef (σ v0 2) fun r2 => mG (ixOK r2 20 v4) <| if wI (σ r2 (wI v4).toNat) = 0 then (bnd (v4 + 1) fun a6 => mX7_product_L5 v0 v1 x53 n v2 a6 σ) else mRef (σ v0 3) fun r8 => mG (ixOK r8 26 v1) <| mRef (σ r8 (wI v1).toNat) fun r11 => mG (ixOK r11 20 v4) <| if wI (σ r11 (wI v4).toNat) = 0 then (bnd (v4 + 1) fun a15 => mX7_product_L5 v0 v1 x53 n v2 a15 σ) else mRef (σ v0 2) fun r17 => mG (ixOK r17 20 v4) <| bnd (v2 * (wI (σ r17 (wI v4).toNat))) fun a20 => bnd (v4 + 1) fun a22 => mX7_product_L5 v0 v1 x53 n a20 a22 σ
def mX7_product (v0 : Nat) (v1 : Int) (σ : mSt) : Option (Int × mSt) := mG (isC v0 6) <| mX7_product_L5 v0 v1 (fun z2 zσ => mX7_product_B53 v0 v1 z2 zσ) mF 1 0 σ
def mX10_isLetter_B26 (v0 : Nat) (v1 : Int) (σ : mSt) : Option (Int × mSt) := some (0, σ)
def mX10_isLetter (v0 : Nat) (v1 : Int) (σ : mSt) : Option (Int × mSt) := mG (isC v0 9) <| mRef (σ v0 0) fun r1 => mG (ixOK r1 22 v1) <| if wI (σ r1 (wI v1).toNat) < 97 then (mX10_isLetter_B26 v0 v1 σ) else mRef (σ v0 0) fun r5 => mG (ixOK r5 22 v1) <| if 122 < wI (σ r5 (wI v1).toNat) then (mX10_isLetter_B26 v0 v1 σ) else some (1, σ)
def mX10_isDigit_B26 (v0 : Nat) (v1 : Int) (σ : mSt) : Option (Int × mSt) := some (0, σ)
def mX10_isDigit (v0 : Nat) (v1 : Int) (σ : mSt) : Option (Int × mSt) := mG (isC v0 9) <| mRef (σ v0 0) fun r1 => mG (ixOK r1 22 v1) <| if wI (σ r1 (wI v1).toNat) < 48 then (mX10_isDigit_B26 v0 v1 σ) else mRef (σ v0 0) fun r5 => mG (ixOK r5 22 v1) <| if 57 < wI (σ r5 (wI v1).toNat) then (mX10_isDigit_B26 v0 v1 σ) else some (1, σ)
def mX10_takeRun_B89 (v0 : Nat) (v1 : Int) (t0 : Nat) (σ : mSt) : Option (Int × mSt) := mG (isC t0 9) <| bnd (upS σ t0 4 v1) fun s2 => some (0, s2)
def mX10_takeRun_B64 (v0 : Nat) (v1 : Int) (σ : mSt) : Option (Int × mSt) := if wI v1 = 1 then (if wI ((σ v0 3) - (σ v0 2)) ≤ 10 then (mX10_takeRun_B89 v0 v1 v0 σ) else bnd (upS σ v0 4 6) fun s6 => some (0, s6)) else mX10_takeRun_B89 v0 v1 v0 σ
def mX10_takeRun_L10 (v0 : Nat) (v1 : Int) (x64 : mSt → Option (Int × mSt)) : Nat → mSt → Option (Int × mSt)
  | 0, _ => none
  | n + 1, σ => if wI (σ v0 1) ≤ wI (σ v0 3) then (x64 σ) else if wI v1 = 1 then (mCall (mX10_isLetter v0 (σ v0 3) σ) fun b16 s17 => if wI b16 = 0 then (x64 s17) else bnd (upS s17 v0 3 ((s17 v0 3) + 1)) fun s20 => mX10_takeRun_L10 v0 v1 x64 n s20) else mCall (mX10_isDigit v0 (σ v0 3) σ) fun b10 s11 => if wI b10 = 0 then (x64 s11) else bnd (upS s11 v0 3 ((s11 v0 3) + 1)) fun s14 => mX10_takeRun_L10 v0 v1 x64 n s14
def mX10_takeRun (v0 : Nat) (v1 : Int) (σ : mSt) : Option (Int × mSt) := mG (isC v0 9) <| bnd (upS σ v0 3 ((σ v0 2) + 1)) fun s22 => mX10_takeRun_L10 v0 v1 (fun zσ => mX10_takeRun_B64 v0 v1 zσ) mF s22
def mX10_signKind (v0 : Nat) (v1 : Int) (σ : mSt) : Option (Int × mSt) := mG (isC v0 9) <| if wI v1 = 43 then (some (3, σ)) else if wI v1 = 45 then (some (4, σ)) else if wI v1 = 59 then (some (5, σ)) else some (6, σ)
def mX10_step_B60 (v0 : Nat) (σ : mSt) : Option (Int × mSt) := if wI (σ v0 2) < wI (σ v0 1) then (mCall (mX10_isLetter v0 (σ v0 2) σ) fun b2 s3 => if wI b2 = 0 then (mCall (mX10_isDigit v0 (s3 v0 2) s3) fun b6 s7 => if wI b6 = 0 then (mRef (s7 v0 0) fun r10 => mG (ixOK r10 22 (s7 v0 2)) <| mCall (mX10_signKind v0 (s7 r10 (wI (s7 v0 2)).toNat) s7) fun b13 s14 => bnd (upS s14 v0 4 b13) fun s16 => bnd (upS s16 v0 3 ((s16 v0 2) + 1)) fun s18 => some (0, s18)) else mCall (mX10_takeRun v0 2 s7) fun b20 s21 => some (0, s21)) else mCall (mX10_takeRun v0 1 s3) fun b23 s24 => some (0, s24)) else bnd (upS σ v0 4 0) fun s26 => bnd (upS s26 v0 3 (s26 v0 2)) fun s28 => some (0, s28)
def mX10_step_L8 (v0 : Nat) (x60 : mSt → Option (Int × mSt)) : Nat → mSt → Option (Int × mSt)
  | 0, _ => none
  | n + 1, σ => if wI (σ v0 1) ≤ wI (σ v0 2) then (x60 σ) else mRef (σ v0 0) fun r31 => mG (ixOK r31 22 (σ v0 2)) <| if wI (σ r31 (wI (σ v0 2)).toNat) = 32 then (bnd (upS σ v0 2 ((σ v0 2) + 1)) fun s35 => mX10_step_L8 v0 x60 n s35) else mRef (σ v0 0) fun r37 => mG (ixOK r37 22 (σ v0 2)) <| if wI (σ r37 (wI (σ v0 2)).toNat) = 10 then (bnd (upS σ v0 2 ((σ v0 2) + 1)) fun s41 => mX10_step_L8 v0 x60 n s41) else x60 σ
def mX10_step (v0 : Nat) (σ : mSt) : Option (Int × mSt) := mG (isC v0 9) <| bnd (upS σ v0 2 (σ v0 3)) fun s43 => mX10_step_L8 v0 (fun zσ => mX10_step_B60 v0 zσ) mF s43
def mX10_begin_B18 (v0 : Nat) (v1 : Nat) (v2 : Int) (t0 : Nat) (t1 : Int) (σ : mSt) : Option (Int × mSt) := mG (isC t0 9) <| bnd (upS σ t0 1 t1) fun s2 => bnd (upS s2 v0 3 0) fun s4 => mCall (mX10_step v0 s4) fun b6 s7 => some (0, s7)
def mX10_begin (v0 : Nat) (v1 : Nat) (v2 : Int) (σ : mSt) : Option (Int × mSt) := mG (isC v0 9) <| mG (v1 ≠ 0) <| bnd (upS σ v0 0 (v1 : Int)) fun s10 => mG ((shp v1).1 = 20 ∨ (shp v1).1 = 21 ∨ (shp v1).1 = 22) <| if wI ((shp v1).2 : Int) ≤ wI v2 then (mX10_begin_B18 v0 v1 v2 v0 ((shp v1).2 : Int) s10) else mX10_begin_B18 v0 v1 v2 v0 v2 s10
def mX10_start (v0 : Nat) (σ : mSt) : Option (Int × mSt) := mG (isC v0 9) <| some (σ v0 2, σ)
def mX8_refuse (v0 : Nat) (v1 : Int) (σ : mSt) : Option (Int × mSt) := mG (isC v0 7) <| mRef (σ v0 0) fun r1 => mCall (mX10_start r1 σ) fun b3 s4 => bnd (upS s4 v0 2 ((8 * b3) + v1)) fun s6 => some (0, s6)
def mX10_is (v0 : Nat) (v1 : Int) (σ : mSt) : Option (Int × mSt) := mG (isC v0 9) <| if wI (σ v0 4) = wI v1 then (some (1, σ)) else some (0, σ)
set_option maxRecDepth 100000 in
set_option maxHeartbeats 4000000 in
theorem wX6_countOfNorm_B124 (l : Launch) (E : mE) (out : Int × mSt) {p : Program} {e : Env} {s : State} {m : MethodId} {args : Array Value} {below : List Frame} {meth : Method} {c : Code} (G : CallFix p m c cX6_countOfNorm 12 s args mTs RX6) (hr : meth.sig.returnType = (some .int)) (hk : meth.locks = false) (v0 : Nat) (v1 : Int) (g0 : isC v0 5) : ∀ (v6 : Int) (σ : mSt) (H : Heap) (locs : List Loc) (ls : Array Slot), mX6_countOfNorm_B124 v0 v1 v6 σ = some out → mM (mA E 276) E 276 σ s H locs → lv_has ls 12 [(6, vI v6)] → mGo l p e 5 149 s m args below meth c E (some (vI out.1)) out.2 H locs (F0 m 124 ls []) := by
  intro v6 σ H locs ls hm hM hl
  unfold mX6_countOfNorm_B124 at hm
  refine r_iload (np := 126) G hl 0 rfl dX6_countOfNorm_124 rfl ?_
  exact r_iret G hr hk hM hm dX6_countOfNorm_126
set_option maxRecDepth 100000 in
set_option maxHeartbeats 4000000 in
theorem wX6_countOfNorm_B91 (l : Launch) (E : mE) (out : Int × mSt) {p : Program} {e : Env} {s : State} {m : MethodId} {args : Array Value} {below : List Frame} {meth : Method} {c : Code} (G : CallFix p m c cX6_countOfNorm 12 s args mTs RX6) (hr : meth.sig.returnType = (some .int)) (hk : meth.locks = false) (v0 : Nat) (v1 : Int) (v2 : Int) (v7 : Int) (g0 : isC v0 5) (c50 : Int → Int → mSt → Option (Int × mSt)) (x124 : Int → mSt → Option (Int × mSt)) (hc50 : ∀ (v6 : Int) (v9 : Int) (σ : mSt) (H : Heap) (locs : List Loc) (ls : Array Slot), c50 v6 v9 σ = some out → mM (mA E 276) E 276 σ s H locs → lv_has ls 12 [(0, .ref (eA E v0)), (2, vL v2), (6, vI v6), (7, vL v7), (9, vL v9)] → mGo l p e 5 149 s m args below meth c E (some (vI out.1)) out.2 H locs (F0 m 50 ls [])) (hx124 : ∀ (v6 : Int) (σ : mSt) (H : Heap) (locs : List Loc) (ls : Array Slot), x124 v6 σ = some out → mM (mA E 276) E 276 σ s H locs → lv_has ls 12 [(6, vI v6)] → mGo l p e 5 149 s m args below meth c E (some (vI out.1)) out.2 H locs (F0 m 124 ls [])) : ∀ (v6 : Int) (v9 : Int) (σ : mSt) (H : Heap) (locs : List Loc) (ls : Array Slot), mX6_countOfNorm_B91 v0 v1 v2 v7 c50 x124 v6 v9 σ = some out → mM (mA E 276) E 276 σ s H locs → lv_has ls 12 [(0, .ref (eA E v0)), (2, vL v2), (6, vI v6), (7, vL v7), (9, vL v9)] → mGo l p e 5 149 s m args below meth c E (some (vI out.1)) out.2 H locs (F0 m 91 ls []) := by
  intro v6 v9 σ H locs ls hm hM hl
  unfold mX6_countOfNorm_B91 at hm
  refine r_iload (np := 93) G hl 2 rfl dX6_countOfNorm_91 rfl ?_
  refine r_aload_n (np := 94) G hl 0 rfl dX6_countOfNorm_93 rfl rfl ?_
  refine r_lload_n (np := 95) G hl 1 rfl dX6_countOfNorm_94 rfl rfl ?_
  refine r_aload_n (np := 96) G hl 0 rfl dX6_countOfNorm_95 rfl rfl ?_
  obtain ⟨r1, e2, hm⟩ := ref_t hm
  refine r_getR (np := 99) G hM (shp_lt g0 (by decide)) g0 e2 fdX6_3 lkX6_23 dX6_countOfNorm_96 rfl ?_
  refine r_iconst (np := 100) G 0 dX6_countOfNorm_99 rfl ?_
  obtain ⟨g3, hm⟩ := g_t hm
  refine r_laload (np := 101) G hM g3 rfl dX6_countOfNorm_100 rfl ?_
  refine r_aload_n (np := 102) G hl 0 rfl dX6_countOfNorm_101 rfl rfl ?_
  obtain ⟨r4, e5, hm⟩ := ref_t hm
  refine r_getR (np := 105) G hM (shp_lt g0 (by decide)) g0 e5 fdX6_3 lkX6_23 dX6_countOfNorm_102 rfl ?_
  refine r_iconst (np := 106) G 0 dX6_countOfNorm_105 rfl ?_
  obtain ⟨g6, hm⟩ := g_t hm
  refine r_laload (np := 107) G hM g6 rfl dX6_countOfNorm_106 rfl ?_
  refine r_lmul (np := 108) G dX6_countOfNorm_107 rfl ?_
  refine r_lsub (np := 109) G dX6_countOfNorm_108 rfl ?_
  obtain ⟨b7, s8, e9, hm⟩ := call_t hm
  refine m_callVI (np := 112) G hM hl.1 [vL (v2 - ((σ r1 0) * (σ r4 0)))] (qX6_countSecond l E σ v0 (v2 - ((σ r1 0) * (σ r4 0))) _ e9) myX6_countSecond (shp_lt (gX6_countSecond e9) (by decide)) (gX6_countSecond e9) rfl (by decide) lkX6_90 ⟨Nat.le_of_ble_eq_true rfl, Nat.le_of_ble_eq_true rfl⟩ ⟨Nat.le_of_ble_eq_true rfl, Nat.le_of_ble_eq_true rfl⟩ [vI v6] rfl (Nat.le_of_ble_eq_true rfl) dX6_countOfNorm_109 rfl (fun H locs hM => ?_)
  refine r_iadd (np := 113) G dX6_countOfNorm_112 rfl ?_
  obtain ⟨a10, e11, hm⟩ := bnd_t hm
  refine r_istore (np := 115) G hl e11 [(6, vI a10), (0, .ref (eA E v0)), (2, vL v2), (7, vL v7), (9, vL v9)] dX6_countOfNorm_113 rfl (by decide) rfl (fun ls hl => ?_)
  refine r_lload (np := 117) G hl 4 rfl dX6_countOfNorm_115 rfl ?_
  refine r_lconst (np := 118) G 1 dX6_countOfNorm_117 rfl rfl ?_
  refine r_ladd (np := 119) G dX6_countOfNorm_118 rfl ?_
  obtain ⟨a12, e13, hm⟩ := bnd_t hm
  refine r_lstore (np := 121) G hl e13 [(9, vL a12), (6, vI a10), (0, .ref (eA E v0)), (2, vL v2), (7, vL v7)] dX6_countOfNorm_119 rfl (by decide) rfl (fun ls hl => ?_)
  refine r_goto (np := 50) G dX6_countOfNorm_121 (by decide) ?_
  exact hc50 a10 a12 _ _ _ _ hm hM (lv_sub hl [2, 3, 1, 4, 0] rfl)
set_option maxRecDepth 100000 in
set_option maxHeartbeats 4000000 in
theorem wX6_countOfNorm_L61 (l : Launch) (E : mE) (out : Int × mSt) {p : Program} {e : Env} {s : State} {m : MethodId} {args : Array Value} {below : List Frame} {meth : Method} {c : Code} (G : CallFix p m c cX6_countOfNorm 12 s args mTs RX6) (hr : meth.sig.returnType = (some .int)) (hk : meth.locks = false) (v0 : Nat) (v1 : Int) (v2 : Int) (v6 : Int) (v7 : Int) (v9 : Int) (g0 : isC v0 5) (x91 : mSt → Option (Int × mSt)) (hx91 : ∀ (σ : mSt) (H : Heap) (locs : List Loc) (ls : Array Slot), x91 σ = some out → mM (mA E 276) E 276 σ s H locs → lv_has ls 12 [(0, .ref (eA E v0)), (2, vL v2), (6, vI v6), (7, vL v7), (9, vL v9)] → mGo l p e 5 149 s m args below meth c E (some (vI out.1)) out.2 H locs (F0 m 91 ls [])) : ∀ (n : Nat) (v11 : Int) (σ : mSt) (H : Heap) (locs : List Loc) (ls : Array Slot), mX6_countOfNorm_L61 v0 v1 v2 v6 v7 v9 x91 n v11 σ = some out → mM (mA E 276) E 276 σ s H locs → lv_has ls 12 [(0, .ref (eA E v0)), (2, vL v2), (6, vI v6), (7, vL v7), (9, vL v9), (11, vI v11)] → mGo l p e 5 149 s m args below meth c E (some (vI out.1)) out.2 H locs (F0 m 61 ls []) := by
  intro n
  induction n with
  | zero =>
    intro v11 σ H locs ls hm hM hl
    exact absurd hm (by rw [mX6_countOfNorm_L61.eq_1]; exact fun h => nomatch h)
  | succ n ih =>
    intro v11 σ H locs ls hm hM hl
    rw [mX6_countOfNorm_L61.eq_2] at hm
    refine r_iload (np := 63) G hl 5 rfl dX6_countOfNorm_61 rfl ?_
    refine r_iconst (np := 64) G 4 dX6_countOfNorm_63 rfl ?_
    refine r_icmp_ge (np := 67) (tgt := 91) G rfl (wIk 4 rfl) dX6_countOfNorm_64 (by decide) rfl (fun h14 => ?_) (fun h14 => ?_)
    · have hm := b_t h14 hm
      exact hx91 _ _ _ _ hm hM (lv_sub hl [0, 1, 2, 3, 4] rfl)
    · have hm := b_f h14 hm
      refine r_aload_n (np := 68) G hl 0 rfl dX6_countOfNorm_67 rfl rfl ?_
      obtain ⟨r15, e16, hm⟩ := ref_t hm
      refine r_getR (np := 71) G hM (shp_lt g0 (by decide)) g0 e16 fdX6_3 lkX6_23 dX6_countOfNorm_68 rfl ?_
      refine r_iload (np := 73) G hl 5 rfl dX6_countOfNorm_71 rfl ?_
      refine r_lload (np := 75) G hl 4 rfl dX6_countOfNorm_73 rfl ?_
      refine r_aload_n (np := 76) G hl 0 rfl dX6_countOfNorm_75 rfl rfl ?_
      refine r_iconst (np := 77) G 0 dX6_countOfNorm_76 rfl ?_
      obtain ⟨b17, s18, e19, hm⟩ := call_t hm
      refine m_callVR (np := 80) G hM hl.1 [vI 0] (qX6_numbersOf l E σ v0 0 _ e19) myX6_numbersOf (shp_lt (gX6_numbersOf e19) (by decide)) (gX6_numbersOf e19) rfl (by decide) lkX6_86 ⟨Nat.le_of_ble_eq_true rfl, Nat.le_of_ble_eq_true rfl⟩ ⟨Nat.le_of_ble_eq_true rfl, Nat.le_of_ble_eq_true rfl⟩ [vL v9, vI v11, .ref (eA E r15)] rfl (Nat.le_of_ble_eq_true rfl) dX6_countOfNorm_77 rfl (fun H locs hM => ?_)
      refine r_iload (np := 82) G hl 5 rfl dX6_countOfNorm_80 rfl ?_
      obtain ⟨g20, hm⟩ := g_t hm
      refine r_laload (np := 83) G hM g20 rfl dX6_countOfNorm_82 rfl ?_
      refine r_lmul (np := 84) G dX6_countOfNorm_83 rfl ?_
      obtain ⟨g21, hm⟩ := g_t hm
      obtain ⟨s22, e23, hm⟩ := bnd_t hm
      refine r_lastore (np := 85) G hM g21 rfl s22 e23 dX6_countOfNorm_84 rfl (fun H locs hM => ?_)
      obtain ⟨a24, e25, hm⟩ := bnd_t hm
      refine r_iinc (np := 88) G hl 5 rfl e25 [(11, vI a24), (0, .ref (eA E v0)), (2, vL v2), (6, vI v6), (7, vL v7), (9, vL v9)] dX6_countOfNorm_85 rfl (by decide) rfl (fun ls hl => ?_)
      refine r_goto (np := 61) G dX6_countOfNorm_88 (by decide) ?_
      exact ih a24 _ _ _ _ hm hM (lv_sub hl [1, 2, 3, 4, 5, 0] rfl)
set_option maxRecDepth 100000 in
set_option maxHeartbeats 4000000 in
theorem wX6_countOfNorm_L50 (l : Launch) (E : mE) (out : Int × mSt) {p : Program} {e : Env} {s : State} {m : MethodId} {args : Array Value} {below : List Frame} {meth : Method} {c : Code} (G : CallFix p m c cX6_countOfNorm 12 s args mTs RX6) (hr : meth.sig.returnType = (some .int)) (hk : meth.locks = false) (v0 : Nat) (v1 : Int) (v2 : Int) (v7 : Int) (g0 : isC v0 5) (x124 : Int → mSt → Option (Int × mSt)) (hx124 : ∀ (v6 : Int) (σ : mSt) (H : Heap) (locs : List Loc) (ls : Array Slot), x124 v6 σ = some out → mM (mA E 276) E 276 σ s H locs → lv_has ls 12 [(6, vI v6)] → mGo l p e 5 149 s m args below meth c E (some (vI out.1)) out.2 H locs (F0 m 124 ls [])) : ∀ (n : Nat) (v6 : Int) (v9 : Int) (σ : mSt) (H : Heap) (locs : List Loc) (ls : Array Slot), mX6_countOfNorm_L50 v0 v1 v2 v7 x124 n v6 v9 σ = some out → mM (mA E 276) E 276 σ s H locs → lv_has ls 12 [(0, .ref (eA E v0)), (2, vL v2), (6, vI v6), (7, vL v7), (9, vL v9)] → mGo l p e 5 149 s m args below meth c E (some (vI out.1)) out.2 H locs (F0 m 50 ls []) := by
  intro n
  induction n with
  | zero =>
    intro v6 v9 σ H locs ls hm hM hl
    exact absurd hm (by rw [mX6_countOfNorm_L50.eq_1]; exact fun h => nomatch h)
  | succ n ih =>
    intro v6 v9 σ H locs ls hm hM hl
    rw [mX6_countOfNorm_L50.eq_2] at hm
    refine r_lload (np := 52) G hl 4 rfl dX6_countOfNorm_50 rfl ?_
    refine r_lload (np := 54) G hl 3 rfl dX6_countOfNorm_52 rfl ?_
    refine r_lcmp_gt (np := 58) (tgt := 124) G rfl rfl dX6_countOfNorm_54 dX6_countOfNorm_55 (by decide) rfl (fun h26 => ?_) (fun h26 => ?_)
    · have hm := b_t h26 hm
      exact hx124 v6 _ _ _ _ hm hM (lv_sub hl [2] rfl)
    · have hm := b_f h26 hm
      refine r_iconst (np := 59) G 0 dX6_countOfNorm_58 rfl ?_
      refine r_istore (np := 61) G hl rfl [(11, vI 0), (0, .ref (eA E v0)), (2, vL v2), (6, vI v6), (7, vL v7), (9, vL v9)] dX6_countOfNorm_59 rfl (by decide) rfl (fun ls hl => ?_)
      exact wX6_countOfNorm_L61 l E out G hr hk v0 v1 v2 v6 v7 v9 g0 (fun zσ => mX6_countOfNorm_B91 v0 v1 v2 v7 (mX6_countOfNorm_L50 v0 v1 v2 v7 x124 n) x124 v6 v9 zσ) (fun zσ zH zl zs zm zM zv => wX6_countOfNorm_B91 l E out G hr hk v0 v1 v2 v7 g0 (mX6_countOfNorm_L50 v0 v1 v2 v7 x124 n) x124 ih hx124 v6 v9 zσ zH zl zs zm zM zv) mF 0 _ _ _ _ hm hM (lv_sub hl [1, 2, 3, 4, 5, 0] rfl)
set_option maxRecDepth 100000 in
set_option maxHeartbeats 4000000 in
theorem qX6_countOfNorm (l : Launch) (E : mE) (σ : mSt) (v0 : Nat) (v1 : Int) (out : Int × mSt) (hm : mX6_countOfNorm v0 v1 σ = some out) : mMet l yX6_countOfNorm cX6_countOfNorm 12 (some .int) 5 149 E 276 [.ref (eA E v0), vI v1] σ (some (vI out.1)) out.2 := by
  unfold mX6_countOfNorm at hm
  obtain ⟨g0, hm⟩ := g_t hm
  refine m_entry (by decide +kernel) (Nat.le_of_ble_eq_true rfl) (fun p e s m args below meth c G hr hk hM ls hl => ?_)
  have G : CallFix p m c cX6_countOfNorm 12 s args mTs RX6 := G
  have hl : lv_has ls 12 [(0, .ref (eA E v0)), (1, vI v1)] := hl
  refine r_iload_n (np := 1) G hl 1 rfl dX6_countOfNorm_0 rfl rfl ?_
  refine r_i2l (np := 2) G rfl dX6_countOfNorm_1 rfl ?_
  refine r_aload_n (np := 3) G hl 0 rfl dX6_countOfNorm_2 rfl rfl ?_
  obtain ⟨b27, s28, e29, hm⟩ := call_t hm
  refine m_callVL (np := 6) G hM hl.1 [] (qX6_below l E σ v0 _ e29) myX6_below (shp_lt (gX6_below e29) (by decide)) (gX6_below e29) rfl (by decide) lkX6_72 ⟨Nat.le_of_ble_eq_true rfl, Nat.le_of_ble_eq_true rfl⟩ ⟨Nat.le_of_ble_eq_true rfl, Nat.le_of_ble_eq_true rfl⟩ [vL (wI v1)] rfl (Nat.le_of_ble_eq_true rfl) dX6_countOfNorm_3 rfl (fun H locs hM => ?_)
  refine r_lmul (np := 7) G dX6_countOfNorm_6 rfl ?_
  refine r_aload_n (np := 8) G hl 0 rfl dX6_countOfNorm_7 rfl rfl ?_
  obtain ⟨b30, s31, e32, hm⟩ := call_t hm
  refine m_callVL (np := 11) G hM hl.1 [] (qX6_below l E s28 v0 _ e32) myX6_below (shp_lt (gX6_below e32) (by decide)) (gX6_below e32) rfl (by decide) lkX6_72 ⟨Nat.le_of_ble_eq_true rfl, Nat.le_of_ble_eq_true rfl⟩ ⟨Nat.le_of_ble_eq_true rfl, Nat.le_of_ble_eq_true rfl⟩ [vL ((wI v1) * b27)] rfl (Nat.le_of_ble_eq_true rfl) dX6_countOfNorm_8 rfl (fun H locs hM => ?_)
  refine r_lmul (np := 12) G dX6_countOfNorm_11 rfl ?_
  obtain ⟨a33, e34, hm⟩ := bnd_t hm
  refine r_lstore_n (np := 13) G hl e34 [(2, vL a33), (0, .ref (eA E v0)), (1, vI v1)] dX6_countOfNorm_12 rfl rfl (by decide) rfl (fun ls hl => ?_)
  refine r_aload_n (np := 14) G hl 1 rfl dX6_countOfNorm_13 rfl rfl ?_
  refine r_iconst (np := 15) G 0 dX6_countOfNorm_14 rfl ?_
  obtain ⟨b35, s36, e37, hm⟩ := call_t hm
  refine m_callVR (np := 18) G hM hl.1 [vI 0] (qX6_numbersOf l E s31 v0 0 _ e37) myX6_numbersOf (shp_lt (gX6_numbersOf e37) (by decide)) (gX6_numbersOf e37) rfl (by decide) lkX6_86 ⟨Nat.le_of_ble_eq_true rfl, Nat.le_of_ble_eq_true rfl⟩ ⟨Nat.le_of_ble_eq_true rfl, Nat.le_of_ble_eq_true rfl⟩ [] rfl (Nat.le_of_ble_eq_true rfl) dX6_countOfNorm_15 rfl (fun H locs hM => ?_)
  refine r_iconst (np := 19) G 0 dX6_countOfNorm_18 rfl ?_
  obtain ⟨g38, hm⟩ := g_t hm
  refine r_laload (np := 20) G hM g38 rfl dX6_countOfNorm_19 rfl ?_
  obtain ⟨a39, e40, hm⟩ := bnd_t hm
  refine r_lstore (np := 22) G hl e40 [(4, vL a39), (2, vL a33), (0, .ref (eA E v0)), (1, vI v1)] dX6_countOfNorm_20 rfl (by decide) rfl (fun ls hl => ?_)
  refine r_iconst (np := 23) G 0 dX6_countOfNorm_22 rfl ?_
  refine r_istore (np := 25) G hl rfl [(6, vI 0), (4, vL a39), (2, vL a33), (0, .ref (eA E v0)), (1, vI v1)] dX6_countOfNorm_23 rfl (by decide) rfl (fun ls hl => ?_)
  refine r_lload (np := 27) G hl 1 rfl dX6_countOfNorm_25 rfl ?_
  refine r_lconst (np := 28) G 0 dX6_countOfNorm_27 rfl rfl ?_
  refine r_lcmp_gt (np := 32) (tgt := 34) G rfl (wLk 0 rfl) dX6_countOfNorm_28 dX6_countOfNorm_29 (by decide) rfl (fun h41 => ?_) (fun h41 => ?_)
  · have hm := b_t h41 hm
    refine r_lload_n (np := 35) G hl 2 rfl dX6_countOfNorm_34 rfl rfl ?_
    obtain ⟨b42, s43, e44, hm⟩ := call_t hm
    refine m_callSL (np := 38) G hM hl.1 [vL a33] (qX5_root l E s36 a33 _ e44) myX5_root lkX6_87 ⟨Nat.le_of_ble_eq_true rfl, Nat.le_of_ble_eq_true rfl⟩ ⟨Nat.le_of_ble_eq_true rfl, Nat.le_of_ble_eq_true rfl⟩ [] rfl (Nat.le_of_ble_eq_true rfl) dX6_countOfNorm_35 rfl (fun H locs hM => ?_)
    refine r_lload (np := 40) G hl 1 rfl dX6_countOfNorm_38 rfl ?_
    obtain ⟨b45, s46, e47, hm⟩ := call_t hm
    refine m_callSL (np := 43) G hM hl.1 [vL b42, vL a39] (qX5_quotient l E s43 b42 a39 _ e47) myX5_quotient lkX6_60 ⟨Nat.le_of_ble_eq_true rfl, Nat.le_of_ble_eq_true rfl⟩ ⟨Nat.le_of_ble_eq_true rfl, Nat.le_of_ble_eq_true rfl⟩ [] rfl (Nat.le_of_ble_eq_true rfl) dX6_countOfNorm_40 rfl (fun H locs hM => ?_)
    refine r_lstore (np := 45) G hl rfl [(7, vL b45), (6, vI 0), (4, vL a39), (2, vL a33), (0, .ref (eA E v0)), (1, vI v1)] dX6_countOfNorm_43 rfl (by decide) rfl (fun ls hl => ?_)
    refine r_lload (np := 47) G hl 0 rfl dX6_countOfNorm_45 rfl ?_
    refine r_lneg (np := 48) G dX6_countOfNorm_47 rfl ?_
    obtain ⟨a48, e49, hm⟩ := bnd_t hm
    refine r_lstore (np := 50) G hl e49 [(9, vL a48), (7, vL b45), (6, vI 0), (4, vL a39), (2, vL a33), (0, .ref (eA E v0)), (1, vI v1)] dX6_countOfNorm_48 rfl (by decide) rfl (fun ls hl => ?_)
    exact wX6_countOfNorm_L50 l E out G hr hk v0 v1 a33 b45 g0 (fun z6 zσ => mX6_countOfNorm_B124 v0 v1 z6 zσ) (fun z6 zσ zH zl zs zm zM zv => wX6_countOfNorm_B124 l E out G hr hk v0 v1 g0 z6 zσ zH zl zs zm zM zv) mF 0 a48 _ _ _ _ hm hM (lv_sub hl [5, 4, 2, 1, 0] rfl)
  · have hm := b_f h41 hm
    refine r_iconst (np := 33) G 0 dX6_countOfNorm_32 rfl ?_
    exact r_iret G hr hk hM hm dX6_countOfNorm_33
theorem gX6_countOfNorm {v0 : Nat} {v1 : Int} {σ : mSt} {out : Int × mSt} (hm : mX6_countOfNorm v0 v1 σ = some out) : isC v0 5 := (g_t hm).1
set_option maxRecDepth 100000 in
set_option maxHeartbeats 4000000 in
theorem wX7_note_B84 (l : Launch) (E : mE) (out : Int × mSt) {p : Program} {e : Env} {s : State} {m : MethodId} {args : Array Value} {below : List Frame} {meth : Method} {c : Code} (G : CallFix p m c cX7_note 4 s args mTs RX7) (hr : meth.sig.returnType = none) (hk : meth.locks = false) (v0 : Nat) (v1 : Int) (g0 : isC v0 6) : ∀ (v2 : Int) (σ : mSt) (H : Heap) (locs : List Loc) (ls : Array Slot), mX7_note_B84 v0 v1 v2 σ = some out → mM (mA E 276) E 276 σ s H locs → lv_has ls 4 [(0, .ref (eA E v0)), (1, vI v1), (2, vI v2)] → mGo l p e 0 0 s m args below meth c E none out.2 H locs (F0 m 84 ls []) := by
  intro v2 σ H locs ls hm hM hl
  unfold mX7_note_B84 at hm
  refine r_aload_n (np := 85) G hl 0 rfl dX7_note_84 rfl rfl ?_
  obtain ⟨r1, e2, hm⟩ := ref_t hm
  refine r_getR (np := 88) G hM (shp_lt g0 (by decide)) g0 e2 fdX7_2 lkX7_18 dX7_note_85 rfl ?_
  refine r_iload_n (np := 89) G hl 2 rfl dX7_note_88 rfl rfl ?_
  refine r_iload_n (np := 90) G hl 1 rfl dX7_note_89 rfl rfl ?_
  obtain ⟨g3, hm⟩ := g_t hm
  obtain ⟨s4, e5, hm⟩ := bnd_t hm
  refine r_iastore (np := 91) G hM g3 rfl s4 e5 dX7_note_90 rfl (fun H locs hM => ?_)
  refine r_aload_n (np := 92) G hl 0 rfl dX7_note_91 rfl rfl ?_
  refine r_dup (np := 93) G dX7_note_92 rfl rfl ?_
  refine r_getI (np := 96) G hM (shp_lt g0 (by decide)) g0 fdX7_0 lkX7_9 dX7_note_93 rfl ?_
  refine r_iconst (np := 97) G 1 dX7_note_96 rfl ?_
  refine r_iadd (np := 98) G dX7_note_97 rfl ?_
  obtain ⟨s6, e7, hm⟩ := bnd_t hm
  refine r_putI (np := 101) G hM (shp_lt g0 (by decide)) g0 ptX7_0 rfl lkX7_9 s6 e7 dX7_note_98 rfl (fun H locs hM => ?_)
  exact r_vret G hr hk hM hm dX7_note_101
set_option maxRecDepth 100000 in
set_option maxHeartbeats 4000000 in
theorem wX7_note_L59 (l : Launch) (E : mE) (out : Int × mSt) {p : Program} {e : Env} {s : State} {m : MethodId} {args : Array Value} {below : List Frame} {meth : Method} {c : Code} (G : CallFix p m c cX7_note 4 s args mTs RX7) (hr : meth.sig.returnType = none) (hk : meth.locks = false) (v0 : Nat) (v1 : Int) (v2 : Int) (g0 : isC v0 6) (x84 : mSt → Option (Int × mSt)) (hx84 : ∀ (σ : mSt) (H : Heap) (locs : List Loc) (ls : Array Slot), x84 σ = some out → mM (mA E 276) E 276 σ s H locs → lv_has ls 4 [(0, .ref (eA E v0)), (1, vI v1), (2, vI v2)] → mGo l p e 0 0 s m args below meth c E none out.2 H locs (F0 m 84 ls [])) : ∀ (n : Nat) (v3 : Int) (σ : mSt) (H : Heap) (locs : List Loc) (ls : Array Slot), mX7_note_L59 v0 v1 v2 x84 n v3 σ = some out → mM (mA E 276) E 276 σ s H locs → lv_has ls 4 [(0, .ref (eA E v0)), (1, vI v1), (2, vI v2), (3, vI v3)] → mGo l p e 0 0 s m args below meth c E none out.2 H locs (F0 m 59 ls []) := by
  intro n
  induction n with
  | zero =>
    intro v3 σ H locs ls hm hM hl
    exact absurd hm (by rw [mX7_note_L59.eq_1]; exact fun h => nomatch h)
  | succ n ih =>
    intro v3 σ H locs ls hm hM hl
    rw [mX7_note_L59.eq_2] at hm
    refine r_iload_n (np := 60) G hl 3 rfl dX7_note_59 rfl rfl ?_
    refine r_iload_n (np := 61) G hl 2 rfl dX7_note_60 rfl rfl ?_
    refine r_icmp_le (np := 64) (tgt := 84) G rfl rfl dX7_note_61 (by decide) rfl (fun h8 => ?_) (fun h8 => ?_)
    · have hm := b_t h8 hm
      exact hx84 _ _ _ _ hm hM (lv_sub hl [0, 1, 2] rfl)
    · have hm := b_f h8 hm
      refine r_aload_n (np := 65) G hl 0 rfl dX7_note_64 rfl rfl ?_
      obtain ⟨r9, e10, hm⟩ := ref_t hm
      refine r_getR (np := 68) G hM (shp_lt g0 (by decide)) g0 e10 fdX7_2 lkX7_18 dX7_note_65 rfl ?_
      refine r_iload_n (np := 69) G hl 3 rfl dX7_note_68 rfl rfl ?_
      refine r_aload_n (np := 70) G hl 0 rfl dX7_note_69 rfl rfl ?_
      obtain ⟨r11, e12, hm⟩ := ref_t hm
      refine r_getR (np := 73) G hM (shp_lt g0 (by decide)) g0 e12 fdX7_2 lkX7_18 dX7_note_70 rfl ?_
      refine r_iload_n (np := 74) G hl 3 rfl dX7_note_73 rfl rfl ?_
      refine r_iconst (np := 75) G 1 dX7_note_74 rfl ?_
      refine r_isub (np := 76) G dX7_note_75 rfl ?_
      obtain ⟨g13, hm⟩ := g_t hm
      refine r_iaload (np := 77) G hM g13 rfl dX7_note_76 rfl ?_
      obtain ⟨g14, hm⟩ := g_t hm
      obtain ⟨s15, e16, hm⟩ := bnd_t hm
      refine r_iastore (np := 78) G hM g14 rfl s15 e16 dX7_note_77 rfl (fun H locs hM => ?_)
      obtain ⟨a17, e18, hm⟩ := bnd_t hm
      refine r_iinc (np := 81) G hl 3 rfl e18 [(3, vI a17), (0, .ref (eA E v0)), (1, vI v1), (2, vI v2)] dX7_note_78 rfl (by decide) rfl (fun ls hl => ?_)
      refine r_goto (np := 59) G dX7_note_81 (by decide) ?_
      exact ih a17 _ _ _ _ hm hM (lv_sub hl [1, 2, 3, 0] rfl)
set_option maxRecDepth 100000 in
set_option maxHeartbeats 4000000 in
theorem wX7_note_B54 (l : Launch) (E : mE) (out : Int × mSt) {p : Program} {e : Env} {s : State} {m : MethodId} {args : Array Value} {below : List Frame} {meth : Method} {c : Code} (G : CallFix p m c cX7_note 4 s args mTs RX7) (hr : meth.sig.returnType = none) (hk : meth.locks = false) (v0 : Nat) (v1 : Int) (g0 : isC v0 6) : ∀ (v2 : Int) (σ : mSt) (H : Heap) (locs : List Loc) (ls : Array Slot), mX7_note_B54 v0 v1 v2 σ = some out → mM (mA E 276) E 276 σ s H locs → lv_has ls 4 [(0, .ref (eA E v0)), (1, vI v1), (2, vI v2)] → mGo l p e 0 0 s m args below meth c E none out.2 H locs (F0 m 54 ls []) := by
  intro v2 σ H locs ls hm hM hl
  unfold mX7_note_B54 at hm
  refine r_aload_n (np := 55) G hl 0 rfl dX7_note_54 rfl rfl ?_
  refine r_getI (np := 58) G hM (shp_lt g0 (by decide)) g0 fdX7_0 lkX7_9 dX7_note_55 rfl ?_
  obtain ⟨a19, e20, hm⟩ := bnd_t hm
  refine r_istore_n (np := 59) G hl e20 [(3, vI a19), (0, .ref (eA E v0)), (1, vI v1), (2, vI v2)] dX7_note_58 rfl rfl (by decide) rfl (fun ls hl => ?_)
  exact wX7_note_L59 l E out G hr hk v0 v1 v2 g0 (fun zσ => mX7_note_B84 v0 v1 v2 zσ) (fun zσ zH zl zs zm zM zv => wX7_note_B84 l E out G hr hk v0 v1 g0 v2 zσ zH zl zs zm zM zv) mF a19 _ _ _ _ hm hM (lv_sub hl [1, 2, 3, 0] rfl)
set_option maxRecDepth 100000 in
set_option maxHeartbeats 4000000 in
theorem wX7_note_B26 (l : Launch) (E : mE) (out : Int × mSt) {p : Program} {e : Env} {s : State} {m : MethodId} {args : Array Value} {below : List Frame} {meth : Method} {c : Code} (G : CallFix p m c cX7_note 4 s args mTs RX7) (hr : meth.sig.returnType = none) (hk : meth.locks = false) (v0 : Nat) (v1 : Int) (g0 : isC v0 6) : ∀ (v2 : Int) (σ : mSt) (H : Heap) (locs : List Loc) (ls : Array Slot), mX7_note_B26 v0 v1 v2 σ = some out → mM (mA E 276) E 276 σ s H locs → lv_has ls 4 [(0, .ref (eA E v0)), (1, vI v1), (2, vI v2)] → mGo l p e 0 0 s m args below meth c E none out.2 H locs (F0 m 26 ls []) := by
  intro v2 σ H locs ls hm hM hl
  unfold mX7_note_B26 at hm
  refine r_aload_n (np := 27) G hl 0 rfl dX7_note_26 rfl rfl ?_
  refine r_getI (np := 30) G hM (shp_lt g0 (by decide)) g0 fdX7_0 lkX7_9 dX7_note_27 rfl ?_
  refine r_bipush (np := 32) G 64 dX7_note_30 (by decide) rfl ?_
  refine r_icmp_ge (np := 35) (tgt := 53) G rfl (wIk 64 rfl) dX7_note_32 (by decide) rfl (fun h21 => ?_) (fun h21 => ?_)
  · have hm := b_t h21 hm
    exact r_vret G hr hk hM hm dX7_note_53
  · have hm := b_f h21 hm
    refine r_iload_n (np := 36) G hl 2 rfl dX7_note_35 rfl rfl ?_
    refine r_aload_n (np := 37) G hl 0 rfl dX7_note_36 rfl rfl ?_
    refine r_getI (np := 40) G hM (shp_lt g0 (by decide)) g0 fdX7_0 lkX7_9 dX7_note_37 rfl ?_
    refine r_icmp_ge (np := 43) (tgt := 54) G rfl rfl dX7_note_40 (by decide) rfl (fun h22 => ?_) (fun h22 => ?_)
    · have hm := b_t h22 hm
      exact wX7_note_B54 l E out G hr hk v0 v1 g0 v2 _ _ _ _ hm hM (lv_sub hl [0, 1, 2] rfl)
    · have hm := b_f h22 hm
      refine r_aload_n (np := 44) G hl 0 rfl dX7_note_43 rfl rfl ?_
      obtain ⟨r23, e24, hm⟩ := ref_t hm
      refine r_getR (np := 47) G hM (shp_lt g0 (by decide)) g0 e24 fdX7_2 lkX7_18 dX7_note_44 rfl ?_
      refine r_iload_n (np := 48) G hl 2 rfl dX7_note_47 rfl rfl ?_
      obtain ⟨g25, hm⟩ := g_t hm
      refine r_iaload (np := 49) G hM g25 rfl dX7_note_48 rfl ?_
      refine r_iload_n (np := 50) G hl 1 rfl dX7_note_49 rfl rfl ?_
      refine r_icmp_ne (np := 53) (tgt := 54) G rfl rfl dX7_note_50 (by decide) rfl (fun h26 => ?_) (fun h26 => ?_)
      · have hm := b_f h26 hm
        exact wX7_note_B54 l E out G hr hk v0 v1 g0 v2 _ _ _ _ hm hM (lv_sub hl [0, 1, 2] rfl)
      · have hm := b_t h26 hm
        exact r_vret G hr hk hM hm dX7_note_53
set_option maxRecDepth 100000 in
set_option maxHeartbeats 4000000 in
theorem wX7_note_L2 (l : Launch) (E : mE) (out : Int × mSt) {p : Program} {e : Env} {s : State} {m : MethodId} {args : Array Value} {below : List Frame} {meth : Method} {c : Code} (G : CallFix p m c cX7_note 4 s args mTs RX7) (hr : meth.sig.returnType = none) (hk : meth.locks = false) (v0 : Nat) (v1 : Int) (g0 : isC v0 6) (x26 : Int → mSt → Option (Int × mSt)) (hx26 : ∀ (v2 : Int) (σ : mSt) (H : Heap) (locs : List Loc) (ls : Array Slot), x26 v2 σ = some out → mM (mA E 276) E 276 σ s H locs → lv_has ls 4 [(0, .ref (eA E v0)), (1, vI v1), (2, vI v2)] → mGo l p e 0 0 s m args below meth c E none out.2 H locs (F0 m 26 ls [])) : ∀ (n : Nat) (v2 : Int) (σ : mSt) (H : Heap) (locs : List Loc) (ls : Array Slot), mX7_note_L2 v0 v1 x26 n v2 σ = some out → mM (mA E 276) E 276 σ s H locs → lv_has ls 4 [(0, .ref (eA E v0)), (1, vI v1), (2, vI v2)] → mGo l p e 0 0 s m args below meth c E none out.2 H locs (F0 m 2 ls []) := by
  intro n
  induction n with
  | zero =>
    intro v2 σ H locs ls hm hM hl
    exact absurd hm (by rw [mX7_note_L2.eq_1]; exact fun h => nomatch h)
  | succ n ih =>
    intro v2 σ H locs ls hm hM hl
    rw [mX7_note_L2.eq_2] at hm
    refine r_iload_n (np := 3) G hl 2 rfl dX7_note_2 rfl rfl ?_
    refine r_aload_n (np := 4) G hl 0 rfl dX7_note_3 rfl rfl ?_
    refine r_getI (np := 7) G hM (shp_lt g0 (by decide)) g0 fdX7_0 lkX7_9 dX7_note_4 rfl ?_
    refine r_icmp_ge (np := 10) (tgt := 26) G rfl rfl dX7_note_7 (by decide) rfl (fun h27 => ?_) (fun h27 => ?_)
    · have hm := b_t h27 hm
      exact hx26 v2 _ _ _ _ hm hM (lv_sub hl [0, 1, 2] rfl)
    · have hm := b_f h27 hm
      refine r_aload_n (np := 11) G hl 0 rfl dX7_note_10 rfl rfl ?_
      obtain ⟨r28, e29, hm⟩ := ref_t hm
      refine r_getR (np := 14) G hM (shp_lt g0 (by decide)) g0 e29 fdX7_2 lkX7_18 dX7_note_11 rfl ?_
      refine r_iload_n (np := 15) G hl 2 rfl dX7_note_14 rfl rfl ?_
      obtain ⟨g30, hm⟩ := g_t hm
      refine r_iaload (np := 16) G hM g30 rfl dX7_note_15 rfl ?_
      refine r_iload_n (np := 17) G hl 1 rfl dX7_note_16 rfl rfl ?_
      refine r_icmp_ge (np := 20) (tgt := 26) G rfl rfl dX7_note_17 (by decide) rfl (fun h31 => ?_) (fun h31 => ?_)
      · have hm := b_t h31 hm
        exact hx26 v2 _ _ _ _ hm hM (lv_sub hl [0, 1, 2] rfl)
      · have hm := b_f h31 hm
        obtain ⟨a32, e33, hm⟩ := bnd_t hm
        refine r_iinc (np := 23) G hl 2 rfl e33 [(2, vI a32), (0, .ref (eA E v0)), (1, vI v1)] dX7_note_20 rfl (by decide) rfl (fun ls hl => ?_)
        refine r_goto (np := 2) G dX7_note_23 (by decide) ?_
        exact ih a32 _ _ _ _ hm hM (lv_sub hl [1, 2, 0] rfl)
set_option maxRecDepth 100000 in
set_option maxHeartbeats 4000000 in
theorem qX7_note (l : Launch) (E : mE) (σ : mSt) (v0 : Nat) (v1 : Int) (out : Int × mSt) (hm : mX7_note v0 v1 σ = some out) : mMet l yX7_note cX7_note 4 none 0 0 E 276 [.ref (eA E v0), vI v1] σ none out.2 := by
  unfold mX7_note at hm
  obtain ⟨g0, hm⟩ := g_t hm
  refine m_entry (by decide +kernel) (Nat.le_of_ble_eq_true rfl) (fun p e s m args below meth c G hr hk hM ls hl => ?_)
  have G : CallFix p m c cX7_note 4 s args mTs RX7 := G
  have hl : lv_has ls 4 [(0, .ref (eA E v0)), (1, vI v1)] := hl
  refine r_iconst (np := 1) G 0 dX7_note_0 rfl ?_
  refine r_istore_n (np := 2) G hl rfl [(2, vI 0), (0, .ref (eA E v0)), (1, vI v1)] dX7_note_1 rfl rfl (by decide) rfl (fun ls hl => ?_)
  exact wX7_note_L2 l E out G hr hk v0 v1 g0 (fun z2 zσ => mX7_note_B26 v0 v1 z2 zσ) (fun z2 zσ zH zl zs zm zM zv => wX7_note_B26 l E out G hr hk v0 v1 g0 z2 zσ zH zl zs zm zM zv) mF 0 _ _ _ _ hm hM (lv_sub hl [1, 2, 0] rfl)
theorem gX7_note {v0 : Nat} {v1 : Int} {σ : mSt} {out : Int × mSt} (hm : mX7_note v0 v1 σ = some out) : isC v0 6 := (g_t hm).1
set_option maxRecDepth 100000 in
set_option maxHeartbeats 4000000 in
theorem wX7_noteDivisors_B62 (l : Launch) (E : mE) (out : Int × mSt) {p : Program} {e : Env} {s : State} {m : MethodId} {args : Array Value} {below : List Frame} {meth : Method} {c : Code} (G : CallFix p m c cX7_noteDivisors 5 s args mTs RX7) (hr : meth.sig.returnType = none) (hk : meth.locks = false) (v0 : Nat) (v1 : Int) (g0 : isC v0 6) : ∀ (σ : mSt) (H : Heap) (locs : List Loc) (ls : Array Slot), mX7_noteDivisors_B62 v0 v1 σ = some out → mM (mA E 276) E 276 σ s H locs → lv_has ls 5 [] → mGo l p e 1 23 s m args below meth c E none out.2 H locs (F0 m 62 ls []) := by
  intro σ H locs ls hm hM hl
  unfold mX7_noteDivisors_B62 at hm
  exact r_vret G hr hk hM hm dX7_noteDivisors_62
set_option maxRecDepth 100000 in
set_option maxHeartbeats 4000000 in
theorem wX7_noteDivisors_B56 (l : Launch) (E : mE) (out : Int × mSt) {p : Program} {e : Env} {s : State} {m : MethodId} {args : Array Value} {below : List Frame} {meth : Method} {c : Code} (G : CallFix p m c cX7_noteDivisors 5 s args mTs RX7) (hr : meth.sig.returnType = none) (hk : meth.locks = false) (v0 : Nat) (v1 : Int) (g0 : isC v0 6) (c7 : Int → Int → mSt → Option (Int × mSt)) (x62 : mSt → Option (Int × mSt)) (hc7 : ∀ (v2 : Int) (v3 : Int) (σ : mSt) (H : Heap) (locs : List Loc) (ls : Array Slot), c7 v2 v3 σ = some out → mM (mA E 276) E 276 σ s H locs → lv_has ls 5 [(0, .ref (eA E v0)), (2, vI v2), (3, vI v3)] → mGo l p e 1 23 s m args below meth c E none out.2 H locs (F0 m 7 ls [])) (hx62 : ∀ (σ : mSt) (H : Heap) (locs : List Loc) (ls : Array Slot), x62 σ = some out → mM (mA E 276) E 276 σ s H locs → lv_has ls 5 [] → mGo l p e 1 23 s m args below meth c E none out.2 H locs (F0 m 62 ls [])) : ∀ (v2 : Int) (v3 : Int) (σ : mSt) (H : Heap) (locs : List Loc) (ls : Array Slot), mX7_noteDivisors_B56 v0 v1 c7 x62 v2 v3 σ = some out → mM (mA E 276) E 276 σ s H locs → lv_has ls 5 [(0, .ref (eA E v0)), (2, vI v2), (3, vI v3)] → mGo l p e 1 23 s m args below meth c E none out.2 H locs (F0 m 56 ls []) := by
  intro v2 v3 σ H locs ls hm hM hl
  unfold mX7_noteDivisors_B56 at hm
  obtain ⟨a1, e2, hm⟩ := bnd_t hm
  refine r_iinc (np := 59) G hl 2 rfl e2 [(3, vI a1), (0, .ref (eA E v0)), (2, vI v2)] dX7_noteDivisors_56 rfl (by decide) rfl (fun ls hl => ?_)
  refine r_goto (np := 7) G dX7_noteDivisors_59 (by decide) ?_
  exact hc7 v2 a1 _ _ _ _ hm hM (lv_sub hl [1, 2, 0] rfl)
set_option maxRecDepth 100000 in
set_option maxHeartbeats 4000000 in
theorem wX7_noteDivisors_L33 (l : Launch) (E : mE) (out : Int × mSt) {p : Program} {e : Env} {s : State} {m : MethodId} {args : Array Value} {below : List Frame} {meth : Method} {c : Code} (G : CallFix p m c cX7_noteDivisors 5 s args mTs RX7) (hr : meth.sig.returnType = none) (hk : meth.locks = false) (v0 : Nat) (v1 : Int) (v3 : Int) (g0 : isC v0 6) (x56 : Int → mSt → Option (Int × mSt)) (hx56 : ∀ (v2 : Int) (σ : mSt) (H : Heap) (locs : List Loc) (ls : Array Slot), x56 v2 σ = some out → mM (mA E 276) E 276 σ s H locs → lv_has ls 5 [(0, .ref (eA E v0)), (2, vI v2), (3, vI v3)] → mGo l p e 1 23 s m args below meth c E none out.2 H locs (F0 m 56 ls [])) : ∀ (n : Nat) (v2 : Int) (v4 : Int) (σ : mSt) (H : Heap) (locs : List Loc) (ls : Array Slot), mX7_noteDivisors_L33 v0 v1 v3 x56 n v2 v4 σ = some out → mM (mA E 276) E 276 σ s H locs → lv_has ls 5 [(0, .ref (eA E v0)), (2, vI v2), (3, vI v3), (4, vI v4)] → mGo l p e 1 23 s m args below meth c E none out.2 H locs (F0 m 33 ls []) := by
  intro n
  induction n with
  | zero =>
    intro v2 v4 σ H locs ls hm hM hl
    exact absurd hm (by rw [mX7_noteDivisors_L33.eq_1]; exact fun h => nomatch h)
  | succ n ih =>
    intro v2 v4 σ H locs ls hm hM hl
    rw [mX7_noteDivisors_L33.eq_2] at hm
    refine r_iload (np := 35) G hl 3 rfl dX7_noteDivisors_33 rfl ?_
    refine r_bipush (np := 37) G 32 dX7_noteDivisors_35 (by decide) rfl ?_
    refine r_icmp_ge (np := 40) (tgt := 56) G rfl (wIk 32 rfl) dX7_noteDivisors_37 (by decide) rfl (fun h3 => ?_) (fun h3 => ?_)
    · have hm := b_t h3 hm
      exact hx56 v2 _ _ _ _ hm hM (lv_sub hl [0, 1, 2] rfl)
    · have hm := b_f h3 hm
      refine r_iload_n (np := 41) G hl 1 rfl dX7_noteDivisors_40 rfl rfl ?_
      refine r_iload_n (np := 42) G hl 2 rfl dX7_noteDivisors_41 rfl rfl ?_
      obtain ⟨g4, hm⟩ := g_t hm
      refine r_irem (np := 43) G g4 dX7_noteDivisors_42 rfl ?_
      refine r_if_ne (np := 46) (tgt := 56) G rfl dX7_noteDivisors_43 (by decide) rfl (fun h5 => ?_) (fun h5 => ?_)
      · have hm := b_f h5 hm
        exact hx56 v2 _ _ _ _ hm hM (lv_sub hl [0, 1, 2] rfl)
      · have hm := b_t h5 hm
        refine r_iload_n (np := 47) G hl 1 rfl dX7_noteDivisors_46 rfl rfl ?_
        refine r_iload_n (np := 48) G hl 2 rfl dX7_noteDivisors_47 rfl rfl ?_
        refine r_idiv (np := 49) G g4 dX7_noteDivisors_48 rfl ?_
        obtain ⟨a6, e7, hm⟩ := bnd_t hm
        refine r_istore_n (np := 50) G hl e7 [(2, vI a6), (0, .ref (eA E v0)), (3, vI v3), (4, vI v4)] dX7_noteDivisors_49 rfl rfl (by decide) rfl (fun ls hl => ?_)
        obtain ⟨a8, e9, hm⟩ := bnd_t hm
        refine r_iinc (np := 53) G hl 3 rfl e9 [(4, vI a8), (2, vI a6), (0, .ref (eA E v0)), (3, vI v3)] dX7_noteDivisors_50 rfl (by decide) rfl (fun ls hl => ?_)
        refine r_goto (np := 33) G dX7_noteDivisors_53 (by decide) ?_
        exact ih a6 a8 _ _ _ _ hm hM (lv_sub hl [2, 1, 3, 0] rfl)
set_option maxRecDepth 100000 in
set_option maxHeartbeats 4000000 in
theorem wX7_noteDivisors_B30 (l : Launch) (E : mE) (out : Int × mSt) {p : Program} {e : Env} {s : State} {m : MethodId} {args : Array Value} {below : List Frame} {meth : Method} {c : Code} (G : CallFix p m c cX7_noteDivisors 5 s args mTs RX7) (hr : meth.sig.returnType = none) (hk : meth.locks = false) (v0 : Nat) (v1 : Int) (g0 : isC v0 6) (c7 : Int → Int → mSt → Option (Int × mSt)) (x62 : mSt → Option (Int × mSt)) (hc7 : ∀ (v2 : Int) (v3 : Int) (σ : mSt) (H : Heap) (locs : List Loc) (ls : Array Slot), c7 v2 v3 σ = some out → mM (mA E 276) E 276 σ s H locs → lv_has ls 5 [(0, .ref (eA E v0)), (2, vI v2), (3, vI v3)] → mGo l p e 1 23 s m args below meth c E none out.2 H locs (F0 m 7 ls [])) (hx62 : ∀ (σ : mSt) (H : Heap) (locs : List Loc) (ls : Array Slot), x62 σ = some out → mM (mA E 276) E 276 σ s H locs → lv_has ls 5 [] → mGo l p e 1 23 s m args below meth c E none out.2 H locs (F0 m 62 ls [])) : ∀ (v2 : Int) (v3 : Int) (σ : mSt) (H : Heap) (locs : List Loc) (ls : Array Slot), mX7_noteDivisors_B30 v0 v1 c7 x62 v2 v3 σ = some out → mM (mA E 276) E 276 σ s H locs → lv_has ls 5 [(0, .ref (eA E v0)), (2, vI v2), (3, vI v3)] → mGo l p e 1 23 s m args below meth c E none out.2 H locs (F0 m 30 ls []) := by
  intro v2 v3 σ H locs ls hm hM hl
  unfold mX7_noteDivisors_B30 at hm
  refine r_iconst (np := 31) G 0 dX7_noteDivisors_30 rfl ?_
  refine r_istore (np := 33) G hl rfl [(4, vI 0), (0, .ref (eA E v0)), (2, vI v2), (3, vI v3)] dX7_noteDivisors_31 rfl (by decide) rfl (fun ls hl => ?_)
  exact wX7_noteDivisors_L33 l E out G hr hk v0 v1 v3 g0 (fun z2 zσ => mX7_noteDivisors_B56 v0 v1 c7 x62 z2 v3 zσ) (fun z2 zσ zH zl zs zm zM zv => wX7_noteDivisors_B56 l E out G hr hk v0 v1 g0 c7 x62 hc7 hx62 z2 v3 zσ zH zl zs zm zM zv) mF v2 0 _ _ _ _ hm hM (lv_sub hl [1, 2, 3, 0] rfl)
set_option maxRecDepth 100000 in
set_option maxHeartbeats 4000000 in
theorem wX7_noteDivisors_L7 (l : Launch) (E : mE) (out : Int × mSt) {p : Program} {e : Env} {s : State} {m : MethodId} {args : Array Value} {below : List Frame} {meth : Method} {c : Code} (G : CallFix p m c cX7_noteDivisors 5 s args mTs RX7) (hr : meth.sig.returnType = none) (hk : meth.locks = false) (v0 : Nat) (v1 : Int) (g0 : isC v0 6) (x62 : mSt → Option (Int × mSt)) (hx62 : ∀ (σ : mSt) (H : Heap) (locs : List Loc) (ls : Array Slot), x62 σ = some out → mM (mA E 276) E 276 σ s H locs → lv_has ls 5 [] → mGo l p e 1 23 s m args below meth c E none out.2 H locs (F0 m 62 ls [])) : ∀ (n : Nat) (v2 : Int) (v3 : Int) (σ : mSt) (H : Heap) (locs : List Loc) (ls : Array Slot), mX7_noteDivisors_L7 v0 v1 x62 n v2 v3 σ = some out → mM (mA E 276) E 276 σ s H locs → lv_has ls 5 [(0, .ref (eA E v0)), (2, vI v2), (3, vI v3)] → mGo l p e 1 23 s m args below meth c E none out.2 H locs (F0 m 7 ls []) := by
  intro n
  induction n with
  | zero =>
    intro v2 v3 σ H locs ls hm hM hl
    exact absurd hm (by rw [mX7_noteDivisors_L7.eq_1]; exact fun h => nomatch h)
  | succ n ih =>
    intro v2 v3 σ H locs ls hm hM hl
    rw [mX7_noteDivisors_L7.eq_2] at hm
    refine r_iload_n (np := 8) G hl 2 rfl dX7_noteDivisors_7 rfl rfl ?_
    refine r_sipush (np := 11) G 999 dX7_noteDivisors_8 (by decide) rfl ?_
    refine r_icmp_gt (np := 14) (tgt := 62) G rfl (wIk 999 rfl) dX7_noteDivisors_11 (by decide) rfl (fun h10 => ?_) (fun h10 => ?_)
    · have hm := b_t h10 hm
      exact hx62 _ _ _ _ hm hM (lv_sub hl [] rfl)
    · have hm := b_f h10 hm
      refine r_iload_n (np := 15) G hl 1 rfl dX7_noteDivisors_14 rfl rfl ?_
      refine r_iconst (np := 16) G 1 dX7_noteDivisors_15 rfl ?_
      refine r_icmp_le (np := 19) (tgt := 62) G rfl (wIk 1 rfl) dX7_noteDivisors_16 (by decide) rfl (fun h11 => ?_) (fun h11 => ?_)
      · have hm := b_t h11 hm
        exact hx62 _ _ _ _ hm hM (lv_sub hl [] rfl)
      · have hm := b_f h11 hm
        refine r_iload_n (np := 20) G hl 1 rfl dX7_noteDivisors_19 rfl rfl ?_
        refine r_iload_n (np := 21) G hl 2 rfl dX7_noteDivisors_20 rfl rfl ?_
        obtain ⟨g12, hm⟩ := g_t hm
        refine r_irem (np := 22) G g12 dX7_noteDivisors_21 rfl ?_
        refine r_if_ne (np := 25) (tgt := 30) G rfl dX7_noteDivisors_22 (by decide) rfl (fun h13 => ?_) (fun h13 => ?_)
        · have hm := b_f h13 hm
          exact wX7_noteDivisors_B30 l E out G hr hk v0 v1 g0 (mX7_noteDivisors_L7 v0 v1 x62 n) x62 ih hx62 v2 v3 _ _ _ _ hm hM (lv_sub hl [0, 1, 2] rfl)
        · have hm := b_t h13 hm
          refine r_aload_n (np := 26) G hl 0 rfl dX7_noteDivisors_25 rfl rfl ?_
          refine r_iload_n (np := 27) G hl 2 rfl dX7_noteDivisors_26 rfl rfl ?_
          obtain ⟨b14, s15, e16, hm⟩ := call_t hm
          refine m_callVV (np := 30) G hM hl.1 [vI v3] (qX7_note l E σ v0 v3 _ e16) myX7_note (shp_lt (gX7_note e16) (by decide)) (gX7_note e16) rfl (by decide) lkX7_32 ⟨Nat.le_of_ble_eq_true rfl, Nat.le_of_ble_eq_true rfl⟩ ⟨Nat.le_of_ble_eq_true rfl, Nat.le_of_ble_eq_true rfl⟩ [] rfl (Nat.le_of_ble_eq_true rfl) dX7_noteDivisors_27 rfl (fun H locs hM => ?_)
          exact wX7_noteDivisors_B30 l E out G hr hk v0 v1 g0 (mX7_noteDivisors_L7 v0 v1 x62 n) x62 ih hx62 v2 v3 _ _ _ _ hm hM (lv_sub hl [0, 1, 2] rfl)
set_option maxRecDepth 100000 in
set_option maxHeartbeats 4000000 in
theorem qX7_noteDivisors (l : Launch) (E : mE) (σ : mSt) (v0 : Nat) (v1 : Int) (out : Int × mSt) (hm : mX7_noteDivisors v0 v1 σ = some out) : mMet l yX7_noteDivisors cX7_noteDivisors 5 none 1 23 E 276 [.ref (eA E v0), vI v1] σ none out.2 := by
  unfold mX7_noteDivisors at hm
  obtain ⟨g0, hm⟩ := g_t hm
  refine m_entry (by decide +kernel) (Nat.le_of_ble_eq_true rfl) (fun p e s m args below meth c G hr hk hM ls hl => ?_)
  have G : CallFix p m c cX7_noteDivisors 5 s args mTs RX7 := G
  have hl : lv_has ls 5 [(0, .ref (eA E v0)), (1, vI v1)] := hl
  refine r_iload_n (np := 1) G hl 1 rfl dX7_noteDivisors_0 rfl rfl ?_
  obtain ⟨b17, s18, e19, hm⟩ := call_t hm
  refine m_callSI (np := 4) G hM hl.1 [vI v1] (qJ9_abs_0f7a4 l E σ v1 _ e19) myJ9_abs_0f7a4 lkX7_56 ⟨Nat.le_of_ble_eq_true rfl, Nat.le_of_ble_eq_true rfl⟩ ⟨Nat.le_of_ble_eq_true rfl, Nat.le_of_ble_eq_true rfl⟩ [] rfl (Nat.le_of_ble_eq_true rfl) dX7_noteDivisors_1 rfl (fun H locs hM => ?_)
  refine r_istore_n (np := 5) G hl rfl [(2, vI b17), (0, .ref (eA E v0)), (1, vI v1)] dX7_noteDivisors_4 rfl rfl (by decide) rfl (fun ls hl => ?_)
  refine r_iconst (np := 6) G 2 dX7_noteDivisors_5 rfl ?_
  refine r_istore_n (np := 7) G hl rfl [(3, vI 2), (2, vI b17), (0, .ref (eA E v0)), (1, vI v1)] dX7_noteDivisors_6 rfl rfl (by decide) rfl (fun ls hl => ?_)
  exact wX7_noteDivisors_L7 l E out G hr hk v0 v1 g0 (fun zσ => mX7_noteDivisors_B62 v0 v1 zσ) (fun zσ zH zl zs zm zM zv => wX7_noteDivisors_B62 l E out G hr hk v0 v1 g0 zσ zH zl zs zm zM zv) mF b17 2 _ _ _ _ hm hM (lv_sub hl [2, 1, 0] rfl)
theorem gX7_noteDivisors {v0 : Nat} {v1 : Int} {σ : mSt} {out : Int × mSt} (hm : mX7_noteDivisors v0 v1 σ = some out) : isC v0 6 := (g_t hm).1
set_option maxRecDepth 100000 in
set_option maxHeartbeats 4000000 in
theorem wX7_noteAll_B40 (l : Launch) (E : mE) (out : Int × mSt) {p : Program} {e : Env} {s : State} {m : MethodId} {args : Array Value} {below : List Frame} {meth : Method} {c : Code} (G : CallFix p m c cX7_noteAll 3 s args mTs RX7) (hr : meth.sig.returnType = none) (hk : meth.locks = false) (v0 : Nat) (v1 : Nat) (v2 : Int) (g0 : isC v0 6) : ∀ (σ : mSt) (H : Heap) (locs : List Loc) (ls : Array Slot), mX7_noteAll_B40 v0 v1 v2 σ = some out → mM (mA E 276) E 276 σ s H locs → lv_has ls 3 [(0, .ref (eA E v0)), (1, .ref (eA E v1)), (2, vI v2)] → mGo l p e 2 47 s m args below meth c E none out.2 H locs (F0 m 40 ls []) := by
  intro σ H locs ls hm hM hl
  unfold mX7_noteAll_B40 at hm
  refine r_aload_n (np := 41) G hl 0 rfl dX7_noteAll_40 rfl rfl ?_
  refine r_aload_n (np := 42) G hl 1 rfl dX7_noteAll_41 rfl rfl ?_
  refine r_iload_n (np := 43) G hl 2 rfl dX7_noteAll_42 rfl rfl ?_
  obtain ⟨b1, s2, e3, hm⟩ := call_t hm
  refine m_callVI (np := 46) G hM hl.1 [vI v2] (qX0_second l E σ v1 v2 _ e3) myX0_second (shp_lt (gX0_second e3) (by decide)) (gX0_second e3) rfl (by decide) lkX7_53 ⟨Nat.le_of_ble_eq_true rfl, Nat.le_of_ble_eq_true rfl⟩ ⟨Nat.le_of_ble_eq_true rfl, Nat.le_of_ble_eq_true rfl⟩ [.ref (eA E v0)] rfl (Nat.le_of_ble_eq_true rfl) dX7_noteAll_43 rfl (fun H locs hM => ?_)
  obtain ⟨b4, s5, e6, hm⟩ := call_t hm
  refine m_callVV (np := 49) G hM hl.1 [vI b1] (qX7_noteDivisors l E s2 v0 b1 _ e6) myX7_noteDivisors (shp_lt (gX7_noteDivisors e6) (by decide)) (gX7_noteDivisors e6) rfl (by decide) lkX7_50 ⟨Nat.le_of_ble_eq_true rfl, Nat.le_of_ble_eq_true rfl⟩ ⟨Nat.le_of_ble_eq_true rfl, Nat.le_of_ble_eq_true rfl⟩ [] rfl (Nat.le_of_ble_eq_true rfl) dX7_noteAll_46 rfl (fun H locs hM => ?_)
  exact r_vret G hr hk hM hm dX7_noteAll_49
set_option maxRecDepth 100000 in
set_option maxHeartbeats 4000000 in
theorem qX7_noteAll (l : Launch) (E : mE) (σ : mSt) (v0 : Nat) (v1 : Nat) (v2 : Int) (out : Int × mSt) (hm : mX7_noteAll v0 v1 v2 σ = some out) : mMet l yX7_noteAll cX7_noteAll 3 none 2 47 E 276 [.ref (eA E v0), .ref (eA E v1), vI v2] σ none out.2 := by
  unfold mX7_noteAll at hm
  obtain ⟨g0, hm⟩ := g_t hm
  refine m_entry (by decide +kernel) (Nat.le_of_ble_eq_true rfl) (fun p e s m args below meth c G hr hk hM ls hl => ?_)
  have G : CallFix p m c cX7_noteAll 3 s args mTs RX7 := G
  have hl : lv_has ls 3 [(0, .ref (eA E v0)), (1, .ref (eA E v1)), (2, vI v2)] := hl
  refine r_aload_n (np := 1) G hl 1 rfl dX7_noteAll_0 rfl rfl ?_
  refine r_iload_n (np := 2) G hl 2 rfl dX7_noteAll_1 rfl rfl ?_
  obtain ⟨b7, s8, e9, hm⟩ := call_t hm
  refine m_callVI (np := 5) G hM hl.1 [vI v2] (qX0_kind l E σ v1 v2 _ e9) myX0_kind (shp_lt (gX0_kind e9) (by decide)) (gX0_kind e9) rfl (by decide) lkX7_43 ⟨Nat.le_of_ble_eq_true rfl, Nat.le_of_ble_eq_true rfl⟩ ⟨Nat.le_of_ble_eq_true rfl, Nat.le_of_ble_eq_true rfl⟩ [] rfl (Nat.le_of_ble_eq_true rfl) dX7_noteAll_2 rfl (fun H locs hM => ?_)
  refine r_iconst (np := 6) G 2 dX7_noteAll_5 rfl ?_
  refine r_icmp_ne (np := 9) (tgt := 10) G rfl (wIk 2 rfl) dX7_noteAll_6 (by decide) rfl (fun h10 => ?_) (fun h10 => ?_)
  · have hm := b_f h10 hm
    refine r_aload_n (np := 11) G hl 1 rfl dX7_noteAll_10 rfl rfl ?_
    refine r_iload_n (np := 12) G hl 2 rfl dX7_noteAll_11 rfl rfl ?_
    obtain ⟨b11, s12, e13, hm⟩ := call_t hm
    refine m_callVI (np := 15) G hM hl.1 [vI v2] (qX0_kind l E s8 v1 v2 _ e13) myX0_kind (shp_lt (gX0_kind e13) (by decide)) (gX0_kind e13) rfl (by decide) lkX7_43 ⟨Nat.le_of_ble_eq_true rfl, Nat.le_of_ble_eq_true rfl⟩ ⟨Nat.le_of_ble_eq_true rfl, Nat.le_of_ble_eq_true rfl⟩ [] rfl (Nat.le_of_ble_eq_true rfl) dX7_noteAll_12 rfl (fun H locs hM => ?_)
    refine r_iconst (np := 16) G 1 dX7_noteAll_15 rfl ?_
    refine r_icmp_ne (np := 19) (tgt := 31) G rfl (wIk 1 rfl) dX7_noteAll_16 (by decide) rfl (fun h14 => ?_) (fun h14 => ?_)
    · have hm := b_f h14 hm
      refine r_aload_n (np := 32) G hl 0 rfl dX7_noteAll_31 rfl rfl ?_
      refine r_aload_n (np := 33) G hl 1 rfl dX7_noteAll_32 rfl rfl ?_
      refine r_iload_n (np := 34) G hl 2 rfl dX7_noteAll_33 rfl rfl ?_
      obtain ⟨b15, s16, e17, hm⟩ := call_t hm
      refine m_callVI (np := 37) G hM hl.1 [vI v2] (qX0_first l E s12 v1 v2 _ e17) myX0_first (shp_lt (gX0_first e17) (by decide)) (gX0_first e17) rfl (by decide) lkX7_47 ⟨Nat.le_of_ble_eq_true rfl, Nat.le_of_ble_eq_true rfl⟩ ⟨Nat.le_of_ble_eq_true rfl, Nat.le_of_ble_eq_true rfl⟩ [.ref (eA E v0)] rfl (Nat.le_of_ble_eq_true rfl) dX7_noteAll_34 rfl (fun H locs hM => ?_)
      obtain ⟨b18, s19, e20, hm⟩ := call_t hm
      refine m_callVV (np := 40) G hM hl.1 [vI b15] (qX7_noteDivisors l E s16 v0 b15 _ e20) myX7_noteDivisors (shp_lt (gX7_noteDivisors e20) (by decide)) (gX7_noteDivisors e20) rfl (by decide) lkX7_50 ⟨Nat.le_of_ble_eq_true rfl, Nat.le_of_ble_eq_true rfl⟩ ⟨Nat.le_of_ble_eq_true rfl, Nat.le_of_ble_eq_true rfl⟩ [] rfl (Nat.le_of_ble_eq_true rfl) dX7_noteAll_37 rfl (fun H locs hM => ?_)
      exact wX7_noteAll_B40 l E out G hr hk v0 v1 v2 g0 _ _ _ _ hm hM (lv_sub hl [0, 1, 2] rfl)
    · have hm := b_t h14 hm
      refine r_aload_n (np := 20) G hl 0 rfl dX7_noteAll_19 rfl rfl ?_
      refine r_aload_n (np := 21) G hl 1 rfl dX7_noteAll_20 rfl rfl ?_
      refine r_iload_n (np := 22) G hl 2 rfl dX7_noteAll_21 rfl rfl ?_
      obtain ⟨b21, s22, e23, hm⟩ := call_t hm
      refine m_callVI (np := 25) G hM hl.1 [vI v2] (qX0_first l E s12 v1 v2 _ e23) myX0_first (shp_lt (gX0_first e23) (by decide)) (gX0_first e23) rfl (by decide) lkX7_47 ⟨Nat.le_of_ble_eq_true rfl, Nat.le_of_ble_eq_true rfl⟩ ⟨Nat.le_of_ble_eq_true rfl, Nat.le_of_ble_eq_true rfl⟩ [.ref (eA E v0)] rfl (Nat.le_of_ble_eq_true rfl) dX7_noteAll_22 rfl (fun H locs hM => ?_)
      obtain ⟨b24, s25, e26, hm⟩ := call_t hm
      refine m_callVV (np := 28) G hM hl.1 [vI b21] (qX7_note l E s22 v0 b21 _ e26) myX7_note (shp_lt (gX7_note e26) (by decide)) (gX7_note e26) rfl (by decide) lkX7_32 ⟨Nat.le_of_ble_eq_true rfl, Nat.le_of_ble_eq_true rfl⟩ ⟨Nat.le_of_ble_eq_true rfl, Nat.le_of_ble_eq_true rfl⟩ [] rfl (Nat.le_of_ble_eq_true rfl) dX7_noteAll_25 rfl (fun H locs hM => ?_)
      refine r_goto (np := 40) G dX7_noteAll_28 (by decide) ?_
      exact wX7_noteAll_B40 l E out G hr hk v0 v1 v2 g0 _ _ _ _ hm hM (lv_sub hl [0, 1, 2] rfl)
  · have hm := b_t h10 hm
    exact r_vret G hr hk hM hm dX7_noteAll_9
theorem gX7_noteAll {v0 : Nat} {v1 : Nat} {v2 : Int} {σ : mSt} {out : Int × mSt} (hm : mX7_noteAll v0 v1 v2 σ = some out) : isC v0 6 := (g_t hm).1
set_option maxRecDepth 100000 in
set_option maxHeartbeats 4000000 in
theorem wX7_isRamified_B229 (l : Launch) (E : mE) (out : Int × mSt) {p : Program} {e : Env} {s : State} {m : MethodId} {args : Array Value} {below : List Frame} {meth : Method} {c : Code} (G : CallFix p m c cX7_isRamified 12 s args mTs RX7) (hr : meth.sig.returnType = (some .boolean)) (hk : meth.locks = false) (v0 : Nat) (v1 : Int) (v2 : Int) (v3 : Int) (g0 : isC v0 6) : ∀ (t0 : Int) (σ : mSt) (H : Heap) (locs : List Loc) (ls : Array Slot), mX7_isRamified_B229 v0 v1 v2 v3 t0 σ = some out → mM (mA E 276) E 276 σ s H locs → lv_has ls 12 [] → mGo l p e 3 74 s m args below meth c E (some (vI out.1)) out.2 H locs (F0 m 229 ls [vI t0]) := by
  intro t0 σ H locs ls hm hM hl
  unfold mX7_isRamified_B229 at hm
  refine r_istore (np := 231) G hl rfl [(10, vI t0)] dX7_isRamified_229 rfl (by decide) rfl (fun ls hl => ?_)
  refine r_iload (np := 233) G hl 0 rfl dX7_isRamified_231 rfl ?_
  obtain ⟨g1, hm⟩ := g_t hm
  exact r_zret G hr hk hM g1 hm dX7_isRamified_233
set_option maxRecDepth 100000 in
set_option maxHeartbeats 4000000 in
theorem wX7_isRamified_B204 (l : Launch) (E : mE) (out : Int × mSt) {p : Program} {e : Env} {s : State} {m : MethodId} {args : Array Value} {below : List Frame} {meth : Method} {c : Code} (G : CallFix p m c cX7_isRamified 12 s args mTs RX7) (hr : meth.sig.returnType = (some .boolean)) (hk : meth.locks = false) (v0 : Nat) (v1 : Int) (v2 : Int) (v3 : Int) (g0 : isC v0 6) : ∀ (v4 : Int) (v8 : Int) (v10 : Int) (σ : mSt) (H : Heap) (locs : List Loc) (ls : Array Slot), mX7_isRamified_B204 v0 v1 v2 v3 v4 v8 v10 σ = some out → mM (mA E 276) E 276 σ s H locs → lv_has ls 12 [(3, vI v3), (4, vI v4), (8, vL v8), (10, vI v10)] → mGo l p e 3 74 s m args below meth c E (some (vI out.1)) out.2 H locs (F0 m 204 ls []) := by
  intro v4 v8 v10 σ H locs ls hm hM hl
  unfold mX7_isRamified_B204 at hm
  refine r_iload (np := 206) G hl 1 rfl dX7_isRamified_204 rfl ?_
  refine r_iconst (np := 207) G 1 dX7_isRamified_206 rfl ?_
  refine r_icmp_ne (np := 210) (tgt := 231) G rfl (wIk 1 rfl) dX7_isRamified_207 (by decide) rfl (fun h2 => ?_) (fun h2 => ?_)
  · have hm := b_f h2 hm
    refine r_iload (np := 233) G hl 3 rfl dX7_isRamified_231 rfl ?_
    obtain ⟨g3, hm⟩ := g_t hm
    exact r_zret G hr hk hM g3 hm dX7_isRamified_233
  · have hm := b_t h2 hm
    refine r_lload (np := 212) G hl 2 rfl dX7_isRamified_210 rfl ?_
    refine r_iload_n (np := 213) G hl 0 rfl dX7_isRamified_212 rfl rfl ?_
    obtain ⟨b4, s5, e6, hm⟩ := call_t hm
    refine m_callSI (np := 216) G hM hl.1 [vL v8, vI v3] (qX5_isSquareModulo l E σ v8 v3 _ e6) myX5_isSquareModulo lkX7_86 ⟨Nat.le_of_ble_eq_true rfl, Nat.le_of_ble_eq_true rfl⟩ ⟨Nat.le_of_ble_eq_true rfl, Nat.le_of_ble_eq_true rfl⟩ [] rfl (Nat.le_of_ble_eq_true rfl) dX7_isRamified_213 rfl (fun H locs hM => ?_)
    refine r_if_ne (np := 219) (tgt := 231) G rfl dX7_isRamified_216 (by decide) rfl (fun h7 => ?_) (fun h7 => ?_)
    · have hm := b_f h7 hm
      refine r_iload (np := 233) G hl 3 rfl dX7_isRamified_231 rfl ?_
      obtain ⟨g8, hm⟩ := g_t hm
      exact r_zret G hr hk hM g8 hm dX7_isRamified_233
    · have hm := b_t h7 hm
      refine r_iload (np := 221) G hl 3 rfl dX7_isRamified_219 rfl ?_
      refine r_if_ne (np := 224) (tgt := 228) G rfl dX7_isRamified_221 (by decide) rfl (fun h9 => ?_) (fun h9 => ?_)
      · have hm := b_f h9 hm
        refine r_iconst (np := 229) G 0 dX7_isRamified_228 rfl ?_
        exact wX7_isRamified_B229 l E out G hr hk v0 v1 v2 v3 g0 0 _ _ _ _ hm hM (lv_sub hl [] rfl)
      · have hm := b_t h9 hm
        refine r_iconst (np := 225) G 1 dX7_isRamified_224 rfl ?_
        refine r_goto (np := 229) G dX7_isRamified_225 (by decide) ?_
        exact wX7_isRamified_B229 l E out G hr hk v0 v1 v2 v3 g0 1 _ _ _ _ hm hM (lv_sub hl [] rfl)
set_option maxRecDepth 100000 in
set_option maxHeartbeats 4000000 in
theorem wX7_isRamified_B202 (l : Launch) (E : mE) (out : Int × mSt) {p : Program} {e : Env} {s : State} {m : MethodId} {args : Array Value} {below : List Frame} {meth : Method} {c : Code} (G : CallFix p m c cX7_isRamified 12 s args mTs RX7) (hr : meth.sig.returnType = (some .boolean)) (hk : meth.locks = false) (v0 : Nat) (v1 : Int) (v2 : Int) (v3 : Int) (g0 : isC v0 6) : ∀ (v4 : Int) (v8 : Int) (t0 : Int) (σ : mSt) (H : Heap) (locs : List Loc) (ls : Array Slot), mX7_isRamified_B202 v0 v1 v2 v3 v4 v8 t0 σ = some out → mM (mA E 276) E 276 σ s H locs → lv_has ls 12 [(3, vI v3), (4, vI v4), (8, vL v8)] → mGo l p e 3 74 s m args below meth c E (some (vI out.1)) out.2 H locs (F0 m 202 ls [vI t0]) := by
  intro v4 v8 t0 σ H locs ls hm hM hl
  unfold mX7_isRamified_B202 at hm
  refine r_istore (np := 204) G hl rfl [(10, vI t0), (3, vI v3), (4, vI v4), (8, vL v8)] dX7_isRamified_202 rfl (by decide) rfl (fun ls hl => ?_)
  exact wX7_isRamified_B204 l E out G hr hk v0 v1 v2 v3 g0 v4 v8 t0 _ _ _ _ hm hM (lv_sub hl [1, 2, 3, 0] rfl)
set_option maxRecDepth 100000 in
set_option maxHeartbeats 4000000 in
theorem wX7_isRamified_B175 (l : Launch) (E : mE) (out : Int × mSt) {p : Program} {e : Env} {s : State} {m : MethodId} {args : Array Value} {below : List Frame} {meth : Method} {c : Code} (G : CallFix p m c cX7_isRamified 12 s args mTs RX7) (hr : meth.sig.returnType = (some .boolean)) (hk : meth.locks = false) (v0 : Nat) (v1 : Int) (v2 : Int) (v3 : Int) (g0 : isC v0 6) : ∀ (v4 : Int) (v5 : Int) (v6 : Int) (v8 : Int) (t0 : Int) (σ : mSt) (H : Heap) (locs : List Loc) (ls : Array Slot), mX7_isRamified_B175 v0 v1 v2 v3 v4 v5 v6 v8 t0 σ = some out → mM (mA E 276) E 276 σ s H locs → lv_has ls 12 [(3, vI v3), (4, vI v4), (5, vI v5), (6, vL v6), (8, vL v8)] → mGo l p e 3 74 s m args below meth c E (some (vI out.1)) out.2 H locs (F0 m 175 ls [vI t0]) := by
  intro v4 v5 v6 v8 t0 σ H locs ls hm hM hl
  unfold mX7_isRamified_B175 at hm
  refine r_istore (np := 177) G hl rfl [(10, vI t0), (3, vI v3), (4, vI v4), (5, vI v5), (6, vL v6), (8, vL v8)] dX7_isRamified_175 rfl (by decide) rfl (fun ls hl => ?_)
  refine r_iload (np := 179) G hl 3 rfl dX7_isRamified_177 rfl ?_
  refine r_iconst (np := 180) G 1 dX7_isRamified_179 rfl ?_
  refine r_icmp_ne (np := 183) (tgt := 204) G rfl (wIk 1 rfl) dX7_isRamified_180 (by decide) rfl (fun h10 => ?_) (fun h10 => ?_)
  · have hm := b_f h10 hm
    exact wX7_isRamified_B204 l E out G hr hk v0 v1 v2 v3 g0 v4 v8 t0 _ _ _ _ hm hM (lv_sub hl [1, 2, 5, 0] rfl)
  · have hm := b_t h10 hm
    refine r_lload (np := 185) G hl 4 rfl dX7_isRamified_183 rfl ?_
    refine r_iload_n (np := 186) G hl 1 rfl dX7_isRamified_185 rfl rfl ?_
    obtain ⟨b11, s12, e13, hm⟩ := call_t hm
    refine m_callSI (np := 189) G hM hl.1 [vL v6, vI v3] (qX5_isSquareModulo l E σ v6 v3 _ e13) myX5_isSquareModulo lkX7_86 ⟨Nat.le_of_ble_eq_true rfl, Nat.le_of_ble_eq_true rfl⟩ ⟨Nat.le_of_ble_eq_true rfl, Nat.le_of_ble_eq_true rfl⟩ [] rfl (Nat.le_of_ble_eq_true rfl) dX7_isRamified_186 rfl (fun H locs hM => ?_)
    refine r_if_ne (np := 192) (tgt := 204) G rfl dX7_isRamified_189 (by decide) rfl (fun h14 => ?_) (fun h14 => ?_)
    · have hm := b_f h14 hm
      exact wX7_isRamified_B204 l E out G hr hk v0 v1 v2 v3 g0 v4 v8 t0 _ _ _ _ hm hM (lv_sub hl [1, 2, 5, 0] rfl)
    · have hm := b_t h14 hm
      refine r_iload (np := 194) G hl 0 rfl dX7_isRamified_192 rfl ?_
      refine r_if_ne (np := 197) (tgt := 201) G rfl dX7_isRamified_194 (by decide) rfl (fun h15 => ?_) (fun h15 => ?_)
      · have hm := b_f h15 hm
        refine r_iconst (np := 202) G 0 dX7_isRamified_201 rfl ?_
        exact wX7_isRamified_B202 l E out G hr hk v0 v1 v2 v3 g0 v4 v8 0 _ _ _ _ hm hM (lv_sub hl [1, 2, 5] rfl)
      · have hm := b_t h15 hm
        refine r_iconst (np := 198) G 1 dX7_isRamified_197 rfl ?_
        refine r_goto (np := 202) G dX7_isRamified_198 (by decide) ?_
        exact wX7_isRamified_B202 l E out G hr hk v0 v1 v2 v3 g0 v4 v8 1 _ _ _ _ hm hM (lv_sub hl [1, 2, 5] rfl)
set_option maxRecDepth 100000 in
set_option maxHeartbeats 4000000 in
theorem wX7_isRamified_B174 (l : Launch) (E : mE) (out : Int × mSt) {p : Program} {e : Env} {s : State} {m : MethodId} {args : Array Value} {below : List Frame} {meth : Method} {c : Code} (G : CallFix p m c cX7_isRamified 12 s args mTs RX7) (hr : meth.sig.returnType = (some .boolean)) (hk : meth.locks = false) (v0 : Nat) (v1 : Int) (v2 : Int) (v3 : Int) (g0 : isC v0 6) : ∀ (v4 : Int) (v5 : Int) (v6 : Int) (v8 : Int) (σ : mSt) (H : Heap) (locs : List Loc) (ls : Array Slot), mX7_isRamified_B174 v0 v1 v2 v3 v4 v5 v6 v8 σ = some out → mM (mA E 276) E 276 σ s H locs → lv_has ls 12 [(3, vI v3), (4, vI v4), (5, vI v5), (6, vL v6), (8, vL v8)] → mGo l p e 3 74 s m args below meth c E (some (vI out.1)) out.2 H locs (F0 m 174 ls []) := by
  intro v4 v5 v6 v8 σ H locs ls hm hM hl
  unfold mX7_isRamified_B174 at hm
  refine r_iconst (np := 175) G 0 dX7_isRamified_174 rfl ?_
  exact wX7_isRamified_B175 l E out G hr hk v0 v1 v2 v3 g0 v4 v5 v6 v8 0 _ _ _ _ hm hM (lv_sub hl [0, 1, 2, 3, 4] rfl)
set_option maxRecDepth 100000 in
set_option maxHeartbeats 4000000 in
theorem wX7_isRamified_B72 (l : Launch) (E : mE) (out : Int × mSt) {p : Program} {e : Env} {s : State} {m : MethodId} {args : Array Value} {below : List Frame} {meth : Method} {c : Code} (G : CallFix p m c cX7_isRamified 12 s args mTs RX7) (hr : meth.sig.returnType = (some .boolean)) (hk : meth.locks = false) (v0 : Nat) (v1 : Int) (v2 : Int) (v3 : Int) (g0 : isC v0 6) : ∀ (v4 : Int) (v5 : Int) (v6 : Int) (t0 : Int) (σ : mSt) (H : Heap) (locs : List Loc) (ls : Array Slot), mX7_isRamified_B72 v0 v1 v2 v3 v4 v5 v6 t0 σ = some out → mM (mA E 276) E 276 σ s H locs → lv_has ls 12 [(3, vI v3), (4, vI v4), (5, vI v5), (6, vL v6)] → mGo l p e 3 74 s m args below meth c E (some (vI out.1)) out.2 H locs (F0 m 72 ls [vL t0]) := by
  intro v4 v5 v6 t0 σ H locs ls hm hM hl
  unfold mX7_isRamified_B72 at hm
  refine r_lstore (np := 74) G hl rfl [(8, vL t0), (3, vI v3), (4, vI v4), (5, vI v5), (6, vL v6)] dX7_isRamified_72 rfl (by decide) rfl (fun ls hl => ?_)
  refine r_iload_n (np := 75) G hl 1 rfl dX7_isRamified_74 rfl rfl ?_
  refine r_iconst (np := 76) G 2 dX7_isRamified_75 rfl ?_
  refine r_icmp_ne (np := 79) (tgt := 147) G rfl (wIk 2 rfl) dX7_isRamified_76 (by decide) rfl (fun h16 => ?_) (fun h16 => ?_)
  · have hm := b_f h16 hm
    refine r_iload (np := 149) G hl 2 rfl dX7_isRamified_147 rfl ?_
    refine r_iconst (np := 150) G 1 dX7_isRamified_149 rfl ?_
    refine r_icmp_ne (np := 153) (tgt := 174) G rfl (wIk 1 rfl) dX7_isRamified_150 (by decide) rfl (fun h17 => ?_) (fun h17 => ?_)
    · have hm := b_f h17 hm
      exact wX7_isRamified_B174 l E out G hr hk v0 v1 v2 v3 g0 v4 v5 v6 t0 _ _ _ _ hm hM (lv_sub hl [1, 2, 3, 4, 0] rfl)
    · have hm := b_t h17 hm
      refine r_iload (np := 155) G hl 3 rfl dX7_isRamified_153 rfl ?_
      refine r_iconst (np := 156) G 1 dX7_isRamified_155 rfl ?_
      refine r_icmp_ne (np := 159) (tgt := 174) G rfl (wIk 1 rfl) dX7_isRamified_156 (by decide) rfl (fun h18 => ?_) (fun h18 => ?_)
      · have hm := b_f h18 hm
        exact wX7_isRamified_B174 l E out G hr hk v0 v1 v2 v3 g0 v4 v5 v6 t0 _ _ _ _ hm hM (lv_sub hl [1, 2, 3, 4, 0] rfl)
      · have hm := b_t h18 hm
        refine r_iload_n (np := 160) G hl 1 rfl dX7_isRamified_159 rfl rfl ?_
        refine r_iconst (np := 161) G 1 dX7_isRamified_160 rfl ?_
        refine r_isub (np := 162) G dX7_isRamified_161 rfl ?_
        refine r_iconst (np := 163) G 2 dX7_isRamified_162 rfl ?_
        obtain ⟨g19, hm⟩ := g_t hm
        refine r_idiv (np := 164) G g19 dX7_isRamified_163 rfl ?_
        refine r_iconst (np := 165) G 2 dX7_isRamified_164 rfl ?_
        refine r_irem (np := 166) G g19 dX7_isRamified_165 rfl ?_
        refine r_iconst (np := 167) G 1 dX7_isRamified_166 rfl ?_
        refine r_icmp_ne (np := 170) (tgt := 174) G rfl (wIk 1 rfl) dX7_isRamified_167 (by decide) rfl (fun h20 => ?_) (fun h20 => ?_)
        · have hm := b_f h20 hm
          exact wX7_isRamified_B174 l E out G hr hk v0 v1 v2 v3 g0 v4 v5 v6 t0 _ _ _ _ hm hM (lv_sub hl [1, 2, 3, 4, 0] rfl)
        · have hm := b_t h20 hm
          refine r_iconst (np := 171) G 1 dX7_isRamified_170 rfl ?_
          refine r_goto (np := 175) G dX7_isRamified_171 (by decide) ?_
          exact wX7_isRamified_B175 l E out G hr hk v0 v1 v2 v3 g0 v4 v5 v6 t0 1 _ _ _ _ hm hM (lv_sub hl [1, 2, 3, 4, 0] rfl)
  · have hm := b_t h16 hm
    refine r_lload (np := 81) G hl 4 rfl dX7_isRamified_79 rfl ?_
    refine r_lconst (np := 82) G 1 dX7_isRamified_81 rfl rfl ?_
    refine r_lsub (np := 83) G dX7_isRamified_82 rfl ?_
    refine r_ldc2 (np := 86) G 2 dX7_isRamified_83 lkX7_82 rfl rfl ?_
    obtain ⟨g21, hm⟩ := g_t hm
    refine r_ldiv (np := 87) G g21 dX7_isRamified_86 rfl ?_
    refine r_lload (np := 89) G hl 0 rfl dX7_isRamified_87 rfl ?_
    refine r_lconst (np := 90) G 1 dX7_isRamified_89 rfl rfl ?_
    refine r_lsub (np := 91) G dX7_isRamified_90 rfl ?_
    refine r_ldc2 (np := 94) G 2 dX7_isRamified_91 lkX7_82 rfl rfl ?_
    refine r_ldiv (np := 95) G g21 dX7_isRamified_94 rfl ?_
    refine r_lmul (np := 96) G dX7_isRamified_95 rfl ?_
    refine r_iload (np := 98) G hl 2 rfl dX7_isRamified_96 rfl ?_
    refine r_i2l (np := 99) G rfl dX7_isRamified_98 rfl ?_
    refine r_lload (np := 101) G hl 0 rfl dX7_isRamified_99 rfl ?_
    refine r_lload (np := 103) G hl 0 rfl dX7_isRamified_101 rfl ?_
    refine r_lmul (np := 104) G dX7_isRamified_103 rfl ?_
    refine r_lconst (np := 105) G 1 dX7_isRamified_104 rfl rfl ?_
    refine r_lsub (np := 106) G dX7_isRamified_105 rfl ?_
    refine r_ldc2 (np := 109) G 8 dX7_isRamified_106 lkX7_84 rfl rfl ?_
    obtain ⟨g22, hm⟩ := g_t hm
    refine r_ldiv (np := 110) G g22 dX7_isRamified_109 rfl ?_
    refine r_lmul (np := 111) G dX7_isRamified_110 rfl ?_
    refine r_ladd (np := 112) G dX7_isRamified_111 rfl ?_
    refine r_iload (np := 114) G hl 3 rfl dX7_isRamified_112 rfl ?_
    refine r_i2l (np := 115) G rfl dX7_isRamified_114 rfl ?_
    refine r_lload (np := 117) G hl 4 rfl dX7_isRamified_115 rfl ?_
    refine r_lload (np := 119) G hl 4 rfl dX7_isRamified_117 rfl ?_
    refine r_lmul (np := 120) G dX7_isRamified_119 rfl ?_
    refine r_lconst (np := 121) G 1 dX7_isRamified_120 rfl rfl ?_
    refine r_lsub (np := 122) G dX7_isRamified_121 rfl ?_
    refine r_ldc2 (np := 125) G 8 dX7_isRamified_122 lkX7_84 rfl rfl ?_
    refine r_ldiv (np := 126) G g22 dX7_isRamified_125 rfl ?_
    refine r_lmul (np := 127) G dX7_isRamified_126 rfl ?_
    refine r_ladd (np := 128) G dX7_isRamified_127 rfl ?_
    obtain ⟨a23, e24, hm⟩ := bnd_t hm
    refine r_lstore (np := 130) G hl e24 [(10, vL a23), (8, vL t0), (3, vI v3), (4, vI v4), (5, vI v5), (6, vL v6)] dX7_isRamified_128 rfl (by decide) rfl (fun ls hl => ?_)
    refine r_lload (np := 132) G hl 0 rfl dX7_isRamified_130 rfl ?_
    refine r_ldc2 (np := 135) G 2 dX7_isRamified_132 lkX7_82 rfl rfl ?_
    refine r_lrem (np := 136) G g21 dX7_isRamified_135 rfl ?_
    refine r_lconst (np := 137) G 0 dX7_isRamified_136 rfl rfl ?_
    refine r_lcmp_eq (np := 141) (tgt := 145) G rfl (wLk 0 rfl) dX7_isRamified_137 dX7_isRamified_138 (by decide) rfl (fun h25 => ?_) (fun h25 => ?_)
    · have hm := b_t h25 hm
      refine r_iconst (np := 146) G 0 dX7_isRamified_145 rfl ?_
      exact r_zret G hr hk hM (Or.inl rfl) hm dX7_isRamified_146
    · have hm := b_f h25 hm
      refine r_iconst (np := 142) G 1 dX7_isRamified_141 rfl ?_
      refine r_goto (np := 146) G dX7_isRamified_142 (by decide) ?_
      exact r_zret G hr hk hM (Or.inr rfl) hm dX7_isRamified_146
set_option maxRecDepth 100000 in
set_option maxHeartbeats 4000000 in
theorem wX7_isRamified_B52 (l : Launch) (E : mE) (out : Int × mSt) {p : Program} {e : Env} {s : State} {m : MethodId} {args : Array Value} {below : List Frame} {meth : Method} {c : Code} (G : CallFix p m c cX7_isRamified 12 s args mTs RX7) (hr : meth.sig.returnType = (some .boolean)) (hk : meth.locks = false) (v0 : Nat) (v1 : Int) (v2 : Int) (v3 : Int) (g0 : isC v0 6) : ∀ (v4 : Int) (v5 : Int) (t0 : Int) (σ : mSt) (H : Heap) (locs : List Loc) (ls : Array Slot), mX7_isRamified_B52 v0 v1 v2 v3 v4 v5 t0 σ = some out → mM (mA E 276) E 276 σ s H locs → lv_has ls 12 [(2, vI v2), (3, vI v3), (4, vI v4), (5, vI v5)] → mGo l p e 3 74 s m args below meth c E (some (vI out.1)) out.2 H locs (F0 m 52 ls [vL t0]) := by
  intro v4 v5 t0 σ H locs ls hm hM hl
  unfold mX7_isRamified_B52 at hm
  refine r_lstore (np := 54) G hl rfl [(6, vL t0), (2, vI v2), (3, vI v3), (4, vI v4), (5, vI v5)] dX7_isRamified_52 rfl (by decide) rfl (fun ls hl => ?_)
  refine r_iload (np := 56) G hl 4 rfl dX7_isRamified_54 rfl ?_
  refine r_iconst (np := 57) G 1 dX7_isRamified_56 rfl ?_
  refine r_icmp_ne (np := 60) (tgt := 70) G rfl (wIk 1 rfl) dX7_isRamified_57 (by decide) rfl (fun h26 => ?_) (fun h26 => ?_)
  · have hm := b_f h26 hm
    refine r_iload_n (np := 71) G hl 1 rfl dX7_isRamified_70 rfl rfl ?_
    refine r_i2l (np := 72) G rfl dX7_isRamified_71 rfl ?_
    exact wX7_isRamified_B72 l E out G hr hk v0 v1 v2 v3 g0 v4 v5 t0 (wI v2) _ _ _ _ hm hM (lv_sub hl [2, 3, 4, 0] rfl)
  · have hm := b_t h26 hm
    refine r_iload_n (np := 61) G hl 1 rfl dX7_isRamified_60 rfl rfl ?_
    refine r_i2l (np := 62) G rfl dX7_isRamified_61 rfl ?_
    refine r_iload_n (np := 63) G hl 2 rfl dX7_isRamified_62 rfl rfl ?_
    refine r_i2l (np := 64) G rfl dX7_isRamified_63 rfl ?_
    obtain ⟨b27, s28, e29, hm⟩ := call_t hm
    refine m_callSL (np := 67) G hM hl.1 [vL (wI v2), vL (wI v3)] (qX5_quotient l E σ (wI v2) (wI v3) _ e29) myX5_quotient lkX7_78 ⟨Nat.le_of_ble_eq_true rfl, Nat.le_of_ble_eq_true rfl⟩ ⟨Nat.le_of_ble_eq_true rfl, Nat.le_of_ble_eq_true rfl⟩ [] rfl (Nat.le_of_ble_eq_true rfl) dX7_isRamified_64 rfl (fun H locs hM => ?_)
    refine r_goto (np := 72) G dX7_isRamified_67 (by decide) ?_
    exact wX7_isRamified_B72 l E out G hr hk v0 v1 v2 v3 g0 v4 v5 t0 b27 _ _ _ _ hm hM (lv_sub hl [2, 3, 4, 0] rfl)
set_option maxRecDepth 100000 in
set_option maxHeartbeats 4000000 in
theorem wX7_isRamified_B16 (l : Launch) (E : mE) (out : Int × mSt) {p : Program} {e : Env} {s : State} {m : MethodId} {args : Array Value} {below : List Frame} {meth : Method} {c : Code} (G : CallFix p m c cX7_isRamified 12 s args mTs RX7) (hr : meth.sig.returnType = (some .boolean)) (hk : meth.locks = false) (v0 : Nat) (v1 : Int) (v2 : Int) (v3 : Int) (g0 : isC v0 6) : ∀ (σ : mSt) (H : Heap) (locs : List Loc) (ls : Array Slot), mX7_isRamified_B16 v0 v1 v2 v3 σ = some out → mM (mA E 276) E 276 σ s H locs → lv_has ls 12 [] → mGo l p e 3 74 s m args below meth c E (some (vI out.1)) out.2 H locs (F0 m 16 ls []) := by
  intro σ H locs ls hm hM hl
  unfold mX7_isRamified_B16 at hm
  refine r_iconst (np := 17) G 0 dX7_isRamified_16 rfl ?_
  exact r_zret G hr hk hM (Or.inl rfl) hm dX7_isRamified_17
set_option maxRecDepth 100000 in
set_option maxHeartbeats 4000000 in
theorem qX7_isRamified (l : Launch) (E : mE) (σ : mSt) (v0 : Nat) (v1 : Int) (v2 : Int) (v3 : Int) (out : Int × mSt) (hm : mX7_isRamified v0 v1 v2 v3 σ = some out) : mMet l yX7_isRamified cX7_isRamified 12 (some .boolean) 3 74 E 276 [.ref (eA E v0), vI v1, vI v2, vI v3] σ (some (vI out.1)) out.2 := by
  unfold mX7_isRamified at hm
  obtain ⟨g0, hm⟩ := g_t hm
  refine m_entry (by decide +kernel) (Nat.le_of_ble_eq_true rfl) (fun p e s m args below meth c G hr hk hM ls hl => ?_)
  have G : CallFix p m c cX7_isRamified 12 s args mTs RX7 := G
  have hl : lv_has ls 12 [(0, .ref (eA E v0)), (1, vI v1), (2, vI v2), (3, vI v3)] := hl
  refine r_iload_n (np := 1) G hl 3 rfl dX7_isRamified_0 rfl rfl ?_
  refine r_if_ne (np := 4) (tgt := 18) G rfl dX7_isRamified_1 (by decide) rfl (fun h30 => ?_) (fun h30 => ?_)
  · have hm := b_f h30 hm
    refine r_iload_n (np := 19) G hl 3 rfl dX7_isRamified_18 rfl rfl ?_
    refine r_iload_n (np := 20) G hl 1 rfl dX7_isRamified_19 rfl rfl ?_
    refine r_i2l (np := 21) G rfl dX7_isRamified_20 rfl ?_
    obtain ⟨b31, s32, e33, hm⟩ := call_t hm
    refine m_callSI (np := 24) G hM hl.1 [vI v3, vL (wI v1)] (qX5_howOften l E σ v3 (wI v1) _ e33) myX5_howOften lkX7_72 ⟨Nat.le_of_ble_eq_true rfl, Nat.le_of_ble_eq_true rfl⟩ ⟨Nat.le_of_ble_eq_true rfl, Nat.le_of_ble_eq_true rfl⟩ [] rfl (Nat.le_of_ble_eq_true rfl) dX7_isRamified_21 rfl (fun H locs hM => ?_)
    refine r_istore (np := 26) G hl rfl [(4, vI b31), (0, .ref (eA E v0)), (1, vI v1), (2, vI v2), (3, vI v3)] dX7_isRamified_24 rfl (by decide) rfl (fun ls hl => ?_)
    refine r_iload_n (np := 27) G hl 4 rfl dX7_isRamified_26 rfl rfl ?_
    refine r_iload_n (np := 28) G hl 3 rfl dX7_isRamified_27 rfl rfl ?_
    refine r_i2l (np := 29) G rfl dX7_isRamified_28 rfl ?_
    obtain ⟨b34, s35, e36, hm⟩ := call_t hm
    refine m_callSI (np := 32) G hM hl.1 [vI v3, vL (wI v2)] (qX5_howOften l E s32 v3 (wI v2) _ e36) myX5_howOften lkX7_72 ⟨Nat.le_of_ble_eq_true rfl, Nat.le_of_ble_eq_true rfl⟩ ⟨Nat.le_of_ble_eq_true rfl, Nat.le_of_ble_eq_true rfl⟩ [] rfl (Nat.le_of_ble_eq_true rfl) dX7_isRamified_29 rfl (fun H locs hM => ?_)
    refine r_istore (np := 34) G hl rfl [(5, vI b34), (4, vI b31), (0, .ref (eA E v0)), (1, vI v1), (2, vI v2), (3, vI v3)] dX7_isRamified_32 rfl (by decide) rfl (fun ls hl => ?_)
    refine r_iload (np := 36) G hl 1 rfl dX7_isRamified_34 rfl ?_
    refine r_iconst (np := 37) G 1 dX7_isRamified_36 rfl ?_
    refine r_icmp_ne (np := 40) (tgt := 50) G rfl (wIk 1 rfl) dX7_isRamified_37 (by decide) rfl (fun h37 => ?_) (fun h37 => ?_)
    · have hm := b_f h37 hm
      refine r_iload_n (np := 51) G hl 3 rfl dX7_isRamified_50 rfl rfl ?_
      refine r_i2l (np := 52) G rfl dX7_isRamified_51 rfl ?_
      exact wX7_isRamified_B52 l E out G hr hk v0 v1 v2 v3 g0 b31 b34 (wI v1) _ _ _ _ hm hM (lv_sub hl [4, 5, 1, 0] rfl)
    · have hm := b_t h37 hm
      refine r_iload_n (np := 41) G hl 3 rfl dX7_isRamified_40 rfl rfl ?_
      refine r_i2l (np := 42) G rfl dX7_isRamified_41 rfl ?_
      refine r_iload_n (np := 43) G hl 5 rfl dX7_isRamified_42 rfl rfl ?_
      refine r_i2l (np := 44) G rfl dX7_isRamified_43 rfl ?_
      obtain ⟨b38, s39, e40, hm⟩ := call_t hm
      refine m_callSL (np := 47) G hM hl.1 [vL (wI v1), vL (wI v3)] (qX5_quotient l E s35 (wI v1) (wI v3) _ e40) myX5_quotient lkX7_78 ⟨Nat.le_of_ble_eq_true rfl, Nat.le_of_ble_eq_true rfl⟩ ⟨Nat.le_of_ble_eq_true rfl, Nat.le_of_ble_eq_true rfl⟩ [] rfl (Nat.le_of_ble_eq_true rfl) dX7_isRamified_44 rfl (fun H locs hM => ?_)
      refine r_goto (np := 52) G dX7_isRamified_47 (by decide) ?_
      exact wX7_isRamified_B52 l E out G hr hk v0 v1 v2 v3 g0 b31 b34 b38 _ _ _ _ hm hM (lv_sub hl [4, 5, 1, 0] rfl)
  · have hm := b_t h30 hm
    refine r_iload_n (np := 5) G hl 1 rfl dX7_isRamified_4 rfl rfl ?_
    refine r_if_ge (np := 8) (tgt := 16) G rfl dX7_isRamified_5 (by decide) rfl (fun h41 => ?_) (fun h41 => ?_)
    · have hm := b_t h41 hm
      exact wX7_isRamified_B16 l E out G hr hk v0 v1 v2 v3 g0 _ _ _ _ hm hM (lv_sub hl [] rfl)
    · have hm := b_f h41 hm
      refine r_iload_n (np := 9) G hl 2 rfl dX7_isRamified_8 rfl rfl ?_
      refine r_if_ge (np := 12) (tgt := 16) G rfl dX7_isRamified_9 (by decide) rfl (fun h42 => ?_) (fun h42 => ?_)
      · have hm := b_t h42 hm
        exact wX7_isRamified_B16 l E out G hr hk v0 v1 v2 v3 g0 _ _ _ _ hm hM (lv_sub hl [] rfl)
      · have hm := b_f h42 hm
        refine r_iconst (np := 13) G 1 dX7_isRamified_12 rfl ?_
        refine r_goto (np := 17) G dX7_isRamified_13 (by decide) ?_
        exact r_zret G hr hk hM (Or.inr rfl) hm dX7_isRamified_17
theorem gX7_isRamified {v0 : Nat} {v1 : Int} {v2 : Int} {v3 : Int} {σ : mSt} {out : Int × mSt} (hm : mX7_isRamified v0 v1 v2 v3 σ = some out) : isC v0 6 := (g_t hm).1
set_option maxRecDepth 100000 in
set_option maxHeartbeats 4000000 in
theorem wX7_powerThatIs_B41 (l : Launch) (E : mE) (out : Int × mSt) {p : Program} {e : Env} {s : State} {m : MethodId} {args : Array Value} {below : List Frame} {meth : Method} {c : Code} (G : CallFix p m c cX7_powerThatIs 7 s args mTs RX7) (hr : meth.sig.returnType = (some .int)) (hk : meth.locks = false) (v0 : Nat) (v1 : Int) (v2 : Int) (v3 : Int) (g0 : isC v0 6) : ∀ (σ : mSt) (H : Heap) (locs : List Loc) (ls : Array Slot), mX7_powerThatIs_B41 v0 v1 v2 v3 σ = some out → mM (mA E 276) E 276 σ s H locs → lv_has ls 7 [] → mGo l p e 0 0 s m args below meth c E (some (vI out.1)) out.2 H locs (F0 m 41 ls []) := by
  intro σ H locs ls hm hM hl
  unfold mX7_powerThatIs_B41 at hm
  refine r_iconst (np := 42) G 0 dX7_powerThatIs_41 rfl ?_
  exact r_iret G hr hk hM hm dX7_powerThatIs_42
set_option maxRecDepth 100000 in
set_option maxHeartbeats 4000000 in
theorem wX7_powerThatIs_L6 (l : Launch) (E : mE) (out : Int × mSt) {p : Program} {e : Env} {s : State} {m : MethodId} {args : Array Value} {below : List Frame} {meth : Method} {c : Code} (G : CallFix p m c cX7_powerThatIs 7 s args mTs RX7) (hr : meth.sig.returnType = (some .int)) (hk : meth.locks = false) (v0 : Nat) (v1 : Int) (v2 : Int) (v3 : Int) (g0 : isC v0 6) (x41 : mSt → Option (Int × mSt)) (hx41 : ∀ (σ : mSt) (H : Heap) (locs : List Loc) (ls : Array Slot), x41 σ = some out → mM (mA E 276) E 276 σ s H locs → lv_has ls 7 [] → mGo l p e 0 0 s m args below meth c E (some (vI out.1)) out.2 H locs (F0 m 41 ls [])) : ∀ (n : Nat) (v4 : Int) (v6 : Int) (σ : mSt) (H : Heap) (locs : List Loc) (ls : Array Slot), mX7_powerThatIs_L6 v0 v1 v2 v3 x41 n v4 v6 σ = some out → mM (mA E 276) E 276 σ s H locs → lv_has ls 7 [(1, vI v1), (2, vI v2), (3, vI v3), (4, vL v4), (6, vI v6)] → mGo l p e 0 0 s m args below meth c E (some (vI out.1)) out.2 H locs (F0 m 6 ls []) := by
  intro n
  induction n with
  | zero =>
    intro v4 v6 σ H locs ls hm hM hl
    exact absurd hm (by rw [mX7_powerThatIs_L6.eq_1]; exact fun h => nomatch h)
  | succ n ih =>
    intro v4 v6 σ H locs ls hm hM hl
    rw [mX7_powerThatIs_L6.eq_2] at hm
    refine r_iload (np := 8) G hl 4 rfl dX7_powerThatIs_6 rfl ?_
    refine r_iload_n (np := 9) G hl 2 rfl dX7_powerThatIs_8 rfl rfl ?_
    refine r_icmp_ge (np := 12) (tgt := 41) G rfl rfl dX7_powerThatIs_9 (by decide) rfl (fun h1 => ?_) (fun h1 => ?_)
    · have hm := b_t h1 hm
      exact hx41 _ _ _ _ hm hM (lv_sub hl [] rfl)
    · have hm := b_f h1 hm
      refine r_lload (np := 14) G hl 3 rfl dX7_powerThatIs_12 rfl ?_
      refine r_iload_n (np := 15) G hl 1 rfl dX7_powerThatIs_14 rfl rfl ?_
      refine r_i2l (np := 16) G rfl dX7_powerThatIs_15 rfl ?_
      refine r_lmul (np := 17) G dX7_powerThatIs_16 rfl ?_
      refine r_iload_n (np := 18) G hl 2 rfl dX7_powerThatIs_17 rfl rfl ?_
      refine r_i2l (np := 19) G rfl dX7_powerThatIs_18 rfl ?_
      obtain ⟨g2, hm⟩ := g_t hm
      refine r_lrem (np := 20) G g2 dX7_powerThatIs_19 rfl ?_
      obtain ⟨a3, e4, hm⟩ := bnd_t hm
      refine r_lstore (np := 22) G hl e4 [(4, vL a3), (1, vI v1), (2, vI v2), (3, vI v3), (6, vI v6)] dX7_powerThatIs_20 rfl (by decide) rfl (fun ls hl => ?_)
      refine r_lload (np := 24) G hl 0 rfl dX7_powerThatIs_22 rfl ?_
      refine r_iload_n (np := 25) G hl 1 rfl dX7_powerThatIs_24 rfl rfl ?_
      refine r_iload_n (np := 26) G hl 3 rfl dX7_powerThatIs_25 rfl rfl ?_
      obtain ⟨g5, hm⟩ := g_t hm
      refine r_irem (np := 27) G g5 dX7_powerThatIs_26 rfl ?_
      refine r_i2l (np := 28) G rfl dX7_powerThatIs_27 rfl ?_
      refine r_lcmp_ne (np := 32) (tgt := 35) G rfl rfl dX7_powerThatIs_28 dX7_powerThatIs_29 (by decide) rfl (fun h6 => ?_) (fun h6 => ?_)
      · have hm := b_f h6 hm
        obtain ⟨a7, e8, hm⟩ := bnd_t hm
        refine r_iinc (np := 38) G hl 4 rfl e8 [(6, vI a7), (4, vL a3), (1, vI v1), (2, vI v2), (3, vI v3)] dX7_powerThatIs_35 rfl (by decide) rfl (fun ls hl => ?_)
        refine r_goto (np := 6) G dX7_powerThatIs_38 (by decide) ?_
        exact ih a3 a7 _ _ _ _ hm hM (lv_sub hl [2, 3, 4, 1, 0] rfl)
      · have hm := b_t h6 hm
        refine r_iload (np := 34) G hl 4 rfl dX7_powerThatIs_32 rfl ?_
        exact r_iret G hr hk hM hm dX7_powerThatIs_34
set_option maxRecDepth 100000 in
set_option maxHeartbeats 4000000 in
theorem qX7_powerThatIs (l : Launch) (E : mE) (σ : mSt) (v0 : Nat) (v1 : Int) (v2 : Int) (v3 : Int) (out : Int × mSt) (hm : mX7_powerThatIs v0 v1 v2 v3 σ = some out) : mMet l yX7_powerThatIs cX7_powerThatIs 7 (some .int) 0 0 E 276 [.ref (eA E v0), vI v1, vI v2, vI v3] σ (some (vI out.1)) out.2 := by
  unfold mX7_powerThatIs at hm
  obtain ⟨g0, hm⟩ := g_t hm
  refine m_entry (by decide +kernel) (Nat.le_of_ble_eq_true rfl) (fun p e s m args below meth c G hr hk hM ls hl => ?_)
  have G : CallFix p m c cX7_powerThatIs 7 s args mTs RX7 := G
  have hl : lv_has ls 7 [(0, .ref (eA E v0)), (1, vI v1), (2, vI v2), (3, vI v3)] := hl
  refine r_lconst (np := 1) G 1 dX7_powerThatIs_0 rfl rfl ?_
  refine r_lstore (np := 3) G hl rfl [(4, vL 1), (0, .ref (eA E v0)), (1, vI v1), (2, vI v2), (3, vI v3)] dX7_powerThatIs_1 rfl (by decide) rfl (fun ls hl => ?_)
  refine r_iconst (np := 4) G 1 dX7_powerThatIs_3 rfl ?_
  refine r_istore (np := 6) G hl rfl [(6, vI 1), (4, vL 1), (0, .ref (eA E v0)), (1, vI v1), (2, vI v2), (3, vI v3)] dX7_powerThatIs_4 rfl (by decide) rfl (fun ls hl => ?_)
  exact wX7_powerThatIs_L6 l E out G hr hk v0 v1 v2 v3 g0 (fun zσ => mX7_powerThatIs_B41 v0 v1 v2 v3 zσ) (fun zσ zH zl zs zm zM zv => wX7_powerThatIs_B41 l E out G hr hk v0 v1 v2 v3 g0 zσ zH zl zs zm zM zv) mF 1 1 _ _ _ _ hm hM (lv_sub hl [3, 4, 5, 1, 0] rfl)
theorem gX7_powerThatIs {v0 : Nat} {v1 : Int} {v2 : Int} {v3 : Int} {σ : mSt} {out : Int × mSt} (hm : mX7_powerThatIs v0 v1 v2 v3 σ = some out) : isC v0 6 := (g_t hm).1
set_option maxRecDepth 100000 in
set_option maxHeartbeats 4000000 in
theorem wX7_leastGenerator_B28 (l : Launch) (E : mE) (out : Int × mSt) {p : Program} {e : Env} {s : State} {m : MethodId} {args : Array Value} {below : List Frame} {meth : Method} {c : Code} (G : CallFix p m c cX7_leastGenerator 3 s args mTs RX7) (hr : meth.sig.returnType = (some .int)) (hk : meth.locks = false) (v0 : Nat) (v1 : Int) (g0 : isC v0 6) : ∀ (σ : mSt) (H : Heap) (locs : List Loc) (ls : Array Slot), mX7_leastGenerator_B28 v0 v1 σ = some out → mM (mA E 276) E 276 σ s H locs → lv_has ls 3 [] → mGo l p e 1 26 s m args below meth c E (some (vI out.1)) out.2 H locs (F0 m 28 ls []) := by
  intro σ H locs ls hm hM hl
  unfold mX7_leastGenerator_B28 at hm
  refine r_iconst (np := 29) G 1 dX7_leastGenerator_28 rfl ?_
  exact r_iret G hr hk hM hm dX7_leastGenerator_29
set_option maxRecDepth 100000 in
set_option maxHeartbeats 4000000 in
theorem wX7_leastGenerator_L2 (l : Launch) (E : mE) (out : Int × mSt) {p : Program} {e : Env} {s : State} {m : MethodId} {args : Array Value} {below : List Frame} {meth : Method} {c : Code} (G : CallFix p m c cX7_leastGenerator 3 s args mTs RX7) (hr : meth.sig.returnType = (some .int)) (hk : meth.locks = false) (v0 : Nat) (v1 : Int) (g0 : isC v0 6) (x28 : mSt → Option (Int × mSt)) (hx28 : ∀ (σ : mSt) (H : Heap) (locs : List Loc) (ls : Array Slot), x28 σ = some out → mM (mA E 276) E 276 σ s H locs → lv_has ls 3 [] → mGo l p e 1 26 s m args below meth c E (some (vI out.1)) out.2 H locs (F0 m 28 ls [])) : ∀ (n : Nat) (v2 : Int) (σ : mSt) (H : Heap) (locs : List Loc) (ls : Array Slot), mX7_leastGenerator_L2 v0 v1 x28 n v2 σ = some out → mM (mA E 276) E 276 σ s H locs → lv_has ls 3 [(0, .ref (eA E v0)), (1, vI v1), (2, vI v2)] → mGo l p e 1 26 s m args below meth c E (some (vI out.1)) out.2 H locs (F0 m 2 ls []) := by
  intro n
  induction n with
  | zero =>
    intro v2 σ H locs ls hm hM hl
    exact absurd hm (by rw [mX7_leastGenerator_L2.eq_1]; exact fun h => nomatch h)
  | succ n ih =>
    intro v2 σ H locs ls hm hM hl
    rw [mX7_leastGenerator_L2.eq_2] at hm
    refine r_iload_n (np := 3) G hl 2 rfl dX7_leastGenerator_2 rfl rfl ?_
    refine r_iload_n (np := 4) G hl 1 rfl dX7_leastGenerator_3 rfl rfl ?_
    refine r_icmp_ge (np := 7) (tgt := 28) G rfl rfl dX7_leastGenerator_4 (by decide) rfl (fun h1 => ?_) (fun h1 => ?_)
    · have hm := b_t h1 hm
      exact hx28 _ _ _ _ hm hM (lv_sub hl [] rfl)
    · have hm := b_f h1 hm
      refine r_aload_n (np := 8) G hl 0 rfl dX7_leastGenerator_7 rfl rfl ?_
      refine r_iconst (np := 9) G 1 dX7_leastGenerator_8 rfl ?_
      refine r_iload_n (np := 10) G hl 2 rfl dX7_leastGenerator_9 rfl rfl ?_
      refine r_iload_n (np := 11) G hl 1 rfl dX7_leastGenerator_10 rfl rfl ?_
      obtain ⟨b2, s3, e4, hm⟩ := call_t hm
      refine m_callVI (np := 14) G hM hl.1 [vI 1, vI v2, vI v1] (qX7_powerThatIs l E σ v0 1 v2 v1 _ e4) myX7_powerThatIs (shp_lt (gX7_powerThatIs e4) (by decide)) (gX7_powerThatIs e4) rfl (by decide) lkX7_93 ⟨Nat.le_of_ble_eq_true rfl, Nat.le_of_ble_eq_true rfl⟩ ⟨Nat.le_of_ble_eq_true rfl, Nat.le_of_ble_eq_true rfl⟩ [] rfl (Nat.le_of_ble_eq_true rfl) dX7_leastGenerator_11 rfl (fun H locs hM => ?_)
      refine r_iload_n (np := 15) G hl 1 rfl dX7_leastGenerator_14 rfl rfl ?_
      refine r_iconst (np := 16) G 1 dX7_leastGenerator_15 rfl ?_
      refine r_isub (np := 17) G dX7_leastGenerator_16 rfl ?_
      refine r_icmp_ne (np := 20) (tgt := 22) G rfl rfl dX7_leastGenerator_17 (by decide) rfl (fun h5 => ?_) (fun h5 => ?_)
      · have hm := b_f h5 hm
        obtain ⟨a6, e7, hm⟩ := bnd_t hm
        refine r_iinc (np := 25) G hl 2 rfl e7 [(2, vI a6), (0, .ref (eA E v0)), (1, vI v1)] dX7_leastGenerator_22 rfl (by decide) rfl (fun ls hl => ?_)
        refine r_goto (np := 2) G dX7_leastGenerator_25 (by decide) ?_
        exact ih a6 _ _ _ _ hm hM (lv_sub hl [1, 2, 0] rfl)
      · have hm := b_t h5 hm
        refine r_iload_n (np := 21) G hl 2 rfl dX7_leastGenerator_20 rfl rfl ?_
        exact r_iret G hr hk hM hm dX7_leastGenerator_21
set_option maxRecDepth 100000 in
set_option maxHeartbeats 4000000 in
theorem qX7_leastGenerator (l : Launch) (E : mE) (σ : mSt) (v0 : Nat) (v1 : Int) (out : Int × mSt) (hm : mX7_leastGenerator v0 v1 σ = some out) : mMet l yX7_leastGenerator cX7_leastGenerator 3 (some .int) 1 26 E 276 [.ref (eA E v0), vI v1] σ (some (vI out.1)) out.2 := by
  unfold mX7_leastGenerator at hm
  obtain ⟨g0, hm⟩ := g_t hm
  refine m_entry (by decide +kernel) (Nat.le_of_ble_eq_true rfl) (fun p e s m args below meth c G hr hk hM ls hl => ?_)
  have G : CallFix p m c cX7_leastGenerator 3 s args mTs RX7 := G
  have hl : lv_has ls 3 [(0, .ref (eA E v0)), (1, vI v1)] := hl
  refine r_iconst (np := 1) G 2 dX7_leastGenerator_0 rfl ?_
  refine r_istore_n (np := 2) G hl rfl [(2, vI 2), (0, .ref (eA E v0)), (1, vI v1)] dX7_leastGenerator_1 rfl rfl (by decide) rfl (fun ls hl => ?_)
  exact wX7_leastGenerator_L2 l E out G hr hk v0 v1 g0 (fun zσ => mX7_leastGenerator_B28 v0 v1 zσ) (fun zσ zH zl zs zm zM zv => wX7_leastGenerator_B28 l E out G hr hk v0 v1 g0 zσ zH zl zs zm zM zv) mF 2 _ _ _ _ hm hM (lv_sub hl [1, 2, 0] rfl)
theorem gX7_leastGenerator {v0 : Nat} {v1 : Int} {σ : mSt} {out : Int × mSt} (hm : mX7_leastGenerator v0 v1 σ = some out) : isC v0 6 := (g_t hm).1
set_option maxRecDepth 100000 in
set_option maxHeartbeats 4000000 in
theorem wX7_reckonCyclic_B117 (l : Launch) (E : mE) (out : Int × mSt) {p : Program} {e : Env} {s : State} {m : MethodId} {args : Array Value} {below : List Frame} {meth : Method} {c : Code} (G : CallFix p m c cX7_reckonCyclic 10 s args mTs RX7) (hr : meth.sig.returnType = none) (hk : meth.locks = false) (v0 : Nat) (v1 : Int) (v2 : Int) (v3 : Int) (g0 : isC v0 6) : ∀ (v5 : Int) (v6 : Int) (σ : mSt) (H : Heap) (locs : List Loc) (ls : Array Slot), mX7_reckonCyclic_B117 v0 v1 v2 v3 v5 v6 σ = some out → mM (mA E 276) E 276 σ s H locs → lv_has ls 10 [(0, .ref (eA E v0)), (1, vI v1), (5, vI v5), (6, vI v6)] → mGo l p e 2 48 s m args below meth c E none out.2 H locs (F0 m 117 ls []) := by
  intro v5 v6 σ H locs ls hm hM hl
  unfold mX7_reckonCyclic_B117 at hm
  refine r_iload (np := 119) G hl 3 rfl dX7_reckonCyclic_117 rfl ?_
  refine r_iconst (np := 120) G (-1) dX7_reckonCyclic_119 rfl ?_
  refine r_icmp_eq (np := 123) (tgt := 143) G rfl (wIk (-1) rfl) dX7_reckonCyclic_120 (by decide) rfl (fun h1 => ?_) (fun h1 => ?_)
  · have hm := b_t h1 hm
    exact r_vret G hr hk hM hm dX7_reckonCyclic_143
  · have hm := b_f h1 hm
    refine r_aload_n (np := 124) G hl 0 rfl dX7_reckonCyclic_123 rfl rfl ?_
    obtain ⟨r2, e3, hm⟩ := ref_t hm
    refine r_getR (np := 127) G hM (shp_lt g0 (by decide)) g0 e3 fdX7_3 lkX7_24 dX7_reckonCyclic_124 rfl ?_
    refine r_iload_n (np := 128) G hl 1 rfl dX7_reckonCyclic_127 rfl rfl ?_
    obtain ⟨g4, hm⟩ := g_t hm
    obtain ⟨r5, e6, hm⟩ := ref_t hm
    refine r_aaload (np := 129) G hM (t := 6) g4 rfl ⟨by decide, by decide⟩ rfl rfl e6 dX7_reckonCyclic_128 rfl ?_
    refine r_iload (np := 131) G hl 3 rfl dX7_reckonCyclic_129 rfl ?_
    refine r_iload (np := 133) G hl 2 rfl dX7_reckonCyclic_131 rfl ?_
    refine r_ineg (np := 134) G dX7_reckonCyclic_133 rfl ?_
    refine r_i2l (np := 135) G rfl dX7_reckonCyclic_134 rfl ?_
    refine r_ldc2 (np := 138) G 6 dX7_reckonCyclic_135 lkX7_97 rfl rfl ?_
    obtain ⟨b7, s8, e9, hm⟩ := call_t hm
    refine m_callSL (np := 141) G hM hl.1 [vL (wI (-v5)), vL 6] (qX5_rest l E σ (wI (-v5)) 6 _ e9) myX5_rest lkX7_99 ⟨Nat.le_of_ble_eq_true rfl, Nat.le_of_ble_eq_true rfl⟩ ⟨Nat.le_of_ble_eq_true rfl, Nat.le_of_ble_eq_true rfl⟩ [vI v6, .ref (eA E r5)] rfl (Nat.le_of_ble_eq_true rfl) dX7_reckonCyclic_138 rfl (fun H locs hM => ?_)
    refine r_l2i (np := 142) G dX7_reckonCyclic_141 rfl ?_
    obtain ⟨g10, hm⟩ := g_t hm
    obtain ⟨s11, e12, hm⟩ := bnd_t hm
    refine r_iastore (np := 143) G hM g10 rfl s11 e12 dX7_reckonCyclic_142 rfl (fun H locs hM => ?_)
    exact r_vret G hr hk hM hm dX7_reckonCyclic_143
set_option maxRecDepth 100000 in
set_option maxHeartbeats 4000000 in
theorem wX7_reckonCyclic_B97 (l : Launch) (E : mE) (out : Int × mSt) {p : Program} {e : Env} {s : State} {m : MethodId} {args : Array Value} {below : List Frame} {meth : Method} {c : Code} (G : CallFix p m c cX7_reckonCyclic 10 s args mTs RX7) (hr : meth.sig.returnType = none) (hk : meth.locks = false) (v0 : Nat) (v1 : Int) (v2 : Int) (v3 : Int) (v4 : Int) (g0 : isC v0 6) (c16 : Int → Int → Int → mSt → Option (Int × mSt)) (x117 : Int → Int → mSt → Option (Int × mSt)) (hc16 : ∀ (v5 : Int) (v6 : Int) (v7 : Int) (σ : mSt) (H : Heap) (locs : List Loc) (ls : Array Slot), c16 v5 v6 v7 σ = some out → mM (mA E 276) E 276 σ s H locs → lv_has ls 10 [(0, .ref (eA E v0)), (1, vI v1), (2, vI v2), (3, vI v3), (4, vI v4), (5, vI v5), (6, vI v6), (7, vI v7)] → mGo l p e 2 48 s m args below meth c E none out.2 H locs (F0 m 16 ls [])) (hx117 : ∀ (v5 : Int) (v6 : Int) (σ : mSt) (H : Heap) (locs : List Loc) (ls : Array Slot), x117 v5 v6 σ = some out → mM (mA E 276) E 276 σ s H locs → lv_has ls 10 [(0, .ref (eA E v0)), (1, vI v1), (5, vI v5), (6, vI v6)] → mGo l p e 2 48 s m args below meth c E none out.2 H locs (F0 m 117 ls [])) : ∀ (v5 : Int) (v6 : Int) (v7 : Int) (σ : mSt) (H : Heap) (locs : List Loc) (ls : Array Slot), mX7_reckonCyclic_B97 v0 v1 v2 v3 v4 c16 x117 v5 v6 v7 σ = some out → mM (mA E 276) E 276 σ s H locs → lv_has ls 10 [(0, .ref (eA E v0)), (1, vI v1), (2, vI v2), (3, vI v3), (4, vI v4), (5, vI v5), (6, vI v6), (7, vI v7)] → mGo l p e 2 48 s m args below meth c E none out.2 H locs (F0 m 97 ls []) := by
  intro v5 v6 v7 σ H locs ls hm hM hl
  unfold mX7_reckonCyclic_B97 at hm
  refine r_iload (np := 99) G hl 5 rfl dX7_reckonCyclic_97 rfl ?_
  refine r_aload_n (np := 100) G hl 0 rfl dX7_reckonCyclic_99 rfl rfl ?_
  obtain ⟨r13, e14, hm⟩ := ref_t hm
  refine r_getR (np := 103) G hM (shp_lt g0 (by decide)) g0 e14 fdX7_3 lkX7_24 dX7_reckonCyclic_100 rfl ?_
  refine r_iload_n (np := 104) G hl 1 rfl dX7_reckonCyclic_103 rfl rfl ?_
  obtain ⟨g15, hm⟩ := g_t hm
  obtain ⟨r16, e17, hm⟩ := ref_t hm
  refine r_aaload (np := 105) G hM (t := 6) g15 rfl ⟨by decide, by decide⟩ rfl rfl e17 dX7_reckonCyclic_104 rfl ?_
  refine r_iload (np := 107) G hl 7 rfl dX7_reckonCyclic_105 rfl ?_
  obtain ⟨g18, hm⟩ := g_t hm
  refine r_iaload (np := 108) G hM g18 rfl dX7_reckonCyclic_107 rfl ?_
  refine r_iadd (np := 109) G dX7_reckonCyclic_108 rfl ?_
  obtain ⟨a19, e20, hm⟩ := bnd_t hm
  refine r_istore (np := 111) G hl e20 [(5, vI a19), (0, .ref (eA E v0)), (1, vI v1), (2, vI v2), (3, vI v3), (4, vI v4), (6, vI v6), (7, vI v7)] dX7_reckonCyclic_109 rfl (by decide) rfl (fun ls hl => ?_)
  obtain ⟨a21, e22, hm⟩ := bnd_t hm
  refine r_iinc (np := 114) G hl 7 rfl e22 [(7, vI a21), (5, vI a19), (0, .ref (eA E v0)), (1, vI v1), (2, vI v2), (3, vI v3), (4, vI v4), (6, vI v6)] dX7_reckonCyclic_111 rfl (by decide) rfl (fun ls hl => ?_)
  refine r_goto (np := 16) G dX7_reckonCyclic_114 (by decide) ?_
  exact hc16 a19 v6 a21 _ _ _ _ hm hM (lv_sub hl [2, 3, 4, 5, 6, 1, 7, 0] rfl)
set_option maxRecDepth 100000 in
set_option maxHeartbeats 4000000 in
theorem wX7_reckonCyclic_L16 (l : Launch) (E : mE) (out : Int × mSt) {p : Program} {e : Env} {s : State} {m : MethodId} {args : Array Value} {below : List Frame} {meth : Method} {c : Code} (G : CallFix p m c cX7_reckonCyclic 10 s args mTs RX7) (hr : meth.sig.returnType = none) (hk : meth.locks = false) (v0 : Nat) (v1 : Int) (v2 : Int) (v3 : Int) (v4 : Int) (g0 : isC v0 6) (x117 : Int → Int → mSt → Option (Int × mSt)) (hx117 : ∀ (v5 : Int) (v6 : Int) (σ : mSt) (H : Heap) (locs : List Loc) (ls : Array Slot), x117 v5 v6 σ = some out → mM (mA E 276) E 276 σ s H locs → lv_has ls 10 [(0, .ref (eA E v0)), (1, vI v1), (5, vI v5), (6, vI v6)] → mGo l p e 2 48 s m args below meth c E none out.2 H locs (F0 m 117 ls [])) : ∀ (n : Nat) (v5 : Int) (v6 : Int) (v7 : Int) (σ : mSt) (H : Heap) (locs : List Loc) (ls : Array Slot), mX7_reckonCyclic_L16 v0 v1 v2 v3 v4 x117 n v5 v6 v7 σ = some out → mM (mA E 276) E 276 σ s H locs → lv_has ls 10 [(0, .ref (eA E v0)), (1, vI v1), (2, vI v2), (3, vI v3), (4, vI v4), (5, vI v5), (6, vI v6), (7, vI v7)] → mGo l p e 2 48 s m args below meth c E none out.2 H locs (F0 m 16 ls []) := by
  intro n
  induction n with
  | zero =>
    intro v5 v6 v7 σ H locs ls hm hM hl
    exact absurd hm (by rw [mX7_reckonCyclic_L16.eq_1]; exact fun h => nomatch h)
  | succ n ih =>
    intro v5 v6 v7 σ H locs ls hm hM hl
    rw [mX7_reckonCyclic_L16.eq_2] at hm
    refine r_iload (np := 18) G hl 7 rfl dX7_reckonCyclic_16 rfl ?_
    refine r_aload_n (np := 19) G hl 0 rfl dX7_reckonCyclic_18 rfl rfl ?_
    refine r_getI (np := 22) G hM (shp_lt g0 (by decide)) g0 fdX7_0 lkX7_9 dX7_reckonCyclic_19 rfl ?_
    refine r_icmp_ge (np := 25) (tgt := 117) G rfl rfl dX7_reckonCyclic_22 (by decide) rfl (fun h23 => ?_) (fun h23 => ?_)
    · have hm := b_t h23 hm
      exact hx117 v5 v6 _ _ _ _ hm hM (lv_sub hl [0, 1, 5, 6] rfl)
    · have hm := b_f h23 hm
      refine r_aload_n (np := 26) G hl 0 rfl dX7_reckonCyclic_25 rfl rfl ?_
      obtain ⟨r24, e25, hm⟩ := ref_t hm
      refine r_getR (np := 29) G hM (shp_lt g0 (by decide)) g0 e25 fdX7_2 lkX7_18 dX7_reckonCyclic_26 rfl ?_
      refine r_iload (np := 31) G hl 7 rfl dX7_reckonCyclic_29 rfl ?_
      obtain ⟨g26, hm⟩ := g_t hm
      refine r_iaload (np := 32) G hM g26 rfl dX7_reckonCyclic_31 rfl ?_
      obtain ⟨a27, e28, hm⟩ := bnd_t hm
      refine r_istore (np := 34) G hl e28 [(8, vI a27), (0, .ref (eA E v0)), (1, vI v1), (2, vI v2), (3, vI v3), (4, vI v4), (5, vI v5), (6, vI v6), (7, vI v7)] dX7_reckonCyclic_32 rfl (by decide) rfl (fun ls hl => ?_)
      refine r_aload_n (np := 35) G hl 1 rfl dX7_reckonCyclic_34 rfl rfl ?_
      obtain ⟨r29, e30, hm⟩ := ref_t hm
      refine r_getR (np := 38) G hM (shp_lt g0 (by decide)) g0 e30 fdX7_3 lkX7_24 dX7_reckonCyclic_35 rfl ?_
      refine r_iload_n (np := 39) G hl 2 rfl dX7_reckonCyclic_38 rfl rfl ?_
      obtain ⟨g31, hm⟩ := g_t hm
      obtain ⟨r32, e33, hm⟩ := ref_t hm
      refine r_aaload (np := 40) G hM (t := 6) g31 rfl ⟨by decide, by decide⟩ rfl rfl e33 dX7_reckonCyclic_39 rfl ?_
      refine r_iload (np := 42) G hl 8 rfl dX7_reckonCyclic_40 rfl ?_
      refine r_iconst (np := 43) G 0 dX7_reckonCyclic_42 rfl ?_
      obtain ⟨g34, hm⟩ := g_t hm
      obtain ⟨s35, e36, hm⟩ := bnd_t hm
      refine r_iastore (np := 44) G hM g34 rfl s35 e36 dX7_reckonCyclic_43 rfl (fun H locs hM => ?_)
      refine r_iload (np := 46) G hl 0 rfl dX7_reckonCyclic_44 rfl ?_
      refine r_iload_n (np := 47) G hl 3 rfl dX7_reckonCyclic_46 rfl rfl ?_
      refine r_icmp_ne (np := 50) (tgt := 57) G rfl rfl dX7_reckonCyclic_47 (by decide) rfl (fun h37 => ?_) (fun h37 => ?_)
      · have hm := b_f h37 hm
        refine r_iload (np := 59) G hl 0 rfl dX7_reckonCyclic_57 rfl ?_
        refine r_iconst (np := 60) G 1 dX7_reckonCyclic_59 rfl ?_
        refine r_icmp_le (np := 63) (tgt := 97) G rfl (wIk 1 rfl) dX7_reckonCyclic_60 (by decide) rfl (fun h38 => ?_) (fun h38 => ?_)
        · have hm := b_t h38 hm
          exact wX7_reckonCyclic_B97 l E out G hr hk v0 v1 v2 v3 v4 g0 (mX7_reckonCyclic_L16 v0 v1 v2 v3 v4 x117 n) x117 ih hx117 v5 v6 v7 _ _ _ _ hm hM (lv_sub hl [1, 2, 3, 4, 5, 6, 7, 8] rfl)
        · have hm := b_f h38 hm
          refine r_iload (np := 65) G hl 0 rfl dX7_reckonCyclic_63 rfl ?_
          refine r_iload_n (np := 66) G hl 4 rfl dX7_reckonCyclic_65 rfl rfl ?_
          refine r_i2l (np := 67) G rfl dX7_reckonCyclic_66 rfl ?_
          obtain ⟨b39, s40, e41, hm⟩ := call_t hm
          refine m_callSI (np := 70) G hM hl.1 [vI a27, vL (wI v3)] (qX5_howOften l E s35 a27 (wI v3) _ e41) myX5_howOften lkX7_72 ⟨Nat.le_of_ble_eq_true rfl, Nat.le_of_ble_eq_true rfl⟩ ⟨Nat.le_of_ble_eq_true rfl, Nat.le_of_ble_eq_true rfl⟩ [] rfl (Nat.le_of_ble_eq_true rfl) dX7_reckonCyclic_67 rfl (fun H locs hM => ?_)
          refine r_aload_n (np := 71) G hl 1 rfl dX7_reckonCyclic_70 rfl rfl ?_
          refine r_iload (np := 73) G hl 0 rfl dX7_reckonCyclic_71 rfl ?_
          refine r_iload (np := 75) G hl 5 rfl dX7_reckonCyclic_73 rfl ?_
          refine r_iload_n (np := 76) G hl 3 rfl dX7_reckonCyclic_75 rfl rfl ?_
          obtain ⟨b42, s43, e44, hm⟩ := call_t hm
          refine m_callVI (np := 79) G hM hl.1 [vI a27, vI v4, vI v2] (qX7_powerThatIs l E s40 v0 a27 v4 v2 _ e44) myX7_powerThatIs (shp_lt (gX7_powerThatIs e44) (by decide)) (gX7_powerThatIs e44) rfl (by decide) lkX7_93 ⟨Nat.le_of_ble_eq_true rfl, Nat.le_of_ble_eq_true rfl⟩ ⟨Nat.le_of_ble_eq_true rfl, Nat.le_of_ble_eq_true rfl⟩ [vI b39] rfl (Nat.le_of_ble_eq_true rfl) dX7_reckonCyclic_76 rfl (fun H locs hM => ?_)
          refine r_imul (np := 80) G dX7_reckonCyclic_79 rfl ?_
          obtain ⟨a45, e46, hm⟩ := bnd_t hm
          refine r_istore (np := 82) G hl e46 [(9, vI a45), (8, vI a27), (0, .ref (eA E v0)), (1, vI v1), (2, vI v2), (3, vI v3), (4, vI v4), (5, vI v5), (6, vI v6), (7, vI v7)] dX7_reckonCyclic_80 rfl (by decide) rfl (fun ls hl => ?_)
          refine r_aload_n (np := 83) G hl 2 rfl dX7_reckonCyclic_82 rfl rfl ?_
          obtain ⟨r47, e48, hm⟩ := ref_t hm
          refine r_getR (np := 86) G hM (shp_lt g0 (by decide)) g0 e48 fdX7_3 lkX7_24 dX7_reckonCyclic_83 rfl ?_
          refine r_iload_n (np := 87) G hl 3 rfl dX7_reckonCyclic_86 rfl rfl ?_
          obtain ⟨g49, hm⟩ := g_t hm
          obtain ⟨r50, e51, hm⟩ := ref_t hm
          refine r_aaload (np := 88) G hM (t := 6) g49 rfl ⟨by decide, by decide⟩ rfl rfl e51 dX7_reckonCyclic_87 rfl ?_
          refine r_iload (np := 90) G hl 9 rfl dX7_reckonCyclic_88 rfl ?_
          refine r_iconst (np := 91) G 2 dX7_reckonCyclic_90 rfl ?_
          refine r_iload (np := 93) G hl 0 rfl dX7_reckonCyclic_91 rfl ?_
          refine r_iconst (np := 94) G 3 dX7_reckonCyclic_93 rfl ?_
          obtain ⟨g52, hm⟩ := g_t hm
          refine r_irem (np := 95) G g52 dX7_reckonCyclic_94 rfl ?_
          refine r_imul (np := 96) G dX7_reckonCyclic_95 rfl ?_
          obtain ⟨g53, hm⟩ := g_t hm
          obtain ⟨s54, e55, hm⟩ := bnd_t hm
          refine r_iastore (np := 97) G hM g53 rfl s54 e55 dX7_reckonCyclic_96 rfl (fun H locs hM => ?_)
          exact wX7_reckonCyclic_B97 l E out G hr hk v0 v1 v2 v3 v4 g0 (mX7_reckonCyclic_L16 v0 v1 v2 v3 v4 x117 n) x117 ih hx117 v5 v6 v7 _ _ _ _ hm hM (lv_sub hl [2, 3, 4, 5, 6, 7, 8, 9] rfl)
      · have hm := b_t h37 hm
        refine r_iload (np := 52) G hl 8 rfl dX7_reckonCyclic_50 rfl ?_
        refine r_istore (np := 54) G hl rfl [(6, vI v7), (8, vI a27), (0, .ref (eA E v0)), (1, vI v1), (2, vI v2), (3, vI v3), (4, vI v4), (5, vI v5), (7, vI v7)] dX7_reckonCyclic_52 rfl (by decide) rfl (fun ls hl => ?_)
        refine r_goto (np := 97) G dX7_reckonCyclic_54 (by decide) ?_
        exact wX7_reckonCyclic_B97 l E out G hr hk v0 v1 v2 v3 v4 g0 (mX7_reckonCyclic_L16 v0 v1 v2 v3 v4 x117 n) x117 ih hx117 v5 v7 v7 _ _ _ _ hm hM (lv_sub hl [2, 3, 4, 5, 6, 7, 0, 8] rfl)
set_option maxRecDepth 100000 in
set_option maxHeartbeats 4000000 in
theorem qX7_reckonCyclic (l : Launch) (E : mE) (σ : mSt) (v0 : Nat) (v1 : Int) (v2 : Int) (v3 : Int) (out : Int × mSt) (hm : mX7_reckonCyclic v0 v1 v2 v3 σ = some out) : mMet l yX7_reckonCyclic cX7_reckonCyclic 10 none 2 48 E 276 [.ref (eA E v0), vI v1, vI v2, vI v3] σ none out.2 := by
  unfold mX7_reckonCyclic at hm
  obtain ⟨g0, hm⟩ := g_t hm
  refine m_entry (by decide +kernel) (Nat.le_of_ble_eq_true rfl) (fun p e s m args below meth c G hr hk hM ls hl => ?_)
  have G : CallFix p m c cX7_reckonCyclic 10 s args mTs RX7 := G
  have hl : lv_has ls 10 [(0, .ref (eA E v0)), (1, vI v1), (2, vI v2), (3, vI v3)] := hl
  refine r_aload_n (np := 1) G hl 0 rfl dX7_reckonCyclic_0 rfl rfl ?_
  refine r_iload_n (np := 2) G hl 2 rfl dX7_reckonCyclic_1 rfl rfl ?_
  obtain ⟨b56, s57, e58, hm⟩ := call_t hm
  refine m_callVI (np := 5) G hM hl.1 [vI v2] (qX7_leastGenerator l E σ v0 v2 _ e58) myX7_leastGenerator (shp_lt (gX7_leastGenerator e58) (by decide)) (gX7_leastGenerator e58) rfl (by decide) lkX7_90 ⟨Nat.le_of_ble_eq_true rfl, Nat.le_of_ble_eq_true rfl⟩ ⟨Nat.le_of_ble_eq_true rfl, Nat.le_of_ble_eq_true rfl⟩ [] rfl (Nat.le_of_ble_eq_true rfl) dX7_reckonCyclic_2 rfl (fun H locs hM => ?_)
  refine r_istore (np := 7) G hl rfl [(4, vI b56), (0, .ref (eA E v0)), (1, vI v1), (2, vI v2), (3, vI v3)] dX7_reckonCyclic_5 rfl (by decide) rfl (fun ls hl => ?_)
  refine r_iconst (np := 8) G 0 dX7_reckonCyclic_7 rfl ?_
  refine r_istore (np := 10) G hl rfl [(5, vI 0), (4, vI b56), (0, .ref (eA E v0)), (1, vI v1), (2, vI v2), (3, vI v3)] dX7_reckonCyclic_8 rfl (by decide) rfl (fun ls hl => ?_)
  refine r_iconst (np := 11) G (-1) dX7_reckonCyclic_10 rfl ?_
  refine r_istore (np := 13) G hl rfl [(6, vI (-1)), (5, vI 0), (4, vI b56), (0, .ref (eA E v0)), (1, vI v1), (2, vI v2), (3, vI v3)] dX7_reckonCyclic_11 rfl (by decide) rfl (fun ls hl => ?_)
  refine r_iconst (np := 14) G 0 dX7_reckonCyclic_13 rfl ?_
  refine r_istore (np := 16) G hl rfl [(7, vI 0), (6, vI (-1)), (5, vI 0), (4, vI b56), (0, .ref (eA E v0)), (1, vI v1), (2, vI v2), (3, vI v3)] dX7_reckonCyclic_14 rfl (by decide) rfl (fun ls hl => ?_)
  exact wX7_reckonCyclic_L16 l E out G hr hk v0 v1 v2 v3 b56 g0 (fun z5 z6 zσ => mX7_reckonCyclic_B117 v0 v1 v2 v3 z5 z6 zσ) (fun z5 z6 zσ zH zl zs zm zM zv => wX7_reckonCyclic_B117 l E out G hr hk v0 v1 v2 v3 g0 z5 z6 zσ zH zl zs zm zM zv) mF 0 (-1) 0 _ _ _ _ hm hM (lv_sub hl [4, 5, 6, 7, 3, 2, 1, 0] rfl)
theorem gX7_reckonCyclic {v0 : Nat} {v1 : Int} {v2 : Int} {v3 : Int} {σ : mSt} {out : Int × mSt} (hm : mX7_reckonCyclic v0 v1 v2 v3 σ = some out) : isC v0 6 := (g_t hm).1
set_option maxRecDepth 100000 in
set_option maxHeartbeats 4000000 in
theorem wX7_reckonSum_B89 (l : Launch) (E : mE) (out : Int × mSt) {p : Program} {e : Env} {s : State} {m : MethodId} {args : Array Value} {below : List Frame} {meth : Method} {c : Code} (G : CallFix p m c cX7_reckonSum 7 s args mTs RX7) (hr : meth.sig.returnType = none) (hk : meth.locks = false) (v0 : Nat) (v1 : Nat) (v2 : Int) (g0 : isC v0 6) : ∀ (σ : mSt) (H : Heap) (locs : List Loc) (ls : Array Slot), mX7_reckonSum_B89 v0 v1 v2 σ = some out → mM (mA E 276) E 276 σ s H locs → lv_has ls 7 [] → mGo l p e 2 48 s m args below meth c E none out.2 H locs (F0 m 89 ls []) := by
  intro σ H locs ls hm hM hl
  unfold mX7_reckonSum_B89 at hm
  exact r_vret G hr hk hM hm dX7_reckonSum_89
set_option maxRecDepth 100000 in
set_option maxHeartbeats 4000000 in
theorem wX7_reckonSum_B66 (l : Launch) (E : mE) (out : Int × mSt) {p : Program} {e : Env} {s : State} {m : MethodId} {args : Array Value} {below : List Frame} {meth : Method} {c : Code} (G : CallFix p m c cX7_reckonSum 7 s args mTs RX7) (hr : meth.sig.returnType = none) (hk : meth.locks = false) (v0 : Nat) (v1 : Nat) (v2 : Int) (g0 : isC v0 6) (c2 : Int → mSt → Option (Int × mSt)) (x89 : mSt → Option (Int × mSt)) (hc2 : ∀ (v3 : Int) (σ : mSt) (H : Heap) (locs : List Loc) (ls : Array Slot), c2 v3 σ = some out → mM (mA E 276) E 276 σ s H locs → lv_has ls 7 [(0, .ref (eA E v0)), (1, .ref (eA E v1)), (2, vI v2), (3, vI v3)] → mGo l p e 2 48 s m args below meth c E none out.2 H locs (F0 m 2 ls [])) (hx89 : ∀ (σ : mSt) (H : Heap) (locs : List Loc) (ls : Array Slot), x89 σ = some out → mM (mA E 276) E 276 σ s H locs → lv_has ls 7 [] → mGo l p e 2 48 s m args below meth c E none out.2 H locs (F0 m 89 ls [])) : ∀ (v3 : Int) (v4 : Int) (σ : mSt) (H : Heap) (locs : List Loc) (ls : Array Slot), mX7_reckonSum_B66 v0 v1 v2 c2 x89 v3 v4 σ = some out → mM (mA E 276) E 276 σ s H locs → lv_has ls 7 [(0, .ref (eA E v0)), (1, .ref (eA E v1)), (2, vI v2), (3, vI v3), (4, vL v4)] → mGo l p e 2 48 s m args below meth c E none out.2 H locs (F0 m 66 ls []) := by
  intro v3 v4 σ H locs ls hm hM hl
  unfold mX7_reckonSum_B66 at hm
  refine r_aload_n (np := 67) G hl 0 rfl dX7_reckonSum_66 rfl rfl ?_
  obtain ⟨r1, e2, hm⟩ := ref_t hm
  refine r_getR (np := 70) G hM (shp_lt g0 (by decide)) g0 e2 fdX7_3 lkX7_24 dX7_reckonSum_67 rfl ?_
  refine r_iload_n (np := 71) G hl 2 rfl dX7_reckonSum_70 rfl rfl ?_
  obtain ⟨g3, hm⟩ := g_t hm
  obtain ⟨r4, e5, hm⟩ := ref_t hm
  refine r_aaload (np := 72) G hM (t := 6) g3 rfl ⟨by decide, by decide⟩ rfl rfl e5 dX7_reckonSum_71 rfl ?_
  refine r_iload_n (np := 73) G hl 3 rfl dX7_reckonSum_72 rfl rfl ?_
  refine r_lload (np := 75) G hl 4 rfl dX7_reckonSum_73 rfl ?_
  refine r_ldc2 (np := 78) G 6 dX7_reckonSum_75 lkX7_97 rfl rfl ?_
  obtain ⟨b6, s7, e8, hm⟩ := call_t hm
  refine m_callSL (np := 81) G hM hl.1 [vL v4, vL 6] (qX5_rest l E σ v4 6 _ e8) myX5_rest lkX7_99 ⟨Nat.le_of_ble_eq_true rfl, Nat.le_of_ble_eq_true rfl⟩ ⟨Nat.le_of_ble_eq_true rfl, Nat.le_of_ble_eq_true rfl⟩ [vI v3, .ref (eA E r4)] rfl (Nat.le_of_ble_eq_true rfl) dX7_reckonSum_78 rfl (fun H locs hM => ?_)
  refine r_l2i (np := 82) G dX7_reckonSum_81 rfl ?_
  obtain ⟨g9, hm⟩ := g_t hm
  obtain ⟨s10, e11, hm⟩ := bnd_t hm
  refine r_iastore (np := 83) G hM g9 rfl s10 e11 dX7_reckonSum_82 rfl (fun H locs hM => ?_)
  obtain ⟨a12, e13, hm⟩ := bnd_t hm
  refine r_iinc (np := 86) G hl 3 rfl e13 [(3, vI a12), (0, .ref (eA E v0)), (1, .ref (eA E v1)), (2, vI v2), (4, vL v4)] dX7_reckonSum_83 rfl (by decide) rfl (fun ls hl => ?_)
  refine r_goto (np := 2) G dX7_reckonSum_86 (by decide) ?_
  exact hc2 a12 _ _ _ _ hm hM (lv_sub hl [1, 2, 3, 0] rfl)
set_option maxRecDepth 100000 in
set_option maxHeartbeats 4000000 in
theorem wX7_reckonSum_L16 (l : Launch) (E : mE) (out : Int × mSt) {p : Program} {e : Env} {s : State} {m : MethodId} {args : Array Value} {below : List Frame} {meth : Method} {c : Code} (G : CallFix p m c cX7_reckonSum 7 s args mTs RX7) (hr : meth.sig.returnType = none) (hk : meth.locks = false) (v0 : Nat) (v1 : Nat) (v2 : Int) (v3 : Int) (g0 : isC v0 6) (x66 : Int → mSt → Option (Int × mSt)) (hx66 : ∀ (v4 : Int) (σ : mSt) (H : Heap) (locs : List Loc) (ls : Array Slot), x66 v4 σ = some out → mM (mA E 276) E 276 σ s H locs → lv_has ls 7 [(0, .ref (eA E v0)), (1, .ref (eA E v1)), (2, vI v2), (3, vI v3), (4, vL v4)] → mGo l p e 2 48 s m args below meth c E none out.2 H locs (F0 m 66 ls [])) : ∀ (n : Nat) (v4 : Int) (v6 : Int) (σ : mSt) (H : Heap) (locs : List Loc) (ls : Array Slot), mX7_reckonSum_L16 v0 v1 v2 v3 x66 n v4 v6 σ = some out → mM (mA E 276) E 276 σ s H locs → lv_has ls 7 [(0, .ref (eA E v0)), (1, .ref (eA E v1)), (2, vI v2), (3, vI v3), (4, vL v4), (6, vI v6)] → mGo l p e 2 48 s m args below meth c E none out.2 H locs (F0 m 16 ls []) := by
  intro n
  induction n with
  | zero =>
    intro v4 v6 σ H locs ls hm hM hl
    exact absurd hm (by rw [mX7_reckonSum_L16.eq_1]; exact fun h => nomatch h)
  | succ n ih =>
    intro v4 v6 σ H locs ls hm hM hl
    rw [mX7_reckonSum_L16.eq_2] at hm
    refine r_iload (np := 18) G hl 5 rfl dX7_reckonSum_16 rfl ?_
    refine r_aload_n (np := 19) G hl 1 rfl dX7_reckonSum_18 rfl rfl ?_
    refine r_iload_n (np := 20) G hl 2 rfl dX7_reckonSum_19 rfl rfl ?_
    obtain ⟨b14, s15, e16, hm⟩ := call_t hm
    refine m_callVI (np := 23) G hM hl.1 [vI v2] (qX0_first l E σ v1 v2 _ e16) myX0_first (shp_lt (gX0_first e16) (by decide)) (gX0_first e16) rfl (by decide) lkX7_47 ⟨Nat.le_of_ble_eq_true rfl, Nat.le_of_ble_eq_true rfl⟩ ⟨Nat.le_of_ble_eq_true rfl, Nat.le_of_ble_eq_true rfl⟩ [vI v6] rfl (Nat.le_of_ble_eq_true rfl) dX7_reckonSum_20 rfl (fun H locs hM => ?_)
    refine r_icmp_ge (np := 26) (tgt := 66) G rfl rfl dX7_reckonSum_23 (by decide) rfl (fun h17 => ?_) (fun h17 => ?_)
    · have hm := b_t h17 hm
      exact hx66 v4 _ _ _ _ hm hM (lv_sub hl [0, 1, 2, 3, 4] rfl)
    · have hm := b_f h17 hm
      refine r_iload (np := 28) G hl 5 rfl dX7_reckonSum_26 rfl ?_
      refine r_iconst (np := 29) G 4 dX7_reckonSum_28 rfl ?_
      refine r_icmp_ge (np := 32) (tgt := 66) G rfl (wIk 4 rfl) dX7_reckonSum_29 (by decide) rfl (fun h18 => ?_) (fun h18 => ?_)
      · have hm := b_t h18 hm
        exact hx66 v4 _ _ _ _ hm hM (lv_sub hl [0, 1, 2, 3, 4] rfl)
      · have hm := b_f h18 hm
        refine r_lload (np := 34) G hl 4 rfl dX7_reckonSum_32 rfl ?_
        refine r_aload_n (np := 35) G hl 1 rfl dX7_reckonSum_34 rfl rfl ?_
        refine r_iload_n (np := 36) G hl 2 rfl dX7_reckonSum_35 rfl rfl ?_
        refine r_iload (np := 38) G hl 5 rfl dX7_reckonSum_36 rfl ?_
        obtain ⟨b19, s20, e21, hm⟩ := call_t hm
        refine m_callVI (np := 41) G hM hl.1 [vI v2, vI v6] (qX0_sign l E s15 v1 v2 v6 _ e21) myX0_sign (shp_lt (gX0_sign e21) (by decide)) (gX0_sign e21) rfl (by decide) lkX7_102 ⟨Nat.le_of_ble_eq_true rfl, Nat.le_of_ble_eq_true rfl⟩ ⟨Nat.le_of_ble_eq_true rfl, Nat.le_of_ble_eq_true rfl⟩ [vL v4] rfl (Nat.le_of_ble_eq_true rfl) dX7_reckonSum_38 rfl (fun H locs hM => ?_)
        refine r_aload_n (np := 42) G hl 0 rfl dX7_reckonSum_41 rfl rfl ?_
        obtain ⟨r22, e23, hm⟩ := ref_t hm
        refine r_getR (np := 45) G hM (shp_lt g0 (by decide)) g0 e23 fdX7_3 lkX7_24 dX7_reckonSum_42 rfl ?_
        refine r_aload_n (np := 46) G hl 1 rfl dX7_reckonSum_45 rfl rfl ?_
        refine r_iload_n (np := 47) G hl 2 rfl dX7_reckonSum_46 rfl rfl ?_
        refine r_iload (np := 49) G hl 5 rfl dX7_reckonSum_47 rfl ?_
        obtain ⟨b24, s25, e26, hm⟩ := call_t hm
        refine m_callVI (np := 52) G hM hl.1 [vI v2, vI v6] (qX0_term l E s20 v1 v2 v6 _ e26) myX0_term (shp_lt (gX0_term e26) (by decide)) (gX0_term e26) rfl (by decide) lkX7_106 ⟨Nat.le_of_ble_eq_true rfl, Nat.le_of_ble_eq_true rfl⟩ ⟨Nat.le_of_ble_eq_true rfl, Nat.le_of_ble_eq_true rfl⟩ [.ref (eA E r22), vI b19, vL v4] rfl (Nat.le_of_ble_eq_true rfl) dX7_reckonSum_49 rfl (fun H locs hM => ?_)
        obtain ⟨g27, hm⟩ := g_t hm
        obtain ⟨r28, e29, hm⟩ := ref_t hm
        refine r_aaload (np := 53) G hM (t := 6) g27 rfl ⟨by decide, by decide⟩ rfl rfl e29 dX7_reckonSum_52 rfl ?_
        refine r_iload_n (np := 54) G hl 3 rfl dX7_reckonSum_53 rfl rfl ?_
        obtain ⟨g30, hm⟩ := g_t hm
        refine r_iaload (np := 55) G hM g30 rfl dX7_reckonSum_54 rfl ?_
        refine r_imul (np := 56) G dX7_reckonSum_55 rfl ?_
        refine r_i2l (np := 57) G rfl dX7_reckonSum_56 rfl ?_
        refine r_ladd (np := 58) G dX7_reckonSum_57 rfl ?_
        obtain ⟨a31, e32, hm⟩ := bnd_t hm
        refine r_lstore (np := 60) G hl e32 [(4, vL a31), (0, .ref (eA E v0)), (1, .ref (eA E v1)), (2, vI v2), (3, vI v3), (6, vI v6)] dX7_reckonSum_58 rfl (by decide) rfl (fun ls hl => ?_)
        obtain ⟨a33, e34, hm⟩ := bnd_t hm
        refine r_iinc (np := 63) G hl 5 rfl e34 [(6, vI a33), (4, vL a31), (0, .ref (eA E v0)), (1, .ref (eA E v1)), (2, vI v2), (3, vI v3)] dX7_reckonSum_60 rfl (by decide) rfl (fun ls hl => ?_)
        refine r_goto (np := 16) G dX7_reckonSum_63 (by decide) ?_
        exact ih a31 a33 _ _ _ _ hm hM (lv_sub hl [2, 3, 4, 5, 1, 0] rfl)
set_option maxRecDepth 100000 in
set_option maxHeartbeats 4000000 in
theorem wX7_reckonSum_L2 (l : Launch) (E : mE) (out : Int × mSt) {p : Program} {e : Env} {s : State} {m : MethodId} {args : Array Value} {below : List Frame} {meth : Method} {c : Code} (G : CallFix p m c cX7_reckonSum 7 s args mTs RX7) (hr : meth.sig.returnType = none) (hk : meth.locks = false) (v0 : Nat) (v1 : Nat) (v2 : Int) (g0 : isC v0 6) (x89 : mSt → Option (Int × mSt)) (hx89 : ∀ (σ : mSt) (H : Heap) (locs : List Loc) (ls : Array Slot), x89 σ = some out → mM (mA E 276) E 276 σ s H locs → lv_has ls 7 [] → mGo l p e 2 48 s m args below meth c E none out.2 H locs (F0 m 89 ls [])) : ∀ (n : Nat) (v3 : Int) (σ : mSt) (H : Heap) (locs : List Loc) (ls : Array Slot), mX7_reckonSum_L2 v0 v1 v2 x89 n v3 σ = some out → mM (mA E 276) E 276 σ s H locs → lv_has ls 7 [(0, .ref (eA E v0)), (1, .ref (eA E v1)), (2, vI v2), (3, vI v3)] → mGo l p e 2 48 s m args below meth c E none out.2 H locs (F0 m 2 ls []) := by
  intro n
  induction n with
  | zero =>
    intro v3 σ H locs ls hm hM hl
    exact absurd hm (by rw [mX7_reckonSum_L2.eq_1]; exact fun h => nomatch h)
  | succ n ih =>
    intro v3 σ H locs ls hm hM hl
    rw [mX7_reckonSum_L2.eq_2] at hm
    refine r_iload_n (np := 3) G hl 3 rfl dX7_reckonSum_2 rfl rfl ?_
    refine r_aload_n (np := 4) G hl 0 rfl dX7_reckonSum_3 rfl rfl ?_
    refine r_getI (np := 7) G hM (shp_lt g0 (by decide)) g0 fdX7_0 lkX7_9 dX7_reckonSum_4 rfl ?_
    refine r_icmp_ge (np := 10) (tgt := 89) G rfl rfl dX7_reckonSum_7 (by decide) rfl (fun h35 => ?_) (fun h35 => ?_)
    · have hm := b_t h35 hm
      exact hx89 _ _ _ _ hm hM (lv_sub hl [] rfl)
    · have hm := b_f h35 hm
      refine r_lconst (np := 11) G 0 dX7_reckonSum_10 rfl rfl ?_
      refine r_lstore (np := 13) G hl rfl [(4, vL 0), (0, .ref (eA E v0)), (1, .ref (eA E v1)), (2, vI v2), (3, vI v3)] dX7_reckonSum_11 rfl (by decide) rfl (fun ls hl => ?_)
      refine r_iconst (np := 14) G 0 dX7_reckonSum_13 rfl ?_
      refine r_istore (np := 16) G hl rfl [(6, vI 0), (4, vL 0), (0, .ref (eA E v0)), (1, .ref (eA E v1)), (2, vI v2), (3, vI v3)] dX7_reckonSum_14 rfl (by decide) rfl (fun ls hl => ?_)
      exact wX7_reckonSum_L16 l E out G hr hk v0 v1 v2 v3 g0 (fun z4 zσ => mX7_reckonSum_B66 v0 v1 v2 (mX7_reckonSum_L2 v0 v1 v2 x89 n) x89 v3 z4 zσ) (fun z4 zσ zH zl zs zm zM zv => wX7_reckonSum_B66 l E out G hr hk v0 v1 v2 g0 (mX7_reckonSum_L2 v0 v1 v2 x89 n) x89 ih hx89 v3 z4 zσ zH zl zs zm zM zv) mF 0 0 _ _ _ _ hm hM (lv_sub hl [2, 3, 4, 5, 1, 0] rfl)
set_option maxRecDepth 100000 in
set_option maxHeartbeats 4000000 in
theorem qX7_reckonSum (l : Launch) (E : mE) (σ : mSt) (v0 : Nat) (v1 : Nat) (v2 : Int) (out : Int × mSt) (hm : mX7_reckonSum v0 v1 v2 σ = some out) : mMet l yX7_reckonSum cX7_reckonSum 7 none 2 48 E 276 [.ref (eA E v0), .ref (eA E v1), vI v2] σ none out.2 := by
  unfold mX7_reckonSum at hm
  obtain ⟨g0, hm⟩ := g_t hm
  refine m_entry (by decide +kernel) (Nat.le_of_ble_eq_true rfl) (fun p e s m args below meth c G hr hk hM ls hl => ?_)
  have G : CallFix p m c cX7_reckonSum 7 s args mTs RX7 := G
  have hl : lv_has ls 7 [(0, .ref (eA E v0)), (1, .ref (eA E v1)), (2, vI v2)] := hl
  refine r_iconst (np := 1) G 0 dX7_reckonSum_0 rfl ?_
  refine r_istore_n (np := 2) G hl rfl [(3, vI 0), (0, .ref (eA E v0)), (1, .ref (eA E v1)), (2, vI v2)] dX7_reckonSum_1 rfl rfl (by decide) rfl (fun ls hl => ?_)
  exact wX7_reckonSum_L2 l E out G hr hk v0 v1 v2 g0 (fun zσ => mX7_reckonSum_B89 v0 v1 v2 zσ) (fun zσ zH zl zs zm zM zv => wX7_reckonSum_B89 l E out G hr hk v0 v1 v2 g0 zσ zH zl zs zm zM zv) mF 0 _ _ _ _ hm hM (lv_sub hl [1, 2, 3, 0] rfl)
theorem gX7_reckonSum {v0 : Nat} {v1 : Nat} {v2 : Int} {σ : mSt} {out : Int × mSt} (hm : mX7_reckonSum v0 v1 v2 σ = some out) : isC v0 6 := (g_t hm).1
set_option maxRecDepth 100000 in
set_option maxHeartbeats 4000000 in
theorem wX7_reckonOne_B93 (l : Launch) (E : mE) (out : Int × mSt) {p : Program} {e : Env} {s : State} {m : MethodId} {args : Array Value} {below : List Frame} {meth : Method} {c : Code} (G : CallFix p m c cX7_reckonOne 6 s args mTs RX7) (hr : meth.sig.returnType = none) (hk : meth.locks = false) (v0 : Nat) (v1 : Nat) (v2 : Int) (g0 : isC v0 6) : ∀ (σ : mSt) (H : Heap) (locs : List Loc) (ls : Array Slot), mX7_reckonOne_B93 v0 v1 v2 σ = some out → mM (mA E 276) E 276 σ s H locs → lv_has ls 6 [] → mGo l p e 4 105 s m args below meth c E none out.2 H locs (F0 m 93 ls []) := by
  intro σ H locs ls hm hM hl
  unfold mX7_reckonOne_B93 at hm
  refine r_goto (np := 113) G dX7_reckonOne_93 (by decide) ?_
  exact r_vret G hr hk hM hm dX7_reckonOne_113
set_option maxRecDepth 100000 in
set_option maxHeartbeats 4000000 in
theorem wX7_reckonOne_L47 (l : Launch) (E : mE) (out : Int × mSt) {p : Program} {e : Env} {s : State} {m : MethodId} {args : Array Value} {below : List Frame} {meth : Method} {c : Code} (G : CallFix p m c cX7_reckonOne 6 s args mTs RX7) (hr : meth.sig.returnType = none) (hk : meth.locks = false) (v0 : Nat) (v1 : Nat) (v2 : Int) (v3 : Int) (v4 : Int) (g0 : isC v0 6) (x93 : mSt → Option (Int × mSt)) (hx93 : ∀ (σ : mSt) (H : Heap) (locs : List Loc) (ls : Array Slot), x93 σ = some out → mM (mA E 276) E 276 σ s H locs → lv_has ls 6 [] → mGo l p e 4 105 s m args below meth c E none out.2 H locs (F0 m 93 ls [])) : ∀ (n : Nat) (v5 : Int) (σ : mSt) (H : Heap) (locs : List Loc) (ls : Array Slot), mX7_reckonOne_L47 v0 v1 v2 v3 v4 x93 n v5 σ = some out → mM (mA E 276) E 276 σ s H locs → lv_has ls 6 [(0, .ref (eA E v0)), (2, vI v2), (3, vI v3), (4, vI v4), (5, vI v5)] → mGo l p e 4 105 s m args below meth c E none out.2 H locs (F0 m 47 ls []) := by
  intro n
  induction n with
  | zero =>
    intro v5 σ H locs ls hm hM hl
    exact absurd hm (by rw [mX7_reckonOne_L47.eq_1]; exact fun h => nomatch h)
  | succ n ih =>
    intro v5 σ H locs ls hm hM hl
    rw [mX7_reckonOne_L47.eq_2] at hm
    refine r_iload (np := 49) G hl 4 rfl dX7_reckonOne_47 rfl ?_
    refine r_aload_n (np := 50) G hl 0 rfl dX7_reckonOne_49 rfl rfl ?_
    refine r_getI (np := 53) G hM (shp_lt g0 (by decide)) g0 fdX7_0 lkX7_9 dX7_reckonOne_50 rfl ?_
    refine r_icmp_ge (np := 56) (tgt := 93) G rfl rfl dX7_reckonOne_53 (by decide) rfl (fun h1 => ?_) (fun h1 => ?_)
    · have hm := b_t h1 hm
      exact hx93 _ _ _ _ hm hM (lv_sub hl [] rfl)
    · have hm := b_f h1 hm
      refine r_aload_n (np := 57) G hl 0 rfl dX7_reckonOne_56 rfl rfl ?_
      obtain ⟨r2, e3, hm⟩ := ref_t hm
      refine r_getR (np := 60) G hM (shp_lt g0 (by decide)) g0 e3 fdX7_3 lkX7_24 dX7_reckonOne_57 rfl ?_
      refine r_iload_n (np := 61) G hl 1 rfl dX7_reckonOne_60 rfl rfl ?_
      obtain ⟨g4, hm⟩ := g_t hm
      obtain ⟨r5, e6, hm⟩ := ref_t hm
      refine r_aaload (np := 62) G hM (t := 6) g4 rfl ⟨by decide, by decide⟩ rfl rfl e6 dX7_reckonOne_61 rfl ?_
      refine r_iload (np := 64) G hl 4 rfl dX7_reckonOne_62 rfl ?_
      refine r_aload_n (np := 65) G hl 0 rfl dX7_reckonOne_64 rfl rfl ?_
      refine r_iload_n (np := 66) G hl 2 rfl dX7_reckonOne_65 rfl rfl ?_
      refine r_iload (np := 68) G hl 3 rfl dX7_reckonOne_66 rfl ?_
      refine r_aload_n (np := 69) G hl 0 rfl dX7_reckonOne_68 rfl rfl ?_
      obtain ⟨r7, e8, hm⟩ := ref_t hm
      refine r_getR (np := 72) G hM (shp_lt g0 (by decide)) g0 e8 fdX7_2 lkX7_18 dX7_reckonOne_69 rfl ?_
      refine r_iload (np := 74) G hl 4 rfl dX7_reckonOne_72 rfl ?_
      obtain ⟨g9, hm⟩ := g_t hm
      refine r_iaload (np := 75) G hM g9 rfl dX7_reckonOne_74 rfl ?_
      obtain ⟨b10, s11, e12, hm⟩ := call_t hm
      refine m_callVI (np := 78) G hM hl.1 [vI v3, vI v4, vI (σ r7 (wI v5).toNat)] (qX7_isRamified l E σ v0 v3 v4 (σ r7 (wI v5).toNat) _ e12) myX7_isRamified (shp_lt (gX7_isRamified e12) (by decide)) (gX7_isRamified e12) rfl (by decide) lkX7_61 ⟨Nat.le_of_ble_eq_true rfl, Nat.le_of_ble_eq_true rfl⟩ ⟨Nat.le_of_ble_eq_true rfl, Nat.le_of_ble_eq_true rfl⟩ [vI v5, .ref (eA E r5)] rfl (Nat.le_of_ble_eq_true rfl) dX7_reckonOne_75 rfl (fun H locs hM => ?_)
      refine r_if_eq (np := 81) (tgt := 85) G rfl dX7_reckonOne_78 (by decide) rfl (fun h13 => ?_) (fun h13 => ?_)
      · have hm := b_t h13 hm
        refine r_iconst (np := 86) G 0 dX7_reckonOne_85 rfl ?_
        obtain ⟨g14, hm⟩ := g_t hm
        obtain ⟨s15, e16, hm⟩ := bnd_t hm
        refine r_iastore (np := 87) G hM g14 rfl s15 e16 dX7_reckonOne_86 rfl (fun H locs hM => ?_)
        obtain ⟨a17, e18, hm⟩ := bnd_t hm
        refine r_iinc (np := 90) G hl 4 rfl e18 [(5, vI a17), (0, .ref (eA E v0)), (2, vI v2), (3, vI v3), (4, vI v4)] dX7_reckonOne_87 rfl (by decide) rfl (fun ls hl => ?_)
        refine r_goto (np := 47) G dX7_reckonOne_90 (by decide) ?_
        exact ih a17 _ _ _ _ hm hM (lv_sub hl [1, 2, 3, 4, 0] rfl)
      · have hm := b_f h13 hm
        refine r_iconst (np := 82) G 3 dX7_reckonOne_81 rfl ?_
        refine r_goto (np := 86) G dX7_reckonOne_82 (by decide) ?_
        obtain ⟨g19, hm⟩ := g_t hm
        obtain ⟨s20, e21, hm⟩ := bnd_t hm
        refine r_iastore (np := 87) G hM g19 rfl s20 e21 dX7_reckonOne_86 rfl (fun H locs hM => ?_)
        obtain ⟨a22, e23, hm⟩ := bnd_t hm
        refine r_iinc (np := 90) G hl 4 rfl e23 [(5, vI a22), (0, .ref (eA E v0)), (2, vI v2), (3, vI v3), (4, vI v4)] dX7_reckonOne_87 rfl (by decide) rfl (fun ls hl => ?_)
        refine r_goto (np := 47) G dX7_reckonOne_90 (by decide) ?_
        exact ih a22 _ _ _ _ hm hM (lv_sub hl [1, 2, 3, 4, 0] rfl)
set_option maxRecDepth 100000 in
set_option maxHeartbeats 4000000 in
theorem qX7_reckonOne (l : Launch) (E : mE) (σ : mSt) (v0 : Nat) (v1 : Nat) (v2 : Int) (out : Int × mSt) (hm : mX7_reckonOne v0 v1 v2 σ = some out) : mMet l yX7_reckonOne cX7_reckonOne 6 none 4 105 E 276 [.ref (eA E v0), .ref (eA E v1), vI v2] σ none out.2 := by
  unfold mX7_reckonOne at hm
  obtain ⟨g0, hm⟩ := g_t hm
  refine m_entry (by decide +kernel) (Nat.le_of_ble_eq_true rfl) (fun p e s m args below meth c G hr hk hM ls hl => ?_)
  have G : CallFix p m c cX7_reckonOne 6 s args mTs RX7 := G
  have hl : lv_has ls 6 [(0, .ref (eA E v0)), (1, .ref (eA E v1)), (2, vI v2)] := hl
  refine r_aload_n (np := 1) G hl 1 rfl dX7_reckonOne_0 rfl rfl ?_
  refine r_iload_n (np := 2) G hl 2 rfl dX7_reckonOne_1 rfl rfl ?_
  obtain ⟨b24, s25, e26, hm⟩ := call_t hm
  refine m_callVI (np := 5) G hM hl.1 [vI v2] (qX0_first l E σ v1 v2 _ e26) myX0_first (shp_lt (gX0_first e26) (by decide)) (gX0_first e26) rfl (by decide) lkX7_47 ⟨Nat.le_of_ble_eq_true rfl, Nat.le_of_ble_eq_true rfl⟩ ⟨Nat.le_of_ble_eq_true rfl, Nat.le_of_ble_eq_true rfl⟩ [] rfl (Nat.le_of_ble_eq_true rfl) dX7_reckonOne_2 rfl (fun H locs hM => ?_)
  refine r_istore_n (np := 6) G hl rfl [(3, vI b24), (0, .ref (eA E v0)), (1, .ref (eA E v1)), (2, vI v2)] dX7_reckonOne_5 rfl rfl (by decide) rfl (fun ls hl => ?_)
  refine r_aload_n (np := 7) G hl 2 rfl dX7_reckonOne_6 rfl rfl ?_
  refine r_iload_n (np := 8) G hl 3 rfl dX7_reckonOne_7 rfl rfl ?_
  obtain ⟨b27, s28, e29, hm⟩ := call_t hm
  refine m_callVI (np := 11) G hM hl.1 [vI v2] (qX0_second l E s25 v1 v2 _ e29) myX0_second (shp_lt (gX0_second e29) (by decide)) (gX0_second e29) rfl (by decide) lkX7_53 ⟨Nat.le_of_ble_eq_true rfl, Nat.le_of_ble_eq_true rfl⟩ ⟨Nat.le_of_ble_eq_true rfl, Nat.le_of_ble_eq_true rfl⟩ [] rfl (Nat.le_of_ble_eq_true rfl) dX7_reckonOne_8 rfl (fun H locs hM => ?_)
  refine r_istore (np := 13) G hl rfl [(4, vI b27), (3, vI b24), (0, .ref (eA E v0)), (1, .ref (eA E v1)), (2, vI v2)] dX7_reckonOne_11 rfl (by decide) rfl (fun ls hl => ?_)
  refine r_aload_n (np := 14) G hl 3 rfl dX7_reckonOne_13 rfl rfl ?_
  refine r_iload_n (np := 15) G hl 4 rfl dX7_reckonOne_14 rfl rfl ?_
  obtain ⟨b30, s31, e32, hm⟩ := call_t hm
  refine m_callVI (np := 18) G hM hl.1 [vI v2] (qX0_kind l E s28 v1 v2 _ e32) myX0_kind (shp_lt (gX0_kind e32) (by decide)) (gX0_kind e32) rfl (by decide) lkX7_43 ⟨Nat.le_of_ble_eq_true rfl, Nat.le_of_ble_eq_true rfl⟩ ⟨Nat.le_of_ble_eq_true rfl, Nat.le_of_ble_eq_true rfl⟩ [] rfl (Nat.le_of_ble_eq_true rfl) dX7_reckonOne_15 rfl (fun H locs hM => ?_)
  rcases ite_c hm with ⟨h33, hm⟩ | ⟨h33, hm⟩
  · refine r_lsw (tgt := 44) (off := 26) G (by rw [h33]; rfl) rfl dX7_reckonOne_18 (by decide) ?_
    refine r_iconst (np := 45) G 0 dX7_reckonOne_44 rfl ?_
    refine r_istore (np := 47) G hl rfl [(5, vI 0), (4, vI b27), (3, vI b24), (0, .ref (eA E v0)), (1, .ref (eA E v1)), (2, vI v2)] dX7_reckonOne_45 rfl (by decide) rfl (fun ls hl => ?_)
    exact wX7_reckonOne_L47 l E out G hr hk v0 v1 v2 b24 b27 g0 (fun zσ => mX7_reckonOne_B93 v0 v1 v2 zσ) (fun zσ zH zl zs zm zM zv => wX7_reckonOne_B93 l E out G hr hk v0 v1 v2 g0 zσ zH zl zs zm zM zv) mF 0 _ _ _ _ hm hM (lv_sub hl [3, 5, 2, 1, 0] rfl)
  ·
    rcases ite_c hm with ⟨h34, hm⟩ | ⟨h34, hm⟩
    · refine r_lsw (tgt := 96) (off := 78) G (by rw [h34]; rfl) rfl dX7_reckonOne_18 (by decide) ?_
      refine r_aload_n (np := 97) G hl 2 rfl dX7_reckonOne_96 rfl rfl ?_
      refine r_iload_n (np := 98) G hl 4 rfl dX7_reckonOne_97 rfl rfl ?_
      refine r_iload_n (np := 99) G hl 1 rfl dX7_reckonOne_98 rfl rfl ?_
      refine r_iload (np := 101) G hl 0 rfl dX7_reckonOne_99 rfl ?_
      obtain ⟨b35, s36, e37, hm⟩ := call_t hm
      refine m_callVV (np := 104) G hM hl.1 [vI v2, vI b24, vI b27] (qX7_reckonCyclic l E s31 v0 v2 b24 b27 _ e37) myX7_reckonCyclic (shp_lt (gX7_reckonCyclic e37) (by decide)) (gX7_reckonCyclic e37) rfl (by decide) lkX7_65 ⟨Nat.le_of_ble_eq_true rfl, Nat.le_of_ble_eq_true rfl⟩ ⟨Nat.le_of_ble_eq_true rfl, Nat.le_of_ble_eq_true rfl⟩ [] rfl (Nat.le_of_ble_eq_true rfl) dX7_reckonOne_101 rfl (fun H locs hM => ?_)
      refine r_goto (np := 113) G dX7_reckonOne_104 (by decide) ?_
      exact r_vret G hr hk hM hm dX7_reckonOne_113
    ·
      refine r_lsw (tgt := 107) (off := 89) G (lsw_out [(0, 26), (1, 78)] (List.forall_mem_cons.mpr ⟨fun z => h33 z.symm, (List.forall_mem_cons.mpr ⟨fun z => h34 z.symm, (fun _ h => nomatch h)⟩)⟩)) rfl dX7_reckonOne_18 (by decide) ?_
      refine r_aload_n (np := 108) G hl 2 rfl dX7_reckonOne_107 rfl rfl ?_
      refine r_aload_n (np := 109) G hl 3 rfl dX7_reckonOne_108 rfl rfl ?_
      refine r_iload_n (np := 110) G hl 4 rfl dX7_reckonOne_109 rfl rfl ?_
      obtain ⟨b38, s39, e40, hm⟩ := call_t hm
      refine m_callVV (np := 113) G hM hl.1 [.ref (eA E v1), vI v2] (qX7_reckonSum l E s31 v0 v1 v2 _ e40) myX7_reckonSum (shp_lt (gX7_reckonSum e40) (by decide)) (gX7_reckonSum e40) rfl (by decide) lkX7_69 ⟨Nat.le_of_ble_eq_true rfl, Nat.le_of_ble_eq_true rfl⟩ ⟨Nat.le_of_ble_eq_true rfl, Nat.le_of_ble_eq_true rfl⟩ [] rfl (Nat.le_of_ble_eq_true rfl) dX7_reckonOne_110 rfl (fun H locs hM => ?_)
      exact r_vret G hr hk hM hm dX7_reckonOne_113
theorem gX7_reckonOne {v0 : Nat} {v1 : Nat} {v2 : Int} {σ : mSt} {out : Int × mSt} (hm : mX7_reckonOne v0 v1 v2 σ = some out) : isC v0 6 := (g_t hm).1
set_option maxRecDepth 100000 in
set_option maxHeartbeats 4000000 in
theorem wX7_reckon_B67 (l : Launch) (E : mE) (out : Int × mSt) {p : Program} {e : Env} {s : State} {m : MethodId} {args : Array Value} {below : List Frame} {meth : Method} {c : Code} (G : CallFix p m c cX7_reckon 3 s args mTs RX7) (hr : meth.sig.returnType = none) (hk : meth.locks = false) (v0 : Nat) (v1 : Nat) (g0 : isC v0 6) : ∀ (σ : mSt) (H : Heap) (locs : List Loc) (ls : Array Slot), mX7_reckon_B67 v0 v1 σ = some out → mM (mA E 276) E 276 σ s H locs → lv_has ls 3 [] → mGo l p e 5 130 s m args below meth c E none out.2 H locs (F0 m 67 ls []) := by
  intro σ H locs ls hm hM hl
  unfold mX7_reckon_B67 at hm
  exact r_vret G hr hk hM hm dX7_reckon_67
set_option maxRecDepth 100000 in
set_option maxHeartbeats 4000000 in
theorem wX7_reckon_L47 (l : Launch) (E : mE) (out : Int × mSt) {p : Program} {e : Env} {s : State} {m : MethodId} {args : Array Value} {below : List Frame} {meth : Method} {c : Code} (G : CallFix p m c cX7_reckon 3 s args mTs RX7) (hr : meth.sig.returnType = none) (hk : meth.locks = false) (v0 : Nat) (v1 : Nat) (g0 : isC v0 6) (x67 : mSt → Option (Int × mSt)) (hx67 : ∀ (σ : mSt) (H : Heap) (locs : List Loc) (ls : Array Slot), x67 σ = some out → mM (mA E 276) E 276 σ s H locs → lv_has ls 3 [] → mGo l p e 5 130 s m args below meth c E none out.2 H locs (F0 m 67 ls [])) : ∀ (n : Nat) (v2 : Int) (σ : mSt) (H : Heap) (locs : List Loc) (ls : Array Slot), mX7_reckon_L47 v0 v1 x67 n v2 σ = some out → mM (mA E 276) E 276 σ s H locs → lv_has ls 3 [(0, .ref (eA E v0)), (1, .ref (eA E v1)), (2, vI v2)] → mGo l p e 5 130 s m args below meth c E none out.2 H locs (F0 m 47 ls []) := by
  intro n
  induction n with
  | zero =>
    intro v2 σ H locs ls hm hM hl
    exact absurd hm (by rw [mX7_reckon_L47.eq_1]; exact fun h => nomatch h)
  | succ n ih =>
    intro v2 σ H locs ls hm hM hl
    rw [mX7_reckon_L47.eq_2] at hm
    refine r_iload_n (np := 48) G hl 2 rfl dX7_reckon_47 rfl rfl ?_
    refine r_aload_n (np := 49) G hl 0 rfl dX7_reckon_48 rfl rfl ?_
    refine r_getI (np := 52) G hM (shp_lt g0 (by decide)) g0 fdX7_1 lkX7_15 dX7_reckon_49 rfl ?_
    refine r_icmp_ge (np := 55) (tgt := 67) G rfl rfl dX7_reckon_52 (by decide) rfl (fun h1 => ?_) (fun h1 => ?_)
    · have hm := b_t h1 hm
      exact hx67 _ _ _ _ hm hM (lv_sub hl [] rfl)
    · have hm := b_f h1 hm
      refine r_aload_n (np := 56) G hl 0 rfl dX7_reckon_55 rfl rfl ?_
      refine r_aload_n (np := 57) G hl 1 rfl dX7_reckon_56 rfl rfl ?_
      refine r_iload_n (np := 58) G hl 2 rfl dX7_reckon_57 rfl rfl ?_
      obtain ⟨b2, s3, e4, hm⟩ := call_t hm
      refine m_callVV (np := 61) G hM hl.1 [.ref (eA E v1), vI v2] (qX7_reckonOne l E σ v0 v1 v2 _ e4) myX7_reckonOne (shp_lt (gX7_reckonOne e4) (by decide)) (gX7_reckonOne e4) rfl (by decide) lkX7_40 ⟨Nat.le_of_ble_eq_true rfl, Nat.le_of_ble_eq_true rfl⟩ ⟨Nat.le_of_ble_eq_true rfl, Nat.le_of_ble_eq_true rfl⟩ [] rfl (Nat.le_of_ble_eq_true rfl) dX7_reckon_58 rfl (fun H locs hM => ?_)
      obtain ⟨a5, e6, hm⟩ := bnd_t hm
      refine r_iinc (np := 64) G hl 2 rfl e6 [(2, vI a5), (0, .ref (eA E v0)), (1, .ref (eA E v1))] dX7_reckon_61 rfl (by decide) rfl (fun ls hl => ?_)
      refine r_goto (np := 47) G dX7_reckon_64 (by decide) ?_
      exact ih a5 _ _ _ _ hm hM (lv_sub hl [1, 2, 0] rfl)
set_option maxRecDepth 100000 in
set_option maxHeartbeats 4000000 in
theorem wX7_reckon_B45 (l : Launch) (E : mE) (out : Int × mSt) {p : Program} {e : Env} {s : State} {m : MethodId} {args : Array Value} {below : List Frame} {meth : Method} {c : Code} (G : CallFix p m c cX7_reckon 3 s args mTs RX7) (hr : meth.sig.returnType = none) (hk : meth.locks = false) (v0 : Nat) (v1 : Nat) (g0 : isC v0 6) : ∀ (σ : mSt) (H : Heap) (locs : List Loc) (ls : Array Slot), mX7_reckon_B45 v0 v1 σ = some out → mM (mA E 276) E 276 σ s H locs → lv_has ls 3 [(0, .ref (eA E v0)), (1, .ref (eA E v1))] → mGo l p e 5 130 s m args below meth c E none out.2 H locs (F0 m 45 ls []) := by
  intro σ H locs ls hm hM hl
  unfold mX7_reckon_B45 at hm
  refine r_iconst (np := 46) G 0 dX7_reckon_45 rfl ?_
  refine r_istore_n (np := 47) G hl rfl [(2, vI 0), (0, .ref (eA E v0)), (1, .ref (eA E v1))] dX7_reckon_46 rfl rfl (by decide) rfl (fun ls hl => ?_)
  exact wX7_reckon_L47 l E out G hr hk v0 v1 g0 (fun zσ => mX7_reckon_B67 v0 v1 zσ) (fun zσ zH zl zs zm zM zv => wX7_reckon_B67 l E out G hr hk v0 v1 g0 zσ zH zl zs zm zM zv) mF 0 _ _ _ _ hm hM (lv_sub hl [1, 2, 0] rfl)
set_option maxRecDepth 100000 in
set_option maxHeartbeats 4000000 in
theorem wX7_reckon_L25 (l : Launch) (E : mE) (out : Int × mSt) {p : Program} {e : Env} {s : State} {m : MethodId} {args : Array Value} {below : List Frame} {meth : Method} {c : Code} (G : CallFix p m c cX7_reckon 3 s args mTs RX7) (hr : meth.sig.returnType = none) (hk : meth.locks = false) (v0 : Nat) (v1 : Nat) (g0 : isC v0 6) (x45 : mSt → Option (Int × mSt)) (hx45 : ∀ (σ : mSt) (H : Heap) (locs : List Loc) (ls : Array Slot), x45 σ = some out → mM (mA E 276) E 276 σ s H locs → lv_has ls 3 [(0, .ref (eA E v0)), (1, .ref (eA E v1))] → mGo l p e 5 130 s m args below meth c E none out.2 H locs (F0 m 45 ls [])) : ∀ (n : Nat) (v2 : Int) (σ : mSt) (H : Heap) (locs : List Loc) (ls : Array Slot), mX7_reckon_L25 v0 v1 x45 n v2 σ = some out → mM (mA E 276) E 276 σ s H locs → lv_has ls 3 [(0, .ref (eA E v0)), (1, .ref (eA E v1)), (2, vI v2)] → mGo l p e 5 130 s m args below meth c E none out.2 H locs (F0 m 25 ls []) := by
  intro n
  induction n with
  | zero =>
    intro v2 σ H locs ls hm hM hl
    exact absurd hm (by rw [mX7_reckon_L25.eq_1]; exact fun h => nomatch h)
  | succ n ih =>
    intro v2 σ H locs ls hm hM hl
    rw [mX7_reckon_L25.eq_2] at hm
    refine r_iload_n (np := 26) G hl 2 rfl dX7_reckon_25 rfl rfl ?_
    refine r_aload_n (np := 27) G hl 0 rfl dX7_reckon_26 rfl rfl ?_
    refine r_getI (np := 30) G hM (shp_lt g0 (by decide)) g0 fdX7_1 lkX7_15 dX7_reckon_27 rfl ?_
    refine r_icmp_ge (np := 33) (tgt := 45) G rfl rfl dX7_reckon_30 (by decide) rfl (fun h7 => ?_) (fun h7 => ?_)
    · have hm := b_t h7 hm
      exact hx45 _ _ _ _ hm hM (lv_sub hl [0, 1] rfl)
    · have hm := b_f h7 hm
      refine r_aload_n (np := 34) G hl 0 rfl dX7_reckon_33 rfl rfl ?_
      refine r_aload_n (np := 35) G hl 1 rfl dX7_reckon_34 rfl rfl ?_
      refine r_iload_n (np := 36) G hl 2 rfl dX7_reckon_35 rfl rfl ?_
      obtain ⟨b8, s9, e10, hm⟩ := call_t hm
      refine m_callVV (np := 39) G hM hl.1 [.ref (eA E v1), vI v2] (qX7_noteAll l E σ v0 v1 v2 _ e10) myX7_noteAll (shp_lt (gX7_noteAll e10) (by decide)) (gX7_noteAll e10) rfl (by decide) lkX7_36 ⟨Nat.le_of_ble_eq_true rfl, Nat.le_of_ble_eq_true rfl⟩ ⟨Nat.le_of_ble_eq_true rfl, Nat.le_of_ble_eq_true rfl⟩ [] rfl (Nat.le_of_ble_eq_true rfl) dX7_reckon_36 rfl (fun H locs hM => ?_)
      obtain ⟨a11, e12, hm⟩ := bnd_t hm
      refine r_iinc (np := 42) G hl 2 rfl e12 [(2, vI a11), (0, .ref (eA E v0)), (1, .ref (eA E v1))] dX7_reckon_39 rfl (by decide) rfl (fun ls hl => ?_)
      refine r_goto (np := 25) G dX7_reckon_42 (by decide) ?_
      exact ih a11 _ _ _ _ hm hM (lv_sub hl [1, 2, 0] rfl)
set_option maxRecDepth 100000 in
set_option maxHeartbeats 4000000 in
theorem qX7_reckon (l : Launch) (E : mE) (σ : mSt) (v0 : Nat) (v1 : Nat) (out : Int × mSt) (hm : mX7_reckon v0 v1 σ = some out) : mMet l yX7_reckon cX7_reckon 3 none 5 130 E 276 [.ref (eA E v0), .ref (eA E v1)] σ none out.2 := by
  unfold mX7_reckon at hm
  obtain ⟨g0, hm⟩ := g_t hm
  refine m_entry (by decide +kernel) (Nat.le_of_ble_eq_true rfl) (fun p e s m args below meth c G hr hk hM ls hl => ?_)
  have G : CallFix p m c cX7_reckon 3 s args mTs RX7 := G
  have hl : lv_has ls 3 [(0, .ref (eA E v0)), (1, .ref (eA E v1))] := hl
  refine r_aload_n (np := 1) G hl 0 rfl dX7_reckon_0 rfl rfl ?_
  refine r_iconst (np := 2) G 0 dX7_reckon_1 rfl ?_
  obtain ⟨s13, e14, hm⟩ := bnd_t hm
  refine r_putI (np := 5) G hM (shp_lt g0 (by decide)) g0 ptX7_0 rfl lkX7_9 s13 e14 dX7_reckon_2 rfl (fun H locs hM => ?_)
  refine r_aload_n (np := 6) G hl 0 rfl dX7_reckon_5 rfl rfl ?_
  refine r_aload_n (np := 7) G hl 1 rfl dX7_reckon_6 rfl rfl ?_
  obtain ⟨b15, s16, e17, hm⟩ := call_t hm
  refine m_callVI (np := 10) G hM hl.1 [] (qX0_size l E s13 v1 _ e17) myX0_size (shp_lt (gX0_size e17) (by decide)) (gX0_size e17) rfl (by decide) lkX7_27 ⟨Nat.le_of_ble_eq_true rfl, Nat.le_of_ble_eq_true rfl⟩ ⟨Nat.le_of_ble_eq_true rfl, Nat.le_of_ble_eq_true rfl⟩ [.ref (eA E v0)] rfl (Nat.le_of_ble_eq_true rfl) dX7_reckon_7 rfl (fun H locs hM => ?_)
  obtain ⟨s18, e19, hm⟩ := bnd_t hm
  refine r_putI (np := 13) G hM (shp_lt g0 (by decide)) g0 ptX7_1 rfl lkX7_15 s18 e19 dX7_reckon_10 rfl (fun H locs hM => ?_)
  refine r_aload_n (np := 14) G hl 0 rfl dX7_reckon_13 rfl rfl ?_
  refine r_iconst (np := 15) G 0 dX7_reckon_14 rfl ?_
  obtain ⟨b20, s21, e22, hm⟩ := call_t hm
  refine m_callVV (np := 18) G hM hl.1 [vI 0] (qX7_note l E s18 v0 0 _ e22) myX7_note (shp_lt (gX7_note e22) (by decide)) (gX7_note e22) rfl (by decide) lkX7_32 ⟨Nat.le_of_ble_eq_true rfl, Nat.le_of_ble_eq_true rfl⟩ ⟨Nat.le_of_ble_eq_true rfl, Nat.le_of_ble_eq_true rfl⟩ [] rfl (Nat.le_of_ble_eq_true rfl) dX7_reckon_15 rfl (fun H locs hM => ?_)
  refine r_aload_n (np := 19) G hl 0 rfl dX7_reckon_18 rfl rfl ?_
  refine r_iconst (np := 20) G 2 dX7_reckon_19 rfl ?_
  obtain ⟨b23, s24, e25, hm⟩ := call_t hm
  refine m_callVV (np := 23) G hM hl.1 [vI 2] (qX7_note l E s21 v0 2 _ e25) myX7_note (shp_lt (gX7_note e25) (by decide)) (gX7_note e25) rfl (by decide) lkX7_32 ⟨Nat.le_of_ble_eq_true rfl, Nat.le_of_ble_eq_true rfl⟩ ⟨Nat.le_of_ble_eq_true rfl, Nat.le_of_ble_eq_true rfl⟩ [] rfl (Nat.le_of_ble_eq_true rfl) dX7_reckon_20 rfl (fun H locs hM => ?_)
  refine r_iconst (np := 24) G 0 dX7_reckon_23 rfl ?_
  refine r_istore_n (np := 25) G hl rfl [(2, vI 0), (0, .ref (eA E v0)), (1, .ref (eA E v1))] dX7_reckon_24 rfl rfl (by decide) rfl (fun ls hl => ?_)
  exact wX7_reckon_L25 l E out G hr hk v0 v1 g0 (fun zσ => mX7_reckon_B45 v0 v1 zσ) (fun zσ zH zl zs zm zM zv => wX7_reckon_B45 l E out G hr hk v0 v1 g0 zσ zH zl zs zm zM zv) mF 0 _ _ _ _ hm hM (lv_sub hl [1, 2, 0] rfl)
theorem gX7_reckon {v0 : Nat} {v1 : Nat} {σ : mSt} {out : Int × mSt} (hm : mX7_reckon v0 v1 σ = some out) : isC v0 6 := (g_t hm).1
set_option maxRecDepth 100000 in
set_option maxHeartbeats 4000000 in
theorem wX7_sixthsAt_B35 (l : Launch) (E : mE) (out : Int × mSt) {p : Program} {e : Env} {s : State} {m : MethodId} {args : Array Value} {below : List Frame} {meth : Method} {c : Code} (G : CallFix p m c cX7_sixthsAt 4 s args mTs RX7) (hr : meth.sig.returnType = (some .int)) (hk : meth.locks = false) (v0 : Nat) (v1 : Int) (v2 : Int) (g0 : isC v0 6) : ∀ (σ : mSt) (H : Heap) (locs : List Loc) (ls : Array Slot), mX7_sixthsAt_B35 v0 v1 v2 σ = some out → mM (mA E 276) E 276 σ s H locs → lv_has ls 4 [] → mGo l p e 0 0 s m args below meth c E (some (vI out.1)) out.2 H locs (F0 m 35 ls []) := by
  intro σ H locs ls hm hM hl
  unfold mX7_sixthsAt_B35 at hm
  refine r_iconst (np := 36) G 0 dX7_sixthsAt_35 rfl ?_
  exact r_iret G hr hk hM hm dX7_sixthsAt_36
set_option maxRecDepth 100000 in
set_option maxHeartbeats 4000000 in
theorem wX7_sixthsAt_L2 (l : Launch) (E : mE) (out : Int × mSt) {p : Program} {e : Env} {s : State} {m : MethodId} {args : Array Value} {below : List Frame} {meth : Method} {c : Code} (G : CallFix p m c cX7_sixthsAt 4 s args mTs RX7) (hr : meth.sig.returnType = (some .int)) (hk : meth.locks = false) (v0 : Nat) (v1 : Int) (v2 : Int) (g0 : isC v0 6) (x35 : mSt → Option (Int × mSt)) (hx35 : ∀ (σ : mSt) (H : Heap) (locs : List Loc) (ls : Array Slot), x35 σ = some out → mM (mA E 276) E 276 σ s H locs → lv_has ls 4 [] → mGo l p e 0 0 s m args below meth c E (some (vI out.1)) out.2 H locs (F0 m 35 ls [])) : ∀ (n : Nat) (v3 : Int) (σ : mSt) (H : Heap) (locs : List Loc) (ls : Array Slot), mX7_sixthsAt_L2 v0 v1 v2 x35 n v3 σ = some out → mM (mA E 276) E 276 σ s H locs → lv_has ls 4 [(0, .ref (eA E v0)), (1, vI v1), (2, vI v2), (3, vI v3)] → mGo l p e 0 0 s m args below meth c E (some (vI out.1)) out.2 H locs (F0 m 2 ls []) := by
  intro n
  induction n with
  | zero =>
    intro v3 σ H locs ls hm hM hl
    exact absurd hm (by rw [mX7_sixthsAt_L2.eq_1]; exact fun h => nomatch h)
  | succ n ih =>
    intro v3 σ H locs ls hm hM hl
    rw [mX7_sixthsAt_L2.eq_2] at hm
    refine r_iload_n (np := 3) G hl 3 rfl dX7_sixthsAt_2 rfl rfl ?_
    refine r_aload_n (np := 4) G hl 0 rfl dX7_sixthsAt_3 rfl rfl ?_
    refine r_getI (np := 7) G hM (shp_lt g0 (by decide)) g0 fdX7_0 lkX7_9 dX7_sixthsAt_4 rfl ?_
    refine r_icmp_ge (np := 10) (tgt := 35) G rfl rfl dX7_sixthsAt_7 (by decide) rfl (fun h1 => ?_) (fun h1 => ?_)
    · have hm := b_t h1 hm
      exact hx35 _ _ _ _ hm hM (lv_sub hl [] rfl)
    · have hm := b_f h1 hm
      refine r_aload_n (np := 11) G hl 0 rfl dX7_sixthsAt_10 rfl rfl ?_
      obtain ⟨r2, e3, hm⟩ := ref_t hm
      refine r_getR (np := 14) G hM (shp_lt g0 (by decide)) g0 e3 fdX7_2 lkX7_18 dX7_sixthsAt_11 rfl ?_
      refine r_iload_n (np := 15) G hl 3 rfl dX7_sixthsAt_14 rfl rfl ?_
      obtain ⟨g4, hm⟩ := g_t hm
      refine r_iaload (np := 16) G hM g4 rfl dX7_sixthsAt_15 rfl ?_
      refine r_iload_n (np := 17) G hl 2 rfl dX7_sixthsAt_16 rfl rfl ?_
      refine r_icmp_ne (np := 20) (tgt := 29) G rfl rfl dX7_sixthsAt_17 (by decide) rfl (fun h5 => ?_) (fun h5 => ?_)
      · have hm := b_f h5 hm
        obtain ⟨a6, e7, hm⟩ := bnd_t hm
        refine r_iinc (np := 32) G hl 3 rfl e7 [(3, vI a6), (0, .ref (eA E v0)), (1, vI v1), (2, vI v2)] dX7_sixthsAt_29 rfl (by decide) rfl (fun ls hl => ?_)
        refine r_goto (np := 2) G dX7_sixthsAt_32 (by decide) ?_
        exact ih a6 _ _ _ _ hm hM (lv_sub hl [1, 2, 3, 0] rfl)
      · have hm := b_t h5 hm
        refine r_aload_n (np := 21) G hl 0 rfl dX7_sixthsAt_20 rfl rfl ?_
        obtain ⟨r8, e9, hm⟩ := ref_t hm
        refine r_getR (np := 24) G hM (shp_lt g0 (by decide)) g0 e9 fdX7_3 lkX7_24 dX7_sixthsAt_21 rfl ?_
        refine r_iload_n (np := 25) G hl 1 rfl dX7_sixthsAt_24 rfl rfl ?_
        obtain ⟨g10, hm⟩ := g_t hm
        obtain ⟨r11, e12, hm⟩ := ref_t hm
        refine r_aaload (np := 26) G hM (t := 6) g10 rfl ⟨by decide, by decide⟩ rfl rfl e12 dX7_sixthsAt_25 rfl ?_
        refine r_iload_n (np := 27) G hl 3 rfl dX7_sixthsAt_26 rfl rfl ?_
        obtain ⟨g13, hm⟩ := g_t hm
        refine r_iaload (np := 28) G hM g13 rfl dX7_sixthsAt_27 rfl ?_
        exact r_iret G hr hk hM hm dX7_sixthsAt_28
set_option maxRecDepth 100000 in
set_option maxHeartbeats 4000000 in
theorem qX7_sixthsAt (l : Launch) (E : mE) (σ : mSt) (v0 : Nat) (v1 : Int) (v2 : Int) (out : Int × mSt) (hm : mX7_sixthsAt v0 v1 v2 σ = some out) : mMet l yX7_sixthsAt cX7_sixthsAt 4 (some .int) 0 0 E 276 [.ref (eA E v0), vI v1, vI v2] σ (some (vI out.1)) out.2 := by
  unfold mX7_sixthsAt at hm
  obtain ⟨g0, hm⟩ := g_t hm
  refine m_entry (by decide +kernel) (Nat.le_of_ble_eq_true rfl) (fun p e s m args below meth c G hr hk hM ls hl => ?_)
  have G : CallFix p m c cX7_sixthsAt 4 s args mTs RX7 := G
  have hl : lv_has ls 4 [(0, .ref (eA E v0)), (1, vI v1), (2, vI v2)] := hl
  refine r_iconst (np := 1) G 0 dX7_sixthsAt_0 rfl ?_
  refine r_istore_n (np := 2) G hl rfl [(3, vI 0), (0, .ref (eA E v0)), (1, vI v1), (2, vI v2)] dX7_sixthsAt_1 rfl rfl (by decide) rfl (fun ls hl => ?_)
  exact wX7_sixthsAt_L2 l E out G hr hk v0 v1 v2 g0 (fun zσ => mX7_sixthsAt_B35 v0 v1 v2 zσ) (fun zσ zH zl zs zm zM zv => wX7_sixthsAt_B35 l E out G hr hk v0 v1 v2 g0 zσ zH zl zs zm zM zv) mF 0 _ _ _ _ hm hM (lv_sub hl [1, 2, 3, 0] rfl)
theorem gX7_sixthsAt {v0 : Nat} {v1 : Int} {v2 : Int} {σ : mSt} {out : Int × mSt} (hm : mX7_sixthsAt v0 v1 v2 σ = some out) : isC v0 6 := (g_t hm).1
set_option maxRecDepth 100000 in
set_option maxHeartbeats 4000000 in
theorem wX7_howMany_B37 (l : Launch) (E : mE) (out : Int × mSt) {p : Program} {e : Env} {s : State} {m : MethodId} {args : Array Value} {below : List Frame} {meth : Method} {c : Code} (G : CallFix p m c cX7_howMany 4 s args mTs RX7) (hr : meth.sig.returnType = (some .int)) (hk : meth.locks = false) (v0 : Nat) (v1 : Int) (g0 : isC v0 6) : ∀ (v2 : Int) (σ : mSt) (H : Heap) (locs : List Loc) (ls : Array Slot), mX7_howMany_B37 v0 v1 v2 σ = some out → mM (mA E 276) E 276 σ s H locs → lv_has ls 4 [(2, vI v2)] → mGo l p e 0 0 s m args below meth c E (some (vI out.1)) out.2 H locs (F0 m 37 ls []) := by
  intro v2 σ H locs ls hm hM hl
  unfold mX7_howMany_B37 at hm
  refine r_iload_n (np := 38) G hl 0 rfl dX7_howMany_37 rfl rfl ?_
  exact r_iret G hr hk hM hm dX7_howMany_38
set_option maxRecDepth 100000 in
set_option maxHeartbeats 4000000 in
theorem wX7_howMany_L4 (l : Launch) (E : mE) (out : Int × mSt) {p : Program} {e : Env} {s : State} {m : MethodId} {args : Array Value} {below : List Frame} {meth : Method} {c : Code} (G : CallFix p m c cX7_howMany 4 s args mTs RX7) (hr : meth.sig.returnType = (some .int)) (hk : meth.locks = false) (v0 : Nat) (v1 : Int) (g0 : isC v0 6) (x37 : Int → mSt → Option (Int × mSt)) (hx37 : ∀ (v2 : Int) (σ : mSt) (H : Heap) (locs : List Loc) (ls : Array Slot), x37 v2 σ = some out → mM (mA E 276) E 276 σ s H locs → lv_has ls 4 [(2, vI v2)] → mGo l p e 0 0 s m args below meth c E (some (vI out.1)) out.2 H locs (F0 m 37 ls [])) : ∀ (n : Nat) (v2 : Int) (v3 : Int) (σ : mSt) (H : Heap) (locs : List Loc) (ls : Array Slot), mX7_howMany_L4 v0 v1 x37 n v2 v3 σ = some out → mM (mA E 276) E 276 σ s H locs → lv_has ls 4 [(0, .ref (eA E v0)), (1, vI v1), (2, vI v2), (3, vI v3)] → mGo l p e 0 0 s m args below meth c E (some (vI out.1)) out.2 H locs (F0 m 4 ls []) := by
  intro n
  induction n with
  | zero =>
    intro v2 v3 σ H locs ls hm hM hl
    exact absurd hm (by rw [mX7_howMany_L4.eq_1]; exact fun h => nomatch h)
  | succ n ih =>
    intro v2 v3 σ H locs ls hm hM hl
    rw [mX7_howMany_L4.eq_2] at hm
    refine r_iload_n (np := 5) G hl 3 rfl dX7_howMany_4 rfl rfl ?_
    refine r_aload_n (np := 6) G hl 0 rfl dX7_howMany_5 rfl rfl ?_
    refine r_getI (np := 9) G hM (shp_lt g0 (by decide)) g0 fdX7_0 lkX7_9 dX7_howMany_6 rfl ?_
    refine r_icmp_ge (np := 12) (tgt := 37) G rfl rfl dX7_howMany_9 (by decide) rfl (fun h1 => ?_) (fun h1 => ?_)
    · have hm := b_t h1 hm
      exact hx37 v2 _ _ _ _ hm hM (lv_sub hl [2] rfl)
    · have hm := b_f h1 hm
      refine r_iload_n (np := 13) G hl 2 rfl dX7_howMany_12 rfl rfl ?_
      refine r_aload_n (np := 14) G hl 0 rfl dX7_howMany_13 rfl rfl ?_
      obtain ⟨r2, e3, hm⟩ := ref_t hm
      refine r_getR (np := 17) G hM (shp_lt g0 (by decide)) g0 e3 fdX7_3 lkX7_24 dX7_howMany_14 rfl ?_
      refine r_iload_n (np := 18) G hl 1 rfl dX7_howMany_17 rfl rfl ?_
      obtain ⟨g4, hm⟩ := g_t hm
      obtain ⟨r5, e6, hm⟩ := ref_t hm
      refine r_aaload (np := 19) G hM (t := 6) g4 rfl ⟨by decide, by decide⟩ rfl rfl e6 dX7_howMany_18 rfl ?_
      refine r_iload_n (np := 20) G hl 3 rfl dX7_howMany_19 rfl rfl ?_
      obtain ⟨g7, hm⟩ := g_t hm
      refine r_iaload (np := 21) G hM g7 rfl dX7_howMany_20 rfl ?_
      refine r_if_eq (np := 24) (tgt := 28) G rfl dX7_howMany_21 (by decide) rfl (fun h8 => ?_) (fun h8 => ?_)
      · have hm := b_t h8 hm
        refine r_iconst (np := 29) G 0 dX7_howMany_28 rfl ?_
        refine r_iadd (np := 30) G dX7_howMany_29 rfl ?_
        obtain ⟨a9, e10, hm⟩ := bnd_t hm
        refine r_istore_n (np := 31) G hl e10 [(2, vI a9), (0, .ref (eA E v0)), (1, vI v1), (3, vI v3)] dX7_howMany_30 rfl rfl (by decide) rfl (fun ls hl => ?_)
        obtain ⟨a11, e12, hm⟩ := bnd_t hm
        refine r_iinc (np := 34) G hl 3 rfl e12 [(3, vI a11), (2, vI a9), (0, .ref (eA E v0)), (1, vI v1)] dX7_howMany_31 rfl (by decide) rfl (fun ls hl => ?_)
        refine r_goto (np := 4) G dX7_howMany_34 (by decide) ?_
        exact ih a9 a11 _ _ _ _ hm hM (lv_sub hl [2, 3, 1, 0] rfl)
      · have hm := b_f h8 hm
        refine r_iconst (np := 25) G 1 dX7_howMany_24 rfl ?_
        refine r_goto (np := 29) G dX7_howMany_25 (by decide) ?_
        refine r_iadd (np := 30) G dX7_howMany_29 rfl ?_
        obtain ⟨a13, e14, hm⟩ := bnd_t hm
        refine r_istore_n (np := 31) G hl e14 [(2, vI a13), (0, .ref (eA E v0)), (1, vI v1), (3, vI v3)] dX7_howMany_30 rfl rfl (by decide) rfl (fun ls hl => ?_)
        obtain ⟨a15, e16, hm⟩ := bnd_t hm
        refine r_iinc (np := 34) G hl 3 rfl e16 [(3, vI a15), (2, vI a13), (0, .ref (eA E v0)), (1, vI v1)] dX7_howMany_31 rfl (by decide) rfl (fun ls hl => ?_)
        refine r_goto (np := 4) G dX7_howMany_34 (by decide) ?_
        exact ih a13 a15 _ _ _ _ hm hM (lv_sub hl [2, 3, 1, 0] rfl)
set_option maxRecDepth 100000 in
set_option maxHeartbeats 4000000 in
theorem qX7_howMany (l : Launch) (E : mE) (σ : mSt) (v0 : Nat) (v1 : Int) (out : Int × mSt) (hm : mX7_howMany v0 v1 σ = some out) : mMet l yX7_howMany cX7_howMany 4 (some .int) 0 0 E 276 [.ref (eA E v0), vI v1] σ (some (vI out.1)) out.2 := by
  unfold mX7_howMany at hm
  obtain ⟨g0, hm⟩ := g_t hm
  refine m_entry (by decide +kernel) (Nat.le_of_ble_eq_true rfl) (fun p e s m args below meth c G hr hk hM ls hl => ?_)
  have G : CallFix p m c cX7_howMany 4 s args mTs RX7 := G
  have hl : lv_has ls 4 [(0, .ref (eA E v0)), (1, vI v1)] := hl
  refine r_iconst (np := 1) G 0 dX7_howMany_0 rfl ?_
  refine r_istore_n (np := 2) G hl rfl [(2, vI 0), (0, .ref (eA E v0)), (1, vI v1)] dX7_howMany_1 rfl rfl (by decide) rfl (fun ls hl => ?_)
  refine r_iconst (np := 3) G 0 dX7_howMany_2 rfl ?_
  refine r_istore_n (np := 4) G hl rfl [(3, vI 0), (2, vI 0), (0, .ref (eA E v0)), (1, vI v1)] dX7_howMany_3 rfl rfl (by decide) rfl (fun ls hl => ?_)
  exact wX7_howMany_L4 l E out G hr hk v0 v1 g0 (fun z2 zσ => mX7_howMany_B37 v0 v1 z2 zσ) (fun z2 zσ zH zl zs zm zM zv => wX7_howMany_B37 l E out G hr hk v0 v1 g0 z2 zσ zH zl zs zm zM zv) mF 0 0 _ _ _ _ hm hM (lv_sub hl [2, 3, 1, 0] rfl)
theorem gX7_howMany {v0 : Nat} {v1 : Int} {σ : mSt} {out : Int × mSt} (hm : mX7_howMany v0 v1 σ = some out) : isC v0 6 := (g_t hm).1
set_option maxRecDepth 100000 in
set_option maxHeartbeats 4000000 in
theorem wX7_placeOf_B47 (l : Launch) (E : mE) (out : Int × mSt) {p : Program} {e : Env} {s : State} {m : MethodId} {args : Array Value} {below : List Frame} {meth : Method} {c : Code} (G : CallFix p m c cX7_placeOf 5 s args mTs RX7) (hr : meth.sig.returnType = (some .int)) (hk : meth.locks = false) (v0 : Nat) (v1 : Int) (v2 : Int) (g0 : isC v0 6) : ∀ (σ : mSt) (H : Heap) (locs : List Loc) (ls : Array Slot), mX7_placeOf_B47 v0 v1 v2 σ = some out → mM (mA E 276) E 276 σ s H locs → lv_has ls 5 [] → mGo l p e 0 0 s m args below meth c E (some (vI out.1)) out.2 H locs (F0 m 47 ls []) := by
  intro σ H locs ls hm hM hl
  unfold mX7_placeOf_B47 at hm
  refine r_bipush (np := 49) G (-2) dX7_placeOf_47 (by decide) rfl ?_
  exact r_iret G hr hk hM hm dX7_placeOf_49
set_option maxRecDepth 100000 in
set_option maxHeartbeats 4000000 in
theorem wX7_placeOf_L5 (l : Launch) (E : mE) (out : Int × mSt) {p : Program} {e : Env} {s : State} {m : MethodId} {args : Array Value} {below : List Frame} {meth : Method} {c : Code} (G : CallFix p m c cX7_placeOf 5 s args mTs RX7) (hr : meth.sig.returnType = (some .int)) (hk : meth.locks = false) (v0 : Nat) (v1 : Int) (v2 : Int) (g0 : isC v0 6) (x47 : mSt → Option (Int × mSt)) (hx47 : ∀ (σ : mSt) (H : Heap) (locs : List Loc) (ls : Array Slot), x47 σ = some out → mM (mA E 276) E 276 σ s H locs → lv_has ls 5 [] → mGo l p e 0 0 s m args below meth c E (some (vI out.1)) out.2 H locs (F0 m 47 ls [])) : ∀ (n : Nat) (v3 : Int) (v4 : Int) (σ : mSt) (H : Heap) (locs : List Loc) (ls : Array Slot), mX7_placeOf_L5 v0 v1 v2 x47 n v3 v4 σ = some out → mM (mA E 276) E 276 σ s H locs → lv_has ls 5 [(0, .ref (eA E v0)), (1, vI v1), (3, vI v3), (4, vI v4)] → mGo l p e 0 0 s m args below meth c E (some (vI out.1)) out.2 H locs (F0 m 5 ls []) := by
  intro n
  induction n with
  | zero =>
    intro v3 v4 σ H locs ls hm hM hl
    exact absurd hm (by rw [mX7_placeOf_L5.eq_1]; exact fun h => nomatch h)
  | succ n ih =>
    intro v3 v4 σ H locs ls hm hM hl
    rw [mX7_placeOf_L5.eq_2] at hm
    refine r_iload (np := 7) G hl 3 rfl dX7_placeOf_5 rfl ?_
    refine r_aload_n (np := 8) G hl 0 rfl dX7_placeOf_7 rfl rfl ?_
    refine r_getI (np := 11) G hM (shp_lt g0 (by decide)) g0 fdX7_0 lkX7_9 dX7_placeOf_8 rfl ?_
    refine r_icmp_ge (np := 14) (tgt := 47) G rfl rfl dX7_placeOf_11 (by decide) rfl (fun h1 => ?_) (fun h1 => ?_)
    · have hm := b_t h1 hm
      exact hx47 _ _ _ _ hm hM (lv_sub hl [] rfl)
    · have hm := b_f h1 hm
      refine r_aload_n (np := 15) G hl 0 rfl dX7_placeOf_14 rfl rfl ?_
      obtain ⟨r2, e3, hm⟩ := ref_t hm
      refine r_getR (np := 18) G hM (shp_lt g0 (by decide)) g0 e3 fdX7_3 lkX7_24 dX7_placeOf_15 rfl ?_
      refine r_iload_n (np := 19) G hl 1 rfl dX7_placeOf_18 rfl rfl ?_
      obtain ⟨g4, hm⟩ := g_t hm
      obtain ⟨r5, e6, hm⟩ := ref_t hm
      refine r_aaload (np := 20) G hM (t := 6) g4 rfl ⟨by decide, by decide⟩ rfl rfl e6 dX7_placeOf_19 rfl ?_
      refine r_iload (np := 22) G hl 3 rfl dX7_placeOf_20 rfl ?_
      obtain ⟨g7, hm⟩ := g_t hm
      refine r_iaload (np := 23) G hM g7 rfl dX7_placeOf_22 rfl ?_
      refine r_if_eq (np := 26) (tgt := 41) G rfl dX7_placeOf_23 (by decide) rfl (fun h8 => ?_) (fun h8 => ?_)
      · have hm := b_t h8 hm
        obtain ⟨a9, e10, hm⟩ := bnd_t hm
        refine r_iinc (np := 44) G hl 3 rfl e10 [(4, vI a9), (0, .ref (eA E v0)), (1, vI v1), (3, vI v3)] dX7_placeOf_41 rfl (by decide) rfl (fun ls hl => ?_)
        refine r_goto (np := 5) G dX7_placeOf_44 (by decide) ?_
        exact ih v3 a9 _ _ _ _ hm hM (lv_sub hl [1, 2, 3, 0] rfl)
      · have hm := b_f h8 hm
        refine r_iload_n (np := 27) G hl 2 rfl dX7_placeOf_26 rfl rfl ?_
        refine r_if_ne (np := 30) (tgt := 38) G rfl dX7_placeOf_27 (by decide) rfl (fun h11 => ?_) (fun h11 => ?_)
        · have hm := b_f h11 hm
          obtain ⟨a12, e13, hm⟩ := bnd_t hm
          refine r_iinc (np := 41) G hl 2 rfl e13 [(3, vI a12), (0, .ref (eA E v0)), (1, vI v1), (4, vI v4)] dX7_placeOf_38 rfl (by decide) rfl (fun ls hl => ?_)
          obtain ⟨a14, e15, hm⟩ := bnd_t hm
          refine r_iinc (np := 44) G hl 3 rfl e15 [(4, vI a14), (3, vI a12), (0, .ref (eA E v0)), (1, vI v1)] dX7_placeOf_41 rfl (by decide) rfl (fun ls hl => ?_)
          refine r_goto (np := 5) G dX7_placeOf_44 (by decide) ?_
          exact ih a12 a14 _ _ _ _ hm hM (lv_sub hl [2, 3, 1, 0] rfl)
        · have hm := b_t h11 hm
          refine r_aload_n (np := 31) G hl 0 rfl dX7_placeOf_30 rfl rfl ?_
          obtain ⟨r16, e17, hm⟩ := ref_t hm
          refine r_getR (np := 34) G hM (shp_lt g0 (by decide)) g0 e17 fdX7_2 lkX7_18 dX7_placeOf_31 rfl ?_
          refine r_iload (np := 36) G hl 3 rfl dX7_placeOf_34 rfl ?_
          obtain ⟨g18, hm⟩ := g_t hm
          refine r_iaload (np := 37) G hM g18 rfl dX7_placeOf_36 rfl ?_
          exact r_iret G hr hk hM hm dX7_placeOf_37
set_option maxRecDepth 100000 in
set_option maxHeartbeats 4000000 in
theorem qX7_placeOf (l : Launch) (E : mE) (σ : mSt) (v0 : Nat) (v1 : Int) (v2 : Int) (out : Int × mSt) (hm : mX7_placeOf v0 v1 v2 σ = some out) : mMet l yX7_placeOf cX7_placeOf 5 (some .int) 0 0 E 276 [.ref (eA E v0), vI v1, vI v2] σ (some (vI out.1)) out.2 := by
  unfold mX7_placeOf at hm
  obtain ⟨g0, hm⟩ := g_t hm
  refine m_entry (by decide +kernel) (Nat.le_of_ble_eq_true rfl) (fun p e s m args below meth c G hr hk hM ls hl => ?_)
  have G : CallFix p m c cX7_placeOf 5 s args mTs RX7 := G
  have hl : lv_has ls 5 [(0, .ref (eA E v0)), (1, vI v1), (2, vI v2)] := hl
  refine r_iload_n (np := 1) G hl 2 rfl dX7_placeOf_0 rfl rfl ?_
  refine r_istore_n (np := 2) G hl rfl [(3, vI v2), (0, .ref (eA E v0)), (1, vI v1), (2, vI v2)] dX7_placeOf_1 rfl rfl (by decide) rfl (fun ls hl => ?_)
  refine r_iconst (np := 3) G 0 dX7_placeOf_2 rfl ?_
  refine r_istore (np := 5) G hl rfl [(4, vI 0), (3, vI v2), (0, .ref (eA E v0)), (1, vI v1), (2, vI v2)] dX7_placeOf_3 rfl (by decide) rfl (fun ls hl => ?_)
  exact wX7_placeOf_L5 l E out G hr hk v0 v1 v2 g0 (fun zσ => mX7_placeOf_B47 v0 v1 v2 zσ) (fun zσ zH zl zs zm zM zv => wX7_placeOf_B47 l E out G hr hk v0 v1 v2 g0 zσ zH zl zs zm zM zv) mF v2 0 _ _ _ _ hm hM (lv_sub hl [2, 3, 1, 0] rfl)
theorem gX7_placeOf {v0 : Nat} {v1 : Int} {v2 : Int} {σ : mSt} {out : Int × mSt} (hm : mX7_placeOf v0 v1 v2 σ = some out) : isC v0 6 := (g_t hm).1
set_option maxRecDepth 100000 in
set_option maxHeartbeats 4000000 in
theorem wX7_indexOf_B37 (l : Launch) (E : mE) (out : Int × mSt) {p : Program} {e : Env} {s : State} {m : MethodId} {args : Array Value} {below : List Frame} {meth : Method} {c : Code} (G : CallFix p m c cX7_indexOf 5 s args mTs RX7) (hr : meth.sig.returnType = (some .int)) (hk : meth.locks = false) (v0 : Nat) (v1 : Int) (g0 : isC v0 6) : ∀ (v2 : Int) (σ : mSt) (H : Heap) (locs : List Loc) (ls : Array Slot), mX7_indexOf_B37 v0 v1 v2 σ = some out → mM (mA E 276) E 276 σ s H locs → lv_has ls 5 [(2, vL v2)] → mGo l p e 2 51 s m args below meth c E (some (vI out.1)) out.2 H locs (F0 m 37 ls []) := by
  intro v2 σ H locs ls hm hM hl
  unfold mX7_indexOf_B37 at hm
  refine r_ldc2 (np := 40) G 6 dX7_indexOf_37 lkX7_97 rfl rfl ?_
  refine r_lload_n (np := 41) G hl 0 rfl dX7_indexOf_40 rfl rfl ?_
  obtain ⟨b1, s2, e3, hm⟩ := call_t hm
  refine m_callSL (np := 44) G hM hl.1 [vL 6, vL v2] (qX5_quotient l E σ 6 v2 _ e3) myX5_quotient lkX7_78 ⟨Nat.le_of_ble_eq_true rfl, Nat.le_of_ble_eq_true rfl⟩ ⟨Nat.le_of_ble_eq_true rfl, Nat.le_of_ble_eq_true rfl⟩ [] rfl (Nat.le_of_ble_eq_true rfl) dX7_indexOf_41 rfl (fun H locs hM => ?_)
  refine r_l2i (np := 45) G dX7_indexOf_44 rfl ?_
  exact r_iret G hr hk hM hm dX7_indexOf_45
set_option maxRecDepth 100000 in
set_option maxHeartbeats 4000000 in
theorem wX7_indexOf_L7 (l : Launch) (E : mE) (out : Int × mSt) {p : Program} {e : Env} {s : State} {m : MethodId} {args : Array Value} {below : List Frame} {meth : Method} {c : Code} (G : CallFix p m c cX7_indexOf 5 s args mTs RX7) (hr : meth.sig.returnType = (some .int)) (hk : meth.locks = false) (v0 : Nat) (v1 : Int) (g0 : isC v0 6) (x37 : Int → mSt → Option (Int × mSt)) (hx37 : ∀ (v2 : Int) (σ : mSt) (H : Heap) (locs : List Loc) (ls : Array Slot), x37 v2 σ = some out → mM (mA E 276) E 276 σ s H locs → lv_has ls 5 [(2, vL v2)] → mGo l p e 2 51 s m args below meth c E (some (vI out.1)) out.2 H locs (F0 m 37 ls [])) : ∀ (n : Nat) (v2 : Int) (v4 : Int) (σ : mSt) (H : Heap) (locs : List Loc) (ls : Array Slot), mX7_indexOf_L7 v0 v1 x37 n v2 v4 σ = some out → mM (mA E 276) E 276 σ s H locs → lv_has ls 5 [(0, .ref (eA E v0)), (1, vI v1), (2, vL v2), (4, vI v4)] → mGo l p e 2 51 s m args below meth c E (some (vI out.1)) out.2 H locs (F0 m 7 ls []) := by
  intro n
  induction n with
  | zero =>
    intro v2 v4 σ H locs ls hm hM hl
    exact absurd hm (by rw [mX7_indexOf_L7.eq_1]; exact fun h => nomatch h)
  | succ n ih =>
    intro v2 v4 σ H locs ls hm hM hl
    rw [mX7_indexOf_L7.eq_2] at hm
    refine r_iload (np := 9) G hl 3 rfl dX7_indexOf_7 rfl ?_
    refine r_aload_n (np := 10) G hl 0 rfl dX7_indexOf_9 rfl rfl ?_
    refine r_getI (np := 13) G hM (shp_lt g0 (by decide)) g0 fdX7_0 lkX7_9 dX7_indexOf_10 rfl ?_
    refine r_icmp_ge (np := 16) (tgt := 37) G rfl rfl dX7_indexOf_13 (by decide) rfl (fun h4 => ?_) (fun h4 => ?_)
    · have hm := b_t h4 hm
      exact hx37 v2 _ _ _ _ hm hM (lv_sub hl [2] rfl)
    · have hm := b_f h4 hm
      refine r_lload_n (np := 17) G hl 2 rfl dX7_indexOf_16 rfl rfl ?_
      refine r_aload_n (np := 18) G hl 0 rfl dX7_indexOf_17 rfl rfl ?_
      obtain ⟨r5, e6, hm⟩ := ref_t hm
      refine r_getR (np := 21) G hM (shp_lt g0 (by decide)) g0 e6 fdX7_3 lkX7_24 dX7_indexOf_18 rfl ?_
      refine r_iload_n (np := 22) G hl 1 rfl dX7_indexOf_21 rfl rfl ?_
      obtain ⟨g7, hm⟩ := g_t hm
      obtain ⟨r8, e9, hm⟩ := ref_t hm
      refine r_aaload (np := 23) G hM (t := 6) g7 rfl ⟨by decide, by decide⟩ rfl rfl e9 dX7_indexOf_22 rfl ?_
      refine r_iload (np := 25) G hl 3 rfl dX7_indexOf_23 rfl ?_
      obtain ⟨g10, hm⟩ := g_t hm
      refine r_iaload (np := 26) G hM g10 rfl dX7_indexOf_25 rfl ?_
      refine r_i2l (np := 27) G rfl dX7_indexOf_26 rfl ?_
      obtain ⟨b11, s12, e13, hm⟩ := call_t hm
      refine m_callSL (np := 30) G hM hl.1 [vL v2, vL (wI (σ r8 (wI v4).toNat))] (qX5_greatestDivisor l E σ v2 (wI (σ r8 (wI v4).toNat)) _ e13) myX5_greatestDivisor lkX7_109 ⟨Nat.le_of_ble_eq_true rfl, Nat.le_of_ble_eq_true rfl⟩ ⟨Nat.le_of_ble_eq_true rfl, Nat.le_of_ble_eq_true rfl⟩ [] rfl (Nat.le_of_ble_eq_true rfl) dX7_indexOf_27 rfl (fun H locs hM => ?_)
      refine r_lstore_n (np := 31) G hl rfl [(2, vL b11), (0, .ref (eA E v0)), (1, vI v1), (4, vI v4)] dX7_indexOf_30 rfl rfl (by decide) rfl (fun ls hl => ?_)
      obtain ⟨a14, e15, hm⟩ := bnd_t hm
      refine r_iinc (np := 34) G hl 3 rfl e15 [(4, vI a14), (2, vL b11), (0, .ref (eA E v0)), (1, vI v1)] dX7_indexOf_31 rfl (by decide) rfl (fun ls hl => ?_)
      refine r_goto (np := 7) G dX7_indexOf_34 (by decide) ?_
      exact ih b11 a14 _ _ _ _ hm hM (lv_sub hl [2, 3, 1, 0] rfl)
set_option maxRecDepth 100000 in
set_option maxHeartbeats 4000000 in
theorem qX7_indexOf (l : Launch) (E : mE) (σ : mSt) (v0 : Nat) (v1 : Int) (out : Int × mSt) (hm : mX7_indexOf v0 v1 σ = some out) : mMet l yX7_indexOf cX7_indexOf 5 (some .int) 2 51 E 276 [.ref (eA E v0), vI v1] σ (some (vI out.1)) out.2 := by
  unfold mX7_indexOf at hm
  obtain ⟨g0, hm⟩ := g_t hm
  refine m_entry (by decide +kernel) (Nat.le_of_ble_eq_true rfl) (fun p e s m args below meth c G hr hk hM ls hl => ?_)
  have G : CallFix p m c cX7_indexOf 5 s args mTs RX7 := G
  have hl : lv_has ls 5 [(0, .ref (eA E v0)), (1, vI v1)] := hl
  refine r_ldc2 (np := 3) G 6 dX7_indexOf_0 lkX7_97 rfl rfl ?_
  refine r_lstore_n (np := 4) G hl rfl [(2, vL 6), (0, .ref (eA E v0)), (1, vI v1)] dX7_indexOf_3 rfl rfl (by decide) rfl (fun ls hl => ?_)
  refine r_iconst (np := 5) G 0 dX7_indexOf_4 rfl ?_
  refine r_istore (np := 7) G hl rfl [(4, vI 0), (2, vL 6), (0, .ref (eA E v0)), (1, vI v1)] dX7_indexOf_5 rfl (by decide) rfl (fun ls hl => ?_)
  exact wX7_indexOf_L7 l E out G hr hk v0 v1 g0 (fun z2 zσ => mX7_indexOf_B37 v0 v1 z2 zσ) (fun z2 zσ zH zl zs zm zM zv => wX7_indexOf_B37 l E out G hr hk v0 v1 g0 z2 zσ zH zl zs zm zM zv) mF 6 0 _ _ _ _ hm hM (lv_sub hl [2, 3, 1, 0] rfl)
theorem gX7_indexOf {v0 : Nat} {v1 : Int} {σ : mSt} {out : Int × mSt} (hm : mX7_indexOf v0 v1 σ = some out) : isC v0 6 := (g_t hm).1
set_option maxRecDepth 100000 in
set_option maxHeartbeats 4000000 in
theorem wX7_areAlike_B51 (l : Launch) (E : mE) (out : Int × mSt) {p : Program} {e : Env} {s : State} {m : MethodId} {args : Array Value} {below : List Frame} {meth : Method} {c : Code} (G : CallFix p m c cX7_areAlike 5 s args mTs RX7) (hr : meth.sig.returnType = (some .boolean)) (hk : meth.locks = false) (v0 : Nat) (v1 : Int) (v2 : Int) (g0 : isC v0 6) : ∀ (v3 : Int) (σ : mSt) (H : Heap) (locs : List Loc) (ls : Array Slot), mX7_areAlike_B51 v0 v1 v2 v3 σ = some out → mM (mA E 276) E 276 σ s H locs → lv_has ls 5 [(3, vI v3)] → mGo l p e 0 0 s m args below meth c E (some (vI out.1)) out.2 H locs (F0 m 51 ls []) := by
  intro v3 σ H locs ls hm hM hl
  unfold mX7_areAlike_B51 at hm
  refine r_iload_n (np := 52) G hl 0 rfl dX7_areAlike_51 rfl rfl ?_
  obtain ⟨g1, hm⟩ := g_t hm
  exact r_zret G hr hk hM g1 hm dX7_areAlike_52
set_option maxRecDepth 100000 in
set_option maxHeartbeats 4000000 in
theorem wX7_areAlike_L5 (l : Launch) (E : mE) (out : Int × mSt) {p : Program} {e : Env} {s : State} {m : MethodId} {args : Array Value} {below : List Frame} {meth : Method} {c : Code} (G : CallFix p m c cX7_areAlike 5 s args mTs RX7) (hr : meth.sig.returnType = (some .boolean)) (hk : meth.locks = false) (v0 : Nat) (v1 : Int) (v2 : Int) (g0 : isC v0 6) (x51 : Int → mSt → Option (Int × mSt)) (hx51 : ∀ (v3 : Int) (σ : mSt) (H : Heap) (locs : List Loc) (ls : Array Slot), x51 v3 σ = some out → mM (mA E 276) E 276 σ s H locs → lv_has ls 5 [(3, vI v3)] → mGo l p e 0 0 s m args below meth c E (some (vI out.1)) out.2 H locs (F0 m 51 ls [])) : ∀ (n : Nat) (v3 : Int) (v4 : Int) (σ : mSt) (H : Heap) (locs : List Loc) (ls : Array Slot), mX7_areAlike_L5 v0 v1 v2 x51 n v3 v4 σ = some out → mM (mA E 276) E 276 σ s H locs → lv_has ls 5 [(0, .ref (eA E v0)), (1, vI v1), (2, vI v2), (3, vI v3), (4, vI v4)] → mGo l p e 0 0 s m args below meth c E (some (vI out.1)) out.2 H locs (F0 m 5 ls []) := by
  intro n
  induction n with
  | zero =>
    intro v3 v4 σ H locs ls hm hM hl
    exact absurd hm (by rw [mX7_areAlike_L5.eq_1]; exact fun h => nomatch h)
  | succ n ih =>
    intro v3 v4 σ H locs ls hm hM hl
    rw [mX7_areAlike_L5.eq_2] at hm
    refine r_iload (np := 7) G hl 4 rfl dX7_areAlike_5 rfl ?_
    refine r_aload_n (np := 8) G hl 0 rfl dX7_areAlike_7 rfl rfl ?_
    refine r_getI (np := 11) G hM (shp_lt g0 (by decide)) g0 fdX7_0 lkX7_9 dX7_areAlike_8 rfl ?_
    refine r_icmp_ge (np := 14) (tgt := 51) G rfl rfl dX7_areAlike_11 (by decide) rfl (fun h2 => ?_) (fun h2 => ?_)
    · have hm := b_t h2 hm
      exact hx51 v3 _ _ _ _ hm hM (lv_sub hl [3] rfl)
    · have hm := b_f h2 hm
      refine r_iload_n (np := 15) G hl 3 rfl dX7_areAlike_14 rfl rfl ?_
      refine r_if_eq (np := 18) (tgt := 51) G rfl dX7_areAlike_15 (by decide) rfl (fun h3 => ?_) (fun h3 => ?_)
      · have hm := b_t h3 hm
        exact hx51 v3 _ _ _ _ hm hM (lv_sub hl [3] rfl)
      · have hm := b_f h3 hm
        refine r_aload_n (np := 19) G hl 0 rfl dX7_areAlike_18 rfl rfl ?_
        obtain ⟨r4, e5, hm⟩ := ref_t hm
        refine r_getR (np := 22) G hM (shp_lt g0 (by decide)) g0 e5 fdX7_3 lkX7_24 dX7_areAlike_19 rfl ?_
        refine r_iload_n (np := 23) G hl 1 rfl dX7_areAlike_22 rfl rfl ?_
        obtain ⟨g6, hm⟩ := g_t hm
        obtain ⟨r7, e8, hm⟩ := ref_t hm
        refine r_aaload (np := 24) G hM (t := 6) g6 rfl ⟨by decide, by decide⟩ rfl rfl e8 dX7_areAlike_23 rfl ?_
        refine r_iload (np := 26) G hl 4 rfl dX7_areAlike_24 rfl ?_
        obtain ⟨g9, hm⟩ := g_t hm
        refine r_iaload (np := 27) G hM g9 rfl dX7_areAlike_26 rfl ?_
        refine r_aload_n (np := 28) G hl 0 rfl dX7_areAlike_27 rfl rfl ?_
        obtain ⟨r10, e11, hm⟩ := ref_t hm
        refine r_getR (np := 31) G hM (shp_lt g0 (by decide)) g0 e11 fdX7_3 lkX7_24 dX7_areAlike_28 rfl ?_
        refine r_iload_n (np := 32) G hl 2 rfl dX7_areAlike_31 rfl rfl ?_
        obtain ⟨g12, hm⟩ := g_t hm
        obtain ⟨r13, e14, hm⟩ := ref_t hm
        refine r_aaload (np := 33) G hM (t := 6) g12 rfl ⟨by decide, by decide⟩ rfl rfl e14 dX7_areAlike_32 rfl ?_
        refine r_iload (np := 35) G hl 4 rfl dX7_areAlike_33 rfl ?_
        obtain ⟨g15, hm⟩ := g_t hm
        refine r_iaload (np := 36) G hM g15 rfl dX7_areAlike_35 rfl ?_
        refine r_icmp_ne (np := 39) (tgt := 43) G rfl rfl dX7_areAlike_36 (by decide) rfl (fun h16 => ?_) (fun h16 => ?_)
        · have hm := b_f h16 hm
          refine r_iconst (np := 44) G 0 dX7_areAlike_43 rfl ?_
          refine r_istore_n (np := 45) G hl rfl [(3, vI 0), (0, .ref (eA E v0)), (1, vI v1), (2, vI v2), (4, vI v4)] dX7_areAlike_44 rfl rfl (by decide) rfl (fun ls hl => ?_)
          obtain ⟨a17, e18, hm⟩ := bnd_t hm
          refine r_iinc (np := 48) G hl 4 rfl e18 [(4, vI a17), (3, vI 0), (0, .ref (eA E v0)), (1, vI v1), (2, vI v2)] dX7_areAlike_45 rfl (by decide) rfl (fun ls hl => ?_)
          refine r_goto (np := 5) G dX7_areAlike_48 (by decide) ?_
          exact ih 0 a17 _ _ _ _ hm hM (lv_sub hl [2, 3, 4, 1, 0] rfl)
        · have hm := b_t h16 hm
          refine r_iconst (np := 40) G 1 dX7_areAlike_39 rfl ?_
          refine r_goto (np := 44) G dX7_areAlike_40 (by decide) ?_
          refine r_istore_n (np := 45) G hl rfl [(3, vI 1), (0, .ref (eA E v0)), (1, vI v1), (2, vI v2), (4, vI v4)] dX7_areAlike_44 rfl rfl (by decide) rfl (fun ls hl => ?_)
          obtain ⟨a19, e20, hm⟩ := bnd_t hm
          refine r_iinc (np := 48) G hl 4 rfl e20 [(4, vI a19), (3, vI 1), (0, .ref (eA E v0)), (1, vI v1), (2, vI v2)] dX7_areAlike_45 rfl (by decide) rfl (fun ls hl => ?_)
          refine r_goto (np := 5) G dX7_areAlike_48 (by decide) ?_
          exact ih 1 a19 _ _ _ _ hm hM (lv_sub hl [2, 3, 4, 1, 0] rfl)
set_option maxRecDepth 100000 in
set_option maxHeartbeats 4000000 in
theorem qX7_areAlike (l : Launch) (E : mE) (σ : mSt) (v0 : Nat) (v1 : Int) (v2 : Int) (out : Int × mSt) (hm : mX7_areAlike v0 v1 v2 σ = some out) : mMet l yX7_areAlike cX7_areAlike 5 (some .boolean) 0 0 E 276 [.ref (eA E v0), vI v1, vI v2] σ (some (vI out.1)) out.2 := by
  unfold mX7_areAlike at hm
  obtain ⟨g0, hm⟩ := g_t hm
  refine m_entry (by decide +kernel) (Nat.le_of_ble_eq_true rfl) (fun p e s m args below meth c G hr hk hM ls hl => ?_)
  have G : CallFix p m c cX7_areAlike 5 s args mTs RX7 := G
  have hl : lv_has ls 5 [(0, .ref (eA E v0)), (1, vI v1), (2, vI v2)] := hl
  refine r_iconst (np := 1) G 1 dX7_areAlike_0 rfl ?_
  refine r_istore_n (np := 2) G hl rfl [(3, vI 1), (0, .ref (eA E v0)), (1, vI v1), (2, vI v2)] dX7_areAlike_1 rfl rfl (by decide) rfl (fun ls hl => ?_)
  refine r_iconst (np := 3) G 0 dX7_areAlike_2 rfl ?_
  refine r_istore (np := 5) G hl rfl [(4, vI 0), (3, vI 1), (0, .ref (eA E v0)), (1, vI v1), (2, vI v2)] dX7_areAlike_3 rfl (by decide) rfl (fun ls hl => ?_)
  exact wX7_areAlike_L5 l E out G hr hk v0 v1 v2 g0 (fun z3 zσ => mX7_areAlike_B51 v0 v1 v2 z3 zσ) (fun z3 zσ zH zl zs zm zM zv => wX7_areAlike_B51 l E out G hr hk v0 v1 v2 g0 z3 zσ zH zl zs zm zM zv) mF 1 0 _ _ _ _ hm hM (lv_sub hl [2, 3, 4, 1, 0] rfl)
theorem gX7_areAlike {v0 : Nat} {v1 : Int} {v2 : Int} {σ : mSt} {out : Int × mSt} (hm : mX7_areAlike v0 v1 v2 σ = some out) : isC v0 6 := (g_t hm).1
set_option maxRecDepth 100000 in
set_option maxHeartbeats 4000000 in
theorem wX7_product_B53 (l : Launch) (E : mE) (out : Int × mSt) {p : Program} {e : Env} {s : State} {m : MethodId} {args : Array Value} {below : List Frame} {meth : Method} {c : Code} (G : CallFix p m c cX7_product 5 s args mTs RX7) (hr : meth.sig.returnType = (some .long)) (hk : meth.locks = false) (v0 : Nat) (v1 : Int) (g0 : isC v0 6) : ∀ (v2 : Int) (σ : mSt) (H : Heap) (locs : List Loc) (ls : Array Slot), mX7_product_B53 v0 v1 v2 σ = some out → mM (mA E 276) E 276 σ s H locs → lv_has ls 5 [(2, vL v2)] → mGo l p e 0 0 s m args below meth c E (some (vL out.1)) out.2 H locs (F0 m 53 ls []) := by
  intro v2 σ H locs ls hm hM hl
  unfold mX7_product_B53 at hm
  refine r_lload_n (np := 54) G hl 0 rfl dX7_product_53 rfl rfl ?_
  exact r_lret G hr hk hM hm dX7_product_54
set_option maxRecDepth 100000 in
set_option maxHeartbeats 4000000 in
theorem wX7_product_L5 (l : Launch) (E : mE) (out : Int × mSt) {p : Program} {e : Env} {s : State} {m : MethodId} {args : Array Value} {below : List Frame} {meth : Method} {c : Code} (G : CallFix p m c cX7_product 5 s args mTs RX7) (hr : meth.sig.returnType = (some .long)) (hk : meth.locks = false) (v0 : Nat) (v1 : Int) (g0 : isC v0 6) (x53 : Int → mSt → Option (Int × mSt)) (hx53 : ∀ (v2 : Int) (σ : mSt) (H : Heap) (locs : List Loc) (ls : Array Slot), x53 v2 σ = some out → mM (mA E 276) E 276 σ s H locs → lv_has ls 5 [(2, vL v2)] → mGo l p e 0 0 s m args below meth c E (some (vL out.1)) out.2 H locs (F0 m 53 ls [])) : ∀ (n : Nat) (v2 : Int) (v4 : Int) (σ : mSt) (H : Heap) (locs : List Loc) (ls : Array Slot), mX7_product_L5 v0 v1 x53 n v2 v4 σ = some out → mM (mA E 276) E 276 σ s H locs → lv_has ls 5 [(0, .ref (eA E v0)), (1, vI v1), (2, vL v2), (4, vI v4)] → mGo l p e 0 0 s m args below meth c E (some (vL out.1)) out.2 H locs (F0 m 5 ls []) := by
  intro n
  induction n with
  | zero =>
    intro v2 v4 σ H locs ls hm hM hl
    exact absurd hm (by rw [mX7_product_L5.eq_1]; exact fun h => nomatch h)
  | succ n ih =>
    intro v2 v4 σ H locs ls hm hM hl
    rw [mX7_product_L5.eq_2] at hm
    refine r_iload (np := 7) G hl 3 rfl dX7_product_5 rfl ?_
    refine r_aload_n (np := 8) G hl 0 rfl dX7_product_7 rfl rfl ?_
    refine r_getI (np := 11) G hM (shp_lt g0 (by decide)) g0 fdX7_0 lkX7_9 dX7_product_8 rfl ?_
    refine r_icmp_ge (np := 14) (tgt := 53) G rfl rfl dX7_product_11 (by decide) rfl (fun h1 => ?_) (fun h1 => ?_)
    · have hm := b_t h1 hm
      exact hx53 v2 _ _ _ _ hm hM (lv_sub hl [2] rfl)
    · have hm := b_f h1 hm
      refine r_aload_n (np := 15) G hl 0 rfl dX7_product_14 rfl rfl ?_
      obtain ⟨r2, e3, hm⟩ := ref_t hm
      refine r_getR (np := 18) G hM (shp_lt g0 (by decide)) g0 e3 fdX7_2 lkX7_18 dX7_product_15 rfl ?_
      refine r_iload (np := 20) G hl 3 rfl dX7_product_18 rfl ?_
      obtain ⟨g4, hm⟩ := g_t hm
      refine r_iaload (np := 21) G hM g4 rfl dX7_product_20 rfl ?_
      refine r_if_eq (np := 24) (tgt := 47) G rfl dX7_product_21 (by decide) rfl (fun h5 => ?_) (fun h5 => ?_)
      · have hm := b_t h5 hm
        obtain ⟨a6, e7, hm⟩ := bnd_t hm
        refine r_iinc (np := 50) G hl 3 rfl e7 [(4, vI a6), (0, .ref (eA E v0)), (1, vI v1), (2, vL v2)] dX7_product_47 rfl (by decide) rfl (fun ls hl => ?_)
        refine r_goto (np := 5) G dX7_product_50 (by decide) ?_
        exact ih v2 a6 _ _ _ _ hm hM (lv_sub hl [1, 2, 3, 0] rfl)
      · have hm := b_f h5 hm
        refine r_aload_n (np := 25) G hl 0 rfl dX7_product_24 rfl rfl ?_
        obtain ⟨r8, e9, hm⟩ := ref_t hm
        refine r_getR (np := 28) G hM (shp_lt g0 (by decide)) g0 e9 fdX7_3 lkX7_24 dX7_product_25 rfl ?_
        refine r_iload_n (np := 29) G hl 1 rfl dX7_product_28 rfl rfl ?_
        obtain ⟨g10, hm⟩ := g_t hm
        obtain ⟨r11, e12, hm⟩ := ref_t hm
        refine r_aaload (np := 30) G hM (t := 6) g10 rfl ⟨by decide, by decide⟩ rfl rfl e12 dX7_product_29 rfl ?_
        refine r_iload (np := 32) G hl 3 rfl dX7_product_30 rfl ?_
        obtain ⟨g13, hm⟩ := g_t hm
        refine r_iaload (np := 33) G hM g13 rfl dX7_product_32 rfl ?_
        refine r_if_eq (np := 36) (tgt := 47) G rfl dX7_product_33 (by decide) rfl (fun h14 => ?_) (fun h14 => ?_)
        · have hm := b_t h14 hm
          obtain ⟨a15, e16, hm⟩ := bnd_t hm
          refine r_iinc (np := 50) G hl 3 rfl e16 [(4, vI a15), (0, .ref (eA E v0)), (1, vI v1), (2, vL v2)] dX7_product_47 rfl (by decide) rfl (fun ls hl => ?_)
          refine r_goto (np := 5) G dX7_product_50 (by decide) ?_
          exact ih v2 a15 _ _ _ _ hm hM (lv_sub hl [1, 2, 3, 0] rfl)
        · have hm := b_f h14 hm
          refine r_lload_n (np := 37) G hl 2 rfl dX7_product_36 rfl rfl ?_
          refine r_aload_n (np := 38) G hl 0 rfl dX7_product_37 rfl rfl ?_
          obtain ⟨r17, e18, hm⟩ := ref_t hm
          refine r_getR (np := 41) G hM (shp_lt g0 (by decide)) g0 e18 fdX7_2 lkX7_18 dX7_product_38 rfl ?_
          refine r_iload (np := 43) G hl 3 rfl dX7_product_41 rfl ?_
          obtain ⟨g19, hm⟩ := g_t hm
          refine r_iaload (np := 44) G hM g19 rfl dX7_product_43 rfl ?_
          refine r_i2l (np := 45) G rfl dX7_product_44 rfl ?_
          refine r_lmul (np := 46) G dX7_product_45 rfl ?_
          obtain ⟨a20, e21, hm⟩ := bnd_t hm
          refine r_lstore_n (np := 47) G hl e21 [(2, vL a20), (0, .ref (eA E v0)), (1, vI v1), (4, vI v4)] dX7_product_46 rfl rfl (by decide) rfl (fun ls hl => ?_)
          obtain ⟨a22, e23, hm⟩ := bnd_t hm
          refine r_iinc (np := 50) G hl 3 rfl e23 [(4, vI a22), (2, vL a20), (0, .ref (eA E v0)), (1, vI v1)] dX7_product_47 rfl (by decide) rfl (fun ls hl => ?_)
          refine r_goto (np := 5) G dX7_product_50 (by decide) ?_
          exact ih a20 a22 _ _ _ _ hm hM (lv_sub hl [2, 3, 1, 0] rfl)
set_option maxRecDepth 100000 in
set_option maxHeartbeats 4000000 in
theorem qX7_product (l : Launch) (E : mE) (σ : mSt) (v0 : Nat) (v1 : Int) (out : Int × mSt) (hm : mX7_product v0 v1 σ = some out) : mMet l yX7_product cX7_product 5 (some .long) 0 0 E 276 [.ref (eA E v0), vI v1] σ (some (vL out.1)) out.2 := by
  unfold mX7_product at hm
  obtain ⟨g0, hm⟩ := g_t hm
  refine m_entry (by decide +kernel) (Nat.le_of_ble_eq_true rfl) (fun p e s m args below meth c G hr hk hM ls hl => ?_)
  have G : CallFix p m c cX7_product 5 s args mTs RX7 := G
  have hl : lv_has ls 5 [(0, .ref (eA E v0)), (1, vI v1)] := hl
  refine r_lconst (np := 1) G 1 dX7_product_0 rfl rfl ?_
  refine r_lstore_n (np := 2) G hl rfl [(2, vL 1), (0, .ref (eA E v0)), (1, vI v1)] dX7_product_1 rfl rfl (by decide) rfl (fun ls hl => ?_)
  refine r_iconst (np := 3) G 0 dX7_product_2 rfl ?_
  refine r_istore (np := 5) G hl rfl [(4, vI 0), (2, vL 1), (0, .ref (eA E v0)), (1, vI v1)] dX7_product_3 rfl (by decide) rfl (fun ls hl => ?_)
  exact wX7_product_L5 l E out G hr hk v0 v1 g0 (fun z2 zσ => mX7_product_B53 v0 v1 z2 zσ) (fun z2 zσ zH zl zs zm zM zv => wX7_product_B53 l E out G hr hk v0 v1 g0 z2 zσ zH zl zs zm zM zv) mF 1 0 _ _ _ _ hm hM (lv_sub hl [2, 3, 1, 0] rfl)
theorem gX7_product {v0 : Nat} {v1 : Int} {σ : mSt} {out : Int × mSt} (hm : mX7_product v0 v1 σ = some out) : isC v0 6 := (g_t hm).1
set_option maxRecDepth 100000 in
set_option maxHeartbeats 4000000 in
theorem wX10_isLetter_B26 (l : Launch) (E : mE) (out : Int × mSt) {p : Program} {e : Env} {s : State} {m : MethodId} {args : Array Value} {below : List Frame} {meth : Method} {c : Code} (G : CallFix p m c cX10_isLetter 2 s args mTs RX10) (hr : meth.sig.returnType = (some .boolean)) (hk : meth.locks = false) (v0 : Nat) (v1 : Int) (g0 : isC v0 9) : ∀ (σ : mSt) (H : Heap) (locs : List Loc) (ls : Array Slot), mX10_isLetter_B26 v0 v1 σ = some out → mM (mA E 276) E 276 σ s H locs → lv_has ls 2 [] → mGo l p e 0 0 s m args below meth c E (some (vI out.1)) out.2 H locs (F0 m 26 ls []) := by
  intro σ H locs ls hm hM hl
  unfold mX10_isLetter_B26 at hm
  refine r_iconst (np := 27) G 0 dX10_isLetter_26 rfl ?_
  exact r_zret G hr hk hM (Or.inl rfl) hm dX10_isLetter_27
set_option maxRecDepth 100000 in
set_option maxHeartbeats 4000000 in
theorem qX10_isLetter (l : Launch) (E : mE) (σ : mSt) (v0 : Nat) (v1 : Int) (out : Int × mSt) (hm : mX10_isLetter v0 v1 σ = some out) : mMet l yX10_isLetter cX10_isLetter 2 (some .boolean) 0 0 E 276 [.ref (eA E v0), vI v1] σ (some (vI out.1)) out.2 := by
  unfold mX10_isLetter at hm
  obtain ⟨g0, hm⟩ := g_t hm
  refine m_entry (by decide +kernel) (Nat.le_of_ble_eq_true rfl) (fun p e s m args below meth c G hr hk hM ls hl => ?_)
  have G : CallFix p m c cX10_isLetter 2 s args mTs RX10 := G
  have hl : lv_has ls 2 [(0, .ref (eA E v0)), (1, vI v1)] := hl
  refine r_aload_n (np := 1) G hl 0 rfl dX10_isLetter_0 rfl rfl ?_
  obtain ⟨r1, e2, hm⟩ := ref_t hm
  refine r_getR (np := 4) G hM (shp_lt g0 (by decide)) g0 e2 fdX10_0 lkX10_9 dX10_isLetter_1 rfl ?_
  refine r_iload_n (np := 5) G hl 1 rfl dX10_isLetter_4 rfl rfl ?_
  obtain ⟨g3, hm⟩ := g_t hm
  refine r_baload (np := 6) G hM g3 rfl dX10_isLetter_5 rfl ?_
  refine r_bipush (np := 8) G 97 dX10_isLetter_6 (by decide) rfl ?_
  refine r_icmp_lt (np := 11) (tgt := 26) G rfl (wIk 97 rfl) dX10_isLetter_8 (by decide) rfl (fun h4 => ?_) (fun h4 => ?_)
  · have hm := b_t h4 hm
    exact wX10_isLetter_B26 l E out G hr hk v0 v1 g0 _ _ _ _ hm hM (lv_sub hl [] rfl)
  · have hm := b_f h4 hm
    refine r_aload_n (np := 12) G hl 0 rfl dX10_isLetter_11 rfl rfl ?_
    obtain ⟨r5, e6, hm⟩ := ref_t hm
    refine r_getR (np := 15) G hM (shp_lt g0 (by decide)) g0 e6 fdX10_0 lkX10_9 dX10_isLetter_12 rfl ?_
    refine r_iload_n (np := 16) G hl 1 rfl dX10_isLetter_15 rfl rfl ?_
    obtain ⟨g7, hm⟩ := g_t hm
    refine r_baload (np := 17) G hM g7 rfl dX10_isLetter_16 rfl ?_
    refine r_bipush (np := 19) G 122 dX10_isLetter_17 (by decide) rfl ?_
    refine r_icmp_gt (np := 22) (tgt := 26) G rfl (wIk 122 rfl) dX10_isLetter_19 (by decide) rfl (fun h8 => ?_) (fun h8 => ?_)
    · have hm := b_t h8 hm
      exact wX10_isLetter_B26 l E out G hr hk v0 v1 g0 _ _ _ _ hm hM (lv_sub hl [] rfl)
    · have hm := b_f h8 hm
      refine r_iconst (np := 23) G 1 dX10_isLetter_22 rfl ?_
      refine r_goto (np := 27) G dX10_isLetter_23 (by decide) ?_
      exact r_zret G hr hk hM (Or.inr rfl) hm dX10_isLetter_27
theorem gX10_isLetter {v0 : Nat} {v1 : Int} {σ : mSt} {out : Int × mSt} (hm : mX10_isLetter v0 v1 σ = some out) : isC v0 9 := (g_t hm).1
set_option maxRecDepth 100000 in
set_option maxHeartbeats 4000000 in
theorem wX10_isDigit_B26 (l : Launch) (E : mE) (out : Int × mSt) {p : Program} {e : Env} {s : State} {m : MethodId} {args : Array Value} {below : List Frame} {meth : Method} {c : Code} (G : CallFix p m c cX10_isDigit 2 s args mTs RX10) (hr : meth.sig.returnType = (some .boolean)) (hk : meth.locks = false) (v0 : Nat) (v1 : Int) (g0 : isC v0 9) : ∀ (σ : mSt) (H : Heap) (locs : List Loc) (ls : Array Slot), mX10_isDigit_B26 v0 v1 σ = some out → mM (mA E 276) E 276 σ s H locs → lv_has ls 2 [] → mGo l p e 0 0 s m args below meth c E (some (vI out.1)) out.2 H locs (F0 m 26 ls []) := by
  intro σ H locs ls hm hM hl
  unfold mX10_isDigit_B26 at hm
  refine r_iconst (np := 27) G 0 dX10_isDigit_26 rfl ?_
  exact r_zret G hr hk hM (Or.inl rfl) hm dX10_isDigit_27
set_option maxRecDepth 100000 in
set_option maxHeartbeats 4000000 in
theorem qX10_isDigit (l : Launch) (E : mE) (σ : mSt) (v0 : Nat) (v1 : Int) (out : Int × mSt) (hm : mX10_isDigit v0 v1 σ = some out) : mMet l yX10_isDigit cX10_isDigit 2 (some .boolean) 0 0 E 276 [.ref (eA E v0), vI v1] σ (some (vI out.1)) out.2 := by
  unfold mX10_isDigit at hm
  obtain ⟨g0, hm⟩ := g_t hm
  refine m_entry (by decide +kernel) (Nat.le_of_ble_eq_true rfl) (fun p e s m args below meth c G hr hk hM ls hl => ?_)
  have G : CallFix p m c cX10_isDigit 2 s args mTs RX10 := G
  have hl : lv_has ls 2 [(0, .ref (eA E v0)), (1, vI v1)] := hl
  refine r_aload_n (np := 1) G hl 0 rfl dX10_isDigit_0 rfl rfl ?_
  obtain ⟨r1, e2, hm⟩ := ref_t hm
  refine r_getR (np := 4) G hM (shp_lt g0 (by decide)) g0 e2 fdX10_0 lkX10_9 dX10_isDigit_1 rfl ?_
  refine r_iload_n (np := 5) G hl 1 rfl dX10_isDigit_4 rfl rfl ?_
  obtain ⟨g3, hm⟩ := g_t hm
  refine r_baload (np := 6) G hM g3 rfl dX10_isDigit_5 rfl ?_
  refine r_bipush (np := 8) G 48 dX10_isDigit_6 (by decide) rfl ?_
  refine r_icmp_lt (np := 11) (tgt := 26) G rfl (wIk 48 rfl) dX10_isDigit_8 (by decide) rfl (fun h4 => ?_) (fun h4 => ?_)
  · have hm := b_t h4 hm
    exact wX10_isDigit_B26 l E out G hr hk v0 v1 g0 _ _ _ _ hm hM (lv_sub hl [] rfl)
  · have hm := b_f h4 hm
    refine r_aload_n (np := 12) G hl 0 rfl dX10_isDigit_11 rfl rfl ?_
    obtain ⟨r5, e6, hm⟩ := ref_t hm
    refine r_getR (np := 15) G hM (shp_lt g0 (by decide)) g0 e6 fdX10_0 lkX10_9 dX10_isDigit_12 rfl ?_
    refine r_iload_n (np := 16) G hl 1 rfl dX10_isDigit_15 rfl rfl ?_
    obtain ⟨g7, hm⟩ := g_t hm
    refine r_baload (np := 17) G hM g7 rfl dX10_isDigit_16 rfl ?_
    refine r_bipush (np := 19) G 57 dX10_isDigit_17 (by decide) rfl ?_
    refine r_icmp_gt (np := 22) (tgt := 26) G rfl (wIk 57 rfl) dX10_isDigit_19 (by decide) rfl (fun h8 => ?_) (fun h8 => ?_)
    · have hm := b_t h8 hm
      exact wX10_isDigit_B26 l E out G hr hk v0 v1 g0 _ _ _ _ hm hM (lv_sub hl [] rfl)
    · have hm := b_f h8 hm
      refine r_iconst (np := 23) G 1 dX10_isDigit_22 rfl ?_
      refine r_goto (np := 27) G dX10_isDigit_23 (by decide) ?_
      exact r_zret G hr hk hM (Or.inr rfl) hm dX10_isDigit_27
theorem gX10_isDigit {v0 : Nat} {v1 : Int} {σ : mSt} {out : Int × mSt} (hm : mX10_isDigit v0 v1 σ = some out) : isC v0 9 := (g_t hm).1
set_option maxRecDepth 100000 in
set_option maxHeartbeats 4000000 in
theorem wX10_takeRun_B89 (l : Launch) (E : mE) (out : Int × mSt) {p : Program} {e : Env} {s : State} {m : MethodId} {args : Array Value} {below : List Frame} {meth : Method} {c : Code} (G : CallFix p m c cX10_takeRun 2 s args mTs RX10) (hr : meth.sig.returnType = none) (hk : meth.locks = false) (v0 : Nat) (v1 : Int) (g0 : isC v0 9) : ∀ (t0 : Nat) (σ : mSt) (H : Heap) (locs : List Loc) (ls : Array Slot), mX10_takeRun_B89 v0 v1 t0 σ = some out → mM (mA E 276) E 276 σ s H locs → lv_has ls 2 [(1, vI v1)] → mGo l p e 1 21 s m args below meth c E none out.2 H locs (F0 m 89 ls [.ref (eA E t0)]) := by
  intro t0 σ H locs ls hm hM hl
  unfold mX10_takeRun_B89 at hm
  refine r_iload_n (np := 90) G hl 0 rfl dX10_takeRun_89 rfl rfl ?_
  obtain ⟨g1, hm⟩ := g_t hm
  obtain ⟨s2, e3, hm⟩ := bnd_t hm
  refine r_putI (np := 93) G hM (shp_lt g1 (by decide)) g1 ptX10_4 rfl lkX10_25 s2 e3 dX10_takeRun_90 rfl (fun H locs hM => ?_)
  exact r_vret G hr hk hM hm dX10_takeRun_93
set_option maxRecDepth 100000 in
set_option maxHeartbeats 4000000 in
theorem wX10_takeRun_B64 (l : Launch) (E : mE) (out : Int × mSt) {p : Program} {e : Env} {s : State} {m : MethodId} {args : Array Value} {below : List Frame} {meth : Method} {c : Code} (G : CallFix p m c cX10_takeRun 2 s args mTs RX10) (hr : meth.sig.returnType = none) (hk : meth.locks = false) (v0 : Nat) (v1 : Int) (g0 : isC v0 9) : ∀ (σ : mSt) (H : Heap) (locs : List Loc) (ls : Array Slot), mX10_takeRun_B64 v0 v1 σ = some out → mM (mA E 276) E 276 σ s H locs → lv_has ls 2 [(0, .ref (eA E v0)), (1, vI v1)] → mGo l p e 1 21 s m args below meth c E none out.2 H locs (F0 m 64 ls []) := by
  intro σ H locs ls hm hM hl
  unfold mX10_takeRun_B64 at hm
  refine r_aload_n (np := 65) G hl 0 rfl dX10_takeRun_64 rfl rfl ?_
  refine r_iload_n (np := 66) G hl 1 rfl dX10_takeRun_65 rfl rfl ?_
  refine r_iconst (np := 67) G 1 dX10_takeRun_66 rfl ?_
  refine r_icmp_ne (np := 70) (tgt := 89) G rfl (wIk 1 rfl) dX10_takeRun_67 (by decide) rfl (fun h4 => ?_) (fun h4 => ?_)
  · have hm := b_f h4 hm
    exact wX10_takeRun_B89 l E out G hr hk v0 v1 g0 v0 _ _ _ _ hm hM (lv_sub hl [1] rfl)
  · have hm := b_t h4 hm
    refine r_aload_n (np := 71) G hl 0 rfl dX10_takeRun_70 rfl rfl ?_
    refine r_getI (np := 74) G hM (shp_lt g0 (by decide)) g0 fdX10_3 lkX10_22 dX10_takeRun_71 rfl ?_
    refine r_aload_n (np := 75) G hl 0 rfl dX10_takeRun_74 rfl rfl ?_
    refine r_getI (np := 78) G hM (shp_lt g0 (by decide)) g0 fdX10_2 lkX10_19 dX10_takeRun_75 rfl ?_
    refine r_isub (np := 79) G dX10_takeRun_78 rfl ?_
    refine r_bipush (np := 81) G 10 dX10_takeRun_79 (by decide) rfl ?_
    refine r_icmp_le (np := 84) (tgt := 89) G rfl (wIk 10 rfl) dX10_takeRun_81 (by decide) rfl (fun h5 => ?_) (fun h5 => ?_)
    · have hm := b_t h5 hm
      exact wX10_takeRun_B89 l E out G hr hk v0 v1 g0 v0 _ _ _ _ hm hM (lv_sub hl [1] rfl)
    · have hm := b_f h5 hm
      refine r_bipush (np := 86) G 6 dX10_takeRun_84 (by decide) rfl ?_
      refine r_goto (np := 90) G dX10_takeRun_86 (by decide) ?_
      obtain ⟨s6, e7, hm⟩ := bnd_t hm
      refine r_putI (np := 93) G hM (shp_lt g0 (by decide)) g0 ptX10_4 rfl lkX10_25 s6 e7 dX10_takeRun_90 rfl (fun H locs hM => ?_)
      exact r_vret G hr hk hM hm dX10_takeRun_93
set_option maxRecDepth 100000 in
set_option maxHeartbeats 4000000 in
theorem wX10_takeRun_L10 (l : Launch) (E : mE) (out : Int × mSt) {p : Program} {e : Env} {s : State} {m : MethodId} {args : Array Value} {below : List Frame} {meth : Method} {c : Code} (G : CallFix p m c cX10_takeRun 2 s args mTs RX10) (hr : meth.sig.returnType = none) (hk : meth.locks = false) (v0 : Nat) (v1 : Int) (g0 : isC v0 9) (x64 : mSt → Option (Int × mSt)) (hx64 : ∀ (σ : mSt) (H : Heap) (locs : List Loc) (ls : Array Slot), x64 σ = some out → mM (mA E 276) E 276 σ s H locs → lv_has ls 2 [(0, .ref (eA E v0)), (1, vI v1)] → mGo l p e 1 21 s m args below meth c E none out.2 H locs (F0 m 64 ls [])) : ∀ (n : Nat) (σ : mSt) (H : Heap) (locs : List Loc) (ls : Array Slot), mX10_takeRun_L10 v0 v1 x64 n σ = some out → mM (mA E 276) E 276 σ s H locs → lv_has ls 2 [(0, .ref (eA E v0)), (1, vI v1)] → mGo l p e 1 21 s m args below meth c E none out.2 H locs (F0 m 10 ls []) := by
  intro n
  induction n with
  | zero =>
    intro σ H locs ls hm hM hl
    exact absurd hm (by rw [mX10_takeRun_L10.eq_1]; exact fun h => nomatch h)
  | succ n ih =>
    intro σ H locs ls hm hM hl
    rw [mX10_takeRun_L10.eq_2] at hm
    refine r_aload_n (np := 11) G hl 0 rfl dX10_takeRun_10 rfl rfl ?_
    refine r_getI (np := 14) G hM (shp_lt g0 (by decide)) g0 fdX10_3 lkX10_22 dX10_takeRun_11 rfl ?_
    refine r_aload_n (np := 15) G hl 0 rfl dX10_takeRun_14 rfl rfl ?_
    refine r_getI (np := 18) G hM (shp_lt g0 (by decide)) g0 fdX10_1 lkX10_15 dX10_takeRun_15 rfl ?_
    refine r_icmp_ge (np := 21) (tgt := 64) G rfl rfl dX10_takeRun_18 (by decide) rfl (fun h8 => ?_) (fun h8 => ?_)
    · have hm := b_t h8 hm
      exact hx64 _ _ _ _ hm hM (lv_sub hl [0, 1] rfl)
    · have hm := b_f h8 hm
      refine r_iload_n (np := 22) G hl 1 rfl dX10_takeRun_21 rfl rfl ?_
      refine r_iconst (np := 23) G 1 dX10_takeRun_22 rfl ?_
      refine r_icmp_ne (np := 26) (tgt := 40) G rfl (wIk 1 rfl) dX10_takeRun_23 (by decide) rfl (fun h9 => ?_) (fun h9 => ?_)
      · have hm := b_f h9 hm
        refine r_aload_n (np := 41) G hl 0 rfl dX10_takeRun_40 rfl rfl ?_
        refine r_aload_n (np := 42) G hl 0 rfl dX10_takeRun_41 rfl rfl ?_
        refine r_getI (np := 45) G hM (shp_lt g0 (by decide)) g0 fdX10_3 lkX10_22 dX10_takeRun_42 rfl ?_
        obtain ⟨b10, s11, e12, hm⟩ := call_t hm
        refine m_callVI (np := 48) G hM hl.1 [vI (σ v0 3)] (qX10_isDigit l E σ v0 (σ v0 3) _ e12) myX10_isDigit (shp_lt (gX10_isDigit e12) (by decide)) (gX10_isDigit e12) rfl (by decide) lkX10_39 ⟨Nat.le_of_ble_eq_true rfl, Nat.le_of_ble_eq_true rfl⟩ ⟨Nat.le_of_ble_eq_true rfl, Nat.le_of_ble_eq_true rfl⟩ [] rfl (Nat.le_of_ble_eq_true rfl) dX10_takeRun_45 rfl (fun H locs hM => ?_)
        refine r_if_eq (np := 51) (tgt := 64) G rfl dX10_takeRun_48 (by decide) rfl (fun h13 => ?_) (fun h13 => ?_)
        · have hm := b_t h13 hm
          exact hx64 _ _ _ _ hm hM (lv_sub hl [0, 1] rfl)
        · have hm := b_f h13 hm
          refine r_aload_n (np := 52) G hl 0 rfl dX10_takeRun_51 rfl rfl ?_
          refine r_dup (np := 53) G dX10_takeRun_52 rfl rfl ?_
          refine r_getI (np := 56) G hM (shp_lt g0 (by decide)) g0 fdX10_3 lkX10_22 dX10_takeRun_53 rfl ?_
          refine r_iconst (np := 57) G 1 dX10_takeRun_56 rfl ?_
          refine r_iadd (np := 58) G dX10_takeRun_57 rfl ?_
          obtain ⟨s14, e15, hm⟩ := bnd_t hm
          refine r_putI (np := 61) G hM (shp_lt g0 (by decide)) g0 ptX10_3 rfl lkX10_22 s14 e15 dX10_takeRun_58 rfl (fun H locs hM => ?_)
          refine r_goto (np := 10) G dX10_takeRun_61 (by decide) ?_
          exact ih _ _ _ _ hm hM (lv_sub hl [0, 1] rfl)
      · have hm := b_t h9 hm
        refine r_aload_n (np := 27) G hl 0 rfl dX10_takeRun_26 rfl rfl ?_
        refine r_aload_n (np := 28) G hl 0 rfl dX10_takeRun_27 rfl rfl ?_
        refine r_getI (np := 31) G hM (shp_lt g0 (by decide)) g0 fdX10_3 lkX10_22 dX10_takeRun_28 rfl ?_
        obtain ⟨b16, s17, e18, hm⟩ := call_t hm
        refine m_callVI (np := 34) G hM hl.1 [vI (σ v0 3)] (qX10_isLetter l E σ v0 (σ v0 3) _ e18) myX10_isLetter (shp_lt (gX10_isLetter e18) (by decide)) (gX10_isLetter e18) rfl (by decide) lkX10_31 ⟨Nat.le_of_ble_eq_true rfl, Nat.le_of_ble_eq_true rfl⟩ ⟨Nat.le_of_ble_eq_true rfl, Nat.le_of_ble_eq_true rfl⟩ [] rfl (Nat.le_of_ble_eq_true rfl) dX10_takeRun_31 rfl (fun H locs hM => ?_)
        refine r_if_eq (np := 37) (tgt := 64) G rfl dX10_takeRun_34 (by decide) rfl (fun h19 => ?_) (fun h19 => ?_)
        · have hm := b_t h19 hm
          exact hx64 _ _ _ _ hm hM (lv_sub hl [0, 1] rfl)
        · have hm := b_f h19 hm
          refine r_goto (np := 51) G dX10_takeRun_37 (by decide) ?_
          refine r_aload_n (np := 52) G hl 0 rfl dX10_takeRun_51 rfl rfl ?_
          refine r_dup (np := 53) G dX10_takeRun_52 rfl rfl ?_
          refine r_getI (np := 56) G hM (shp_lt g0 (by decide)) g0 fdX10_3 lkX10_22 dX10_takeRun_53 rfl ?_
          refine r_iconst (np := 57) G 1 dX10_takeRun_56 rfl ?_
          refine r_iadd (np := 58) G dX10_takeRun_57 rfl ?_
          obtain ⟨s20, e21, hm⟩ := bnd_t hm
          refine r_putI (np := 61) G hM (shp_lt g0 (by decide)) g0 ptX10_3 rfl lkX10_22 s20 e21 dX10_takeRun_58 rfl (fun H locs hM => ?_)
          refine r_goto (np := 10) G dX10_takeRun_61 (by decide) ?_
          exact ih _ _ _ _ hm hM (lv_sub hl [0, 1] rfl)
set_option maxRecDepth 100000 in
set_option maxHeartbeats 4000000 in
theorem qX10_takeRun (l : Launch) (E : mE) (σ : mSt) (v0 : Nat) (v1 : Int) (out : Int × mSt) (hm : mX10_takeRun v0 v1 σ = some out) : mMet l yX10_takeRun cX10_takeRun 2 none 1 21 E 276 [.ref (eA E v0), vI v1] σ none out.2 := by
  unfold mX10_takeRun at hm
  obtain ⟨g0, hm⟩ := g_t hm
  refine m_entry (by decide +kernel) (Nat.le_of_ble_eq_true rfl) (fun p e s m args below meth c G hr hk hM ls hl => ?_)
  have G : CallFix p m c cX10_takeRun 2 s args mTs RX10 := G
  have hl : lv_has ls 2 [(0, .ref (eA E v0)), (1, vI v1)] := hl
  refine r_aload_n (np := 1) G hl 0 rfl dX10_takeRun_0 rfl rfl ?_
  refine r_aload_n (np := 2) G hl 0 rfl dX10_takeRun_1 rfl rfl ?_
  refine r_getI (np := 5) G hM (shp_lt g0 (by decide)) g0 fdX10_2 lkX10_19 dX10_takeRun_2 rfl ?_
  refine r_iconst (np := 6) G 1 dX10_takeRun_5 rfl ?_
  refine r_iadd (np := 7) G dX10_takeRun_6 rfl ?_
  obtain ⟨s22, e23, hm⟩ := bnd_t hm
  refine r_putI (np := 10) G hM (shp_lt g0 (by decide)) g0 ptX10_3 rfl lkX10_22 s22 e23 dX10_takeRun_7 rfl (fun H locs hM => ?_)
  exact wX10_takeRun_L10 l E out G hr hk v0 v1 g0 (fun zσ => mX10_takeRun_B64 v0 v1 zσ) (fun zσ zH zl zs zm zM zv => wX10_takeRun_B64 l E out G hr hk v0 v1 g0 zσ zH zl zs zm zM zv) mF _ _ _ _ hm hM (lv_sub hl [0, 1] rfl)
theorem gX10_takeRun {v0 : Nat} {v1 : Int} {σ : mSt} {out : Int × mSt} (hm : mX10_takeRun v0 v1 σ = some out) : isC v0 9 := (g_t hm).1
set_option maxRecDepth 100000 in
set_option maxHeartbeats 4000000 in
theorem qX10_signKind (l : Launch) (E : mE) (σ : mSt) (v0 : Nat) (v1 : Int) (out : Int × mSt) (hm : mX10_signKind v0 v1 σ = some out) : mMet l yX10_signKind cX10_signKind 2 (some .int) 0 0 E 276 [.ref (eA E v0), vI v1] σ (some (vI out.1)) out.2 := by
  unfold mX10_signKind at hm
  obtain ⟨g0, hm⟩ := g_t hm
  refine m_entry (by decide +kernel) (Nat.le_of_ble_eq_true rfl) (fun p e s m args below meth c G hr hk hM ls hl => ?_)
  have G : CallFix p m c cX10_signKind 2 s args mTs RX10 := G
  have hl : lv_has ls 2 [(0, .ref (eA E v0)), (1, vI v1)] := hl
  refine r_iload_n (np := 1) G hl 1 rfl dX10_signKind_0 rfl rfl ?_
  rcases ite_c hm with ⟨h1, hm⟩ | ⟨h1, hm⟩
  · refine r_lsw (tgt := 36) (off := 35) G (by rw [h1]; rfl) rfl dX10_signKind_1 (by decide) ?_
    refine r_iconst (np := 37) G 3 dX10_signKind_36 rfl ?_
    exact r_iret G hr hk hM hm dX10_signKind_37
  ·
    rcases ite_c hm with ⟨h2, hm⟩ | ⟨h2, hm⟩
    · refine r_lsw (tgt := 38) (off := 37) G (by rw [h2]; rfl) rfl dX10_signKind_1 (by decide) ?_
      refine r_iconst (np := 39) G 4 dX10_signKind_38 rfl ?_
      exact r_iret G hr hk hM hm dX10_signKind_39
    ·
      rcases ite_c hm with ⟨h3, hm⟩ | ⟨h3, hm⟩
      · refine r_lsw (tgt := 40) (off := 39) G (by rw [h3]; rfl) rfl dX10_signKind_1 (by decide) ?_
        refine r_iconst (np := 41) G 5 dX10_signKind_40 rfl ?_
        exact r_iret G hr hk hM hm dX10_signKind_41
      ·
        refine r_lsw (tgt := 42) (off := 41) G (lsw_out [(43, 35), (45, 37), (59, 39)] (List.forall_mem_cons.mpr ⟨fun z => h1 z.symm, (List.forall_mem_cons.mpr ⟨fun z => h2 z.symm, (List.forall_mem_cons.mpr ⟨fun z => h3 z.symm, (fun _ h => nomatch h)⟩)⟩)⟩)) rfl dX10_signKind_1 (by decide) ?_
        refine r_bipush (np := 44) G 6 dX10_signKind_42 (by decide) rfl ?_
        exact r_iret G hr hk hM hm dX10_signKind_44
theorem gX10_signKind {v0 : Nat} {v1 : Int} {σ : mSt} {out : Int × mSt} (hm : mX10_signKind v0 v1 σ = some out) : isC v0 9 := (g_t hm).1
set_option maxRecDepth 100000 in
set_option maxHeartbeats 4000000 in
theorem wX10_step_B60 (l : Launch) (E : mE) (out : Int × mSt) {p : Program} {e : Env} {s : State} {m : MethodId} {args : Array Value} {below : List Frame} {meth : Method} {c : Code} (G : CallFix p m c cX10_step 1 s args mTs RX10) (hr : meth.sig.returnType = none) (hk : meth.locks = false) (v0 : Nat) (g0 : isC v0 9) : ∀ (σ : mSt) (H : Heap) (locs : List Loc) (ls : Array Slot), mX10_step_B60 v0 σ = some out → mM (mA E 276) E 276 σ s H locs → lv_has ls 1 [(0, .ref (eA E v0))] → mGo l p e 2 42 s m args below meth c E none out.2 H locs (F0 m 60 ls []) := by
  intro σ H locs ls hm hM hl
  unfold mX10_step_B60 at hm
  refine r_aload_n (np := 61) G hl 0 rfl dX10_step_60 rfl rfl ?_
  refine r_getI (np := 64) G hM (shp_lt g0 (by decide)) g0 fdX10_2 lkX10_19 dX10_step_61 rfl ?_
  refine r_aload_n (np := 65) G hl 0 rfl dX10_step_64 rfl rfl ?_
  refine r_getI (np := 68) G hM (shp_lt g0 (by decide)) g0 fdX10_1 lkX10_15 dX10_step_65 rfl ?_
  refine r_icmp_lt (np := 71) (tgt := 85) G rfl rfl dX10_step_68 (by decide) rfl (fun h1 => ?_) (fun h1 => ?_)
  · have hm := b_t h1 hm
    refine r_aload_n (np := 86) G hl 0 rfl dX10_step_85 rfl rfl ?_
    refine r_aload_n (np := 87) G hl 0 rfl dX10_step_86 rfl rfl ?_
    refine r_getI (np := 90) G hM (shp_lt g0 (by decide)) g0 fdX10_2 lkX10_19 dX10_step_87 rfl ?_
    obtain ⟨b2, s3, e4, hm⟩ := call_t hm
    refine m_callVI (np := 93) G hM hl.1 [vI (σ v0 2)] (qX10_isLetter l E σ v0 (σ v0 2) _ e4) myX10_isLetter (shp_lt (gX10_isLetter e4) (by decide)) (gX10_isLetter e4) rfl (by decide) lkX10_31 ⟨Nat.le_of_ble_eq_true rfl, Nat.le_of_ble_eq_true rfl⟩ ⟨Nat.le_of_ble_eq_true rfl, Nat.le_of_ble_eq_true rfl⟩ [] rfl (Nat.le_of_ble_eq_true rfl) dX10_step_90 rfl (fun H locs hM => ?_)
    refine r_if_eq (np := 96) (tgt := 104) G rfl dX10_step_93 (by decide) rfl (fun h5 => ?_) (fun h5 => ?_)
    · have hm := b_t h5 hm
      refine r_aload_n (np := 105) G hl 0 rfl dX10_step_104 rfl rfl ?_
      refine r_aload_n (np := 106) G hl 0 rfl dX10_step_105 rfl rfl ?_
      refine r_getI (np := 109) G hM (shp_lt g0 (by decide)) g0 fdX10_2 lkX10_19 dX10_step_106 rfl ?_
      obtain ⟨b6, s7, e8, hm⟩ := call_t hm
      refine m_callVI (np := 112) G hM hl.1 [vI (s3 v0 2)] (qX10_isDigit l E s3 v0 (s3 v0 2) _ e8) myX10_isDigit (shp_lt (gX10_isDigit e8) (by decide)) (gX10_isDigit e8) rfl (by decide) lkX10_39 ⟨Nat.le_of_ble_eq_true rfl, Nat.le_of_ble_eq_true rfl⟩ ⟨Nat.le_of_ble_eq_true rfl, Nat.le_of_ble_eq_true rfl⟩ [] rfl (Nat.le_of_ble_eq_true rfl) dX10_step_109 rfl (fun H locs hM => ?_)
      refine r_if_eq (np := 115) (tgt := 123) G rfl dX10_step_112 (by decide) rfl (fun h9 => ?_) (fun h9 => ?_)
      · have hm := b_t h9 hm
        refine r_aload_n (np := 124) G hl 0 rfl dX10_step_123 rfl rfl ?_
        refine r_aload_n (np := 125) G hl 0 rfl dX10_step_124 rfl rfl ?_
        refine r_aload_n (np := 126) G hl 0 rfl dX10_step_125 rfl rfl ?_
        obtain ⟨r10, e11, hm⟩ := ref_t hm
        refine r_getR (np := 129) G hM (shp_lt g0 (by decide)) g0 e11 fdX10_0 lkX10_9 dX10_step_126 rfl ?_
        refine r_aload_n (np := 130) G hl 0 rfl dX10_step_129 rfl rfl ?_
        refine r_getI (np := 133) G hM (shp_lt g0 (by decide)) g0 fdX10_2 lkX10_19 dX10_step_130 rfl ?_
        obtain ⟨g12, hm⟩ := g_t hm
        refine r_baload (np := 134) G hM g12 rfl dX10_step_133 rfl ?_
        obtain ⟨b13, s14, e15, hm⟩ := call_t hm
        refine m_callVI (np := 137) G hM hl.1 [vI (s7 r10 (wI (s7 v0 2)).toNat)] (qX10_signKind l E s7 v0 (s7 r10 (wI (s7 v0 2)).toNat) _ e15) myX10_signKind (shp_lt (gX10_signKind e15) (by decide)) (gX10_signKind e15) rfl (by decide) lkX10_42 ⟨Nat.le_of_ble_eq_true rfl, Nat.le_of_ble_eq_true rfl⟩ ⟨Nat.le_of_ble_eq_true rfl, Nat.le_of_ble_eq_true rfl⟩ [.ref (eA E v0)] rfl (Nat.le_of_ble_eq_true rfl) dX10_step_134 rfl (fun H locs hM => ?_)
        obtain ⟨s16, e17, hm⟩ := bnd_t hm
        refine r_putI (np := 140) G hM (shp_lt g0 (by decide)) g0 ptX10_4 rfl lkX10_25 s16 e17 dX10_step_137 rfl (fun H locs hM => ?_)
        refine r_aload_n (np := 141) G hl 0 rfl dX10_step_140 rfl rfl ?_
        refine r_aload_n (np := 142) G hl 0 rfl dX10_step_141 rfl rfl ?_
        refine r_getI (np := 145) G hM (shp_lt g0 (by decide)) g0 fdX10_2 lkX10_19 dX10_step_142 rfl ?_
        refine r_iconst (np := 146) G 1 dX10_step_145 rfl ?_
        refine r_iadd (np := 147) G dX10_step_146 rfl ?_
        obtain ⟨s18, e19, hm⟩ := bnd_t hm
        refine r_putI (np := 150) G hM (shp_lt g0 (by decide)) g0 ptX10_3 rfl lkX10_22 s18 e19 dX10_step_147 rfl (fun H locs hM => ?_)
        exact r_vret G hr hk hM hm dX10_step_150
      · have hm := b_f h9 hm
        refine r_aload_n (np := 116) G hl 0 rfl dX10_step_115 rfl rfl ?_
        refine r_iconst (np := 117) G 2 dX10_step_116 rfl ?_
        obtain ⟨b20, s21, e22, hm⟩ := call_t hm
        refine m_callVV (np := 120) G hM hl.1 [vI 2] (qX10_takeRun l E s7 v0 2 _ e22) myX10_takeRun (shp_lt (gX10_takeRun e22) (by decide)) (gX10_takeRun e22) rfl (by decide) lkX10_35 ⟨Nat.le_of_ble_eq_true rfl, Nat.le_of_ble_eq_true rfl⟩ ⟨Nat.le_of_ble_eq_true rfl, Nat.le_of_ble_eq_true rfl⟩ [] rfl (Nat.le_of_ble_eq_true rfl) dX10_step_117 rfl (fun H locs hM => ?_)
        refine r_goto (np := 150) G dX10_step_120 (by decide) ?_
        exact r_vret G hr hk hM hm dX10_step_150
    · have hm := b_f h5 hm
      refine r_aload_n (np := 97) G hl 0 rfl dX10_step_96 rfl rfl ?_
      refine r_iconst (np := 98) G 1 dX10_step_97 rfl ?_
      obtain ⟨b23, s24, e25, hm⟩ := call_t hm
      refine m_callVV (np := 101) G hM hl.1 [vI 1] (qX10_takeRun l E s3 v0 1 _ e25) myX10_takeRun (shp_lt (gX10_takeRun e25) (by decide)) (gX10_takeRun e25) rfl (by decide) lkX10_35 ⟨Nat.le_of_ble_eq_true rfl, Nat.le_of_ble_eq_true rfl⟩ ⟨Nat.le_of_ble_eq_true rfl, Nat.le_of_ble_eq_true rfl⟩ [] rfl (Nat.le_of_ble_eq_true rfl) dX10_step_98 rfl (fun H locs hM => ?_)
      refine r_goto (np := 150) G dX10_step_101 (by decide) ?_
      exact r_vret G hr hk hM hm dX10_step_150
  · have hm := b_f h1 hm
    refine r_aload_n (np := 72) G hl 0 rfl dX10_step_71 rfl rfl ?_
    refine r_iconst (np := 73) G 0 dX10_step_72 rfl ?_
    obtain ⟨s26, e27, hm⟩ := bnd_t hm
    refine r_putI (np := 76) G hM (shp_lt g0 (by decide)) g0 ptX10_4 rfl lkX10_25 s26 e27 dX10_step_73 rfl (fun H locs hM => ?_)
    refine r_aload_n (np := 77) G hl 0 rfl dX10_step_76 rfl rfl ?_
    refine r_aload_n (np := 78) G hl 0 rfl dX10_step_77 rfl rfl ?_
    refine r_getI (np := 81) G hM (shp_lt g0 (by decide)) g0 fdX10_2 lkX10_19 dX10_step_78 rfl ?_
    obtain ⟨s28, e29, hm⟩ := bnd_t hm
    refine r_putI (np := 84) G hM (shp_lt g0 (by decide)) g0 ptX10_3 rfl lkX10_22 s28 e29 dX10_step_81 rfl (fun H locs hM => ?_)
    exact r_vret G hr hk hM hm dX10_step_84
set_option maxRecDepth 100000 in
set_option maxHeartbeats 4000000 in
theorem wX10_step_L8 (l : Launch) (E : mE) (out : Int × mSt) {p : Program} {e : Env} {s : State} {m : MethodId} {args : Array Value} {below : List Frame} {meth : Method} {c : Code} (G : CallFix p m c cX10_step 1 s args mTs RX10) (hr : meth.sig.returnType = none) (hk : meth.locks = false) (v0 : Nat) (g0 : isC v0 9) (x60 : mSt → Option (Int × mSt)) (hx60 : ∀ (σ : mSt) (H : Heap) (locs : List Loc) (ls : Array Slot), x60 σ = some out → mM (mA E 276) E 276 σ s H locs → lv_has ls 1 [(0, .ref (eA E v0))] → mGo l p e 2 42 s m args below meth c E none out.2 H locs (F0 m 60 ls [])) : ∀ (n : Nat) (σ : mSt) (H : Heap) (locs : List Loc) (ls : Array Slot), mX10_step_L8 v0 x60 n σ = some out → mM (mA E 276) E 276 σ s H locs → lv_has ls 1 [(0, .ref (eA E v0))] → mGo l p e 2 42 s m args below meth c E none out.2 H locs (F0 m 8 ls []) := by
  intro n
  induction n with
  | zero =>
    intro σ H locs ls hm hM hl
    exact absurd hm (by rw [mX10_step_L8.eq_1]; exact fun h => nomatch h)
  | succ n ih =>
    intro σ H locs ls hm hM hl
    rw [mX10_step_L8.eq_2] at hm
    refine r_aload_n (np := 9) G hl 0 rfl dX10_step_8 rfl rfl ?_
    refine r_getI (np := 12) G hM (shp_lt g0 (by decide)) g0 fdX10_2 lkX10_19 dX10_step_9 rfl ?_
    refine r_aload_n (np := 13) G hl 0 rfl dX10_step_12 rfl rfl ?_
    refine r_getI (np := 16) G hM (shp_lt g0 (by decide)) g0 fdX10_1 lkX10_15 dX10_step_13 rfl ?_
    refine r_icmp_ge (np := 19) (tgt := 60) G rfl rfl dX10_step_16 (by decide) rfl (fun h30 => ?_) (fun h30 => ?_)
    · have hm := b_t h30 hm
      exact hx60 _ _ _ _ hm hM (lv_sub hl [0] rfl)
    · have hm := b_f h30 hm
      refine r_aload_n (np := 20) G hl 0 rfl dX10_step_19 rfl rfl ?_
      obtain ⟨r31, e32, hm⟩ := ref_t hm
      refine r_getR (np := 23) G hM (shp_lt g0 (by decide)) g0 e32 fdX10_0 lkX10_9 dX10_step_20 rfl ?_
      refine r_aload_n (np := 24) G hl 0 rfl dX10_step_23 rfl rfl ?_
      refine r_getI (np := 27) G hM (shp_lt g0 (by decide)) g0 fdX10_2 lkX10_19 dX10_step_24 rfl ?_
      obtain ⟨g33, hm⟩ := g_t hm
      refine r_baload (np := 28) G hM g33 rfl dX10_step_27 rfl ?_
      refine r_bipush (np := 30) G 32 dX10_step_28 (by decide) rfl ?_
      refine r_icmp_eq (np := 33) (tgt := 47) G rfl (wIk 32 rfl) dX10_step_30 (by decide) rfl (fun h34 => ?_) (fun h34 => ?_)
      · have hm := b_t h34 hm
        refine r_aload_n (np := 48) G hl 0 rfl dX10_step_47 rfl rfl ?_
        refine r_dup (np := 49) G dX10_step_48 rfl rfl ?_
        refine r_getI (np := 52) G hM (shp_lt g0 (by decide)) g0 fdX10_2 lkX10_19 dX10_step_49 rfl ?_
        refine r_iconst (np := 53) G 1 dX10_step_52 rfl ?_
        refine r_iadd (np := 54) G dX10_step_53 rfl ?_
        obtain ⟨s35, e36, hm⟩ := bnd_t hm
        refine r_putI (np := 57) G hM (shp_lt g0 (by decide)) g0 ptX10_2 rfl lkX10_19 s35 e36 dX10_step_54 rfl (fun H locs hM => ?_)
        refine r_goto (np := 8) G dX10_step_57 (by decide) ?_
        exact ih _ _ _ _ hm hM (lv_sub hl [0] rfl)
      · have hm := b_f h34 hm
        refine r_aload_n (np := 34) G hl 0 rfl dX10_step_33 rfl rfl ?_
        obtain ⟨r37, e38, hm⟩ := ref_t hm
        refine r_getR (np := 37) G hM (shp_lt g0 (by decide)) g0 e38 fdX10_0 lkX10_9 dX10_step_34 rfl ?_
        refine r_aload_n (np := 38) G hl 0 rfl dX10_step_37 rfl rfl ?_
        refine r_getI (np := 41) G hM (shp_lt g0 (by decide)) g0 fdX10_2 lkX10_19 dX10_step_38 rfl ?_
        obtain ⟨g39, hm⟩ := g_t hm
        refine r_baload (np := 42) G hM g39 rfl dX10_step_41 rfl ?_
        refine r_bipush (np := 44) G 10 dX10_step_42 (by decide) rfl ?_
        refine r_icmp_ne (np := 47) (tgt := 60) G rfl (wIk 10 rfl) dX10_step_44 (by decide) rfl (fun h40 => ?_) (fun h40 => ?_)
        · have hm := b_f h40 hm
          exact hx60 _ _ _ _ hm hM (lv_sub hl [0] rfl)
        · have hm := b_t h40 hm
          refine r_aload_n (np := 48) G hl 0 rfl dX10_step_47 rfl rfl ?_
          refine r_dup (np := 49) G dX10_step_48 rfl rfl ?_
          refine r_getI (np := 52) G hM (shp_lt g0 (by decide)) g0 fdX10_2 lkX10_19 dX10_step_49 rfl ?_
          refine r_iconst (np := 53) G 1 dX10_step_52 rfl ?_
          refine r_iadd (np := 54) G dX10_step_53 rfl ?_
          obtain ⟨s41, e42, hm⟩ := bnd_t hm
          refine r_putI (np := 57) G hM (shp_lt g0 (by decide)) g0 ptX10_2 rfl lkX10_19 s41 e42 dX10_step_54 rfl (fun H locs hM => ?_)
          refine r_goto (np := 8) G dX10_step_57 (by decide) ?_
          exact ih _ _ _ _ hm hM (lv_sub hl [0] rfl)
set_option maxRecDepth 100000 in
set_option maxHeartbeats 4000000 in
theorem qX10_step (l : Launch) (E : mE) (σ : mSt) (v0 : Nat) (out : Int × mSt) (hm : mX10_step v0 σ = some out) : mMet l yX10_step cX10_step 1 none 2 42 E 276 [.ref (eA E v0)] σ none out.2 := by
  unfold mX10_step at hm
  obtain ⟨g0, hm⟩ := g_t hm
  refine m_entry (by decide +kernel) (Nat.le_of_ble_eq_true rfl) (fun p e s m args below meth c G hr hk hM ls hl => ?_)
  have G : CallFix p m c cX10_step 1 s args mTs RX10 := G
  have hl : lv_has ls 1 [(0, .ref (eA E v0))] := hl
  refine r_aload_n (np := 1) G hl 0 rfl dX10_step_0 rfl rfl ?_
  refine r_aload_n (np := 2) G hl 0 rfl dX10_step_1 rfl rfl ?_
  refine r_getI (np := 5) G hM (shp_lt g0 (by decide)) g0 fdX10_3 lkX10_22 dX10_step_2 rfl ?_
  obtain ⟨s43, e44, hm⟩ := bnd_t hm
  refine r_putI (np := 8) G hM (shp_lt g0 (by decide)) g0 ptX10_2 rfl lkX10_19 s43 e44 dX10_step_5 rfl (fun H locs hM => ?_)
  exact wX10_step_L8 l E out G hr hk v0 g0 (fun zσ => mX10_step_B60 v0 zσ) (fun zσ zH zl zs zm zM zv => wX10_step_B60 l E out G hr hk v0 g0 zσ zH zl zs zm zM zv) mF _ _ _ _ hm hM (lv_sub hl [0] rfl)
theorem gX10_step {v0 : Nat} {σ : mSt} {out : Int × mSt} (hm : mX10_step v0 σ = some out) : isC v0 9 := (g_t hm).1
set_option maxRecDepth 100000 in
set_option maxHeartbeats 4000000 in
theorem wX10_begin_B18 (l : Launch) (E : mE) (out : Int × mSt) {p : Program} {e : Env} {s : State} {m : MethodId} {args : Array Value} {below : List Frame} {meth : Method} {c : Code} (G : CallFix p m c cX10_begin 3 s args mTs RX10) (hr : meth.sig.returnType = none) (hk : meth.locks = false) (v0 : Nat) (v1 : Nat) (v2 : Int) (g0 : isC v0 9) : ∀ (t0 : Nat) (t1 : Int) (σ : mSt) (H : Heap) (locs : List Loc) (ls : Array Slot), mX10_begin_B18 v0 v1 v2 t0 t1 σ = some out → mM (mA E 276) E 276 σ s H locs → lv_has ls 3 [(0, .ref (eA E v0))] → mGo l p e 3 62 s m args below meth c E none out.2 H locs (F0 m 18 ls [vI t1, .ref (eA E t0)]) := by
  intro t0 t1 σ H locs ls hm hM hl
  unfold mX10_begin_B18 at hm
  obtain ⟨g1, hm⟩ := g_t hm
  obtain ⟨s2, e3, hm⟩ := bnd_t hm
  refine r_putI (np := 21) G hM (shp_lt g1 (by decide)) g1 ptX10_1 rfl lkX10_15 s2 e3 dX10_begin_18 rfl (fun H locs hM => ?_)
  refine r_aload_n (np := 22) G hl 0 rfl dX10_begin_21 rfl rfl ?_
  refine r_iconst (np := 23) G 0 dX10_begin_22 rfl ?_
  obtain ⟨s4, e5, hm⟩ := bnd_t hm
  refine r_putI (np := 26) G hM (shp_lt g0 (by decide)) g0 ptX10_3 rfl lkX10_22 s4 e5 dX10_begin_23 rfl (fun H locs hM => ?_)
  refine r_aload_n (np := 27) G hl 0 rfl dX10_begin_26 rfl rfl ?_
  obtain ⟨b6, s7, e8, hm⟩ := call_t hm
  refine m_callVV (np := 30) G hM hl.1 [] (qX10_step l E s4 v0 _ e8) myX10_step (shp_lt (gX10_step e8) (by decide)) (gX10_step e8) rfl (by decide) lkX10_28 ⟨Nat.le_of_ble_eq_true rfl, Nat.le_of_ble_eq_true rfl⟩ ⟨Nat.le_of_ble_eq_true rfl, Nat.le_of_ble_eq_true rfl⟩ [] rfl (Nat.le_of_ble_eq_true rfl) dX10_begin_27 rfl (fun H locs hM => ?_)
  exact r_vret G hr hk hM hm dX10_begin_30
set_option maxRecDepth 100000 in
set_option maxHeartbeats 4000000 in
theorem qX10_begin (l : Launch) (E : mE) (σ : mSt) (v0 : Nat) (v1 : Nat) (v2 : Int) (out : Int × mSt) (hm : mX10_begin v0 v1 v2 σ = some out) : mMet l yX10_begin cX10_begin 3 none 3 62 E 276 [.ref (eA E v0), .ref (eA E v1), vI v2] σ none out.2 := by
  unfold mX10_begin at hm
  obtain ⟨g0, hm⟩ := g_t hm
  refine m_entry (by decide +kernel) (Nat.le_of_ble_eq_true rfl) (fun p e s m args below meth c G hr hk hM ls hl => ?_)
  have G : CallFix p m c cX10_begin 3 s args mTs RX10 := G
  have hl : lv_has ls 3 [(0, .ref (eA E v0)), (1, .ref (eA E v1)), (2, vI v2)] := hl
  refine r_aload_n (np := 1) G hl 0 rfl dX10_begin_0 rfl rfl ?_
  refine r_aload_n (np := 2) G hl 1 rfl dX10_begin_1 rfl rfl ?_
  obtain ⟨g9, hm⟩ := g_t hm
  obtain ⟨s10, e11, hm⟩ := bnd_t hm
  refine r_putR (np := 5) G hM (shp_lt g0 (by decide)) g0 ptX10_0 rfl lkX10_9 g9 (fun _ => rfl) (fun _ => rfl) s10 e11 dX10_begin_2 rfl (fun H locs hM => ?_)
  refine r_aload_n (np := 6) G hl 0 rfl dX10_begin_5 rfl rfl ?_
  refine r_iload_n (np := 7) G hl 2 rfl dX10_begin_6 rfl rfl ?_
  refine r_aload_n (np := 8) G hl 1 rfl dX10_begin_7 rfl rfl ?_
  obtain ⟨g12, hm⟩ := g_t hm
  refine r_alen (np := 9) G hM g12 dX10_begin_8 rfl ?_
  refine r_icmp_ge (np := 12) (tgt := 16) G rfl rfl dX10_begin_9 (by decide) rfl (fun h13 => ?_) (fun h13 => ?_)
  · have hm := b_t h13 hm
    refine r_aload_n (np := 17) G hl 1 rfl dX10_begin_16 rfl rfl ?_
    refine r_alen (np := 18) G hM g12 dX10_begin_17 rfl ?_
    exact wX10_begin_B18 l E out G hr hk v0 v1 v2 g0 v0 ((shp v1).2 : Int) _ _ _ _ hm hM (lv_sub hl [0] rfl)
  · have hm := b_f h13 hm
    refine r_iload_n (np := 13) G hl 2 rfl dX10_begin_12 rfl rfl ?_
    refine r_goto (np := 18) G dX10_begin_13 (by decide) ?_
    exact wX10_begin_B18 l E out G hr hk v0 v1 v2 g0 v0 v2 _ _ _ _ hm hM (lv_sub hl [0] rfl)
theorem gX10_begin {v0 : Nat} {v1 : Nat} {v2 : Int} {σ : mSt} {out : Int × mSt} (hm : mX10_begin v0 v1 v2 σ = some out) : isC v0 9 := (g_t hm).1
set_option maxRecDepth 100000 in
set_option maxHeartbeats 4000000 in
theorem qX10_start (l : Launch) (E : mE) (σ : mSt) (v0 : Nat) (out : Int × mSt) (hm : mX10_start v0 σ = some out) : mMet l yX10_start cX10_start 1 (some .int) 0 0 E 276 [.ref (eA E v0)] σ (some (vI out.1)) out.2 := by
  unfold mX10_start at hm
  obtain ⟨g0, hm⟩ := g_t hm
  refine m_entry (by decide +kernel) (Nat.le_of_ble_eq_true rfl) (fun p e s m args below meth c G hr hk hM ls hl => ?_)
  have G : CallFix p m c cX10_start 1 s args mTs RX10 := G
  have hl : lv_has ls 1 [(0, .ref (eA E v0))] := hl
  refine r_aload_n (np := 1) G hl 0 rfl dX10_start_0 rfl rfl ?_
  refine r_getI (np := 4) G hM (shp_lt g0 (by decide)) g0 fdX10_2 lkX10_19 dX10_start_1 rfl ?_
  exact r_iret G hr hk hM hm dX10_start_4
theorem gX10_start {v0 : Nat} {σ : mSt} {out : Int × mSt} (hm : mX10_start v0 σ = some out) : isC v0 9 := (g_t hm).1
set_option maxRecDepth 100000 in
set_option maxHeartbeats 4000000 in
theorem qX8_refuse (l : Launch) (E : mE) (σ : mSt) (v0 : Nat) (v1 : Int) (out : Int × mSt) (hm : mX8_refuse v0 v1 σ = some out) : mMet l yX8_refuse cX8_refuse 2 (some .boolean) 1 20 E 276 [.ref (eA E v0), vI v1] σ (some (vI out.1)) out.2 := by
  unfold mX8_refuse at hm
  obtain ⟨g0, hm⟩ := g_t hm
  refine m_entry (by decide +kernel) (Nat.le_of_ble_eq_true rfl) (fun p e s m args below meth c G hr hk hM ls hl => ?_)
  have G : CallFix p m c cX8_refuse 2 s args mTs RX8 := G
  have hl : lv_has ls 2 [(0, .ref (eA E v0)), (1, vI v1)] := hl
  refine r_aload_n (np := 1) G hl 0 rfl dX8_refuse_0 rfl rfl ?_
  refine r_bipush (np := 3) G 8 dX8_refuse_1 (by decide) rfl ?_
  refine r_aload_n (np := 4) G hl 0 rfl dX8_refuse_3 rfl rfl ?_
  obtain ⟨r1, e2, hm⟩ := ref_t hm
  refine r_getR (np := 7) G hM (shp_lt g0 (by decide)) g0 e2 fdX8_0 lkX8_12 dX8_refuse_4 rfl ?_
  obtain ⟨b3, s4, e5, hm⟩ := call_t hm
  refine m_callVI (np := 10) G hM hl.1 [] (qX10_start l E σ r1 _ e5) myX10_start (shp_lt (gX10_start e5) (by decide)) (gX10_start e5) rfl (by decide) lkX8_48 ⟨Nat.le_of_ble_eq_true rfl, Nat.le_of_ble_eq_true rfl⟩ ⟨Nat.le_of_ble_eq_true rfl, Nat.le_of_ble_eq_true rfl⟩ [vI 8, .ref (eA E v0)] rfl (Nat.le_of_ble_eq_true rfl) dX8_refuse_7 rfl (fun H locs hM => ?_)
  refine r_imul (np := 11) G dX8_refuse_10 rfl ?_
  refine r_iload_n (np := 12) G hl 1 rfl dX8_refuse_11 rfl rfl ?_
  refine r_iadd (np := 13) G dX8_refuse_12 rfl ?_
  obtain ⟨s6, e7, hm⟩ := bnd_t hm
  refine r_putI (np := 16) G hM (shp_lt g0 (by decide)) g0 ptX8_2 rfl lkX8_25 s6 e7 dX8_refuse_13 rfl (fun H locs hM => ?_)
  refine r_iconst (np := 17) G 0 dX8_refuse_16 rfl ?_
  exact r_zret G hr hk hM (Or.inl rfl) hm dX8_refuse_17
theorem gX8_refuse {v0 : Nat} {v1 : Int} {σ : mSt} {out : Int × mSt} (hm : mX8_refuse v0 v1 σ = some out) : isC v0 7 := (g_t hm).1
set_option maxRecDepth 100000 in
set_option maxHeartbeats 4000000 in
theorem qX10_is (l : Launch) (E : mE) (σ : mSt) (v0 : Nat) (v1 : Int) (out : Int × mSt) (hm : mX10_is v0 v1 σ = some out) : mMet l yX10_is cX10_is 2 (some .boolean) 0 0 E 276 [.ref (eA E v0), vI v1] σ (some (vI out.1)) out.2 := by
  unfold mX10_is at hm
  obtain ⟨g0, hm⟩ := g_t hm
  refine m_entry (by decide +kernel) (Nat.le_of_ble_eq_true rfl) (fun p e s m args below meth c G hr hk hM ls hl => ?_)
  have G : CallFix p m c cX10_is 2 s args mTs RX10 := G
  have hl : lv_has ls 2 [(0, .ref (eA E v0)), (1, vI v1)] := hl
  refine r_aload_n (np := 1) G hl 0 rfl dX10_is_0 rfl rfl ?_
  refine r_getI (np := 4) G hM (shp_lt g0 (by decide)) g0 fdX10_4 lkX10_25 dX10_is_1 rfl ?_
  refine r_iload_n (np := 5) G hl 1 rfl dX10_is_4 rfl rfl ?_
  refine r_icmp_ne (np := 8) (tgt := 12) G rfl rfl dX10_is_5 (by decide) rfl (fun h1 => ?_) (fun h1 => ?_)
  · have hm := b_f h1 hm
    refine r_iconst (np := 13) G 0 dX10_is_12 rfl ?_
    exact r_zret G hr hk hM (Or.inl rfl) hm dX10_is_13
  · have hm := b_t h1 hm
    refine r_iconst (np := 9) G 1 dX10_is_8 rfl ?_
    refine r_goto (np := 13) G dX10_is_9 (by decide) ?_
    exact r_zret G hr hk hM (Or.inr rfl) hm dX10_is_13
theorem gX10_is {v0 : Nat} {v1 : Int} {σ : mSt} {out : Int × mSt} (hm : mX10_is v0 v1 σ = some out) : isC v0 9 := (g_t hm).1
