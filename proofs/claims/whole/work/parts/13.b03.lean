theorem lkX10_48 : Cond.constantLong RX10 48 (10) ∈ mTs := mTs_in 594 (by decide +kernel) (by decide +kernel)
theorem lkX10_50 : Cond.constantLong RX10 50 (1000000) ∈ mTs := mTs_in 595 (by decide +kernel) (by decide +kernel)
theorem lkX10_52 : Cond.methodLink RX10 52 yJ9_min_f86c9 ∈ mTs := mTs_in 596 (by decide +kernel) (by decide +kernel)
theorem myJ9_min_f86c9 : mYS yJ9_min_f86c9 cJ9_min_f86c9 4 (some .long) 2 := ⟨⟨mTs_in 598 (by decide +kernel) (by decide +kernel), mTs_in 132 (by decide +kernel) (by decide +kernel), ⟨by decide, by decide⟩, by decide +kernel⟩, mTs_in 597 (by decide +kernel) (by decide +kernel)⟩
theorem lkX8_29 : Cond.fieldLink RX8 29 (TX8 3).1 (TX8 3).2.1 (TX8 3).2.2.1 ∈ mTs := mTs_in 214 (by decide +kernel) (by decide +kernel)
theorem fdX8_3 : mFld 7 3 1 4 RX8 TX8 := ⟨rfl, inX8, by decide, rfl, by decide⟩
theorem ptX8_3 : mPut 7 3 1 4 RX8 TX8 tyX8 .long := ⟨fdX8_3, tyX8_ok, nmX8, (by decide +kernel), rfl⟩
theorem lkX8_61 : Cond.methodLink RX8 61 yX10_step ∈ mTs := mTs_in 553 (by decide +kernel) (by decide +kernel)
theorem lkX8_55 : Cond.methodLink RX8 55 yX8_refuse ∈ mTs := mTs_in 541 (by decide +kernel) (by decide +kernel)
theorem myX8_refuse : mYV yX8_refuse cX8_refuse 2 (some .boolean) 1 := ⟨⟨mTs_in 544 (by decide +kernel) (by decide +kernel), mTs_in 117 (by decide +kernel) (by decide +kernel), ⟨by decide, by decide⟩, by decide +kernel⟩, mTs_in 543 (by decide +kernel) (by decide +kernel), mTs_in 7 (by decide +kernel) (by decide +kernel)⟩
theorem lkX8_44 : Cond.methodLink RX8 44 yX10_is ∈ mTs := mTs_in 586 (by decide +kernel) (by decide +kernel)
theorem myX10_is : mYV yX10_is cX10_is 2 (some .boolean) 1 := ⟨⟨mTs_in 589 (by decide +kernel) (by decide +kernel), mTs_in 118 (by decide +kernel) (by decide +kernel), ⟨by decide, by decide⟩, by decide +kernel⟩, mTs_in 587 (by decide +kernel) (by decide +kernel), mTs_in 588 (by decide +kernel) (by decide +kernel)⟩
theorem lkX8_100 : Cond.methodLink RX8 100 yX10_value ∈ mTs := mTs_in 590 (by decide +kernel) (by decide +kernel)
theorem myX10_value : mYV yX10_value cX10_value 4 (some .long) 0 := ⟨⟨mTs_in 593 (by decide +kernel) (by decide +kernel), mTs_in 118 (by decide +kernel) (by decide +kernel), ⟨by decide, by decide⟩, by decide +kernel⟩, mTs_in 591 (by decide +kernel) (by decide +kernel), mTs_in 592 (by decide +kernel) (by decide +kernel)⟩
theorem lkX8_120 : Cond.methodLink RX8 120 yX5_isSquareFree ∈ mTs := mTs_in 599 (by decide +kernel) (by decide +kernel)
theorem myX5_isSquareFree : mYS yX5_isSquareFree cX5_isSquareFree 3 (some .boolean) 1 := ⟨⟨mTs_in 601 (by decide +kernel) (by decide +kernel), mTs_in 133 (by decide +kernel) (by decide +kernel), ⟨by decide, by decide⟩, by decide +kernel⟩, mTs_in 600 (by decide +kernel) (by decide +kernel)⟩
theorem lkX8_89 : Cond.methodLink RX8 89 yX8_readWhole ∈ mTs := mTs_in 582 (by decide +kernel) (by decide +kernel)
theorem myX8_readWhole : mYV yX8_readWhole cX8_readWhole 6 (some .boolean) 2 := ⟨⟨mTs_in 585 (by decide +kernel) (by decide +kernel), mTs_in 117 (by decide +kernel) (by decide +kernel), ⟨by decide, by decide⟩, by decide +kernel⟩, mTs_in 584 (by decide +kernel) (by decide +kernel), mTs_in 11 (by decide +kernel) (by decide +kernel)⟩
theorem lkX8_21 : Cond.fieldLink RX8 21 (TX8 1).1 (TX8 1).2.1 (TX8 1).2.2.1 ∈ mTs := mTs_in 212 (by decide +kernel) (by decide +kernel)
theorem fdX8_1 : mFld 7 1 2 4 RX8 TX8 := ⟨rfl, inX8, by decide, rfl, by decide⟩
theorem lkX8_93 : Cond.methodLink RX8 93 yX0_setFirst ∈ mTs := mTs_in 602 (by decide +kernel) (by decide +kernel)
theorem myX0_setFirst : mYV yX0_setFirst cX0_setFirst 3 none 1 := ⟨⟨mTs_in 605 (by decide +kernel) (by decide +kernel), mTs_in 119 (by decide +kernel) (by decide +kernel), ⟨by decide, by decide⟩, by decide +kernel⟩, mTs_in 603 (by decide +kernel) (by decide +kernel), mTs_in 604 (by decide +kernel) (by decide +kernel)⟩
theorem lkX8_97 : Cond.methodLink RX8 97 yX0_setSecond ∈ mTs := mTs_in 606 (by decide +kernel) (by decide +kernel)
theorem myX0_setSecond : mYV yX0_setSecond cX0_setSecond 3 none 1 := ⟨⟨mTs_in 609 (by decide +kernel) (by decide +kernel), mTs_in 119 (by decide +kernel) (by decide +kernel), ⟨by decide, by decide⟩, by decide +kernel⟩, mTs_in 607 (by decide +kernel) (by decide +kernel), mTs_in 608 (by decide +kernel) (by decide +kernel)⟩
theorem lkX8_108 : Cond.constantLong RX8 108 (7) ∈ mTs := mTs_in 618 (by decide +kernel) (by decide +kernel)
theorem lkX8_110 : Cond.constantLong RX8 110 (13) ∈ mTs := mTs_in 619 (by decide +kernel) (by decide +kernel)
theorem lkX8_112 : Cond.constantLong RX8 112 (19) ∈ mTs := mTs_in 620 (by decide +kernel) (by decide +kernel)
theorem lkX8_114 : Cond.constantLong RX8 114 (31) ∈ mTs := mTs_in 621 (by decide +kernel) (by decide +kernel)
theorem lkX8_116 : Cond.constantLong RX8 116 (37) ∈ mTs := mTs_in 622 (by decide +kernel) (by decide +kernel)
theorem lkX8_118 : Cond.constantLong RX8 118 (43) ∈ mTs := mTs_in 623 (by decide +kernel) (by decide +kernel)
theorem lkX8_104 : Cond.methodLink RX8 104 yX8_isField ∈ mTs := mTs_in 614 (by decide +kernel) (by decide +kernel)
theorem myX8_isField : mYV yX8_isField cX8_isField 3 (some .boolean) 1 := ⟨⟨mTs_in 617 (by decide +kernel) (by decide +kernel), mTs_in 117 (by decide +kernel) (by decide +kernel), ⟨by decide, by decide⟩, by decide +kernel⟩, mTs_in 616 (by decide +kernel) (by decide +kernel), mTs_in 13 (by decide +kernel) (by decide +kernel)⟩
theorem lkX9_22 : Cond.fieldLink RX9 22 (TX9 4).1 (TX9 4).2.1 (TX9 4).2.2.1 ∈ mTs := mTs_in 334 (by decide +kernel) (by decide +kernel)
theorem inX9 : ∀ w ∈ u_ws RX9 TX9 5, w ∈ mTs := mTs_ins _ [335, 337, 339, 341, 343] (by decide +kernel) (by decide +kernel)
theorem fdX9_4 : mFld 8 4 1 5 RX9 TX9 := ⟨rfl, inX9, by decide, rfl, by decide⟩
theorem ptX9_4 : mPut 8 4 1 5 RX9 TX9 tyX9 .long := ⟨fdX9_4, tyX9_ok, nmX9, (by decide +kernel), rfl⟩
theorem lkX9_19 : Cond.fieldLink RX9 19 (TX9 3).1 (TX9 3).2.1 (TX9 3).2.2.1 ∈ mTs := mTs_in 333 (by decide +kernel) (by decide +kernel)
theorem fdX9_3 : mFld 8 3 1 5 RX9 TX9 := ⟨rfl, inX9, by decide, rfl, by decide⟩
theorem lkX9_25 : Cond.constantLong RX9 25 (7) ∈ mTs := mTs_in 891 (by decide +kernel) (by decide +kernel)
theorem lkX9_7 : Cond.fieldLink RX9 7 (TX9 0).1 (TX9 0).2.1 (TX9 0).2.2.1 ∈ mTs := mTs_in 330 (by decide +kernel) (by decide +kernel)
theorem fdX9_0 : mFld 8 0 1 5 RX9 TX9 := ⟨rfl, inX9, by decide, rfl, by decide⟩
theorem lkX9_13 : Cond.fieldLink RX9 13 (TX9 1).1 (TX9 1).2.1 (TX9 1).2.2.1 ∈ mTs := mTs_in 331 (by decide +kernel) (by decide +kernel)
theorem fdX9_1 : mFld 8 1 1 5 RX9 TX9 := ⟨rfl, inX9, by decide, rfl, by decide⟩
theorem lkX9_27 : Cond.methodLink RX9 27 yX5_root ∈ mTs := mTs_in 892 (by decide +kernel) (by decide +kernel)
theorem lkX9_16 : Cond.fieldLink RX9 16 (TX9 2).1 (TX9 2).2.1 (TX9 2).2.2.1 ∈ mTs := mTs_in 332 (by decide +kernel) (by decide +kernel)
theorem fdX9_2 : mFld 8 2 1 5 RX9 TX9 := ⟨rfl, inX9, by decide, rfl, by decide⟩
theorem ptX9_2 : mPut 8 2 1 5 RX9 TX9 tyX9 .long := ⟨fdX9_2, tyX9_ok, nmX9, (by decide +kernel), rfl⟩
theorem ptX9_3 : mPut 8 3 1 5 RX9 TX9 tyX9 .long := ⟨fdX9_3, tyX9_ok, nmX9, (by decide +kernel), rfl⟩
theorem ptX9_0 : mPut 8 0 1 5 RX9 TX9 tyX9 .long := ⟨fdX9_0, tyX9_ok, nmX9, (by decide +kernel), rfl⟩
theorem ptX9_1 : mPut 8 1 1 5 RX9 TX9 tyX9 .long := ⟨fdX9_1, tyX9_ok, nmX9, (by decide +kernel), rfl⟩
theorem lkX9_33 : Cond.methodLink RX9 33 yX9_plainEntry ∈ mTs := mTs_in 1261 (by decide +kernel) (by decide +kernel)
theorem myX9_plainEntry : mYV yX9_plainEntry cX9_plainEntry 4 (some .long) 3 := ⟨⟨mTs_in 1264 (by decide +kernel) (by decide +kernel), mTs_in 124 (by decide +kernel) (by decide +kernel), ⟨by decide, by decide⟩, by decide +kernel⟩, mTs_in 1263 (by decide +kernel) (by decide +kernel), mTs_in 52 (by decide +kernel) (by decide +kernel)⟩
theorem lkX11_13 : Cond.fieldLink RX11 13 (TX11 1).1 (TX11 1).2.1 (TX11 1).2.2.1 ∈ mTs := mTs_in 390 (by decide +kernel) (by decide +kernel)
theorem inX11 : ∀ w ∈ u_ws RX11 TX11 12, w ∈ mTs := mTs_ins _ [401, 403, 405, 407, 409, 411, 413, 415, 417, 419, 421, 423] (by decide +kernel) (by decide +kernel)
theorem fdX11_1 : mFld 10 1 0 12 RX11 TX11 := ⟨rfl, inX11, by decide, rfl, by decide⟩
theorem lkX11_9 : Cond.fieldLink RX11 9 (TX11 0).1 (TX11 0).2.1 (TX11 0).2.2.1 ∈ mTs := mTs_in 389 (by decide +kernel) (by decide +kernel)
theorem fdX11_0 : mFld 10 0 2 12 RX11 TX11 := ⟨rfl, inX11, by decide, rfl, by decide⟩
theorem ptX11_1 : mPut 10 1 0 12 RX11 TX11 tyX11 .int := ⟨fdX11_1, tyX11_ok, nmX11, (by decide +kernel), rfl⟩
theorem lkX11_80 : Cond.methodLink RX11 80 yX11_putBytes ∈ mTs := mTs_in 430 (by decide +kernel) (by decide +kernel)
theorem myX11_putBytes : mYV yX11_putBytes cX11_putBytes 3 none 1 := ⟨⟨mTs_in 433 (by decide +kernel) (by decide +kernel), mTs_in 116 (by decide +kernel) (by decide +kernel), ⟨by decide, by decide⟩, by decide +kernel⟩, mTs_in 432 (by decide +kernel) (by decide +kernel), mTs_in 0 (by decide +kernel) (by decide +kernel)⟩
theorem lkX11_27 : Cond.fieldLink RX11 27 (TX11 3).1 (TX11 3).2.1 (TX11 3).2.2.1 ∈ mTs := mTs_in 392 (by decide +kernel) (by decide +kernel)
theorem fdX11_3 : mFld 10 3 2 12 RX11 TX11 := ⟨rfl, inX11, by decide, rfl, by decide⟩
theorem lkX11_91 : Cond.methodLink RX11 91 yX0_size ∈ mTs := mTs_in 750 (by decide +kernel) (by decide +kernel)
theorem lkX11_117 : Cond.methodLink RX11 117 yX11_isTold ∈ mTs := mTs_in 746 (by decide +kernel) (by decide +kernel)
theorem myX11_isTold : mYV yX11_isTold cX11_isTold 2 (some .boolean) 1 := ⟨⟨mTs_in 749 (by decide +kernel) (by decide +kernel), mTs_in 116 (by decide +kernel) (by decide +kernel), ⟨by decide, by decide⟩, by decide +kernel⟩, mTs_in 748 (by decide +kernel) (by decide +kernel), mTs_in 27 (by decide +kernel) (by decide +kernel)⟩
theorem lkX11_123 : Cond.methodLink RX11 123 yX0_kind ∈ mTs := mTs_in 751 (by decide +kernel) (by decide +kernel)
theorem lkX11_102 : Cond.methodLink RX11 102 yX11_isQuaternion ∈ mTs := mTs_in 742 (by decide +kernel) (by decide +kernel)
theorem myX11_isQuaternion : mYV yX11_isQuaternion cX11_isQuaternion 2 (some .boolean) 1 := ⟨⟨mTs_in 745 (by decide +kernel) (by decide +kernel), mTs_in 116 (by decide +kernel) (by decide +kernel), ⟨by decide, by decide⟩, by decide +kernel⟩, mTs_in 744 (by decide +kernel) (by decide +kernel), mTs_in 26 (by decide +kernel) (by decide +kernel)⟩
theorem lkX11_49 : Cond.fieldLink RX11 49 (TX11 7).1 (TX11 7).2.1 (TX11 7).2.2.1 ∈ mTs := mTs_in 396 (by decide +kernel) (by decide +kernel)
theorem fdX11_7 : mFld 10 7 2 12 RX11 TX11 := ⟨rfl, inX11, by decide, rfl, by decide⟩
theorem lkX11_106 : Cond.methodLink RX11 106 yX0_first ∈ mTs := mTs_in 752 (by decide +kernel) (by decide +kernel)
theorem lkX11_110 : Cond.methodLink RX11 110 yX0_second ∈ mTs := mTs_in 753 (by decide +kernel) (by decide +kernel)
theorem lkX11_113 : Cond.methodLink RX11 113 yX6_begin ∈ mTs := mTs_in 754 (by decide +kernel) (by decide +kernel)
theorem myX6_begin : mYV yX6_begin cX6_begin 5 none 2 := ⟨⟨mTs_in 757 (by decide +kernel) (by decide +kernel), mTs_in 122 (by decide +kernel) (by decide +kernel), ⟨by decide, by decide⟩, by decide +kernel⟩, mTs_in 755 (by decide +kernel) (by decide +kernel), mTs_in 756 (by decide +kernel) (by decide +kernel)⟩
theorem lkX11_43 : Cond.fieldLink RX11 43 (TX11 6).1 (TX11 6).2.1 (TX11 6).2.2.1 ∈ mTs := mTs_in 395 (by decide +kernel) (by decide +kernel)
theorem fdX11_6 : mFld 10 6 2 12 RX11 TX11 := ⟨rfl, inX11, by decide, rfl, by decide⟩
theorem lkX11_99 : Cond.methodLink RX11 99 yX1_drop ∈ mTs := mTs_in 738 (by decide +kernel) (by decide +kernel)
theorem myX1_drop : mYV yX1_drop cX1_drop 1 none 0 := ⟨⟨mTs_in 741 (by decide +kernel) (by decide +kernel), mTs_in 126 (by decide +kernel) (by decide +kernel), ⟨by decide, by decide⟩, by decide +kernel⟩, mTs_in 739 (by decide +kernel) (by decide +kernel), mTs_in 740 (by decide +kernel) (by decide +kernel)⟩
theorem lkX11_37 : Cond.fieldLink RX11 37 (TX11 5).1 (TX11 5).2.1 (TX11 5).2.2.1 ∈ mTs := mTs_in 394 (by decide +kernel) (by decide +kernel)
theorem fdX11_5 : mFld 10 5 2 12 RX11 TX11 := ⟨rfl, inX11, by decide, rfl, by decide⟩
theorem lkX11_95 : Cond.methodLink RX11 95 yX7_reckon ∈ mTs := mTs_in 649 (by decide +kernel) (by decide +kernel)
theorem myX7_reckon : mYV yX7_reckon cX7_reckon 3 none 1 := ⟨⟨mTs_in 652 (by decide +kernel) (by decide +kernel), mTs_in 120 (by decide +kernel) (by decide +kernel), ⟨by decide, by decide⟩, by decide +kernel⟩, mTs_in 650 (by decide +kernel) (by decide +kernel), mTs_in 651 (by decide +kernel) (by decide +kernel)⟩
theorem lkX11_135 : Cond.methodLink RX11 135 yX7_sixthsAt ∈ mTs := mTs_in 771 (by decide +kernel) (by decide +kernel)
theorem myX7_sixthsAt : mYV yX7_sixthsAt cX7_sixthsAt 4 (some .int) 2 := ⟨⟨mTs_in 774 (by decide +kernel) (by decide +kernel), mTs_in 120 (by decide +kernel) (by decide +kernel), ⟨by decide, by decide⟩, by decide +kernel⟩, mTs_in 772 (by decide +kernel) (by decide +kernel), mTs_in 773 (by decide +kernel) (by decide +kernel)⟩
theorem lkX11_129 : Cond.constant RX11 129 (60000) ∈ mTs := mTs_in 766 (by decide +kernel) (by decide +kernel)
theorem lkX11_130 : Cond.methodLink RX11 130 yX5_isPrime ∈ mTs := mTs_in 767 (by decide +kernel) (by decide +kernel)
theorem myX5_isPrime : mYS yX5_isPrime cX5_isPrime 2 (some .boolean) 1 := ⟨⟨mTs_in 769 (by decide +kernel) (by decide +kernel), mTs_in 133 (by decide +kernel) (by decide +kernel), ⟨by decide, by decide⟩, by decide +kernel⟩, mTs_in 768 (by decide +kernel) (by decide +kernel)⟩
theorem lkX11_142 : Cond.methodLink RX11 142 yX7_placeOf ∈ mTs := mTs_in 783 (by decide +kernel) (by decide +kernel)
theorem myX7_placeOf : mYV yX7_placeOf cX7_placeOf 5 (some .int) 2 := ⟨⟨mTs_in 786 (by decide +kernel) (by decide +kernel), mTs_in 120 (by decide +kernel) (by decide +kernel), ⟨by decide, by decide⟩, by decide +kernel⟩, mTs_in 784 (by decide +kernel) (by decide +kernel), mTs_in 785 (by decide +kernel) (by decide +kernel)⟩
theorem lkX11_139 : Cond.methodLink RX11 139 yX7_howMany ∈ mTs := mTs_in 779 (by decide +kernel) (by decide +kernel)
theorem myX7_howMany : mYV yX7_howMany cX7_howMany 4 (some .int) 1 := ⟨⟨mTs_in 782 (by decide +kernel) (by decide +kernel), mTs_in 120 (by decide +kernel) (by decide +kernel), ⟨by decide, by decide⟩, by decide +kernel⟩, mTs_in 780 (by decide +kernel) (by decide +kernel), mTs_in 781 (by decide +kernel) (by decide +kernel)⟩
theorem lkX11_145 : Cond.methodLink RX11 145 yX7_indexOf ∈ mTs := mTs_in 791 (by decide +kernel) (by decide +kernel)
theorem myX7_indexOf : mYV yX7_indexOf cX7_indexOf 5 (some .int) 1 := ⟨⟨mTs_in 794 (by decide +kernel) (by decide +kernel), mTs_in 120 (by decide +kernel) (by decide +kernel), ⟨by decide, by decide⟩, by decide +kernel⟩, mTs_in 792 (by decide +kernel) (by decide +kernel), mTs_in 793 (by decide +kernel) (by decide +kernel)⟩
theorem lkX11_148 : Cond.methodLink RX11 148 yX7_areAlike ∈ mTs := mTs_in 805 (by decide +kernel) (by decide +kernel)
theorem myX7_areAlike : mYV yX7_areAlike cX7_areAlike 5 (some .boolean) 2 := ⟨⟨mTs_in 808 (by decide +kernel) (by decide +kernel), mTs_in 120 (by decide +kernel) (by decide +kernel), ⟨by decide, by decide⟩, by decide +kernel⟩, mTs_in 806 (by decide +kernel) (by decide +kernel), mTs_in 807 (by decide +kernel) (by decide +kernel)⟩
theorem lkX11_74 : Cond.fieldLink RX11 74 (TX11 11).1 (TX11 11).2.1 (TX11 11).2.2.1 ∈ mTs := mTs_in 400 (by decide +kernel) (by decide +kernel)
theorem fdX11_11 : mFld 10 11 2 12 RX11 TX11 := ⟨rfl, inX11, by decide, rfl, by decide⟩
theorem lkX11_203 : Cond.methodLink RX11 203 yX1_take ∈ mTs := mTs_in 825 (by decide +kernel) (by decide +kernel)
theorem myX1_take : mYV yX1_take cX1_take 9 (some .boolean) 3 := ⟨⟨mTs_in 828 (by decide +kernel) (by decide +kernel), mTs_in 126 (by decide +kernel) (by decide +kernel), ⟨by decide, by decide⟩, by decide +kernel⟩, mTs_in 826 (by decide +kernel) (by decide +kernel), mTs_in 827 (by decide +kernel) (by decide +kernel)⟩
theorem lkX11_152 : Cond.methodLink RX11 152 yX11_isSlot ∈ mTs := mTs_in 817 (by decide +kernel) (by decide +kernel)
theorem myX11_isSlot : mYV yX11_isSlot cX11_isSlot 2 (some .boolean) 1 := ⟨⟨mTs_in 820 (by decide +kernel) (by decide +kernel), mTs_in 116 (by decide +kernel) (by decide +kernel), ⟨by decide, by decide⟩, by decide +kernel⟩, mTs_in 819 (by decide +kernel) (by decide +kernel), mTs_in 28 (by decide +kernel) (by decide +kernel)⟩
theorem lkX11_155 : Cond.methodLink RX11 155 yX11_keep ∈ mTs := mTs_in 821 (by decide +kernel) (by decide +kernel)
theorem myX11_keep : mYV yX11_keep cX11_keep 5 (some .int) 3 := ⟨⟨mTs_in 824 (by decide +kernel) (by decide +kernel), mTs_in 116 (by decide +kernel) (by decide +kernel), ⟨by decide, by decide⟩, by decide +kernel⟩, mTs_in 823 (by decide +kernel) (by decide +kernel), mTs_in 29 (by decide +kernel) (by decide +kernel)⟩
theorem lkX11_199 : Cond.methodLink RX11 199 yX1_isThere ∈ mTs := mTs_in 841 (by decide +kernel) (by decide +kernel)
theorem myX1_isThere : mYV yX1_isThere cX1_isThere 1 (some .boolean) 0 := ⟨⟨mTs_in 844 (by decide +kernel) (by decide +kernel), mTs_in 126 (by decide +kernel) (by decide +kernel), ⟨by decide, by decide⟩, by decide +kernel⟩, mTs_in 842 (by decide +kernel) (by decide +kernel), mTs_in 843 (by decide +kernel) (by decide +kernel)⟩
theorem lkX11_165 : Cond.fieldLinkNest RX11 165 (TX1 2).1 (TX1 2).2.1 (TX1 2).2.2.1 "MiddleAlgebras" ∈ mTs := mTs_in 380 (by decide +kernel) (by decide +kernel)
theorem lkX11_168 : Cond.fieldLinkNest RX11 168 (TX1 1).1 (TX1 1).2.1 (TX1 1).2.2.1 "MiddleAlgebras" ∈ mTs := mTs_in 378 (by decide +kernel) (by decide +kernel)
theorem lkX11_162 : Cond.fieldLinkNest RX11 162 (TX1 0).1 (TX1 0).2.1 (TX1 0).2.2.1 "MiddleAlgebras" ∈ mTs := mTs_in 374 (by decide +kernel) (by decide +kernel)
theorem lkX11_159 : Cond.methodLink RX11 159 yX11_isKept ∈ mTs := mTs_in 837 (by decide +kernel) (by decide +kernel)
theorem myX11_isKept : mYV yX11_isKept cX11_isKept 2 (some .boolean) 1 := ⟨⟨mTs_in 840 (by decide +kernel) (by decide +kernel), mTs_in 116 (by decide +kernel) (by decide +kernel), ⟨by decide, by decide⟩, by decide +kernel⟩, mTs_in 839 (by decide +kernel) (by decide +kernel), mTs_in 30 (by decide +kernel) (by decide +kernel)⟩
theorem lkX11_172 : Cond.methodLink RX11 172 yX11_isPair ∈ mTs := mTs_in 849 (by decide +kernel) (by decide +kernel)
theorem myX11_isPair : mYV yX11_isPair cX11_isPair 3 (some .boolean) 2 := ⟨⟨mTs_in 852 (by decide +kernel) (by decide +kernel), mTs_in 116 (by decide +kernel) (by decide +kernel), ⟨by decide, by decide⟩, by decide +kernel⟩, mTs_in 851 (by decide +kernel) (by decide +kernel), mTs_in 31 (by decide +kernel) (by decide +kernel)⟩
theorem lkX11_175 : Cond.methodLink RX11 175 yX1_multiply ∈ mTs := mTs_in 853 (by decide +kernel) (by decide +kernel)
theorem lkX11_179 : Cond.methodLink RX11 179 yX1_reflect ∈ mTs := mTs_in 864 (by decide +kernel) (by decide +kernel)
theorem myX1_reflect : mYS yX1_reflect cX1_reflect 5 none 3 := ⟨⟨mTs_in 866 (by decide +kernel) (by decide +kernel), mTs_in 126 (by decide +kernel) (by decide +kernel), ⟨by decide, by decide⟩, by decide +kernel⟩, mTs_in 865 (by decide +kernel) (by decide +kernel)⟩
theorem lkX11_207 : Cond.methodLink RX11 207 yX1_form ∈ mTs := mTs_in 875 (by decide +kernel) (by decide +kernel)
theorem dX10_value_0 : decode cX10_value 0 = .ok (.lconst 0, 1) := by decide +kernel
theorem dX10_value_1 : decode cX10_value 1 = .ok (.lstore_n 1, 1) := by decide +kernel
theorem dX10_value_2 : decode cX10_value 2 = .ok (.aload_n 0, 1) := by decide +kernel
theorem dX10_value_3 : decode cX10_value 3 = .ok (.getfield 19, 3) := by decide +kernel
theorem dX10_value_6 : decode cX10_value 6 = .ok (.istore_n 3, 1) := by decide +kernel
theorem dX10_value_7 : decode cX10_value 7 = .ok (.iload_n 3, 1) := by decide +kernel
theorem dX10_value_8 : decode cX10_value 8 = .ok (.aload_n 0, 1) := by decide +kernel
theorem dX10_value_9 : decode cX10_value 9 = .ok (.getfield 22, 3) := by decide +kernel
theorem dX10_value_12 : decode cX10_value 12 = .ok (.if_icmp .ge 40, 3) := by decide +kernel
theorem dX10_value_15 : decode cX10_value 15 = .ok (.aload_n 0, 1) := by decide +kernel
theorem dX10_value_16 : decode cX10_value 16 = .ok (.getfield 25, 3) := by decide +kernel
theorem dX10_value_19 : decode cX10_value 19 = .ok (.iconst 2, 1) := by decide +kernel
theorem dX10_value_20 : decode cX10_value 20 = .ok (.if_icmp .ne 32, 3) := by decide +kernel
theorem dX10_value_23 : decode cX10_value 23 = .ok (.lload_n 1, 1) := by decide +kernel
theorem dX10_value_24 : decode cX10_value 24 = .ok (.ldc2_w 48, 3) := by decide +kernel
theorem dX10_value_27 : decode cX10_value 27 = .ok (.lmul, 1) := by decide +kernel
theorem dX10_value_28 : decode cX10_value 28 = .ok (.aload_n 0, 1) := by decide +kernel
theorem dX10_value_29 : decode cX10_value 29 = .ok (.getfield 9, 3) := by decide +kernel
theorem dX10_value_32 : decode cX10_value 32 = .ok (.iload_n 3, 1) := by decide +kernel
theorem dX10_value_33 : decode cX10_value 33 = .ok (.baload, 1) := by decide +kernel
theorem dX10_value_34 : decode cX10_value 34 = .ok (.bipush 48, 2) := by decide +kernel
theorem dX10_value_36 : decode cX10_value 36 = .ok (.isub, 1) := by decide +kernel
theorem dX10_value_37 : decode cX10_value 37 = .ok (.i2l, 1) := by decide +kernel
theorem dX10_value_38 : decode cX10_value 38 = .ok (.ladd, 1) := by decide +kernel
theorem dX10_value_39 : decode cX10_value 39 = .ok (.ldc2_w 50, 3) := by decide +kernel
theorem dX10_value_42 : decode cX10_value 42 = .ok (.invokestatic 52, 3) := by decide +kernel
theorem dX10_value_45 : decode cX10_value 45 = .ok (.lstore_n 1, 1) := by decide +kernel
theorem dX10_value_46 : decode cX10_value 46 = .ok (.iinc 3 1, 3) := by decide +kernel
theorem dX10_value_49 : decode cX10_value 49 = .ok (.goto (-42), 3) := by decide +kernel
theorem dX10_value_52 : decode cX10_value 52 = .ok (.lload_n 1, 1) := by decide +kernel
theorem dX10_value_53 : decode cX10_value 53 = .ok (.lreturn, 1) := by decide +kernel
theorem dX8_readWhole_0 : decode cX8_readWhole 0 = .ok (.aload_n 0, 1) := by decide +kernel
theorem dX8_readWhole_1 : decode cX8_readWhole 1 = .ok (.getfield 12, 3) := by decide +kernel
theorem dX8_readWhole_4 : decode cX8_readWhole 4 = .ok (.iconst 4, 1) := by decide +kernel
theorem dX8_readWhole_5 : decode cX8_readWhole 5 = .ok (.invokevirtual 44, 3) := by decide +kernel
theorem dX8_readWhole_8 : decode cX8_readWhole 8 = .ok (.istore_n 3, 1) := by decide +kernel
theorem dX8_readWhole_9 : decode cX8_readWhole 9 = .ok (.iload_n 3, 1) := by decide +kernel
theorem dX8_readWhole_10 : decode cX8_readWhole 10 = .ok (.ifCond .eq 10, 3) := by decide +kernel
theorem dX8_readWhole_13 : decode cX8_readWhole 13 = .ok (.aload_n 0, 1) := by decide +kernel
theorem dX8_readWhole_14 : decode cX8_readWhole 14 = .ok (.getfield 12, 3) := by decide +kernel
theorem dX8_readWhole_17 : decode cX8_readWhole 17 = .ok (.invokevirtual 61, 3) := by decide +kernel
theorem dX8_readWhole_20 : decode cX8_readWhole 20 = .ok (.aload_n 0, 1) := by decide +kernel
theorem dX8_readWhole_21 : decode cX8_readWhole 21 = .ok (.getfield 12, 3) := by decide +kernel
theorem dX8_readWhole_24 : decode cX8_readWhole 24 = .ok (.iconst 2, 1) := by decide +kernel
theorem dX8_readWhole_25 : decode cX8_readWhole 25 = .ok (.invokevirtual 44, 3) := by decide +kernel
theorem dX8_readWhole_28 : decode cX8_readWhole 28 = .ok (.ifCond .ne 9, 3) := by decide +kernel
theorem dX8_readWhole_31 : decode cX8_readWhole 31 = .ok (.aload_n 0, 1) := by decide +kernel
theorem dX8_readWhole_32 : decode cX8_readWhole 32 = .ok (.iconst 1, 1) := by decide +kernel
theorem dX8_readWhole_33 : decode cX8_readWhole 33 = .ok (.invokevirtual 55, 3) := by decide +kernel
theorem dX8_readWhole_36 : decode cX8_readWhole 36 = .ok (.ireturn, 1) := by decide +kernel
theorem dX8_readWhole_37 : decode cX8_readWhole 37 = .ok (.aload_n 0, 1) := by decide +kernel
theorem dX8_readWhole_38 : decode cX8_readWhole 38 = .ok (.getfield 12, 3) := by decide +kernel
theorem dX8_readWhole_41 : decode cX8_readWhole 41 = .ok (.invokevirtual 100, 3) := by decide +kernel
theorem dX8_readWhole_44 : decode cX8_readWhole 44 = .ok (.lstore 4, 2) := by decide +kernel
theorem dX8_readWhole_46 : decode cX8_readWhole 46 = .ok (.lload 4, 2) := by decide +kernel
theorem dX8_readWhole_48 : decode cX8_readWhole 48 = .ok (.lconst 0, 1) := by decide +kernel
theorem dX8_readWhole_49 : decode cX8_readWhole 49 = .ok (.lcmp, 1) := by decide +kernel
theorem dX8_readWhole_50 : decode cX8_readWhole 50 = .ok (.ifCond .eq 23, 3) := by decide +kernel
theorem dX8_readWhole_53 : decode cX8_readWhole 53 = .ok (.lload 4, 2) := by decide +kernel
theorem dX8_readWhole_55 : decode cX8_readWhole 55 = .ok (.iload_n 1, 1) := by decide +kernel
theorem dX8_readWhole_56 : decode cX8_readWhole 56 = .ok (.i2l, 1) := by decide +kernel
theorem dX8_readWhole_57 : decode cX8_readWhole 57 = .ok (.lcmp, 1) := by decide +kernel
theorem dX8_readWhole_58 : decode cX8_readWhole 58 = .ok (.ifCond .gt 15, 3) := by decide +kernel
theorem dX8_readWhole_61 : decode cX8_readWhole 61 = .ok (.iload_n 2, 1) := by decide +kernel
theorem dX8_readWhole_62 : decode cX8_readWhole 62 = .ok (.ifCond .eq 17, 3) := by decide +kernel
theorem dX8_readWhole_65 : decode cX8_readWhole 65 = .ok (.lload 4, 2) := by decide +kernel
theorem dX8_readWhole_67 : decode cX8_readWhole 67 = .ok (.invokestatic 120, 3) := by decide +kernel
theorem dX8_readWhole_70 : decode cX8_readWhole 70 = .ok (.ifCond .ne 9, 3) := by decide +kernel
theorem dX8_readWhole_73 : decode cX8_readWhole 73 = .ok (.aload_n 0, 1) := by decide +kernel
theorem dX8_readWhole_74 : decode cX8_readWhole 74 = .ok (.iconst 4, 1) := by decide +kernel
theorem dX8_readWhole_75 : decode cX8_readWhole 75 = .ok (.invokevirtual 55, 3) := by decide +kernel
theorem dX8_readWhole_78 : decode cX8_readWhole 78 = .ok (.ireturn, 1) := by decide +kernel
theorem dX8_readWhole_79 : decode cX8_readWhole 79 = .ok (.aload_n 0, 1) := by decide +kernel
theorem dX8_readWhole_80 : decode cX8_readWhole 80 = .ok (.iload_n 3, 1) := by decide +kernel
theorem dX8_readWhole_81 : decode cX8_readWhole 81 = .ok (.ifCond .eq 9, 3) := by decide +kernel
theorem dX8_readWhole_84 : decode cX8_readWhole 84 = .ok (.lload 4, 2) := by decide +kernel
theorem dX8_readWhole_86 : decode cX8_readWhole 86 = .ok (.lneg, 1) := by decide +kernel
theorem dX8_readWhole_87 : decode cX8_readWhole 87 = .ok (.goto 5, 3) := by decide +kernel
theorem dX8_readWhole_90 : decode cX8_readWhole 90 = .ok (.lload 4, 2) := by decide +kernel
theorem dX8_readWhole_92 : decode cX8_readWhole 92 = .ok (.putfield 29, 3) := by decide +kernel
theorem dX8_readWhole_95 : decode cX8_readWhole 95 = .ok (.aload_n 0, 1) := by decide +kernel
theorem dX8_readWhole_96 : decode cX8_readWhole 96 = .ok (.getfield 12, 3) := by decide +kernel
theorem dX8_readWhole_99 : decode cX8_readWhole 99 = .ok (.invokevirtual 61, 3) := by decide +kernel
theorem dX8_readWhole_102 : decode cX8_readWhole 102 = .ok (.iconst 1, 1) := by decide +kernel
theorem dX8_readWhole_103 : decode cX8_readWhole 103 = .ok (.ireturn, 1) := by decide +kernel
theorem dX8_readSides_0 : decode cX8_readSides 0 = .ok (.aload_n 0, 1) := by decide +kernel
theorem dX8_readSides_1 : decode cX8_readSides 1 = .ok (.bipush 60, 2) := by decide +kernel
theorem dX8_readSides_3 : decode cX8_readSides 3 = .ok (.iconst 1, 1) := by decide +kernel
theorem dX8_readSides_4 : decode cX8_readSides 4 = .ok (.invokevirtual 89, 3) := by decide +kernel
theorem dX8_readSides_7 : decode cX8_readSides 7 = .ok (.ifCond .ne 5, 3) := by decide +kernel
theorem dX8_readSides_10 : decode cX8_readSides 10 = .ok (.iconst 0, 1) := by decide +kernel
theorem dX8_readSides_11 : decode cX8_readSides 11 = .ok (.ireturn, 1) := by decide +kernel
theorem dX8_readSides_12 : decode cX8_readSides 12 = .ok (.aload_n 0, 1) := by decide +kernel
theorem dX8_readSides_13 : decode cX8_readSides 13 = .ok (.getfield 21, 3) := by decide +kernel
theorem dX8_readSides_16 : decode cX8_readSides 16 = .ok (.aload_n 0, 1) := by decide +kernel
theorem dX8_readSides_17 : decode cX8_readSides 17 = .ok (.getfield 29, 3) := by decide +kernel
theorem dX8_readSides_20 : decode cX8_readSides 20 = .ok (.invokevirtual 93, 3) := by decide +kernel
theorem dX8_readSides_23 : decode cX8_readSides 23 = .ok (.aload_n 0, 1) := by decide +kernel
theorem dX8_readSides_24 : decode cX8_readSides 24 = .ok (.bipush 60, 2) := by decide +kernel
theorem dX8_readSides_26 : decode cX8_readSides 26 = .ok (.iconst 1, 1) := by decide +kernel
theorem dX8_readSides_27 : decode cX8_readSides 27 = .ok (.invokevirtual 89, 3) := by decide +kernel
theorem dX8_readSides_30 : decode cX8_readSides 30 = .ok (.ifCond .ne 5, 3) := by decide +kernel
theorem dX8_readSides_33 : decode cX8_readSides 33 = .ok (.iconst 0, 1) := by decide +kernel
theorem dX8_readSides_34 : decode cX8_readSides 34 = .ok (.ireturn, 1) := by decide +kernel
theorem dX8_readSides_35 : decode cX8_readSides 35 = .ok (.aload_n 0, 1) := by decide +kernel
theorem dX8_readSides_36 : decode cX8_readSides 36 = .ok (.getfield 21, 3) := by decide +kernel
theorem dX8_readSides_39 : decode cX8_readSides 39 = .ok (.aload_n 0, 1) := by decide +kernel
theorem dX8_readSides_40 : decode cX8_readSides 40 = .ok (.getfield 29, 3) := by decide +kernel
theorem dX8_readSides_43 : decode cX8_readSides 43 = .ok (.invokevirtual 97, 3) := by decide +kernel
theorem dX8_readSides_46 : decode cX8_readSides 46 = .ok (.iconst 1, 1) := by decide +kernel
theorem dX8_readSides_47 : decode cX8_readSides 47 = .ok (.ireturn, 1) := by decide +kernel
theorem dX8_isField_0 : decode cX8_isField 0 = .ok (.lload_n 1, 1) := by decide +kernel
theorem dX8_isField_1 : decode cX8_isField 1 = .ok (.ldc2_w 108, 3) := by decide +kernel
theorem dX8_isField_4 : decode cX8_isField 4 = .ok (.lcmp, 1) := by decide +kernel
theorem dX8_isField_5 : decode cX8_isField 5 = .ok (.ifCond .eq 43, 3) := by decide +kernel
theorem dX8_isField_8 : decode cX8_isField 8 = .ok (.lload_n 1, 1) := by decide +kernel
theorem dX8_isField_9 : decode cX8_isField 9 = .ok (.ldc2_w 110, 3) := by decide +kernel
theorem dX8_isField_12 : decode cX8_isField 12 = .ok (.lcmp, 1) := by decide +kernel
theorem dX8_isField_13 : decode cX8_isField 13 = .ok (.ifCond .eq 35, 3) := by decide +kernel
theorem dX8_isField_16 : decode cX8_isField 16 = .ok (.lload_n 1, 1) := by decide +kernel
theorem dX8_isField_17 : decode cX8_isField 17 = .ok (.ldc2_w 112, 3) := by decide +kernel
theorem dX8_isField_20 : decode cX8_isField 20 = .ok (.lcmp, 1) := by decide +kernel
theorem dX8_isField_21 : decode cX8_isField 21 = .ok (.ifCond .eq 27, 3) := by decide +kernel
theorem dX8_isField_24 : decode cX8_isField 24 = .ok (.lload_n 1, 1) := by decide +kernel
theorem dX8_isField_25 : decode cX8_isField 25 = .ok (.ldc2_w 114, 3) := by decide +kernel
theorem dX8_isField_28 : decode cX8_isField 28 = .ok (.lcmp, 1) := by decide +kernel
theorem dX8_isField_29 : decode cX8_isField 29 = .ok (.ifCond .eq 19, 3) := by decide +kernel
theorem dX8_isField_32 : decode cX8_isField 32 = .ok (.lload_n 1, 1) := by decide +kernel
theorem dX8_isField_33 : decode cX8_isField 33 = .ok (.ldc2_w 116, 3) := by decide +kernel
theorem dX8_isField_36 : decode cX8_isField 36 = .ok (.lcmp, 1) := by decide +kernel
theorem dX8_isField_37 : decode cX8_isField 37 = .ok (.ifCond .eq 11, 3) := by decide +kernel
theorem dX8_isField_40 : decode cX8_isField 40 = .ok (.lload_n 1, 1) := by decide +kernel
theorem dX8_isField_41 : decode cX8_isField 41 = .ok (.ldc2_w 118, 3) := by decide +kernel
theorem dX8_isField_44 : decode cX8_isField 44 = .ok (.lcmp, 1) := by decide +kernel
theorem dX8_isField_45 : decode cX8_isField 45 = .ok (.ifCond .ne 7, 3) := by decide +kernel
theorem dX8_isField_48 : decode cX8_isField 48 = .ok (.iconst 1, 1) := by decide +kernel
theorem dX8_isField_49 : decode cX8_isField 49 = .ok (.goto 4, 3) := by decide +kernel
theorem dX8_isField_52 : decode cX8_isField 52 = .ok (.iconst 0, 1) := by decide +kernel
theorem dX8_isField_53 : decode cX8_isField 53 = .ok (.ireturn, 1) := by decide +kernel
theorem dX8_readField_0 : decode cX8_readField 0 = .ok (.aload_n 0, 1) := by decide +kernel
theorem dX8_readField_1 : decode cX8_readField 1 = .ok (.getfield 12, 3) := by decide +kernel
theorem dX8_readField_4 : decode cX8_readField 4 = .ok (.iconst 2, 1) := by decide +kernel
theorem dX8_readField_5 : decode cX8_readField 5 = .ok (.invokevirtual 44, 3) := by decide +kernel
theorem dX8_readField_8 : decode cX8_readField 8 = .ok (.ifCond .ne 9, 3) := by decide +kernel
theorem dX8_readField_11 : decode cX8_readField 11 = .ok (.aload_n 0, 1) := by decide +kernel
theorem dX8_readField_12 : decode cX8_readField 12 = .ok (.iconst 1, 1) := by decide +kernel
theorem dX8_readField_13 : decode cX8_readField 13 = .ok (.invokevirtual 55, 3) := by decide +kernel
theorem dX8_readField_16 : decode cX8_readField 16 = .ok (.ireturn, 1) := by decide +kernel
theorem dX8_readField_17 : decode cX8_readField 17 = .ok (.aload_n 0, 1) := by decide +kernel
theorem dX8_readField_18 : decode cX8_readField 18 = .ok (.getfield 12, 3) := by decide +kernel
theorem dX8_readField_21 : decode cX8_readField 21 = .ok (.invokevirtual 100, 3) := by decide +kernel
theorem dX8_readField_24 : decode cX8_readField 24 = .ok (.lstore_n 1, 1) := by decide +kernel
theorem dX8_readField_25 : decode cX8_readField 25 = .ok (.aload_n 0, 1) := by decide +kernel
theorem dX8_readField_26 : decode cX8_readField 26 = .ok (.lload_n 1, 1) := by decide +kernel
theorem dX8_readField_27 : decode cX8_readField 27 = .ok (.invokevirtual 104, 3) := by decide +kernel
theorem dX8_readField_30 : decode cX8_readField 30 = .ok (.ifCond .ne 9, 3) := by decide +kernel
theorem dX8_readField_33 : decode cX8_readField 33 = .ok (.aload_n 0, 1) := by decide +kernel
theorem dX8_readField_34 : decode cX8_readField 34 = .ok (.iconst 4, 1) := by decide +kernel
theorem dX8_readField_35 : decode cX8_readField 35 = .ok (.invokevirtual 55, 3) := by decide +kernel
theorem dX8_readField_38 : decode cX8_readField 38 = .ok (.ireturn, 1) := by decide +kernel
theorem dX8_readField_39 : decode cX8_readField 39 = .ok (.aload_n 0, 1) := by decide +kernel
theorem dX8_readField_40 : decode cX8_readField 40 = .ok (.getfield 21, 3) := by decide +kernel
theorem dX8_readField_43 : decode cX8_readField 43 = .ok (.lload_n 1, 1) := by decide +kernel
theorem dX8_readField_44 : decode cX8_readField 44 = .ok (.invokevirtual 93, 3) := by decide +kernel
theorem dX8_readField_47 : decode cX8_readField 47 = .ok (.aload_n 0, 1) := by decide +kernel
theorem dX8_readField_48 : decode cX8_readField 48 = .ok (.getfield 12, 3) := by decide +kernel
theorem dX8_readField_51 : decode cX8_readField 51 = .ok (.invokevirtual 61, 3) := by decide +kernel
theorem dX8_readField_54 : decode cX8_readField 54 = .ok (.aload_n 0, 1) := by decide +kernel
theorem dX8_readField_55 : decode cX8_readField 55 = .ok (.sipush 999, 3) := by decide +kernel
theorem dX8_readField_58 : decode cX8_readField 58 = .ok (.iconst 0, 1) := by decide +kernel
theorem dX8_readField_59 : decode cX8_readField 59 = .ok (.invokevirtual 89, 3) := by decide +kernel
theorem dX8_readField_62 : decode cX8_readField 62 = .ok (.ifCond .ne 5, 3) := by decide +kernel
theorem dX8_readField_65 : decode cX8_readField 65 = .ok (.iconst 0, 1) := by decide +kernel
theorem dX8_readField_66 : decode cX8_readField 66 = .ok (.ireturn, 1) := by decide +kernel
theorem dX8_readField_67 : decode cX8_readField 67 = .ok (.aload_n 0, 1) := by decide +kernel
theorem dX8_readField_68 : decode cX8_readField 68 = .ok (.getfield 21, 3) := by decide +kernel
theorem dX8_readField_71 : decode cX8_readField 71 = .ok (.aload_n 0, 1) := by decide +kernel
theorem dX8_readField_72 : decode cX8_readField 72 = .ok (.getfield 29, 3) := by decide +kernel
theorem dX8_readField_75 : decode cX8_readField 75 = .ok (.invokevirtual 97, 3) := by decide +kernel
theorem dX8_readField_78 : decode cX8_readField 78 = .ok (.iconst 1, 1) := by decide +kernel
theorem dX8_readField_79 : decode cX8_readField 79 = .ok (.ireturn, 1) := by decide +kernel
theorem dX8_isSign_0 : decode cX8_isSign 0 = .ok (.aload_n 0, 1) := by decide +kernel
theorem dX8_isSign_1 : decode cX8_isSign 1 = .ok (.getfield 12, 3) := by decide +kernel
theorem dX8_isSign_4 : decode cX8_isSign 4 = .ok (.iconst 3, 1) := by decide +kernel
theorem dX8_isSign_5 : decode cX8_isSign 5 = .ok (.invokevirtual 44, 3) := by decide +kernel
theorem dX8_isSign_8 : decode cX8_isSign 8 = .ok (.ifCond .ne 14, 3) := by decide +kernel
theorem dX8_isSign_11 : decode cX8_isSign 11 = .ok (.aload_n 0, 1) := by decide +kernel
theorem dX8_isSign_12 : decode cX8_isSign 12 = .ok (.getfield 12, 3) := by decide +kernel
theorem dX8_isSign_15 : decode cX8_isSign 15 = .ok (.iconst 4, 1) := by decide +kernel
theorem dX8_isSign_16 : decode cX8_isSign 16 = .ok (.invokevirtual 44, 3) := by decide +kernel
theorem dX8_isSign_19 : decode cX8_isSign 19 = .ok (.ifCond .eq 7, 3) := by decide +kernel
theorem dX8_isSign_22 : decode cX8_isSign 22 = .ok (.iconst 1, 1) := by decide +kernel
theorem dX8_isSign_23 : decode cX8_isSign 23 = .ok (.goto 4, 3) := by decide +kernel
theorem dX8_isSign_26 : decode cX8_isSign 26 = .ok (.iconst 0, 1) := by decide +kernel
theorem dX8_isSign_27 : decode cX8_isSign 27 = .ok (.ireturn, 1) := by decide +kernel
theorem dX9_solve_0 : decode cX9_solve 0 = .ok (.aload_n 0, 1) := by decide +kernel
theorem dX9_solve_1 : decode cX9_solve 1 = .ok (.lload_n 1, 1) := by decide +kernel
theorem dX9_solve_2 : decode cX9_solve 2 = .ok (.putfield 7, 3) := by decide +kernel
theorem dX9_solve_5 : decode cX9_solve 5 = .ok (.aload_n 0, 1) := by decide +kernel
theorem dX9_solve_6 : decode cX9_solve 6 = .ok (.lload_n 3, 1) := by decide +kernel
theorem dX9_solve_7 : decode cX9_solve 7 = .ok (.putfield 13, 3) := by decide +kernel
theorem dX9_solve_10 : decode cX9_solve 10 = .ok (.aload_n 0, 1) := by decide +kernel
theorem dX9_solve_11 : decode cX9_solve 11 = .ok (.lconst 0, 1) := by decide +kernel
theorem dX9_solve_12 : decode cX9_solve 12 = .ok (.putfield 22, 3) := by decide +kernel
theorem dX9_solve_15 : decode cX9_solve 15 = .ok (.aload_n 0, 1) := by decide +kernel
theorem dX9_solve_16 : decode cX9_solve 16 = .ok (.getfield 22, 3) := by decide +kernel
theorem dX9_solve_19 : decode cX9_solve 19 = .ok (.ldc2_w 25, 3) := by decide +kernel
theorem dX9_solve_22 : decode cX9_solve 22 = .ok (.lcmp, 1) := by decide +kernel
theorem dX9_solve_23 : decode cX9_solve 23 = .ok (.ifCond .gt 115, 3) := by decide +kernel
theorem dX9_solve_26 : decode cX9_solve 26 = .ok (.aload_n 0, 1) := by decide +kernel
theorem dX9_solve_27 : decode cX9_solve 27 = .ok (.aload_n 0, 1) := by decide +kernel
theorem dX9_solve_28 : decode cX9_solve 28 = .ok (.getfield 22, 3) := by decide +kernel
theorem dX9_solve_31 : decode cX9_solve 31 = .ok (.lconst 0, 1) := by decide +kernel
theorem dX9_solve_32 : decode cX9_solve 32 = .ok (.lcmp, 1) := by decide +kernel
theorem dX9_solve_33 : decode cX9_solve 33 = .ok (.ifCond .ne 7, 3) := by decide +kernel
theorem dX9_solve_36 : decode cX9_solve 36 = .ok (.lconst 1, 1) := by decide +kernel
theorem dX9_solve_37 : decode cX9_solve 37 = .ok (.goto 4, 3) := by decide +kernel
theorem dX9_solve_40 : decode cX9_solve 40 = .ok (.lconst 0, 1) := by decide +kernel
theorem dX9_solve_41 : decode cX9_solve 41 = .ok (.putfield 19, 3) := by decide +kernel
theorem dX9_solve_44 : decode cX9_solve 44 = .ok (.aload_n 0, 1) := by decide +kernel
theorem dX9_solve_45 : decode cX9_solve 45 = .ok (.getfield 19, 3) := by decide +kernel
theorem dX9_solve_48 : decode cX9_solve 48 = .ok (.ldc2_w 25, 3) := by decide +kernel
theorem dX9_solve_51 : decode cX9_solve 51 = .ok (.lcmp, 1) := by decide +kernel
theorem dX9_solve_52 : decode cX9_solve 52 = .ok (.ifCond .gt 73, 3) := by decide +kernel
theorem dX9_solve_55 : decode cX9_solve 55 = .ok (.aload_n 0, 1) := by decide +kernel
theorem dX9_solve_56 : decode cX9_solve 56 = .ok (.getfield 7, 3) := by decide +kernel
theorem dX9_solve_59 : decode cX9_solve 59 = .ok (.aload_n 0, 1) := by decide +kernel
theorem dX9_solve_60 : decode cX9_solve 60 = .ok (.getfield 19, 3) := by decide +kernel
theorem dX9_solve_63 : decode cX9_solve 63 = .ok (.lmul, 1) := by decide +kernel
theorem dX9_solve_64 : decode cX9_solve 64 = .ok (.aload_n 0, 1) := by decide +kernel
theorem dX9_solve_65 : decode cX9_solve 65 = .ok (.getfield 19, 3) := by decide +kernel
theorem dX9_solve_68 : decode cX9_solve 68 = .ok (.lmul, 1) := by decide +kernel
theorem dX9_solve_69 : decode cX9_solve 69 = .ok (.aload_n 0, 1) := by decide +kernel
theorem dX9_solve_70 : decode cX9_solve 70 = .ok (.getfield 13, 3) := by decide +kernel
theorem dX9_solve_73 : decode cX9_solve 73 = .ok (.aload_n 0, 1) := by decide +kernel
theorem dX9_solve_74 : decode cX9_solve 74 = .ok (.getfield 22, 3) := by decide +kernel
theorem dX9_solve_77 : decode cX9_solve 77 = .ok (.lmul, 1) := by decide +kernel
theorem dX9_solve_78 : decode cX9_solve 78 = .ok (.aload_n 0, 1) := by decide +kernel
theorem dX9_solve_79 : decode cX9_solve 79 = .ok (.getfield 22, 3) := by decide +kernel
theorem dX9_solve_82 : decode cX9_solve 82 = .ok (.lmul, 1) := by decide +kernel
theorem dX9_solve_83 : decode cX9_solve 83 = .ok (.ladd, 1) := by decide +kernel
theorem dX9_solve_84 : decode cX9_solve 84 = .ok (.lstore 5, 2) := by decide +kernel
theorem dX9_solve_86 : decode cX9_solve 86 = .ok (.aload_n 0, 1) := by decide +kernel
theorem dX9_solve_87 : decode cX9_solve 87 = .ok (.lload 5, 2) := by decide +kernel
theorem dX9_solve_89 : decode cX9_solve 89 = .ok (.invokestatic 27, 3) := by decide +kernel
theorem dX9_solve_92 : decode cX9_solve 92 = .ok (.putfield 16, 3) := by decide +kernel
theorem dX9_solve_95 : decode cX9_solve 95 = .ok (.aload_n 0, 1) := by decide +kernel
theorem dX9_solve_96 : decode cX9_solve 96 = .ok (.getfield 16, 3) := by decide +kernel
theorem dX9_solve_99 : decode cX9_solve 99 = .ok (.aload_n 0, 1) := by decide +kernel
theorem dX9_solve_100 : decode cX9_solve 100 = .ok (.getfield 16, 3) := by decide +kernel
theorem dX9_solve_103 : decode cX9_solve 103 = .ok (.lmul, 1) := by decide +kernel
theorem dX9_solve_104 : decode cX9_solve 104 = .ok (.lload 5, 2) := by decide +kernel
theorem dX9_solve_106 : decode cX9_solve 106 = .ok (.lcmp, 1) := by decide +kernel
theorem dX9_solve_107 : decode cX9_solve 107 = .ok (.ifCond .ne 5, 3) := by decide +kernel
theorem dX9_solve_110 : decode cX9_solve 110 = .ok (.iconst 1, 1) := by decide +kernel
theorem dX9_solve_111 : decode cX9_solve 111 = .ok (.ireturn, 1) := by decide +kernel
theorem dX9_solve_112 : decode cX9_solve 112 = .ok (.aload_n 0, 1) := by decide +kernel
theorem dX9_solve_113 : decode cX9_solve 113 = .ok (.dup, 1) := by decide +kernel
theorem dX9_solve_114 : decode cX9_solve 114 = .ok (.getfield 19, 3) := by decide +kernel
theorem dX9_solve_117 : decode cX9_solve 117 = .ok (.lconst 1, 1) := by decide +kernel
theorem dX9_solve_118 : decode cX9_solve 118 = .ok (.ladd, 1) := by decide +kernel
theorem dX9_solve_119 : decode cX9_solve 119 = .ok (.putfield 19, 3) := by decide +kernel
theorem dX9_solve_122 : decode cX9_solve 122 = .ok (.goto (-78), 3) := by decide +kernel
theorem dX9_solve_125 : decode cX9_solve 125 = .ok (.aload_n 0, 1) := by decide +kernel
theorem dX9_solve_126 : decode cX9_solve 126 = .ok (.dup, 1) := by decide +kernel
theorem dX9_solve_127 : decode cX9_solve 127 = .ok (.getfield 22, 3) := by decide +kernel
theorem dX9_solve_130 : decode cX9_solve 130 = .ok (.lconst 1, 1) := by decide +kernel
theorem dX9_solve_131 : decode cX9_solve 131 = .ok (.ladd, 1) := by decide +kernel
theorem dX9_solve_132 : decode cX9_solve 132 = .ok (.putfield 22, 3) := by decide +kernel
theorem dX9_solve_135 : decode cX9_solve 135 = .ok (.goto (-120), 3) := by decide +kernel
theorem dX9_solve_138 : decode cX9_solve 138 = .ok (.iconst 0, 1) := by decide +kernel
theorem dX9_solve_139 : decode cX9_solve 139 = .ok (.ireturn, 1) := by decide +kernel
theorem dX9_part_0 : decode cX9_part 0 = .ok (.iload_n 1, 1) := by decide +kernel
theorem dX9_part_1 : decode cX9_part 1 = .ok (.ifCond .ne 10, 3) := by decide +kernel
theorem dX9_part_4 : decode cX9_part 4 = .ok (.aload_n 0, 1) := by decide +kernel
theorem dX9_part_5 : decode cX9_part 5 = .ok (.getfield 16, 3) := by decide +kernel
theorem dX9_part_8 : decode cX9_part 8 = .ok (.goto 19, 3) := by decide +kernel
theorem dX9_part_11 : decode cX9_part 11 = .ok (.iload_n 1, 1) := by decide +kernel
theorem dX9_part_12 : decode cX9_part 12 = .ok (.iconst 1, 1) := by decide +kernel
theorem dX9_part_13 : decode cX9_part 13 = .ok (.if_icmp .ne 10, 3) := by decide +kernel
theorem dX9_part_16 : decode cX9_part 16 = .ok (.aload_n 0, 1) := by decide +kernel
theorem dX9_part_17 : decode cX9_part 17 = .ok (.getfield 19, 3) := by decide +kernel
theorem dX9_part_20 : decode cX9_part 20 = .ok (.goto 7, 3) := by decide +kernel
theorem dX9_part_23 : decode cX9_part 23 = .ok (.aload_n 0, 1) := by decide +kernel
theorem dX9_part_24 : decode cX9_part 24 = .ok (.getfield 22, 3) := by decide +kernel
theorem dX9_part_27 : decode cX9_part 27 = .ok (.l2i, 1) := by decide +kernel
theorem dX9_part_28 : decode cX9_part 28 = .ok (.ireturn, 1) := by decide +kernel
theorem dX9_below_0 : decode cX9_below 0 = .ok (.aload_n 0, 1) := by decide +kernel
theorem dX9_below_1 : decode cX9_below 1 = .ok (.getfield 22, 3) := by decide +kernel
theorem dX9_below_4 : decode cX9_below 4 = .ok (.lconst 0, 1) := by decide +kernel
theorem dX9_below_5 : decode cX9_below 5 = .ok (.lcmp, 1) := by decide +kernel
theorem dX9_below_6 : decode cX9_below 6 = .ok (.ifCond .ne 7, 3) := by decide +kernel
theorem dX9_below_9 : decode cX9_below 9 = .ok (.lconst 1, 1) := by decide +kernel
theorem dX9_below_10 : decode cX9_below 10 = .ok (.goto 7, 3) := by decide +kernel
theorem dX9_below_13 : decode cX9_below 13 = .ok (.aload_n 0, 1) := by decide +kernel
theorem dX9_below_14 : decode cX9_below 14 = .ok (.getfield 22, 3) := by decide +kernel
theorem dX9_below_17 : decode cX9_below 17 = .ok (.lreturn, 1) := by decide +kernel
theorem dX9_plainEntry_0 : decode cX9_plainEntry 0 = .ok (.iload_n 2, 1) := by decide +kernel
theorem dX9_plainEntry_1 : decode cX9_plainEntry 1 = .ok (.iload_n 3, 1) := by decide +kernel
theorem dX9_plainEntry_2 : decode cX9_plainEntry 2 = .ok (.if_icmp .ne 25, 3) := by decide +kernel
theorem dX9_plainEntry_5 : decode cX9_plainEntry 5 = .ok (.iload_n 2, 1) := by decide +kernel
theorem dX9_plainEntry_6 : decode cX9_plainEntry 6 = .ok (.ifCond .ne 13, 3) := by decide +kernel
theorem dX9_plainEntry_9 : decode cX9_plainEntry 9 = .ok (.aload_n 1, 1) := by decide +kernel
theorem dX9_plainEntry_10 : decode cX9_plainEntry 10 = .ok (.iconst 0, 1) := by decide +kernel
theorem dX9_plainEntry_11 : decode cX9_plainEntry 11 = .ok (.laload, 1) := by decide +kernel
theorem dX9_plainEntry_12 : decode cX9_plainEntry 12 = .ok (.aload_n 1, 1) := by decide +kernel
theorem dX9_plainEntry_13 : decode cX9_plainEntry 13 = .ok (.iconst 1, 1) := by decide +kernel
theorem dX9_plainEntry_14 : decode cX9_plainEntry 14 = .ok (.laload, 1) := by decide +kernel
theorem dX9_plainEntry_15 : decode cX9_plainEntry 15 = .ok (.ladd, 1) := by decide +kernel
theorem dX9_plainEntry_16 : decode cX9_plainEntry 16 = .ok (.goto 10, 3) := by decide +kernel
theorem dX9_plainEntry_19 : decode cX9_plainEntry 19 = .ok (.aload_n 1, 1) := by decide +kernel
theorem dX9_plainEntry_20 : decode cX9_plainEntry 20 = .ok (.iconst 0, 1) := by decide +kernel
theorem dX9_plainEntry_21 : decode cX9_plainEntry 21 = .ok (.laload, 1) := by decide +kernel
theorem dX9_plainEntry_22 : decode cX9_plainEntry 22 = .ok (.aload_n 1, 1) := by decide +kernel
theorem dX9_plainEntry_23 : decode cX9_plainEntry 23 = .ok (.iconst 1, 1) := by decide +kernel
theorem dX9_plainEntry_24 : decode cX9_plainEntry 24 = .ok (.laload, 1) := by decide +kernel
theorem dX9_plainEntry_25 : decode cX9_plainEntry 25 = .ok (.lsub, 1) := by decide +kernel
theorem dX9_plainEntry_26 : decode cX9_plainEntry 26 = .ok (.lreturn, 1) := by decide +kernel
theorem dX9_plainEntry_27 : decode cX9_plainEntry 27 = .ok (.iload_n 2, 1) := by decide +kernel
theorem dX9_plainEntry_28 : decode cX9_plainEntry 28 = .ok (.ifCond .ne 18, 3) := by decide +kernel
theorem dX9_plainEntry_31 : decode cX9_plainEntry 31 = .ok (.aload_n 0, 1) := by decide +kernel
theorem dX9_plainEntry_32 : decode cX9_plainEntry 32 = .ok (.getfield 13, 3) := by decide +kernel
theorem dX9_plainEntry_35 : decode cX9_plainEntry 35 = .ok (.aload_n 1, 1) := by decide +kernel
theorem dX9_plainEntry_36 : decode cX9_plainEntry 36 = .ok (.iconst 2, 1) := by decide +kernel
theorem dX9_plainEntry_37 : decode cX9_plainEntry 37 = .ok (.laload, 1) := by decide +kernel
theorem dX9_plainEntry_38 : decode cX9_plainEntry 38 = .ok (.aload_n 1, 1) := by decide +kernel
theorem dX9_plainEntry_39 : decode cX9_plainEntry 39 = .ok (.iconst 3, 1) := by decide +kernel
theorem dX9_plainEntry_40 : decode cX9_plainEntry 40 = .ok (.laload, 1) := by decide +kernel
theorem dX9_plainEntry_41 : decode cX9_plainEntry 41 = .ok (.ladd, 1) := by decide +kernel
theorem dX9_plainEntry_42 : decode cX9_plainEntry 42 = .ok (.lmul, 1) := by decide +kernel
theorem dX9_plainEntry_43 : decode cX9_plainEntry 43 = .ok (.goto 10, 3) := by decide +kernel
theorem dX9_plainEntry_46 : decode cX9_plainEntry 46 = .ok (.aload_n 1, 1) := by decide +kernel
theorem dX9_plainEntry_47 : decode cX9_plainEntry 47 = .ok (.iconst 2, 1) := by decide +kernel
theorem dX9_plainEntry_48 : decode cX9_plainEntry 48 = .ok (.laload, 1) := by decide +kernel
theorem dX9_plainEntry_49 : decode cX9_plainEntry 49 = .ok (.aload_n 1, 1) := by decide +kernel
theorem dX9_plainEntry_50 : decode cX9_plainEntry 50 = .ok (.iconst 3, 1) := by decide +kernel
theorem dX9_plainEntry_51 : decode cX9_plainEntry 51 = .ok (.laload, 1) := by decide +kernel
theorem dX9_plainEntry_52 : decode cX9_plainEntry 52 = .ok (.lsub, 1) := by decide +kernel
theorem dX9_plainEntry_53 : decode cX9_plainEntry 53 = .ok (.lreturn, 1) := by decide +kernel
theorem dX9_entry_0 : decode cX9_entry 0 = .ok (.aload_n 0, 1) := by decide +kernel
theorem dX9_entry_1 : decode cX9_entry 1 = .ok (.getfield 22, 3) := by decide +kernel
theorem dX9_entry_4 : decode cX9_entry 4 = .ok (.lconst 0, 1) := by decide +kernel
theorem dX9_entry_5 : decode cX9_entry 5 = .ok (.lcmp, 1) := by decide +kernel
theorem dX9_entry_6 : decode cX9_entry 6 = .ok (.ifCond .ne 11, 3) := by decide +kernel
theorem dX9_entry_9 : decode cX9_entry 9 = .ok (.aload_n 0, 1) := by decide +kernel
theorem dX9_entry_10 : decode cX9_entry 10 = .ok (.aload_n 1, 1) := by decide +kernel
theorem dX9_entry_11 : decode cX9_entry 11 = .ok (.iload_n 2, 1) := by decide +kernel
theorem dX9_entry_12 : decode cX9_entry 12 = .ok (.iload_n 3, 1) := by decide +kernel
theorem dX9_entry_13 : decode cX9_entry 13 = .ok (.invokevirtual 33, 3) := by decide +kernel
theorem dX9_entry_16 : decode cX9_entry 16 = .ok (.lreturn, 1) := by decide +kernel
theorem dX9_entry_17 : decode cX9_entry 17 = .ok (.aload_n 1, 1) := by decide +kernel
theorem dX9_entry_18 : decode cX9_entry 18 = .ok (.iconst 0, 1) := by decide +kernel
theorem dX9_entry_19 : decode cX9_entry 19 = .ok (.laload, 1) := by decide +kernel
theorem dX9_entry_20 : decode cX9_entry 20 = .ok (.aload_n 0, 1) := by decide +kernel
theorem dX9_entry_21 : decode cX9_entry 21 = .ok (.getfield 22, 3) := by decide +kernel
theorem dX9_entry_24 : decode cX9_entry 24 = .ok (.lmul, 1) := by decide +kernel
theorem dX9_entry_25 : decode cX9_entry 25 = .ok (.lstore 4, 2) := by decide +kernel
theorem dX9_entry_27 : decode cX9_entry 27 = .ok (.aload_n 1, 1) := by decide +kernel
theorem dX9_entry_28 : decode cX9_entry 28 = .ok (.iconst 2, 1) := by decide +kernel
theorem dX9_entry_29 : decode cX9_entry 29 = .ok (.laload, 1) := by decide +kernel
theorem dX9_entry_30 : decode cX9_entry 30 = .ok (.aload_n 0, 1) := by decide +kernel
theorem dX9_entry_31 : decode cX9_entry 31 = .ok (.getfield 16, 3) := by decide +kernel
theorem dX9_entry_34 : decode cX9_entry 34 = .ok (.lmul, 1) := by decide +kernel
theorem dX9_entry_35 : decode cX9_entry 35 = .ok (.aload_n 1, 1) := by decide +kernel
theorem dX9_entry_36 : decode cX9_entry 36 = .ok (.iconst 3, 1) := by decide +kernel
theorem dX9_entry_37 : decode cX9_entry 37 = .ok (.laload, 1) := by decide +kernel
theorem dX9_entry_38 : decode cX9_entry 38 = .ok (.aload_n 0, 1) := by decide +kernel
theorem dX9_entry_39 : decode cX9_entry 39 = .ok (.getfield 7, 3) := by decide +kernel
theorem dX9_entry_42 : decode cX9_entry 42 = .ok (.lmul, 1) := by decide +kernel
theorem dX9_entry_43 : decode cX9_entry 43 = .ok (.aload_n 0, 1) := by decide +kernel
theorem dX9_entry_44 : decode cX9_entry 44 = .ok (.getfield 19, 3) := by decide +kernel
theorem dX9_entry_47 : decode cX9_entry 47 = .ok (.lmul, 1) := by decide +kernel
theorem dX9_entry_48 : decode cX9_entry 48 = .ok (.ladd, 1) := by decide +kernel
theorem dX9_entry_49 : decode cX9_entry 49 = .ok (.lstore 6, 2) := by decide +kernel
theorem dX9_entry_51 : decode cX9_entry 51 = .ok (.iload_n 2, 1) := by decide +kernel
theorem dX9_entry_52 : decode cX9_entry 52 = .ok (.iload_n 3, 1) := by decide +kernel
theorem dX9_entry_53 : decode cX9_entry 53 = .ok (.if_icmp .ne 21, 3) := by decide +kernel
theorem dX9_entry_56 : decode cX9_entry 56 = .ok (.iload_n 2, 1) := by decide +kernel
theorem dX9_entry_57 : decode cX9_entry 57 = .ok (.ifCond .ne 11, 3) := by decide +kernel
theorem dX9_entry_60 : decode cX9_entry 60 = .ok (.lload 4, 2) := by decide +kernel
theorem dX9_entry_62 : decode cX9_entry 62 = .ok (.lload 6, 2) := by decide +kernel
theorem dX9_entry_64 : decode cX9_entry 64 = .ok (.ladd, 1) := by decide +kernel
theorem dX9_entry_65 : decode cX9_entry 65 = .ok (.goto 8, 3) := by decide +kernel
theorem dX9_entry_68 : decode cX9_entry 68 = .ok (.lload 4, 2) := by decide +kernel
theorem dX9_entry_70 : decode cX9_entry 70 = .ok (.lload 6, 2) := by decide +kernel
theorem dX9_entry_72 : decode cX9_entry 72 = .ok (.lsub, 1) := by decide +kernel
theorem dX9_entry_73 : decode cX9_entry 73 = .ok (.lreturn, 1) := by decide +kernel
theorem dX9_entry_74 : decode cX9_entry 74 = .ok (.aload_n 1, 1) := by decide +kernel
theorem dX9_entry_75 : decode cX9_entry 75 = .ok (.iconst 2, 1) := by decide +kernel
theorem dX9_entry_76 : decode cX9_entry 76 = .ok (.laload, 1) := by decide +kernel
theorem dX9_entry_77 : decode cX9_entry 77 = .ok (.aload_n 0, 1) := by decide +kernel
theorem dX9_entry_78 : decode cX9_entry 78 = .ok (.getfield 19, 3) := by decide +kernel
theorem dX9_entry_81 : decode cX9_entry 81 = .ok (.lmul, 1) := by decide +kernel
theorem dX9_entry_82 : decode cX9_entry 82 = .ok (.aload_n 1, 1) := by decide +kernel
theorem dX9_entry_83 : decode cX9_entry 83 = .ok (.iconst 3, 1) := by decide +kernel
theorem dX9_entry_84 : decode cX9_entry 84 = .ok (.laload, 1) := by decide +kernel
theorem dX9_entry_85 : decode cX9_entry 85 = .ok (.aload_n 0, 1) := by decide +kernel
theorem dX9_entry_86 : decode cX9_entry 86 = .ok (.getfield 16, 3) := by decide +kernel
theorem dX9_entry_89 : decode cX9_entry 89 = .ok (.lmul, 1) := by decide +kernel
theorem dX9_entry_90 : decode cX9_entry 90 = .ok (.ladd, 1) := by decide +kernel
theorem dX9_entry_91 : decode cX9_entry 91 = .ok (.lstore 8, 2) := by decide +kernel
theorem dX9_entry_93 : decode cX9_entry 93 = .ok (.iload_n 2, 1) := by decide +kernel
theorem dX9_entry_94 : decode cX9_entry 94 = .ok (.ifCond .ne 22, 3) := by decide +kernel
theorem dX9_entry_97 : decode cX9_entry 97 = .ok (.aload_n 0, 1) := by decide +kernel
theorem dX9_entry_98 : decode cX9_entry 98 = .ok (.getfield 7, 3) := by decide +kernel
theorem dX9_entry_101 : decode cX9_entry 101 = .ok (.aload_n 1, 1) := by decide +kernel
theorem dX9_entry_102 : decode cX9_entry 102 = .ok (.iconst 1, 1) := by decide +kernel
theorem dX9_entry_103 : decode cX9_entry 103 = .ok (.laload, 1) := by decide +kernel
theorem dX9_entry_104 : decode cX9_entry 104 = .ok (.aload_n 0, 1) := by decide +kernel
theorem dX9_entry_105 : decode cX9_entry 105 = .ok (.getfield 22, 3) := by decide +kernel
theorem dX9_entry_108 : decode cX9_entry 108 = .ok (.lmul, 1) := by decide +kernel
theorem dX9_entry_109 : decode cX9_entry 109 = .ok (.lload 8, 2) := by decide +kernel
theorem dX9_entry_111 : decode cX9_entry 111 = .ok (.lsub, 1) := by decide +kernel
theorem dX9_entry_112 : decode cX9_entry 112 = .ok (.lmul, 1) := by decide +kernel
theorem dX9_entry_113 : decode cX9_entry 113 = .ok (.goto 14, 3) := by decide +kernel
theorem dX9_entry_116 : decode cX9_entry 116 = .ok (.aload_n 1, 1) := by decide +kernel
theorem dX9_entry_117 : decode cX9_entry 117 = .ok (.iconst 1, 1) := by decide +kernel
theorem dX9_entry_118 : decode cX9_entry 118 = .ok (.laload, 1) := by decide +kernel
theorem dX9_entry_119 : decode cX9_entry 119 = .ok (.aload_n 0, 1) := by decide +kernel
theorem dX9_entry_120 : decode cX9_entry 120 = .ok (.getfield 22, 3) := by decide +kernel
theorem dX9_entry_123 : decode cX9_entry 123 = .ok (.lmul, 1) := by decide +kernel
theorem dX9_entry_124 : decode cX9_entry 124 = .ok (.lload 8, 2) := by decide +kernel
theorem dX9_entry_126 : decode cX9_entry 126 = .ok (.ladd, 1) := by decide +kernel
theorem dX9_entry_127 : decode cX9_entry 127 = .ok (.lreturn, 1) := by decide +kernel
theorem dX11_putBytes_0 : decode cX11_putBytes 0 = .ok (.bipush 24, 2) := by decide +kernel
theorem dX11_putBytes_2 : decode cX11_putBytes 2 = .ok (.istore_n 2, 1) := by decide +kernel
theorem dX11_putBytes_3 : decode cX11_putBytes 3 = .ok (.iload_n 2, 1) := by decide +kernel
theorem dX11_putBytes_4 : decode cX11_putBytes 4 = .ok (.ifCond .lt 42, 3) := by decide +kernel
theorem dX11_putBytes_7 : decode cX11_putBytes 7 = .ok (.aload_n 0, 1) := by decide +kernel
theorem dX11_putBytes_8 : decode cX11_putBytes 8 = .ok (.getfield 13, 3) := by decide +kernel
theorem dX11_putBytes_11 : decode cX11_putBytes 11 = .ok (.sipush 600, 3) := by decide +kernel
theorem dX11_putBytes_14 : decode cX11_putBytes 14 = .ok (.if_icmp .ge 32, 3) := by decide +kernel
theorem dX11_putBytes_17 : decode cX11_putBytes 17 = .ok (.aload_n 0, 1) := by decide +kernel
theorem dX11_putBytes_18 : decode cX11_putBytes 18 = .ok (.getfield 9, 3) := by decide +kernel
theorem dX11_putBytes_21 : decode cX11_putBytes 21 = .ok (.aload_n 0, 1) := by decide +kernel
theorem dX11_putBytes_22 : decode cX11_putBytes 22 = .ok (.getfield 13, 3) := by decide +kernel
theorem dX11_putBytes_25 : decode cX11_putBytes 25 = .ok (.iload_n 1, 1) := by decide +kernel
theorem dX11_putBytes_26 : decode cX11_putBytes 26 = .ok (.iload_n 2, 1) := by decide +kernel
theorem dX11_putBytes_27 : decode cX11_putBytes 27 = .ok (.ishr, 1) := by decide +kernel
theorem dX11_putBytes_28 : decode cX11_putBytes 28 = .ok (.i2b, 1) := by decide +kernel
theorem dX11_putBytes_29 : decode cX11_putBytes 29 = .ok (.bastore, 1) := by decide +kernel
theorem dX11_putBytes_30 : decode cX11_putBytes 30 = .ok (.aload_n 0, 1) := by decide +kernel
theorem dX11_putBytes_31 : decode cX11_putBytes 31 = .ok (.dup, 1) := by decide +kernel
theorem dX11_putBytes_32 : decode cX11_putBytes 32 = .ok (.getfield 13, 3) := by decide +kernel
theorem dX11_putBytes_35 : decode cX11_putBytes 35 = .ok (.iconst 1, 1) := by decide +kernel
theorem dX11_putBytes_36 : decode cX11_putBytes 36 = .ok (.iadd, 1) := by decide +kernel
theorem dX11_putBytes_37 : decode cX11_putBytes 37 = .ok (.putfield 13, 3) := by decide +kernel
theorem dX11_putBytes_40 : decode cX11_putBytes 40 = .ok (.iinc 2 (-8), 3) := by decide +kernel
theorem dX11_putBytes_43 : decode cX11_putBytes 43 = .ok (.goto (-40), 3) := by decide +kernel
theorem dX11_putBytes_46 : decode cX11_putBytes 46 = .ok (.return_, 1) := by decide +kernel
theorem dX11_feed_0 : decode cX11_feed 0 = .ok (.aload_n 0, 1) := by decide +kernel
theorem dX11_feed_1 : decode cX11_feed 1 = .ok (.getfield 13, 3) := by decide +kernel
theorem dX11_feed_4 : decode cX11_feed 4 = .ok (.bipush 20, 2) := by decide +kernel
theorem dX11_feed_6 : decode cX11_feed 6 = .ok (.iadd, 1) := by decide +kernel
theorem dX11_feed_7 : decode cX11_feed 7 = .ok (.sipush 600, 3) := by decide +kernel
theorem dX11_feed_10 : decode cX11_feed 10 = .ok (.if_icmp .le 5, 3) := by decide +kernel
theorem dX11_feed_13 : decode cX11_feed 13 = .ok (.iconst (-1), 1) := by decide +kernel
theorem dX11_feed_14 : decode cX11_feed 14 = .ok (.ireturn, 1) := by decide +kernel
theorem dX11_feed_15 : decode cX11_feed 15 = .ok (.aload_n 0, 1) := by decide +kernel
theorem dX11_feed_16 : decode cX11_feed 16 = .ok (.iload_n 1, 1) := by decide +kernel
theorem dX11_feed_17 : decode cX11_feed 17 = .ok (.invokevirtual 80, 3) := by decide +kernel
theorem dX11_feed_20 : decode cX11_feed 20 = .ok (.aload_n 0, 1) := by decide +kernel
theorem dX11_feed_21 : decode cX11_feed 21 = .ok (.iload_n 2, 1) := by decide +kernel
theorem dX11_feed_22 : decode cX11_feed 22 = .ok (.invokevirtual 80, 3) := by decide +kernel
theorem dX11_feed_25 : decode cX11_feed 25 = .ok (.aload_n 0, 1) := by decide +kernel
theorem dX11_feed_26 : decode cX11_feed 26 = .ok (.iload_n 3, 1) := by decide +kernel
theorem dX11_feed_27 : decode cX11_feed 27 = .ok (.invokevirtual 80, 3) := by decide +kernel
theorem dX11_feed_30 : decode cX11_feed 30 = .ok (.aload_n 0, 1) := by decide +kernel
theorem dX11_feed_31 : decode cX11_feed 31 = .ok (.iload 4, 2) := by decide +kernel
theorem dX11_feed_33 : decode cX11_feed 33 = .ok (.invokevirtual 80, 3) := by decide +kernel
theorem dX11_feed_36 : decode cX11_feed 36 = .ok (.aload_n 0, 1) := by decide +kernel
theorem dX11_feed_37 : decode cX11_feed 37 = .ok (.iload 5, 2) := by decide +kernel
theorem dX11_feed_39 : decode cX11_feed 39 = .ok (.invokevirtual 80, 3) := by decide +kernel
theorem dX11_feed_42 : decode cX11_feed 42 = .ok (.aload_n 0, 1) := by decide +kernel
theorem dX11_feed_43 : decode cX11_feed 43 = .ok (.getfield 13, 3) := by decide +kernel
theorem dX11_feed_46 : decode cX11_feed 46 = .ok (.ireturn, 1) := by decide +kernel
theorem dX11_isTold_0 : decode cX11_isTold 0 = .ok (.iload_n 1, 1) := by decide +kernel
theorem dX11_isTold_1 : decode cX11_isTold 1 = .ok (.ifCond .lt 18, 3) := by decide +kernel
theorem dX11_isTold_4 : decode cX11_isTold 4 = .ok (.iload_n 1, 1) := by decide +kernel
theorem dX11_isTold_5 : decode cX11_isTold 5 = .ok (.aload_n 0, 1) := by decide +kernel
theorem dX11_isTold_6 : decode cX11_isTold 6 = .ok (.getfield 27, 3) := by decide +kernel
theorem dX11_isTold_9 : decode cX11_isTold 9 = .ok (.invokevirtual 91, 3) := by decide +kernel
theorem dX11_isTold_12 : decode cX11_isTold 12 = .ok (.if_icmp .ge 7, 3) := by decide +kernel
theorem dX11_isTold_15 : decode cX11_isTold 15 = .ok (.iconst 1, 1) := by decide +kernel
theorem dX11_isTold_16 : decode cX11_isTold 16 = .ok (.goto 4, 3) := by decide +kernel
theorem dX11_isTold_19 : decode cX11_isTold 19 = .ok (.iconst 0, 1) := by decide +kernel
theorem dX11_isTold_20 : decode cX11_isTold 20 = .ok (.ireturn, 1) := by decide +kernel
theorem dX11_isQuaternion_0 : decode cX11_isQuaternion 0 = .ok (.aload_n 0, 1) := by decide +kernel
theorem dX11_isQuaternion_1 : decode cX11_isQuaternion 1 = .ok (.iload_n 1, 1) := by decide +kernel
theorem dX11_isQuaternion_2 : decode cX11_isQuaternion 2 = .ok (.invokevirtual 117, 3) := by decide +kernel
theorem dX11_isQuaternion_5 : decode cX11_isQuaternion 5 = .ok (.ifCond .eq 18, 3) := by decide +kernel
theorem dX11_isQuaternion_8 : decode cX11_isQuaternion 8 = .ok (.aload_n 0, 1) := by decide +kernel
theorem dX11_isQuaternion_9 : decode cX11_isQuaternion 9 = .ok (.getfield 27, 3) := by decide +kernel
theorem dX11_isQuaternion_12 : decode cX11_isQuaternion 12 = .ok (.iload_n 1, 1) := by decide +kernel
theorem dX11_isQuaternion_13 : decode cX11_isQuaternion 13 = .ok (.invokevirtual 123, 3) := by decide +kernel
theorem dX11_isQuaternion_16 : decode cX11_isQuaternion 16 = .ok (.ifCond .ne 7, 3) := by decide +kernel
theorem dX11_isQuaternion_19 : decode cX11_isQuaternion 19 = .ok (.iconst 1, 1) := by decide +kernel
theorem dX11_isQuaternion_20 : decode cX11_isQuaternion 20 = .ok (.goto 4, 3) := by decide +kernel
theorem dX11_isQuaternion_23 : decode cX11_isQuaternion 23 = .ok (.iconst 0, 1) := by decide +kernel
theorem dX11_isQuaternion_24 : decode cX11_isQuaternion 24 = .ok (.ireturn, 1) := by decide +kernel
theorem dX11_beginAnew_0 : decode cX11_beginAnew 0 = .ok (.aload_n 0, 1) := by decide +kernel
theorem dX11_beginAnew_1 : decode cX11_beginAnew 1 = .ok (.getfield 37, 3) := by decide +kernel
theorem dX11_beginAnew_4 : decode cX11_beginAnew 4 = .ok (.aload_n 0, 1) := by decide +kernel
theorem dX11_beginAnew_5 : decode cX11_beginAnew 5 = .ok (.getfield 27, 3) := by decide +kernel
theorem dX11_beginAnew_8 : decode cX11_beginAnew 8 = .ok (.invokevirtual 95, 3) := by decide +kernel
theorem dX11_beginAnew_11 : decode cX11_beginAnew 11 = .ok (.iconst 0, 1) := by decide +kernel
theorem dX11_beginAnew_12 : decode cX11_beginAnew 12 = .ok (.istore_n 1, 1) := by decide +kernel
theorem dX11_beginAnew_13 : decode cX11_beginAnew 13 = .ok (.iload_n 1, 1) := by decide +kernel
theorem dX11_beginAnew_14 : decode cX11_beginAnew 14 = .ok (.bipush 8, 2) := by decide +kernel
theorem dX11_beginAnew_16 : decode cX11_beginAnew 16 = .ok (.if_icmp .ge 18, 3) := by decide +kernel
theorem dX11_beginAnew_19 : decode cX11_beginAnew 19 = .ok (.aload_n 0, 1) := by decide +kernel
theorem dX11_beginAnew_20 : decode cX11_beginAnew 20 = .ok (.getfield 43, 3) := by decide +kernel
theorem dX11_beginAnew_23 : decode cX11_beginAnew 23 = .ok (.iload_n 1, 1) := by decide +kernel
theorem dX11_beginAnew_24 : decode cX11_beginAnew 24 = .ok (.aaload, 1) := by decide +kernel
theorem dX11_beginAnew_25 : decode cX11_beginAnew 25 = .ok (.invokevirtual 99, 3) := by decide +kernel
theorem dX11_beginAnew_28 : decode cX11_beginAnew 28 = .ok (.iinc 1 1, 3) := by decide +kernel
theorem dX11_beginAnew_31 : decode cX11_beginAnew 31 = .ok (.goto (-18), 3) := by decide +kernel
theorem dX11_beginAnew_34 : decode cX11_beginAnew 34 = .ok (.iconst 0, 1) := by decide +kernel
theorem dX11_beginAnew_35 : decode cX11_beginAnew 35 = .ok (.istore_n 1, 1) := by decide +kernel
theorem dX11_beginAnew_36 : decode cX11_beginAnew 36 = .ok (.iload_n 1, 1) := by decide +kernel
theorem dX11_beginAnew_37 : decode cX11_beginAnew 37 = .ok (.bipush 8, 2) := by decide +kernel
theorem dX11_beginAnew_39 : decode cX11_beginAnew 39 = .ok (.if_icmp .ge 44, 3) := by decide +kernel
theorem dX11_beginAnew_42 : decode cX11_beginAnew 42 = .ok (.aload_n 0, 1) := by decide +kernel
theorem dX11_beginAnew_43 : decode cX11_beginAnew 43 = .ok (.iload_n 1, 1) := by decide +kernel
theorem dX11_beginAnew_44 : decode cX11_beginAnew 44 = .ok (.invokevirtual 102, 3) := by decide +kernel
theorem dX11_beginAnew_47 : decode cX11_beginAnew 47 = .ok (.ifCond .eq 30, 3) := by decide +kernel
theorem dX11_beginAnew_50 : decode cX11_beginAnew 50 = .ok (.aload_n 0, 1) := by decide +kernel
theorem dX11_beginAnew_51 : decode cX11_beginAnew 51 = .ok (.getfield 49, 3) := by decide +kernel
theorem dX11_beginAnew_54 : decode cX11_beginAnew 54 = .ok (.iload_n 1, 1) := by decide +kernel
theorem dX11_beginAnew_55 : decode cX11_beginAnew 55 = .ok (.aaload, 1) := by decide +kernel
theorem dX11_beginAnew_56 : decode cX11_beginAnew 56 = .ok (.aload_n 0, 1) := by decide +kernel
theorem dX11_beginAnew_57 : decode cX11_beginAnew 57 = .ok (.getfield 27, 3) := by decide +kernel
theorem dX11_beginAnew_60 : decode cX11_beginAnew 60 = .ok (.iload_n 1, 1) := by decide +kernel
theorem dX11_beginAnew_61 : decode cX11_beginAnew 61 = .ok (.invokevirtual 106, 3) := by decide +kernel
theorem dX11_beginAnew_64 : decode cX11_beginAnew 64 = .ok (.i2l, 1) := by decide +kernel
theorem dX11_beginAnew_65 : decode cX11_beginAnew 65 = .ok (.aload_n 0, 1) := by decide +kernel
theorem dX11_beginAnew_66 : decode cX11_beginAnew 66 = .ok (.getfield 27, 3) := by decide +kernel
theorem dX11_beginAnew_69 : decode cX11_beginAnew 69 = .ok (.iload_n 1, 1) := by decide +kernel
theorem dX11_beginAnew_70 : decode cX11_beginAnew 70 = .ok (.invokevirtual 110, 3) := by decide +kernel
theorem dX11_beginAnew_73 : decode cX11_beginAnew 73 = .ok (.i2l, 1) := by decide +kernel
theorem dX11_beginAnew_74 : decode cX11_beginAnew 74 = .ok (.invokevirtual 113, 3) := by decide +kernel
theorem dX11_beginAnew_77 : decode cX11_beginAnew 77 = .ok (.iinc 1 1, 3) := by decide +kernel
theorem dX11_beginAnew_80 : decode cX11_beginAnew 80 = .ok (.goto (-44), 3) := by decide +kernel
theorem dX11_beginAnew_83 : decode cX11_beginAnew 83 = .ok (.return_, 1) := by decide +kernel
theorem dX11_local_0 : decode cX11_local 0 = .ok (.aload_n 0, 1) := by decide +kernel
theorem dX11_local_1 : decode cX11_local 1 = .ok (.iload_n 1, 1) := by decide +kernel
theorem dX11_local_2 : decode cX11_local 2 = .ok (.invokevirtual 117, 3) := by decide +kernel
theorem dX11_local_5 : decode cX11_local 5 = .ok (.ifCond .eq 9, 3) := by decide +kernel
theorem dX11_local_8 : decode cX11_local 8 = .ok (.iload_n 2, 1) := by decide +kernel
theorem dX11_local_9 : decode cX11_local 9 = .ok (.ldc 129, 2) := by decide +kernel
theorem dX11_local_11 : decode cX11_local 11 = .ok (.if_icmp .le 5, 3) := by decide +kernel
theorem dX11_local_14 : decode cX11_local 14 = .ok (.iconst (-1), 1) := by decide +kernel
theorem dX11_local_15 : decode cX11_local 15 = .ok (.ireturn, 1) := by decide +kernel
theorem dX11_local_16 : decode cX11_local 16 = .ok (.iload_n 2, 1) := by decide +kernel
theorem dX11_local_17 : decode cX11_local 17 = .ok (.ifCond .eq 12, 3) := by decide +kernel
theorem dX11_local_20 : decode cX11_local 20 = .ok (.iload_n 2, 1) := by decide +kernel
theorem dX11_local_21 : decode cX11_local 21 = .ok (.invokestatic 130, 3) := by decide +kernel
theorem dX11_local_24 : decode cX11_local 24 = .ok (.ifCond .ne 5, 3) := by decide +kernel
theorem dX11_local_27 : decode cX11_local 27 = .ok (.iconst (-1), 1) := by decide +kernel
theorem dX11_local_28 : decode cX11_local 28 = .ok (.ireturn, 1) := by decide +kernel
theorem dX11_local_29 : decode cX11_local 29 = .ok (.aload_n 0, 1) := by decide +kernel
theorem dX11_local_30 : decode cX11_local 30 = .ok (.getfield 37, 3) := by decide +kernel
theorem dX11_local_33 : decode cX11_local 33 = .ok (.iload_n 1, 1) := by decide +kernel
theorem dX11_local_34 : decode cX11_local 34 = .ok (.iload_n 2, 1) := by decide +kernel
theorem dX11_local_35 : decode cX11_local 35 = .ok (.invokevirtual 135, 3) := by decide +kernel
theorem dX11_local_38 : decode cX11_local 38 = .ok (.ireturn, 1) := by decide +kernel
theorem dX11_place_0 : decode cX11_place 0 = .ok (.aload_n 0, 1) := by decide +kernel
theorem dX11_place_1 : decode cX11_place 1 = .ok (.iload_n 1, 1) := by decide +kernel
theorem dX11_place_2 : decode cX11_place 2 = .ok (.invokevirtual 117, 3) := by decide +kernel
theorem dX11_place_5 : decode cX11_place 5 = .ok (.ifCond .eq 8, 3) := by decide +kernel
theorem dX11_place_8 : decode cX11_place 8 = .ok (.iload_n 2, 1) := by decide +kernel
theorem dX11_place_9 : decode cX11_place 9 = .ok (.iconst (-1), 1) := by decide +kernel
theorem dX11_place_10 : decode cX11_place 10 = .ok (.if_icmp .ge 6, 3) := by decide +kernel
theorem dX11_place_13 : decode cX11_place 13 = .ok (.bipush (-2), 2) := by decide +kernel
theorem dX11_place_15 : decode cX11_place 15 = .ok (.ireturn, 1) := by decide +kernel
theorem dX11_place_16 : decode cX11_place 16 = .ok (.iload_n 2, 1) := by decide +kernel
theorem dX11_place_17 : decode cX11_place 17 = .ok (.iconst (-1), 1) := by decide +kernel
theorem dX11_place_18 : decode cX11_place 18 = .ok (.if_icmp .ne 14, 3) := by decide +kernel
theorem dX11_place_21 : decode cX11_place 21 = .ok (.aload_n 0, 1) := by decide +kernel
theorem dX11_place_22 : decode cX11_place 22 = .ok (.getfield 37, 3) := by decide +kernel
theorem dX11_place_25 : decode cX11_place 25 = .ok (.iload_n 1, 1) := by decide +kernel
theorem dX11_place_26 : decode cX11_place 26 = .ok (.invokevirtual 139, 3) := by decide +kernel
theorem dX11_place_29 : decode cX11_place 29 = .ok (.goto 12, 3) := by decide +kernel
theorem dX11_place_32 : decode cX11_place 32 = .ok (.aload_n 0, 1) := by decide +kernel
theorem dX11_place_33 : decode cX11_place 33 = .ok (.getfield 37, 3) := by decide +kernel
theorem dX11_place_36 : decode cX11_place 36 = .ok (.iload_n 1, 1) := by decide +kernel
theorem dX11_place_37 : decode cX11_place 37 = .ok (.iload_n 2, 1) := by decide +kernel
theorem dX11_place_38 : decode cX11_place 38 = .ok (.invokevirtual 142, 3) := by decide +kernel
theorem dX11_place_41 : decode cX11_place 41 = .ok (.ireturn, 1) := by decide +kernel
theorem dX11_index_0 : decode cX11_index 0 = .ok (.aload_n 0, 1) := by decide +kernel
theorem dX11_index_1 : decode cX11_index 1 = .ok (.iload_n 1, 1) := by decide +kernel
theorem dX11_index_2 : decode cX11_index 2 = .ok (.invokevirtual 117, 3) := by decide +kernel
theorem dX11_index_5 : decode cX11_index 5 = .ok (.ifCond .eq 14, 3) := by decide +kernel
theorem dX11_index_8 : decode cX11_index 8 = .ok (.aload_n 0, 1) := by decide +kernel
theorem dX11_index_9 : decode cX11_index 9 = .ok (.getfield 37, 3) := by decide +kernel
theorem dX11_index_12 : decode cX11_index 12 = .ok (.iload_n 1, 1) := by decide +kernel
theorem dX11_index_13 : decode cX11_index 13 = .ok (.invokevirtual 145, 3) := by decide +kernel
theorem dX11_index_16 : decode cX11_index 16 = .ok (.goto 4, 3) := by decide +kernel
theorem dX11_index_19 : decode cX11_index 19 = .ok (.iconst (-1), 1) := by decide +kernel
theorem dX11_index_20 : decode cX11_index 20 = .ok (.ireturn, 1) := by decide +kernel
theorem dX11_alike_0 : decode cX11_alike 0 = .ok (.aload_n 0, 1) := by decide +kernel
theorem dX11_alike_1 : decode cX11_alike 1 = .ok (.iload_n 1, 1) := by decide +kernel
theorem dX11_alike_2 : decode cX11_alike 2 = .ok (.invokevirtual 117, 3) := by decide +kernel
theorem dX11_alike_5 : decode cX11_alike 5 = .ok (.ifCond .eq 11, 3) := by decide +kernel
theorem dX11_alike_8 : decode cX11_alike 8 = .ok (.aload_n 0, 1) := by decide +kernel
theorem dX11_alike_9 : decode cX11_alike 9 = .ok (.iload_n 2, 1) := by decide +kernel
theorem dX11_alike_10 : decode cX11_alike 10 = .ok (.invokevirtual 117, 3) := by decide +kernel
theorem dX11_alike_13 : decode cX11_alike 13 = .ok (.ifCond .ne 5, 3) := by decide +kernel
theorem dX11_alike_16 : decode cX11_alike 16 = .ok (.iconst (-1), 1) := by decide +kernel
theorem dX11_alike_17 : decode cX11_alike 17 = .ok (.ireturn, 1) := by decide +kernel
theorem dX11_alike_18 : decode cX11_alike 18 = .ok (.aload_n 0, 1) := by decide +kernel
theorem dX11_alike_19 : decode cX11_alike 19 = .ok (.getfield 37, 3) := by decide +kernel
theorem dX11_alike_22 : decode cX11_alike 22 = .ok (.iload_n 1, 1) := by decide +kernel
theorem dX11_alike_23 : decode cX11_alike 23 = .ok (.iload_n 2, 1) := by decide +kernel
theorem dX11_alike_24 : decode cX11_alike 24 = .ok (.invokevirtual 148, 3) := by decide +kernel
theorem dX11_alike_27 : decode cX11_alike 27 = .ok (.ifCond .eq 7, 3) := by decide +kernel
theorem dX11_alike_30 : decode cX11_alike 30 = .ok (.iconst 1, 1) := by decide +kernel
theorem dX11_alike_31 : decode cX11_alike 31 = .ok (.goto 4, 3) := by decide +kernel
theorem dX11_alike_34 : decode cX11_alike 34 = .ok (.iconst 0, 1) := by decide +kernel
theorem dX11_alike_35 : decode cX11_alike 35 = .ok (.ireturn, 1) := by decide +kernel
theorem dX11_classes_0 : decode cX11_classes 0 = .ok (.iconst 0, 1) := by decide +kernel
theorem dX11_classes_1 : decode cX11_classes 1 = .ok (.istore_n 1, 1) := by decide +kernel
theorem dX11_classes_2 : decode cX11_classes 2 = .ok (.iconst 0, 1) := by decide +kernel
theorem dX11_classes_3 : decode cX11_classes 3 = .ok (.istore_n 2, 1) := by decide +kernel
theorem dX11_classes_4 : decode cX11_classes 4 = .ok (.iload_n 2, 1) := by decide +kernel
theorem dX11_classes_5 : decode cX11_classes 5 = .ok (.aload_n 0, 1) := by decide +kernel
theorem dX11_classes_6 : decode cX11_classes 6 = .ok (.getfield 27, 3) := by decide +kernel
theorem dX11_classes_9 : decode cX11_classes 9 = .ok (.invokevirtual 91, 3) := by decide +kernel
theorem dX11_classes_12 : decode cX11_classes 12 = .ok (.if_icmp .ge 61, 3) := by decide +kernel
theorem dX11_classes_15 : decode cX11_classes 15 = .ok (.iconst 1, 1) := by decide +kernel
theorem dX11_classes_16 : decode cX11_classes 16 = .ok (.istore_n 3, 1) := by decide +kernel
theorem dX11_classes_17 : decode cX11_classes 17 = .ok (.iconst 0, 1) := by decide +kernel
theorem dX11_classes_18 : decode cX11_classes 18 = .ok (.istore 4, 2) := by decide +kernel
theorem dX11_classes_20 : decode cX11_classes 20 = .ok (.iload 4, 2) := by decide +kernel
theorem dX11_classes_22 : decode cX11_classes 22 = .ok (.iload_n 2, 1) := by decide +kernel
theorem dX11_classes_23 : decode cX11_classes 23 = .ok (.if_icmp .ge 32, 3) := by decide +kernel
theorem dX11_classes_26 : decode cX11_classes 26 = .ok (.iload_n 3, 1) := by decide +kernel
theorem dX11_classes_27 : decode cX11_classes 27 = .ok (.ifCond .eq 28, 3) := by decide +kernel
theorem dX11_classes_30 : decode cX11_classes 30 = .ok (.aload_n 0, 1) := by decide +kernel
theorem dX11_classes_31 : decode cX11_classes 31 = .ok (.getfield 37, 3) := by decide +kernel
theorem dX11_classes_34 : decode cX11_classes 34 = .ok (.iload_n 2, 1) := by decide +kernel
theorem dX11_classes_35 : decode cX11_classes 35 = .ok (.iload 4, 2) := by decide +kernel
theorem dX11_classes_37 : decode cX11_classes 37 = .ok (.invokevirtual 148, 3) := by decide +kernel
theorem dX11_classes_40 : decode cX11_classes 40 = .ok (.ifCond .ne 7, 3) := by decide +kernel
theorem dX11_classes_43 : decode cX11_classes 43 = .ok (.iconst 1, 1) := by decide +kernel
theorem dX11_classes_44 : decode cX11_classes 44 = .ok (.goto 4, 3) := by decide +kernel
theorem dX11_classes_47 : decode cX11_classes 47 = .ok (.iconst 0, 1) := by decide +kernel
theorem dX11_classes_48 : decode cX11_classes 48 = .ok (.istore_n 3, 1) := by decide +kernel
theorem dX11_classes_49 : decode cX11_classes 49 = .ok (.iinc 4 1, 3) := by decide +kernel
theorem dX11_classes_52 : decode cX11_classes 52 = .ok (.goto (-32), 3) := by decide +kernel
theorem dX11_classes_55 : decode cX11_classes 55 = .ok (.iload_n 1, 1) := by decide +kernel
theorem dX11_classes_56 : decode cX11_classes 56 = .ok (.iload_n 3, 1) := by decide +kernel
theorem dX11_classes_57 : decode cX11_classes 57 = .ok (.ifCond .eq 7, 3) := by decide +kernel
theorem dX11_classes_60 : decode cX11_classes 60 = .ok (.iconst 1, 1) := by decide +kernel
theorem dX11_classes_61 : decode cX11_classes 61 = .ok (.goto 4, 3) := by decide +kernel
theorem dX11_classes_64 : decode cX11_classes 64 = .ok (.iconst 0, 1) := by decide +kernel
theorem dX11_classes_65 : decode cX11_classes 65 = .ok (.iadd, 1) := by decide +kernel
theorem dX11_classes_66 : decode cX11_classes 66 = .ok (.istore_n 1, 1) := by decide +kernel
theorem dX11_classes_67 : decode cX11_classes 67 = .ok (.iinc 2 1, 3) := by decide +kernel
theorem dX11_classes_70 : decode cX11_classes 70 = .ok (.goto (-66), 3) := by decide +kernel
theorem dX11_classes_73 : decode cX11_classes 73 = .ok (.iload_n 1, 1) := by decide +kernel
theorem dX11_classes_74 : decode cX11_classes 74 = .ok (.ireturn, 1) := by decide +kernel
theorem dX11_isSlot_0 : decode cX11_isSlot 0 = .ok (.iload_n 1, 1) := by decide +kernel
theorem dX11_isSlot_1 : decode cX11_isSlot 1 = .ok (.ifCond .lt 13, 3) := by decide +kernel
theorem dX11_isSlot_4 : decode cX11_isSlot 4 = .ok (.iload_n 1, 1) := by decide +kernel
theorem dX11_isSlot_5 : decode cX11_isSlot 5 = .ok (.bipush 8, 2) := by decide +kernel
theorem dX11_isSlot_7 : decode cX11_isSlot 7 = .ok (.if_icmp .ge 7, 3) := by decide +kernel
theorem dX11_isSlot_10 : decode cX11_isSlot 10 = .ok (.iconst 1, 1) := by decide +kernel
theorem dX11_isSlot_11 : decode cX11_isSlot 11 = .ok (.goto 4, 3) := by decide +kernel
theorem dX11_isSlot_14 : decode cX11_isSlot 14 = .ok (.iconst 0, 1) := by decide +kernel
theorem dX11_isSlot_15 : decode cX11_isSlot 15 = .ok (.ireturn, 1) := by decide +kernel
theorem dX11_keep_0 : decode cX11_keep 0 = .ok (.aload_n 0, 1) := by decide +kernel
theorem dX11_keep_1 : decode cX11_keep 1 = .ok (.getfield 43, 3) := by decide +kernel
theorem dX11_keep_4 : decode cX11_keep 4 = .ok (.iload_n 1, 1) := by decide +kernel
theorem dX11_keep_5 : decode cX11_keep 5 = .ok (.aaload, 1) := by decide +kernel
theorem dX11_keep_6 : decode cX11_keep 6 = .ok (.iload_n 2, 1) := by decide +kernel
theorem dX11_keep_7 : decode cX11_keep 7 = .ok (.aload_n 0, 1) := by decide +kernel
theorem dX11_keep_8 : decode cX11_keep 8 = .ok (.getfield 74, 3) := by decide +kernel
theorem dX11_keep_11 : decode cX11_keep 11 = .ok (.lload_n 3, 1) := by decide +kernel
theorem dX11_keep_12 : decode cX11_keep 12 = .ok (.invokevirtual 203, 3) := by decide +kernel
theorem dX11_keep_15 : decode cX11_keep 15 = .ok (.ifCond .eq 7, 3) := by decide +kernel
theorem dX11_keep_18 : decode cX11_keep 18 = .ok (.iconst 0, 1) := by decide +kernel
theorem dX11_keep_19 : decode cX11_keep 19 = .ok (.goto 5, 3) := by decide +kernel
theorem dX11_keep_22 : decode cX11_keep 22 = .ok (.bipush (-3), 2) := by decide +kernel
theorem dX11_keep_24 : decode cX11_keep 24 = .ok (.ireturn, 1) := by decide +kernel
theorem dX11_tell_0 : decode cX11_tell 0 = .ok (.aload_n 0, 1) := by decide +kernel
theorem dX11_tell_1 : decode cX11_tell 1 = .ok (.iload_n 1, 1) := by decide +kernel
theorem dX11_tell_2 : decode cX11_tell 2 = .ok (.invokevirtual 152, 3) := by decide +kernel
theorem dX11_tell_5 : decode cX11_tell 5 = .ok (.ifCond .eq 11, 3) := by decide +kernel
theorem dX11_tell_8 : decode cX11_tell 8 = .ok (.aload_n 0, 1) := by decide +kernel
theorem dX11_tell_9 : decode cX11_tell 9 = .ok (.iload_n 2, 1) := by decide +kernel
theorem dX11_tell_10 : decode cX11_tell 10 = .ok (.invokevirtual 102, 3) := by decide +kernel
theorem dX11_tell_13 : decode cX11_tell 13 = .ok (.ifCond .ne 5, 3) := by decide +kernel
theorem dX11_tell_16 : decode cX11_tell 16 = .ok (.iconst 0, 1) := by decide +kernel
theorem dX11_tell_17 : decode cX11_tell 17 = .ok (.ireturn, 1) := by decide +kernel
theorem dX11_tell_18 : decode cX11_tell 18 = .ok (.aload_n 0, 1) := by decide +kernel
theorem dX11_tell_19 : decode cX11_tell 19 = .ok (.getfield 74, 3) := by decide +kernel
theorem dX11_tell_22 : decode cX11_tell 22 = .ok (.iconst 0, 1) := by decide +kernel
theorem dX11_tell_23 : decode cX11_tell 23 = .ok (.iload_n 3, 1) := by decide +kernel
theorem dX11_tell_24 : decode cX11_tell 24 = .ok (.i2l, 1) := by decide +kernel
theorem dX11_tell_25 : decode cX11_tell 25 = .ok (.lastore, 1) := by decide +kernel
theorem dX11_tell_26 : decode cX11_tell 26 = .ok (.aload_n 0, 1) := by decide +kernel
theorem dX11_tell_27 : decode cX11_tell 27 = .ok (.getfield 74, 3) := by decide +kernel
theorem dX11_tell_30 : decode cX11_tell 30 = .ok (.iconst 1, 1) := by decide +kernel
theorem dX11_tell_31 : decode cX11_tell 31 = .ok (.iload 4, 2) := by decide +kernel
theorem dX11_tell_33 : decode cX11_tell 33 = .ok (.i2l, 1) := by decide +kernel
theorem dX11_tell_34 : decode cX11_tell 34 = .ok (.lastore, 1) := by decide +kernel
theorem dX11_tell_35 : decode cX11_tell 35 = .ok (.aload_n 0, 1) := by decide +kernel
theorem dX11_tell_36 : decode cX11_tell 36 = .ok (.getfield 74, 3) := by decide +kernel
theorem dX11_tell_39 : decode cX11_tell 39 = .ok (.iconst 2, 1) := by decide +kernel
theorem dX11_tell_40 : decode cX11_tell 40 = .ok (.iload 5, 2) := by decide +kernel
theorem dX11_tell_42 : decode cX11_tell 42 = .ok (.i2l, 1) := by decide +kernel
theorem dX11_tell_43 : decode cX11_tell 43 = .ok (.lastore, 1) := by decide +kernel
theorem dX11_tell_44 : decode cX11_tell 44 = .ok (.aload_n 0, 1) := by decide +kernel
theorem dX11_tell_45 : decode cX11_tell 45 = .ok (.getfield 74, 3) := by decide +kernel
theorem dX11_tell_48 : decode cX11_tell 48 = .ok (.iconst 3, 1) := by decide +kernel
theorem dX11_tell_49 : decode cX11_tell 49 = .ok (.iload 6, 2) := by decide +kernel
theorem dX11_tell_51 : decode cX11_tell 51 = .ok (.i2l, 1) := by decide +kernel
theorem dX11_tell_52 : decode cX11_tell 52 = .ok (.lastore, 1) := by decide +kernel
theorem dX11_tell_53 : decode cX11_tell 53 = .ok (.aload_n 0, 1) := by decide +kernel
theorem dX11_tell_54 : decode cX11_tell 54 = .ok (.iload_n 1, 1) := by decide +kernel
theorem dX11_tell_55 : decode cX11_tell 55 = .ok (.iload_n 2, 1) := by decide +kernel
theorem dX11_tell_56 : decode cX11_tell 56 = .ok (.lconst 1, 1) := by decide +kernel
theorem dX11_tell_57 : decode cX11_tell 57 = .ok (.invokevirtual 155, 3) := by decide +kernel
theorem dX11_tell_60 : decode cX11_tell 60 = .ok (.ifCond .ne 7, 3) := by decide +kernel
theorem dX11_tell_63 : decode cX11_tell 63 = .ok (.iconst 1, 1) := by decide +kernel
theorem dX11_tell_64 : decode cX11_tell 64 = .ok (.goto 4, 3) := by decide +kernel
theorem dX11_tell_67 : decode cX11_tell 67 = .ok (.iconst 0, 1) := by decide +kernel
theorem dX11_tell_68 : decode cX11_tell 68 = .ok (.ireturn, 1) := by decide +kernel
theorem dX11_isKept_0 : decode cX11_isKept 0 = .ok (.aload_n 0, 1) := by decide +kernel
theorem dX11_isKept_1 : decode cX11_isKept 1 = .ok (.iload_n 1, 1) := by decide +kernel
theorem dX11_isKept_2 : decode cX11_isKept 2 = .ok (.invokevirtual 152, 3) := by decide +kernel
theorem dX11_isKept_5 : decode cX11_isKept 5 = .ok (.ifCond .eq 19, 3) := by decide +kernel
theorem dX11_isKept_8 : decode cX11_isKept 8 = .ok (.aload_n 0, 1) := by decide +kernel
theorem dX11_isKept_9 : decode cX11_isKept 9 = .ok (.getfield 43, 3) := by decide +kernel
theorem dX11_isKept_12 : decode cX11_isKept 12 = .ok (.iload_n 1, 1) := by decide +kernel
theorem dX11_isKept_13 : decode cX11_isKept 13 = .ok (.aaload, 1) := by decide +kernel
theorem dX11_isKept_14 : decode cX11_isKept 14 = .ok (.invokevirtual 199, 3) := by decide +kernel
theorem dX11_isKept_17 : decode cX11_isKept 17 = .ok (.ifCond .eq 7, 3) := by decide +kernel
theorem dX11_isKept_20 : decode cX11_isKept 20 = .ok (.iconst 1, 1) := by decide +kernel
theorem dX11_isKept_21 : decode cX11_isKept 21 = .ok (.goto 4, 3) := by decide +kernel
theorem dX11_isKept_24 : decode cX11_isKept 24 = .ok (.iconst 0, 1) := by decide +kernel
theorem dX11_isKept_25 : decode cX11_isKept 25 = .ok (.ireturn, 1) := by decide +kernel
theorem dX11_over_0 : decode cX11_over 0 = .ok (.aload_n 0, 1) := by decide +kernel
theorem dX11_over_1 : decode cX11_over 1 = .ok (.iload_n 1, 1) := by decide +kernel
theorem dX11_over_2 : decode cX11_over 2 = .ok (.invokevirtual 159, 3) := by decide +kernel
theorem dX11_over_5 : decode cX11_over 5 = .ok (.ifCond .eq 15, 3) := by decide +kernel
theorem dX11_over_8 : decode cX11_over 8 = .ok (.iload_n 2, 1) := by decide +kernel
theorem dX11_over_9 : decode cX11_over 9 = .ok (.iconst 1, 1) := by decide +kernel
theorem dX11_over_10 : decode cX11_over 10 = .ok (.if_icmp .lt 10, 3) := by decide +kernel
theorem dX11_over_13 : decode cX11_over 13 = .ok (.iload_n 2, 1) := by decide +kernel
theorem dX11_over_14 : decode cX11_over 14 = .ok (.sipush 1000, 3) := by decide +kernel
theorem dX11_over_17 : decode cX11_over 17 = .ok (.if_icmp .le 5, 3) := by decide +kernel
theorem dX11_over_20 : decode cX11_over 20 = .ok (.iconst (-1), 1) := by decide +kernel
theorem dX11_over_21 : decode cX11_over 21 = .ok (.ireturn, 1) := by decide +kernel
theorem dX11_over_22 : decode cX11_over 22 = .ok (.aload_n 0, 1) := by decide +kernel
theorem dX11_over_23 : decode cX11_over 23 = .ok (.getfield 43, 3) := by decide +kernel
theorem dX11_over_26 : decode cX11_over 26 = .ok (.iload_n 1, 1) := by decide +kernel
theorem dX11_over_27 : decode cX11_over 27 = .ok (.aaload, 1) := by decide +kernel
theorem dX11_over_28 : decode cX11_over 28 = .ok (.astore_n 3, 1) := by decide +kernel
theorem dX11_over_29 : decode cX11_over 29 = .ok (.iconst 0, 1) := by decide +kernel
theorem dX11_over_30 : decode cX11_over 30 = .ok (.istore 4, 2) := by decide +kernel
theorem dX11_over_32 : decode cX11_over 32 = .ok (.iload 4, 2) := by decide +kernel
theorem dX11_over_34 : decode cX11_over 34 = .ok (.iconst 4, 1) := by decide +kernel
theorem dX11_over_35 : decode cX11_over 35 = .ok (.if_icmp .ge 23, 3) := by decide +kernel
theorem dX11_over_38 : decode cX11_over 38 = .ok (.aload_n 0, 1) := by decide +kernel
theorem dX11_over_39 : decode cX11_over 39 = .ok (.getfield 74, 3) := by decide +kernel
theorem dX11_over_42 : decode cX11_over 42 = .ok (.iload 4, 2) := by decide +kernel
theorem dX11_over_44 : decode cX11_over 44 = .ok (.aload_n 3, 1) := by decide +kernel
theorem dX11_over_45 : decode cX11_over 45 = .ok (.getfield 162, 3) := by decide +kernel
theorem dX11_over_48 : decode cX11_over 48 = .ok (.iload 4, 2) := by decide +kernel
theorem dX11_over_50 : decode cX11_over 50 = .ok (.laload, 1) := by decide +kernel
theorem dX11_over_51 : decode cX11_over 51 = .ok (.lastore, 1) := by decide +kernel
theorem dX11_over_52 : decode cX11_over 52 = .ok (.iinc 4 1, 3) := by decide +kernel
theorem dX11_over_55 : decode cX11_over 55 = .ok (.goto (-23), 3) := by decide +kernel
theorem dX11_over_58 : decode cX11_over 58 = .ok (.aload_n 0, 1) := by decide +kernel
theorem dX11_over_59 : decode cX11_over 59 = .ok (.iload_n 1, 1) := by decide +kernel
theorem dX11_over_60 : decode cX11_over 60 = .ok (.aload_n 3, 1) := by decide +kernel
theorem dX11_over_61 : decode cX11_over 61 = .ok (.getfield 165, 3) := by decide +kernel
theorem dX11_over_64 : decode cX11_over 64 = .ok (.aload_n 3, 1) := by decide +kernel
theorem dX11_over_65 : decode cX11_over 65 = .ok (.getfield 168, 3) := by decide +kernel
theorem dX11_over_68 : decode cX11_over 68 = .ok (.iload_n 2, 1) := by decide +kernel
theorem dX11_over_69 : decode cX11_over 69 = .ok (.i2l, 1) := by decide +kernel
theorem dX11_over_70 : decode cX11_over 70 = .ok (.lmul, 1) := by decide +kernel
theorem dX11_over_71 : decode cX11_over 71 = .ok (.invokevirtual 155, 3) := by decide +kernel
theorem dX11_over_74 : decode cX11_over 74 = .ok (.ireturn, 1) := by decide +kernel
theorem dX11_isPair_0 : decode cX11_isPair 0 = .ok (.aload_n 0, 1) := by decide +kernel
theorem dX11_isPair_1 : decode cX11_isPair 1 = .ok (.iload_n 1, 1) := by decide +kernel
theorem dX11_isPair_2 : decode cX11_isPair 2 = .ok (.invokevirtual 159, 3) := by decide +kernel
theorem dX11_isPair_5 : decode cX11_isPair 5 = .ok (.ifCond .eq 36, 3) := by decide +kernel
theorem dX11_isPair_8 : decode cX11_isPair 8 = .ok (.aload_n 0, 1) := by decide +kernel
theorem dX11_isPair_9 : decode cX11_isPair 9 = .ok (.iload_n 2, 1) := by decide +kernel
theorem dX11_isPair_10 : decode cX11_isPair 10 = .ok (.invokevirtual 159, 3) := by decide +kernel
theorem dX11_isPair_13 : decode cX11_isPair 13 = .ok (.ifCond .eq 28, 3) := by decide +kernel
theorem dX11_isPair_16 : decode cX11_isPair 16 = .ok (.aload_n 0, 1) := by decide +kernel
theorem dX11_isPair_17 : decode cX11_isPair 17 = .ok (.getfield 43, 3) := by decide +kernel
theorem dX11_isPair_20 : decode cX11_isPair 20 = .ok (.iload_n 1, 1) := by decide +kernel
theorem dX11_isPair_21 : decode cX11_isPair 21 = .ok (.aaload, 1) := by decide +kernel
theorem dX11_isPair_22 : decode cX11_isPair 22 = .ok (.getfield 165, 3) := by decide +kernel
theorem dX11_isPair_25 : decode cX11_isPair 25 = .ok (.aload_n 0, 1) := by decide +kernel
theorem dX11_isPair_26 : decode cX11_isPair 26 = .ok (.getfield 43, 3) := by decide +kernel
theorem dX11_isPair_29 : decode cX11_isPair 29 = .ok (.iload_n 2, 1) := by decide +kernel
theorem dX11_isPair_30 : decode cX11_isPair 30 = .ok (.aaload, 1) := by decide +kernel
theorem dX11_isPair_31 : decode cX11_isPair 31 = .ok (.getfield 165, 3) := by decide +kernel
theorem dX11_isPair_34 : decode cX11_isPair 34 = .ok (.if_icmp .ne 7, 3) := by decide +kernel
theorem dX11_isPair_37 : decode cX11_isPair 37 = .ok (.iconst 1, 1) := by decide +kernel
theorem dX11_isPair_38 : decode cX11_isPair 38 = .ok (.goto 4, 3) := by decide +kernel
theorem dX11_isPair_41 : decode cX11_isPair 41 = .ok (.iconst 0, 1) := by decide +kernel
theorem dX11_isPair_42 : decode cX11_isPair 42 = .ok (.ireturn, 1) := by decide +kernel
theorem dX11_times_0 : decode cX11_times 0 = .ok (.aload_n 0, 1) := by decide +kernel
theorem dX11_times_1 : decode cX11_times 1 = .ok (.iload_n 1, 1) := by decide +kernel
theorem dX11_times_2 : decode cX11_times 2 = .ok (.iload_n 2, 1) := by decide +kernel
theorem dX11_times_3 : decode cX11_times 3 = .ok (.invokevirtual 172, 3) := by decide +kernel
theorem dX11_times_6 : decode cX11_times 6 = .ok (.ifCond .eq 11, 3) := by decide +kernel
theorem dX11_times_9 : decode cX11_times 9 = .ok (.aload_n 0, 1) := by decide +kernel
theorem dX11_times_10 : decode cX11_times 10 = .ok (.iload_n 3, 1) := by decide +kernel
theorem dX11_times_11 : decode cX11_times 11 = .ok (.invokevirtual 152, 3) := by decide +kernel
theorem dX11_times_14 : decode cX11_times 14 = .ok (.ifCond .ne 5, 3) := by decide +kernel
theorem dX11_times_17 : decode cX11_times 17 = .ok (.iconst (-1), 1) := by decide +kernel
theorem dX11_times_18 : decode cX11_times 18 = .ok (.ireturn, 1) := by decide +kernel
theorem dX11_times_19 : decode cX11_times 19 = .ok (.aload_n 0, 1) := by decide +kernel
theorem dX11_times_20 : decode cX11_times 20 = .ok (.getfield 43, 3) := by decide +kernel
theorem dX11_times_23 : decode cX11_times 23 = .ok (.iload_n 1, 1) := by decide +kernel
theorem dX11_times_24 : decode cX11_times 24 = .ok (.aaload, 1) := by decide +kernel
theorem dX11_times_25 : decode cX11_times 25 = .ok (.astore 4, 2) := by decide +kernel
theorem dX11_times_27 : decode cX11_times 27 = .ok (.aload_n 0, 1) := by decide +kernel
theorem dX11_times_28 : decode cX11_times 28 = .ok (.getfield 43, 3) := by decide +kernel
theorem dX11_times_31 : decode cX11_times 31 = .ok (.iload_n 2, 1) := by decide +kernel
theorem dX11_times_32 : decode cX11_times 32 = .ok (.aaload, 1) := by decide +kernel
theorem dX11_times_33 : decode cX11_times 33 = .ok (.astore 5, 2) := by decide +kernel
theorem dX11_times_35 : decode cX11_times 35 = .ok (.aload 4, 2) := by decide +kernel
theorem dX11_times_37 : decode cX11_times 37 = .ok (.getfield 165, 3) := by decide +kernel
theorem dX11_times_40 : decode cX11_times 40 = .ok (.istore 6, 2) := by decide +kernel
theorem dX11_times_42 : decode cX11_times 42 = .ok (.aload_n 0, 1) := by decide +kernel
theorem dX11_times_43 : decode cX11_times 43 = .ok (.getfield 27, 3) := by decide +kernel
theorem dX11_times_46 : decode cX11_times 46 = .ok (.iload 6, 2) := by decide +kernel
theorem dX11_times_48 : decode cX11_times 48 = .ok (.invokevirtual 106, 3) := by decide +kernel
theorem dX11_times_51 : decode cX11_times 51 = .ok (.i2l, 1) := by decide +kernel
theorem dX11_times_52 : decode cX11_times 52 = .ok (.aload_n 0, 1) := by decide +kernel
theorem dX11_times_53 : decode cX11_times 53 = .ok (.getfield 27, 3) := by decide +kernel
theorem dX11_times_56 : decode cX11_times 56 = .ok (.iload 6, 2) := by decide +kernel
theorem dX11_times_58 : decode cX11_times 58 = .ok (.invokevirtual 110, 3) := by decide +kernel
theorem dX11_times_61 : decode cX11_times 61 = .ok (.i2l, 1) := by decide +kernel
theorem dX11_times_62 : decode cX11_times 62 = .ok (.aload 4, 2) := by decide +kernel
theorem dX11_times_64 : decode cX11_times 64 = .ok (.getfield 162, 3) := by decide +kernel
theorem dX11_times_67 : decode cX11_times 67 = .ok (.aload 5, 2) := by decide +kernel
theorem dX11_times_69 : decode cX11_times 69 = .ok (.getfield 162, 3) := by decide +kernel
theorem dX11_times_72 : decode cX11_times 72 = .ok (.aload_n 0, 1) := by decide +kernel
theorem dX11_times_73 : decode cX11_times 73 = .ok (.getfield 74, 3) := by decide +kernel
theorem dX11_times_76 : decode cX11_times 76 = .ok (.invokestatic 175, 3) := by decide +kernel
theorem dX11_times_79 : decode cX11_times 79 = .ok (.aload_n 0, 1) := by decide +kernel
theorem dX11_times_80 : decode cX11_times 80 = .ok (.iload_n 3, 1) := by decide +kernel
theorem dX11_times_81 : decode cX11_times 81 = .ok (.iload 6, 2) := by decide +kernel
theorem dX11_times_83 : decode cX11_times 83 = .ok (.aload 4, 2) := by decide +kernel
theorem dX11_times_85 : decode cX11_times 85 = .ok (.getfield 168, 3) := by decide +kernel
theorem dX11_times_88 : decode cX11_times 88 = .ok (.aload 5, 2) := by decide +kernel
theorem dX11_times_90 : decode cX11_times 90 = .ok (.getfield 168, 3) := by decide +kernel
theorem dX11_times_93 : decode cX11_times 93 = .ok (.lmul, 1) := by decide +kernel
theorem dX11_times_94 : decode cX11_times 94 = .ok (.invokevirtual 155, 3) := by decide +kernel
theorem dX11_times_97 : decode cX11_times 97 = .ok (.ireturn, 1) := by decide +kernel
theorem dX11_plus_0 : decode cX11_plus 0 = .ok (.aload_n 0, 1) := by decide +kernel
theorem dX11_plus_1 : decode cX11_plus 1 = .ok (.iload_n 1, 1) := by decide +kernel
theorem dX11_plus_2 : decode cX11_plus 2 = .ok (.iload_n 2, 1) := by decide +kernel
theorem dX11_plus_3 : decode cX11_plus 3 = .ok (.invokevirtual 172, 3) := by decide +kernel
theorem dX11_plus_6 : decode cX11_plus 6 = .ok (.ifCond .eq 26, 3) := by decide +kernel
theorem dX11_plus_9 : decode cX11_plus 9 = .ok (.aload_n 0, 1) := by decide +kernel
theorem dX11_plus_10 : decode cX11_plus 10 = .ok (.iload 4, 2) := by decide +kernel
theorem dX11_plus_12 : decode cX11_plus 12 = .ok (.invokevirtual 152, 3) := by decide +kernel
theorem dX11_plus_15 : decode cX11_plus 15 = .ok (.ifCond .eq 17, 3) := by decide +kernel
theorem dX11_plus_18 : decode cX11_plus 18 = .ok (.iload_n 3, 1) := by decide +kernel
theorem dX11_plus_19 : decode cX11_plus 19 = .ok (.sipush (-1000), 3) := by decide +kernel
theorem dX11_plus_22 : decode cX11_plus 22 = .ok (.if_icmp .lt 10, 3) := by decide +kernel
theorem dX11_plus_25 : decode cX11_plus 25 = .ok (.iload_n 3, 1) := by decide +kernel
theorem dX11_plus_26 : decode cX11_plus 26 = .ok (.sipush 1000, 3) := by decide +kernel
theorem dX11_plus_29 : decode cX11_plus 29 = .ok (.if_icmp .le 5, 3) := by decide +kernel
theorem dX11_plus_32 : decode cX11_plus 32 = .ok (.iconst (-1), 1) := by decide +kernel
theorem dX11_plus_33 : decode cX11_plus 33 = .ok (.ireturn, 1) := by decide +kernel
theorem dX11_plus_34 : decode cX11_plus 34 = .ok (.aload_n 0, 1) := by decide +kernel
theorem dX11_plus_35 : decode cX11_plus 35 = .ok (.getfield 43, 3) := by decide +kernel
theorem dX11_plus_38 : decode cX11_plus 38 = .ok (.iload_n 1, 1) := by decide +kernel
theorem dX11_plus_39 : decode cX11_plus 39 = .ok (.aaload, 1) := by decide +kernel
theorem dX11_plus_40 : decode cX11_plus 40 = .ok (.astore 5, 2) := by decide +kernel
theorem dX11_plus_42 : decode cX11_plus 42 = .ok (.aload_n 0, 1) := by decide +kernel
theorem dX11_plus_43 : decode cX11_plus 43 = .ok (.getfield 43, 3) := by decide +kernel
theorem dX11_plus_46 : decode cX11_plus 46 = .ok (.iload_n 2, 1) := by decide +kernel
theorem dX11_plus_47 : decode cX11_plus 47 = .ok (.aaload, 1) := by decide +kernel
theorem dX11_plus_48 : decode cX11_plus 48 = .ok (.astore 6, 2) := by decide +kernel
theorem dX11_plus_50 : decode cX11_plus 50 = .ok (.iconst 0, 1) := by decide +kernel
theorem dX11_plus_51 : decode cX11_plus 51 = .ok (.istore 7, 2) := by decide +kernel
theorem dX11_plus_53 : decode cX11_plus 53 = .ok (.iload 7, 2) := by decide +kernel
theorem dX11_plus_55 : decode cX11_plus 55 = .ok (.iconst 4, 1) := by decide +kernel
theorem dX11_plus_56 : decode cX11_plus 56 = .ok (.if_icmp .ge 48, 3) := by decide +kernel
theorem dX11_plus_59 : decode cX11_plus 59 = .ok (.aload_n 0, 1) := by decide +kernel
theorem dX11_plus_60 : decode cX11_plus 60 = .ok (.getfield 74, 3) := by decide +kernel
theorem dX11_plus_63 : decode cX11_plus 63 = .ok (.iload 7, 2) := by decide +kernel
theorem dX11_plus_65 : decode cX11_plus 65 = .ok (.aload 5, 2) := by decide +kernel
theorem dX11_plus_67 : decode cX11_plus 67 = .ok (.getfield 162, 3) := by decide +kernel
theorem dX11_plus_70 : decode cX11_plus 70 = .ok (.iload 7, 2) := by decide +kernel
theorem dX11_plus_72 : decode cX11_plus 72 = .ok (.laload, 1) := by decide +kernel
theorem dX11_plus_73 : decode cX11_plus 73 = .ok (.aload 6, 2) := by decide +kernel
theorem dX11_plus_75 : decode cX11_plus 75 = .ok (.getfield 168, 3) := by decide +kernel
theorem dX11_plus_78 : decode cX11_plus 78 = .ok (.lmul, 1) := by decide +kernel
theorem dX11_plus_79 : decode cX11_plus 79 = .ok (.iload_n 3, 1) := by decide +kernel
theorem dX11_plus_80 : decode cX11_plus 80 = .ok (.i2l, 1) := by decide +kernel
theorem dX11_plus_81 : decode cX11_plus 81 = .ok (.aload 6, 2) := by decide +kernel
theorem dX11_plus_83 : decode cX11_plus 83 = .ok (.getfield 162, 3) := by decide +kernel
theorem dX11_plus_86 : decode cX11_plus 86 = .ok (.iload 7, 2) := by decide +kernel
theorem dX11_plus_88 : decode cX11_plus 88 = .ok (.laload, 1) := by decide +kernel
theorem dX11_plus_89 : decode cX11_plus 89 = .ok (.lmul, 1) := by decide +kernel
theorem dX11_plus_90 : decode cX11_plus 90 = .ok (.aload 5, 2) := by decide +kernel
theorem dX11_plus_92 : decode cX11_plus 92 = .ok (.getfield 168, 3) := by decide +kernel
theorem dX11_plus_95 : decode cX11_plus 95 = .ok (.lmul, 1) := by decide +kernel
theorem dX11_plus_96 : decode cX11_plus 96 = .ok (.ladd, 1) := by decide +kernel
theorem dX11_plus_97 : decode cX11_plus 97 = .ok (.lastore, 1) := by decide +kernel
theorem dX11_plus_98 : decode cX11_plus 98 = .ok (.iinc 7 1, 3) := by decide +kernel
theorem dX11_plus_101 : decode cX11_plus 101 = .ok (.goto (-48), 3) := by decide +kernel
theorem dX11_plus_104 : decode cX11_plus 104 = .ok (.aload_n 0, 1) := by decide +kernel
theorem dX11_plus_105 : decode cX11_plus 105 = .ok (.iload 4, 2) := by decide +kernel
theorem dX11_plus_107 : decode cX11_plus 107 = .ok (.aload 5, 2) := by decide +kernel
theorem dX11_plus_109 : decode cX11_plus 109 = .ok (.getfield 165, 3) := by decide +kernel
theorem dX11_plus_112 : decode cX11_plus 112 = .ok (.aload 5, 2) := by decide +kernel
theorem dX11_plus_114 : decode cX11_plus 114 = .ok (.getfield 168, 3) := by decide +kernel
theorem dX11_plus_117 : decode cX11_plus 117 = .ok (.aload 6, 2) := by decide +kernel
theorem dX11_plus_119 : decode cX11_plus 119 = .ok (.getfield 168, 3) := by decide +kernel
theorem dX11_plus_122 : decode cX11_plus 122 = .ok (.lmul, 1) := by decide +kernel
theorem dX11_plus_123 : decode cX11_plus 123 = .ok (.invokevirtual 155, 3) := by decide +kernel
theorem dX11_plus_126 : decode cX11_plus 126 = .ok (.ireturn, 1) := by decide +kernel
theorem dX11_mirror_0 : decode cX11_mirror 0 = .ok (.aload_n 0, 1) := by decide +kernel
theorem dX11_mirror_1 : decode cX11_mirror 1 = .ok (.iload_n 1, 1) := by decide +kernel
theorem dX11_mirror_2 : decode cX11_mirror 2 = .ok (.invokevirtual 159, 3) := by decide +kernel
theorem dX11_mirror_5 : decode cX11_mirror 5 = .ok (.ifCond .eq 11, 3) := by decide +kernel
theorem dX11_mirror_8 : decode cX11_mirror 8 = .ok (.aload_n 0, 1) := by decide +kernel
theorem dX11_mirror_9 : decode cX11_mirror 9 = .ok (.iload_n 2, 1) := by decide +kernel
theorem dX11_mirror_10 : decode cX11_mirror 10 = .ok (.invokevirtual 152, 3) := by decide +kernel
theorem dX11_mirror_13 : decode cX11_mirror 13 = .ok (.ifCond .ne 5, 3) := by decide +kernel
theorem dX11_mirror_16 : decode cX11_mirror 16 = .ok (.iconst (-1), 1) := by decide +kernel
theorem dX11_mirror_17 : decode cX11_mirror 17 = .ok (.ireturn, 1) := by decide +kernel
theorem dX11_mirror_18 : decode cX11_mirror 18 = .ok (.aload_n 0, 1) := by decide +kernel
theorem dX11_mirror_19 : decode cX11_mirror 19 = .ok (.getfield 43, 3) := by decide +kernel
theorem dX11_mirror_22 : decode cX11_mirror 22 = .ok (.iload_n 1, 1) := by decide +kernel
theorem dX11_mirror_23 : decode cX11_mirror 23 = .ok (.aaload, 1) := by decide +kernel
theorem dX11_mirror_24 : decode cX11_mirror 24 = .ok (.astore_n 3, 1) := by decide +kernel
theorem dX11_mirror_25 : decode cX11_mirror 25 = .ok (.aload_n 3, 1) := by decide +kernel
theorem dX11_mirror_26 : decode cX11_mirror 26 = .ok (.getfield 162, 3) := by decide +kernel
theorem dX11_mirror_29 : decode cX11_mirror 29 = .ok (.lconst 1, 1) := by decide +kernel
theorem dX11_mirror_30 : decode cX11_mirror 30 = .ok (.aload_n 0, 1) := by decide +kernel
theorem dX11_mirror_31 : decode cX11_mirror 31 = .ok (.getfield 74, 3) := by decide +kernel
theorem dX11_mirror_34 : decode cX11_mirror 34 = .ok (.invokestatic 179, 3) := by decide +kernel
theorem dX11_mirror_37 : decode cX11_mirror 37 = .ok (.aload_n 0, 1) := by decide +kernel
theorem dX11_mirror_38 : decode cX11_mirror 38 = .ok (.iload_n 2, 1) := by decide +kernel
theorem dX11_mirror_39 : decode cX11_mirror 39 = .ok (.aload_n 3, 1) := by decide +kernel
theorem dX11_mirror_40 : decode cX11_mirror 40 = .ok (.getfield 165, 3) := by decide +kernel
theorem dX11_mirror_43 : decode cX11_mirror 43 = .ok (.aload_n 3, 1) := by decide +kernel
theorem dX11_mirror_44 : decode cX11_mirror 44 = .ok (.getfield 168, 3) := by decide +kernel
theorem dX11_mirror_47 : decode cX11_mirror 47 = .ok (.invokevirtual 155, 3) := by decide +kernel
theorem dX11_mirror_50 : decode cX11_mirror 50 = .ok (.ireturn, 1) := by decide +kernel
theorem dX11_formOf_0 : decode cX11_formOf 0 = .ok (.aload_n 0, 1) := by decide +kernel
theorem dX11_formOf_1 : decode cX11_formOf 1 = .ok (.getfield 27, 3) := by decide +kernel
theorem dX11_formOf_4 : decode cX11_formOf 4 = .ok (.aload_n 1, 1) := by decide +kernel
theorem dX11_formOf_5 : decode cX11_formOf 5 = .ok (.getfield 165, 3) := by decide +kernel
theorem dX11_formOf_8 : decode cX11_formOf 8 = .ok (.invokevirtual 106, 3) := by decide +kernel
theorem dX11_formOf_11 : decode cX11_formOf 11 = .ok (.i2l, 1) := by decide +kernel
theorem dX11_formOf_12 : decode cX11_formOf 12 = .ok (.aload_n 0, 1) := by decide +kernel
theorem dX11_formOf_13 : decode cX11_formOf 13 = .ok (.getfield 27, 3) := by decide +kernel
theorem dX11_formOf_16 : decode cX11_formOf 16 = .ok (.aload_n 1, 1) := by decide +kernel
theorem dX11_formOf_17 : decode cX11_formOf 17 = .ok (.getfield 165, 3) := by decide +kernel
theorem dX11_formOf_20 : decode cX11_formOf 20 = .ok (.invokevirtual 110, 3) := by decide +kernel
theorem dX11_formOf_23 : decode cX11_formOf 23 = .ok (.i2l, 1) := by decide +kernel
theorem dX11_formOf_24 : decode cX11_formOf 24 = .ok (.aload_n 1, 1) := by decide +kernel
theorem dX11_formOf_25 : decode cX11_formOf 25 = .ok (.getfield 162, 3) := by decide +kernel
theorem dX11_formOf_28 : decode cX11_formOf 28 = .ok (.invokestatic 207, 3) := by decide +kernel
theorem dX11_formOf_31 : decode cX11_formOf 31 = .ok (.lreturn, 1) := by decide +kernel
def mX10_value_B52 (v0 : Nat) (v1 : Int) (σ : mSt) : Option (Int × mSt) := some (v1, σ)
def mX10_value_L7 (v0 : Nat) (x52 : Int → mSt → Option (Int × mSt)) : Nat → Int → Int → mSt → Option (Int × mSt)
  | 0, _, _, _ => none
  | n + 1, v1, v3, σ => if wI (σ v0 3) ≤ wI v3 then (x52 v1 σ) else if wI (σ v0 4) = 2 then (mRef (σ v0 0) fun r3 => mG (ixOK r3 22 v3) <| mCall (mJ9_min_f86c9 ((v1 * 10) + (wI ((σ r3 (wI v3).toNat) - 48))) 1000000 σ) fun b6 s7 => bnd (v3 + 1) fun a9 => mX10_value_L7 v0 x52 n b6 a9 s7) else x52 v1 σ
def mX10_value (v0 : Nat) (σ : mSt) : Option (Int × mSt) := mG (isC v0 9) <| bnd (σ v0 2) fun a11 => mX10_value_L7 v0 (fun z1 zσ => mX10_value_B52 v0 z1 zσ) mF 0 a11 σ
def mX8_readWhole_B92 (v0 : Nat) (v1 : Int) (v2 : Int) (t0 : Nat) (t1 : Int) (σ : mSt) : Option (Int × mSt) := mG (isC t0 7) <| bnd (upS σ t0 3 t1) fun s2 => mRef (s2 v0 0) fun r4 => mCall (mX10_step r4 s2) fun b6 s7 => some (1, s7)
def mX8_readWhole_B79 (v0 : Nat) (v1 : Int) (v2 : Int) (v3 : Int) (v4 : Int) (σ : mSt) : Option (Int × mSt) := if wI v3 = 0 then (mX8_readWhole_B92 v0 v1 v2 v0 v4 σ) else mX8_readWhole_B92 v0 v1 v2 v0 (-v4) σ
def mX8_readWhole_B73 (v0 : Nat) (v1 : Int) (v2 : Int) (σ : mSt) : Option (Int × mSt) := mCall (mX8_refuse v0 4 σ) fun b10 s11 => mG (b10 = 0 ∨ b10 = 1) <| some (b10, s11)
def mX8_readWhole_B20 (v0 : Nat) (v1 : Int) (v2 : Int) (v3 : Int) (σ : mSt) : Option (Int × mSt) := mRef (σ v0 0) fun r14 => mCall (mX10_is r14 2 σ) fun b16 s17 => if wI b16 = 0 then (mCall (mX8_refuse v0 1 s17) fun b32 s33 => mG (b32 = 0 ∨ b32 = 1) <| some (b32, s33)) else mRef (s17 v0 0) fun r20 => mCall (mX10_value r20 s17) fun b22 s23 => if wL b22 = 0 then (mX8_readWhole_B73 v0 v1 v2 s23) else if wL (wI v1) < wL b22 then (mX8_readWhole_B73 v0 v1 v2 s23) else if wI v2 = 0 then (mX8_readWhole_B79 v0 v1 v2 v3 b22 s23) else mCall (mX5_isSquareFree b22 s23) fun b28 s29 => if wI b28 = 0 then (mX8_readWhole_B73 v0 v1 v2 s29) else mX8_readWhole_B79 v0 v1 v2 v3 b22 s29
def mX8_readWhole (v0 : Nat) (v1 : Int) (v2 : Int) (σ : mSt) : Option (Int × mSt) := mG (isC v0 7) <| mRef (σ v0 0) fun r36 => mCall (mX10_is r36 4 σ) fun b38 s39 => if wI b38 = 0 then (mX8_readWhole_B20 v0 v1 v2 b38 s39) else mRef (s39 v0 0) fun r42 => mCall (mX10_step r42 s39) fun b44 s45 => mX8_readWhole_B20 v0 v1 v2 b38 s45
def mX8_readSides (v0 : Nat) (σ : mSt) : Option (Int × mSt) := mG (isC v0 7) <| mCall (mX8_readWhole v0 60 1 σ) fun b1 s2 => if wI b1 = 0 then (some (0, s2)) else mRef (s2 v0 1) fun r5 => mCall (mX0_setFirst r5 (s2 v0 3) s2) fun b7 s8 => mCall (mX8_readWhole v0 60 1 s8) fun b10 s11 => if wI b10 = 0 then (some (0, s11)) else mRef (s11 v0 1) fun r14 => mCall (mX0_setSecond r14 (s11 v0 3) s11) fun b16 s17 => some (1, s17)
def mX8_isField_B48 (v0 : Nat) (v1 : Int) (σ : mSt) : Option (Int × mSt) := some (1, σ)
def mX8_isField (v0 : Nat) (v1 : Int) (σ : mSt) : Option (Int × mSt) := mG (isC v0 7) <| if wL v1 = 7 then (mX8_isField_B48 v0 v1 σ) else if wL v1 = 13 then (mX8_isField_B48 v0 v1 σ) else if wL v1 = 19 then (mX8_isField_B48 v0 v1 σ) else if wL v1 = 31 then (mX8_isField_B48 v0 v1 σ) else if wL v1 = 37 then (mX8_isField_B48 v0 v1 σ) else if wL v1 = 43 then (mX8_isField_B48 v0 v1 σ) else some (0, σ)
def mX8_readField (v0 : Nat) (σ : mSt) : Option (Int × mSt) := mG (isC v0 7) <| mRef (σ v0 0) fun r1 => mCall (mX10_is r1 2 σ) fun b3 s4 => if wI b3 = 0 then (mCall (mX8_refuse v0 1 s4) fun b39 s40 => mG (b39 = 0 ∨ b39 = 1) <| some (b39, s40)) else mRef (s4 v0 0) fun r7 => mCall (mX10_value r7 s4) fun b9 s10 => mCall (mX8_isField v0 b9 s10) fun b12 s13 => if wI b12 = 0 then (mCall (mX8_refuse v0 4 s13) fun b35 s36 => mG (b35 = 0 ∨ b35 = 1) <| some (b35, s36)) else mRef (s13 v0 1) fun r16 => mCall (mX0_setFirst r16 b9 s13) fun b18 s19 => mRef (s19 v0 0) fun r21 => mCall (mX10_step r21 s19) fun b23 s24 => mCall (mX8_readWhole v0 999 0 s24) fun b26 s27 => if wI b26 = 0 then (some (0, s27)) else mRef (s27 v0 1) fun r30 => mCall (mX0_setSecond r30 (s27 v0 3) s27) fun b32 s33 => some (1, s33)
def mX8_isSign_B22 (v0 : Nat) (σ : mSt) : Option (Int × mSt) := some (1, σ)
def mX8_isSign (v0 : Nat) (σ : mSt) : Option (Int × mSt) := mG (isC v0 7) <| mRef (σ v0 0) fun r1 => mCall (mX10_is r1 3 σ) fun b3 s4 => if wI b3 = 0 then (mRef (s4 v0 0) fun r7 => mCall (mX10_is r7 4 s4) fun b9 s10 => if wI b9 = 0 then (some (0, s10)) else mX8_isSign_B22 v0 s10) else mX8_isSign_B22 v0 s4
def mX9_solve_B138 (v0 : Nat) (v1 : Int) (v3 : Int) (σ : mSt) : Option (Int × mSt) := some (0, σ)
def mX9_solve_B125 (v0 : Nat) (v1 : Int) (v3 : Int) (c15 : mSt → Option (Int × mSt)) (x138 : mSt → Option (Int × mSt)) (σ : mSt) : Option (Int × mSt) := bnd (upS σ v0 4 ((σ v0 4) + 1)) fun s1 => c15 s1
def mX9_solve_L44 (v0 : Nat) (v1 : Int) (v3 : Int) (x125 : mSt → Option (Int × mSt)) : Nat → mSt → Option (Int × mSt)
  | 0, _ => none
  | n + 1, σ => if 7 < wL (σ v0 3) then (x125 σ) else bnd ((((σ v0 0) * (σ v0 3)) * (σ v0 3)) + (((σ v0 1) * (σ v0 4)) * (σ v0 4))) fun a4 => mCall (mX5_root a4 σ) fun b6 s7 => bnd (upS s7 v0 2 b6) fun s9 => if wL ((s9 v0 2) * (s9 v0 2)) = wL a4 then (some (1, s9)) else bnd (upS s9 v0 3 ((s9 v0 3) + 1)) fun s12 => mX9_solve_L44 v0 v1 v3 x125 n s12
def mX9_solve_B41 (v0 : Nat) (v1 : Int) (v3 : Int) (c15 : mSt → Option (Int × mSt)) (x138 : mSt → Option (Int × mSt)) (t0 : Nat) (t1 : Int) (σ : mSt) : Option (Int × mSt) := mG (isC t0 8) <| bnd (upS σ t0 3 t1) fun s15 => mX9_solve_L44 v0 v1 v3 (fun zσ => mX9_solve_B125 v0 v1 v3 c15 x138 zσ) mF s15
def mX9_solve_L15 (v0 : Nat) (v1 : Int) (v3 : Int) (x138 : mSt → Option (Int × mSt)) : Nat → mSt → Option (Int × mSt)
  | 0, _ => none
  | n + 1, σ => if 7 < wL (σ v0 4) then (x138 σ) else if wL (σ v0 4) = 0 then (mX9_solve_B41 v0 v1 v3 (mX9_solve_L15 v0 v1 v3 x138 n) x138 v0 1 σ) else mX9_solve_B41 v0 v1 v3 (mX9_solve_L15 v0 v1 v3 x138 n) x138 v0 0 σ
def mX9_solve (v0 : Nat) (v1 : Int) (v3 : Int) (σ : mSt) : Option (Int × mSt) := mG (isC v0 8) <| bnd (upS σ v0 0 v1) fun s19 => bnd (upS s19 v0 1 v3) fun s21 => bnd (upS s21 v0 4 0) fun s23 => mX9_solve_L15 v0 v1 v3 (fun zσ => mX9_solve_B138 v0 v1 v3 zσ) mF s23
def mX9_part (v0 : Nat) (v1 : Int) (σ : mSt) : Option (Int × mSt) := mG (isC v0 8) <| if wI v1 = 0 then (some (σ v0 2, σ)) else if wI v1 = 1 then (some (σ v0 3, σ)) else some (σ v0 4, σ)
def mX9_below (v0 : Nat) (σ : mSt) : Option (Int × mSt) := mG (isC v0 8) <| if wL (σ v0 4) = 0 then (some (1, σ)) else some (σ v0 4, σ)
def mX9_plainEntry (v0 : Nat) (v1 : Nat) (v2 : Int) (v3 : Int) (σ : mSt) : Option (Int × mSt) := mG (isC v0 8) <| if wI v2 = wI v3 then (if wI v2 = 0 then (mG (ixOK v1 21 0) <| mG (ixOK v1 21 1) <| some ((σ v1 0) + (σ v1 1), σ)) else mG (ixOK v1 21 0) <| mG (ixOK v1 21 1) <| some ((σ v1 0) - (σ v1 1), σ)) else if wI v2 = 0 then (mG (ixOK v1 21 2) <| mG (ixOK v1 21 3) <| some ((σ v0 1) * ((σ v1 2) + (σ v1 3)), σ)) else mG (ixOK v1 21 2) <| mG (ixOK v1 21 3) <| some ((σ v1 2) - (σ v1 3), σ)
def mX9_entry (v0 : Nat) (v1 : Nat) (v2 : Int) (v3 : Int) (σ : mSt) : Option (Int × mSt) := mG (isC v0 8) <| if wL (σ v0 4) = 0 then (mCall (mX9_plainEntry v0 v1 v2 v3 σ) fun b16 s17 => some (b16, s17)) else mG (ixOK v1 21 0) <| bnd ((σ v1 0) * (σ v0 4)) fun a3 => mG (ixOK v1 21 2) <| mG (ixOK v1 21 3) <| bnd (((σ v1 2) * (σ v0 2)) + (((σ v1 3) * (σ v0 0)) * (σ v0 3))) fun a7 => if wI v2 = wI v3 then (if wI v2 = 0 then (some (a3 + a7, σ)) else some (a3 - a7, σ)) else bnd (((σ v1 2) * (σ v0 3)) + ((σ v1 3) * (σ v0 2))) fun a10 => if wI v2 = 0 then (mG (ixOK v1 21 1) <| some ((σ v0 0) * (((σ v1 1) * (σ v0 4)) - a10), σ)) else mG (ixOK v1 21 1) <| some (((σ v1 1) * (σ v0 4)) + a10, σ)
def mX11_putBytes_B46 (v0 : Nat) (v1 : Int) (σ : mSt) : Option (Int × mSt) := some (0, σ)
def mX11_putBytes_L3 (v0 : Nat) (v1 : Int) (x46 : mSt → Option (Int × mSt)) : Nat → Int → mSt → Option (Int × mSt)
  | 0, _, _ => none
  | n + 1, v2, σ => if wI v2 < 0 then (x46 σ) else if 600 ≤ wI (σ v0 1) then (x46 σ) else mRef (σ v0 0) fun r3 => mG (ixOK r3 22 (σ v0 1)) <| mG (-128 ≤ wB (oShr v1 v2) ∧ wB (oShr v1 v2) < 128) <| bnd (upS σ r3 (wI (σ v0 1)).toNat (wB (oShr v1 v2))) fun s7 => bnd (upS s7 v0 1 ((s7 v0 1) + 1)) fun s9 => bnd (v2 + (-8)) fun a11 => mX11_putBytes_L3 v0 v1 x46 n a11 s9
def mX11_putBytes (v0 : Nat) (v1 : Int) (σ : mSt) : Option (Int × mSt) := mG (isC v0 10) <| mX11_putBytes_L3 v0 v1 (fun zσ => mX11_putBytes_B46 v0 v1 zσ) mF 24 σ
def mX11_feed (v0 : Nat) (v1 : Int) (v2 : Int) (v3 : Int) (v4 : Int) (v5 : Int) (σ : mSt) : Option (Int × mSt) := mG (isC v0 10) <| if wI ((σ v0 1) + 20) ≤ 600 then (mCall (mX11_putBytes v0 v1 σ) fun b2 s3 => mCall (mX11_putBytes v0 v2 s3) fun b5 s6 => mCall (mX11_putBytes v0 v3 s6) fun b8 s9 => mCall (mX11_putBytes v0 v4 s9) fun b11 s12 => mCall (mX11_putBytes v0 v5 s12) fun b14 s15 => some (s15 v0 1, s15)) else some ((-1), σ)
def mX11_isTold_B19 (v0 : Nat) (v1 : Int) (σ : mSt) : Option (Int × mSt) := some (0, σ)
def mX11_isTold (v0 : Nat) (v1 : Int) (σ : mSt) : Option (Int × mSt) := mG (isC v0 10) <| if wI v1 < 0 then (mX11_isTold_B19 v0 v1 σ) else mRef (σ v0 3) fun r2 => mCall (mX0_size r2 σ) fun b4 s5 => if wI b4 ≤ wI v1 then (mX11_isTold_B19 v0 v1 s5) else some (1, s5)
def mX11_isQuaternion_B23 (v0 : Nat) (v1 : Int) (σ : mSt) : Option (Int × mSt) := some (0, σ)
def mX11_isQuaternion (v0 : Nat) (v1 : Int) (σ : mSt) : Option (Int × mSt) := mG (isC v0 10) <| mCall (mX11_isTold v0 v1 σ) fun b1 s2 => if wI b1 = 0 then (mX11_isQuaternion_B23 v0 v1 s2) else mRef (s2 v0 3) fun r5 => mCall (mX0_kind r5 v1 s2) fun b7 s8 => if wI b7 = 0 then (some (1, s8)) else mX11_isQuaternion_B23 v0 v1 s8
def mX11_beginAnew_B83 (v0 : Nat) (σ : mSt) : Option (Int × mSt) := some (0, σ)
def mX11_beginAnew_L36 (v0 : Nat) (x83 : mSt → Option (Int × mSt)) : Nat → Int → mSt → Option (Int × mSt)
  | 0, _, _ => none
  | n + 1, v1, σ => if 8 ≤ wI v1 then (x83 σ) else mCall (mX11_isQuaternion v0 v1 σ) fun b2 s3 => if wI b2 = 0 then (bnd (v1 + 1) fun a6 => mX11_beginAnew_L36 v0 x83 n a6 s3) else mRef (s3 v0 7) fun r8 => mG (ixOK r8 24 v1) <| mRef (s3 r8 (wI v1).toNat) fun r11 => mRef (s3 v0 3) fun r13 => mCall (mX0_first r13 v1 s3) fun b15 s16 => mRef (s16 v0 3) fun r18 => mCall (mX0_second r18 v1 s16) fun b20 s21 => mCall (mX6_begin r11 (wI b15) (wI b20) s21) fun b23 s24 => bnd (v1 + 1) fun a26 => mX11_beginAnew_L36 v0 x83 n a26 s24
def mX11_beginAnew_B34 (v0 : Nat) (σ : mSt) : Option (Int × mSt) := mX11_beginAnew_L36 v0 (fun zσ => mX11_beginAnew_B83 v0 zσ) mF 0 σ
def mX11_beginAnew_L13 (v0 : Nat) (x34 : mSt → Option (Int × mSt)) : Nat → Int → mSt → Option (Int × mSt)
  | 0, _, _ => none
  | n + 1, v1, σ => if 8 ≤ wI v1 then (x34 σ) else mRef (σ v0 6) fun r29 => mG (ixOK r29 23 v1) <| mRef (σ r29 (wI v1).toNat) fun r32 => mCall (mX1_drop r32 σ) fun b34 s35 => bnd (v1 + 1) fun a37 => mX11_beginAnew_L13 v0 x34 n a37 s35
def mX11_beginAnew (v0 : Nat) (σ : mSt) : Option (Int × mSt) := mG (isC v0 10) <| mRef (σ v0 5) fun r39 => mRef (σ v0 3) fun r41 => mCall (mX7_reckon r39 r41 σ) fun b43 s44 => mX11_beginAnew_L13 v0 (fun zσ => mX11_beginAnew_B34 v0 zσ) mF 0 s44
def mX11_local_B29 (v0 : Nat) (v1 : Int) (v2 : Int) (σ : mSt) : Option (Int × mSt) := mRef (σ v0 5) fun r1 => mCall (mX7_sixthsAt r1 v1 v2 σ) fun b3 s4 => some (b3, s4)
def mX11_local (v0 : Nat) (v1 : Int) (v2 : Int) (σ : mSt) : Option (Int × mSt) := mG (isC v0 10) <| mCall (mX11_isTold v0 v1 σ) fun b6 s7 => if wI b6 = 0 then (some ((-1), s7)) else if wI v2 ≤ 60000 then (if wI v2 = 0 then (mX11_local_B29 v0 v1 v2 s7) else mCall (mX5_isPrime v2 s7) fun b12 s13 => if wI b12 = 0 then (some ((-1), s13)) else mX11_local_B29 v0 v1 v2 s13) else some ((-1), s7)
def mX11_place (v0 : Nat) (v1 : Int) (v2 : Int) (σ : mSt) : Option (Int × mSt) := mG (isC v0 10) <| mCall (mX11_isTold v0 v1 σ) fun b1 s2 => if wI b1 = 0 then (some ((-2), s2)) else if (-1) ≤ wI v2 then (if wI v2 = (-1) then (mRef (s2 v0 5) fun r12 => mCall (mX7_howMany r12 v1 s2) fun b14 s15 => some (b14, s15)) else mRef (s2 v0 5) fun r7 => mCall (mX7_placeOf r7 v1 v2 s2) fun b9 s10 => some (b9, s10)) else some ((-2), s2)
def mX11_index (v0 : Nat) (v1 : Int) (σ : mSt) : Option (Int × mSt) := mG (isC v0 10) <| mCall (mX11_isTold v0 v1 σ) fun b1 s2 => if wI b1 = 0 then (some ((-1), s2)) else mRef (s2 v0 5) fun r5 => mCall (mX7_indexOf r5 v1 s2) fun b7 s8 => some (b7, s8)
def mX11_alike (v0 : Nat) (v1 : Int) (v2 : Int) (σ : mSt) : Option (Int × mSt) := mG (isC v0 10) <| mCall (mX11_isTold v0 v1 σ) fun b1 s2 => if wI b1 = 0 then (some ((-1), s2)) else mCall (mX11_isTold v0 v2 s2) fun b5 s6 => if wI b5 = 0 then (some ((-1), s6)) else mRef (s6 v0 5) fun r9 => mCall (mX7_areAlike r9 v1 v2 s6) fun b11 s12 => if wI b11 = 0 then (some (0, s12)) else some (1, s12)
def mX11_classes_B73 (v0 : Nat) (v1 : Int) (σ : mSt) : Option (Int × mSt) := some (v1, σ)
def mX11_classes_B55 (v0 : Nat) (c4 : Int → Int → mSt → Option (Int × mSt)) (x73 : Int → mSt → Option (Int × mSt)) (v1 : Int) (v2 : Int) (v3 : Int) (σ : mSt) : Option (Int × mSt) := if wI v3 = 0 then (bnd (v1 + 0) fun a2 => bnd (v2 + 1) fun a4 => c4 a2 a4 σ) else bnd (v1 + 1) fun a6 => bnd (v2 + 1) fun a8 => c4 a6 a8 σ
def mX11_classes_L20 (v0 : Nat) (v1 : Int) (v2 : Int) (x55 : Int → mSt → Option (Int × mSt)) : Nat → Int → Int → mSt → Option (Int × mSt)
  | 0, _, _, _ => none
  | n + 1, v3, v4, σ => if wI v2 ≤ wI v4 then (x55 v3 σ) else if wI v3 = 0 then (x55 v3 σ) else mRef (σ v0 5) fun r12 => mCall (mX7_areAlike r12 v2 v4 σ) fun b14 s15 => if wI b14 = 0 then (bnd (v4 + 1) fun a20 => mX11_classes_L20 v0 v1 v2 x55 n 1 a20 s15) else bnd (v4 + 1) fun a18 => mX11_classes_L20 v0 v1 v2 x55 n 0 a18 s15
def mX11_classes_L4 (v0 : Nat) (x73 : Int → mSt → Option (Int × mSt)) : Nat → Int → Int → mSt → Option (Int × mSt)
  | 0, _, _, _ => none
  | n + 1, v1, v2, σ => mRef (σ v0 3) fun r22 => mCall (mX0_size r22 σ) fun b24 s25 => if wI b24 ≤ wI v2 then (x73 v1 s25) else mX11_classes_L20 v0 v1 v2 (fun z3 zσ => mX11_classes_B55 v0 (mX11_classes_L4 v0 x73 n) x73 v1 v2 z3 zσ) mF 1 0 s25
def mX11_classes (v0 : Nat) (σ : mSt) : Option (Int × mSt) := mG (isC v0 10) <| mX11_classes_L4 v0 (fun z1 zσ => mX11_classes_B73 v0 z1 zσ) mF 0 0 σ
def mX11_isSlot (v0 : Nat) (v1 : Int) (σ : mSt) : Option (Int × mSt) := mG (isC v0 10) <| if wI v1 < 0 then (some (0, σ)) else if 8 ≤ wI v1 then (some (0, σ)) else some (1, σ)
def mX11_keep (v0 : Nat) (v1 : Int) (v2 : Int) (v3 : Int) (σ : mSt) : Option (Int × mSt) := mG (isC v0 10) <| mRef (σ v0 6) fun r1 => mG (ixOK r1 23 v1) <| mRef (σ r1 (wI v1).toNat) fun r4 => mRef (σ v0 11) fun r6 => mCall (mX1_take r4 v2 r6 v3 σ) fun b8 s9 => if wI b8 = 0 then (some ((-3), s9)) else some (0, s9)
def mX11_tell (v0 : Nat) (v1 : Int) (v2 : Int) (v3 : Int) (v4 : Int) (v5 : Int) (v6 : Int) (σ : mSt) : Option (Int × mSt) := mG (isC v0 10) <| mCall (mX11_isSlot v0 v1 σ) fun b1 s2 => if wI b1 = 0 then (some (0, s2)) else mCall (mX11_isQuaternion v0 v2 s2) fun b5 s6 => if wI b5 = 0 then (some (0, s6)) else mRef (s6 v0 11) fun r9 => mG (ixOK r9 21 0) <| bnd (upS s6 r9 0 (wI v3)) fun s12 => mRef (s12 v0 11) fun r14 => mG (ixOK r14 21 1) <| bnd (upS s12 r14 1 (wI v4)) fun s17 => mRef (s17 v0 11) fun r19 => mG (ixOK r19 21 2) <| bnd (upS s17 r19 2 (wI v5)) fun s22 => mRef (s22 v0 11) fun r24 => mG (ixOK r24 21 3) <| bnd (upS s22 r24 3 (wI v6)) fun s27 => mCall (mX11_keep v0 v1 v2 1 s27) fun b29 s30 => if wI b29 = 0 then (some (1, s30)) else some (0, s30)
def mX11_isKept_B24 (v0 : Nat) (v1 : Int) (σ : mSt) : Option (Int × mSt) := some (0, σ)
def mX11_isKept (v0 : Nat) (v1 : Int) (σ : mSt) : Option (Int × mSt) := mG (isC v0 10) <| mCall (mX11_isSlot v0 v1 σ) fun b1 s2 => if wI b1 = 0 then (mX11_isKept_B24 v0 v1 s2) else mRef (s2 v0 6) fun r5 => mG (ixOK r5 23 v1) <| mRef (s2 r5 (wI v1).toNat) fun r8 => mCall (mX1_isThere r8 s2) fun b10 s11 => if wI b10 = 0 then (mX11_isKept_B24 v0 v1 s11) else some (1, s11)
def mX11_over_B58 (v0 : Nat) (v1 : Int) (v2 : Int) (v3 : Nat) (σ : mSt) : Option (Int × mSt) := mG (isC v3 1) <| mCall (mX11_keep v0 v1 (σ v3 2) ((σ v3 1) * (wI v2)) σ) fun b2 s3 => some (b2, s3)
def mX11_over_L32 (v0 : Nat) (v1 : Int) (v2 : Int) (v3 : Nat) (x58 : mSt → Option (Int × mSt)) : Nat → Int → mSt → Option (Int × mSt)
  | 0, _, _ => none
  | n + 1, v4, σ => if 4 ≤ wI v4 then (x58 σ) else mRef (σ v0 11) fun r6 => mG (isC v3 1) <| mRef (σ v3 0) fun r9 => mG (ixOK r9 21 v4) <| mG (ixOK r6 21 v4) <| bnd (upS σ r6 (wI v4).toNat (σ r9 (wI v4).toNat)) fun s13 => bnd (v4 + 1) fun a15 => mX11_over_L32 v0 v1 v2 v3 x58 n a15 s13
def mX11_over (v0 : Nat) (v1 : Int) (v2 : Int) (σ : mSt) : Option (Int × mSt) := mG (isC v0 10) <| mCall (mX11_isKept v0 v1 σ) fun b17 s18 => if wI b17 = 0 then (some ((-1), s18)) else if wI v2 < 1 then (some ((-1), s18)) else if wI v2 ≤ 1000 then (mRef (s18 v0 6) fun r23 => mG (ixOK r23 23 v1) <| mRef (s18 r23 (wI v1).toNat) fun r26 => mX11_over_L32 v0 v1 v2 r26 (fun zσ => mX11_over_B58 v0 v1 v2 r26 zσ) mF 0 s18) else some ((-1), s18)
def mX11_isPair_B41 (v0 : Nat) (v1 : Int) (v2 : Int) (σ : mSt) : Option (Int × mSt) := some (0, σ)
def mX11_isPair (v0 : Nat) (v1 : Int) (v2 : Int) (σ : mSt) : Option (Int × mSt) := mG (isC v0 10) <| mCall (mX11_isKept v0 v1 σ) fun b1 s2 => if wI b1 = 0 then (mX11_isPair_B41 v0 v1 v2 s2) else mCall (mX11_isKept v0 v2 s2) fun b5 s6 => if wI b5 = 0 then (mX11_isPair_B41 v0 v1 v2 s6) else mRef (s6 v0 6) fun r9 => mG (ixOK r9 23 v1) <| mRef (s6 r9 (wI v1).toNat) fun r12 => mG (isC r12 1) <| mRef (s6 v0 6) fun r15 => mG (ixOK r15 23 v2) <| mRef (s6 r15 (wI v2).toNat) fun r18 => mG (isC r18 1) <| if wI (s6 r12 2) = wI (s6 r18 2) then (some (1, s6)) else mX11_isPair_B41 v0 v1 v2 s6
def mX11_times (v0 : Nat) (v1 : Int) (v2 : Int) (v3 : Int) (σ : mSt) : Option (Int × mSt) := mG (isC v0 10) <| mCall (mX11_isPair v0 v1 v2 σ) fun b1 s2 => if wI b1 = 0 then (some ((-1), s2)) else mCall (mX11_isSlot v0 v3 s2) fun b5 s6 => if wI b5 = 0 then (some ((-1), s6)) else mRef (s6 v0 6) fun r9 => mG (ixOK r9 23 v1) <| mRef (s6 r9 (wI v1).toNat) fun r12 => mRef (s6 v0 6) fun r14 => mG (ixOK r14 23 v2) <| mRef (s6 r14 (wI v2).toNat) fun r17 => mG (isC r12 1) <| bnd (s6 r12 2) fun a20 => mRef (s6 v0 3) fun r22 => mCall (mX0_first r22 a20 s6) fun b24 s25 => mRef (s25 v0 3) fun r27 => mCall (mX0_second r27 a20 s25) fun b29 s30 => mRef (s30 r12 0) fun r32 => mG (isC r17 1) <| mRef (s30 r17 0) fun r35 => mRef (s30 v0 11) fun r37 => mCall (mX1_multiply (wI b24) (wI b29) r32 r35 r37 s30) fun b39 s40 => mCall (mX11_keep v0 v3 a20 ((s40 r12 1) * (s40 r17 1)) s40) fun b42 s43 => some (b42, s43)
def mX11_plus_B104 (v0 : Nat) (v1 : Int) (v2 : Int) (v3 : Int) (v4 : Int) (v5 : Nat) (v6 : Nat) (σ : mSt) : Option (Int × mSt) := mG (isC v5 1) <| mG (isC v6 1) <| mCall (mX11_keep v0 v4 (σ v5 2) ((σ v5 1) * (σ v6 1)) σ) fun b3 s4 => some (b3, s4)
def mX11_plus_L53 (v0 : Nat) (v1 : Int) (v2 : Int) (v3 : Int) (v4 : Int) (v5 : Nat) (v6 : Nat) (x104 : mSt → Option (Int × mSt)) : Nat → Int → mSt → Option (Int × mSt)
  | 0, _, _ => none
  | n + 1, v7, σ => if 4 ≤ wI v7 then (x104 σ) else mRef (σ v0 11) fun r7 => mG (isC v5 1) <| mRef (σ v5 0) fun r10 => mG (ixOK r10 21 v7) <| mG (isC v6 1) <| mRef (σ v6 0) fun r14 => mG (ixOK r14 21 v7) <| mG (ixOK r7 21 v7) <| bnd (upS σ r7 (wI v7).toNat (((σ r10 (wI v7).toNat) * (σ v6 1)) + (((wI v3) * (σ r14 (wI v7).toNat)) * (σ v5 1)))) fun s18 => bnd (v7 + 1) fun a20 => mX11_plus_L53 v0 v1 v2 v3 v4 v5 v6 x104 n a20 s18
def mX11_plus (v0 : Nat) (v1 : Int) (v2 : Int) (v3 : Int) (v4 : Int) (σ : mSt) : Option (Int × mSt) := mG (isC v0 10) <| mCall (mX11_isPair v0 v1 v2 σ) fun b22 s23 => if wI b22 = 0 then (some ((-1), s23)) else mCall (mX11_isSlot v0 v4 s23) fun b26 s27 => if wI b26 = 0 then (some ((-1), s27)) else if wI v3 < (-1000) then (some ((-1), s27)) else if wI v3 ≤ 1000 then (mRef (s27 v0 6) fun r32 => mG (ixOK r32 23 v1) <| mRef (s27 r32 (wI v1).toNat) fun r35 => mRef (s27 v0 6) fun r37 => mG (ixOK r37 23 v2) <| mRef (s27 r37 (wI v2).toNat) fun r40 => mX11_plus_L53 v0 v1 v2 v3 v4 r35 r40 (fun zσ => mX11_plus_B104 v0 v1 v2 v3 v4 r35 r40 zσ) mF 0 s27) else some ((-1), s27)
def mX11_mirror (v0 : Nat) (v1 : Int) (v2 : Int) (σ : mSt) : Option (Int × mSt) := mG (isC v0 10) <| mCall (mX11_isKept v0 v1 σ) fun b1 s2 => if wI b1 = 0 then (some ((-1), s2)) else mCall (mX11_isSlot v0 v2 s2) fun b5 s6 => if wI b5 = 0 then (some ((-1), s6)) else mRef (s6 v0 6) fun r9 => mG (ixOK r9 23 v1) <| mRef (s6 r9 (wI v1).toNat) fun r12 => mG (isC r12 1) <| mRef (s6 r12 0) fun r15 => mRef (s6 v0 11) fun r17 => mCall (mX1_reflect r15 1 r17 s6) fun b19 s20 => mCall (mX11_keep v0 v2 (s20 r12 2) (s20 r12 1) s20) fun b22 s23 => some (b22, s23)
def mX11_formOf (v0 : Nat) (v1 : Nat) (σ : mSt) : Option (Int × mSt) := mG (isC v0 10) <| mRef (σ v0 3) fun r1 => mG (isC v1 1) <| mCall (mX0_first r1 (σ v1 2) σ) fun b4 s5 => mRef (s5 v0 3) fun r7 => mCall (mX0_second r7 (s5 v1 2) s5) fun b9 s10 => mRef (s10 v1 0) fun r12 => mCall (mX1_form (wI b4) (wI b9) r12 s10) fun b14 s15 => some (b14, s15)
set_option maxRecDepth 100000 in
set_option maxHeartbeats 4000000 in
theorem wX10_value_B52 (l : Launch) (E : mE) (out : Int × mSt) {p : Program} {e : Env} {s : State} {m : MethodId} {args : Array Value} {below : List Frame} {meth : Method} {c : Code} (G : CallFix p m c cX10_value 4 s args mTs RX10) (hr : meth.sig.returnType = (some .long)) (hk : meth.locks = false) (v0 : Nat) (g0 : isC v0 9) : ∀ (v1 : Int) (σ : mSt) (H : Heap) (locs : List Loc) (ls : Array Slot), mX10_value_B52 v0 v1 σ = some out → mM (mA E 276) E 276 σ s H locs → lv_has ls 4 [(1, vL v1)] → mGo l p e 1 23 s m args below meth c E (some (vL out.1)) out.2 H locs (F0 m 52 ls []) := by
  intro v1 σ H locs ls hm hM hl
  unfold mX10_value_B52 at hm
  refine r_lload_n (np := 53) G hl 0 rfl dX10_value_52 rfl rfl ?_
  exact r_lret G hr hk hM hm dX10_value_53
set_option maxRecDepth 100000 in
set_option maxHeartbeats 4000000 in
theorem wX10_value_L7 (l : Launch) (E : mE) (out : Int × mSt) {p : Program} {e : Env} {s : State} {m : MethodId} {args : Array Value} {below : List Frame} {meth : Method} {c : Code} (G : CallFix p m c cX10_value 4 s args mTs RX10) (hr : meth.sig.returnType = (some .long)) (hk : meth.locks = false) (v0 : Nat) (g0 : isC v0 9) (x52 : Int → mSt → Option (Int × mSt)) (hx52 : ∀ (v1 : Int) (σ : mSt) (H : Heap) (locs : List Loc) (ls : Array Slot), x52 v1 σ = some out → mM (mA E 276) E 276 σ s H locs → lv_has ls 4 [(1, vL v1)] → mGo l p e 1 23 s m args below meth c E (some (vL out.1)) out.2 H locs (F0 m 52 ls [])) : ∀ (n : Nat) (v1 : Int) (v3 : Int) (σ : mSt) (H : Heap) (locs : List Loc) (ls : Array Slot), mX10_value_L7 v0 x52 n v1 v3 σ = some out → mM (mA E 276) E 276 σ s H locs → lv_has ls 4 [(0, .ref (eA E v0)), (1, vL v1), (3, vI v3)] → mGo l p e 1 23 s m args below meth c E (some (vL out.1)) out.2 H locs (F0 m 7 ls []) := by
  intro n
  induction n with
  | zero =>
    intro v1 v3 σ H locs ls hm hM hl
    exact absurd hm (by rw [mX10_value_L7.eq_1]; exact fun h => nomatch h)
  | succ n ih =>
    intro v1 v3 σ H locs ls hm hM hl
    rw [mX10_value_L7.eq_2] at hm
    refine r_iload_n (np := 8) G hl 2 rfl dX10_value_7 rfl rfl ?_
    refine r_aload_n (np := 9) G hl 0 rfl dX10_value_8 rfl rfl ?_
    refine r_getI (np := 12) G hM (shp_lt g0 (by decide)) g0 fdX10_3 lkX10_22 dX10_value_9 rfl ?_
    refine r_icmp_ge (np := 15) (tgt := 52) G rfl rfl dX10_value_12 (by decide) rfl (fun h1 => ?_) (fun h1 => ?_)
    · have hm := b_t h1 hm
      exact hx52 v1 _ _ _ _ hm hM (lv_sub hl [1] rfl)
    · have hm := b_f h1 hm
      refine r_aload_n (np := 16) G hl 0 rfl dX10_value_15 rfl rfl ?_
      refine r_getI (np := 19) G hM (shp_lt g0 (by decide)) g0 fdX10_4 lkX10_25 dX10_value_16 rfl ?_
      refine r_iconst (np := 20) G 2 dX10_value_19 rfl ?_
      refine r_icmp_ne (np := 23) (tgt := 52) G rfl (wIk 2 rfl) dX10_value_20 (by decide) rfl (fun h2 => ?_) (fun h2 => ?_)
      · have hm := b_f h2 hm
        exact hx52 v1 _ _ _ _ hm hM (lv_sub hl [1] rfl)
      · have hm := b_t h2 hm
        refine r_lload_n (np := 24) G hl 1 rfl dX10_value_23 rfl rfl ?_
        refine r_ldc2 (np := 27) G 10 dX10_value_24 lkX10_48 rfl rfl ?_
        refine r_lmul (np := 28) G dX10_value_27 rfl ?_
        refine r_aload_n (np := 29) G hl 0 rfl dX10_value_28 rfl rfl ?_
        obtain ⟨r3, e4, hm⟩ := ref_t hm
        refine r_getR (np := 32) G hM (shp_lt g0 (by decide)) g0 e4 fdX10_0 lkX10_9 dX10_value_29 rfl ?_
        refine r_iload_n (np := 33) G hl 2 rfl dX10_value_32 rfl rfl ?_
        obtain ⟨g5, hm⟩ := g_t hm
        refine r_baload (np := 34) G hM g5 rfl dX10_value_33 rfl ?_
        refine r_bipush (np := 36) G 48 dX10_value_34 (by decide) rfl ?_
        refine r_isub (np := 37) G dX10_value_36 rfl ?_
        refine r_i2l (np := 38) G rfl dX10_value_37 rfl ?_
        refine r_ladd (np := 39) G dX10_value_38 rfl ?_
        refine r_ldc2 (np := 42) G 1000000 dX10_value_39 lkX10_50 rfl rfl ?_
        obtain ⟨b6, s7, e8, hm⟩ := call_t hm
        refine m_callSL (np := 45) G hM hl.1 [vL ((v1 * 10) + (wI ((σ r3 (wI v3).toNat) - 48))), vL 1000000] (qJ9_min_f86c9 l E σ ((v1 * 10) + (wI ((σ r3 (wI v3).toNat) - 48))) 1000000 _ e8) myJ9_min_f86c9 lkX10_52 ⟨Nat.le_of_ble_eq_true rfl, Nat.le_of_ble_eq_true rfl⟩ ⟨Nat.le_of_ble_eq_true rfl, Nat.le_of_ble_eq_true rfl⟩ [] rfl (Nat.le_of_ble_eq_true rfl) dX10_value_42 rfl (fun H locs hM => ?_)
        refine r_lstore_n (np := 46) G hl rfl [(1, vL b6), (0, .ref (eA E v0)), (3, vI v3)] dX10_value_45 rfl rfl (by decide) rfl (fun ls hl => ?_)
        obtain ⟨a9, e10, hm⟩ := bnd_t hm
        refine r_iinc (np := 49) G hl 2 rfl e10 [(3, vI a9), (1, vL b6), (0, .ref (eA E v0))] dX10_value_46 rfl (by decide) rfl (fun ls hl => ?_)
        refine r_goto (np := 7) G dX10_value_49 (by decide) ?_
        exact ih b6 a9 _ _ _ _ hm hM (lv_sub hl [2, 1, 0] rfl)
set_option maxRecDepth 100000 in
set_option maxHeartbeats 4000000 in
theorem qX10_value (l : Launch) (E : mE) (σ : mSt) (v0 : Nat) (out : Int × mSt) (hm : mX10_value v0 σ = some out) : mMet l yX10_value cX10_value 4 (some .long) 1 23 E 276 [.ref (eA E v0)] σ (some (vL out.1)) out.2 := by
  unfold mX10_value at hm
  obtain ⟨g0, hm⟩ := g_t hm
  refine m_entry (by decide +kernel) (Nat.le_of_ble_eq_true rfl) (fun p e s m args below meth c G hr hk hM ls hl => ?_)
  have G : CallFix p m c cX10_value 4 s args mTs RX10 := G
  have hl : lv_has ls 4 [(0, .ref (eA E v0))] := hl
  refine r_lconst (np := 1) G 0 dX10_value_0 rfl rfl ?_
  refine r_lstore_n (np := 2) G hl rfl [(1, vL 0), (0, .ref (eA E v0))] dX10_value_1 rfl rfl (by decide) rfl (fun ls hl => ?_)
  refine r_aload_n (np := 3) G hl 1 rfl dX10_value_2 rfl rfl ?_
  refine r_getI (np := 6) G hM (shp_lt g0 (by decide)) g0 fdX10_2 lkX10_19 dX10_value_3 rfl ?_
  obtain ⟨a11, e12, hm⟩ := bnd_t hm
  refine r_istore_n (np := 7) G hl e12 [(3, vI a11), (1, vL 0), (0, .ref (eA E v0))] dX10_value_6 rfl rfl (by decide) rfl (fun ls hl => ?_)
  exact wX10_value_L7 l E out G hr hk v0 g0 (fun z1 zσ => mX10_value_B52 v0 z1 zσ) (fun z1 zσ zH zl zs zm zM zv => wX10_value_B52 l E out G hr hk v0 g0 z1 zσ zH zl zs zm zM zv) mF 0 a11 _ _ _ _ hm hM (lv_sub hl [2, 1, 0] rfl)
theorem gX10_value {v0 : Nat} {σ : mSt} {out : Int × mSt} (hm : mX10_value v0 σ = some out) : isC v0 9 := (g_t hm).1
set_option maxRecDepth 100000 in
set_option maxHeartbeats 4000000 in
theorem wX8_readWhole_B92 (l : Launch) (E : mE) (out : Int × mSt) {p : Program} {e : Env} {s : State} {m : MethodId} {args : Array Value} {below : List Frame} {meth : Method} {c : Code} (G : CallFix p m c cX8_readWhole 6 s args mTs RX8) (hr : meth.sig.returnType = (some .boolean)) (hk : meth.locks = false) (v0 : Nat) (v1 : Int) (v2 : Int) (g0 : isC v0 7) : ∀ (t0 : Nat) (t1 : Int) (σ : mSt) (H : Heap) (locs : List Loc) (ls : Array Slot), mX8_readWhole_B92 v0 v1 v2 t0 t1 σ = some out → mM (mA E 276) E 276 σ s H locs → lv_has ls 6 [(0, .ref (eA E v0))] → mGo l p e 3 62 s m args below meth c E (some (vI out.1)) out.2 H locs (F0 m 92 ls [vL t1, .ref (eA E t0)]) := by
  intro t0 t1 σ H locs ls hm hM hl
  unfold mX8_readWhole_B92 at hm
  obtain ⟨g1, hm⟩ := g_t hm
  obtain ⟨s2, e3, hm⟩ := bnd_t hm
  refine r_putL (np := 95) G hM (shp_lt g1 (by decide)) g1 ptX8_3 rfl lkX8_29 s2 e3 dX8_readWhole_92 rfl (fun H locs hM => ?_)
  refine r_aload_n (np := 96) G hl 0 rfl dX8_readWhole_95 rfl rfl ?_
  obtain ⟨r4, e5, hm⟩ := ref_t hm
  refine r_getR (np := 99) G hM (shp_lt g0 (by decide)) g0 e5 fdX8_0 lkX8_12 dX8_readWhole_96 rfl ?_
  obtain ⟨b6, s7, e8, hm⟩ := call_t hm
  refine m_callVV (np := 102) G hM hl.1 [] (qX10_step l E s2 r4 _ e8) myX10_step (shp_lt (gX10_step e8) (by decide)) (gX10_step e8) rfl (by decide) lkX8_61 ⟨Nat.le_of_ble_eq_true rfl, Nat.le_of_ble_eq_true rfl⟩ ⟨Nat.le_of_ble_eq_true rfl, Nat.le_of_ble_eq_true rfl⟩ [] rfl (Nat.le_of_ble_eq_true rfl) dX8_readWhole_99 rfl (fun H locs hM => ?_)
  refine r_iconst (np := 103) G 1 dX8_readWhole_102 rfl ?_
  exact r_zret G hr hk hM (Or.inr rfl) hm dX8_readWhole_103
set_option maxRecDepth 100000 in
set_option maxHeartbeats 4000000 in
theorem wX8_readWhole_B79 (l : Launch) (E : mE) (out : Int × mSt) {p : Program} {e : Env} {s : State} {m : MethodId} {args : Array Value} {below : List Frame} {meth : Method} {c : Code} (G : CallFix p m c cX8_readWhole 6 s args mTs RX8) (hr : meth.sig.returnType = (some .boolean)) (hk : meth.locks = false) (v0 : Nat) (v1 : Int) (v2 : Int) (g0 : isC v0 7) : ∀ (v3 : Int) (v4 : Int) (σ : mSt) (H : Heap) (locs : List Loc) (ls : Array Slot), mX8_readWhole_B79 v0 v1 v2 v3 v4 σ = some out → mM (mA E 276) E 276 σ s H locs → lv_has ls 6 [(0, .ref (eA E v0)), (3, vI v3), (4, vL v4)] → mGo l p e 3 62 s m args below meth c E (some (vI out.1)) out.2 H locs (F0 m 79 ls []) := by
  intro v3 v4 σ H locs ls hm hM hl
  unfold mX8_readWhole_B79 at hm
  refine r_aload_n (np := 80) G hl 0 rfl dX8_readWhole_79 rfl rfl ?_
  refine r_iload_n (np := 81) G hl 1 rfl dX8_readWhole_80 rfl rfl ?_
  refine r_if_eq (np := 84) (tgt := 90) G rfl dX8_readWhole_81 (by decide) rfl (fun h9 => ?_) (fun h9 => ?_)
  · have hm := b_t h9 hm
    refine r_lload (np := 92) G hl 2 rfl dX8_readWhole_90 rfl ?_
    exact wX8_readWhole_B92 l E out G hr hk v0 v1 v2 g0 v0 v4 _ _ _ _ hm hM (lv_sub hl [0] rfl)
  · have hm := b_f h9 hm
    refine r_lload (np := 86) G hl 2 rfl dX8_readWhole_84 rfl ?_
    refine r_lneg (np := 87) G dX8_readWhole_86 rfl ?_
    refine r_goto (np := 92) G dX8_readWhole_87 (by decide) ?_
    exact wX8_readWhole_B92 l E out G hr hk v0 v1 v2 g0 v0 (-v4) _ _ _ _ hm hM (lv_sub hl [0] rfl)
set_option maxRecDepth 100000 in
set_option maxHeartbeats 4000000 in
theorem wX8_readWhole_B73 (l : Launch) (E : mE) (out : Int × mSt) {p : Program} {e : Env} {s : State} {m : MethodId} {args : Array Value} {below : List Frame} {meth : Method} {c : Code} (G : CallFix p m c cX8_readWhole 6 s args mTs RX8) (hr : meth.sig.returnType = (some .boolean)) (hk : meth.locks = false) (v0 : Nat) (v1 : Int) (v2 : Int) (g0 : isC v0 7) : ∀ (σ : mSt) (H : Heap) (locs : List Loc) (ls : Array Slot), mX8_readWhole_B73 v0 v1 v2 σ = some out → mM (mA E 276) E 276 σ s H locs → lv_has ls 6 [(0, .ref (eA E v0))] → mGo l p e 3 62 s m args below meth c E (some (vI out.1)) out.2 H locs (F0 m 73 ls []) := by
  intro σ H locs ls hm hM hl
  unfold mX8_readWhole_B73 at hm
  refine r_aload_n (np := 74) G hl 0 rfl dX8_readWhole_73 rfl rfl ?_
  refine r_iconst (np := 75) G 4 dX8_readWhole_74 rfl ?_
  obtain ⟨b10, s11, e12, hm⟩ := call_t hm
  refine m_callVI (np := 78) G hM hl.1 [vI 4] (qX8_refuse l E σ v0 4 _ e12) myX8_refuse (shp_lt (gX8_refuse e12) (by decide)) (gX8_refuse e12) rfl (by decide) lkX8_55 ⟨Nat.le_of_ble_eq_true rfl, Nat.le_of_ble_eq_true rfl⟩ ⟨Nat.le_of_ble_eq_true rfl, Nat.le_of_ble_eq_true rfl⟩ [] rfl (Nat.le_of_ble_eq_true rfl) dX8_readWhole_75 rfl (fun H locs hM => ?_)
  obtain ⟨g13, hm⟩ := g_t hm
  exact r_zret G hr hk hM g13 hm dX8_readWhole_78
set_option maxRecDepth 100000 in
set_option maxHeartbeats 4000000 in
theorem wX8_readWhole_B20 (l : Launch) (E : mE) (out : Int × mSt) {p : Program} {e : Env} {s : State} {m : MethodId} {args : Array Value} {below : List Frame} {meth : Method} {c : Code} (G : CallFix p m c cX8_readWhole 6 s args mTs RX8) (hr : meth.sig.returnType = (some .boolean)) (hk : meth.locks = false) (v0 : Nat) (v1 : Int) (v2 : Int) (g0 : isC v0 7) : ∀ (v3 : Int) (σ : mSt) (H : Heap) (locs : List Loc) (ls : Array Slot), mX8_readWhole_B20 v0 v1 v2 v3 σ = some out → mM (mA E 276) E 276 σ s H locs → lv_has ls 6 [(0, .ref (eA E v0)), (1, vI v1), (2, vI v2), (3, vI v3)] → mGo l p e 3 62 s m args below meth c E (some (vI out.1)) out.2 H locs (F0 m 20 ls []) := by
  intro v3 σ H locs ls hm hM hl
  unfold mX8_readWhole_B20 at hm
  refine r_aload_n (np := 21) G hl 0 rfl dX8_readWhole_20 rfl rfl ?_
  obtain ⟨r14, e15, hm⟩ := ref_t hm
  refine r_getR (np := 24) G hM (shp_lt g0 (by decide)) g0 e15 fdX8_0 lkX8_12 dX8_readWhole_21 rfl ?_
  refine r_iconst (np := 25) G 2 dX8_readWhole_24 rfl ?_
  obtain ⟨b16, s17, e18, hm⟩ := call_t hm
  refine m_callVI (np := 28) G hM hl.1 [vI 2] (qX10_is l E σ r14 2 _ e18) myX10_is (shp_lt (gX10_is e18) (by decide)) (gX10_is e18) rfl (by decide) lkX8_44 ⟨Nat.le_of_ble_eq_true rfl, Nat.le_of_ble_eq_true rfl⟩ ⟨Nat.le_of_ble_eq_true rfl, Nat.le_of_ble_eq_true rfl⟩ [] rfl (Nat.le_of_ble_eq_true rfl) dX8_readWhole_25 rfl (fun H locs hM => ?_)
  refine r_if_ne (np := 31) (tgt := 37) G rfl dX8_readWhole_28 (by decide) rfl (fun h19 => ?_) (fun h19 => ?_)
  · have hm := b_f h19 hm
    refine r_aload_n (np := 38) G hl 0 rfl dX8_readWhole_37 rfl rfl ?_
    obtain ⟨r20, e21, hm⟩ := ref_t hm
    refine r_getR (np := 41) G hM (shp_lt g0 (by decide)) g0 e21 fdX8_0 lkX8_12 dX8_readWhole_38 rfl ?_
    obtain ⟨b22, s23, e24, hm⟩ := call_t hm
    refine m_callVL (np := 44) G hM hl.1 [] (qX10_value l E s17 r20 _ e24) myX10_value (shp_lt (gX10_value e24) (by decide)) (gX10_value e24) rfl (by decide) lkX8_100 ⟨Nat.le_of_ble_eq_true rfl, Nat.le_of_ble_eq_true rfl⟩ ⟨Nat.le_of_ble_eq_true rfl, Nat.le_of_ble_eq_true rfl⟩ [] rfl (Nat.le_of_ble_eq_true rfl) dX8_readWhole_41 rfl (fun H locs hM => ?_)
    refine r_lstore (np := 46) G hl rfl [(4, vL b22), (0, .ref (eA E v0)), (1, vI v1), (2, vI v2), (3, vI v3)] dX8_readWhole_44 rfl (by decide) rfl (fun ls hl => ?_)
    refine r_lload (np := 48) G hl 0 rfl dX8_readWhole_46 rfl ?_
    refine r_lconst (np := 49) G 0 dX8_readWhole_48 rfl rfl ?_
    refine r_lcmp_eq (np := 53) (tgt := 73) G rfl (wLk 0 rfl) dX8_readWhole_49 dX8_readWhole_50 (by decide) rfl (fun h25 => ?_) (fun h25 => ?_)
    · have hm := b_t h25 hm
      exact wX8_readWhole_B73 l E out G hr hk v0 v1 v2 g0 _ _ _ _ hm hM (lv_sub hl [1] rfl)
    · have hm := b_f h25 hm
      refine r_lload (np := 55) G hl 0 rfl dX8_readWhole_53 rfl ?_
      refine r_iload_n (np := 56) G hl 2 rfl dX8_readWhole_55 rfl rfl ?_
      refine r_i2l (np := 57) G rfl dX8_readWhole_56 rfl ?_
      refine r_lcmp_gt (np := 61) (tgt := 73) G rfl rfl dX8_readWhole_57 dX8_readWhole_58 (by decide) rfl (fun h26 => ?_) (fun h26 => ?_)
      · have hm := b_t h26 hm
        exact wX8_readWhole_B73 l E out G hr hk v0 v1 v2 g0 _ _ _ _ hm hM (lv_sub hl [1] rfl)
      · have hm := b_f h26 hm
        refine r_iload_n (np := 62) G hl 3 rfl dX8_readWhole_61 rfl rfl ?_
        refine r_if_eq (np := 65) (tgt := 79) G rfl dX8_readWhole_62 (by decide) rfl (fun h27 => ?_) (fun h27 => ?_)
        · have hm := b_t h27 hm
          exact wX8_readWhole_B79 l E out G hr hk v0 v1 v2 g0 v3 b22 _ _ _ _ hm hM (lv_sub hl [1, 4, 0] rfl)
        · have hm := b_f h27 hm
          refine r_lload (np := 67) G hl 0 rfl dX8_readWhole_65 rfl ?_
          obtain ⟨b28, s29, e30, hm⟩ := call_t hm
          refine m_callSI (np := 70) G hM hl.1 [vL b22] (qX5_isSquareFree l E s23 b22 _ e30) myX5_isSquareFree lkX8_120 ⟨Nat.le_of_ble_eq_true rfl, Nat.le_of_ble_eq_true rfl⟩ ⟨Nat.le_of_ble_eq_true rfl, Nat.le_of_ble_eq_true rfl⟩ [] rfl (Nat.le_of_ble_eq_true rfl) dX8_readWhole_67 rfl (fun H locs hM => ?_)
          refine r_if_ne (np := 73) (tgt := 79) G rfl dX8_readWhole_70 (by decide) rfl (fun h31 => ?_) (fun h31 => ?_)
          · have hm := b_f h31 hm
            exact wX8_readWhole_B79 l E out G hr hk v0 v1 v2 g0 v3 b22 _ _ _ _ hm hM (lv_sub hl [1, 4, 0] rfl)
          · have hm := b_t h31 hm
            exact wX8_readWhole_B73 l E out G hr hk v0 v1 v2 g0 _ _ _ _ hm hM (lv_sub hl [1] rfl)
  · have hm := b_t h19 hm
    refine r_aload_n (np := 32) G hl 0 rfl dX8_readWhole_31 rfl rfl ?_
    refine r_iconst (np := 33) G 1 dX8_readWhole_32 rfl ?_
    obtain ⟨b32, s33, e34, hm⟩ := call_t hm
    refine m_callVI (np := 36) G hM hl.1 [vI 1] (qX8_refuse l E s17 v0 1 _ e34) myX8_refuse (shp_lt (gX8_refuse e34) (by decide)) (gX8_refuse e34) rfl (by decide) lkX8_55 ⟨Nat.le_of_ble_eq_true rfl, Nat.le_of_ble_eq_true rfl⟩ ⟨Nat.le_of_ble_eq_true rfl, Nat.le_of_ble_eq_true rfl⟩ [] rfl (Nat.le_of_ble_eq_true rfl) dX8_readWhole_33 rfl (fun H locs hM => ?_)
    obtain ⟨g35, hm⟩ := g_t hm
    exact r_zret G hr hk hM g35 hm dX8_readWhole_36
set_option maxRecDepth 100000 in
set_option maxHeartbeats 4000000 in
theorem qX8_readWhole (l : Launch) (E : mE) (σ : mSt) (v0 : Nat) (v1 : Int) (v2 : Int) (out : Int × mSt) (hm : mX8_readWhole v0 v1 v2 σ = some out) : mMet l yX8_readWhole cX8_readWhole 6 (some .boolean) 3 62 E 276 [.ref (eA E v0), vI v1, vI v2] σ (some (vI out.1)) out.2 := by
  unfold mX8_readWhole at hm
  obtain ⟨g0, hm⟩ := g_t hm
  refine m_entry (by decide +kernel) (Nat.le_of_ble_eq_true rfl) (fun p e s m args below meth c G hr hk hM ls hl => ?_)
  have G : CallFix p m c cX8_readWhole 6 s args mTs RX8 := G
  have hl : lv_has ls 6 [(0, .ref (eA E v0)), (1, vI v1), (2, vI v2)] := hl
  refine r_aload_n (np := 1) G hl 0 rfl dX8_readWhole_0 rfl rfl ?_
  obtain ⟨r36, e37, hm⟩ := ref_t hm
  refine r_getR (np := 4) G hM (shp_lt g0 (by decide)) g0 e37 fdX8_0 lkX8_12 dX8_readWhole_1 rfl ?_
  refine r_iconst (np := 5) G 4 dX8_readWhole_4 rfl ?_
  obtain ⟨b38, s39, e40, hm⟩ := call_t hm
  refine m_callVI (np := 8) G hM hl.1 [vI 4] (qX10_is l E σ r36 4 _ e40) myX10_is (shp_lt (gX10_is e40) (by decide)) (gX10_is e40) rfl (by decide) lkX8_44 ⟨Nat.le_of_ble_eq_true rfl, Nat.le_of_ble_eq_true rfl⟩ ⟨Nat.le_of_ble_eq_true rfl, Nat.le_of_ble_eq_true rfl⟩ [] rfl (Nat.le_of_ble_eq_true rfl) dX8_readWhole_5 rfl (fun H locs hM => ?_)
  refine r_istore_n (np := 9) G hl rfl [(3, vI b38), (0, .ref (eA E v0)), (1, vI v1), (2, vI v2)] dX8_readWhole_8 rfl rfl (by decide) rfl (fun ls hl => ?_)
  refine r_iload_n (np := 10) G hl 0 rfl dX8_readWhole_9 rfl rfl ?_
  refine r_if_eq (np := 13) (tgt := 20) G rfl dX8_readWhole_10 (by decide) rfl (fun h41 => ?_) (fun h41 => ?_)
  · have hm := b_t h41 hm
    exact wX8_readWhole_B20 l E out G hr hk v0 v1 v2 g0 b38 _ _ _ _ hm hM (lv_sub hl [1, 2, 3, 0] rfl)
  · have hm := b_f h41 hm
    refine r_aload_n (np := 14) G hl 1 rfl dX8_readWhole_13 rfl rfl ?_
    obtain ⟨r42, e43, hm⟩ := ref_t hm
    refine r_getR (np := 17) G hM (shp_lt g0 (by decide)) g0 e43 fdX8_0 lkX8_12 dX8_readWhole_14 rfl ?_
    obtain ⟨b44, s45, e46, hm⟩ := call_t hm
    refine m_callVV (np := 20) G hM hl.1 [] (qX10_step l E s39 r42 _ e46) myX10_step (shp_lt (gX10_step e46) (by decide)) (gX10_step e46) rfl (by decide) lkX8_61 ⟨Nat.le_of_ble_eq_true rfl, Nat.le_of_ble_eq_true rfl⟩ ⟨Nat.le_of_ble_eq_true rfl, Nat.le_of_ble_eq_true rfl⟩ [] rfl (Nat.le_of_ble_eq_true rfl) dX8_readWhole_17 rfl (fun H locs hM => ?_)
    exact wX8_readWhole_B20 l E out G hr hk v0 v1 v2 g0 b38 _ _ _ _ hm hM (lv_sub hl [1, 2, 3, 0] rfl)
theorem gX8_readWhole {v0 : Nat} {v1 : Int} {v2 : Int} {σ : mSt} {out : Int × mSt} (hm : mX8_readWhole v0 v1 v2 σ = some out) : isC v0 7 := (g_t hm).1
set_option maxRecDepth 100000 in
set_option maxHeartbeats 4000000 in
theorem qX8_readSides (l : Launch) (E : mE) (σ : mSt) (v0 : Nat) (out : Int × mSt) (hm : mX8_readSides v0 σ = some out) : mMet l yX8_readSides cX8_readSides 1 (some .boolean) 4 87 E 276 [.ref (eA E v0)] σ (some (vI out.1)) out.2 := by
  unfold mX8_readSides at hm
  obtain ⟨g0, hm⟩ := g_t hm
  refine m_entry (by decide +kernel) (Nat.le_of_ble_eq_true rfl) (fun p e s m args below meth c G hr hk hM ls hl => ?_)
  have G : CallFix p m c cX8_readSides 1 s args mTs RX8 := G
  have hl : lv_has ls 1 [(0, .ref (eA E v0))] := hl
  refine r_aload_n (np := 1) G hl 0 rfl dX8_readSides_0 rfl rfl ?_
  refine r_bipush (np := 3) G 60 dX8_readSides_1 (by decide) rfl ?_
  refine r_iconst (np := 4) G 1 dX8_readSides_3 rfl ?_
  obtain ⟨b1, s2, e3, hm⟩ := call_t hm
  refine m_callVI (np := 7) G hM hl.1 [vI 60, vI 1] (qX8_readWhole l E σ v0 60 1 _ e3) myX8_readWhole (shp_lt (gX8_readWhole e3) (by decide)) (gX8_readWhole e3) rfl (by decide) lkX8_89 ⟨Nat.le_of_ble_eq_true rfl, Nat.le_of_ble_eq_true rfl⟩ ⟨Nat.le_of_ble_eq_true rfl, Nat.le_of_ble_eq_true rfl⟩ [] rfl (Nat.le_of_ble_eq_true rfl) dX8_readSides_4 rfl (fun H locs hM => ?_)
  refine r_if_ne (np := 10) (tgt := 12) G rfl dX8_readSides_7 (by decide) rfl (fun h4 => ?_) (fun h4 => ?_)
  · have hm := b_f h4 hm
    refine r_aload_n (np := 13) G hl 0 rfl dX8_readSides_12 rfl rfl ?_
    obtain ⟨r5, e6, hm⟩ := ref_t hm
    refine r_getR (np := 16) G hM (shp_lt g0 (by decide)) g0 e6 fdX8_1 lkX8_21 dX8_readSides_13 rfl ?_
    refine r_aload_n (np := 17) G hl 0 rfl dX8_readSides_16 rfl rfl ?_
    refine r_getL (np := 20) G hM (shp_lt g0 (by decide)) g0 fdX8_3 lkX8_29 dX8_readSides_17 rfl ?_
    obtain ⟨b7, s8, e9, hm⟩ := call_t hm
    refine m_callVV (np := 23) G hM hl.1 [vL (s2 v0 3)] (qX0_setFirst l E s2 r5 (s2 v0 3) _ e9) myX0_setFirst (shp_lt (gX0_setFirst e9) (by decide)) (gX0_setFirst e9) rfl (by decide) lkX8_93 ⟨Nat.le_of_ble_eq_true rfl, Nat.le_of_ble_eq_true rfl⟩ ⟨Nat.le_of_ble_eq_true rfl, Nat.le_of_ble_eq_true rfl⟩ [] rfl (Nat.le_of_ble_eq_true rfl) dX8_readSides_20 rfl (fun H locs hM => ?_)
    refine r_aload_n (np := 24) G hl 0 rfl dX8_readSides_23 rfl rfl ?_
    refine r_bipush (np := 26) G 60 dX8_readSides_24 (by decide) rfl ?_
    refine r_iconst (np := 27) G 1 dX8_readSides_26 rfl ?_
    obtain ⟨b10, s11, e12, hm⟩ := call_t hm
    refine m_callVI (np := 30) G hM hl.1 [vI 60, vI 1] (qX8_readWhole l E s8 v0 60 1 _ e12) myX8_readWhole (shp_lt (gX8_readWhole e12) (by decide)) (gX8_readWhole e12) rfl (by decide) lkX8_89 ⟨Nat.le_of_ble_eq_true rfl, Nat.le_of_ble_eq_true rfl⟩ ⟨Nat.le_of_ble_eq_true rfl, Nat.le_of_ble_eq_true rfl⟩ [] rfl (Nat.le_of_ble_eq_true rfl) dX8_readSides_27 rfl (fun H locs hM => ?_)
    refine r_if_ne (np := 33) (tgt := 35) G rfl dX8_readSides_30 (by decide) rfl (fun h13 => ?_) (fun h13 => ?_)
    · have hm := b_f h13 hm
      refine r_aload_n (np := 36) G hl 0 rfl dX8_readSides_35 rfl rfl ?_
      obtain ⟨r14, e15, hm⟩ := ref_t hm
      refine r_getR (np := 39) G hM (shp_lt g0 (by decide)) g0 e15 fdX8_1 lkX8_21 dX8_readSides_36 rfl ?_
      refine r_aload_n (np := 40) G hl 0 rfl dX8_readSides_39 rfl rfl ?_
      refine r_getL (np := 43) G hM (shp_lt g0 (by decide)) g0 fdX8_3 lkX8_29 dX8_readSides_40 rfl ?_
      obtain ⟨b16, s17, e18, hm⟩ := call_t hm
      refine m_callVV (np := 46) G hM hl.1 [vL (s11 v0 3)] (qX0_setSecond l E s11 r14 (s11 v0 3) _ e18) myX0_setSecond (shp_lt (gX0_setSecond e18) (by decide)) (gX0_setSecond e18) rfl (by decide) lkX8_97 ⟨Nat.le_of_ble_eq_true rfl, Nat.le_of_ble_eq_true rfl⟩ ⟨Nat.le_of_ble_eq_true rfl, Nat.le_of_ble_eq_true rfl⟩ [] rfl (Nat.le_of_ble_eq_true rfl) dX8_readSides_43 rfl (fun H locs hM => ?_)
      refine r_iconst (np := 47) G 1 dX8_readSides_46 rfl ?_
      exact r_zret G hr hk hM (Or.inr rfl) hm dX8_readSides_47
    · have hm := b_t h13 hm
      refine r_iconst (np := 34) G 0 dX8_readSides_33 rfl ?_
      exact r_zret G hr hk hM (Or.inl rfl) hm dX8_readSides_34
  · have hm := b_t h4 hm
    refine r_iconst (np := 11) G 0 dX8_readSides_10 rfl ?_
    exact r_zret G hr hk hM (Or.inl rfl) hm dX8_readSides_11
theorem gX8_readSides {v0 : Nat} {σ : mSt} {out : Int × mSt} (hm : mX8_readSides v0 σ = some out) : isC v0 7 := (g_t hm).1
set_option maxRecDepth 100000 in
set_option maxHeartbeats 4000000 in
theorem wX8_isField_B48 (l : Launch) (E : mE) (out : Int × mSt) {p : Program} {e : Env} {s : State} {m : MethodId} {args : Array Value} {below : List Frame} {meth : Method} {c : Code} (G : CallFix p m c cX8_isField 3 s args mTs RX8) (hr : meth.sig.returnType = (some .boolean)) (hk : meth.locks = false) (v0 : Nat) (v1 : Int) (g0 : isC v0 7) : ∀ (σ : mSt) (H : Heap) (locs : List Loc) (ls : Array Slot), mX8_isField_B48 v0 v1 σ = some out → mM (mA E 276) E 276 σ s H locs → lv_has ls 3 [] → mGo l p e 0 0 s m args below meth c E (some (vI out.1)) out.2 H locs (F0 m 48 ls []) := by
  intro σ H locs ls hm hM hl
  unfold mX8_isField_B48 at hm
  refine r_iconst (np := 49) G 1 dX8_isField_48 rfl ?_
  refine r_goto (np := 53) G dX8_isField_49 (by decide) ?_
  exact r_zret G hr hk hM (Or.inr rfl) hm dX8_isField_53
set_option maxRecDepth 100000 in
set_option maxHeartbeats 4000000 in
theorem qX8_isField (l : Launch) (E : mE) (σ : mSt) (v0 : Nat) (v1 : Int) (out : Int × mSt) (hm : mX8_isField v0 v1 σ = some out) : mMet l yX8_isField cX8_isField 3 (some .boolean) 0 0 E 276 [.ref (eA E v0), vL v1] σ (some (vI out.1)) out.2 := by
  unfold mX8_isField at hm
  obtain ⟨g0, hm⟩ := g_t hm
  refine m_entry (by decide +kernel) (Nat.le_of_ble_eq_true rfl) (fun p e s m args below meth c G hr hk hM ls hl => ?_)
  have G : CallFix p m c cX8_isField 3 s args mTs RX8 := G
  have hl : lv_has ls 3 [(0, .ref (eA E v0)), (1, vL v1)] := hl
  refine r_lload_n (np := 1) G hl 1 rfl dX8_isField_0 rfl rfl ?_
  refine r_ldc2 (np := 4) G 7 dX8_isField_1 lkX8_108 rfl rfl ?_
  refine r_lcmp_eq (np := 8) (tgt := 48) G rfl (wLk 7 rfl) dX8_isField_4 dX8_isField_5 (by decide) rfl (fun h1 => ?_) (fun h1 => ?_)
  · have hm := b_t h1 hm
    exact wX8_isField_B48 l E out G hr hk v0 v1 g0 _ _ _ _ hm hM (lv_sub hl [] rfl)
  · have hm := b_f h1 hm
    refine r_lload_n (np := 9) G hl 1 rfl dX8_isField_8 rfl rfl ?_
    refine r_ldc2 (np := 12) G 13 dX8_isField_9 lkX8_110 rfl rfl ?_
    refine r_lcmp_eq (np := 16) (tgt := 48) G rfl (wLk 13 rfl) dX8_isField_12 dX8_isField_13 (by decide) rfl (fun h2 => ?_) (fun h2 => ?_)
    · have hm := b_t h2 hm
      exact wX8_isField_B48 l E out G hr hk v0 v1 g0 _ _ _ _ hm hM (lv_sub hl [] rfl)
    · have hm := b_f h2 hm
      refine r_lload_n (np := 17) G hl 1 rfl dX8_isField_16 rfl rfl ?_
      refine r_ldc2 (np := 20) G 19 dX8_isField_17 lkX8_112 rfl rfl ?_
      refine r_lcmp_eq (np := 24) (tgt := 48) G rfl (wLk 19 rfl) dX8_isField_20 dX8_isField_21 (by decide) rfl (fun h3 => ?_) (fun h3 => ?_)
      · have hm := b_t h3 hm
        exact wX8_isField_B48 l E out G hr hk v0 v1 g0 _ _ _ _ hm hM (lv_sub hl [] rfl)
      · have hm := b_f h3 hm
        refine r_lload_n (np := 25) G hl 1 rfl dX8_isField_24 rfl rfl ?_
        refine r_ldc2 (np := 28) G 31 dX8_isField_25 lkX8_114 rfl rfl ?_
        refine r_lcmp_eq (np := 32) (tgt := 48) G rfl (wLk 31 rfl) dX8_isField_28 dX8_isField_29 (by decide) rfl (fun h4 => ?_) (fun h4 => ?_)
        · have hm := b_t h4 hm
          exact wX8_isField_B48 l E out G hr hk v0 v1 g0 _ _ _ _ hm hM (lv_sub hl [] rfl)
        · have hm := b_f h4 hm
          refine r_lload_n (np := 33) G hl 1 rfl dX8_isField_32 rfl rfl ?_
          refine r_ldc2 (np := 36) G 37 dX8_isField_33 lkX8_116 rfl rfl ?_
          refine r_lcmp_eq (np := 40) (tgt := 48) G rfl (wLk 37 rfl) dX8_isField_36 dX8_isField_37 (by decide) rfl (fun h5 => ?_) (fun h5 => ?_)
          · have hm := b_t h5 hm
            exact wX8_isField_B48 l E out G hr hk v0 v1 g0 _ _ _ _ hm hM (lv_sub hl [] rfl)
          · have hm := b_f h5 hm
            refine r_lload_n (np := 41) G hl 1 rfl dX8_isField_40 rfl rfl ?_
            refine r_ldc2 (np := 44) G 43 dX8_isField_41 lkX8_118 rfl rfl ?_
            refine r_lcmp_ne (np := 48) (tgt := 52) G rfl (wLk 43 rfl) dX8_isField_44 dX8_isField_45 (by decide) rfl (fun h6 => ?_) (fun h6 => ?_)
            · have hm := b_f h6 hm
              refine r_iconst (np := 53) G 0 dX8_isField_52 rfl ?_
              exact r_zret G hr hk hM (Or.inl rfl) hm dX8_isField_53
            · have hm := b_t h6 hm
              exact wX8_isField_B48 l E out G hr hk v0 v1 g0 _ _ _ _ hm hM (lv_sub hl [] rfl)
theorem gX8_isField {v0 : Nat} {v1 : Int} {σ : mSt} {out : Int × mSt} (hm : mX8_isField v0 v1 σ = some out) : isC v0 7 := (g_t hm).1
set_option maxRecDepth 100000 in
set_option maxHeartbeats 4000000 in
theorem qX8_readField (l : Launch) (E : mE) (σ : mSt) (v0 : Nat) (out : Int × mSt) (hm : mX8_readField v0 σ = some out) : mMet l yX8_readField cX8_readField 3 (some .boolean) 4 87 E 276 [.ref (eA E v0)] σ (some (vI out.1)) out.2 := by
  unfold mX8_readField at hm
  obtain ⟨g0, hm⟩ := g_t hm
  refine m_entry (by decide +kernel) (Nat.le_of_ble_eq_true rfl) (fun p e s m args below meth c G hr hk hM ls hl => ?_)
  have G : CallFix p m c cX8_readField 3 s args mTs RX8 := G
  have hl : lv_has ls 3 [(0, .ref (eA E v0))] := hl
  refine r_aload_n (np := 1) G hl 0 rfl dX8_readField_0 rfl rfl ?_
  obtain ⟨r1, e2, hm⟩ := ref_t hm
  refine r_getR (np := 4) G hM (shp_lt g0 (by decide)) g0 e2 fdX8_0 lkX8_12 dX8_readField_1 rfl ?_
  refine r_iconst (np := 5) G 2 dX8_readField_4 rfl ?_
  obtain ⟨b3, s4, e5, hm⟩ := call_t hm
  refine m_callVI (np := 8) G hM hl.1 [vI 2] (qX10_is l E σ r1 2 _ e5) myX10_is (shp_lt (gX10_is e5) (by decide)) (gX10_is e5) rfl (by decide) lkX8_44 ⟨Nat.le_of_ble_eq_true rfl, Nat.le_of_ble_eq_true rfl⟩ ⟨Nat.le_of_ble_eq_true rfl, Nat.le_of_ble_eq_true rfl⟩ [] rfl (Nat.le_of_ble_eq_true rfl) dX8_readField_5 rfl (fun H locs hM => ?_)
  refine r_if_ne (np := 11) (tgt := 17) G rfl dX8_readField_8 (by decide) rfl (fun h6 => ?_) (fun h6 => ?_)
  · have hm := b_f h6 hm
    refine r_aload_n (np := 18) G hl 0 rfl dX8_readField_17 rfl rfl ?_
    obtain ⟨r7, e8, hm⟩ := ref_t hm
    refine r_getR (np := 21) G hM (shp_lt g0 (by decide)) g0 e8 fdX8_0 lkX8_12 dX8_readField_18 rfl ?_
    obtain ⟨b9, s10, e11, hm⟩ := call_t hm
    refine m_callVL (np := 24) G hM hl.1 [] (qX10_value l E s4 r7 _ e11) myX10_value (shp_lt (gX10_value e11) (by decide)) (gX10_value e11) rfl (by decide) lkX8_100 ⟨Nat.le_of_ble_eq_true rfl, Nat.le_of_ble_eq_true rfl⟩ ⟨Nat.le_of_ble_eq_true rfl, Nat.le_of_ble_eq_true rfl⟩ [] rfl (Nat.le_of_ble_eq_true rfl) dX8_readField_21 rfl (fun H locs hM => ?_)
    refine r_lstore_n (np := 25) G hl rfl [(1, vL b9), (0, .ref (eA E v0))] dX8_readField_24 rfl rfl (by decide) rfl (fun ls hl => ?_)
    refine r_aload_n (np := 26) G hl 1 rfl dX8_readField_25 rfl rfl ?_
    refine r_lload_n (np := 27) G hl 0 rfl dX8_readField_26 rfl rfl ?_
    obtain ⟨b12, s13, e14, hm⟩ := call_t hm
    refine m_callVI (np := 30) G hM hl.1 [vL b9] (qX8_isField l E s10 v0 b9 _ e14) myX8_isField (shp_lt (gX8_isField e14) (by decide)) (gX8_isField e14) rfl (by decide) lkX8_104 ⟨Nat.le_of_ble_eq_true rfl, Nat.le_of_ble_eq_true rfl⟩ ⟨Nat.le_of_ble_eq_true rfl, Nat.le_of_ble_eq_true rfl⟩ [] rfl (Nat.le_of_ble_eq_true rfl) dX8_readField_27 rfl (fun H locs hM => ?_)
    refine r_if_ne (np := 33) (tgt := 39) G rfl dX8_readField_30 (by decide) rfl (fun h15 => ?_) (fun h15 => ?_)
    · have hm := b_f h15 hm
      refine r_aload_n (np := 40) G hl 1 rfl dX8_readField_39 rfl rfl ?_
      obtain ⟨r16, e17, hm⟩ := ref_t hm
      refine r_getR (np := 43) G hM (shp_lt g0 (by decide)) g0 e17 fdX8_1 lkX8_21 dX8_readField_40 rfl ?_
      refine r_lload_n (np := 44) G hl 0 rfl dX8_readField_43 rfl rfl ?_
      obtain ⟨b18, s19, e20, hm⟩ := call_t hm
      refine m_callVV (np := 47) G hM hl.1 [vL b9] (qX0_setFirst l E s13 r16 b9 _ e20) myX0_setFirst (shp_lt (gX0_setFirst e20) (by decide)) (gX0_setFirst e20) rfl (by decide) lkX8_93 ⟨Nat.le_of_ble_eq_true rfl, Nat.le_of_ble_eq_true rfl⟩ ⟨Nat.le_of_ble_eq_true rfl, Nat.le_of_ble_eq_true rfl⟩ [] rfl (Nat.le_of_ble_eq_true rfl) dX8_readField_44 rfl (fun H locs hM => ?_)
      refine r_aload_n (np := 48) G hl 1 rfl dX8_readField_47 rfl rfl ?_
      obtain ⟨r21, e22, hm⟩ := ref_t hm
      refine r_getR (np := 51) G hM (shp_lt g0 (by decide)) g0 e22 fdX8_0 lkX8_12 dX8_readField_48 rfl ?_
      obtain ⟨b23, s24, e25, hm⟩ := call_t hm
      refine m_callVV (np := 54) G hM hl.1 [] (qX10_step l E s19 r21 _ e25) myX10_step (shp_lt (gX10_step e25) (by decide)) (gX10_step e25) rfl (by decide) lkX8_61 ⟨Nat.le_of_ble_eq_true rfl, Nat.le_of_ble_eq_true rfl⟩ ⟨Nat.le_of_ble_eq_true rfl, Nat.le_of_ble_eq_true rfl⟩ [] rfl (Nat.le_of_ble_eq_true rfl) dX8_readField_51 rfl (fun H locs hM => ?_)
      refine r_aload_n (np := 55) G hl 1 rfl dX8_readField_54 rfl rfl ?_
      refine r_sipush (np := 58) G 999 dX8_readField_55 (by decide) rfl ?_
      refine r_iconst (np := 59) G 0 dX8_readField_58 rfl ?_
      obtain ⟨b26, s27, e28, hm⟩ := call_t hm
      refine m_callVI (np := 62) G hM hl.1 [vI 999, vI 0] (qX8_readWhole l E s24 v0 999 0 _ e28) myX8_readWhole (shp_lt (gX8_readWhole e28) (by decide)) (gX8_readWhole e28) rfl (by decide) lkX8_89 ⟨Nat.le_of_ble_eq_true rfl, Nat.le_of_ble_eq_true rfl⟩ ⟨Nat.le_of_ble_eq_true rfl, Nat.le_of_ble_eq_true rfl⟩ [] rfl (Nat.le_of_ble_eq_true rfl) dX8_readField_59 rfl (fun H locs hM => ?_)
      refine r_if_ne (np := 65) (tgt := 67) G rfl dX8_readField_62 (by decide) rfl (fun h29 => ?_) (fun h29 => ?_)
      · have hm := b_f h29 hm
        refine r_aload_n (np := 68) G hl 1 rfl dX8_readField_67 rfl rfl ?_
        obtain ⟨r30, e31, hm⟩ := ref_t hm
        refine r_getR (np := 71) G hM (shp_lt g0 (by decide)) g0 e31 fdX8_1 lkX8_21 dX8_readField_68 rfl ?_
        refine r_aload_n (np := 72) G hl 1 rfl dX8_readField_71 rfl rfl ?_
        refine r_getL (np := 75) G hM (shp_lt g0 (by decide)) g0 fdX8_3 lkX8_29 dX8_readField_72 rfl ?_
        obtain ⟨b32, s33, e34, hm⟩ := call_t hm
        refine m_callVV (np := 78) G hM hl.1 [vL (s27 v0 3)] (qX0_setSecond l E s27 r30 (s27 v0 3) _ e34) myX0_setSecond (shp_lt (gX0_setSecond e34) (by decide)) (gX0_setSecond e34) rfl (by decide) lkX8_97 ⟨Nat.le_of_ble_eq_true rfl, Nat.le_of_ble_eq_true rfl⟩ ⟨Nat.le_of_ble_eq_true rfl, Nat.le_of_ble_eq_true rfl⟩ [] rfl (Nat.le_of_ble_eq_true rfl) dX8_readField_75 rfl (fun H locs hM => ?_)
        refine r_iconst (np := 79) G 1 dX8_readField_78 rfl ?_
        exact r_zret G hr hk hM (Or.inr rfl) hm dX8_readField_79
      · have hm := b_t h29 hm
        refine r_iconst (np := 66) G 0 dX8_readField_65 rfl ?_
        exact r_zret G hr hk hM (Or.inl rfl) hm dX8_readField_66
    · have hm := b_t h15 hm
      refine r_aload_n (np := 34) G hl 1 rfl dX8_readField_33 rfl rfl ?_
      refine r_iconst (np := 35) G 4 dX8_readField_34 rfl ?_
      obtain ⟨b35, s36, e37, hm⟩ := call_t hm
      refine m_callVI (np := 38) G hM hl.1 [vI 4] (qX8_refuse l E s13 v0 4 _ e37) myX8_refuse (shp_lt (gX8_refuse e37) (by decide)) (gX8_refuse e37) rfl (by decide) lkX8_55 ⟨Nat.le_of_ble_eq_true rfl, Nat.le_of_ble_eq_true rfl⟩ ⟨Nat.le_of_ble_eq_true rfl, Nat.le_of_ble_eq_true rfl⟩ [] rfl (Nat.le_of_ble_eq_true rfl) dX8_readField_35 rfl (fun H locs hM => ?_)
      obtain ⟨g38, hm⟩ := g_t hm
      exact r_zret G hr hk hM g38 hm dX8_readField_38
  · have hm := b_t h6 hm
    refine r_aload_n (np := 12) G hl 0 rfl dX8_readField_11 rfl rfl ?_
    refine r_iconst (np := 13) G 1 dX8_readField_12 rfl ?_
    obtain ⟨b39, s40, e41, hm⟩ := call_t hm
    refine m_callVI (np := 16) G hM hl.1 [vI 1] (qX8_refuse l E s4 v0 1 _ e41) myX8_refuse (shp_lt (gX8_refuse e41) (by decide)) (gX8_refuse e41) rfl (by decide) lkX8_55 ⟨Nat.le_of_ble_eq_true rfl, Nat.le_of_ble_eq_true rfl⟩ ⟨Nat.le_of_ble_eq_true rfl, Nat.le_of_ble_eq_true rfl⟩ [] rfl (Nat.le_of_ble_eq_true rfl) dX8_readField_13 rfl (fun H locs hM => ?_)
    obtain ⟨g42, hm⟩ := g_t hm
    exact r_zret G hr hk hM g42 hm dX8_readField_16
theorem gX8_readField {v0 : Nat} {σ : mSt} {out : Int × mSt} (hm : mX8_readField v0 σ = some out) : isC v0 7 := (g_t hm).1
set_option maxRecDepth 100000 in
set_option maxHeartbeats 4000000 in
theorem wX8_isSign_B22 (l : Launch) (E : mE) (out : Int × mSt) {p : Program} {e : Env} {s : State} {m : MethodId} {args : Array Value} {below : List Frame} {meth : Method} {c : Code} (G : CallFix p m c cX8_isSign 1 s args mTs RX8) (hr : meth.sig.returnType = (some .boolean)) (hk : meth.locks = false) (v0 : Nat) (g0 : isC v0 7) : ∀ (σ : mSt) (H : Heap) (locs : List Loc) (ls : Array Slot), mX8_isSign_B22 v0 σ = some out → mM (mA E 276) E 276 σ s H locs → lv_has ls 1 [] → mGo l p e 1 21 s m args below meth c E (some (vI out.1)) out.2 H locs (F0 m 22 ls []) := by
  intro σ H locs ls hm hM hl
  unfold mX8_isSign_B22 at hm
  refine r_iconst (np := 23) G 1 dX8_isSign_22 rfl ?_
  refine r_goto (np := 27) G dX8_isSign_23 (by decide) ?_
  exact r_zret G hr hk hM (Or.inr rfl) hm dX8_isSign_27
set_option maxRecDepth 100000 in
set_option maxHeartbeats 4000000 in
theorem qX8_isSign (l : Launch) (E : mE) (σ : mSt) (v0 : Nat) (out : Int × mSt) (hm : mX8_isSign v0 σ = some out) : mMet l yX8_isSign cX8_isSign 1 (some .boolean) 1 21 E 276 [.ref (eA E v0)] σ (some (vI out.1)) out.2 := by
  unfold mX8_isSign at hm
  obtain ⟨g0, hm⟩ := g_t hm
  refine m_entry (by decide +kernel) (Nat.le_of_ble_eq_true rfl) (fun p e s m args below meth c G hr hk hM ls hl => ?_)
  have G : CallFix p m c cX8_isSign 1 s args mTs RX8 := G
  have hl : lv_has ls 1 [(0, .ref (eA E v0))] := hl
  refine r_aload_n (np := 1) G hl 0 rfl dX8_isSign_0 rfl rfl ?_
  obtain ⟨r1, e2, hm⟩ := ref_t hm
  refine r_getR (np := 4) G hM (shp_lt g0 (by decide)) g0 e2 fdX8_0 lkX8_12 dX8_isSign_1 rfl ?_
  refine r_iconst (np := 5) G 3 dX8_isSign_4 rfl ?_
  obtain ⟨b3, s4, e5, hm⟩ := call_t hm
  refine m_callVI (np := 8) G hM hl.1 [vI 3] (qX10_is l E σ r1 3 _ e5) myX10_is (shp_lt (gX10_is e5) (by decide)) (gX10_is e5) rfl (by decide) lkX8_44 ⟨Nat.le_of_ble_eq_true rfl, Nat.le_of_ble_eq_true rfl⟩ ⟨Nat.le_of_ble_eq_true rfl, Nat.le_of_ble_eq_true rfl⟩ [] rfl (Nat.le_of_ble_eq_true rfl) dX8_isSign_5 rfl (fun H locs hM => ?_)
  refine r_if_ne (np := 11) (tgt := 22) G rfl dX8_isSign_8 (by decide) rfl (fun h6 => ?_) (fun h6 => ?_)
  · have hm := b_f h6 hm
    exact wX8_isSign_B22 l E out G hr hk v0 g0 _ _ _ _ hm hM (lv_sub hl [] rfl)
  · have hm := b_t h6 hm
    refine r_aload_n (np := 12) G hl 0 rfl dX8_isSign_11 rfl rfl ?_
    obtain ⟨r7, e8, hm⟩ := ref_t hm
    refine r_getR (np := 15) G hM (shp_lt g0 (by decide)) g0 e8 fdX8_0 lkX8_12 dX8_isSign_12 rfl ?_
    refine r_iconst (np := 16) G 4 dX8_isSign_15 rfl ?_
    obtain ⟨b9, s10, e11, hm⟩ := call_t hm
    refine m_callVI (np := 19) G hM hl.1 [vI 4] (qX10_is l E s4 r7 4 _ e11) myX10_is (shp_lt (gX10_is e11) (by decide)) (gX10_is e11) rfl (by decide) lkX8_44 ⟨Nat.le_of_ble_eq_true rfl, Nat.le_of_ble_eq_true rfl⟩ ⟨Nat.le_of_ble_eq_true rfl, Nat.le_of_ble_eq_true rfl⟩ [] rfl (Nat.le_of_ble_eq_true rfl) dX8_isSign_16 rfl (fun H locs hM => ?_)
    refine r_if_eq (np := 22) (tgt := 26) G rfl dX8_isSign_19 (by decide) rfl (fun h12 => ?_) (fun h12 => ?_)
    · have hm := b_t h12 hm
      refine r_iconst (np := 27) G 0 dX8_isSign_26 rfl ?_
      exact r_zret G hr hk hM (Or.inl rfl) hm dX8_isSign_27
    · have hm := b_f h12 hm
      exact wX8_isSign_B22 l E out G hr hk v0 g0 _ _ _ _ hm hM (lv_sub hl [] rfl)
theorem gX8_isSign {v0 : Nat} {σ : mSt} {out : Int × mSt} (hm : mX8_isSign v0 σ = some out) : isC v0 7 := (g_t hm).1
set_option maxRecDepth 100000 in
set_option maxHeartbeats 4000000 in
theorem wX9_solve_B138 (l : Launch) (E : mE) (out : Int × mSt) {p : Program} {e : Env} {s : State} {m : MethodId} {args : Array Value} {below : List Frame} {meth : Method} {c : Code} (G : CallFix p m c cX9_solve 7 s args mTs RX9) (hr : meth.sig.returnType = (some .boolean)) (hk : meth.locks = false) (v0 : Nat) (v1 : Int) (v3 : Int) (g0 : isC v0 8) : ∀ (σ : mSt) (H : Heap) (locs : List Loc) (ls : Array Slot), mX9_solve_B138 v0 v1 v3 σ = some out → mM (mA E 276) E 276 σ s H locs → lv_has ls 7 [] → mGo l p e 1 27 s m args below meth c E (some (vI out.1)) out.2 H locs (F0 m 138 ls []) := by
  intro σ H locs ls hm hM hl
  unfold mX9_solve_B138 at hm
  refine r_iconst (np := 139) G 0 dX9_solve_138 rfl ?_
  exact r_zret G hr hk hM (Or.inl rfl) hm dX9_solve_139
set_option maxRecDepth 100000 in
set_option maxHeartbeats 4000000 in
theorem wX9_solve_B125 (l : Launch) (E : mE) (out : Int × mSt) {p : Program} {e : Env} {s : State} {m : MethodId} {args : Array Value} {below : List Frame} {meth : Method} {c : Code} (G : CallFix p m c cX9_solve 7 s args mTs RX9) (hr : meth.sig.returnType = (some .boolean)) (hk : meth.locks = false) (v0 : Nat) (v1 : Int) (v3 : Int) (g0 : isC v0 8) (c15 : mSt → Option (Int × mSt)) (x138 : mSt → Option (Int × mSt)) (hc15 : ∀ (σ : mSt) (H : Heap) (locs : List Loc) (ls : Array Slot), c15 σ = some out → mM (mA E 276) E 276 σ s H locs → lv_has ls 7 [(0, .ref (eA E v0))] → mGo l p e 1 27 s m args below meth c E (some (vI out.1)) out.2 H locs (F0 m 15 ls [])) (hx138 : ∀ (σ : mSt) (H : Heap) (locs : List Loc) (ls : Array Slot), x138 σ = some out → mM (mA E 276) E 276 σ s H locs → lv_has ls 7 [] → mGo l p e 1 27 s m args below meth c E (some (vI out.1)) out.2 H locs (F0 m 138 ls [])) : ∀ (σ : mSt) (H : Heap) (locs : List Loc) (ls : Array Slot), mX9_solve_B125 v0 v1 v3 c15 x138 σ = some out → mM (mA E 276) E 276 σ s H locs → lv_has ls 7 [(0, .ref (eA E v0))] → mGo l p e 1 27 s m args below meth c E (some (vI out.1)) out.2 H locs (F0 m 125 ls []) := by
  intro σ H locs ls hm hM hl
  unfold mX9_solve_B125 at hm
  refine r_aload_n (np := 126) G hl 0 rfl dX9_solve_125 rfl rfl ?_
  refine r_dup (np := 127) G dX9_solve_126 rfl rfl ?_
  refine r_getL (np := 130) G hM (shp_lt g0 (by decide)) g0 fdX9_4 lkX9_22 dX9_solve_127 rfl ?_
  refine r_lconst (np := 131) G 1 dX9_solve_130 rfl rfl ?_
  refine r_ladd (np := 132) G dX9_solve_131 rfl ?_
  obtain ⟨s1, e2, hm⟩ := bnd_t hm
  refine r_putL (np := 135) G hM (shp_lt g0 (by decide)) g0 ptX9_4 rfl lkX9_22 s1 e2 dX9_solve_132 rfl (fun H locs hM => ?_)
  refine r_goto (np := 15) G dX9_solve_135 (by decide) ?_
  exact hc15 _ _ _ _ hm hM (lv_sub hl [0] rfl)
set_option maxRecDepth 100000 in
set_option maxHeartbeats 4000000 in
theorem wX9_solve_L44 (l : Launch) (E : mE) (out : Int × mSt) {p : Program} {e : Env} {s : State} {m : MethodId} {args : Array Value} {below : List Frame} {meth : Method} {c : Code} (G : CallFix p m c cX9_solve 7 s args mTs RX9) (hr : meth.sig.returnType = (some .boolean)) (hk : meth.locks = false) (v0 : Nat) (v1 : Int) (v3 : Int) (g0 : isC v0 8) (x125 : mSt → Option (Int × mSt)) (hx125 : ∀ (σ : mSt) (H : Heap) (locs : List Loc) (ls : Array Slot), x125 σ = some out → mM (mA E 276) E 276 σ s H locs → lv_has ls 7 [(0, .ref (eA E v0))] → mGo l p e 1 27 s m args below meth c E (some (vI out.1)) out.2 H locs (F0 m 125 ls [])) : ∀ (n : Nat) (σ : mSt) (H : Heap) (locs : List Loc) (ls : Array Slot), mX9_solve_L44 v0 v1 v3 x125 n σ = some out → mM (mA E 276) E 276 σ s H locs → lv_has ls 7 [(0, .ref (eA E v0))] → mGo l p e 1 27 s m args below meth c E (some (vI out.1)) out.2 H locs (F0 m 44 ls []) := by
  intro n
  induction n with
  | zero =>
    intro σ H locs ls hm hM hl
    exact absurd hm (by rw [mX9_solve_L44.eq_1]; exact fun h => nomatch h)
  | succ n ih =>
    intro σ H locs ls hm hM hl
    rw [mX9_solve_L44.eq_2] at hm
    refine r_aload_n (np := 45) G hl 0 rfl dX9_solve_44 rfl rfl ?_
    refine r_getL (np := 48) G hM (shp_lt g0 (by decide)) g0 fdX9_3 lkX9_19 dX9_solve_45 rfl ?_
    refine r_ldc2 (np := 51) G 7 dX9_solve_48 lkX9_25 rfl rfl ?_
    refine r_lcmp_gt (np := 55) (tgt := 125) G rfl (wLk 7 rfl) dX9_solve_51 dX9_solve_52 (by decide) rfl (fun h3 => ?_) (fun h3 => ?_)
    · have hm := b_t h3 hm
      exact hx125 _ _ _ _ hm hM (lv_sub hl [0] rfl)
    · have hm := b_f h3 hm
      refine r_aload_n (np := 56) G hl 0 rfl dX9_solve_55 rfl rfl ?_
      refine r_getL (np := 59) G hM (shp_lt g0 (by decide)) g0 fdX9_0 lkX9_7 dX9_solve_56 rfl ?_
      refine r_aload_n (np := 60) G hl 0 rfl dX9_solve_59 rfl rfl ?_
      refine r_getL (np := 63) G hM (shp_lt g0 (by decide)) g0 fdX9_3 lkX9_19 dX9_solve_60 rfl ?_
      refine r_lmul (np := 64) G dX9_solve_63 rfl ?_
      refine r_aload_n (np := 65) G hl 0 rfl dX9_solve_64 rfl rfl ?_
      refine r_getL (np := 68) G hM (shp_lt g0 (by decide)) g0 fdX9_3 lkX9_19 dX9_solve_65 rfl ?_
      refine r_lmul (np := 69) G dX9_solve_68 rfl ?_
      refine r_aload_n (np := 70) G hl 0 rfl dX9_solve_69 rfl rfl ?_
      refine r_getL (np := 73) G hM (shp_lt g0 (by decide)) g0 fdX9_1 lkX9_13 dX9_solve_70 rfl ?_
      refine r_aload_n (np := 74) G hl 0 rfl dX9_solve_73 rfl rfl ?_
      refine r_getL (np := 77) G hM (shp_lt g0 (by decide)) g0 fdX9_4 lkX9_22 dX9_solve_74 rfl ?_
      refine r_lmul (np := 78) G dX9_solve_77 rfl ?_
      refine r_aload_n (np := 79) G hl 0 rfl dX9_solve_78 rfl rfl ?_
      refine r_getL (np := 82) G hM (shp_lt g0 (by decide)) g0 fdX9_4 lkX9_22 dX9_solve_79 rfl ?_
      refine r_lmul (np := 83) G dX9_solve_82 rfl ?_
      refine r_ladd (np := 84) G dX9_solve_83 rfl ?_
      obtain ⟨a4, e5, hm⟩ := bnd_t hm
      refine r_lstore (np := 86) G hl e5 [(5, vL a4), (0, .ref (eA E v0))] dX9_solve_84 rfl (by decide) rfl (fun ls hl => ?_)
      refine r_aload_n (np := 87) G hl 1 rfl dX9_solve_86 rfl rfl ?_
      refine r_lload (np := 89) G hl 0 rfl dX9_solve_87 rfl ?_
      obtain ⟨b6, s7, e8, hm⟩ := call_t hm
      refine m_callSL (np := 92) G hM hl.1 [vL a4] (qX5_root l E σ a4 _ e8) myX5_root lkX9_27 ⟨Nat.le_of_ble_eq_true rfl, Nat.le_of_ble_eq_true rfl⟩ ⟨Nat.le_of_ble_eq_true rfl, Nat.le_of_ble_eq_true rfl⟩ [.ref (eA E v0)] rfl (Nat.le_of_ble_eq_true rfl) dX9_solve_89 rfl (fun H locs hM => ?_)
      obtain ⟨s9, e10, hm⟩ := bnd_t hm
      refine r_putL (np := 95) G hM (shp_lt g0 (by decide)) g0 ptX9_2 rfl lkX9_16 s9 e10 dX9_solve_92 rfl (fun H locs hM => ?_)
      refine r_aload_n (np := 96) G hl 1 rfl dX9_solve_95 rfl rfl ?_
      refine r_getL (np := 99) G hM (shp_lt g0 (by decide)) g0 fdX9_2 lkX9_16 dX9_solve_96 rfl ?_
      refine r_aload_n (np := 100) G hl 1 rfl dX9_solve_99 rfl rfl ?_
      refine r_getL (np := 103) G hM (shp_lt g0 (by decide)) g0 fdX9_2 lkX9_16 dX9_solve_100 rfl ?_
      refine r_lmul (np := 104) G dX9_solve_103 rfl ?_
      refine r_lload (np := 106) G hl 0 rfl dX9_solve_104 rfl ?_
      refine r_lcmp_ne (np := 110) (tgt := 112) G rfl rfl dX9_solve_106 dX9_solve_107 (by decide) rfl (fun h11 => ?_) (fun h11 => ?_)
      · have hm := b_f h11 hm
        refine r_aload_n (np := 113) G hl 1 rfl dX9_solve_112 rfl rfl ?_
        refine r_dup (np := 114) G dX9_solve_113 rfl rfl ?_
        refine r_getL (np := 117) G hM (shp_lt g0 (by decide)) g0 fdX9_3 lkX9_19 dX9_solve_114 rfl ?_
        refine r_lconst (np := 118) G 1 dX9_solve_117 rfl rfl ?_
        refine r_ladd (np := 119) G dX9_solve_118 rfl ?_
        obtain ⟨s12, e13, hm⟩ := bnd_t hm
        refine r_putL (np := 122) G hM (shp_lt g0 (by decide)) g0 ptX9_3 rfl lkX9_19 s12 e13 dX9_solve_119 rfl (fun H locs hM => ?_)
        refine r_goto (np := 44) G dX9_solve_122 (by decide) ?_
        exact ih _ _ _ _ hm hM (lv_sub hl [1] rfl)
      · have hm := b_t h11 hm
        refine r_iconst (np := 111) G 1 dX9_solve_110 rfl ?_
        exact r_zret G hr hk hM (Or.inr rfl) hm dX9_solve_111
set_option maxRecDepth 100000 in
set_option maxHeartbeats 4000000 in
theorem wX9_solve_B41 (l : Launch) (E : mE) (out : Int × mSt) {p : Program} {e : Env} {s : State} {m : MethodId} {args : Array Value} {below : List Frame} {meth : Method} {c : Code} (G : CallFix p m c cX9_solve 7 s args mTs RX9) (hr : meth.sig.returnType = (some .boolean)) (hk : meth.locks = false) (v0 : Nat) (v1 : Int) (v3 : Int) (g0 : isC v0 8) (c15 : mSt → Option (Int × mSt)) (x138 : mSt → Option (Int × mSt)) (hc15 : ∀ (σ : mSt) (H : Heap) (locs : List Loc) (ls : Array Slot), c15 σ = some out → mM (mA E 276) E 276 σ s H locs → lv_has ls 7 [(0, .ref (eA E v0))] → mGo l p e 1 27 s m args below meth c E (some (vI out.1)) out.2 H locs (F0 m 15 ls [])) (hx138 : ∀ (σ : mSt) (H : Heap) (locs : List Loc) (ls : Array Slot), x138 σ = some out → mM (mA E 276) E 276 σ s H locs → lv_has ls 7 [] → mGo l p e 1 27 s m args below meth c E (some (vI out.1)) out.2 H locs (F0 m 138 ls [])) : ∀ (t0 : Nat) (t1 : Int) (σ : mSt) (H : Heap) (locs : List Loc) (ls : Array Slot), mX9_solve_B41 v0 v1 v3 c15 x138 t0 t1 σ = some out → mM (mA E 276) E 276 σ s H locs → lv_has ls 7 [(0, .ref (eA E v0))] → mGo l p e 1 27 s m args below meth c E (some (vI out.1)) out.2 H locs (F0 m 41 ls [vL t1, .ref (eA E t0)]) := by
  intro t0 t1 σ H locs ls hm hM hl
  unfold mX9_solve_B41 at hm
  obtain ⟨g14, hm⟩ := g_t hm
  obtain ⟨s15, e16, hm⟩ := bnd_t hm
  refine r_putL (np := 44) G hM (shp_lt g14 (by decide)) g14 ptX9_3 rfl lkX9_19 s15 e16 dX9_solve_41 rfl (fun H locs hM => ?_)
  exact wX9_solve_L44 l E out G hr hk v0 v1 v3 g0 (fun zσ => mX9_solve_B125 v0 v1 v3 c15 x138 zσ) (fun zσ zH zl zs zm zM zv => wX9_solve_B125 l E out G hr hk v0 v1 v3 g0 c15 x138 hc15 hx138 zσ zH zl zs zm zM zv) mF _ _ _ _ hm hM (lv_sub hl [0] rfl)
set_option maxRecDepth 100000 in
set_option maxHeartbeats 4000000 in
theorem wX9_solve_L15 (l : Launch) (E : mE) (out : Int × mSt) {p : Program} {e : Env} {s : State} {m : MethodId} {args : Array Value} {below : List Frame} {meth : Method} {c : Code} (G : CallFix p m c cX9_solve 7 s args mTs RX9) (hr : meth.sig.returnType = (some .boolean)) (hk : meth.locks = false) (v0 : Nat) (v1 : Int) (v3 : Int) (g0 : isC v0 8) (x138 : mSt → Option (Int × mSt)) (hx138 : ∀ (σ : mSt) (H : Heap) (locs : List Loc) (ls : Array Slot), x138 σ = some out → mM (mA E 276) E 276 σ s H locs → lv_has ls 7 [] → mGo l p e 1 27 s m args below meth c E (some (vI out.1)) out.2 H locs (F0 m 138 ls [])) : ∀ (n : Nat) (σ : mSt) (H : Heap) (locs : List Loc) (ls : Array Slot), mX9_solve_L15 v0 v1 v3 x138 n σ = some out → mM (mA E 276) E 276 σ s H locs → lv_has ls 7 [(0, .ref (eA E v0))] → mGo l p e 1 27 s m args below meth c E (some (vI out.1)) out.2 H locs (F0 m 15 ls []) := by
  intro n
  induction n with
  | zero =>
    intro σ H locs ls hm hM hl
    exact absurd hm (by rw [mX9_solve_L15.eq_1]; exact fun h => nomatch h)
  | succ n ih =>
    intro σ H locs ls hm hM hl
    rw [mX9_solve_L15.eq_2] at hm
    refine r_aload_n (np := 16) G hl 0 rfl dX9_solve_15 rfl rfl ?_
    refine r_getL (np := 19) G hM (shp_lt g0 (by decide)) g0 fdX9_4 lkX9_22 dX9_solve_16 rfl ?_
    refine r_ldc2 (np := 22) G 7 dX9_solve_19 lkX9_25 rfl rfl ?_
    refine r_lcmp_gt (np := 26) (tgt := 138) G rfl (wLk 7 rfl) dX9_solve_22 dX9_solve_23 (by decide) rfl (fun h17 => ?_) (fun h17 => ?_)
    · have hm := b_t h17 hm
      exact hx138 _ _ _ _ hm hM (lv_sub hl [] rfl)
    · have hm := b_f h17 hm
      refine r_aload_n (np := 27) G hl 0 rfl dX9_solve_26 rfl rfl ?_
      refine r_aload_n (np := 28) G hl 0 rfl dX9_solve_27 rfl rfl ?_
      refine r_getL (np := 31) G hM (shp_lt g0 (by decide)) g0 fdX9_4 lkX9_22 dX9_solve_28 rfl ?_
      refine r_lconst (np := 32) G 0 dX9_solve_31 rfl rfl ?_
      refine r_lcmp_ne (np := 36) (tgt := 40) G rfl (wLk 0 rfl) dX9_solve_32 dX9_solve_33 (by decide) rfl (fun h18 => ?_) (fun h18 => ?_)
      · have hm := b_f h18 hm
        refine r_lconst (np := 41) G 0 dX9_solve_40 rfl rfl ?_
        exact wX9_solve_B41 l E out G hr hk v0 v1 v3 g0 (mX9_solve_L15 v0 v1 v3 x138 n) x138 ih hx138 v0 0 _ _ _ _ hm hM (lv_sub hl [0] rfl)
      · have hm := b_t h18 hm
        refine r_lconst (np := 37) G 1 dX9_solve_36 rfl rfl ?_
        refine r_goto (np := 41) G dX9_solve_37 (by decide) ?_
        exact wX9_solve_B41 l E out G hr hk v0 v1 v3 g0 (mX9_solve_L15 v0 v1 v3 x138 n) x138 ih hx138 v0 1 _ _ _ _ hm hM (lv_sub hl [0] rfl)
set_option maxRecDepth 100000 in
set_option maxHeartbeats 4000000 in
theorem qX9_solve (l : Launch) (E : mE) (σ : mSt) (v0 : Nat) (v1 : Int) (v3 : Int) (out : Int × mSt) (hm : mX9_solve v0 v1 v3 σ = some out) : mMet l yX9_solve cX9_solve 7 (some .boolean) 1 27 E 276 [.ref (eA E v0), vL v1, vL v3] σ (some (vI out.1)) out.2 := by
  unfold mX9_solve at hm
  obtain ⟨g0, hm⟩ := g_t hm
  refine m_entry (by decide +kernel) (Nat.le_of_ble_eq_true rfl) (fun p e s m args below meth c G hr hk hM ls hl => ?_)
  have G : CallFix p m c cX9_solve 7 s args mTs RX9 := G
  have hl : lv_has ls 7 [(0, .ref (eA E v0)), (1, vL v1), (3, vL v3)] := hl
  refine r_aload_n (np := 1) G hl 0 rfl dX9_solve_0 rfl rfl ?_
  refine r_lload_n (np := 2) G hl 1 rfl dX9_solve_1 rfl rfl ?_
  obtain ⟨s19, e20, hm⟩ := bnd_t hm
  refine r_putL (np := 5) G hM (shp_lt g0 (by decide)) g0 ptX9_0 rfl lkX9_7 s19 e20 dX9_solve_2 rfl (fun H locs hM => ?_)
  refine r_aload_n (np := 6) G hl 0 rfl dX9_solve_5 rfl rfl ?_
  refine r_lload_n (np := 7) G hl 2 rfl dX9_solve_6 rfl rfl ?_
  obtain ⟨s21, e22, hm⟩ := bnd_t hm
  refine r_putL (np := 10) G hM (shp_lt g0 (by decide)) g0 ptX9_1 rfl lkX9_13 s21 e22 dX9_solve_7 rfl (fun H locs hM => ?_)
  refine r_aload_n (np := 11) G hl 0 rfl dX9_solve_10 rfl rfl ?_
  refine r_lconst (np := 12) G 0 dX9_solve_11 rfl rfl ?_
  obtain ⟨s23, e24, hm⟩ := bnd_t hm
  refine r_putL (np := 15) G hM (shp_lt g0 (by decide)) g0 ptX9_4 rfl lkX9_22 s23 e24 dX9_solve_12 rfl (fun H locs hM => ?_)
  exact wX9_solve_L15 l E out G hr hk v0 v1 v3 g0 (fun zσ => mX9_solve_B138 v0 v1 v3 zσ) (fun zσ zH zl zs zm zM zv => wX9_solve_B138 l E out G hr hk v0 v1 v3 g0 zσ zH zl zs zm zM zv) mF _ _ _ _ hm hM (lv_sub hl [0] rfl)
theorem gX9_solve {v0 : Nat} {v1 : Int} {v3 : Int} {σ : mSt} {out : Int × mSt} (hm : mX9_solve v0 v1 v3 σ = some out) : isC v0 8 := (g_t hm).1
set_option maxRecDepth 100000 in
set_option maxHeartbeats 4000000 in
theorem qX9_part (l : Launch) (E : mE) (σ : mSt) (v0 : Nat) (v1 : Int) (out : Int × mSt) (hm : mX9_part v0 v1 σ = some out) : mMet l yX9_part cX9_part 2 (some .int) 0 0 E 276 [.ref (eA E v0), vI v1] σ (some (vI out.1)) out.2 := by
  unfold mX9_part at hm
  obtain ⟨g0, hm⟩ := g_t hm
  refine m_entry (by decide +kernel) (Nat.le_of_ble_eq_true rfl) (fun p e s m args below meth c G hr hk hM ls hl => ?_)
  have G : CallFix p m c cX9_part 2 s args mTs RX9 := G
  have hl : lv_has ls 2 [(0, .ref (eA E v0)), (1, vI v1)] := hl
  refine r_iload_n (np := 1) G hl 1 rfl dX9_part_0 rfl rfl ?_
  refine r_if_ne (np := 4) (tgt := 11) G rfl dX9_part_1 (by decide) rfl (fun h1 => ?_) (fun h1 => ?_)
  · have hm := b_f h1 hm
    refine r_iload_n (np := 12) G hl 1 rfl dX9_part_11 rfl rfl ?_
    refine r_iconst (np := 13) G 1 dX9_part_12 rfl ?_
    refine r_icmp_ne (np := 16) (tgt := 23) G rfl (wIk 1 rfl) dX9_part_13 (by decide) rfl (fun h2 => ?_) (fun h2 => ?_)
    · have hm := b_f h2 hm
      refine r_aload_n (np := 24) G hl 0 rfl dX9_part_23 rfl rfl ?_
      refine r_getL (np := 27) G hM (shp_lt g0 (by decide)) g0 fdX9_4 lkX9_22 dX9_part_24 rfl ?_
      refine r_l2i (np := 28) G dX9_part_27 rfl ?_
      exact r_iret G hr hk hM hm dX9_part_28
    · have hm := b_t h2 hm
      refine r_aload_n (np := 17) G hl 0 rfl dX9_part_16 rfl rfl ?_
      refine r_getL (np := 20) G hM (shp_lt g0 (by decide)) g0 fdX9_3 lkX9_19 dX9_part_17 rfl ?_
      refine r_goto (np := 27) G dX9_part_20 (by decide) ?_
      refine r_l2i (np := 28) G dX9_part_27 rfl ?_
      exact r_iret G hr hk hM hm dX9_part_28
  · have hm := b_t h1 hm
    refine r_aload_n (np := 5) G hl 0 rfl dX9_part_4 rfl rfl ?_
    refine r_getL (np := 8) G hM (shp_lt g0 (by decide)) g0 fdX9_2 lkX9_16 dX9_part_5 rfl ?_
    refine r_goto (np := 27) G dX9_part_8 (by decide) ?_
    refine r_l2i (np := 28) G dX9_part_27 rfl ?_
    exact r_iret G hr hk hM hm dX9_part_28
theorem gX9_part {v0 : Nat} {v1 : Int} {σ : mSt} {out : Int × mSt} (hm : mX9_part v0 v1 σ = some out) : isC v0 8 := (g_t hm).1
set_option maxRecDepth 100000 in
set_option maxHeartbeats 4000000 in
theorem qX9_below (l : Launch) (E : mE) (σ : mSt) (v0 : Nat) (out : Int × mSt) (hm : mX9_below v0 σ = some out) : mMet l yX9_below cX9_below 1 (some .long) 0 0 E 276 [.ref (eA E v0)] σ (some (vL out.1)) out.2 := by
  unfold mX9_below at hm
  obtain ⟨g0, hm⟩ := g_t hm
  refine m_entry (by decide +kernel) (Nat.le_of_ble_eq_true rfl) (fun p e s m args below meth c G hr hk hM ls hl => ?_)
  have G : CallFix p m c cX9_below 1 s args mTs RX9 := G
  have hl : lv_has ls 1 [(0, .ref (eA E v0))] := hl
  refine r_aload_n (np := 1) G hl 0 rfl dX9_below_0 rfl rfl ?_
  refine r_getL (np := 4) G hM (shp_lt g0 (by decide)) g0 fdX9_4 lkX9_22 dX9_below_1 rfl ?_
  refine r_lconst (np := 5) G 0 dX9_below_4 rfl rfl ?_
  refine r_lcmp_ne (np := 9) (tgt := 13) G rfl (wLk 0 rfl) dX9_below_5 dX9_below_6 (by decide) rfl (fun h1 => ?_) (fun h1 => ?_)
  · have hm := b_f h1 hm
    refine r_aload_n (np := 14) G hl 0 rfl dX9_below_13 rfl rfl ?_
    refine r_getL (np := 17) G hM (shp_lt g0 (by decide)) g0 fdX9_4 lkX9_22 dX9_below_14 rfl ?_
    exact r_lret G hr hk hM hm dX9_below_17
  · have hm := b_t h1 hm
    refine r_lconst (np := 10) G 1 dX9_below_9 rfl rfl ?_
    refine r_goto (np := 17) G dX9_below_10 (by decide) ?_
    exact r_lret G hr hk hM hm dX9_below_17
theorem gX9_below {v0 : Nat} {σ : mSt} {out : Int × mSt} (hm : mX9_below v0 σ = some out) : isC v0 8 := (g_t hm).1
set_option maxRecDepth 100000 in
set_option maxHeartbeats 4000000 in
theorem qX9_plainEntry (l : Launch) (E : mE) (σ : mSt) (v0 : Nat) (v1 : Nat) (v2 : Int) (v3 : Int) (out : Int × mSt) (hm : mX9_plainEntry v0 v1 v2 v3 σ = some out) : mMet l yX9_plainEntry cX9_plainEntry 4 (some .long) 0 0 E 276 [.ref (eA E v0), .ref (eA E v1), vI v2, vI v3] σ (some (vL out.1)) out.2 := by
  unfold mX9_plainEntry at hm
  obtain ⟨g0, hm⟩ := g_t hm
  refine m_entry (by decide +kernel) (Nat.le_of_ble_eq_true rfl) (fun p e s m args below meth c G hr hk hM ls hl => ?_)
  have G : CallFix p m c cX9_plainEntry 4 s args mTs RX9 := G
  have hl : lv_has ls 4 [(0, .ref (eA E v0)), (1, .ref (eA E v1)), (2, vI v2), (3, vI v3)] := hl
  refine r_iload_n (np := 1) G hl 2 rfl dX9_plainEntry_0 rfl rfl ?_
  refine r_iload_n (np := 2) G hl 3 rfl dX9_plainEntry_1 rfl rfl ?_
  refine r_icmp_ne (np := 5) (tgt := 27) G rfl rfl dX9_plainEntry_2 (by decide) rfl (fun h1 => ?_) (fun h1 => ?_)
  · have hm := b_f h1 hm
    refine r_iload_n (np := 28) G hl 2 rfl dX9_plainEntry_27 rfl rfl ?_
    refine r_if_ne (np := 31) (tgt := 46) G rfl dX9_plainEntry_28 (by decide) rfl (fun h2 => ?_) (fun h2 => ?_)
    · have hm := b_f h2 hm
      refine r_aload_n (np := 47) G hl 1 rfl dX9_plainEntry_46 rfl rfl ?_
      refine r_iconst (np := 48) G 2 dX9_plainEntry_47 rfl ?_
      obtain ⟨g3, hm⟩ := g_t hm
      refine r_laload (np := 49) G hM g3 rfl dX9_plainEntry_48 rfl ?_
      refine r_aload_n (np := 50) G hl 1 rfl dX9_plainEntry_49 rfl rfl ?_
      refine r_iconst (np := 51) G 3 dX9_plainEntry_50 rfl ?_
      obtain ⟨g4, hm⟩ := g_t hm
      refine r_laload (np := 52) G hM g4 rfl dX9_plainEntry_51 rfl ?_
      refine r_lsub (np := 53) G dX9_plainEntry_52 rfl ?_
      exact r_lret G hr hk hM hm dX9_plainEntry_53
    · have hm := b_t h2 hm
      refine r_aload_n (np := 32) G hl 0 rfl dX9_plainEntry_31 rfl rfl ?_
      refine r_getL (np := 35) G hM (shp_lt g0 (by decide)) g0 fdX9_1 lkX9_13 dX9_plainEntry_32 rfl ?_
      refine r_aload_n (np := 36) G hl 1 rfl dX9_plainEntry_35 rfl rfl ?_
      refine r_iconst (np := 37) G 2 dX9_plainEntry_36 rfl ?_
      obtain ⟨g5, hm⟩ := g_t hm
      refine r_laload (np := 38) G hM g5 rfl dX9_plainEntry_37 rfl ?_
      refine r_aload_n (np := 39) G hl 1 rfl dX9_plainEntry_38 rfl rfl ?_
      refine r_iconst (np := 40) G 3 dX9_plainEntry_39 rfl ?_
      obtain ⟨g6, hm⟩ := g_t hm
      refine r_laload (np := 41) G hM g6 rfl dX9_plainEntry_40 rfl ?_
      refine r_ladd (np := 42) G dX9_plainEntry_41 rfl ?_
      refine r_lmul (np := 43) G dX9_plainEntry_42 rfl ?_
      refine r_goto (np := 53) G dX9_plainEntry_43 (by decide) ?_
      exact r_lret G hr hk hM hm dX9_plainEntry_53
  · have hm := b_t h1 hm
    refine r_iload_n (np := 6) G hl 2 rfl dX9_plainEntry_5 rfl rfl ?_
    refine r_if_ne (np := 9) (tgt := 19) G rfl dX9_plainEntry_6 (by decide) rfl (fun h7 => ?_) (fun h7 => ?_)
    · have hm := b_f h7 hm
      refine r_aload_n (np := 20) G hl 1 rfl dX9_plainEntry_19 rfl rfl ?_
      refine r_iconst (np := 21) G 0 dX9_plainEntry_20 rfl ?_
      obtain ⟨g8, hm⟩ := g_t hm
      refine r_laload (np := 22) G hM g8 rfl dX9_plainEntry_21 rfl ?_
      refine r_aload_n (np := 23) G hl 1 rfl dX9_plainEntry_22 rfl rfl ?_
      refine r_iconst (np := 24) G 1 dX9_plainEntry_23 rfl ?_
      obtain ⟨g9, hm⟩ := g_t hm
      refine r_laload (np := 25) G hM g9 rfl dX9_plainEntry_24 rfl ?_
      refine r_lsub (np := 26) G dX9_plainEntry_25 rfl ?_
      exact r_lret G hr hk hM hm dX9_plainEntry_26
    · have hm := b_t h7 hm
      refine r_aload_n (np := 10) G hl 1 rfl dX9_plainEntry_9 rfl rfl ?_
      refine r_iconst (np := 11) G 0 dX9_plainEntry_10 rfl ?_
      obtain ⟨g10, hm⟩ := g_t hm
      refine r_laload (np := 12) G hM g10 rfl dX9_plainEntry_11 rfl ?_
      refine r_aload_n (np := 13) G hl 1 rfl dX9_plainEntry_12 rfl rfl ?_
      refine r_iconst (np := 14) G 1 dX9_plainEntry_13 rfl ?_
      obtain ⟨g11, hm⟩ := g_t hm
      refine r_laload (np := 15) G hM g11 rfl dX9_plainEntry_14 rfl ?_
      refine r_ladd (np := 16) G dX9_plainEntry_15 rfl ?_
      refine r_goto (np := 26) G dX9_plainEntry_16 (by decide) ?_
      exact r_lret G hr hk hM hm dX9_plainEntry_26
theorem gX9_plainEntry {v0 : Nat} {v1 : Nat} {v2 : Int} {v3 : Int} {σ : mSt} {out : Int × mSt} (hm : mX9_plainEntry v0 v1 v2 v3 σ = some out) : isC v0 8 := (g_t hm).1
set_option maxRecDepth 100000 in
set_option maxHeartbeats 4000000 in
theorem qX9_entry (l : Launch) (E : mE) (σ : mSt) (v0 : Nat) (v1 : Nat) (v2 : Int) (v3 : Int) (out : Int × mSt) (hm : mX9_entry v0 v1 v2 v3 σ = some out) : mMet l yX9_entry cX9_entry 10 (some .long) 1 23 E 276 [.ref (eA E v0), .ref (eA E v1), vI v2, vI v3] σ (some (vL out.1)) out.2 := by
  unfold mX9_entry at hm
  obtain ⟨g0, hm⟩ := g_t hm
  refine m_entry (by decide +kernel) (Nat.le_of_ble_eq_true rfl) (fun p e s m args below meth c G hr hk hM ls hl => ?_)
  have G : CallFix p m c cX9_entry 10 s args mTs RX9 := G
  have hl : lv_has ls 10 [(0, .ref (eA E v0)), (1, .ref (eA E v1)), (2, vI v2), (3, vI v3)] := hl
  refine r_aload_n (np := 1) G hl 0 rfl dX9_entry_0 rfl rfl ?_
  refine r_getL (np := 4) G hM (shp_lt g0 (by decide)) g0 fdX9_4 lkX9_22 dX9_entry_1 rfl ?_
  refine r_lconst (np := 5) G 0 dX9_entry_4 rfl rfl ?_
  refine r_lcmp_ne (np := 9) (tgt := 17) G rfl (wLk 0 rfl) dX9_entry_5 dX9_entry_6 (by decide) rfl (fun h1 => ?_) (fun h1 => ?_)
  · have hm := b_f h1 hm
    refine r_aload_n (np := 18) G hl 1 rfl dX9_entry_17 rfl rfl ?_
    refine r_iconst (np := 19) G 0 dX9_entry_18 rfl ?_
    obtain ⟨g2, hm⟩ := g_t hm
    refine r_laload (np := 20) G hM g2 rfl dX9_entry_19 rfl ?_
    refine r_aload_n (np := 21) G hl 0 rfl dX9_entry_20 rfl rfl ?_
    refine r_getL (np := 24) G hM (shp_lt g0 (by decide)) g0 fdX9_4 lkX9_22 dX9_entry_21 rfl ?_
    refine r_lmul (np := 25) G dX9_entry_24 rfl ?_
    obtain ⟨a3, e4, hm⟩ := bnd_t hm
    refine r_lstore (np := 27) G hl e4 [(4, vL a3), (0, .ref (eA E v0)), (1, .ref (eA E v1)), (2, vI v2), (3, vI v3)] dX9_entry_25 rfl (by decide) rfl (fun ls hl => ?_)
    refine r_aload_n (np := 28) G hl 2 rfl dX9_entry_27 rfl rfl ?_
    refine r_iconst (np := 29) G 2 dX9_entry_28 rfl ?_
    obtain ⟨g5, hm⟩ := g_t hm
    refine r_laload (np := 30) G hM g5 rfl dX9_entry_29 rfl ?_
    refine r_aload_n (np := 31) G hl 1 rfl dX9_entry_30 rfl rfl ?_
    refine r_getL (np := 34) G hM (shp_lt g0 (by decide)) g0 fdX9_2 lkX9_16 dX9_entry_31 rfl ?_
    refine r_lmul (np := 35) G dX9_entry_34 rfl ?_
    refine r_aload_n (np := 36) G hl 2 rfl dX9_entry_35 rfl rfl ?_
    refine r_iconst (np := 37) G 3 dX9_entry_36 rfl ?_
    obtain ⟨g6, hm⟩ := g_t hm
    refine r_laload (np := 38) G hM g6 rfl dX9_entry_37 rfl ?_
    refine r_aload_n (np := 39) G hl 1 rfl dX9_entry_38 rfl rfl ?_
    refine r_getL (np := 42) G hM (shp_lt g0 (by decide)) g0 fdX9_0 lkX9_7 dX9_entry_39 rfl ?_
    refine r_lmul (np := 43) G dX9_entry_42 rfl ?_
    refine r_aload_n (np := 44) G hl 1 rfl dX9_entry_43 rfl rfl ?_
    refine r_getL (np := 47) G hM (shp_lt g0 (by decide)) g0 fdX9_3 lkX9_19 dX9_entry_44 rfl ?_
    refine r_lmul (np := 48) G dX9_entry_47 rfl ?_
    refine r_ladd (np := 49) G dX9_entry_48 rfl ?_
    obtain ⟨a7, e8, hm⟩ := bnd_t hm
    refine r_lstore (np := 51) G hl e8 [(6, vL a7), (4, vL a3), (0, .ref (eA E v0)), (1, .ref (eA E v1)), (2, vI v2), (3, vI v3)] dX9_entry_49 rfl (by decide) rfl (fun ls hl => ?_)
    refine r_iload_n (np := 52) G hl 4 rfl dX9_entry_51 rfl rfl ?_
    refine r_iload_n (np := 53) G hl 5 rfl dX9_entry_52 rfl rfl ?_
    refine r_icmp_ne (np := 56) (tgt := 74) G rfl rfl dX9_entry_53 (by decide) rfl (fun h9 => ?_) (fun h9 => ?_)
    · have hm := b_f h9 hm
      refine r_aload_n (np := 75) G hl 3 rfl dX9_entry_74 rfl rfl ?_
      refine r_iconst (np := 76) G 2 dX9_entry_75 rfl ?_
      refine r_laload (np := 77) G hM g5 rfl dX9_entry_76 rfl ?_
      refine r_aload_n (np := 78) G hl 2 rfl dX9_entry_77 rfl rfl ?_
      refine r_getL (np := 81) G hM (shp_lt g0 (by decide)) g0 fdX9_3 lkX9_19 dX9_entry_78 rfl ?_
      refine r_lmul (np := 82) G dX9_entry_81 rfl ?_
      refine r_aload_n (np := 83) G hl 3 rfl dX9_entry_82 rfl rfl ?_
      refine r_iconst (np := 84) G 3 dX9_entry_83 rfl ?_
      refine r_laload (np := 85) G hM g6 rfl dX9_entry_84 rfl ?_
      refine r_aload_n (np := 86) G hl 2 rfl dX9_entry_85 rfl rfl ?_
      refine r_getL (np := 89) G hM (shp_lt g0 (by decide)) g0 fdX9_2 lkX9_16 dX9_entry_86 rfl ?_
      refine r_lmul (np := 90) G dX9_entry_89 rfl ?_
      refine r_ladd (np := 91) G dX9_entry_90 rfl ?_
      obtain ⟨a10, e11, hm⟩ := bnd_t hm
      refine r_lstore (np := 93) G hl e11 [(8, vL a10), (6, vL a7), (4, vL a3), (0, .ref (eA E v0)), (1, .ref (eA E v1)), (2, vI v2), (3, vI v3)] dX9_entry_91 rfl (by decide) rfl (fun ls hl => ?_)
      refine r_iload_n (np := 94) G hl 5 rfl dX9_entry_93 rfl rfl ?_
      refine r_if_ne (np := 97) (tgt := 116) G rfl dX9_entry_94 (by decide) rfl (fun h12 => ?_) (fun h12 => ?_)
      · have hm := b_f h12 hm
        refine r_aload_n (np := 117) G hl 4 rfl dX9_entry_116 rfl rfl ?_
        refine r_iconst (np := 118) G 1 dX9_entry_117 rfl ?_
        obtain ⟨g13, hm⟩ := g_t hm
        refine r_laload (np := 119) G hM g13 rfl dX9_entry_118 rfl ?_
        refine r_aload_n (np := 120) G hl 3 rfl dX9_entry_119 rfl rfl ?_
        refine r_getL (np := 123) G hM (shp_lt g0 (by decide)) g0 fdX9_4 lkX9_22 dX9_entry_120 rfl ?_
        refine r_lmul (np := 124) G dX9_entry_123 rfl ?_
        refine r_lload (np := 126) G hl 0 rfl dX9_entry_124 rfl ?_
        refine r_ladd (np := 127) G dX9_entry_126 rfl ?_
        exact r_lret G hr hk hM hm dX9_entry_127
      · have hm := b_t h12 hm
        refine r_aload_n (np := 98) G hl 3 rfl dX9_entry_97 rfl rfl ?_
        refine r_getL (np := 101) G hM (shp_lt g0 (by decide)) g0 fdX9_0 lkX9_7 dX9_entry_98 rfl ?_
        refine r_aload_n (np := 102) G hl 4 rfl dX9_entry_101 rfl rfl ?_
        refine r_iconst (np := 103) G 1 dX9_entry_102 rfl ?_
        obtain ⟨g14, hm⟩ := g_t hm
        refine r_laload (np := 104) G hM g14 rfl dX9_entry_103 rfl ?_
        refine r_aload_n (np := 105) G hl 3 rfl dX9_entry_104 rfl rfl ?_
        refine r_getL (np := 108) G hM (shp_lt g0 (by decide)) g0 fdX9_4 lkX9_22 dX9_entry_105 rfl ?_
        refine r_lmul (np := 109) G dX9_entry_108 rfl ?_
        refine r_lload (np := 111) G hl 0 rfl dX9_entry_109 rfl ?_
        refine r_lsub (np := 112) G dX9_entry_111 rfl ?_
        refine r_lmul (np := 113) G dX9_entry_112 rfl ?_
        refine r_goto (np := 127) G dX9_entry_113 (by decide) ?_
        exact r_lret G hr hk hM hm dX9_entry_127
    · have hm := b_t h9 hm
      refine r_iload_n (np := 57) G hl 4 rfl dX9_entry_56 rfl rfl ?_
      refine r_if_ne (np := 60) (tgt := 68) G rfl dX9_entry_57 (by decide) rfl (fun h15 => ?_) (fun h15 => ?_)
      · have hm := b_f h15 hm
        refine r_lload (np := 70) G hl 1 rfl dX9_entry_68 rfl ?_
        refine r_lload (np := 72) G hl 0 rfl dX9_entry_70 rfl ?_
        refine r_lsub (np := 73) G dX9_entry_72 rfl ?_
        exact r_lret G hr hk hM hm dX9_entry_73
      · have hm := b_t h15 hm
        refine r_lload (np := 62) G hl 1 rfl dX9_entry_60 rfl ?_
        refine r_lload (np := 64) G hl 0 rfl dX9_entry_62 rfl ?_
        refine r_ladd (np := 65) G dX9_entry_64 rfl ?_
        refine r_goto (np := 73) G dX9_entry_65 (by decide) ?_
        exact r_lret G hr hk hM hm dX9_entry_73
  · have hm := b_t h1 hm
    refine r_aload_n (np := 10) G hl 0 rfl dX9_entry_9 rfl rfl ?_
    refine r_aload_n (np := 11) G hl 1 rfl dX9_entry_10 rfl rfl ?_
    refine r_iload_n (np := 12) G hl 2 rfl dX9_entry_11 rfl rfl ?_
    refine r_iload_n (np := 13) G hl 3 rfl dX9_entry_12 rfl rfl ?_
    obtain ⟨b16, s17, e18, hm⟩ := call_t hm
    refine m_callVL (np := 16) G hM hl.1 [.ref (eA E v1), vI v2, vI v3] (qX9_plainEntry l E σ v0 v1 v2 v3 _ e18) myX9_plainEntry (shp_lt (gX9_plainEntry e18) (by decide)) (gX9_plainEntry e18) rfl (by decide) lkX9_33 ⟨Nat.le_of_ble_eq_true rfl, Nat.le_of_ble_eq_true rfl⟩ ⟨Nat.le_of_ble_eq_true rfl, Nat.le_of_ble_eq_true rfl⟩ [] rfl (Nat.le_of_ble_eq_true rfl) dX9_entry_13 rfl (fun H locs hM => ?_)
    exact r_lret G hr hk hM hm dX9_entry_16
theorem gX9_entry {v0 : Nat} {v1 : Nat} {v2 : Int} {v3 : Int} {σ : mSt} {out : Int × mSt} (hm : mX9_entry v0 v1 v2 v3 σ = some out) : isC v0 8 := (g_t hm).1
set_option maxRecDepth 100000 in
set_option maxHeartbeats 4000000 in
theorem wX11_putBytes_B46 (l : Launch) (E : mE) (out : Int × mSt) {p : Program} {e : Env} {s : State} {m : MethodId} {args : Array Value} {below : List Frame} {meth : Method} {c : Code} (G : CallFix p m c cX11_putBytes 3 s args mTs RX11) (hr : meth.sig.returnType = none) (hk : meth.locks = false) (v0 : Nat) (v1 : Int) (g0 : isC v0 10) : ∀ (σ : mSt) (H : Heap) (locs : List Loc) (ls : Array Slot), mX11_putBytes_B46 v0 v1 σ = some out → mM (mA E 276) E 276 σ s H locs → lv_has ls 3 [] → mGo l p e 0 0 s m args below meth c E none out.2 H locs (F0 m 46 ls []) := by
  intro σ H locs ls hm hM hl
  unfold mX11_putBytes_B46 at hm
  exact r_vret G hr hk hM hm dX11_putBytes_46
set_option maxRecDepth 100000 in
set_option maxHeartbeats 4000000 in
theorem wX11_putBytes_L3 (l : Launch) (E : mE) (out : Int × mSt) {p : Program} {e : Env} {s : State} {m : MethodId} {args : Array Value} {below : List Frame} {meth : Method} {c : Code} (G : CallFix p m c cX11_putBytes 3 s args mTs RX11) (hr : meth.sig.returnType = none) (hk : meth.locks = false) (v0 : Nat) (v1 : Int) (g0 : isC v0 10) (x46 : mSt → Option (Int × mSt)) (hx46 : ∀ (σ : mSt) (H : Heap) (locs : List Loc) (ls : Array Slot), x46 σ = some out → mM (mA E 276) E 276 σ s H locs → lv_has ls 3 [] → mGo l p e 0 0 s m args below meth c E none out.2 H locs (F0 m 46 ls [])) : ∀ (n : Nat) (v2 : Int) (σ : mSt) (H : Heap) (locs : List Loc) (ls : Array Slot), mX11_putBytes_L3 v0 v1 x46 n v2 σ = some out → mM (mA E 276) E 276 σ s H locs → lv_has ls 3 [(0, .ref (eA E v0)), (1, vI v1), (2, vI v2)] → mGo l p e 0 0 s m args below meth c E none out.2 H locs (F0 m 3 ls []) := by
  intro n
  induction n with
  | zero =>
    intro v2 σ H locs ls hm hM hl
    exact absurd hm (by rw [mX11_putBytes_L3.eq_1]; exact fun h => nomatch h)
  | succ n ih =>
    intro v2 σ H locs ls hm hM hl
    rw [mX11_putBytes_L3.eq_2] at hm
    refine r_iload_n (np := 4) G hl 2 rfl dX11_putBytes_3 rfl rfl ?_
    refine r_if_lt (np := 7) (tgt := 46) G rfl dX11_putBytes_4 (by decide) rfl (fun h1 => ?_) (fun h1 => ?_)
    · have hm := b_t h1 hm
      exact hx46 _ _ _ _ hm hM (lv_sub hl [] rfl)
    · have hm := b_f h1 hm
      refine r_aload_n (np := 8) G hl 0 rfl dX11_putBytes_7 rfl rfl ?_
      refine r_getI (np := 11) G hM (shp_lt g0 (by decide)) g0 fdX11_1 lkX11_13 dX11_putBytes_8 rfl ?_
      refine r_sipush (np := 14) G 600 dX11_putBytes_11 (by decide) rfl ?_
      refine r_icmp_ge (np := 17) (tgt := 46) G rfl (wIk 600 rfl) dX11_putBytes_14 (by decide) rfl (fun h2 => ?_) (fun h2 => ?_)
      · have hm := b_t h2 hm
        exact hx46 _ _ _ _ hm hM (lv_sub hl [] rfl)
      · have hm := b_f h2 hm
        refine r_aload_n (np := 18) G hl 0 rfl dX11_putBytes_17 rfl rfl ?_
        obtain ⟨r3, e4, hm⟩ := ref_t hm
        refine r_getR (np := 21) G hM (shp_lt g0 (by decide)) g0 e4 fdX11_0 lkX11_9 dX11_putBytes_18 rfl ?_
        refine r_aload_n (np := 22) G hl 0 rfl dX11_putBytes_21 rfl rfl ?_
        refine r_getI (np := 25) G hM (shp_lt g0 (by decide)) g0 fdX11_1 lkX11_13 dX11_putBytes_22 rfl ?_
        refine r_iload_n (np := 26) G hl 1 rfl dX11_putBytes_25 rfl rfl ?_
        refine r_iload_n (np := 27) G hl 2 rfl dX11_putBytes_26 rfl rfl ?_
        refine r_ishr (np := 28) G dX11_putBytes_27 rfl ?_
        refine r_i2b (np := 29) G dX11_putBytes_28 rfl ?_
        obtain ⟨g5, hm⟩ := g_t hm
        obtain ⟨g6, hm⟩ := g_t hm
        obtain ⟨s7, e8, hm⟩ := bnd_t hm
        refine r_bastore (np := 30) G hM g5 rfl g6 s7 e8 dX11_putBytes_29 rfl (fun H locs hM => ?_)
        refine r_aload_n (np := 31) G hl 0 rfl dX11_putBytes_30 rfl rfl ?_
        refine r_dup (np := 32) G dX11_putBytes_31 rfl rfl ?_
        refine r_getI (np := 35) G hM (shp_lt g0 (by decide)) g0 fdX11_1 lkX11_13 dX11_putBytes_32 rfl ?_
        refine r_iconst (np := 36) G 1 dX11_putBytes_35 rfl ?_
        refine r_iadd (np := 37) G dX11_putBytes_36 rfl ?_
        obtain ⟨s9, e10, hm⟩ := bnd_t hm
        refine r_putI (np := 40) G hM (shp_lt g0 (by decide)) g0 ptX11_1 rfl lkX11_13 s9 e10 dX11_putBytes_37 rfl (fun H locs hM => ?_)
        obtain ⟨a11, e12, hm⟩ := bnd_t hm
        refine r_iinc (np := 43) G hl 2 rfl e12 [(2, vI a11), (0, .ref (eA E v0)), (1, vI v1)] dX11_putBytes_40 rfl (by decide) rfl (fun ls hl => ?_)
        refine r_goto (np := 3) G dX11_putBytes_43 (by decide) ?_
        exact ih a11 _ _ _ _ hm hM (lv_sub hl [1, 2, 0] rfl)
set_option maxRecDepth 100000 in
set_option maxHeartbeats 4000000 in
theorem qX11_putBytes (l : Launch) (E : mE) (σ : mSt) (v0 : Nat) (v1 : Int) (out : Int × mSt) (hm : mX11_putBytes v0 v1 σ = some out) : mMet l yX11_putBytes cX11_putBytes 3 none 0 0 E 276 [.ref (eA E v0), vI v1] σ none out.2 := by
  unfold mX11_putBytes at hm
  obtain ⟨g0, hm⟩ := g_t hm
  refine m_entry (by decide +kernel) (Nat.le_of_ble_eq_true rfl) (fun p e s m args below meth c G hr hk hM ls hl => ?_)
  have G : CallFix p m c cX11_putBytes 3 s args mTs RX11 := G
  have hl : lv_has ls 3 [(0, .ref (eA E v0)), (1, vI v1)] := hl
  refine r_bipush (np := 2) G 24 dX11_putBytes_0 (by decide) rfl ?_
  refine r_istore_n (np := 3) G hl rfl [(2, vI 24), (0, .ref (eA E v0)), (1, vI v1)] dX11_putBytes_2 rfl rfl (by decide) rfl (fun ls hl => ?_)
  exact wX11_putBytes_L3 l E out G hr hk v0 v1 g0 (fun zσ => mX11_putBytes_B46 v0 v1 zσ) (fun zσ zH zl zs zm zM zv => wX11_putBytes_B46 l E out G hr hk v0 v1 g0 zσ zH zl zs zm zM zv) mF 24 _ _ _ _ hm hM (lv_sub hl [1, 2, 0] rfl)
theorem gX11_putBytes {v0 : Nat} {v1 : Int} {σ : mSt} {out : Int × mSt} (hm : mX11_putBytes v0 v1 σ = some out) : isC v0 10 := (g_t hm).1
set_option maxRecDepth 100000 in
set_option maxHeartbeats 4000000 in
theorem qX11_feed (l : Launch) (E : mE) (σ : mSt) (v0 : Nat) (v1 : Int) (v2 : Int) (v3 : Int) (v4 : Int) (v5 : Int) (out : Int × mSt) (hm : mX11_feed v0 v1 v2 v3 v4 v5 σ = some out) : mMet l yX11_feed cX11_feed 6 (some .int) 1 22 E 276 [.ref (eA E v0), vI v1, vI v2, vI v3, vI v4, vI v5] σ (some (vI out.1)) out.2 := by
  unfold mX11_feed at hm
  obtain ⟨g0, hm⟩ := g_t hm
  refine m_entry (by decide +kernel) (Nat.le_of_ble_eq_true rfl) (fun p e s m args below meth c G hr hk hM ls hl => ?_)
  have G : CallFix p m c cX11_feed 6 s args mTs RX11 := G
  have hl : lv_has ls 6 [(0, .ref (eA E v0)), (1, vI v1), (2, vI v2), (3, vI v3), (4, vI v4), (5, vI v5)] := hl
  refine r_aload_n (np := 1) G hl 0 rfl dX11_feed_0 rfl rfl ?_
  refine r_getI (np := 4) G hM (shp_lt g0 (by decide)) g0 fdX11_1 lkX11_13 dX11_feed_1 rfl ?_
  refine r_bipush (np := 6) G 20 dX11_feed_4 (by decide) rfl ?_
  refine r_iadd (np := 7) G dX11_feed_6 rfl ?_
  refine r_sipush (np := 10) G 600 dX11_feed_7 (by decide) rfl ?_
  refine r_icmp_le (np := 13) (tgt := 15) G rfl (wIk 600 rfl) dX11_feed_10 (by decide) rfl (fun h1 => ?_) (fun h1 => ?_)
  · have hm := b_t h1 hm
    refine r_aload_n (np := 16) G hl 0 rfl dX11_feed_15 rfl rfl ?_
    refine r_iload_n (np := 17) G hl 1 rfl dX11_feed_16 rfl rfl ?_
    obtain ⟨b2, s3, e4, hm⟩ := call_t hm
    refine m_callVV (np := 20) G hM hl.1 [vI v1] (qX11_putBytes l E σ v0 v1 _ e4) myX11_putBytes (shp_lt (gX11_putBytes e4) (by decide)) (gX11_putBytes e4) rfl (by decide) lkX11_80 ⟨Nat.le_of_ble_eq_true rfl, Nat.le_of_ble_eq_true rfl⟩ ⟨Nat.le_of_ble_eq_true rfl, Nat.le_of_ble_eq_true rfl⟩ [] rfl (Nat.le_of_ble_eq_true rfl) dX11_feed_17 rfl (fun H locs hM => ?_)
    refine r_aload_n (np := 21) G hl 0 rfl dX11_feed_20 rfl rfl ?_
    refine r_iload_n (np := 22) G hl 2 rfl dX11_feed_21 rfl rfl ?_
    obtain ⟨b5, s6, e7, hm⟩ := call_t hm
    refine m_callVV (np := 25) G hM hl.1 [vI v2] (qX11_putBytes l E s3 v0 v2 _ e7) myX11_putBytes (shp_lt (gX11_putBytes e7) (by decide)) (gX11_putBytes e7) rfl (by decide) lkX11_80 ⟨Nat.le_of_ble_eq_true rfl, Nat.le_of_ble_eq_true rfl⟩ ⟨Nat.le_of_ble_eq_true rfl, Nat.le_of_ble_eq_true rfl⟩ [] rfl (Nat.le_of_ble_eq_true rfl) dX11_feed_22 rfl (fun H locs hM => ?_)
    refine r_aload_n (np := 26) G hl 0 rfl dX11_feed_25 rfl rfl ?_
    refine r_iload_n (np := 27) G hl 3 rfl dX11_feed_26 rfl rfl ?_
    obtain ⟨b8, s9, e10, hm⟩ := call_t hm
    refine m_callVV (np := 30) G hM hl.1 [vI v3] (qX11_putBytes l E s6 v0 v3 _ e10) myX11_putBytes (shp_lt (gX11_putBytes e10) (by decide)) (gX11_putBytes e10) rfl (by decide) lkX11_80 ⟨Nat.le_of_ble_eq_true rfl, Nat.le_of_ble_eq_true rfl⟩ ⟨Nat.le_of_ble_eq_true rfl, Nat.le_of_ble_eq_true rfl⟩ [] rfl (Nat.le_of_ble_eq_true rfl) dX11_feed_27 rfl (fun H locs hM => ?_)
    refine r_aload_n (np := 31) G hl 0 rfl dX11_feed_30 rfl rfl ?_
    refine r_iload (np := 33) G hl 4 rfl dX11_feed_31 rfl ?_
    obtain ⟨b11, s12, e13, hm⟩ := call_t hm
    refine m_callVV (np := 36) G hM hl.1 [vI v4] (qX11_putBytes l E s9 v0 v4 _ e13) myX11_putBytes (shp_lt (gX11_putBytes e13) (by decide)) (gX11_putBytes e13) rfl (by decide) lkX11_80 ⟨Nat.le_of_ble_eq_true rfl, Nat.le_of_ble_eq_true rfl⟩ ⟨Nat.le_of_ble_eq_true rfl, Nat.le_of_ble_eq_true rfl⟩ [] rfl (Nat.le_of_ble_eq_true rfl) dX11_feed_33 rfl (fun H locs hM => ?_)
    refine r_aload_n (np := 37) G hl 0 rfl dX11_feed_36 rfl rfl ?_
    refine r_iload (np := 39) G hl 5 rfl dX11_feed_37 rfl ?_
    obtain ⟨b14, s15, e16, hm⟩ := call_t hm
    refine m_callVV (np := 42) G hM hl.1 [vI v5] (qX11_putBytes l E s12 v0 v5 _ e16) myX11_putBytes (shp_lt (gX11_putBytes e16) (by decide)) (gX11_putBytes e16) rfl (by decide) lkX11_80 ⟨Nat.le_of_ble_eq_true rfl, Nat.le_of_ble_eq_true rfl⟩ ⟨Nat.le_of_ble_eq_true rfl, Nat.le_of_ble_eq_true rfl⟩ [] rfl (Nat.le_of_ble_eq_true rfl) dX11_feed_39 rfl (fun H locs hM => ?_)
    refine r_aload_n (np := 43) G hl 0 rfl dX11_feed_42 rfl rfl ?_
    refine r_getI (np := 46) G hM (shp_lt g0 (by decide)) g0 fdX11_1 lkX11_13 dX11_feed_43 rfl ?_
    exact r_iret G hr hk hM hm dX11_feed_46
  · have hm := b_f h1 hm
    refine r_iconst (np := 14) G (-1) dX11_feed_13 rfl ?_
    exact r_iret G hr hk hM hm dX11_feed_14
theorem gX11_feed {v0 : Nat} {v1 : Int} {v2 : Int} {v3 : Int} {v4 : Int} {v5 : Int} {σ : mSt} {out : Int × mSt} (hm : mX11_feed v0 v1 v2 v3 v4 v5 σ = some out) : isC v0 10 := (g_t hm).1
set_option maxRecDepth 100000 in
set_option maxHeartbeats 4000000 in
theorem wX11_isTold_B19 (l : Launch) (E : mE) (out : Int × mSt) {p : Program} {e : Env} {s : State} {m : MethodId} {args : Array Value} {below : List Frame} {meth : Method} {c : Code} (G : CallFix p m c cX11_isTold 2 s args mTs RX11) (hr : meth.sig.returnType = (some .boolean)) (hk : meth.locks = false) (v0 : Nat) (v1 : Int) (g0 : isC v0 10) : ∀ (σ : mSt) (H : Heap) (locs : List Loc) (ls : Array Slot), mX11_isTold_B19 v0 v1 σ = some out → mM (mA E 276) E 276 σ s H locs → lv_has ls 2 [] → mGo l p e 1 20 s m args below meth c E (some (vI out.1)) out.2 H locs (F0 m 19 ls []) := by
  intro σ H locs ls hm hM hl
  unfold mX11_isTold_B19 at hm
  refine r_iconst (np := 20) G 0 dX11_isTold_19 rfl ?_
  exact r_zret G hr hk hM (Or.inl rfl) hm dX11_isTold_20
set_option maxRecDepth 100000 in
set_option maxHeartbeats 4000000 in
theorem qX11_isTold (l : Launch) (E : mE) (σ : mSt) (v0 : Nat) (v1 : Int) (out : Int × mSt) (hm : mX11_isTold v0 v1 σ = some out) : mMet l yX11_isTold cX11_isTold 2 (some .boolean) 1 20 E 276 [.ref (eA E v0), vI v1] σ (some (vI out.1)) out.2 := by
  unfold mX11_isTold at hm
  obtain ⟨g0, hm⟩ := g_t hm
  refine m_entry (by decide +kernel) (Nat.le_of_ble_eq_true rfl) (fun p e s m args below meth c G hr hk hM ls hl => ?_)
  have G : CallFix p m c cX11_isTold 2 s args mTs RX11 := G
  have hl : lv_has ls 2 [(0, .ref (eA E v0)), (1, vI v1)] := hl
  refine r_iload_n (np := 1) G hl 1 rfl dX11_isTold_0 rfl rfl ?_
  refine r_if_lt (np := 4) (tgt := 19) G rfl dX11_isTold_1 (by decide) rfl (fun h1 => ?_) (fun h1 => ?_)
  · have hm := b_t h1 hm
    exact wX11_isTold_B19 l E out G hr hk v0 v1 g0 _ _ _ _ hm hM (lv_sub hl [] rfl)
  · have hm := b_f h1 hm
    refine r_iload_n (np := 5) G hl 1 rfl dX11_isTold_4 rfl rfl ?_
    refine r_aload_n (np := 6) G hl 0 rfl dX11_isTold_5 rfl rfl ?_
    obtain ⟨r2, e3, hm⟩ := ref_t hm
    refine r_getR (np := 9) G hM (shp_lt g0 (by decide)) g0 e3 fdX11_3 lkX11_27 dX11_isTold_6 rfl ?_
    obtain ⟨b4, s5, e6, hm⟩ := call_t hm
    refine m_callVI (np := 12) G hM hl.1 [] (qX0_size l E σ r2 _ e6) myX0_size (shp_lt (gX0_size e6) (by decide)) (gX0_size e6) rfl (by decide) lkX11_91 ⟨Nat.le_of_ble_eq_true rfl, Nat.le_of_ble_eq_true rfl⟩ ⟨Nat.le_of_ble_eq_true rfl, Nat.le_of_ble_eq_true rfl⟩ [vI v1] rfl (Nat.le_of_ble_eq_true rfl) dX11_isTold_9 rfl (fun H locs hM => ?_)
    refine r_icmp_ge (np := 15) (tgt := 19) G rfl rfl dX11_isTold_12 (by decide) rfl (fun h7 => ?_) (fun h7 => ?_)
    · have hm := b_t h7 hm
      exact wX11_isTold_B19 l E out G hr hk v0 v1 g0 _ _ _ _ hm hM (lv_sub hl [] rfl)
    · have hm := b_f h7 hm
      refine r_iconst (np := 16) G 1 dX11_isTold_15 rfl ?_
      refine r_goto (np := 20) G dX11_isTold_16 (by decide) ?_
      exact r_zret G hr hk hM (Or.inr rfl) hm dX11_isTold_20
theorem gX11_isTold {v0 : Nat} {v1 : Int} {σ : mSt} {out : Int × mSt} (hm : mX11_isTold v0 v1 σ = some out) : isC v0 10 := (g_t hm).1
set_option maxRecDepth 100000 in
set_option maxHeartbeats 4000000 in
theorem wX11_isQuaternion_B23 (l : Launch) (E : mE) (out : Int × mSt) {p : Program} {e : Env} {s : State} {m : MethodId} {args : Array Value} {below : List Frame} {meth : Method} {c : Code} (G : CallFix p m c cX11_isQuaternion 2 s args mTs RX11) (hr : meth.sig.returnType = (some .boolean)) (hk : meth.locks = false) (v0 : Nat) (v1 : Int) (g0 : isC v0 10) : ∀ (σ : mSt) (H : Heap) (locs : List Loc) (ls : Array Slot), mX11_isQuaternion_B23 v0 v1 σ = some out → mM (mA E 276) E 276 σ s H locs → lv_has ls 2 [] → mGo l p e 2 41 s m args below meth c E (some (vI out.1)) out.2 H locs (F0 m 23 ls []) := by
  intro σ H locs ls hm hM hl
  unfold mX11_isQuaternion_B23 at hm
  refine r_iconst (np := 24) G 0 dX11_isQuaternion_23 rfl ?_
  exact r_zret G hr hk hM (Or.inl rfl) hm dX11_isQuaternion_24
set_option maxRecDepth 100000 in
set_option maxHeartbeats 4000000 in
theorem qX11_isQuaternion (l : Launch) (E : mE) (σ : mSt) (v0 : Nat) (v1 : Int) (out : Int × mSt) (hm : mX11_isQuaternion v0 v1 σ = some out) : mMet l yX11_isQuaternion cX11_isQuaternion 2 (some .boolean) 2 41 E 276 [.ref (eA E v0), vI v1] σ (some (vI out.1)) out.2 := by
  unfold mX11_isQuaternion at hm
  obtain ⟨g0, hm⟩ := g_t hm
  refine m_entry (by decide +kernel) (Nat.le_of_ble_eq_true rfl) (fun p e s m args below meth c G hr hk hM ls hl => ?_)
  have G : CallFix p m c cX11_isQuaternion 2 s args mTs RX11 := G
  have hl : lv_has ls 2 [(0, .ref (eA E v0)), (1, vI v1)] := hl
  refine r_aload_n (np := 1) G hl 0 rfl dX11_isQuaternion_0 rfl rfl ?_
  refine r_iload_n (np := 2) G hl 1 rfl dX11_isQuaternion_1 rfl rfl ?_
  obtain ⟨b1, s2, e3, hm⟩ := call_t hm
  refine m_callVI (np := 5) G hM hl.1 [vI v1] (qX11_isTold l E σ v0 v1 _ e3) myX11_isTold (shp_lt (gX11_isTold e3) (by decide)) (gX11_isTold e3) rfl (by decide) lkX11_117 ⟨Nat.le_of_ble_eq_true rfl, Nat.le_of_ble_eq_true rfl⟩ ⟨Nat.le_of_ble_eq_true rfl, Nat.le_of_ble_eq_true rfl⟩ [] rfl (Nat.le_of_ble_eq_true rfl) dX11_isQuaternion_2 rfl (fun H locs hM => ?_)
  refine r_if_eq (np := 8) (tgt := 23) G rfl dX11_isQuaternion_5 (by decide) rfl (fun h4 => ?_) (fun h4 => ?_)
  · have hm := b_t h4 hm
    exact wX11_isQuaternion_B23 l E out G hr hk v0 v1 g0 _ _ _ _ hm hM (lv_sub hl [] rfl)
  · have hm := b_f h4 hm
    refine r_aload_n (np := 9) G hl 0 rfl dX11_isQuaternion_8 rfl rfl ?_
    obtain ⟨r5, e6, hm⟩ := ref_t hm
    refine r_getR (np := 12) G hM (shp_lt g0 (by decide)) g0 e6 fdX11_3 lkX11_27 dX11_isQuaternion_9 rfl ?_
    refine r_iload_n (np := 13) G hl 1 rfl dX11_isQuaternion_12 rfl rfl ?_
    obtain ⟨b7, s8, e9, hm⟩ := call_t hm
    refine m_callVI (np := 16) G hM hl.1 [vI v1] (qX0_kind l E s2 r5 v1 _ e9) myX0_kind (shp_lt (gX0_kind e9) (by decide)) (gX0_kind e9) rfl (by decide) lkX11_123 ⟨Nat.le_of_ble_eq_true rfl, Nat.le_of_ble_eq_true rfl⟩ ⟨Nat.le_of_ble_eq_true rfl, Nat.le_of_ble_eq_true rfl⟩ [] rfl (Nat.le_of_ble_eq_true rfl) dX11_isQuaternion_13 rfl (fun H locs hM => ?_)
    refine r_if_ne (np := 19) (tgt := 23) G rfl dX11_isQuaternion_16 (by decide) rfl (fun h10 => ?_) (fun h10 => ?_)
    · have hm := b_f h10 hm
      exact wX11_isQuaternion_B23 l E out G hr hk v0 v1 g0 _ _ _ _ hm hM (lv_sub hl [] rfl)
    · have hm := b_t h10 hm
      refine r_iconst (np := 20) G 1 dX11_isQuaternion_19 rfl ?_
      refine r_goto (np := 24) G dX11_isQuaternion_20 (by decide) ?_
      exact r_zret G hr hk hM (Or.inr rfl) hm dX11_isQuaternion_24
theorem gX11_isQuaternion {v0 : Nat} {v1 : Int} {σ : mSt} {out : Int × mSt} (hm : mX11_isQuaternion v0 v1 σ = some out) : isC v0 10 := (g_t hm).1
set_option maxRecDepth 100000 in
set_option maxHeartbeats 4000000 in
theorem wX11_beginAnew_B83 (l : Launch) (E : mE) (out : Int × mSt) {p : Program} {e : Env} {s : State} {m : MethodId} {args : Array Value} {below : List Frame} {meth : Method} {c : Code} (G : CallFix p m c cX11_beginAnew 2 s args mTs RX11) (hr : meth.sig.returnType = none) (hk : meth.locks = false) (v0 : Nat) (g0 : isC v0 10) : ∀ (σ : mSt) (H : Heap) (locs : List Loc) (ls : Array Slot), mX11_beginAnew_B83 v0 σ = some out → mM (mA E 276) E 276 σ s H locs → lv_has ls 2 [] → mGo l p e 6 152 s m args below meth c E none out.2 H locs (F0 m 83 ls []) := by
  intro σ H locs ls hm hM hl
  unfold mX11_beginAnew_B83 at hm
  exact r_vret G hr hk hM hm dX11_beginAnew_83
set_option maxRecDepth 100000 in
set_option maxHeartbeats 4000000 in
theorem wX11_beginAnew_L36 (l : Launch) (E : mE) (out : Int × mSt) {p : Program} {e : Env} {s : State} {m : MethodId} {args : Array Value} {below : List Frame} {meth : Method} {c : Code} (G : CallFix p m c cX11_beginAnew 2 s args mTs RX11) (hr : meth.sig.returnType = none) (hk : meth.locks = false) (v0 : Nat) (g0 : isC v0 10) (x83 : mSt → Option (Int × mSt)) (hx83 : ∀ (σ : mSt) (H : Heap) (locs : List Loc) (ls : Array Slot), x83 σ = some out → mM (mA E 276) E 276 σ s H locs → lv_has ls 2 [] → mGo l p e 6 152 s m args below meth c E none out.2 H locs (F0 m 83 ls [])) : ∀ (n : Nat) (v1 : Int) (σ : mSt) (H : Heap) (locs : List Loc) (ls : Array Slot), mX11_beginAnew_L36 v0 x83 n v1 σ = some out → mM (mA E 276) E 276 σ s H locs → lv_has ls 2 [(0, .ref (eA E v0)), (1, vI v1)] → mGo l p e 6 152 s m args below meth c E none out.2 H locs (F0 m 36 ls []) := by
  intro n
  induction n with
  | zero =>
    intro v1 σ H locs ls hm hM hl
    exact absurd hm (by rw [mX11_beginAnew_L36.eq_1]; exact fun h => nomatch h)
  | succ n ih =>
    intro v1 σ H locs ls hm hM hl
    rw [mX11_beginAnew_L36.eq_2] at hm
    refine r_iload_n (np := 37) G hl 1 rfl dX11_beginAnew_36 rfl rfl ?_
    refine r_bipush (np := 39) G 8 dX11_beginAnew_37 (by decide) rfl ?_
    refine r_icmp_ge (np := 42) (tgt := 83) G rfl (wIk 8 rfl) dX11_beginAnew_39 (by decide) rfl (fun h1 => ?_) (fun h1 => ?_)
    · have hm := b_t h1 hm
      exact hx83 _ _ _ _ hm hM (lv_sub hl [] rfl)
    · have hm := b_f h1 hm
      refine r_aload_n (np := 43) G hl 0 rfl dX11_beginAnew_42 rfl rfl ?_
      refine r_iload_n (np := 44) G hl 1 rfl dX11_beginAnew_43 rfl rfl ?_
      obtain ⟨b2, s3, e4, hm⟩ := call_t hm
      refine m_callVI (np := 47) G hM hl.1 [vI v1] (qX11_isQuaternion l E σ v0 v1 _ e4) myX11_isQuaternion (shp_lt (gX11_isQuaternion e4) (by decide)) (gX11_isQuaternion e4) rfl (by decide) lkX11_102 ⟨Nat.le_of_ble_eq_true rfl, Nat.le_of_ble_eq_true rfl⟩ ⟨Nat.le_of_ble_eq_true rfl, Nat.le_of_ble_eq_true rfl⟩ [] rfl (Nat.le_of_ble_eq_true rfl) dX11_beginAnew_44 rfl (fun H locs hM => ?_)
      refine r_if_eq (np := 50) (tgt := 77) G rfl dX11_beginAnew_47 (by decide) rfl (fun h5 => ?_) (fun h5 => ?_)
      · have hm := b_t h5 hm
        obtain ⟨a6, e7, hm⟩ := bnd_t hm
        refine r_iinc (np := 80) G hl 1 rfl e7 [(1, vI a6), (0, .ref (eA E v0))] dX11_beginAnew_77 rfl (by decide) rfl (fun ls hl => ?_)
        refine r_goto (np := 36) G dX11_beginAnew_80 (by decide) ?_
        exact ih a6 _ _ _ _ hm hM (lv_sub hl [1, 0] rfl)
      · have hm := b_f h5 hm
        refine r_aload_n (np := 51) G hl 0 rfl dX11_beginAnew_50 rfl rfl ?_
        obtain ⟨r8, e9, hm⟩ := ref_t hm
        refine r_getR (np := 54) G hM (shp_lt g0 (by decide)) g0 e9 fdX11_7 lkX11_49 dX11_beginAnew_51 rfl ?_
        refine r_iload_n (np := 55) G hl 1 rfl dX11_beginAnew_54 rfl rfl ?_
        obtain ⟨g10, hm⟩ := g_t hm
        obtain ⟨r11, e12, hm⟩ := ref_t hm
        refine r_aaload (np := 56) G hM (t := 4) g10 rfl ⟨by decide, by decide⟩ rfl rfl e12 dX11_beginAnew_55 rfl ?_
        refine r_aload_n (np := 57) G hl 0 rfl dX11_beginAnew_56 rfl rfl ?_
        obtain ⟨r13, e14, hm⟩ := ref_t hm
        refine r_getR (np := 60) G hM (shp_lt g0 (by decide)) g0 e14 fdX11_3 lkX11_27 dX11_beginAnew_57 rfl ?_
        refine r_iload_n (np := 61) G hl 1 rfl dX11_beginAnew_60 rfl rfl ?_
        obtain ⟨b15, s16, e17, hm⟩ := call_t hm
        refine m_callVI (np := 64) G hM hl.1 [vI v1] (qX0_first l E s3 r13 v1 _ e17) myX0_first (shp_lt (gX0_first e17) (by decide)) (gX0_first e17) rfl (by decide) lkX11_106 ⟨Nat.le_of_ble_eq_true rfl, Nat.le_of_ble_eq_true rfl⟩ ⟨Nat.le_of_ble_eq_true rfl, Nat.le_of_ble_eq_true rfl⟩ [.ref (eA E r11)] rfl (Nat.le_of_ble_eq_true rfl) dX11_beginAnew_61 rfl (fun H locs hM => ?_)
        refine r_i2l (np := 65) G rfl dX11_beginAnew_64 rfl ?_
        refine r_aload_n (np := 66) G hl 0 rfl dX11_beginAnew_65 rfl rfl ?_
        obtain ⟨r18, e19, hm⟩ := ref_t hm
        refine r_getR (np := 69) G hM (shp_lt g0 (by decide)) g0 e19 fdX11_3 lkX11_27 dX11_beginAnew_66 rfl ?_
        refine r_iload_n (np := 70) G hl 1 rfl dX11_beginAnew_69 rfl rfl ?_
        obtain ⟨b20, s21, e22, hm⟩ := call_t hm
        refine m_callVI (np := 73) G hM hl.1 [vI v1] (qX0_second l E s16 r18 v1 _ e22) myX0_second (shp_lt (gX0_second e22) (by decide)) (gX0_second e22) rfl (by decide) lkX11_110 ⟨Nat.le_of_ble_eq_true rfl, Nat.le_of_ble_eq_true rfl⟩ ⟨Nat.le_of_ble_eq_true rfl, Nat.le_of_ble_eq_true rfl⟩ [vL (wI b15), .ref (eA E r11)] rfl (Nat.le_of_ble_eq_true rfl) dX11_beginAnew_70 rfl (fun H locs hM => ?_)
        refine r_i2l (np := 74) G rfl dX11_beginAnew_73 rfl ?_
        obtain ⟨b23, s24, e25, hm⟩ := call_t hm
        refine m_callVV (np := 77) G hM hl.1 [vL (wI b15), vL (wI b20)] (qX6_begin l E s21 r11 (wI b15) (wI b20) _ e25) myX6_begin (shp_lt (gX6_begin e25) (by decide)) (gX6_begin e25) rfl (by decide) lkX11_113 ⟨Nat.le_of_ble_eq_true rfl, Nat.le_of_ble_eq_true rfl⟩ ⟨Nat.le_of_ble_eq_true rfl, Nat.le_of_ble_eq_true rfl⟩ [] rfl (Nat.le_of_ble_eq_true rfl) dX11_beginAnew_74 rfl (fun H locs hM => ?_)
        obtain ⟨a26, e27, hm⟩ := bnd_t hm
        refine r_iinc (np := 80) G hl 1 rfl e27 [(1, vI a26), (0, .ref (eA E v0))] dX11_beginAnew_77 rfl (by decide) rfl (fun ls hl => ?_)
        refine r_goto (np := 36) G dX11_beginAnew_80 (by decide) ?_
        exact ih a26 _ _ _ _ hm hM (lv_sub hl [1, 0] rfl)
set_option maxRecDepth 100000 in
set_option maxHeartbeats 4000000 in
theorem wX11_beginAnew_B34 (l : Launch) (E : mE) (out : Int × mSt) {p : Program} {e : Env} {s : State} {m : MethodId} {args : Array Value} {below : List Frame} {meth : Method} {c : Code} (G : CallFix p m c cX11_beginAnew 2 s args mTs RX11) (hr : meth.sig.returnType = none) (hk : meth.locks = false) (v0 : Nat) (g0 : isC v0 10) : ∀ (σ : mSt) (H : Heap) (locs : List Loc) (ls : Array Slot), mX11_beginAnew_B34 v0 σ = some out → mM (mA E 276) E 276 σ s H locs → lv_has ls 2 [(0, .ref (eA E v0))] → mGo l p e 6 152 s m args below meth c E none out.2 H locs (F0 m 34 ls []) := by
  intro σ H locs ls hm hM hl
  unfold mX11_beginAnew_B34 at hm
  refine r_iconst (np := 35) G 0 dX11_beginAnew_34 rfl ?_
  refine r_istore_n (np := 36) G hl rfl [(1, vI 0), (0, .ref (eA E v0))] dX11_beginAnew_35 rfl rfl (by decide) rfl (fun ls hl => ?_)
  exact wX11_beginAnew_L36 l E out G hr hk v0 g0 (fun zσ => mX11_beginAnew_B83 v0 zσ) (fun zσ zH zl zs zm zM zv => wX11_beginAnew_B83 l E out G hr hk v0 g0 zσ zH zl zs zm zM zv) mF 0 _ _ _ _ hm hM (lv_sub hl [1, 0] rfl)
set_option maxRecDepth 100000 in
set_option maxHeartbeats 4000000 in
theorem wX11_beginAnew_L13 (l : Launch) (E : mE) (out : Int × mSt) {p : Program} {e : Env} {s : State} {m : MethodId} {args : Array Value} {below : List Frame} {meth : Method} {c : Code} (G : CallFix p m c cX11_beginAnew 2 s args mTs RX11) (hr : meth.sig.returnType = none) (hk : meth.locks = false) (v0 : Nat) (g0 : isC v0 10) (x34 : mSt → Option (Int × mSt)) (hx34 : ∀ (σ : mSt) (H : Heap) (locs : List Loc) (ls : Array Slot), x34 σ = some out → mM (mA E 276) E 276 σ s H locs → lv_has ls 2 [(0, .ref (eA E v0))] → mGo l p e 6 152 s m args below meth c E none out.2 H locs (F0 m 34 ls [])) : ∀ (n : Nat) (v1 : Int) (σ : mSt) (H : Heap) (locs : List Loc) (ls : Array Slot), mX11_beginAnew_L13 v0 x34 n v1 σ = some out → mM (mA E 276) E 276 σ s H locs → lv_has ls 2 [(0, .ref (eA E v0)), (1, vI v1)] → mGo l p e 6 152 s m args below meth c E none out.2 H locs (F0 m 13 ls []) := by
  intro n
  induction n with
  | zero =>
    intro v1 σ H locs ls hm hM hl
    exact absurd hm (by rw [mX11_beginAnew_L13.eq_1]; exact fun h => nomatch h)
  | succ n ih =>
    intro v1 σ H locs ls hm hM hl
    rw [mX11_beginAnew_L13.eq_2] at hm
    refine r_iload_n (np := 14) G hl 1 rfl dX11_beginAnew_13 rfl rfl ?_
    refine r_bipush (np := 16) G 8 dX11_beginAnew_14 (by decide) rfl ?_
    refine r_icmp_ge (np := 19) (tgt := 34) G rfl (wIk 8 rfl) dX11_beginAnew_16 (by decide) rfl (fun h28 => ?_) (fun h28 => ?_)
    · have hm := b_t h28 hm
      exact hx34 _ _ _ _ hm hM (lv_sub hl [0] rfl)
    · have hm := b_f h28 hm
      refine r_aload_n (np := 20) G hl 0 rfl dX11_beginAnew_19 rfl rfl ?_
      obtain ⟨r29, e30, hm⟩ := ref_t hm
      refine r_getR (np := 23) G hM (shp_lt g0 (by decide)) g0 e30 fdX11_6 lkX11_43 dX11_beginAnew_20 rfl ?_
      refine r_iload_n (np := 24) G hl 1 rfl dX11_beginAnew_23 rfl rfl ?_
      obtain ⟨g31, hm⟩ := g_t hm
      obtain ⟨r32, e33, hm⟩ := ref_t hm
      refine r_aaload (np := 25) G hM (t := 3) g31 rfl ⟨by decide, by decide⟩ rfl rfl e33 dX11_beginAnew_24 rfl ?_
      obtain ⟨b34, s35, e36, hm⟩ := call_t hm
      refine m_callVV (np := 28) G hM hl.1 [] (qX1_drop l E σ r32 _ e36) myX1_drop (shp_lt (gX1_drop e36) (by decide)) (gX1_drop e36) rfl (by decide) lkX11_99 ⟨Nat.le_of_ble_eq_true rfl, Nat.le_of_ble_eq_true rfl⟩ ⟨Nat.le_of_ble_eq_true rfl, Nat.le_of_ble_eq_true rfl⟩ [] rfl (Nat.le_of_ble_eq_true rfl) dX11_beginAnew_25 rfl (fun H locs hM => ?_)
      obtain ⟨a37, e38, hm⟩ := bnd_t hm
      refine r_iinc (np := 31) G hl 1 rfl e38 [(1, vI a37), (0, .ref (eA E v0))] dX11_beginAnew_28 rfl (by decide) rfl (fun ls hl => ?_)
      refine r_goto (np := 13) G dX11_beginAnew_31 (by decide) ?_
      exact ih a37 _ _ _ _ hm hM (lv_sub hl [1, 0] rfl)
set_option maxRecDepth 100000 in
set_option maxHeartbeats 4000000 in
theorem qX11_beginAnew (l : Launch) (E : mE) (σ : mSt) (v0 : Nat) (out : Int × mSt) (hm : mX11_beginAnew v0 σ = some out) : mMet l yX11_beginAnew cX11_beginAnew 2 none 6 152 E 276 [.ref (eA E v0)] σ none out.2 := by
  unfold mX11_beginAnew at hm
  obtain ⟨g0, hm⟩ := g_t hm
  refine m_entry (by decide +kernel) (Nat.le_of_ble_eq_true rfl) (fun p e s m args below meth c G hr hk hM ls hl => ?_)
  have G : CallFix p m c cX11_beginAnew 2 s args mTs RX11 := G
  have hl : lv_has ls 2 [(0, .ref (eA E v0))] := hl
  refine r_aload_n (np := 1) G hl 0 rfl dX11_beginAnew_0 rfl rfl ?_
  obtain ⟨r39, e40, hm⟩ := ref_t hm
  refine r_getR (np := 4) G hM (shp_lt g0 (by decide)) g0 e40 fdX11_5 lkX11_37 dX11_beginAnew_1 rfl ?_
  refine r_aload_n (np := 5) G hl 0 rfl dX11_beginAnew_4 rfl rfl ?_
  obtain ⟨r41, e42, hm⟩ := ref_t hm
  refine r_getR (np := 8) G hM (shp_lt g0 (by decide)) g0 e42 fdX11_3 lkX11_27 dX11_beginAnew_5 rfl ?_
  obtain ⟨b43, s44, e45, hm⟩ := call_t hm
  refine m_callVV (np := 11) G hM hl.1 [.ref (eA E r41)] (qX7_reckon l E σ r39 r41 _ e45) myX7_reckon (shp_lt (gX7_reckon e45) (by decide)) (gX7_reckon e45) rfl (by decide) lkX11_95 ⟨Nat.le_of_ble_eq_true rfl, Nat.le_of_ble_eq_true rfl⟩ ⟨Nat.le_of_ble_eq_true rfl, Nat.le_of_ble_eq_true rfl⟩ [] rfl (Nat.le_of_ble_eq_true rfl) dX11_beginAnew_8 rfl (fun H locs hM => ?_)
  refine r_iconst (np := 12) G 0 dX11_beginAnew_11 rfl ?_
  refine r_istore_n (np := 13) G hl rfl [(1, vI 0), (0, .ref (eA E v0))] dX11_beginAnew_12 rfl rfl (by decide) rfl (fun ls hl => ?_)
  exact wX11_beginAnew_L13 l E out G hr hk v0 g0 (fun zσ => mX11_beginAnew_B34 v0 zσ) (fun zσ zH zl zs zm zM zv => wX11_beginAnew_B34 l E out G hr hk v0 g0 zσ zH zl zs zm zM zv) mF 0 _ _ _ _ hm hM (lv_sub hl [1, 0] rfl)
theorem gX11_beginAnew {v0 : Nat} {σ : mSt} {out : Int × mSt} (hm : mX11_beginAnew v0 σ = some out) : isC v0 10 := (g_t hm).1
set_option maxRecDepth 100000 in
set_option maxHeartbeats 4000000 in
theorem wX11_local_B29 (l : Launch) (E : mE) (out : Int × mSt) {p : Program} {e : Env} {s : State} {m : MethodId} {args : Array Value} {below : List Frame} {meth : Method} {c : Code} (G : CallFix p m c cX11_local 3 s args mTs RX11) (hr : meth.sig.returnType = (some .int)) (hk : meth.locks = false) (v0 : Nat) (v1 : Int) (v2 : Int) (g0 : isC v0 10) : ∀ (σ : mSt) (H : Heap) (locs : List Loc) (ls : Array Slot), mX11_local_B29 v0 v1 v2 σ = some out → mM (mA E 276) E 276 σ s H locs → lv_has ls 3 [(0, .ref (eA E v0)), (1, vI v1), (2, vI v2)] → mGo l p e 2 41 s m args below meth c E (some (vI out.1)) out.2 H locs (F0 m 29 ls []) := by
  intro σ H locs ls hm hM hl
  unfold mX11_local_B29 at hm
  refine r_aload_n (np := 30) G hl 0 rfl dX11_local_29 rfl rfl ?_
  obtain ⟨r1, e2, hm⟩ := ref_t hm
  refine r_getR (np := 33) G hM (shp_lt g0 (by decide)) g0 e2 fdX11_5 lkX11_37 dX11_local_30 rfl ?_
  refine r_iload_n (np := 34) G hl 1 rfl dX11_local_33 rfl rfl ?_
  refine r_iload_n (np := 35) G hl 2 rfl dX11_local_34 rfl rfl ?_
  obtain ⟨b3, s4, e5, hm⟩ := call_t hm
  refine m_callVI (np := 38) G hM hl.1 [vI v1, vI v2] (qX7_sixthsAt l E σ r1 v1 v2 _ e5) myX7_sixthsAt (shp_lt (gX7_sixthsAt e5) (by decide)) (gX7_sixthsAt e5) rfl (by decide) lkX11_135 ⟨Nat.le_of_ble_eq_true rfl, Nat.le_of_ble_eq_true rfl⟩ ⟨Nat.le_of_ble_eq_true rfl, Nat.le_of_ble_eq_true rfl⟩ [] rfl (Nat.le_of_ble_eq_true rfl) dX11_local_35 rfl (fun H locs hM => ?_)
  exact r_iret G hr hk hM hm dX11_local_38
set_option maxRecDepth 100000 in
set_option maxHeartbeats 4000000 in
theorem qX11_local (l : Launch) (E : mE) (σ : mSt) (v0 : Nat) (v1 : Int) (v2 : Int) (out : Int × mSt) (hm : mX11_local v0 v1 v2 σ = some out) : mMet l yX11_local cX11_local 3 (some .int) 2 41 E 276 [.ref (eA E v0), vI v1, vI v2] σ (some (vI out.1)) out.2 := by
  unfold mX11_local at hm
  obtain ⟨g0, hm⟩ := g_t hm
  refine m_entry (by decide +kernel) (Nat.le_of_ble_eq_true rfl) (fun p e s m args below meth c G hr hk hM ls hl => ?_)
  have G : CallFix p m c cX11_local 3 s args mTs RX11 := G
  have hl : lv_has ls 3 [(0, .ref (eA E v0)), (1, vI v1), (2, vI v2)] := hl
  refine r_aload_n (np := 1) G hl 0 rfl dX11_local_0 rfl rfl ?_
  refine r_iload_n (np := 2) G hl 1 rfl dX11_local_1 rfl rfl ?_
  obtain ⟨b6, s7, e8, hm⟩ := call_t hm
  refine m_callVI (np := 5) G hM hl.1 [vI v1] (qX11_isTold l E σ v0 v1 _ e8) myX11_isTold (shp_lt (gX11_isTold e8) (by decide)) (gX11_isTold e8) rfl (by decide) lkX11_117 ⟨Nat.le_of_ble_eq_true rfl, Nat.le_of_ble_eq_true rfl⟩ ⟨Nat.le_of_ble_eq_true rfl, Nat.le_of_ble_eq_true rfl⟩ [] rfl (Nat.le_of_ble_eq_true rfl) dX11_local_2 rfl (fun H locs hM => ?_)
  refine r_if_eq (np := 8) (tgt := 14) G rfl dX11_local_5 (by decide) rfl (fun h9 => ?_) (fun h9 => ?_)
  · have hm := b_t h9 hm
    refine r_iconst (np := 15) G (-1) dX11_local_14 rfl ?_
    exact r_iret G hr hk hM hm dX11_local_15
  · have hm := b_f h9 hm
    refine r_iload_n (np := 9) G hl 2 rfl dX11_local_8 rfl rfl ?_
    refine r_ldc (np := 11) G 60000 dX11_local_9 lkX11_129 rfl rfl ?_
    refine r_icmp_le (np := 14) (tgt := 16) G rfl (wIk 60000 rfl) dX11_local_11 (by decide) rfl (fun h10 => ?_) (fun h10 => ?_)
    · have hm := b_t h10 hm
      refine r_iload_n (np := 17) G hl 2 rfl dX11_local_16 rfl rfl ?_
      refine r_if_eq (np := 20) (tgt := 29) G rfl dX11_local_17 (by decide) rfl (fun h11 => ?_) (fun h11 => ?_)
      · have hm := b_t h11 hm
        exact wX11_local_B29 l E out G hr hk v0 v1 v2 g0 _ _ _ _ hm hM (lv_sub hl [0, 1, 2] rfl)
      · have hm := b_f h11 hm
        refine r_iload_n (np := 21) G hl 2 rfl dX11_local_20 rfl rfl ?_
        obtain ⟨b12, s13, e14, hm⟩ := call_t hm
        refine m_callSI (np := 24) G hM hl.1 [vI v2] (qX5_isPrime l E s7 v2 _ e14) myX5_isPrime lkX11_130 ⟨Nat.le_of_ble_eq_true rfl, Nat.le_of_ble_eq_true rfl⟩ ⟨Nat.le_of_ble_eq_true rfl, Nat.le_of_ble_eq_true rfl⟩ [] rfl (Nat.le_of_ble_eq_true rfl) dX11_local_21 rfl (fun H locs hM => ?_)
        refine r_if_ne (np := 27) (tgt := 29) G rfl dX11_local_24 (by decide) rfl (fun h15 => ?_) (fun h15 => ?_)
        · have hm := b_f h15 hm
          exact wX11_local_B29 l E out G hr hk v0 v1 v2 g0 _ _ _ _ hm hM (lv_sub hl [0, 1, 2] rfl)
        · have hm := b_t h15 hm
          refine r_iconst (np := 28) G (-1) dX11_local_27 rfl ?_
          exact r_iret G hr hk hM hm dX11_local_28
    · have hm := b_f h10 hm
      refine r_iconst (np := 15) G (-1) dX11_local_14 rfl ?_
      exact r_iret G hr hk hM hm dX11_local_15
theorem gX11_local {v0 : Nat} {v1 : Int} {v2 : Int} {σ : mSt} {out : Int × mSt} (hm : mX11_local v0 v1 v2 σ = some out) : isC v0 10 := (g_t hm).1
set_option maxRecDepth 100000 in
set_option maxHeartbeats 4000000 in
theorem qX11_place (l : Launch) (E : mE) (σ : mSt) (v0 : Nat) (v1 : Int) (v2 : Int) (out : Int × mSt) (hm : mX11_place v0 v1 v2 σ = some out) : mMet l yX11_place cX11_place 3 (some .int) 2 41 E 276 [.ref (eA E v0), vI v1, vI v2] σ (some (vI out.1)) out.2 := by
  unfold mX11_place at hm
  obtain ⟨g0, hm⟩ := g_t hm
  refine m_entry (by decide +kernel) (Nat.le_of_ble_eq_true rfl) (fun p e s m args below meth c G hr hk hM ls hl => ?_)
  have G : CallFix p m c cX11_place 3 s args mTs RX11 := G
  have hl : lv_has ls 3 [(0, .ref (eA E v0)), (1, vI v1), (2, vI v2)] := hl
  refine r_aload_n (np := 1) G hl 0 rfl dX11_place_0 rfl rfl ?_
  refine r_iload_n (np := 2) G hl 1 rfl dX11_place_1 rfl rfl ?_
  obtain ⟨b1, s2, e3, hm⟩ := call_t hm
  refine m_callVI (np := 5) G hM hl.1 [vI v1] (qX11_isTold l E σ v0 v1 _ e3) myX11_isTold (shp_lt (gX11_isTold e3) (by decide)) (gX11_isTold e3) rfl (by decide) lkX11_117 ⟨Nat.le_of_ble_eq_true rfl, Nat.le_of_ble_eq_true rfl⟩ ⟨Nat.le_of_ble_eq_true rfl, Nat.le_of_ble_eq_true rfl⟩ [] rfl (Nat.le_of_ble_eq_true rfl) dX11_place_2 rfl (fun H locs hM => ?_)
  refine r_if_eq (np := 8) (tgt := 13) G rfl dX11_place_5 (by decide) rfl (fun h4 => ?_) (fun h4 => ?_)
  · have hm := b_t h4 hm
    refine r_bipush (np := 15) G (-2) dX11_place_13 (by decide) rfl ?_
    exact r_iret G hr hk hM hm dX11_place_15
  · have hm := b_f h4 hm
    refine r_iload_n (np := 9) G hl 2 rfl dX11_place_8 rfl rfl ?_
    refine r_iconst (np := 10) G (-1) dX11_place_9 rfl ?_
    refine r_icmp_ge (np := 13) (tgt := 16) G rfl (wIk (-1) rfl) dX11_place_10 (by decide) rfl (fun h5 => ?_) (fun h5 => ?_)
    · have hm := b_t h5 hm
      refine r_iload_n (np := 17) G hl 2 rfl dX11_place_16 rfl rfl ?_
      refine r_iconst (np := 18) G (-1) dX11_place_17 rfl ?_
      refine r_icmp_ne (np := 21) (tgt := 32) G rfl (wIk (-1) rfl) dX11_place_18 (by decide) rfl (fun h6 => ?_) (fun h6 => ?_)
      · have hm := b_f h6 hm
        refine r_aload_n (np := 33) G hl 0 rfl dX11_place_32 rfl rfl ?_
        obtain ⟨r7, e8, hm⟩ := ref_t hm
        refine r_getR (np := 36) G hM (shp_lt g0 (by decide)) g0 e8 fdX11_5 lkX11_37 dX11_place_33 rfl ?_
        refine r_iload_n (np := 37) G hl 1 rfl dX11_place_36 rfl rfl ?_
        refine r_iload_n (np := 38) G hl 2 rfl dX11_place_37 rfl rfl ?_
        obtain ⟨b9, s10, e11, hm⟩ := call_t hm
        refine m_callVI (np := 41) G hM hl.1 [vI v1, vI v2] (qX7_placeOf l E s2 r7 v1 v2 _ e11) myX7_placeOf (shp_lt (gX7_placeOf e11) (by decide)) (gX7_placeOf e11) rfl (by decide) lkX11_142 ⟨Nat.le_of_ble_eq_true rfl, Nat.le_of_ble_eq_true rfl⟩ ⟨Nat.le_of_ble_eq_true rfl, Nat.le_of_ble_eq_true rfl⟩ [] rfl (Nat.le_of_ble_eq_true rfl) dX11_place_38 rfl (fun H locs hM => ?_)
        exact r_iret G hr hk hM hm dX11_place_41
      · have hm := b_t h6 hm
        refine r_aload_n (np := 22) G hl 0 rfl dX11_place_21 rfl rfl ?_
        obtain ⟨r12, e13, hm⟩ := ref_t hm
        refine r_getR (np := 25) G hM (shp_lt g0 (by decide)) g0 e13 fdX11_5 lkX11_37 dX11_place_22 rfl ?_
        refine r_iload_n (np := 26) G hl 1 rfl dX11_place_25 rfl rfl ?_
        obtain ⟨b14, s15, e16, hm⟩ := call_t hm
        refine m_callVI (np := 29) G hM hl.1 [vI v1] (qX7_howMany l E s2 r12 v1 _ e16) myX7_howMany (shp_lt (gX7_howMany e16) (by decide)) (gX7_howMany e16) rfl (by decide) lkX11_139 ⟨Nat.le_of_ble_eq_true rfl, Nat.le_of_ble_eq_true rfl⟩ ⟨Nat.le_of_ble_eq_true rfl, Nat.le_of_ble_eq_true rfl⟩ [] rfl (Nat.le_of_ble_eq_true rfl) dX11_place_26 rfl (fun H locs hM => ?_)
        refine r_goto (np := 41) G dX11_place_29 (by decide) ?_
        exact r_iret G hr hk hM hm dX11_place_41
    · have hm := b_f h5 hm
      refine r_bipush (np := 15) G (-2) dX11_place_13 (by decide) rfl ?_
      exact r_iret G hr hk hM hm dX11_place_15
theorem gX11_place {v0 : Nat} {v1 : Int} {v2 : Int} {σ : mSt} {out : Int × mSt} (hm : mX11_place v0 v1 v2 σ = some out) : isC v0 10 := (g_t hm).1
set_option maxRecDepth 100000 in
set_option maxHeartbeats 4000000 in
theorem qX11_index (l : Launch) (E : mE) (σ : mSt) (v0 : Nat) (v1 : Int) (out : Int × mSt) (hm : mX11_index v0 v1 σ = some out) : mMet l yX11_index cX11_index 2 (some .int) 3 75 E 276 [.ref (eA E v0), vI v1] σ (some (vI out.1)) out.2 := by
  unfold mX11_index at hm
  obtain ⟨g0, hm⟩ := g_t hm
  refine m_entry (by decide +kernel) (Nat.le_of_ble_eq_true rfl) (fun p e s m args below meth c G hr hk hM ls hl => ?_)
  have G : CallFix p m c cX11_index 2 s args mTs RX11 := G
  have hl : lv_has ls 2 [(0, .ref (eA E v0)), (1, vI v1)] := hl
  refine r_aload_n (np := 1) G hl 0 rfl dX11_index_0 rfl rfl ?_
  refine r_iload_n (np := 2) G hl 1 rfl dX11_index_1 rfl rfl ?_
  obtain ⟨b1, s2, e3, hm⟩ := call_t hm
  refine m_callVI (np := 5) G hM hl.1 [vI v1] (qX11_isTold l E σ v0 v1 _ e3) myX11_isTold (shp_lt (gX11_isTold e3) (by decide)) (gX11_isTold e3) rfl (by decide) lkX11_117 ⟨Nat.le_of_ble_eq_true rfl, Nat.le_of_ble_eq_true rfl⟩ ⟨Nat.le_of_ble_eq_true rfl, Nat.le_of_ble_eq_true rfl⟩ [] rfl (Nat.le_of_ble_eq_true rfl) dX11_index_2 rfl (fun H locs hM => ?_)
  refine r_if_eq (np := 8) (tgt := 19) G rfl dX11_index_5 (by decide) rfl (fun h4 => ?_) (fun h4 => ?_)
  · have hm := b_t h4 hm
    refine r_iconst (np := 20) G (-1) dX11_index_19 rfl ?_
    exact r_iret G hr hk hM hm dX11_index_20
  · have hm := b_f h4 hm
    refine r_aload_n (np := 9) G hl 0 rfl dX11_index_8 rfl rfl ?_
    obtain ⟨r5, e6, hm⟩ := ref_t hm
    refine r_getR (np := 12) G hM (shp_lt g0 (by decide)) g0 e6 fdX11_5 lkX11_37 dX11_index_9 rfl ?_
    refine r_iload_n (np := 13) G hl 1 rfl dX11_index_12 rfl rfl ?_
    obtain ⟨b7, s8, e9, hm⟩ := call_t hm
    refine m_callVI (np := 16) G hM hl.1 [vI v1] (qX7_indexOf l E s2 r5 v1 _ e9) myX7_indexOf (shp_lt (gX7_indexOf e9) (by decide)) (gX7_indexOf e9) rfl (by decide) lkX11_145 ⟨Nat.le_of_ble_eq_true rfl, Nat.le_of_ble_eq_true rfl⟩ ⟨Nat.le_of_ble_eq_true rfl, Nat.le_of_ble_eq_true rfl⟩ [] rfl (Nat.le_of_ble_eq_true rfl) dX11_index_13 rfl (fun H locs hM => ?_)
    refine r_goto (np := 20) G dX11_index_16 (by decide) ?_
    exact r_iret G hr hk hM hm dX11_index_20
theorem gX11_index {v0 : Nat} {v1 : Int} {σ : mSt} {out : Int × mSt} (hm : mX11_index v0 v1 σ = some out) : isC v0 10 := (g_t hm).1
set_option maxRecDepth 100000 in
set_option maxHeartbeats 4000000 in
theorem qX11_alike (l : Launch) (E : mE) (σ : mSt) (v0 : Nat) (v1 : Int) (v2 : Int) (out : Int × mSt) (hm : mX11_alike v0 v1 v2 σ = some out) : mMet l yX11_alike cX11_alike 3 (some .int) 2 41 E 276 [.ref (eA E v0), vI v1, vI v2] σ (some (vI out.1)) out.2 := by
  unfold mX11_alike at hm
  obtain ⟨g0, hm⟩ := g_t hm
  refine m_entry (by decide +kernel) (Nat.le_of_ble_eq_true rfl) (fun p e s m args below meth c G hr hk hM ls hl => ?_)
  have G : CallFix p m c cX11_alike 3 s args mTs RX11 := G
  have hl : lv_has ls 3 [(0, .ref (eA E v0)), (1, vI v1), (2, vI v2)] := hl
  refine r_aload_n (np := 1) G hl 0 rfl dX11_alike_0 rfl rfl ?_
  refine r_iload_n (np := 2) G hl 1 rfl dX11_alike_1 rfl rfl ?_
  obtain ⟨b1, s2, e3, hm⟩ := call_t hm
  refine m_callVI (np := 5) G hM hl.1 [vI v1] (qX11_isTold l E σ v0 v1 _ e3) myX11_isTold (shp_lt (gX11_isTold e3) (by decide)) (gX11_isTold e3) rfl (by decide) lkX11_117 ⟨Nat.le_of_ble_eq_true rfl, Nat.le_of_ble_eq_true rfl⟩ ⟨Nat.le_of_ble_eq_true rfl, Nat.le_of_ble_eq_true rfl⟩ [] rfl (Nat.le_of_ble_eq_true rfl) dX11_alike_2 rfl (fun H locs hM => ?_)
  refine r_if_eq (np := 8) (tgt := 16) G rfl dX11_alike_5 (by decide) rfl (fun h4 => ?_) (fun h4 => ?_)
  · have hm := b_t h4 hm
    refine r_iconst (np := 17) G (-1) dX11_alike_16 rfl ?_
    exact r_iret G hr hk hM hm dX11_alike_17
  · have hm := b_f h4 hm
    refine r_aload_n (np := 9) G hl 0 rfl dX11_alike_8 rfl rfl ?_
    refine r_iload_n (np := 10) G hl 2 rfl dX11_alike_9 rfl rfl ?_
    obtain ⟨b5, s6, e7, hm⟩ := call_t hm
    refine m_callVI (np := 13) G hM hl.1 [vI v2] (qX11_isTold l E s2 v0 v2 _ e7) myX11_isTold (shp_lt (gX11_isTold e7) (by decide)) (gX11_isTold e7) rfl (by decide) lkX11_117 ⟨Nat.le_of_ble_eq_true rfl, Nat.le_of_ble_eq_true rfl⟩ ⟨Nat.le_of_ble_eq_true rfl, Nat.le_of_ble_eq_true rfl⟩ [] rfl (Nat.le_of_ble_eq_true rfl) dX11_alike_10 rfl (fun H locs hM => ?_)
    refine r_if_ne (np := 16) (tgt := 18) G rfl dX11_alike_13 (by decide) rfl (fun h8 => ?_) (fun h8 => ?_)
    · have hm := b_f h8 hm
      refine r_aload_n (np := 19) G hl 0 rfl dX11_alike_18 rfl rfl ?_
      obtain ⟨r9, e10, hm⟩ := ref_t hm
      refine r_getR (np := 22) G hM (shp_lt g0 (by decide)) g0 e10 fdX11_5 lkX11_37 dX11_alike_19 rfl ?_
      refine r_iload_n (np := 23) G hl 1 rfl dX11_alike_22 rfl rfl ?_
      refine r_iload_n (np := 24) G hl 2 rfl dX11_alike_23 rfl rfl ?_
      obtain ⟨b11, s12, e13, hm⟩ := call_t hm
      refine m_callVI (np := 27) G hM hl.1 [vI v1, vI v2] (qX7_areAlike l E s6 r9 v1 v2 _ e13) myX7_areAlike (shp_lt (gX7_areAlike e13) (by decide)) (gX7_areAlike e13) rfl (by decide) lkX11_148 ⟨Nat.le_of_ble_eq_true rfl, Nat.le_of_ble_eq_true rfl⟩ ⟨Nat.le_of_ble_eq_true rfl, Nat.le_of_ble_eq_true rfl⟩ [] rfl (Nat.le_of_ble_eq_true rfl) dX11_alike_24 rfl (fun H locs hM => ?_)
      refine r_if_eq (np := 30) (tgt := 34) G rfl dX11_alike_27 (by decide) rfl (fun h14 => ?_) (fun h14 => ?_)
      · have hm := b_t h14 hm
        refine r_iconst (np := 35) G 0 dX11_alike_34 rfl ?_
        exact r_iret G hr hk hM hm dX11_alike_35
      · have hm := b_f h14 hm
        refine r_iconst (np := 31) G 1 dX11_alike_30 rfl ?_
        refine r_goto (np := 35) G dX11_alike_31 (by decide) ?_
        exact r_iret G hr hk hM hm dX11_alike_35
    · have hm := b_t h8 hm
      refine r_iconst (np := 17) G (-1) dX11_alike_16 rfl ?_
      exact r_iret G hr hk hM hm dX11_alike_17
theorem gX11_alike {v0 : Nat} {v1 : Int} {v2 : Int} {σ : mSt} {out : Int × mSt} (hm : mX11_alike v0 v1 v2 σ = some out) : isC v0 10 := (g_t hm).1
set_option maxRecDepth 100000 in
set_option maxHeartbeats 4000000 in
theorem wX11_classes_B73 (l : Launch) (E : mE) (out : Int × mSt) {p : Program} {e : Env} {s : State} {m : MethodId} {args : Array Value} {below : List Frame} {meth : Method} {c : Code} (G : CallFix p m c cX11_classes 5 s args mTs RX11) (hr : meth.sig.returnType = (some .int)) (hk : meth.locks = false) (v0 : Nat) (g0 : isC v0 10) : ∀ (v1 : Int) (σ : mSt) (H : Heap) (locs : List Loc) (ls : Array Slot), mX11_classes_B73 v0 v1 σ = some out → mM (mA E 276) E 276 σ s H locs → lv_has ls 5 [(1, vI v1)] → mGo l p e 1 24 s m args below meth c E (some (vI out.1)) out.2 H locs (F0 m 73 ls []) := by
  intro v1 σ H locs ls hm hM hl
  unfold mX11_classes_B73 at hm
  refine r_iload_n (np := 74) G hl 0 rfl dX11_classes_73 rfl rfl ?_
  exact r_iret G hr hk hM hm dX11_classes_74
set_option maxRecDepth 100000 in
set_option maxHeartbeats 4000000 in
theorem wX11_classes_B55 (l : Launch) (E : mE) (out : Int × mSt) {p : Program} {e : Env} {s : State} {m : MethodId} {args : Array Value} {below : List Frame} {meth : Method} {c : Code} (G : CallFix p m c cX11_classes 5 s args mTs RX11) (hr : meth.sig.returnType = (some .int)) (hk : meth.locks = false) (v0 : Nat) (g0 : isC v0 10) (c4 : Int → Int → mSt → Option (Int × mSt)) (x73 : Int → mSt → Option (Int × mSt)) (hc4 : ∀ (v1 : Int) (v2 : Int) (σ : mSt) (H : Heap) (locs : List Loc) (ls : Array Slot), c4 v1 v2 σ = some out → mM (mA E 276) E 276 σ s H locs → lv_has ls 5 [(0, .ref (eA E v0)), (1, vI v1), (2, vI v2)] → mGo l p e 1 24 s m args below meth c E (some (vI out.1)) out.2 H locs (F0 m 4 ls [])) (hx73 : ∀ (v1 : Int) (σ : mSt) (H : Heap) (locs : List Loc) (ls : Array Slot), x73 v1 σ = some out → mM (mA E 276) E 276 σ s H locs → lv_has ls 5 [(1, vI v1)] → mGo l p e 1 24 s m args below meth c E (some (vI out.1)) out.2 H locs (F0 m 73 ls [])) : ∀ (v1 : Int) (v2 : Int) (v3 : Int) (σ : mSt) (H : Heap) (locs : List Loc) (ls : Array Slot), mX11_classes_B55 v0 c4 x73 v1 v2 v3 σ = some out → mM (mA E 276) E 276 σ s H locs → lv_has ls 5 [(0, .ref (eA E v0)), (1, vI v1), (2, vI v2), (3, vI v3)] → mGo l p e 1 24 s m args below meth c E (some (vI out.1)) out.2 H locs (F0 m 55 ls []) := by
  intro v1 v2 v3 σ H locs ls hm hM hl
  unfold mX11_classes_B55 at hm
  refine r_iload_n (np := 56) G hl 1 rfl dX11_classes_55 rfl rfl ?_
  refine r_iload_n (np := 57) G hl 3 rfl dX11_classes_56 rfl rfl ?_
  refine r_if_eq (np := 60) (tgt := 64) G rfl dX11_classes_57 (by decide) rfl (fun h1 => ?_) (fun h1 => ?_)
  · have hm := b_t h1 hm
    refine r_iconst (np := 65) G 0 dX11_classes_64 rfl ?_
    refine r_iadd (np := 66) G dX11_classes_65 rfl ?_
    obtain ⟨a2, e3, hm⟩ := bnd_t hm
    refine r_istore_n (np := 67) G hl e3 [(1, vI a2), (0, .ref (eA E v0)), (2, vI v2), (3, vI v3)] dX11_classes_66 rfl rfl (by decide) rfl (fun ls hl => ?_)
    obtain ⟨a4, e5, hm⟩ := bnd_t hm
    refine r_iinc (np := 70) G hl 2 rfl e5 [(2, vI a4), (1, vI a2), (0, .ref (eA E v0)), (3, vI v3)] dX11_classes_67 rfl (by decide) rfl (fun ls hl => ?_)
    refine r_goto (np := 4) G dX11_classes_70 (by decide) ?_
    exact hc4 a2 a4 _ _ _ _ hm hM (lv_sub hl [2, 1, 0] rfl)
  · have hm := b_f h1 hm
    refine r_iconst (np := 61) G 1 dX11_classes_60 rfl ?_
    refine r_goto (np := 65) G dX11_classes_61 (by decide) ?_
    refine r_iadd (np := 66) G dX11_classes_65 rfl ?_
    obtain ⟨a6, e7, hm⟩ := bnd_t hm
    refine r_istore_n (np := 67) G hl e7 [(1, vI a6), (0, .ref (eA E v0)), (2, vI v2), (3, vI v3)] dX11_classes_66 rfl rfl (by decide) rfl (fun ls hl => ?_)
    obtain ⟨a8, e9, hm⟩ := bnd_t hm
    refine r_iinc (np := 70) G hl 2 rfl e9 [(2, vI a8), (1, vI a6), (0, .ref (eA E v0)), (3, vI v3)] dX11_classes_67 rfl (by decide) rfl (fun ls hl => ?_)
    refine r_goto (np := 4) G dX11_classes_70 (by decide) ?_
    exact hc4 a6 a8 _ _ _ _ hm hM (lv_sub hl [2, 1, 0] rfl)
set_option maxRecDepth 100000 in
set_option maxHeartbeats 4000000 in
theorem wX11_classes_L20 (l : Launch) (E : mE) (out : Int × mSt) {p : Program} {e : Env} {s : State} {m : MethodId} {args : Array Value} {below : List Frame} {meth : Method} {c : Code} (G : CallFix p m c cX11_classes 5 s args mTs RX11) (hr : meth.sig.returnType = (some .int)) (hk : meth.locks = false) (v0 : Nat) (v1 : Int) (v2 : Int) (g0 : isC v0 10) (x55 : Int → mSt → Option (Int × mSt)) (hx55 : ∀ (v3 : Int) (σ : mSt) (H : Heap) (locs : List Loc) (ls : Array Slot), x55 v3 σ = some out → mM (mA E 276) E 276 σ s H locs → lv_has ls 5 [(0, .ref (eA E v0)), (1, vI v1), (2, vI v2), (3, vI v3)] → mGo l p e 1 24 s m args below meth c E (some (vI out.1)) out.2 H locs (F0 m 55 ls [])) : ∀ (n : Nat) (v3 : Int) (v4 : Int) (σ : mSt) (H : Heap) (locs : List Loc) (ls : Array Slot), mX11_classes_L20 v0 v1 v2 x55 n v3 v4 σ = some out → mM (mA E 276) E 276 σ s H locs → lv_has ls 5 [(0, .ref (eA E v0)), (1, vI v1), (2, vI v2), (3, vI v3), (4, vI v4)] → mGo l p e 1 24 s m args below meth c E (some (vI out.1)) out.2 H locs (F0 m 20 ls []) := by
  intro n
  induction n with
  | zero =>
    intro v3 v4 σ H locs ls hm hM hl
    exact absurd hm (by rw [mX11_classes_L20.eq_1]; exact fun h => nomatch h)
  | succ n ih =>
    intro v3 v4 σ H locs ls hm hM hl
    rw [mX11_classes_L20.eq_2] at hm
    refine r_iload (np := 22) G hl 4 rfl dX11_classes_20 rfl ?_
    refine r_iload_n (np := 23) G hl 2 rfl dX11_classes_22 rfl rfl ?_
    refine r_icmp_ge (np := 26) (tgt := 55) G rfl rfl dX11_classes_23 (by decide) rfl (fun h10 => ?_) (fun h10 => ?_)
    · have hm := b_t h10 hm
      exact hx55 v3 _ _ _ _ hm hM (lv_sub hl [0, 1, 2, 3] rfl)
    · have hm := b_f h10 hm
      refine r_iload_n (np := 27) G hl 3 rfl dX11_classes_26 rfl rfl ?_
      refine r_if_eq (np := 30) (tgt := 55) G rfl dX11_classes_27 (by decide) rfl (fun h11 => ?_) (fun h11 => ?_)
      · have hm := b_t h11 hm
        exact hx55 v3 _ _ _ _ hm hM (lv_sub hl [0, 1, 2, 3] rfl)
      · have hm := b_f h11 hm
        refine r_aload_n (np := 31) G hl 0 rfl dX11_classes_30 rfl rfl ?_
        obtain ⟨r12, e13, hm⟩ := ref_t hm
        refine r_getR (np := 34) G hM (shp_lt g0 (by decide)) g0 e13 fdX11_5 lkX11_37 dX11_classes_31 rfl ?_
        refine r_iload_n (np := 35) G hl 2 rfl dX11_classes_34 rfl rfl ?_
        refine r_iload (np := 37) G hl 4 rfl dX11_classes_35 rfl ?_
        obtain ⟨b14, s15, e16, hm⟩ := call_t hm
        refine m_callVI (np := 40) G hM hl.1 [vI v2, vI v4] (qX7_areAlike l E σ r12 v2 v4 _ e16) myX7_areAlike (shp_lt (gX7_areAlike e16) (by decide)) (gX7_areAlike e16) rfl (by decide) lkX11_148 ⟨Nat.le_of_ble_eq_true rfl, Nat.le_of_ble_eq_true rfl⟩ ⟨Nat.le_of_ble_eq_true rfl, Nat.le_of_ble_eq_true rfl⟩ [] rfl (Nat.le_of_ble_eq_true rfl) dX11_classes_37 rfl (fun H locs hM => ?_)
        refine r_if_ne (np := 43) (tgt := 47) G rfl dX11_classes_40 (by decide) rfl (fun h17 => ?_) (fun h17 => ?_)
        · have hm := b_f h17 hm
          refine r_iconst (np := 48) G 0 dX11_classes_47 rfl ?_
          refine r_istore_n (np := 49) G hl rfl [(3, vI 0), (0, .ref (eA E v0)), (1, vI v1), (2, vI v2), (4, vI v4)] dX11_classes_48 rfl rfl (by decide) rfl (fun ls hl => ?_)
          obtain ⟨a18, e19, hm⟩ := bnd_t hm
          refine r_iinc (np := 52) G hl 4 rfl e19 [(4, vI a18), (3, vI 0), (0, .ref (eA E v0)), (1, vI v1), (2, vI v2)] dX11_classes_49 rfl (by decide) rfl (fun ls hl => ?_)
          refine r_goto (np := 20) G dX11_classes_52 (by decide) ?_
          exact ih 0 a18 _ _ _ _ hm hM (lv_sub hl [2, 3, 4, 1, 0] rfl)
        · have hm := b_t h17 hm
          refine r_iconst (np := 44) G 1 dX11_classes_43 rfl ?_
          refine r_goto (np := 48) G dX11_classes_44 (by decide) ?_
          refine r_istore_n (np := 49) G hl rfl [(3, vI 1), (0, .ref (eA E v0)), (1, vI v1), (2, vI v2), (4, vI v4)] dX11_classes_48 rfl rfl (by decide) rfl (fun ls hl => ?_)
          obtain ⟨a20, e21, hm⟩ := bnd_t hm
          refine r_iinc (np := 52) G hl 4 rfl e21 [(4, vI a20), (3, vI 1), (0, .ref (eA E v0)), (1, vI v1), (2, vI v2)] dX11_classes_49 rfl (by decide) rfl (fun ls hl => ?_)
          refine r_goto (np := 20) G dX11_classes_52 (by decide) ?_
          exact ih 1 a20 _ _ _ _ hm hM (lv_sub hl [2, 3, 4, 1, 0] rfl)
set_option maxRecDepth 100000 in
set_option maxHeartbeats 4000000 in
theorem wX11_classes_L4 (l : Launch) (E : mE) (out : Int × mSt) {p : Program} {e : Env} {s : State} {m : MethodId} {args : Array Value} {below : List Frame} {meth : Method} {c : Code} (G : CallFix p m c cX11_classes 5 s args mTs RX11) (hr : meth.sig.returnType = (some .int)) (hk : meth.locks = false) (v0 : Nat) (g0 : isC v0 10) (x73 : Int → mSt → Option (Int × mSt)) (hx73 : ∀ (v1 : Int) (σ : mSt) (H : Heap) (locs : List Loc) (ls : Array Slot), x73 v1 σ = some out → mM (mA E 276) E 276 σ s H locs → lv_has ls 5 [(1, vI v1)] → mGo l p e 1 24 s m args below meth c E (some (vI out.1)) out.2 H locs (F0 m 73 ls [])) : ∀ (n : Nat) (v1 : Int) (v2 : Int) (σ : mSt) (H : Heap) (locs : List Loc) (ls : Array Slot), mX11_classes_L4 v0 x73 n v1 v2 σ = some out → mM (mA E 276) E 276 σ s H locs → lv_has ls 5 [(0, .ref (eA E v0)), (1, vI v1), (2, vI v2)] → mGo l p e 1 24 s m args below meth c E (some (vI out.1)) out.2 H locs (F0 m 4 ls []) := by
  intro n
  induction n with
  | zero =>
    intro v1 v2 σ H locs ls hm hM hl
    exact absurd hm (by rw [mX11_classes_L4.eq_1]; exact fun h => nomatch h)
  | succ n ih =>
    intro v1 v2 σ H locs ls hm hM hl
    rw [mX11_classes_L4.eq_2] at hm
    refine r_iload_n (np := 5) G hl 2 rfl dX11_classes_4 rfl rfl ?_
    refine r_aload_n (np := 6) G hl 0 rfl dX11_classes_5 rfl rfl ?_
    obtain ⟨r22, e23, hm⟩ := ref_t hm
    refine r_getR (np := 9) G hM (shp_lt g0 (by decide)) g0 e23 fdX11_3 lkX11_27 dX11_classes_6 rfl ?_
    obtain ⟨b24, s25, e26, hm⟩ := call_t hm
    refine m_callVI (np := 12) G hM hl.1 [] (qX0_size l E σ r22 _ e26) myX0_size (shp_lt (gX0_size e26) (by decide)) (gX0_size e26) rfl (by decide) lkX11_91 ⟨Nat.le_of_ble_eq_true rfl, Nat.le_of_ble_eq_true rfl⟩ ⟨Nat.le_of_ble_eq_true rfl, Nat.le_of_ble_eq_true rfl⟩ [vI v2] rfl (Nat.le_of_ble_eq_true rfl) dX11_classes_9 rfl (fun H locs hM => ?_)
    refine r_icmp_ge (np := 15) (tgt := 73) G rfl rfl dX11_classes_12 (by decide) rfl (fun h27 => ?_) (fun h27 => ?_)
    · have hm := b_t h27 hm
      exact hx73 v1 _ _ _ _ hm hM (lv_sub hl [1] rfl)
    · have hm := b_f h27 hm
      refine r_iconst (np := 16) G 1 dX11_classes_15 rfl ?_
      refine r_istore_n (np := 17) G hl rfl [(3, vI 1), (0, .ref (eA E v0)), (1, vI v1), (2, vI v2)] dX11_classes_16 rfl rfl (by decide) rfl (fun ls hl => ?_)
      refine r_iconst (np := 18) G 0 dX11_classes_17 rfl ?_
      refine r_istore (np := 20) G hl rfl [(4, vI 0), (3, vI 1), (0, .ref (eA E v0)), (1, vI v1), (2, vI v2)] dX11_classes_18 rfl (by decide) rfl (fun ls hl => ?_)
      exact wX11_classes_L20 l E out G hr hk v0 v1 v2 g0 (fun z3 zσ => mX11_classes_B55 v0 (mX11_classes_L4 v0 x73 n) x73 v1 v2 z3 zσ) (fun z3 zσ zH zl zs zm zM zv => wX11_classes_B55 l E out G hr hk v0 g0 (mX11_classes_L4 v0 x73 n) x73 ih hx73 v1 v2 z3 zσ zH zl zs zm zM zv) mF 1 0 _ _ _ _ hm hM (lv_sub hl [2, 3, 4, 1, 0] rfl)
set_option maxRecDepth 100000 in
set_option maxHeartbeats 4000000 in
theorem qX11_classes (l : Launch) (E : mE) (σ : mSt) (v0 : Nat) (out : Int × mSt) (hm : mX11_classes v0 σ = some out) : mMet l yX11_classes cX11_classes 5 (some .int) 1 24 E 276 [.ref (eA E v0)] σ (some (vI out.1)) out.2 := by
  unfold mX11_classes at hm
  obtain ⟨g0, hm⟩ := g_t hm
  refine m_entry (by decide +kernel) (Nat.le_of_ble_eq_true rfl) (fun p e s m args below meth c G hr hk hM ls hl => ?_)
  have G : CallFix p m c cX11_classes 5 s args mTs RX11 := G
  have hl : lv_has ls 5 [(0, .ref (eA E v0))] := hl
  refine r_iconst (np := 1) G 0 dX11_classes_0 rfl ?_
  refine r_istore_n (np := 2) G hl rfl [(1, vI 0), (0, .ref (eA E v0))] dX11_classes_1 rfl rfl (by decide) rfl (fun ls hl => ?_)
  refine r_iconst (np := 3) G 0 dX11_classes_2 rfl ?_
  refine r_istore_n (np := 4) G hl rfl [(2, vI 0), (1, vI 0), (0, .ref (eA E v0))] dX11_classes_3 rfl rfl (by decide) rfl (fun ls hl => ?_)
  exact wX11_classes_L4 l E out G hr hk v0 g0 (fun z1 zσ => mX11_classes_B73 v0 z1 zσ) (fun z1 zσ zH zl zs zm zM zv => wX11_classes_B73 l E out G hr hk v0 g0 z1 zσ zH zl zs zm zM zv) mF 0 0 _ _ _ _ hm hM (lv_sub hl [2, 1, 0] rfl)
theorem gX11_classes {v0 : Nat} {σ : mSt} {out : Int × mSt} (hm : mX11_classes v0 σ = some out) : isC v0 10 := (g_t hm).1
set_option maxRecDepth 100000 in
set_option maxHeartbeats 4000000 in
theorem qX11_isSlot (l : Launch) (E : mE) (σ : mSt) (v0 : Nat) (v1 : Int) (out : Int × mSt) (hm : mX11_isSlot v0 v1 σ = some out) : mMet l yX11_isSlot cX11_isSlot 2 (some .boolean) 0 0 E 276 [.ref (eA E v0), vI v1] σ (some (vI out.1)) out.2 := by
  unfold mX11_isSlot at hm
  obtain ⟨g0, hm⟩ := g_t hm
  refine m_entry (by decide +kernel) (Nat.le_of_ble_eq_true rfl) (fun p e s m args below meth c G hr hk hM ls hl => ?_)
  have G : CallFix p m c cX11_isSlot 2 s args mTs RX11 := G
  have hl : lv_has ls 2 [(0, .ref (eA E v0)), (1, vI v1)] := hl
  refine r_iload_n (np := 1) G hl 1 rfl dX11_isSlot_0 rfl rfl ?_
  refine r_if_lt (np := 4) (tgt := 14) G rfl dX11_isSlot_1 (by decide) rfl (fun h1 => ?_) (fun h1 => ?_)
  · have hm := b_t h1 hm
    refine r_iconst (np := 15) G 0 dX11_isSlot_14 rfl ?_
    exact r_zret G hr hk hM (Or.inl rfl) hm dX11_isSlot_15
  · have hm := b_f h1 hm
    refine r_iload_n (np := 5) G hl 1 rfl dX11_isSlot_4 rfl rfl ?_
    refine r_bipush (np := 7) G 8 dX11_isSlot_5 (by decide) rfl ?_
    refine r_icmp_ge (np := 10) (tgt := 14) G rfl (wIk 8 rfl) dX11_isSlot_7 (by decide) rfl (fun h2 => ?_) (fun h2 => ?_)
    · have hm := b_t h2 hm
      refine r_iconst (np := 15) G 0 dX11_isSlot_14 rfl ?_
      exact r_zret G hr hk hM (Or.inl rfl) hm dX11_isSlot_15
    · have hm := b_f h2 hm
      refine r_iconst (np := 11) G 1 dX11_isSlot_10 rfl ?_
      refine r_goto (np := 15) G dX11_isSlot_11 (by decide) ?_
      exact r_zret G hr hk hM (Or.inr rfl) hm dX11_isSlot_15
theorem gX11_isSlot {v0 : Nat} {v1 : Int} {σ : mSt} {out : Int × mSt} (hm : mX11_isSlot v0 v1 σ = some out) : isC v0 10 := (g_t hm).1
set_option maxRecDepth 100000 in
set_option maxHeartbeats 4000000 in
theorem qX11_keep (l : Launch) (E : mE) (σ : mSt) (v0 : Nat) (v1 : Int) (v2 : Int) (v3 : Int) (out : Int × mSt) (hm : mX11_keep v0 v1 v2 v3 σ = some out) : mMet l yX11_keep cX11_keep 5 (some .int) 3 79 E 276 [.ref (eA E v0), vI v1, vI v2, vL v3] σ (some (vI out.1)) out.2 := by
  unfold mX11_keep at hm
  obtain ⟨g0, hm⟩ := g_t hm
  refine m_entry (by decide +kernel) (Nat.le_of_ble_eq_true rfl) (fun p e s m args below meth c G hr hk hM ls hl => ?_)
  have G : CallFix p m c cX11_keep 5 s args mTs RX11 := G
  have hl : lv_has ls 5 [(0, .ref (eA E v0)), (1, vI v1), (2, vI v2), (3, vL v3)] := hl
  refine r_aload_n (np := 1) G hl 0 rfl dX11_keep_0 rfl rfl ?_
  obtain ⟨r1, e2, hm⟩ := ref_t hm
  refine r_getR (np := 4) G hM (shp_lt g0 (by decide)) g0 e2 fdX11_6 lkX11_43 dX11_keep_1 rfl ?_
  refine r_iload_n (np := 5) G hl 1 rfl dX11_keep_4 rfl rfl ?_
  obtain ⟨g3, hm⟩ := g_t hm
  obtain ⟨r4, e5, hm⟩ := ref_t hm
  refine r_aaload (np := 6) G hM (t := 3) g3 rfl ⟨by decide, by decide⟩ rfl rfl e5 dX11_keep_5 rfl ?_
  refine r_iload_n (np := 7) G hl 2 rfl dX11_keep_6 rfl rfl ?_
  refine r_aload_n (np := 8) G hl 0 rfl dX11_keep_7 rfl rfl ?_
  obtain ⟨r6, e7, hm⟩ := ref_t hm
  refine r_getR (np := 11) G hM (shp_lt g0 (by decide)) g0 e7 fdX11_11 lkX11_74 dX11_keep_8 rfl ?_
  refine r_lload_n (np := 12) G hl 3 rfl dX11_keep_11 rfl rfl ?_
  obtain ⟨b8, s9, e10, hm⟩ := call_t hm
  refine m_callVI (np := 15) G hM hl.1 [vI v2, .ref (eA E r6), vL v3] (qX1_take l E σ r4 v2 r6 v3 _ e10) myX1_take (shp_lt (gX1_take e10) (by decide)) (gX1_take e10) rfl (by decide) lkX11_203 ⟨Nat.le_of_ble_eq_true rfl, Nat.le_of_ble_eq_true rfl⟩ ⟨Nat.le_of_ble_eq_true rfl, Nat.le_of_ble_eq_true rfl⟩ [] rfl (Nat.le_of_ble_eq_true rfl) dX11_keep_12 rfl (fun H locs hM => ?_)
  refine r_if_eq (np := 18) (tgt := 22) G rfl dX11_keep_15 (by decide) rfl (fun h11 => ?_) (fun h11 => ?_)
  · have hm := b_t h11 hm
    refine r_bipush (np := 24) G (-3) dX11_keep_22 (by decide) rfl ?_
    exact r_iret G hr hk hM hm dX11_keep_24
  · have hm := b_f h11 hm
    refine r_iconst (np := 19) G 0 dX11_keep_18 rfl ?_
    refine r_goto (np := 24) G dX11_keep_19 (by decide) ?_
    exact r_iret G hr hk hM hm dX11_keep_24
theorem gX11_keep {v0 : Nat} {v1 : Int} {v2 : Int} {v3 : Int} {σ : mSt} {out : Int × mSt} (hm : mX11_keep v0 v1 v2 v3 σ = some out) : isC v0 10 := (g_t hm).1
set_option maxRecDepth 100000 in
set_option maxHeartbeats 4000000 in
theorem qX11_tell (l : Launch) (E : mE) (σ : mSt) (v0 : Nat) (v1 : Int) (v2 : Int) (v3 : Int) (v4 : Int) (v5 : Int) (v6 : Int) (out : Int × mSt) (hm : mX11_tell v0 v1 v2 v3 v4 v5 v6 σ = some out) : mMet l yX11_tell cX11_tell 7 (some .boolean) 4 103 E 276 [.ref (eA E v0), vI v1, vI v2, vI v3, vI v4, vI v5, vI v6] σ (some (vI out.1)) out.2 := by
  unfold mX11_tell at hm
  obtain ⟨g0, hm⟩ := g_t hm
  refine m_entry (by decide +kernel) (Nat.le_of_ble_eq_true rfl) (fun p e s m args below meth c G hr hk hM ls hl => ?_)
  have G : CallFix p m c cX11_tell 7 s args mTs RX11 := G
  have hl : lv_has ls 7 [(0, .ref (eA E v0)), (1, vI v1), (2, vI v2), (3, vI v3), (4, vI v4), (5, vI v5), (6, vI v6)] := hl
  refine r_aload_n (np := 1) G hl 0 rfl dX11_tell_0 rfl rfl ?_
  refine r_iload_n (np := 2) G hl 1 rfl dX11_tell_1 rfl rfl ?_
  obtain ⟨b1, s2, e3, hm⟩ := call_t hm
  refine m_callVI (np := 5) G hM hl.1 [vI v1] (qX11_isSlot l E σ v0 v1 _ e3) myX11_isSlot (shp_lt (gX11_isSlot e3) (by decide)) (gX11_isSlot e3) rfl (by decide) lkX11_152 ⟨Nat.le_of_ble_eq_true rfl, Nat.le_of_ble_eq_true rfl⟩ ⟨Nat.le_of_ble_eq_true rfl, Nat.le_of_ble_eq_true rfl⟩ [] rfl (Nat.le_of_ble_eq_true rfl) dX11_tell_2 rfl (fun H locs hM => ?_)
  refine r_if_eq (np := 8) (tgt := 16) G rfl dX11_tell_5 (by decide) rfl (fun h4 => ?_) (fun h4 => ?_)
  · have hm := b_t h4 hm
    refine r_iconst (np := 17) G 0 dX11_tell_16 rfl ?_
    exact r_zret G hr hk hM (Or.inl rfl) hm dX11_tell_17
  · have hm := b_f h4 hm
    refine r_aload_n (np := 9) G hl 0 rfl dX11_tell_8 rfl rfl ?_
    refine r_iload_n (np := 10) G hl 2 rfl dX11_tell_9 rfl rfl ?_
    obtain ⟨b5, s6, e7, hm⟩ := call_t hm
    refine m_callVI (np := 13) G hM hl.1 [vI v2] (qX11_isQuaternion l E s2 v0 v2 _ e7) myX11_isQuaternion (shp_lt (gX11_isQuaternion e7) (by decide)) (gX11_isQuaternion e7) rfl (by decide) lkX11_102 ⟨Nat.le_of_ble_eq_true rfl, Nat.le_of_ble_eq_true rfl⟩ ⟨Nat.le_of_ble_eq_true rfl, Nat.le_of_ble_eq_true rfl⟩ [] rfl (Nat.le_of_ble_eq_true rfl) dX11_tell_10 rfl (fun H locs hM => ?_)
    refine r_if_ne (np := 16) (tgt := 18) G rfl dX11_tell_13 (by decide) rfl (fun h8 => ?_) (fun h8 => ?_)
    · have hm := b_f h8 hm
      refine r_aload_n (np := 19) G hl 0 rfl dX11_tell_18 rfl rfl ?_
      obtain ⟨r9, e10, hm⟩ := ref_t hm
      refine r_getR (np := 22) G hM (shp_lt g0 (by decide)) g0 e10 fdX11_11 lkX11_74 dX11_tell_19 rfl ?_
      refine r_iconst (np := 23) G 0 dX11_tell_22 rfl ?_
      refine r_iload_n (np := 24) G hl 3 rfl dX11_tell_23 rfl rfl ?_
      refine r_i2l (np := 25) G rfl dX11_tell_24 rfl ?_
      obtain ⟨g11, hm⟩ := g_t hm
      obtain ⟨s12, e13, hm⟩ := bnd_t hm
      refine r_lastore (np := 26) G hM g11 rfl s12 e13 dX11_tell_25 rfl (fun H locs hM => ?_)
      refine r_aload_n (np := 27) G hl 0 rfl dX11_tell_26 rfl rfl ?_
      obtain ⟨r14, e15, hm⟩ := ref_t hm
      refine r_getR (np := 30) G hM (shp_lt g0 (by decide)) g0 e15 fdX11_11 lkX11_74 dX11_tell_27 rfl ?_
      refine r_iconst (np := 31) G 1 dX11_tell_30 rfl ?_
      refine r_iload (np := 33) G hl 4 rfl dX11_tell_31 rfl ?_
      refine r_i2l (np := 34) G rfl dX11_tell_33 rfl ?_
      obtain ⟨g16, hm⟩ := g_t hm
      obtain ⟨s17, e18, hm⟩ := bnd_t hm
      refine r_lastore (np := 35) G hM g16 rfl s17 e18 dX11_tell_34 rfl (fun H locs hM => ?_)
      refine r_aload_n (np := 36) G hl 0 rfl dX11_tell_35 rfl rfl ?_
      obtain ⟨r19, e20, hm⟩ := ref_t hm
      refine r_getR (np := 39) G hM (shp_lt g0 (by decide)) g0 e20 fdX11_11 lkX11_74 dX11_tell_36 rfl ?_
      refine r_iconst (np := 40) G 2 dX11_tell_39 rfl ?_
      refine r_iload (np := 42) G hl 5 rfl dX11_tell_40 rfl ?_
      refine r_i2l (np := 43) G rfl dX11_tell_42 rfl ?_
      obtain ⟨g21, hm⟩ := g_t hm
      obtain ⟨s22, e23, hm⟩ := bnd_t hm
      refine r_lastore (np := 44) G hM g21 rfl s22 e23 dX11_tell_43 rfl (fun H locs hM => ?_)
      refine r_aload_n (np := 45) G hl 0 rfl dX11_tell_44 rfl rfl ?_
      obtain ⟨r24, e25, hm⟩ := ref_t hm
      refine r_getR (np := 48) G hM (shp_lt g0 (by decide)) g0 e25 fdX11_11 lkX11_74 dX11_tell_45 rfl ?_
      refine r_iconst (np := 49) G 3 dX11_tell_48 rfl ?_
      refine r_iload (np := 51) G hl 6 rfl dX11_tell_49 rfl ?_
      refine r_i2l (np := 52) G rfl dX11_tell_51 rfl ?_
      obtain ⟨g26, hm⟩ := g_t hm
      obtain ⟨s27, e28, hm⟩ := bnd_t hm
      refine r_lastore (np := 53) G hM g26 rfl s27 e28 dX11_tell_52 rfl (fun H locs hM => ?_)
      refine r_aload_n (np := 54) G hl 0 rfl dX11_tell_53 rfl rfl ?_
      refine r_iload_n (np := 55) G hl 1 rfl dX11_tell_54 rfl rfl ?_
      refine r_iload_n (np := 56) G hl 2 rfl dX11_tell_55 rfl rfl ?_
      refine r_lconst (np := 57) G 1 dX11_tell_56 rfl rfl ?_
      obtain ⟨b29, s30, e31, hm⟩ := call_t hm
      refine m_callVI (np := 60) G hM hl.1 [vI v1, vI v2, vL 1] (qX11_keep l E s27 v0 v1 v2 1 _ e31) myX11_keep (shp_lt (gX11_keep e31) (by decide)) (gX11_keep e31) rfl (by decide) lkX11_155 ⟨Nat.le_of_ble_eq_true rfl, Nat.le_of_ble_eq_true rfl⟩ ⟨Nat.le_of_ble_eq_true rfl, Nat.le_of_ble_eq_true rfl⟩ [] rfl (Nat.le_of_ble_eq_true rfl) dX11_tell_57 rfl (fun H locs hM => ?_)
      refine r_if_ne (np := 63) (tgt := 67) G rfl dX11_tell_60 (by decide) rfl (fun h32 => ?_) (fun h32 => ?_)
      · have hm := b_f h32 hm
        refine r_iconst (np := 68) G 0 dX11_tell_67 rfl ?_
        exact r_zret G hr hk hM (Or.inl rfl) hm dX11_tell_68
      · have hm := b_t h32 hm
        refine r_iconst (np := 64) G 1 dX11_tell_63 rfl ?_
        refine r_goto (np := 68) G dX11_tell_64 (by decide) ?_
        exact r_zret G hr hk hM (Or.inr rfl) hm dX11_tell_68
    · have hm := b_t h8 hm
      refine r_iconst (np := 17) G 0 dX11_tell_16 rfl ?_
      exact r_zret G hr hk hM (Or.inl rfl) hm dX11_tell_17
theorem gX11_tell {v0 : Nat} {v1 : Int} {v2 : Int} {v3 : Int} {v4 : Int} {v5 : Int} {v6 : Int} {σ : mSt} {out : Int × mSt} (hm : mX11_tell v0 v1 v2 v3 v4 v5 v6 σ = some out) : isC v0 10 := (g_t hm).1
set_option maxRecDepth 100000 in
set_option maxHeartbeats 4000000 in
theorem wX11_isKept_B24 (l : Launch) (E : mE) (out : Int × mSt) {p : Program} {e : Env} {s : State} {m : MethodId} {args : Array Value} {below : List Frame} {meth : Method} {c : Code} (G : CallFix p m c cX11_isKept 2 s args mTs RX11) (hr : meth.sig.returnType = (some .boolean)) (hk : meth.locks = false) (v0 : Nat) (v1 : Int) (g0 : isC v0 10) : ∀ (σ : mSt) (H : Heap) (locs : List Loc) (ls : Array Slot), mX11_isKept_B24 v0 v1 σ = some out → mM (mA E 276) E 276 σ s H locs → lv_has ls 2 [] → mGo l p e 1 21 s m args below meth c E (some (vI out.1)) out.2 H locs (F0 m 24 ls []) := by
  intro σ H locs ls hm hM hl
  unfold mX11_isKept_B24 at hm
  refine r_iconst (np := 25) G 0 dX11_isKept_24 rfl ?_
  exact r_zret G hr hk hM (Or.inl rfl) hm dX11_isKept_25
set_option maxRecDepth 100000 in
set_option maxHeartbeats 4000000 in
theorem qX11_isKept (l : Launch) (E : mE) (σ : mSt) (v0 : Nat) (v1 : Int) (out : Int × mSt) (hm : mX11_isKept v0 v1 σ = some out) : mMet l yX11_isKept cX11_isKept 2 (some .boolean) 1 21 E 276 [.ref (eA E v0), vI v1] σ (some (vI out.1)) out.2 := by
  unfold mX11_isKept at hm
  obtain ⟨g0, hm⟩ := g_t hm
  refine m_entry (by decide +kernel) (Nat.le_of_ble_eq_true rfl) (fun p e s m args below meth c G hr hk hM ls hl => ?_)
  have G : CallFix p m c cX11_isKept 2 s args mTs RX11 := G
  have hl : lv_has ls 2 [(0, .ref (eA E v0)), (1, vI v1)] := hl
  refine r_aload_n (np := 1) G hl 0 rfl dX11_isKept_0 rfl rfl ?_
  refine r_iload_n (np := 2) G hl 1 rfl dX11_isKept_1 rfl rfl ?_
  obtain ⟨b1, s2, e3, hm⟩ := call_t hm
  refine m_callVI (np := 5) G hM hl.1 [vI v1] (qX11_isSlot l E σ v0 v1 _ e3) myX11_isSlot (shp_lt (gX11_isSlot e3) (by decide)) (gX11_isSlot e3) rfl (by decide) lkX11_152 ⟨Nat.le_of_ble_eq_true rfl, Nat.le_of_ble_eq_true rfl⟩ ⟨Nat.le_of_ble_eq_true rfl, Nat.le_of_ble_eq_true rfl⟩ [] rfl (Nat.le_of_ble_eq_true rfl) dX11_isKept_2 rfl (fun H locs hM => ?_)
  refine r_if_eq (np := 8) (tgt := 24) G rfl dX11_isKept_5 (by decide) rfl (fun h4 => ?_) (fun h4 => ?_)
  · have hm := b_t h4 hm
    exact wX11_isKept_B24 l E out G hr hk v0 v1 g0 _ _ _ _ hm hM (lv_sub hl [] rfl)
  · have hm := b_f h4 hm
    refine r_aload_n (np := 9) G hl 0 rfl dX11_isKept_8 rfl rfl ?_
    obtain ⟨r5, e6, hm⟩ := ref_t hm
    refine r_getR (np := 12) G hM (shp_lt g0 (by decide)) g0 e6 fdX11_6 lkX11_43 dX11_isKept_9 rfl ?_
    refine r_iload_n (np := 13) G hl 1 rfl dX11_isKept_12 rfl rfl ?_
    obtain ⟨g7, hm⟩ := g_t hm
    obtain ⟨r8, e9, hm⟩ := ref_t hm
    refine r_aaload (np := 14) G hM (t := 3) g7 rfl ⟨by decide, by decide⟩ rfl rfl e9 dX11_isKept_13 rfl ?_
    obtain ⟨b10, s11, e12, hm⟩ := call_t hm
    refine m_callVI (np := 17) G hM hl.1 [] (qX1_isThere l E s2 r8 _ e12) myX1_isThere (shp_lt (gX1_isThere e12) (by decide)) (gX1_isThere e12) rfl (by decide) lkX11_199 ⟨Nat.le_of_ble_eq_true rfl, Nat.le_of_ble_eq_true rfl⟩ ⟨Nat.le_of_ble_eq_true rfl, Nat.le_of_ble_eq_true rfl⟩ [] rfl (Nat.le_of_ble_eq_true rfl) dX11_isKept_14 rfl (fun H locs hM => ?_)
    refine r_if_eq (np := 20) (tgt := 24) G rfl dX11_isKept_17 (by decide) rfl (fun h13 => ?_) (fun h13 => ?_)
    · have hm := b_t h13 hm
      exact wX11_isKept_B24 l E out G hr hk v0 v1 g0 _ _ _ _ hm hM (lv_sub hl [] rfl)
    · have hm := b_f h13 hm
      refine r_iconst (np := 21) G 1 dX11_isKept_20 rfl ?_
      refine r_goto (np := 25) G dX11_isKept_21 (by decide) ?_
      exact r_zret G hr hk hM (Or.inr rfl) hm dX11_isKept_25
theorem gX11_isKept {v0 : Nat} {v1 : Int} {σ : mSt} {out : Int × mSt} (hm : mX11_isKept v0 v1 σ = some out) : isC v0 10 := (g_t hm).1
set_option maxRecDepth 100000 in
set_option maxHeartbeats 4000000 in
theorem wX11_over_B58 (l : Launch) (E : mE) (out : Int × mSt) {p : Program} {e : Env} {s : State} {m : MethodId} {args : Array Value} {below : List Frame} {meth : Method} {c : Code} (G : CallFix p m c cX11_over 5 s args mTs RX11) (hr : meth.sig.returnType = (some .int)) (hk : meth.locks = false) (v0 : Nat) (v1 : Int) (v2 : Int) (g0 : isC v0 10) : ∀ (v3 : Nat) (σ : mSt) (H : Heap) (locs : List Loc) (ls : Array Slot), mX11_over_B58 v0 v1 v2 v3 σ = some out → mM (mA E 276) E 276 σ s H locs → lv_has ls 5 [(0, .ref (eA E v0)), (1, vI v1), (2, vI v2), (3, .ref (eA E v3))] → mGo l p e 4 103 s m args below meth c E (some (vI out.1)) out.2 H locs (F0 m 58 ls []) := by
  intro v3 σ H locs ls hm hM hl
  unfold mX11_over_B58 at hm
  refine r_aload_n (np := 59) G hl 0 rfl dX11_over_58 rfl rfl ?_
  refine r_iload_n (np := 60) G hl 1 rfl dX11_over_59 rfl rfl ?_
  refine r_aload_n (np := 61) G hl 3 rfl dX11_over_60 rfl rfl ?_
  obtain ⟨g1, hm⟩ := g_t hm
  refine r_getIN (np := 64) G hM (shp_lt g1 (by decide)) g1 fdX1_2 lkX11_165 dX11_over_61 rfl ?_
  refine r_aload_n (np := 65) G hl 3 rfl dX11_over_64 rfl rfl ?_
  refine r_getLN (np := 68) G hM (shp_lt g1 (by decide)) g1 fdX1_1 lkX11_168 dX11_over_65 rfl ?_
  refine r_iload_n (np := 69) G hl 2 rfl dX11_over_68 rfl rfl ?_
  refine r_i2l (np := 70) G rfl dX11_over_69 rfl ?_
  refine r_lmul (np := 71) G dX11_over_70 rfl ?_
  obtain ⟨b2, s3, e4, hm⟩ := call_t hm
  refine m_callVI (np := 74) G hM hl.1 [vI v1, vI (σ v3 2), vL ((σ v3 1) * (wI v2))] (qX11_keep l E σ v0 v1 (σ v3 2) ((σ v3 1) * (wI v2)) _ e4) myX11_keep (shp_lt (gX11_keep e4) (by decide)) (gX11_keep e4) rfl (by decide) lkX11_155 ⟨Nat.le_of_ble_eq_true rfl, Nat.le_of_ble_eq_true rfl⟩ ⟨Nat.le_of_ble_eq_true rfl, Nat.le_of_ble_eq_true rfl⟩ [] rfl (Nat.le_of_ble_eq_true rfl) dX11_over_71 rfl (fun H locs hM => ?_)
  exact r_iret G hr hk hM hm dX11_over_74
set_option maxRecDepth 100000 in
set_option maxHeartbeats 4000000 in
theorem wX11_over_L32 (l : Launch) (E : mE) (out : Int × mSt) {p : Program} {e : Env} {s : State} {m : MethodId} {args : Array Value} {below : List Frame} {meth : Method} {c : Code} (G : CallFix p m c cX11_over 5 s args mTs RX11) (hr : meth.sig.returnType = (some .int)) (hk : meth.locks = false) (v0 : Nat) (v1 : Int) (v2 : Int) (v3 : Nat) (g0 : isC v0 10) (x58 : mSt → Option (Int × mSt)) (hx58 : ∀ (σ : mSt) (H : Heap) (locs : List Loc) (ls : Array Slot), x58 σ = some out → mM (mA E 276) E 276 σ s H locs → lv_has ls 5 [(0, .ref (eA E v0)), (1, vI v1), (2, vI v2), (3, .ref (eA E v3))] → mGo l p e 4 103 s m args below meth c E (some (vI out.1)) out.2 H locs (F0 m 58 ls [])) : ∀ (n : Nat) (v4 : Int) (σ : mSt) (H : Heap) (locs : List Loc) (ls : Array Slot), mX11_over_L32 v0 v1 v2 v3 x58 n v4 σ = some out → mM (mA E 276) E 276 σ s H locs → lv_has ls 5 [(0, .ref (eA E v0)), (1, vI v1), (2, vI v2), (3, .ref (eA E v3)), (4, vI v4)] → mGo l p e 4 103 s m args below meth c E (some (vI out.1)) out.2 H locs (F0 m 32 ls []) := by
  intro n
  induction n with
  | zero =>
    intro v4 σ H locs ls hm hM hl
    exact absurd hm (by rw [mX11_over_L32.eq_1]; exact fun h => nomatch h)
  | succ n ih =>
    intro v4 σ H locs ls hm hM hl
    rw [mX11_over_L32.eq_2] at hm
    refine r_iload (np := 34) G hl 4 rfl dX11_over_32 rfl ?_
    refine r_iconst (np := 35) G 4 dX11_over_34 rfl ?_
    refine r_icmp_ge (np := 38) (tgt := 58) G rfl (wIk 4 rfl) dX11_over_35 (by decide) rfl (fun h5 => ?_) (fun h5 => ?_)
    · have hm := b_t h5 hm
      exact hx58 _ _ _ _ hm hM (lv_sub hl [0, 1, 2, 3] rfl)
    · have hm := b_f h5 hm
      refine r_aload_n (np := 39) G hl 0 rfl dX11_over_38 rfl rfl ?_
      obtain ⟨r6, e7, hm⟩ := ref_t hm
      refine r_getR (np := 42) G hM (shp_lt g0 (by decide)) g0 e7 fdX11_11 lkX11_74 dX11_over_39 rfl ?_
      refine r_iload (np := 44) G hl 4 rfl dX11_over_42 rfl ?_
      refine r_aload_n (np := 45) G hl 3 rfl dX11_over_44 rfl rfl ?_
      obtain ⟨g8, hm⟩ := g_t hm
      obtain ⟨r9, e10, hm⟩ := ref_t hm
      refine r_getRN (np := 48) G hM (shp_lt g8 (by decide)) g8 e10 fdX1_0 lkX11_162 dX11_over_45 rfl ?_
      refine r_iload (np := 50) G hl 4 rfl dX11_over_48 rfl ?_
      obtain ⟨g11, hm⟩ := g_t hm
      refine r_laload (np := 51) G hM g11 rfl dX11_over_50 rfl ?_
      obtain ⟨g12, hm⟩ := g_t hm
      obtain ⟨s13, e14, hm⟩ := bnd_t hm
      refine r_lastore (np := 52) G hM g12 rfl s13 e14 dX11_over_51 rfl (fun H locs hM => ?_)
      obtain ⟨a15, e16, hm⟩ := bnd_t hm
      refine r_iinc (np := 55) G hl 4 rfl e16 [(4, vI a15), (0, .ref (eA E v0)), (1, vI v1), (2, vI v2), (3, .ref (eA E v3))] dX11_over_52 rfl (by decide) rfl (fun ls hl => ?_)
      refine r_goto (np := 32) G dX11_over_55 (by decide) ?_
      exact ih a15 _ _ _ _ hm hM (lv_sub hl [1, 2, 3, 4, 0] rfl)
set_option maxRecDepth 100000 in
set_option maxHeartbeats 4000000 in
theorem qX11_over (l : Launch) (E : mE) (σ : mSt) (v0 : Nat) (v1 : Int) (v2 : Int) (out : Int × mSt) (hm : mX11_over v0 v1 v2 σ = some out) : mMet l yX11_over cX11_over 5 (some .int) 4 103 E 276 [.ref (eA E v0), vI v1, vI v2] σ (some (vI out.1)) out.2 := by
  unfold mX11_over at hm
  obtain ⟨g0, hm⟩ := g_t hm
  refine m_entry (by decide +kernel) (Nat.le_of_ble_eq_true rfl) (fun p e s m args below meth c G hr hk hM ls hl => ?_)
  have G : CallFix p m c cX11_over 5 s args mTs RX11 := G
  have hl : lv_has ls 5 [(0, .ref (eA E v0)), (1, vI v1), (2, vI v2)] := hl
  refine r_aload_n (np := 1) G hl 0 rfl dX11_over_0 rfl rfl ?_
  refine r_iload_n (np := 2) G hl 1 rfl dX11_over_1 rfl rfl ?_
  obtain ⟨b17, s18, e19, hm⟩ := call_t hm
  refine m_callVI (np := 5) G hM hl.1 [vI v1] (qX11_isKept l E σ v0 v1 _ e19) myX11_isKept (shp_lt (gX11_isKept e19) (by decide)) (gX11_isKept e19) rfl (by decide) lkX11_159 ⟨Nat.le_of_ble_eq_true rfl, Nat.le_of_ble_eq_true rfl⟩ ⟨Nat.le_of_ble_eq_true rfl, Nat.le_of_ble_eq_true rfl⟩ [] rfl (Nat.le_of_ble_eq_true rfl) dX11_over_2 rfl (fun H locs hM => ?_)
  refine r_if_eq (np := 8) (tgt := 20) G rfl dX11_over_5 (by decide) rfl (fun h20 => ?_) (fun h20 => ?_)
  · have hm := b_t h20 hm
    refine r_iconst (np := 21) G (-1) dX11_over_20 rfl ?_
    exact r_iret G hr hk hM hm dX11_over_21
  · have hm := b_f h20 hm
    refine r_iload_n (np := 9) G hl 2 rfl dX11_over_8 rfl rfl ?_
    refine r_iconst (np := 10) G 1 dX11_over_9 rfl ?_
    refine r_icmp_lt (np := 13) (tgt := 20) G rfl (wIk 1 rfl) dX11_over_10 (by decide) rfl (fun h21 => ?_) (fun h21 => ?_)
    · have hm := b_t h21 hm
      refine r_iconst (np := 21) G (-1) dX11_over_20 rfl ?_
      exact r_iret G hr hk hM hm dX11_over_21
    · have hm := b_f h21 hm
      refine r_iload_n (np := 14) G hl 2 rfl dX11_over_13 rfl rfl ?_
      refine r_sipush (np := 17) G 1000 dX11_over_14 (by decide) rfl ?_
      refine r_icmp_le (np := 20) (tgt := 22) G rfl (wIk 1000 rfl) dX11_over_17 (by decide) rfl (fun h22 => ?_) (fun h22 => ?_)
      · have hm := b_t h22 hm
        refine r_aload_n (np := 23) G hl 0 rfl dX11_over_22 rfl rfl ?_
        obtain ⟨r23, e24, hm⟩ := ref_t hm
        refine r_getR (np := 26) G hM (shp_lt g0 (by decide)) g0 e24 fdX11_6 lkX11_43 dX11_over_23 rfl ?_
        refine r_iload_n (np := 27) G hl 1 rfl dX11_over_26 rfl rfl ?_
        obtain ⟨g25, hm⟩ := g_t hm
        obtain ⟨r26, e27, hm⟩ := ref_t hm
        refine r_aaload (np := 28) G hM (t := 3) g25 rfl ⟨by decide, by decide⟩ rfl rfl e27 dX11_over_27 rfl ?_
        refine r_astore_n (np := 29) G hl rfl [(3, .ref (eA E r26)), (0, .ref (eA E v0)), (1, vI v1), (2, vI v2)] dX11_over_28 rfl rfl (by decide) rfl (fun ls hl => ?_)
        refine r_iconst (np := 30) G 0 dX11_over_29 rfl ?_
        refine r_istore (np := 32) G hl rfl [(4, vI 0), (3, .ref (eA E r26)), (0, .ref (eA E v0)), (1, vI v1), (2, vI v2)] dX11_over_30 rfl (by decide) rfl (fun ls hl => ?_)
        exact wX11_over_L32 l E out G hr hk v0 v1 v2 r26 g0 (fun zσ => mX11_over_B58 v0 v1 v2 r26 zσ) (fun zσ zH zl zs zm zM zv => wX11_over_B58 l E out G hr hk v0 v1 v2 g0 r26 zσ zH zl zs zm zM zv) mF 0 _ _ _ _ hm hM (lv_sub hl [2, 3, 4, 1, 0] rfl)
      · have hm := b_f h22 hm
        refine r_iconst (np := 21) G (-1) dX11_over_20 rfl ?_
        exact r_iret G hr hk hM hm dX11_over_21
theorem gX11_over {v0 : Nat} {v1 : Int} {v2 : Int} {σ : mSt} {out : Int × mSt} (hm : mX11_over v0 v1 v2 σ = some out) : isC v0 10 := (g_t hm).1
set_option maxRecDepth 100000 in
set_option maxHeartbeats 4000000 in
theorem wX11_isPair_B41 (l : Launch) (E : mE) (out : Int × mSt) {p : Program} {e : Env} {s : State} {m : MethodId} {args : Array Value} {below : List Frame} {meth : Method} {c : Code} (G : CallFix p m c cX11_isPair 3 s args mTs RX11) (hr : meth.sig.returnType = (some .boolean)) (hk : meth.locks = false) (v0 : Nat) (v1 : Int) (v2 : Int) (g0 : isC v0 10) : ∀ (σ : mSt) (H : Heap) (locs : List Loc) (ls : Array Slot), mX11_isPair_B41 v0 v1 v2 σ = some out → mM (mA E 276) E 276 σ s H locs → lv_has ls 3 [] → mGo l p e 2 42 s m args below meth c E (some (vI out.1)) out.2 H locs (F0 m 41 ls []) := by
  intro σ H locs ls hm hM hl
  unfold mX11_isPair_B41 at hm
  refine r_iconst (np := 42) G 0 dX11_isPair_41 rfl ?_
  exact r_zret G hr hk hM (Or.inl rfl) hm dX11_isPair_42
set_option maxRecDepth 100000 in
set_option maxHeartbeats 4000000 in
theorem qX11_isPair (l : Launch) (E : mE) (σ : mSt) (v0 : Nat) (v1 : Int) (v2 : Int) (out : Int × mSt) (hm : mX11_isPair v0 v1 v2 σ = some out) : mMet l yX11_isPair cX11_isPair 3 (some .boolean) 2 42 E 276 [.ref (eA E v0), vI v1, vI v2] σ (some (vI out.1)) out.2 := by
  unfold mX11_isPair at hm
  obtain ⟨g0, hm⟩ := g_t hm
  refine m_entry (by decide +kernel) (Nat.le_of_ble_eq_true rfl) (fun p e s m args below meth c G hr hk hM ls hl => ?_)
  have G : CallFix p m c cX11_isPair 3 s args mTs RX11 := G
  have hl : lv_has ls 3 [(0, .ref (eA E v0)), (1, vI v1), (2, vI v2)] := hl
  refine r_aload_n (np := 1) G hl 0 rfl dX11_isPair_0 rfl rfl ?_
  refine r_iload_n (np := 2) G hl 1 rfl dX11_isPair_1 rfl rfl ?_
  obtain ⟨b1, s2, e3, hm⟩ := call_t hm
  refine m_callVI (np := 5) G hM hl.1 [vI v1] (qX11_isKept l E σ v0 v1 _ e3) myX11_isKept (shp_lt (gX11_isKept e3) (by decide)) (gX11_isKept e3) rfl (by decide) lkX11_159 ⟨Nat.le_of_ble_eq_true rfl, Nat.le_of_ble_eq_true rfl⟩ ⟨Nat.le_of_ble_eq_true rfl, Nat.le_of_ble_eq_true rfl⟩ [] rfl (Nat.le_of_ble_eq_true rfl) dX11_isPair_2 rfl (fun H locs hM => ?_)
  refine r_if_eq (np := 8) (tgt := 41) G rfl dX11_isPair_5 (by decide) rfl (fun h4 => ?_) (fun h4 => ?_)
  · have hm := b_t h4 hm
    exact wX11_isPair_B41 l E out G hr hk v0 v1 v2 g0 _ _ _ _ hm hM (lv_sub hl [] rfl)
  · have hm := b_f h4 hm
    refine r_aload_n (np := 9) G hl 0 rfl dX11_isPair_8 rfl rfl ?_
    refine r_iload_n (np := 10) G hl 2 rfl dX11_isPair_9 rfl rfl ?_
    obtain ⟨b5, s6, e7, hm⟩ := call_t hm
    refine m_callVI (np := 13) G hM hl.1 [vI v2] (qX11_isKept l E s2 v0 v2 _ e7) myX11_isKept (shp_lt (gX11_isKept e7) (by decide)) (gX11_isKept e7) rfl (by decide) lkX11_159 ⟨Nat.le_of_ble_eq_true rfl, Nat.le_of_ble_eq_true rfl⟩ ⟨Nat.le_of_ble_eq_true rfl, Nat.le_of_ble_eq_true rfl⟩ [] rfl (Nat.le_of_ble_eq_true rfl) dX11_isPair_10 rfl (fun H locs hM => ?_)
    refine r_if_eq (np := 16) (tgt := 41) G rfl dX11_isPair_13 (by decide) rfl (fun h8 => ?_) (fun h8 => ?_)
    · have hm := b_t h8 hm
      exact wX11_isPair_B41 l E out G hr hk v0 v1 v2 g0 _ _ _ _ hm hM (lv_sub hl [] rfl)
    · have hm := b_f h8 hm
      refine r_aload_n (np := 17) G hl 0 rfl dX11_isPair_16 rfl rfl ?_
      obtain ⟨r9, e10, hm⟩ := ref_t hm
      refine r_getR (np := 20) G hM (shp_lt g0 (by decide)) g0 e10 fdX11_6 lkX11_43 dX11_isPair_17 rfl ?_
      refine r_iload_n (np := 21) G hl 1 rfl dX11_isPair_20 rfl rfl ?_
      obtain ⟨g11, hm⟩ := g_t hm
      obtain ⟨r12, e13, hm⟩ := ref_t hm
      refine r_aaload (np := 22) G hM (t := 3) g11 rfl ⟨by decide, by decide⟩ rfl rfl e13 dX11_isPair_21 rfl ?_
      obtain ⟨g14, hm⟩ := g_t hm
      refine r_getIN (np := 25) G hM (shp_lt g14 (by decide)) g14 fdX1_2 lkX11_165 dX11_isPair_22 rfl ?_
      refine r_aload_n (np := 26) G hl 0 rfl dX11_isPair_25 rfl rfl ?_
      obtain ⟨r15, e16, hm⟩ := ref_t hm
      refine r_getR (np := 29) G hM (shp_lt g0 (by decide)) g0 e16 fdX11_6 lkX11_43 dX11_isPair_26 rfl ?_
      refine r_iload_n (np := 30) G hl 2 rfl dX11_isPair_29 rfl rfl ?_
      obtain ⟨g17, hm⟩ := g_t hm
      obtain ⟨r18, e19, hm⟩ := ref_t hm
      refine r_aaload (np := 31) G hM (t := 3) g17 rfl ⟨by decide, by decide⟩ rfl rfl e19 dX11_isPair_30 rfl ?_
      obtain ⟨g20, hm⟩ := g_t hm
      refine r_getIN (np := 34) G hM (shp_lt g20 (by decide)) g20 fdX1_2 lkX11_165 dX11_isPair_31 rfl ?_
      refine r_icmp_ne (np := 37) (tgt := 41) G rfl rfl dX11_isPair_34 (by decide) rfl (fun h21 => ?_) (fun h21 => ?_)
      · have hm := b_f h21 hm
        exact wX11_isPair_B41 l E out G hr hk v0 v1 v2 g0 _ _ _ _ hm hM (lv_sub hl [] rfl)
      · have hm := b_t h21 hm
        refine r_iconst (np := 38) G 1 dX11_isPair_37 rfl ?_
        refine r_goto (np := 42) G dX11_isPair_38 (by decide) ?_
        exact r_zret G hr hk hM (Or.inr rfl) hm dX11_isPair_42
theorem gX11_isPair {v0 : Nat} {v1 : Int} {v2 : Int} {σ : mSt} {out : Int × mSt} (hm : mX11_isPair v0 v1 v2 σ = some out) : isC v0 10 := (g_t hm).1
set_option maxRecDepth 100000 in
set_option maxHeartbeats 4000000 in
theorem qX11_times (l : Launch) (E : mE) (σ : mSt) (v0 : Nat) (v1 : Int) (v2 : Int) (v3 : Int) (out : Int × mSt) (hm : mX11_times v0 v1 v2 v3 σ = some out) : mMet l yX11_times cX11_times 7 (some .int) 4 103 E 276 [.ref (eA E v0), vI v1, vI v2, vI v3] σ (some (vI out.1)) out.2 := by
  unfold mX11_times at hm
  obtain ⟨g0, hm⟩ := g_t hm
  refine m_entry (by decide +kernel) (Nat.le_of_ble_eq_true rfl) (fun p e s m args below meth c G hr hk hM ls hl => ?_)
  have G : CallFix p m c cX11_times 7 s args mTs RX11 := G
  have hl : lv_has ls 7 [(0, .ref (eA E v0)), (1, vI v1), (2, vI v2), (3, vI v3)] := hl
  refine r_aload_n (np := 1) G hl 0 rfl dX11_times_0 rfl rfl ?_
  refine r_iload_n (np := 2) G hl 1 rfl dX11_times_1 rfl rfl ?_
  refine r_iload_n (np := 3) G hl 2 rfl dX11_times_2 rfl rfl ?_
  obtain ⟨b1, s2, e3, hm⟩ := call_t hm
  refine m_callVI (np := 6) G hM hl.1 [vI v1, vI v2] (qX11_isPair l E σ v0 v1 v2 _ e3) myX11_isPair (shp_lt (gX11_isPair e3) (by decide)) (gX11_isPair e3) rfl (by decide) lkX11_172 ⟨Nat.le_of_ble_eq_true rfl, Nat.le_of_ble_eq_true rfl⟩ ⟨Nat.le_of_ble_eq_true rfl, Nat.le_of_ble_eq_true rfl⟩ [] rfl (Nat.le_of_ble_eq_true rfl) dX11_times_3 rfl (fun H locs hM => ?_)
  refine r_if_eq (np := 9) (tgt := 17) G rfl dX11_times_6 (by decide) rfl (fun h4 => ?_) (fun h4 => ?_)
  · have hm := b_t h4 hm
    refine r_iconst (np := 18) G (-1) dX11_times_17 rfl ?_
    exact r_iret G hr hk hM hm dX11_times_18
  · have hm := b_f h4 hm
    refine r_aload_n (np := 10) G hl 0 rfl dX11_times_9 rfl rfl ?_
    refine r_iload_n (np := 11) G hl 3 rfl dX11_times_10 rfl rfl ?_
    obtain ⟨b5, s6, e7, hm⟩ := call_t hm
    refine m_callVI (np := 14) G hM hl.1 [vI v3] (qX11_isSlot l E s2 v0 v3 _ e7) myX11_isSlot (shp_lt (gX11_isSlot e7) (by decide)) (gX11_isSlot e7) rfl (by decide) lkX11_152 ⟨Nat.le_of_ble_eq_true rfl, Nat.le_of_ble_eq_true rfl⟩ ⟨Nat.le_of_ble_eq_true rfl, Nat.le_of_ble_eq_true rfl⟩ [] rfl (Nat.le_of_ble_eq_true rfl) dX11_times_11 rfl (fun H locs hM => ?_)
    refine r_if_ne (np := 17) (tgt := 19) G rfl dX11_times_14 (by decide) rfl (fun h8 => ?_) (fun h8 => ?_)
    · have hm := b_f h8 hm
      refine r_aload_n (np := 20) G hl 0 rfl dX11_times_19 rfl rfl ?_
      obtain ⟨r9, e10, hm⟩ := ref_t hm
      refine r_getR (np := 23) G hM (shp_lt g0 (by decide)) g0 e10 fdX11_6 lkX11_43 dX11_times_20 rfl ?_
      refine r_iload_n (np := 24) G hl 1 rfl dX11_times_23 rfl rfl ?_
      obtain ⟨g11, hm⟩ := g_t hm
      obtain ⟨r12, e13, hm⟩ := ref_t hm
      refine r_aaload (np := 25) G hM (t := 3) g11 rfl ⟨by decide, by decide⟩ rfl rfl e13 dX11_times_24 rfl ?_
      refine r_astore (np := 27) G hl rfl [(4, .ref (eA E r12)), (0, .ref (eA E v0)), (1, vI v1), (2, vI v2), (3, vI v3)] dX11_times_25 rfl (by decide) rfl (fun ls hl => ?_)
      refine r_aload_n (np := 28) G hl 1 rfl dX11_times_27 rfl rfl ?_
      obtain ⟨r14, e15, hm⟩ := ref_t hm
      refine r_getR (np := 31) G hM (shp_lt g0 (by decide)) g0 e15 fdX11_6 lkX11_43 dX11_times_28 rfl ?_
      refine r_iload_n (np := 32) G hl 3 rfl dX11_times_31 rfl rfl ?_
      obtain ⟨g16, hm⟩ := g_t hm
      obtain ⟨r17, e18, hm⟩ := ref_t hm
      refine r_aaload (np := 33) G hM (t := 3) g16 rfl ⟨by decide, by decide⟩ rfl rfl e18 dX11_times_32 rfl ?_
      refine r_astore (np := 35) G hl rfl [(5, .ref (eA E r17)), (4, .ref (eA E r12)), (0, .ref (eA E v0)), (1, vI v1), (2, vI v2), (3, vI v3)] dX11_times_33 rfl (by decide) rfl (fun ls hl => ?_)
      refine r_aload (np := 37) G hl 1 rfl dX11_times_35 rfl ?_
      obtain ⟨g19, hm⟩ := g_t hm
      refine r_getIN (np := 40) G hM (shp_lt g19 (by decide)) g19 fdX1_2 lkX11_165 dX11_times_37 rfl ?_
      obtain ⟨a20, e21, hm⟩ := bnd_t hm
      refine r_istore (np := 42) G hl e21 [(6, vI a20), (5, .ref (eA E r17)), (4, .ref (eA E r12)), (0, .ref (eA E v0)), (1, vI v1), (2, vI v2), (3, vI v3)] dX11_times_40 rfl (by decide) rfl (fun ls hl => ?_)
      refine r_aload_n (np := 43) G hl 3 rfl dX11_times_42 rfl rfl ?_
      obtain ⟨r22, e23, hm⟩ := ref_t hm
      refine r_getR (np := 46) G hM (shp_lt g0 (by decide)) g0 e23 fdX11_3 lkX11_27 dX11_times_43 rfl ?_
      refine r_iload (np := 48) G hl 0 rfl dX11_times_46 rfl ?_
      obtain ⟨b24, s25, e26, hm⟩ := call_t hm
      refine m_callVI (np := 51) G hM hl.1 [vI a20] (qX0_first l E s6 r22 a20 _ e26) myX0_first (shp_lt (gX0_first e26) (by decide)) (gX0_first e26) rfl (by decide) lkX11_106 ⟨Nat.le_of_ble_eq_true rfl, Nat.le_of_ble_eq_true rfl⟩ ⟨Nat.le_of_ble_eq_true rfl, Nat.le_of_ble_eq_true rfl⟩ [] rfl (Nat.le_of_ble_eq_true rfl) dX11_times_48 rfl (fun H locs hM => ?_)
      refine r_i2l (np := 52) G rfl dX11_times_51 rfl ?_
      refine r_aload_n (np := 53) G hl 3 rfl dX11_times_52 rfl rfl ?_
      obtain ⟨r27, e28, hm⟩ := ref_t hm
      refine r_getR (np := 56) G hM (shp_lt g0 (by decide)) g0 e28 fdX11_3 lkX11_27 dX11_times_53 rfl ?_
      refine r_iload (np := 58) G hl 0 rfl dX11_times_56 rfl ?_
      obtain ⟨b29, s30, e31, hm⟩ := call_t hm
      refine m_callVI (np := 61) G hM hl.1 [vI a20] (qX0_second l E s25 r27 a20 _ e31) myX0_second (shp_lt (gX0_second e31) (by decide)) (gX0_second e31) rfl (by decide) lkX11_110 ⟨Nat.le_of_ble_eq_true rfl, Nat.le_of_ble_eq_true rfl⟩ ⟨Nat.le_of_ble_eq_true rfl, Nat.le_of_ble_eq_true rfl⟩ [vL (wI b24)] rfl (Nat.le_of_ble_eq_true rfl) dX11_times_58 rfl (fun H locs hM => ?_)
      refine r_i2l (np := 62) G rfl dX11_times_61 rfl ?_
      refine r_aload (np := 64) G hl 2 rfl dX11_times_62 rfl ?_
      obtain ⟨r32, e33, hm⟩ := ref_t hm
      refine r_getRN (np := 67) G hM (shp_lt g19 (by decide)) g19 e33 fdX1_0 lkX11_162 dX11_times_64 rfl ?_
      refine r_aload (np := 69) G hl 1 rfl dX11_times_67 rfl ?_
      obtain ⟨g34, hm⟩ := g_t hm
      obtain ⟨r35, e36, hm⟩ := ref_t hm
      refine r_getRN (np := 72) G hM (shp_lt g34 (by decide)) g34 e36 fdX1_0 lkX11_162 dX11_times_69 rfl ?_
      refine r_aload_n (np := 73) G hl 3 rfl dX11_times_72 rfl rfl ?_
      obtain ⟨r37, e38, hm⟩ := ref_t hm
      refine r_getR (np := 76) G hM (shp_lt g0 (by decide)) g0 e38 fdX11_11 lkX11_74 dX11_times_73 rfl ?_
      obtain ⟨b39, s40, e41, hm⟩ := call_t hm
      refine m_callSV (np := 79) G hM hl.1 [vL (wI b24), vL (wI b29), .ref (eA E r32), .ref (eA E r35), .ref (eA E r37)] (qX1_multiply l E s30 (wI b24) (wI b29) r32 r35 r37 _ e41) myX1_multiply lkX11_175 ⟨Nat.le_of_ble_eq_true rfl, Nat.le_of_ble_eq_true rfl⟩ ⟨Nat.le_of_ble_eq_true rfl, Nat.le_of_ble_eq_true rfl⟩ [] rfl (Nat.le_of_ble_eq_true rfl) dX11_times_76 rfl (fun H locs hM => ?_)
      refine r_aload_n (np := 80) G hl 3 rfl dX11_times_79 rfl rfl ?_
      refine r_iload_n (np := 81) G hl 6 rfl dX11_times_80 rfl rfl ?_
      refine r_iload (np := 83) G hl 0 rfl dX11_times_81 rfl ?_
      refine r_aload (np := 85) G hl 2 rfl dX11_times_83 rfl ?_
      refine r_getLN (np := 88) G hM (shp_lt g19 (by decide)) g19 fdX1_1 lkX11_168 dX11_times_85 rfl ?_
      refine r_aload (np := 90) G hl 1 rfl dX11_times_88 rfl ?_
      refine r_getLN (np := 93) G hM (shp_lt g34 (by decide)) g34 fdX1_1 lkX11_168 dX11_times_90 rfl ?_
      refine r_lmul (np := 94) G dX11_times_93 rfl ?_
      obtain ⟨b42, s43, e44, hm⟩ := call_t hm
      refine m_callVI (np := 97) G hM hl.1 [vI v3, vI a20, vL ((s40 r12 1) * (s40 r17 1))] (qX11_keep l E s40 v0 v3 a20 ((s40 r12 1) * (s40 r17 1)) _ e44) myX11_keep (shp_lt (gX11_keep e44) (by decide)) (gX11_keep e44) rfl (by decide) lkX11_155 ⟨Nat.le_of_ble_eq_true rfl, Nat.le_of_ble_eq_true rfl⟩ ⟨Nat.le_of_ble_eq_true rfl, Nat.le_of_ble_eq_true rfl⟩ [] rfl (Nat.le_of_ble_eq_true rfl) dX11_times_94 rfl (fun H locs hM => ?_)
      exact r_iret G hr hk hM hm dX11_times_97
    · have hm := b_t h8 hm
      refine r_iconst (np := 18) G (-1) dX11_times_17 rfl ?_
      exact r_iret G hr hk hM hm dX11_times_18
theorem gX11_times {v0 : Nat} {v1 : Int} {v2 : Int} {v3 : Int} {σ : mSt} {out : Int × mSt} (hm : mX11_times v0 v1 v2 v3 σ = some out) : isC v0 10 := (g_t hm).1
set_option maxRecDepth 100000 in
set_option maxHeartbeats 4000000 in
theorem wX11_plus_B104 (l : Launch) (E : mE) (out : Int × mSt) {p : Program} {e : Env} {s : State} {m : MethodId} {args : Array Value} {below : List Frame} {meth : Method} {c : Code} (G : CallFix p m c cX11_plus 8 s args mTs RX11) (hr : meth.sig.returnType = (some .int)) (hk : meth.locks = false) (v0 : Nat) (v1 : Int) (v2 : Int) (v3 : Int) (v4 : Int) (g0 : isC v0 10) : ∀ (v5 : Nat) (v6 : Nat) (σ : mSt) (H : Heap) (locs : List Loc) (ls : Array Slot), mX11_plus_B104 v0 v1 v2 v3 v4 v5 v6 σ = some out → mM (mA E 276) E 276 σ s H locs → lv_has ls 8 [(0, .ref (eA E v0)), (4, vI v4), (5, .ref (eA E v5)), (6, .ref (eA E v6))] → mGo l p e 4 103 s m args below meth c E (some (vI out.1)) out.2 H locs (F0 m 104 ls []) := by
  intro v5 v6 σ H locs ls hm hM hl
  unfold mX11_plus_B104 at hm
  refine r_aload_n (np := 105) G hl 0 rfl dX11_plus_104 rfl rfl ?_
  refine r_iload (np := 107) G hl 1 rfl dX11_plus_105 rfl ?_
  refine r_aload (np := 109) G hl 2 rfl dX11_plus_107 rfl ?_
  obtain ⟨g1, hm⟩ := g_t hm
  refine r_getIN (np := 112) G hM (shp_lt g1 (by decide)) g1 fdX1_2 lkX11_165 dX11_plus_109 rfl ?_
  refine r_aload (np := 114) G hl 2 rfl dX11_plus_112 rfl ?_
  refine r_getLN (np := 117) G hM (shp_lt g1 (by decide)) g1 fdX1_1 lkX11_168 dX11_plus_114 rfl ?_
  refine r_aload (np := 119) G hl 3 rfl dX11_plus_117 rfl ?_
  obtain ⟨g2, hm⟩ := g_t hm
  refine r_getLN (np := 122) G hM (shp_lt g2 (by decide)) g2 fdX1_1 lkX11_168 dX11_plus_119 rfl ?_
  refine r_lmul (np := 123) G dX11_plus_122 rfl ?_
  obtain ⟨b3, s4, e5, hm⟩ := call_t hm
  refine m_callVI (np := 126) G hM hl.1 [vI v4, vI (σ v5 2), vL ((σ v5 1) * (σ v6 1))] (qX11_keep l E σ v0 v4 (σ v5 2) ((σ v5 1) * (σ v6 1)) _ e5) myX11_keep (shp_lt (gX11_keep e5) (by decide)) (gX11_keep e5) rfl (by decide) lkX11_155 ⟨Nat.le_of_ble_eq_true rfl, Nat.le_of_ble_eq_true rfl⟩ ⟨Nat.le_of_ble_eq_true rfl, Nat.le_of_ble_eq_true rfl⟩ [] rfl (Nat.le_of_ble_eq_true rfl) dX11_plus_123 rfl (fun H locs hM => ?_)
  exact r_iret G hr hk hM hm dX11_plus_126
set_option maxRecDepth 100000 in
set_option maxHeartbeats 4000000 in
theorem wX11_plus_L53 (l : Launch) (E : mE) (out : Int × mSt) {p : Program} {e : Env} {s : State} {m : MethodId} {args : Array Value} {below : List Frame} {meth : Method} {c : Code} (G : CallFix p m c cX11_plus 8 s args mTs RX11) (hr : meth.sig.returnType = (some .int)) (hk : meth.locks = false) (v0 : Nat) (v1 : Int) (v2 : Int) (v3 : Int) (v4 : Int) (v5 : Nat) (v6 : Nat) (g0 : isC v0 10) (x104 : mSt → Option (Int × mSt)) (hx104 : ∀ (σ : mSt) (H : Heap) (locs : List Loc) (ls : Array Slot), x104 σ = some out → mM (mA E 276) E 276 σ s H locs → lv_has ls 8 [(0, .ref (eA E v0)), (4, vI v4), (5, .ref (eA E v5)), (6, .ref (eA E v6))] → mGo l p e 4 103 s m args below meth c E (some (vI out.1)) out.2 H locs (F0 m 104 ls [])) : ∀ (n : Nat) (v7 : Int) (σ : mSt) (H : Heap) (locs : List Loc) (ls : Array Slot), mX11_plus_L53 v0 v1 v2 v3 v4 v5 v6 x104 n v7 σ = some out → mM (mA E 276) E 276 σ s H locs → lv_has ls 8 [(0, .ref (eA E v0)), (3, vI v3), (4, vI v4), (5, .ref (eA E v5)), (6, .ref (eA E v6)), (7, vI v7)] → mGo l p e 4 103 s m args below meth c E (some (vI out.1)) out.2 H locs (F0 m 53 ls []) := by
  intro n
  induction n with
  | zero =>
    intro v7 σ H locs ls hm hM hl
    exact absurd hm (by rw [mX11_plus_L53.eq_1]; exact fun h => nomatch h)
  | succ n ih =>
    intro v7 σ H locs ls hm hM hl
    rw [mX11_plus_L53.eq_2] at hm
    refine r_iload (np := 55) G hl 5 rfl dX11_plus_53 rfl ?_
    refine r_iconst (np := 56) G 4 dX11_plus_55 rfl ?_
    refine r_icmp_ge (np := 59) (tgt := 104) G rfl (wIk 4 rfl) dX11_plus_56 (by decide) rfl (fun h6 => ?_) (fun h6 => ?_)
    · have hm := b_t h6 hm
      exact hx104 _ _ _ _ hm hM (lv_sub hl [0, 2, 3, 4] rfl)
    · have hm := b_f h6 hm
      refine r_aload_n (np := 60) G hl 0 rfl dX11_plus_59 rfl rfl ?_
      obtain ⟨r7, e8, hm⟩ := ref_t hm
      refine r_getR (np := 63) G hM (shp_lt g0 (by decide)) g0 e8 fdX11_11 lkX11_74 dX11_plus_60 rfl ?_
      refine r_iload (np := 65) G hl 5 rfl dX11_plus_63 rfl ?_
      refine r_aload (np := 67) G hl 3 rfl dX11_plus_65 rfl ?_
      obtain ⟨g9, hm⟩ := g_t hm
      obtain ⟨r10, e11, hm⟩ := ref_t hm
      refine r_getRN (np := 70) G hM (shp_lt g9 (by decide)) g9 e11 fdX1_0 lkX11_162 dX11_plus_67 rfl ?_
      refine r_iload (np := 72) G hl 5 rfl dX11_plus_70 rfl ?_
      obtain ⟨g12, hm⟩ := g_t hm
      refine r_laload (np := 73) G hM g12 rfl dX11_plus_72 rfl ?_
      refine r_aload (np := 75) G hl 4 rfl dX11_plus_73 rfl ?_
      obtain ⟨g13, hm⟩ := g_t hm
      refine r_getLN (np := 78) G hM (shp_lt g13 (by decide)) g13 fdX1_1 lkX11_168 dX11_plus_75 rfl ?_
      refine r_lmul (np := 79) G dX11_plus_78 rfl ?_
      refine r_iload_n (np := 80) G hl 1 rfl dX11_plus_79 rfl rfl ?_
      refine r_i2l (np := 81) G rfl dX11_plus_80 rfl ?_
      refine r_aload (np := 83) G hl 4 rfl dX11_plus_81 rfl ?_
      obtain ⟨r14, e15, hm⟩ := ref_t hm
      refine r_getRN (np := 86) G hM (shp_lt g13 (by decide)) g13 e15 fdX1_0 lkX11_162 dX11_plus_83 rfl ?_
      refine r_iload (np := 88) G hl 5 rfl dX11_plus_86 rfl ?_
      obtain ⟨g16, hm⟩ := g_t hm
      refine r_laload (np := 89) G hM g16 rfl dX11_plus_88 rfl ?_
      refine r_lmul (np := 90) G dX11_plus_89 rfl ?_
      refine r_aload (np := 92) G hl 3 rfl dX11_plus_90 rfl ?_
      refine r_getLN (np := 95) G hM (shp_lt g9 (by decide)) g9 fdX1_1 lkX11_168 dX11_plus_92 rfl ?_
      refine r_lmul (np := 96) G dX11_plus_95 rfl ?_
      refine r_ladd (np := 97) G dX11_plus_96 rfl ?_
      obtain ⟨g17, hm⟩ := g_t hm
      obtain ⟨s18, e19, hm⟩ := bnd_t hm
      refine r_lastore (np := 98) G hM g17 rfl s18 e19 dX11_plus_97 rfl (fun H locs hM => ?_)
      obtain ⟨a20, e21, hm⟩ := bnd_t hm
      refine r_iinc (np := 101) G hl 5 rfl e21 [(7, vI a20), (0, .ref (eA E v0)), (3, vI v3), (4, vI v4), (5, .ref (eA E v5)), (6, .ref (eA E v6))] dX11_plus_98 rfl (by decide) rfl (fun ls hl => ?_)
      refine r_goto (np := 53) G dX11_plus_101 (by decide) ?_
      exact ih a20 _ _ _ _ hm hM (lv_sub hl [1, 2, 3, 4, 5, 0] rfl)
set_option maxRecDepth 100000 in
set_option maxHeartbeats 4000000 in
theorem qX11_plus (l : Launch) (E : mE) (σ : mSt) (v0 : Nat) (v1 : Int) (v2 : Int) (v3 : Int) (v4 : Int) (out : Int × mSt) (hm : mX11_plus v0 v1 v2 v3 v4 σ = some out) : mMet l yX11_plus cX11_plus 8 (some .int) 4 103 E 276 [.ref (eA E v0), vI v1, vI v2, vI v3, vI v4] σ (some (vI out.1)) out.2 := by
  unfold mX11_plus at hm
  obtain ⟨g0, hm⟩ := g_t hm
  refine m_entry (by decide +kernel) (Nat.le_of_ble_eq_true rfl) (fun p e s m args below meth c G hr hk hM ls hl => ?_)
  have G : CallFix p m c cX11_plus 8 s args mTs RX11 := G
  have hl : lv_has ls 8 [(0, .ref (eA E v0)), (1, vI v1), (2, vI v2), (3, vI v3), (4, vI v4)] := hl
  refine r_aload_n (np := 1) G hl 0 rfl dX11_plus_0 rfl rfl ?_
  refine r_iload_n (np := 2) G hl 1 rfl dX11_plus_1 rfl rfl ?_
  refine r_iload_n (np := 3) G hl 2 rfl dX11_plus_2 rfl rfl ?_
  obtain ⟨b22, s23, e24, hm⟩ := call_t hm
  refine m_callVI (np := 6) G hM hl.1 [vI v1, vI v2] (qX11_isPair l E σ v0 v1 v2 _ e24) myX11_isPair (shp_lt (gX11_isPair e24) (by decide)) (gX11_isPair e24) rfl (by decide) lkX11_172 ⟨Nat.le_of_ble_eq_true rfl, Nat.le_of_ble_eq_true rfl⟩ ⟨Nat.le_of_ble_eq_true rfl, Nat.le_of_ble_eq_true rfl⟩ [] rfl (Nat.le_of_ble_eq_true rfl) dX11_plus_3 rfl (fun H locs hM => ?_)
  refine r_if_eq (np := 9) (tgt := 32) G rfl dX11_plus_6 (by decide) rfl (fun h25 => ?_) (fun h25 => ?_)
  · have hm := b_t h25 hm
    refine r_iconst (np := 33) G (-1) dX11_plus_32 rfl ?_
    exact r_iret G hr hk hM hm dX11_plus_33
  · have hm := b_f h25 hm
    refine r_aload_n (np := 10) G hl 0 rfl dX11_plus_9 rfl rfl ?_
    refine r_iload (np := 12) G hl 4 rfl dX11_plus_10 rfl ?_
    obtain ⟨b26, s27, e28, hm⟩ := call_t hm
    refine m_callVI (np := 15) G hM hl.1 [vI v4] (qX11_isSlot l E s23 v0 v4 _ e28) myX11_isSlot (shp_lt (gX11_isSlot e28) (by decide)) (gX11_isSlot e28) rfl (by decide) lkX11_152 ⟨Nat.le_of_ble_eq_true rfl, Nat.le_of_ble_eq_true rfl⟩ ⟨Nat.le_of_ble_eq_true rfl, Nat.le_of_ble_eq_true rfl⟩ [] rfl (Nat.le_of_ble_eq_true rfl) dX11_plus_12 rfl (fun H locs hM => ?_)
    refine r_if_eq (np := 18) (tgt := 32) G rfl dX11_plus_15 (by decide) rfl (fun h29 => ?_) (fun h29 => ?_)
    · have hm := b_t h29 hm
      refine r_iconst (np := 33) G (-1) dX11_plus_32 rfl ?_
      exact r_iret G hr hk hM hm dX11_plus_33
    · have hm := b_f h29 hm
      refine r_iload_n (np := 19) G hl 3 rfl dX11_plus_18 rfl rfl ?_
      refine r_sipush (np := 22) G (-1000) dX11_plus_19 (by decide) rfl ?_
      refine r_icmp_lt (np := 25) (tgt := 32) G rfl (wIk (-1000) rfl) dX11_plus_22 (by decide) rfl (fun h30 => ?_) (fun h30 => ?_)
      · have hm := b_t h30 hm
        refine r_iconst (np := 33) G (-1) dX11_plus_32 rfl ?_
        exact r_iret G hr hk hM hm dX11_plus_33
      · have hm := b_f h30 hm
        refine r_iload_n (np := 26) G hl 3 rfl dX11_plus_25 rfl rfl ?_
        refine r_sipush (np := 29) G 1000 dX11_plus_26 (by decide) rfl ?_
        refine r_icmp_le (np := 32) (tgt := 34) G rfl (wIk 1000 rfl) dX11_plus_29 (by decide) rfl (fun h31 => ?_) (fun h31 => ?_)
        · have hm := b_t h31 hm
          refine r_aload_n (np := 35) G hl 0 rfl dX11_plus_34 rfl rfl ?_
          obtain ⟨r32, e33, hm⟩ := ref_t hm
          refine r_getR (np := 38) G hM (shp_lt g0 (by decide)) g0 e33 fdX11_6 lkX11_43 dX11_plus_35 rfl ?_
          refine r_iload_n (np := 39) G hl 1 rfl dX11_plus_38 rfl rfl ?_
          obtain ⟨g34, hm⟩ := g_t hm
          obtain ⟨r35, e36, hm⟩ := ref_t hm
          refine r_aaload (np := 40) G hM (t := 3) g34 rfl ⟨by decide, by decide⟩ rfl rfl e36 dX11_plus_39 rfl ?_
          refine r_astore (np := 42) G hl rfl [(5, .ref (eA E r35)), (0, .ref (eA E v0)), (1, vI v1), (2, vI v2), (3, vI v3), (4, vI v4)] dX11_plus_40 rfl (by decide) rfl (fun ls hl => ?_)
          refine r_aload_n (np := 43) G hl 1 rfl dX11_plus_42 rfl rfl ?_
          obtain ⟨r37, e38, hm⟩ := ref_t hm
          refine r_getR (np := 46) G hM (shp_lt g0 (by decide)) g0 e38 fdX11_6 lkX11_43 dX11_plus_43 rfl ?_
          refine r_iload_n (np := 47) G hl 3 rfl dX11_plus_46 rfl rfl ?_
          obtain ⟨g39, hm⟩ := g_t hm
          obtain ⟨r40, e41, hm⟩ := ref_t hm
          refine r_aaload (np := 48) G hM (t := 3) g39 rfl ⟨by decide, by decide⟩ rfl rfl e41 dX11_plus_47 rfl ?_
          refine r_astore (np := 50) G hl rfl [(6, .ref (eA E r40)), (5, .ref (eA E r35)), (0, .ref (eA E v0)), (1, vI v1), (2, vI v2), (3, vI v3), (4, vI v4)] dX11_plus_48 rfl (by decide) rfl (fun ls hl => ?_)
          refine r_iconst (np := 51) G 0 dX11_plus_50 rfl ?_
          refine r_istore (np := 53) G hl rfl [(7, vI 0), (6, .ref (eA E r40)), (5, .ref (eA E r35)), (0, .ref (eA E v0)), (1, vI v1), (2, vI v2), (3, vI v3), (4, vI v4)] dX11_plus_51 rfl (by decide) rfl (fun ls hl => ?_)
          exact wX11_plus_L53 l E out G hr hk v0 v1 v2 v3 v4 r35 r40 g0 (fun zσ => mX11_plus_B104 v0 v1 v2 v3 v4 r35 r40 zσ) (fun zσ zH zl zs zm zM zv => wX11_plus_B104 l E out G hr hk v0 v1 v2 v3 v4 g0 r35 r40 zσ zH zl zs zm zM zv) mF 0 _ _ _ _ hm hM (lv_sub hl [3, 6, 7, 2, 1, 0] rfl)
        · have hm := b_f h31 hm
          refine r_iconst (np := 33) G (-1) dX11_plus_32 rfl ?_
          exact r_iret G hr hk hM hm dX11_plus_33
theorem gX11_plus {v0 : Nat} {v1 : Int} {v2 : Int} {v3 : Int} {v4 : Int} {σ : mSt} {out : Int × mSt} (hm : mX11_plus v0 v1 v2 v3 v4 σ = some out) : isC v0 10 := (g_t hm).1
set_option maxRecDepth 100000 in
set_option maxHeartbeats 4000000 in
theorem qX11_mirror (l : Launch) (E : mE) (σ : mSt) (v0 : Nat) (v1 : Int) (v2 : Int) (out : Int × mSt) (hm : mX11_mirror v0 v1 v2 σ = some out) : mMet l yX11_mirror cX11_mirror 4 (some .int) 4 103 E 276 [.ref (eA E v0), vI v1, vI v2] σ (some (vI out.1)) out.2 := by
  unfold mX11_mirror at hm
  obtain ⟨g0, hm⟩ := g_t hm
  refine m_entry (by decide +kernel) (Nat.le_of_ble_eq_true rfl) (fun p e s m args below meth c G hr hk hM ls hl => ?_)
  have G : CallFix p m c cX11_mirror 4 s args mTs RX11 := G
  have hl : lv_has ls 4 [(0, .ref (eA E v0)), (1, vI v1), (2, vI v2)] := hl
  refine r_aload_n (np := 1) G hl 0 rfl dX11_mirror_0 rfl rfl ?_
  refine r_iload_n (np := 2) G hl 1 rfl dX11_mirror_1 rfl rfl ?_
  obtain ⟨b1, s2, e3, hm⟩ := call_t hm
  refine m_callVI (np := 5) G hM hl.1 [vI v1] (qX11_isKept l E σ v0 v1 _ e3) myX11_isKept (shp_lt (gX11_isKept e3) (by decide)) (gX11_isKept e3) rfl (by decide) lkX11_159 ⟨Nat.le_of_ble_eq_true rfl, Nat.le_of_ble_eq_true rfl⟩ ⟨Nat.le_of_ble_eq_true rfl, Nat.le_of_ble_eq_true rfl⟩ [] rfl (Nat.le_of_ble_eq_true rfl) dX11_mirror_2 rfl (fun H locs hM => ?_)
  refine r_if_eq (np := 8) (tgt := 16) G rfl dX11_mirror_5 (by decide) rfl (fun h4 => ?_) (fun h4 => ?_)
  · have hm := b_t h4 hm
    refine r_iconst (np := 17) G (-1) dX11_mirror_16 rfl ?_
    exact r_iret G hr hk hM hm dX11_mirror_17
  · have hm := b_f h4 hm
    refine r_aload_n (np := 9) G hl 0 rfl dX11_mirror_8 rfl rfl ?_
    refine r_iload_n (np := 10) G hl 2 rfl dX11_mirror_9 rfl rfl ?_
    obtain ⟨b5, s6, e7, hm⟩ := call_t hm
    refine m_callVI (np := 13) G hM hl.1 [vI v2] (qX11_isSlot l E s2 v0 v2 _ e7) myX11_isSlot (shp_lt (gX11_isSlot e7) (by decide)) (gX11_isSlot e7) rfl (by decide) lkX11_152 ⟨Nat.le_of_ble_eq_true rfl, Nat.le_of_ble_eq_true rfl⟩ ⟨Nat.le_of_ble_eq_true rfl, Nat.le_of_ble_eq_true rfl⟩ [] rfl (Nat.le_of_ble_eq_true rfl) dX11_mirror_10 rfl (fun H locs hM => ?_)
    refine r_if_ne (np := 16) (tgt := 18) G rfl dX11_mirror_13 (by decide) rfl (fun h8 => ?_) (fun h8 => ?_)
    · have hm := b_f h8 hm
      refine r_aload_n (np := 19) G hl 0 rfl dX11_mirror_18 rfl rfl ?_
      obtain ⟨r9, e10, hm⟩ := ref_t hm
      refine r_getR (np := 22) G hM (shp_lt g0 (by decide)) g0 e10 fdX11_6 lkX11_43 dX11_mirror_19 rfl ?_
      refine r_iload_n (np := 23) G hl 1 rfl dX11_mirror_22 rfl rfl ?_
      obtain ⟨g11, hm⟩ := g_t hm
      obtain ⟨r12, e13, hm⟩ := ref_t hm
      refine r_aaload (np := 24) G hM (t := 3) g11 rfl ⟨by decide, by decide⟩ rfl rfl e13 dX11_mirror_23 rfl ?_
      refine r_astore_n (np := 25) G hl rfl [(3, .ref (eA E r12)), (0, .ref (eA E v0)), (1, vI v1), (2, vI v2)] dX11_mirror_24 rfl rfl (by decide) rfl (fun ls hl => ?_)
      refine r_aload_n (np := 26) G hl 0 rfl dX11_mirror_25 rfl rfl ?_
      obtain ⟨g14, hm⟩ := g_t hm
      obtain ⟨r15, e16, hm⟩ := ref_t hm
      refine r_getRN (np := 29) G hM (shp_lt g14 (by decide)) g14 e16 fdX1_0 lkX11_162 dX11_mirror_26 rfl ?_
      refine r_lconst (np := 30) G 1 dX11_mirror_29 rfl rfl ?_
      refine r_aload_n (np := 31) G hl 1 rfl dX11_mirror_30 rfl rfl ?_
      obtain ⟨r17, e18, hm⟩ := ref_t hm
      refine r_getR (np := 34) G hM (shp_lt g0 (by decide)) g0 e18 fdX11_11 lkX11_74 dX11_mirror_31 rfl ?_
      obtain ⟨b19, s20, e21, hm⟩ := call_t hm
      refine m_callSV (np := 37) G hM hl.1 [.ref (eA E r15), vL 1, .ref (eA E r17)] (qX1_reflect l E s6 r15 1 r17 _ e21) myX1_reflect lkX11_179 ⟨Nat.le_of_ble_eq_true rfl, Nat.le_of_ble_eq_true rfl⟩ ⟨Nat.le_of_ble_eq_true rfl, Nat.le_of_ble_eq_true rfl⟩ [] rfl (Nat.le_of_ble_eq_true rfl) dX11_mirror_34 rfl (fun H locs hM => ?_)
      refine r_aload_n (np := 38) G hl 1 rfl dX11_mirror_37 rfl rfl ?_
      refine r_iload_n (np := 39) G hl 3 rfl dX11_mirror_38 rfl rfl ?_
      refine r_aload_n (np := 40) G hl 0 rfl dX11_mirror_39 rfl rfl ?_
      refine r_getIN (np := 43) G hM (shp_lt g14 (by decide)) g14 fdX1_2 lkX11_165 dX11_mirror_40 rfl ?_
      refine r_aload_n (np := 44) G hl 0 rfl dX11_mirror_43 rfl rfl ?_
      refine r_getLN (np := 47) G hM (shp_lt g14 (by decide)) g14 fdX1_1 lkX11_168 dX11_mirror_44 rfl ?_
      obtain ⟨b22, s23, e24, hm⟩ := call_t hm
      refine m_callVI (np := 50) G hM hl.1 [vI v2, vI (s20 r12 2), vL (s20 r12 1)] (qX11_keep l E s20 v0 v2 (s20 r12 2) (s20 r12 1) _ e24) myX11_keep (shp_lt (gX11_keep e24) (by decide)) (gX11_keep e24) rfl (by decide) lkX11_155 ⟨Nat.le_of_ble_eq_true rfl, Nat.le_of_ble_eq_true rfl⟩ ⟨Nat.le_of_ble_eq_true rfl, Nat.le_of_ble_eq_true rfl⟩ [] rfl (Nat.le_of_ble_eq_true rfl) dX11_mirror_47 rfl (fun H locs hM => ?_)
      exact r_iret G hr hk hM hm dX11_mirror_50
    · have hm := b_t h8 hm
      refine r_iconst (np := 17) G (-1) dX11_mirror_16 rfl ?_
      exact r_iret G hr hk hM hm dX11_mirror_17
theorem gX11_mirror {v0 : Nat} {v1 : Int} {v2 : Int} {σ : mSt} {out : Int × mSt} (hm : mX11_mirror v0 v1 v2 σ = some out) : isC v0 10 := (g_t hm).1
set_option maxRecDepth 100000 in
set_option maxHeartbeats 4000000 in
theorem qX11_formOf (l : Launch) (E : mE) (σ : mSt) (v0 : Nat) (v1 : Nat) (out : Int × mSt) (hm : mX11_formOf v0 v1 σ = some out) : mMet l yX11_formOf cX11_formOf 2 (some .long) 1 24 E 276 [.ref (eA E v0), .ref (eA E v1)] σ (some (vL out.1)) out.2 := by
  unfold mX11_formOf at hm
  obtain ⟨g0, hm⟩ := g_t hm
  refine m_entry (by decide +kernel) (Nat.le_of_ble_eq_true rfl) (fun p e s m args below meth c G hr hk hM ls hl => ?_)
  have G : CallFix p m c cX11_formOf 2 s args mTs RX11 := G
  have hl : lv_has ls 2 [(0, .ref (eA E v0)), (1, .ref (eA E v1))] := hl
  refine r_aload_n (np := 1) G hl 0 rfl dX11_formOf_0 rfl rfl ?_
  obtain ⟨r1, e2, hm⟩ := ref_t hm
  refine r_getR (np := 4) G hM (shp_lt g0 (by decide)) g0 e2 fdX11_3 lkX11_27 dX11_formOf_1 rfl ?_
  refine r_aload_n (np := 5) G hl 1 rfl dX11_formOf_4 rfl rfl ?_
  obtain ⟨g3, hm⟩ := g_t hm
  refine r_getIN (np := 8) G hM (shp_lt g3 (by decide)) g3 fdX1_2 lkX11_165 dX11_formOf_5 rfl ?_
  obtain ⟨b4, s5, e6, hm⟩ := call_t hm
  refine m_callVI (np := 11) G hM hl.1 [vI (σ v1 2)] (qX0_first l E σ r1 (σ v1 2) _ e6) myX0_first (shp_lt (gX0_first e6) (by decide)) (gX0_first e6) rfl (by decide) lkX11_106 ⟨Nat.le_of_ble_eq_true rfl, Nat.le_of_ble_eq_true rfl⟩ ⟨Nat.le_of_ble_eq_true rfl, Nat.le_of_ble_eq_true rfl⟩ [] rfl (Nat.le_of_ble_eq_true rfl) dX11_formOf_8 rfl (fun H locs hM => ?_)
  refine r_i2l (np := 12) G rfl dX11_formOf_11 rfl ?_
  refine r_aload_n (np := 13) G hl 0 rfl dX11_formOf_12 rfl rfl ?_
  obtain ⟨r7, e8, hm⟩ := ref_t hm
  refine r_getR (np := 16) G hM (shp_lt g0 (by decide)) g0 e8 fdX11_3 lkX11_27 dX11_formOf_13 rfl ?_
  refine r_aload_n (np := 17) G hl 1 rfl dX11_formOf_16 rfl rfl ?_
  refine r_getIN (np := 20) G hM (shp_lt g3 (by decide)) g3 fdX1_2 lkX11_165 dX11_formOf_17 rfl ?_
  obtain ⟨b9, s10, e11, hm⟩ := call_t hm
  refine m_callVI (np := 23) G hM hl.1 [vI (s5 v1 2)] (qX0_second l E s5 r7 (s5 v1 2) _ e11) myX0_second (shp_lt (gX0_second e11) (by decide)) (gX0_second e11) rfl (by decide) lkX11_110 ⟨Nat.le_of_ble_eq_true rfl, Nat.le_of_ble_eq_true rfl⟩ ⟨Nat.le_of_ble_eq_true rfl, Nat.le_of_ble_eq_true rfl⟩ [vL (wI b4)] rfl (Nat.le_of_ble_eq_true rfl) dX11_formOf_20 rfl (fun H locs hM => ?_)
  refine r_i2l (np := 24) G rfl dX11_formOf_23 rfl ?_
  refine r_aload_n (np := 25) G hl 1 rfl dX11_formOf_24 rfl rfl ?_
  obtain ⟨r12, e13, hm⟩ := ref_t hm
  refine r_getRN (np := 28) G hM (shp_lt g3 (by decide)) g3 e13 fdX1_0 lkX11_162 dX11_formOf_25 rfl ?_
  obtain ⟨b14, s15, e16, hm⟩ := call_t hm
  refine m_callSL (np := 31) G hM hl.1 [vL (wI b4), vL (wI b9), .ref (eA E r12)] (qX1_form l E s10 (wI b4) (wI b9) r12 _ e16) myX1_form lkX11_207 ⟨Nat.le_of_ble_eq_true rfl, Nat.le_of_ble_eq_true rfl⟩ ⟨Nat.le_of_ble_eq_true rfl, Nat.le_of_ble_eq_true rfl⟩ [] rfl (Nat.le_of_ble_eq_true rfl) dX11_formOf_28 rfl (fun H locs hM => ?_)
  exact r_lret G hr hk hM hm dX11_formOf_31
theorem gX11_formOf {v0 : Nat} {v1 : Nat} {σ : mSt} {out : Int × mSt} (hm : mX11_formOf v0 v1 σ = some out) : isC v0 10 := (g_t hm).1
