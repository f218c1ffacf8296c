theorem lkX10_25 : Cond.fieldLink RX10 25 (TX10 4).1 (TX10 4).2.1 (TX10 4).2.2.1 ∈ mTs := mTs_in 78 (by decide +kernel) (by decide +kernel)
theorem fdX10_4 : mFld 9 4 0 5 RX10 TX10 := ⟨rfl, inX10, by decide, rfl, by decide⟩
theorem ptX10_4 : mPut 9 4 0 5 RX10 TX10 tyX10 .int := ⟨fdX10_4, tyX10_ok, nmX10, (by decide +kernel), rfl⟩
theorem lkX10_15 : Cond.fieldLink RX10 15 (TX10 1).1 (TX10 1).2.1 (TX10 1).2.2.1 ∈ mTs := mTs_in 75 (by decide +kernel) (by decide +kernel)
theorem fdX10_1 : mFld 9 1 0 5 RX10 TX10 := ⟨rfl, inX10, by decide, rfl, by decide⟩
theorem lkX10_39 : Cond.methodLink RX10 39 yX10_isDigit ∈ mTs := mTs_in 539 (by decide +kernel) (by decide +kernel)
theorem myX10_isDigit : mYV yX10_isDigit cX10_isDigit 2 (some .boolean) 1 := ⟨⟨mTs_in 542 (by decide +kernel) (by decide +kernel), mTs_in 32 (by decide +kernel) (by decide +kernel), ⟨by decide, by decide⟩, by decide +kernel⟩, mTs_in 541 (by decide +kernel) (by decide +kernel), mTs_in 6 (by decide +kernel) (by decide +kernel)⟩
theorem ptX10_3 : mPut 9 3 0 5 RX10 TX10 tyX10 .int := ⟨fdX10_3, tyX10_ok, nmX10, (by decide +kernel), rfl⟩
theorem lkX10_31 : Cond.methodLink RX10 31 yX10_isLetter ∈ mTs := mTs_in 531 (by decide +kernel) (by decide +kernel)
theorem myX10_isLetter : mYV yX10_isLetter cX10_isLetter 2 (some .boolean) 1 := ⟨⟨mTs_in 534 (by decide +kernel) (by decide +kernel), mTs_in 32 (by decide +kernel) (by decide +kernel), ⟨by decide, by decide⟩, by decide +kernel⟩, mTs_in 533 (by decide +kernel) (by decide +kernel), mTs_in 4 (by decide +kernel) (by decide +kernel)⟩
theorem lkX10_42 : Cond.methodLink RX10 42 yX10_signKind ∈ mTs := mTs_in 543 (by decide +kernel) (by decide +kernel)
theorem myX10_signKind : mYV yX10_signKind cX10_signKind 2 (some .int) 1 := ⟨⟨mTs_in 546 (by decide +kernel) (by decide +kernel), mTs_in 32 (by decide +kernel) (by decide +kernel), ⟨by decide, by decide⟩, by decide +kernel⟩, mTs_in 545 (by decide +kernel) (by decide +kernel), mTs_in 7 (by decide +kernel) (by decide +kernel)⟩
theorem lkX10_35 : Cond.methodLink RX10 35 yX10_takeRun ∈ mTs := mTs_in 535 (by decide +kernel) (by decide +kernel)
theorem myX10_takeRun : mYV yX10_takeRun cX10_takeRun 2 none 1 := ⟨⟨mTs_in 538 (by decide +kernel) (by decide +kernel), mTs_in 32 (by decide +kernel) (by decide +kernel), ⟨by decide, by decide⟩, by decide +kernel⟩, mTs_in 537 (by decide +kernel) (by decide +kernel), mTs_in 5 (by decide +kernel) (by decide +kernel)⟩
theorem ptX10_2 : mPut 9 2 0 5 RX10 TX10 tyX10 .int := ⟨fdX10_2, tyX10_ok, nmX10, (by decide +kernel), rfl⟩
theorem ptX10_1 : mPut 9 1 0 5 RX10 TX10 tyX10 .int := ⟨fdX10_1, tyX10_ok, nmX10, (by decide +kernel), rfl⟩
theorem lkX10_28 : Cond.methodLink RX10 28 yX10_step ∈ mTs := mTs_in 527 (by decide +kernel) (by decide +kernel)
theorem myX10_step : mYV yX10_step cX10_step 1 none 0 := ⟨⟨mTs_in 530 (by decide +kernel) (by decide +kernel), mTs_in 32 (by decide +kernel) (by decide +kernel), ⟨by decide, by decide⟩, by decide +kernel⟩, mTs_in 528 (by decide +kernel) (by decide +kernel), mTs_in 529 (by decide +kernel) (by decide +kernel)⟩
theorem ptX10_0 : mPut 9 0 2 5 RX10 TX10 tyX10 (.array .byte) := ⟨fdX10_0, tyX10_ok, nmX10, (by decide +kernel), rfl⟩
theorem lkX8_12 : Cond.fieldLink RX8 12 (TX8 0).1 (TX8 0).2.1 (TX8 0).2.2.1 ∈ mTs := mTs_in 127 (by decide +kernel) (by decide +kernel)
theorem inX8 : ∀ w ∈ u_ws RX8 TX8 4, w ∈ mTs := mTs_ins _ [131, 133, 135, 137] (by decide +kernel) (by decide +kernel)
theorem fdX8_0 : mFld 7 0 2 4 RX8 TX8 := ⟨rfl, inX8, by decide, rfl, by decide⟩
theorem lkX8_48 : Cond.methodLink RX8 48 yX10_start ∈ mTs := mTs_in 576 (by decide +kernel) (by decide +kernel)
theorem myX10_start : mYV yX10_start cX10_start 1 (some .int) 0 := ⟨⟨mTs_in 579 (by decide +kernel) (by decide +kernel), mTs_in 32 (by decide +kernel) (by decide +kernel), ⟨by decide, by decide⟩, by decide +kernel⟩, mTs_in 577 (by decide +kernel) (by decide +kernel), mTs_in 578 (by decide +kernel) (by decide +kernel)⟩
theorem lkX8_25 : Cond.fieldLink RX8 25 (TX8 2).1 (TX8 2).2.1 (TX8 2).2.2.1 ∈ mTs := mTs_in 129 (by decide +kernel) (by decide +kernel)
theorem fdX8_2 : mFld 7 2 0 4 RX8 TX8 := ⟨rfl, inX8, by decide, rfl, by decide⟩
theorem ptX8_2 : mPut 7 2 0 4 RX8 TX8 tyX8 .int := ⟨fdX8_2, tyX8_ok, nmX8, (by decide +kernel), rfl⟩
theorem lkX10_48 : Cond.constantLong RX10 48 (10) ∈ mTs := mTs_in 625 (by decide +kernel) (by decide +kernel)
theorem lkX10_50 : Cond.constantLong RX10 50 (1000000) ∈ mTs := mTs_in 626 (by decide +kernel) (by decide +kernel)
theorem lkX10_52 : Cond.methodLink RX10 52 yJ9_min_f86c9 ∈ mTs := mTs_in 627 (by decide +kernel) (by decide +kernel)
theorem myJ9_min_f86c9 : mYS yJ9_min_f86c9 cJ9_min_f86c9 4 (some .long) 2 := ⟨⟨mTs_in 629 (by decide +kernel) (by decide +kernel), mTs_in 46 (by decide +kernel) (by decide +kernel), ⟨by decide, by decide⟩, by decide +kernel⟩, mTs_in 628 (by decide +kernel) (by decide +kernel)⟩
theorem lkX8_29 : Cond.fieldLink RX8 29 (TX8 3).1 (TX8 3).2.1 (TX8 3).2.2.1 ∈ mTs := mTs_in 130 (by decide +kernel) (by decide +kernel)
theorem fdX8_3 : mFld 7 3 1 4 RX8 TX8 := ⟨rfl, inX8, by decide, rfl, by decide⟩
theorem ptX8_3 : mPut 7 3 1 4 RX8 TX8 tyX8 .long := ⟨fdX8_3, tyX8_ok, nmX8, (by decide +kernel), rfl⟩
theorem lkX8_61 : Cond.methodLink RX8 61 yX10_step ∈ mTs := mTs_in 584 (by decide +kernel) (by decide +kernel)
theorem lkX8_55 : Cond.methodLink RX8 55 yX8_refuse ∈ mTs := mTs_in 572 (by decide +kernel) (by decide +kernel)
theorem myX8_refuse : mYV yX8_refuse cX8_refuse 2 (some .boolean) 1 := ⟨⟨mTs_in 575 (by decide +kernel) (by decide +kernel), mTs_in 31 (by decide +kernel) (by decide +kernel), ⟨by decide, by decide⟩, by decide +kernel⟩, mTs_in 574 (by decide +kernel) (by decide +kernel), mTs_in 10 (by decide +kernel) (by decide +kernel)⟩
theorem lkX8_44 : Cond.methodLink RX8 44 yX10_is ∈ mTs := mTs_in 617 (by decide +kernel) (by decide +kernel)
theorem myX10_is : mYV yX10_is cX10_is 2 (some .boolean) 1 := ⟨⟨mTs_in 620 (by decide +kernel) (by decide +kernel), mTs_in 32 (by decide +kernel) (by decide +kernel), ⟨by decide, by decide⟩, by decide +kernel⟩, mTs_in 618 (by decide +kernel) (by decide +kernel), mTs_in 619 (by decide +kernel) (by decide +kernel)⟩
theorem lkX8_100 : Cond.methodLink RX8 100 yX10_value ∈ mTs := mTs_in 621 (by decide +kernel) (by decide +kernel)
theorem myX10_value : mYV yX10_value cX10_value 4 (some .long) 0 := ⟨⟨mTs_in 624 (by decide +kernel) (by decide +kernel), mTs_in 32 (by decide +kernel) (by decide +kernel), ⟨by decide, by decide⟩, by decide +kernel⟩, mTs_in 622 (by decide +kernel) (by decide +kernel), mTs_in 623 (by decide +kernel) (by decide +kernel)⟩
theorem lkX8_120 : Cond.methodLink RX8 120 yX5_isSquareFree ∈ mTs := mTs_in 630 (by decide +kernel) (by decide +kernel)
theorem myX5_isSquareFree : mYS yX5_isSquareFree cX5_isSquareFree 3 (some .boolean) 1 := ⟨⟨mTs_in 632 (by decide +kernel) (by decide +kernel), mTs_in 53 (by decide +kernel) (by decide +kernel), ⟨by decide, by decide⟩, by decide +kernel⟩, mTs_in 631 (by decide +kernel) (by decide +kernel)⟩
theorem lkX8_89 : Cond.methodLink RX8 89 yX8_readWhole ∈ mTs := mTs_in 613 (by decide +kernel) (by decide +kernel)
theorem myX8_readWhole : mYV yX8_readWhole cX8_readWhole 6 (some .boolean) 2 := ⟨⟨mTs_in 616 (by decide +kernel) (by decide +kernel), mTs_in 31 (by decide +kernel) (by decide +kernel), ⟨by decide, by decide⟩, by decide +kernel⟩, mTs_in 615 (by decide +kernel) (by decide +kernel), mTs_in 14 (by decide +kernel) (by decide +kernel)⟩
theorem lkX8_21 : Cond.fieldLink RX8 21 (TX8 1).1 (TX8 1).2.1 (TX8 1).2.2.1 ∈ mTs := mTs_in 128 (by decide +kernel) (by decide +kernel)
theorem fdX8_1 : mFld 7 1 2 4 RX8 TX8 := ⟨rfl, inX8, by decide, rfl, by decide⟩
theorem lkX8_93 : Cond.methodLink RX8 93 yX0_setFirst ∈ mTs := mTs_in 633 (by decide +kernel) (by decide +kernel)
theorem myX0_setFirst : mYV yX0_setFirst cX0_setFirst 3 none 1 := ⟨⟨mTs_in 636 (by decide +kernel) (by decide +kernel), mTs_in 33 (by decide +kernel) (by decide +kernel), ⟨by decide, by decide⟩, by decide +kernel⟩, mTs_in 634 (by decide +kernel) (by decide +kernel), mTs_in 635 (by decide +kernel) (by decide +kernel)⟩
theorem lkX8_97 : Cond.methodLink RX8 97 yX0_setSecond ∈ mTs := mTs_in 637 (by decide +kernel) (by decide +kernel)
theorem myX0_setSecond : mYV yX0_setSecond cX0_setSecond 3 none 1 := ⟨⟨mTs_in 640 (by decide +kernel) (by decide +kernel), mTs_in 33 (by decide +kernel) (by decide +kernel), ⟨by decide, by decide⟩, by decide +kernel⟩, mTs_in 638 (by decide +kernel) (by decide +kernel), mTs_in 639 (by decide +kernel) (by decide +kernel)⟩
theorem lkX8_108 : Cond.constantLong RX8 108 (7) ∈ mTs := mTs_in 649 (by decide +kernel) (by decide +kernel)
theorem lkX8_110 : Cond.constantLong RX8 110 (13) ∈ mTs := mTs_in 650 (by decide +kernel) (by decide +kernel)
theorem lkX8_112 : Cond.constantLong RX8 112 (19) ∈ mTs := mTs_in 651 (by decide +kernel) (by decide +kernel)
theorem lkX8_114 : Cond.constantLong RX8 114 (31) ∈ mTs := mTs_in 652 (by decide +kernel) (by decide +kernel)
theorem lkX8_116 : Cond.constantLong RX8 116 (37) ∈ mTs := mTs_in 653 (by decide +kernel) (by decide +kernel)
theorem lkX8_118 : Cond.constantLong RX8 118 (43) ∈ mTs := mTs_in 654 (by decide +kernel) (by decide +kernel)
theorem lkX8_104 : Cond.methodLink RX8 104 yX8_isField ∈ mTs := mTs_in 645 (by decide +kernel) (by decide +kernel)
theorem myX8_isField : mYV yX8_isField cX8_isField 3 (some .boolean) 1 := ⟨⟨mTs_in 648 (by decide +kernel) (by decide +kernel), mTs_in 31 (by decide +kernel) (by decide +kernel), ⟨by decide, by decide⟩, by decide +kernel⟩, mTs_in 647 (by decide +kernel) (by decide +kernel), mTs_in 16 (by decide +kernel) (by decide +kernel)⟩
theorem lkX9_22 : Cond.fieldLink RX9 22 (TX9 4).1 (TX9 4).2.1 (TX9 4).2.2.1 ∈ mTs := mTs_in 245 (by decide +kernel) (by decide +kernel)
theorem inX9 : ∀ w ∈ u_ws RX9 TX9 5, w ∈ mTs := mTs_ins _ [246, 248, 250, 252, 254] (by decide +kernel) (by decide +kernel)
theorem fdX9_4 : mFld 8 4 1 5 RX9 TX9 := ⟨rfl, inX9, by decide, rfl, by decide⟩
theorem ptX9_4 : mPut 8 4 1 5 RX9 TX9 tyX9 .long := ⟨fdX9_4, tyX9_ok, nmX9, (by decide +kernel), rfl⟩
theorem lkX9_19 : Cond.fieldLink RX9 19 (TX9 3).1 (TX9 3).2.1 (TX9 3).2.2.1 ∈ mTs := mTs_in 244 (by decide +kernel) (by decide +kernel)
theorem fdX9_3 : mFld 8 3 1 5 RX9 TX9 := ⟨rfl, inX9, by decide, rfl, by decide⟩
theorem lkX9_25 : Cond.constantLong RX9 25 (7) ∈ mTs := mTs_in 412 (by decide +kernel) (by decide +kernel)
theorem lkX9_7 : Cond.fieldLink RX9 7 (TX9 0).1 (TX9 0).2.1 (TX9 0).2.2.1 ∈ mTs := mTs_in 241 (by decide +kernel) (by decide +kernel)
theorem fdX9_0 : mFld 8 0 1 5 RX9 TX9 := ⟨rfl, inX9, by decide, rfl, by decide⟩
theorem lkX9_13 : Cond.fieldLink RX9 13 (TX9 1).1 (TX9 1).2.1 (TX9 1).2.2.1 ∈ mTs := mTs_in 242 (by decide +kernel) (by decide +kernel)
theorem fdX9_1 : mFld 8 1 1 5 RX9 TX9 := ⟨rfl, inX9, by decide, rfl, by decide⟩
theorem lkX9_27 : Cond.methodLink RX9 27 yX5_root ∈ mTs := mTs_in 413 (by decide +kernel) (by decide +kernel)
theorem myX5_root : mYS yX5_root cX5_root 8 (some .long) 1 := ⟨⟨mTs_in 415 (by decide +kernel) (by decide +kernel), mTs_in 53 (by decide +kernel) (by decide +kernel), ⟨by decide, by decide⟩, by decide +kernel⟩, mTs_in 414 (by decide +kernel) (by decide +kernel)⟩
theorem lkX9_16 : Cond.fieldLink RX9 16 (TX9 2).1 (TX9 2).2.1 (TX9 2).2.2.1 ∈ mTs := mTs_in 243 (by decide +kernel) (by decide +kernel)
theorem fdX9_2 : mFld 8 2 1 5 RX9 TX9 := ⟨rfl, inX9, by decide, rfl, by decide⟩
theorem ptX9_2 : mPut 8 2 1 5 RX9 TX9 tyX9 .long := ⟨fdX9_2, tyX9_ok, nmX9, (by decide +kernel), rfl⟩
theorem ptX9_3 : mPut 8 3 1 5 RX9 TX9 tyX9 .long := ⟨fdX9_3, tyX9_ok, nmX9, (by decide +kernel), rfl⟩
theorem ptX9_0 : mPut 8 0 1 5 RX9 TX9 tyX9 .long := ⟨fdX9_0, tyX9_ok, nmX9, (by decide +kernel), rfl⟩
theorem ptX9_1 : mPut 8 1 1 5 RX9 TX9 tyX9 .long := ⟨fdX9_1, tyX9_ok, nmX9, (by decide +kernel), rfl⟩
theorem lkX11_13 : Cond.fieldLink RX11 13 (TX11 1).1 (TX11 1).2.1 (TX11 1).2.2.1 ∈ mTs := mTs_in 294 (by decide +kernel) (by decide +kernel)
theorem inX11 : ∀ w ∈ u_ws RX11 TX11 12, w ∈ mTs := mTs_ins _ [305, 307, 309, 311, 313, 315, 317, 319, 321, 323, 325, 327] (by decide +kernel) (by decide +kernel)
theorem fdX11_1 : mFld 10 1 0 12 RX11 TX11 := ⟨rfl, inX11, by decide, rfl, by decide⟩
theorem lkX11_9 : Cond.fieldLink RX11 9 (TX11 0).1 (TX11 0).2.1 (TX11 0).2.2.1 ∈ mTs := mTs_in 293 (by decide +kernel) (by decide +kernel)
theorem fdX11_0 : mFld 10 0 2 12 RX11 TX11 := ⟨rfl, inX11, by decide, rfl, by decide⟩
theorem ptX11_1 : mPut 10 1 0 12 RX11 TX11 tyX11 .int := ⟨fdX11_1, tyX11_ok, nmX11, (by decide +kernel), rfl⟩
theorem lkX11_80 : Cond.methodLink RX11 80 yX11_putBytes ∈ mTs := mTs_in 507 (by decide +kernel) (by decide +kernel)
theorem myX11_putBytes : mYV yX11_putBytes cX11_putBytes 3 none 1 := ⟨⟨mTs_in 510 (by decide +kernel) (by decide +kernel), mTs_in 30 (by decide +kernel) (by decide +kernel), ⟨by decide, by decide⟩, by decide +kernel⟩, mTs_in 509 (by decide +kernel) (by decide +kernel), mTs_in 3 (by decide +kernel) (by decide +kernel)⟩
theorem lkX11_27 : Cond.fieldLink RX11 27 (TX11 3).1 (TX11 3).2.1 (TX11 3).2.2.1 ∈ mTs := mTs_in 296 (by decide +kernel) (by decide +kernel)
theorem fdX11_3 : mFld 10 3 2 12 RX11 TX11 := ⟨rfl, inX11, by decide, rfl, by decide⟩
theorem lkX11_91 : Cond.methodLink RX11 91 yX0_size ∈ mTs := mTs_in 338 (by decide +kernel) (by decide +kernel)
theorem lkX11_117 : Cond.methodLink RX11 117 yX11_isTold ∈ mTs := mTs_in 334 (by decide +kernel) (by decide +kernel)
theorem myX11_isTold : mYV yX11_isTold cX11_isTold 2 (some .boolean) 1 := ⟨⟨mTs_in 337 (by decide +kernel) (by decide +kernel), mTs_in 30 (by decide +kernel) (by decide +kernel), ⟨by decide, by decide⟩, by decide +kernel⟩, mTs_in 336 (by decide +kernel) (by decide +kernel), mTs_in 0 (by decide +kernel) (by decide +kernel)⟩
theorem lkX11_123 : Cond.methodLink RX11 123 yX0_kind ∈ mTs := mTs_in 392 (by decide +kernel) (by decide +kernel)
theorem lkX11_102 : Cond.methodLink RX11 102 yX11_isQuaternion ∈ mTs := mTs_in 388 (by decide +kernel) (by decide +kernel)
theorem myX11_isQuaternion : mYV yX11_isQuaternion cX11_isQuaternion 2 (some .boolean) 1 := ⟨⟨mTs_in 391 (by decide +kernel) (by decide +kernel), mTs_in 30 (by decide +kernel) (by decide +kernel), ⟨by decide, by decide⟩, by decide +kernel⟩, mTs_in 390 (by decide +kernel) (by decide +kernel), mTs_in 1 (by decide +kernel) (by decide +kernel)⟩
theorem lkX11_49 : Cond.fieldLink RX11 49 (TX11 7).1 (TX11 7).2.1 (TX11 7).2.2.1 ∈ mTs := mTs_in 300 (by decide +kernel) (by decide +kernel)
theorem fdX11_7 : mFld 10 7 2 12 RX11 TX11 := ⟨rfl, inX11, by decide, rfl, by decide⟩
theorem lkX11_106 : Cond.methodLink RX11 106 yX0_first ∈ mTs := mTs_in 400 (by decide +kernel) (by decide +kernel)
theorem lkX11_110 : Cond.methodLink RX11 110 yX0_second ∈ mTs := mTs_in 404 (by decide +kernel) (by decide +kernel)
theorem lkX11_113 : Cond.methodLink RX11 113 yX6_begin ∈ mTs := mTs_in 754 (by decide +kernel) (by decide +kernel)
theorem myX6_begin : mYV yX6_begin cX6_begin 5 none 2 := ⟨⟨mTs_in 757 (by decide +kernel) (by decide +kernel), mTs_in 36 (by decide +kernel) (by decide +kernel), ⟨by decide, by decide⟩, by decide +kernel⟩, mTs_in 755 (by decide +kernel) (by decide +kernel), mTs_in 756 (by decide +kernel) (by decide +kernel)⟩
theorem lkX11_43 : Cond.fieldLink RX11 43 (TX11 6).1 (TX11 6).2.1 (TX11 6).2.2.1 ∈ mTs := mTs_in 299 (by decide +kernel) (by decide +kernel)
theorem fdX11_6 : mFld 10 6 2 12 RX11 TX11 := ⟨rfl, inX11, by decide, rfl, by decide⟩
theorem lkX11_99 : Cond.methodLink RX11 99 yX1_drop ∈ mTs := mTs_in 750 (by decide +kernel) (by decide +kernel)
theorem myX1_drop : mYV yX1_drop cX1_drop 1 none 0 := ⟨⟨mTs_in 753 (by decide +kernel) (by decide +kernel), mTs_in 40 (by decide +kernel) (by decide +kernel), ⟨by decide, by decide⟩, by decide +kernel⟩, mTs_in 751 (by decide +kernel) (by decide +kernel), mTs_in 752 (by decide +kernel) (by decide +kernel)⟩
theorem lkX11_37 : Cond.fieldLink RX11 37 (TX11 5).1 (TX11 5).2.1 (TX11 5).2.2.1 ∈ mTs := mTs_in 298 (by decide +kernel) (by decide +kernel)
theorem fdX11_5 : mFld 10 5 2 12 RX11 TX11 := ⟨rfl, inX11, by decide, rfl, by decide⟩
theorem lkX11_95 : Cond.methodLink RX11 95 yX7_reckon ∈ mTs := mTs_in 680 (by decide +kernel) (by decide +kernel)
theorem myX7_reckon : mYV yX7_reckon cX7_reckon 3 none 1 := ⟨⟨mTs_in 683 (by decide +kernel) (by decide +kernel), mTs_in 34 (by decide +kernel) (by decide +kernel), ⟨by decide, by decide⟩, by decide +kernel⟩, mTs_in 681 (by decide +kernel) (by decide +kernel), mTs_in 682 (by decide +kernel) (by decide +kernel)⟩
theorem lkX11_135 : Cond.methodLink RX11 135 yX7_sixthsAt ∈ mTs := mTs_in 347 (by decide +kernel) (by decide +kernel)
theorem myX7_sixthsAt : mYV yX7_sixthsAt cX7_sixthsAt 4 (some .int) 2 := ⟨⟨mTs_in 350 (by decide +kernel) (by decide +kernel), mTs_in 34 (by decide +kernel) (by decide +kernel), ⟨by decide, by decide⟩, by decide +kernel⟩, mTs_in 348 (by decide +kernel) (by decide +kernel), mTs_in 349 (by decide +kernel) (by decide +kernel)⟩
theorem lkX11_129 : Cond.constant RX11 129 (60000) ∈ mTs := mTs_in 342 (by decide +kernel) (by decide +kernel)
theorem lkX11_130 : Cond.methodLink RX11 130 yX5_isPrime ∈ mTs := mTs_in 343 (by decide +kernel) (by decide +kernel)
theorem myX5_isPrime : mYS yX5_isPrime cX5_isPrime 2 (some .boolean) 1 := ⟨⟨mTs_in 345 (by decide +kernel) (by decide +kernel), mTs_in 53 (by decide +kernel) (by decide +kernel), ⟨by decide, by decide⟩, by decide +kernel⟩, mTs_in 344 (by decide +kernel) (by decide +kernel)⟩
theorem lkX11_142 : Cond.methodLink RX11 142 yX7_placeOf ∈ mTs := mTs_in 779 (by decide +kernel) (by decide +kernel)
theorem myX7_placeOf : mYV yX7_placeOf cX7_placeOf 5 (some .int) 2 := ⟨⟨mTs_in 782 (by decide +kernel) (by decide +kernel), mTs_in 34 (by decide +kernel) (by decide +kernel), ⟨by decide, by decide⟩, by decide +kernel⟩, mTs_in 780 (by decide +kernel) (by decide +kernel), mTs_in 781 (by decide +kernel) (by decide +kernel)⟩
theorem lkX11_139 : Cond.methodLink RX11 139 yX7_howMany ∈ mTs := mTs_in 775 (by decide +kernel) (by decide +kernel)
theorem myX7_howMany : mYV yX7_howMany cX7_howMany 4 (some .int) 1 := ⟨⟨mTs_in 778 (by decide +kernel) (by decide +kernel), mTs_in 34 (by decide +kernel) (by decide +kernel), ⟨by decide, by decide⟩, by decide +kernel⟩, mTs_in 776 (by decide +kernel) (by decide +kernel), mTs_in 777 (by decide +kernel) (by decide +kernel)⟩
theorem lkX11_145 : Cond.methodLink RX11 145 yX7_indexOf ∈ mTs := mTs_in 355 (by decide +kernel) (by decide +kernel)
theorem myX7_indexOf : mYV yX7_indexOf cX7_indexOf 5 (some .int) 1 := ⟨⟨mTs_in 358 (by decide +kernel) (by decide +kernel), mTs_in 34 (by decide +kernel) (by decide +kernel), ⟨by decide, by decide⟩, by decide +kernel⟩, mTs_in 356 (by decide +kernel) (by decide +kernel), mTs_in 357 (by decide +kernel) (by decide +kernel)⟩
theorem lkX11_148 : Cond.methodLink RX11 148 yX7_areAlike ∈ mTs := mTs_in 376 (by decide +kernel) (by decide +kernel)
theorem myX7_areAlike : mYV yX7_areAlike cX7_areAlike 5 (some .boolean) 2 := ⟨⟨mTs_in 379 (by decide +kernel) (by decide +kernel), mTs_in 34 (by decide +kernel) (by decide +kernel), ⟨by decide, by decide⟩, by decide +kernel⟩, mTs_in 377 (by decide +kernel) (by decide +kernel), mTs_in 378 (by decide +kernel) (by decide +kernel)⟩
theorem lkX11_63 : Cond.fieldLink RX11 63 (TX11 9).1 (TX11 9).2.1 (TX11 9).2.2.1 ∈ mTs := mTs_in 302 (by decide +kernel) (by decide +kernel)
theorem fdX11_9 : mFld 10 9 2 12 RX11 TX11 := ⟨rfl, inX11, by decide, rfl, by decide⟩
theorem lkX11_224 : Cond.methodLink RX11 224 yX9_solve ∈ mTs := mTs_in 408 (by decide +kernel) (by decide +kernel)
theorem myX9_solve : mYV yX9_solve cX9_solve 7 (some .boolean) 2 := ⟨⟨mTs_in 411 (by decide +kernel) (by decide +kernel), mTs_in 38 (by decide +kernel) (by decide +kernel), ⟨by decide, by decide⟩, by decide +kernel⟩, mTs_in 409 (by decide +kernel) (by decide +kernel), mTs_in 410 (by decide +kernel) (by decide +kernel)⟩
theorem lkX11_211 : Cond.methodLink RX11 211 yX11_isSplit ∈ mTs := mTs_in 396 (by decide +kernel) (by decide +kernel)
theorem myX11_isSplit : mYV yX11_isSplit cX11_isSplit 2 (some .boolean) 1 := ⟨⟨mTs_in 399 (by decide +kernel) (by decide +kernel), mTs_in 30 (by decide +kernel) (by decide +kernel), ⟨by decide, by decide⟩, by decide +kernel⟩, mTs_in 398 (by decide +kernel) (by decide +kernel), mTs_in 2 (by decide +kernel) (by decide +kernel)⟩
theorem lkX11_214 : Cond.methodLink RX11 214 yX9_part ∈ mTs := mTs_in 417 (by decide +kernel) (by decide +kernel)
theorem myX9_part : mYV yX9_part cX9_part 2 (some .int) 1 := ⟨⟨mTs_in 420 (by decide +kernel) (by decide +kernel), mTs_in 38 (by decide +kernel) (by decide +kernel), ⟨by decide, by decide⟩, by decide +kernel⟩, mTs_in 418 (by decide +kernel) (by decide +kernel), mTs_in 419 (by decide +kernel) (by decide +kernel)⟩
theorem lkX11_228 : Cond.methodLink RX11 228 yX6_discriminant ∈ mTs := mTs_in 425 (by decide +kernel) (by decide +kernel)
theorem myX6_discriminant : mYV yX6_discriminant cX6_discriminant 1 (some .long) 0 := ⟨⟨mTs_in 428 (by decide +kernel) (by decide +kernel), mTs_in 36 (by decide +kernel) (by decide +kernel), ⟨by decide, by decide⟩, by decide +kernel⟩, mTs_in 426 (by decide +kernel) (by decide +kernel), mTs_in 427 (by decide +kernel) (by decide +kernel)⟩
theorem dX7_areAlike_0 : decode cX7_areAlike 0 = .ok (.iconst 1, 1) := by decide +kernel
theorem dX7_areAlike_1 : decode cX7_areAlike 1 = .ok (.istore_n 3, 1) := by decide +kernel
theorem dX7_areAlike_2 : decode cX7_areAlike 2 = .ok (.iconst 0, 1) := by decide +kernel
theorem dX7_areAlike_3 : decode cX7_areAlike 3 = .ok (.istore 4, 2) := by decide +kernel
theorem dX7_areAlike_5 : decode cX7_areAlike 5 = .ok (.iload 4, 2) := by decide +kernel
theorem dX7_areAlike_7 : decode cX7_areAlike 7 = .ok (.aload_n 0, 1) := by decide +kernel
theorem dX7_areAlike_8 : decode cX7_areAlike 8 = .ok (.getfield 9, 3) := by decide +kernel
theorem dX7_areAlike_11 : decode cX7_areAlike 11 = .ok (.if_icmp .ge 40, 3) := by decide +kernel
theorem dX7_areAlike_14 : decode cX7_areAlike 14 = .ok (.iload_n 3, 1) := by decide +kernel
theorem dX7_areAlike_15 : decode cX7_areAlike 15 = .ok (.ifCond .eq 36, 3) := by decide +kernel
theorem dX7_areAlike_18 : decode cX7_areAlike 18 = .ok (.aload_n 0, 1) := by decide +kernel
theorem dX7_areAlike_19 : decode cX7_areAlike 19 = .ok (.getfield 24, 3) := by decide +kernel
theorem dX7_areAlike_22 : decode cX7_areAlike 22 = .ok (.iload_n 1, 1) := by decide +kernel
theorem dX7_areAlike_23 : decode cX7_areAlike 23 = .ok (.aaload, 1) := by decide +kernel
theorem dX7_areAlike_24 : decode cX7_areAlike 24 = .ok (.iload 4, 2) := by decide +kernel
theorem dX7_areAlike_26 : decode cX7_areAlike 26 = .ok (.iaload, 1) := by decide +kernel
theorem dX7_areAlike_27 : decode cX7_areAlike 27 = .ok (.aload_n 0, 1) := by decide +kernel
theorem dX7_areAlike_28 : decode cX7_areAlike 28 = .ok (.getfield 24, 3) := by decide +kernel
theorem dX7_areAlike_31 : decode cX7_areAlike 31 = .ok (.iload_n 2, 1) := by decide +kernel
theorem dX7_areAlike_32 : decode cX7_areAlike 32 = .ok (.aaload, 1) := by decide +kernel
theorem dX7_areAlike_33 : decode cX7_areAlike 33 = .ok (.iload 4, 2) := by decide +kernel
theorem dX7_areAlike_35 : decode cX7_areAlike 35 = .ok (.iaload, 1) := by decide +kernel
theorem dX7_areAlike_36 : decode cX7_areAlike 36 = .ok (.if_icmp .ne 7, 3) := by decide +kernel
theorem dX7_areAlike_39 : decode cX7_areAlike 39 = .ok (.iconst 1, 1) := by decide +kernel
theorem dX7_areAlike_40 : decode cX7_areAlike 40 = .ok (.goto 4, 3) := by decide +kernel
theorem dX7_areAlike_43 : decode cX7_areAlike 43 = .ok (.iconst 0, 1) := by decide +kernel
theorem dX7_areAlike_44 : decode cX7_areAlike 44 = .ok (.istore_n 3, 1) := by decide +kernel
theorem dX7_areAlike_45 : decode cX7_areAlike 45 = .ok (.iinc 4 1, 3) := by decide +kernel
theorem dX7_areAlike_48 : decode cX7_areAlike 48 = .ok (.goto (-43), 3) := by decide +kernel
theorem dX7_areAlike_51 : decode cX7_areAlike 51 = .ok (.iload_n 3, 1) := by decide +kernel
theorem dX7_areAlike_52 : decode cX7_areAlike 52 = .ok (.ireturn, 1) := by decide +kernel
theorem dX10_isLetter_0 : decode cX10_isLetter 0 = .ok (.aload_n 0, 1) := by decide +kernel
theorem dX10_isLetter_1 : decode cX10_isLetter 1 = .ok (.getfield 9, 3) := by decide +kernel
theorem dX10_isLetter_4 : decode cX10_isLetter 4 = .ok (.iload_n 1, 1) := by decide +kernel
theorem dX10_isLetter_5 : decode cX10_isLetter 5 = .ok (.baload, 1) := by decide +kernel
theorem dX10_isLetter_6 : decode cX10_isLetter 6 = .ok (.bipush 97, 2) := by decide +kernel
theorem dX10_isLetter_8 : decode cX10_isLetter 8 = .ok (.if_icmp .lt 18, 3) := by decide +kernel
theorem dX10_isLetter_11 : decode cX10_isLetter 11 = .ok (.aload_n 0, 1) := by decide +kernel
theorem dX10_isLetter_12 : decode cX10_isLetter 12 = .ok (.getfield 9, 3) := by decide +kernel
theorem dX10_isLetter_15 : decode cX10_isLetter 15 = .ok (.iload_n 1, 1) := by decide +kernel
theorem dX10_isLetter_16 : decode cX10_isLetter 16 = .ok (.baload, 1) := by decide +kernel
theorem dX10_isLetter_17 : decode cX10_isLetter 17 = .ok (.bipush 122, 2) := by decide +kernel
theorem dX10_isLetter_19 : decode cX10_isLetter 19 = .ok (.if_icmp .gt 7, 3) := by decide +kernel
theorem dX10_isLetter_22 : decode cX10_isLetter 22 = .ok (.iconst 1, 1) := by decide +kernel
theorem dX10_isLetter_23 : decode cX10_isLetter 23 = .ok (.goto 4, 3) := by decide +kernel
theorem dX10_isLetter_26 : decode cX10_isLetter 26 = .ok (.iconst 0, 1) := by decide +kernel
theorem dX10_isLetter_27 : decode cX10_isLetter 27 = .ok (.ireturn, 1) := by decide +kernel
theorem dX10_isDigit_0 : decode cX10_isDigit 0 = .ok (.aload_n 0, 1) := by decide +kernel
theorem dX10_isDigit_1 : decode cX10_isDigit 1 = .ok (.getfield 9, 3) := by decide +kernel
theorem dX10_isDigit_4 : decode cX10_isDigit 4 = .ok (.iload_n 1, 1) := by decide +kernel
theorem dX10_isDigit_5 : decode cX10_isDigit 5 = .ok (.baload, 1) := by decide +kernel
theorem dX10_isDigit_6 : decode cX10_isDigit 6 = .ok (.bipush 48, 2) := by decide +kernel
theorem dX10_isDigit_8 : decode cX10_isDigit 8 = .ok (.if_icmp .lt 18, 3) := by decide +kernel
theorem dX10_isDigit_11 : decode cX10_isDigit 11 = .ok (.aload_n 0, 1) := by decide +kernel
theorem dX10_isDigit_12 : decode cX10_isDigit 12 = .ok (.getfield 9, 3) := by decide +kernel
theorem dX10_isDigit_15 : decode cX10_isDigit 15 = .ok (.iload_n 1, 1) := by decide +kernel
theorem dX10_isDigit_16 : decode cX10_isDigit 16 = .ok (.baload, 1) := by decide +kernel
theorem dX10_isDigit_17 : decode cX10_isDigit 17 = .ok (.bipush 57, 2) := by decide +kernel
theorem dX10_isDigit_19 : decode cX10_isDigit 19 = .ok (.if_icmp .gt 7, 3) := by decide +kernel
theorem dX10_isDigit_22 : decode cX10_isDigit 22 = .ok (.iconst 1, 1) := by decide +kernel
theorem dX10_isDigit_23 : decode cX10_isDigit 23 = .ok (.goto 4, 3) := by decide +kernel
theorem dX10_isDigit_26 : decode cX10_isDigit 26 = .ok (.iconst 0, 1) := by decide +kernel
theorem dX10_isDigit_27 : decode cX10_isDigit 27 = .ok (.ireturn, 1) := by decide +kernel
theorem dX10_takeRun_0 : decode cX10_takeRun 0 = .ok (.aload_n 0, 1) := by decide +kernel
theorem dX10_takeRun_1 : decode cX10_takeRun 1 = .ok (.aload_n 0, 1) := by decide +kernel
theorem dX10_takeRun_2 : decode cX10_takeRun 2 = .ok (.getfield 19, 3) := by decide +kernel
theorem dX10_takeRun_5 : decode cX10_takeRun 5 = .ok (.iconst 1, 1) := by decide +kernel
theorem dX10_takeRun_6 : decode cX10_takeRun 6 = .ok (.iadd, 1) := by decide +kernel
theorem dX10_takeRun_7 : decode cX10_takeRun 7 = .ok (.putfield 22, 3) := by decide +kernel
theorem dX10_takeRun_10 : decode cX10_takeRun 10 = .ok (.aload_n 0, 1) := by decide +kernel
theorem dX10_takeRun_11 : decode cX10_takeRun 11 = .ok (.getfield 22, 3) := by decide +kernel
theorem dX10_takeRun_14 : decode cX10_takeRun 14 = .ok (.aload_n 0, 1) := by decide +kernel
theorem dX10_takeRun_15 : decode cX10_takeRun 15 = .ok (.getfield 15, 3) := by decide +kernel
theorem dX10_takeRun_18 : decode cX10_takeRun 18 = .ok (.if_icmp .ge 46, 3) := by decide +kernel
theorem dX10_takeRun_21 : decode cX10_takeRun 21 = .ok (.iload_n 1, 1) := by decide +kernel
theorem dX10_takeRun_22 : decode cX10_takeRun 22 = .ok (.iconst 1, 1) := by decide +kernel
theorem dX10_takeRun_23 : decode cX10_takeRun 23 = .ok (.if_icmp .ne 17, 3) := by decide +kernel
theorem dX10_takeRun_26 : decode cX10_takeRun 26 = .ok (.aload_n 0, 1) := by decide +kernel
theorem dX10_takeRun_27 : decode cX10_takeRun 27 = .ok (.aload_n 0, 1) := by decide +kernel
theorem dX10_takeRun_28 : decode cX10_takeRun 28 = .ok (.getfield 22, 3) := by decide +kernel
theorem dX10_takeRun_31 : decode cX10_takeRun 31 = .ok (.invokevirtual 31, 3) := by decide +kernel
theorem dX10_takeRun_34 : decode cX10_takeRun 34 = .ok (.ifCond .eq 30, 3) := by decide +kernel
theorem dX10_takeRun_37 : decode cX10_takeRun 37 = .ok (.goto 14, 3) := by decide +kernel
theorem dX10_takeRun_40 : decode cX10_takeRun 40 = .ok (.aload_n 0, 1) := by decide +kernel
theorem dX10_takeRun_41 : decode cX10_takeRun 41 = .ok (.aload_n 0, 1) := by decide +kernel
theorem dX10_takeRun_42 : decode cX10_takeRun 42 = .ok (.getfield 22, 3) := by decide +kernel
theorem dX10_takeRun_45 : decode cX10_takeRun 45 = .ok (.invokevirtual 39, 3) := by decide +kernel
theorem dX10_takeRun_48 : decode cX10_takeRun 48 = .ok (.ifCond .eq 16, 3) := by decide +kernel
theorem dX10_takeRun_51 : decode cX10_takeRun 51 = .ok (.aload_n 0, 1) := by decide +kernel
theorem dX10_takeRun_52 : decode cX10_takeRun 52 = .ok (.dup, 1) := by decide +kernel
theorem dX10_takeRun_53 : decode cX10_takeRun 53 = .ok (.getfield 22, 3) := by decide +kernel
theorem dX10_takeRun_56 : decode cX10_takeRun 56 = .ok (.iconst 1, 1) := by decide +kernel
theorem dX10_takeRun_57 : decode cX10_takeRun 57 = .ok (.iadd, 1) := by decide +kernel
theorem dX10_takeRun_58 : decode cX10_takeRun 58 = .ok (.putfield 22, 3) := by decide +kernel
theorem dX10_takeRun_61 : decode cX10_takeRun 61 = .ok (.goto (-51), 3) := by decide +kernel
theorem dX10_takeRun_64 : decode cX10_takeRun 64 = .ok (.aload_n 0, 1) := by decide +kernel
theorem dX10_takeRun_65 : decode cX10_takeRun 65 = .ok (.iload_n 1, 1) := by decide +kernel
theorem dX10_takeRun_66 : decode cX10_takeRun 66 = .ok (.iconst 1, 1) := by decide +kernel
theorem dX10_takeRun_67 : decode cX10_takeRun 67 = .ok (.if_icmp .ne 22, 3) := by decide +kernel
theorem dX10_takeRun_70 : decode cX10_takeRun 70 = .ok (.aload_n 0, 1) := by decide +kernel
theorem dX10_takeRun_71 : decode cX10_takeRun 71 = .ok (.getfield 22, 3) := by decide +kernel
theorem dX10_takeRun_74 : decode cX10_takeRun 74 = .ok (.aload_n 0, 1) := by decide +kernel
theorem dX10_takeRun_75 : decode cX10_takeRun 75 = .ok (.getfield 19, 3) := by decide +kernel
theorem dX10_takeRun_78 : decode cX10_takeRun 78 = .ok (.isub, 1) := by decide +kernel
theorem dX10_takeRun_79 : decode cX10_takeRun 79 = .ok (.bipush 10, 2) := by decide +kernel
theorem dX10_takeRun_81 : decode cX10_takeRun 81 = .ok (.if_icmp .le 8, 3) := by decide +kernel
theorem dX10_takeRun_84 : decode cX10_takeRun 84 = .ok (.bipush 6, 2) := by decide +kernel
theorem dX10_takeRun_86 : decode cX10_takeRun 86 = .ok (.goto 4, 3) := by decide +kernel
theorem dX10_takeRun_89 : decode cX10_takeRun 89 = .ok (.iload_n 1, 1) := by decide +kernel
theorem dX10_takeRun_90 : decode cX10_takeRun 90 = .ok (.putfield 25, 3) := by decide +kernel
theorem dX10_takeRun_93 : decode cX10_takeRun 93 = .ok (.return_, 1) := by decide +kernel
theorem dX10_signKind_0 : decode cX10_signKind 0 = .ok (.iload_n 1, 1) := by decide +kernel
theorem dX10_signKind_1 : decode cX10_signKind 1 = .ok (.lookupswitch 41 #[(43, 35), (45, 37), (59, 39)], 35) := by decide +kernel
theorem dX10_signKind_36 : decode cX10_signKind 36 = .ok (.iconst 3, 1) := by decide +kernel
theorem dX10_signKind_37 : decode cX10_signKind 37 = .ok (.ireturn, 1) := by decide +kernel
theorem dX10_signKind_38 : decode cX10_signKind 38 = .ok (.iconst 4, 1) := by decide +kernel
theorem dX10_signKind_39 : decode cX10_signKind 39 = .ok (.ireturn, 1) := by decide +kernel
theorem dX10_signKind_40 : decode cX10_signKind 40 = .ok (.iconst 5, 1) := by decide +kernel
theorem dX10_signKind_41 : decode cX10_signKind 41 = .ok (.ireturn, 1) := by decide +kernel
theorem dX10_signKind_42 : decode cX10_signKind 42 = .ok (.bipush 6, 2) := by decide +kernel
theorem dX10_signKind_44 : decode cX10_signKind 44 = .ok (.ireturn, 1) := by decide +kernel
theorem dX10_step_0 : decode cX10_step 0 = .ok (.aload_n 0, 1) := by decide +kernel
theorem dX10_step_1 : decode cX10_step 1 = .ok (.aload_n 0, 1) := by decide +kernel
theorem dX10_step_2 : decode cX10_step 2 = .ok (.getfield 22, 3) := by decide +kernel
theorem dX10_step_5 : decode cX10_step 5 = .ok (.putfield 19, 3) := by decide +kernel
theorem dX10_step_8 : decode cX10_step 8 = .ok (.aload_n 0, 1) := by decide +kernel
theorem dX10_step_9 : decode cX10_step 9 = .ok (.getfield 19, 3) := by decide +kernel
theorem dX10_step_12 : decode cX10_step 12 = .ok (.aload_n 0, 1) := by decide +kernel
theorem dX10_step_13 : decode cX10_step 13 = .ok (.getfield 15, 3) := by decide +kernel
theorem dX10_step_16 : decode cX10_step 16 = .ok (.if_icmp .ge 44, 3) := by decide +kernel
theorem dX10_step_19 : decode cX10_step 19 = .ok (.aload_n 0, 1) := by decide +kernel
theorem dX10_step_20 : decode cX10_step 20 = .ok (.getfield 9, 3) := by decide +kernel
theorem dX10_step_23 : decode cX10_step 23 = .ok (.aload_n 0, 1) := by decide +kernel
theorem dX10_step_24 : decode cX10_step 24 = .ok (.getfield 19, 3) := by decide +kernel
theorem dX10_step_27 : decode cX10_step 27 = .ok (.baload, 1) := by decide +kernel
theorem dX10_step_28 : decode cX10_step 28 = .ok (.bipush 32, 2) := by decide +kernel
theorem dX10_step_30 : decode cX10_step 30 = .ok (.if_icmp .eq 17, 3) := by decide +kernel
theorem dX10_step_33 : decode cX10_step 33 = .ok (.aload_n 0, 1) := by decide +kernel
theorem dX10_step_34 : decode cX10_step 34 = .ok (.getfield 9, 3) := by decide +kernel
theorem dX10_step_37 : decode cX10_step 37 = .ok (.aload_n 0, 1) := by decide +kernel
theorem dX10_step_38 : decode cX10_step 38 = .ok (.getfield 19, 3) := by decide +kernel
theorem dX10_step_41 : decode cX10_step 41 = .ok (.baload, 1) := by decide +kernel
theorem dX10_step_42 : decode cX10_step 42 = .ok (.bipush 10, 2) := by decide +kernel
theorem dX10_step_44 : decode cX10_step 44 = .ok (.if_icmp .ne 16, 3) := by decide +kernel
theorem dX10_step_47 : decode cX10_step 47 = .ok (.aload_n 0, 1) := by decide +kernel
theorem dX10_step_48 : decode cX10_step 48 = .ok (.dup, 1) := by decide +kernel
theorem dX10_step_49 : decode cX10_step 49 = .ok (.getfield 19, 3) := by decide +kernel
theorem dX10_step_52 : decode cX10_step 52 = .ok (.iconst 1, 1) := by decide +kernel
theorem dX10_step_53 : decode cX10_step 53 = .ok (.iadd, 1) := by decide +kernel
theorem dX10_step_54 : decode cX10_step 54 = .ok (.putfield 19, 3) := by decide +kernel
theorem dX10_step_57 : decode cX10_step 57 = .ok (.goto (-49), 3) := by decide +kernel
theorem dX10_step_60 : decode cX10_step 60 = .ok (.aload_n 0, 1) := by decide +kernel
theorem dX10_step_61 : decode cX10_step 61 = .ok (.getfield 19, 3) := by decide +kernel
theorem dX10_step_64 : decode cX10_step 64 = .ok (.aload_n 0, 1) := by decide +kernel
theorem dX10_step_65 : decode cX10_step 65 = .ok (.getfield 15, 3) := by decide +kernel
theorem dX10_step_68 : decode cX10_step 68 = .ok (.if_icmp .lt 17, 3) := by decide +kernel
theorem dX10_step_71 : decode cX10_step 71 = .ok (.aload_n 0, 1) := by decide +kernel
theorem dX10_step_72 : decode cX10_step 72 = .ok (.iconst 0, 1) := by decide +kernel
theorem dX10_step_73 : decode cX10_step 73 = .ok (.putfield 25, 3) := by decide +kernel
theorem dX10_step_76 : decode cX10_step 76 = .ok (.aload_n 0, 1) := by decide +kernel
theorem dX10_step_77 : decode cX10_step 77 = .ok (.aload_n 0, 1) := by decide +kernel
theorem dX10_step_78 : decode cX10_step 78 = .ok (.getfield 19, 3) := by decide +kernel
theorem dX10_step_81 : decode cX10_step 81 = .ok (.putfield 22, 3) := by decide +kernel
theorem dX10_step_84 : decode cX10_step 84 = .ok (.return_, 1) := by decide +kernel
theorem dX10_step_85 : decode cX10_step 85 = .ok (.aload_n 0, 1) := by decide +kernel
theorem dX10_step_86 : decode cX10_step 86 = .ok (.aload_n 0, 1) := by decide +kernel
theorem dX10_step_87 : decode cX10_step 87 = .ok (.getfield 19, 3) := by decide +kernel
theorem dX10_step_90 : decode cX10_step 90 = .ok (.invokevirtual 31, 3) := by decide +kernel
theorem dX10_step_93 : decode cX10_step 93 = .ok (.ifCond .eq 11, 3) := by decide +kernel
theorem dX10_step_96 : decode cX10_step 96 = .ok (.aload_n 0, 1) := by decide +kernel
theorem dX10_step_97 : decode cX10_step 97 = .ok (.iconst 1, 1) := by decide +kernel
theorem dX10_step_98 : decode cX10_step 98 = .ok (.invokevirtual 35, 3) := by decide +kernel
theorem dX10_step_101 : decode cX10_step 101 = .ok (.goto 49, 3) := by decide +kernel
theorem dX10_step_104 : decode cX10_step 104 = .ok (.aload_n 0, 1) := by decide +kernel
theorem dX10_step_105 : decode cX10_step 105 = .ok (.aload_n 0, 1) := by decide +kernel
theorem dX10_step_106 : decode cX10_step 106 = .ok (.getfield 19, 3) := by decide +kernel
theorem dX10_step_109 : decode cX10_step 109 = .ok (.invokevirtual 39, 3) := by decide +kernel
theorem dX10_step_112 : decode cX10_step 112 = .ok (.ifCond .eq 11, 3) := by decide +kernel
theorem dX10_step_115 : decode cX10_step 115 = .ok (.aload_n 0, 1) := by decide +kernel
theorem dX10_step_116 : decode cX10_step 116 = .ok (.iconst 2, 1) := by decide +kernel
theorem dX10_step_117 : decode cX10_step 117 = .ok (.invokevirtual 35, 3) := by decide +kernel
theorem dX10_step_120 : decode cX10_step 120 = .ok (.goto 30, 3) := by decide +kernel
theorem dX10_step_123 : decode cX10_step 123 = .ok (.aload_n 0, 1) := by decide +kernel
theorem dX10_step_124 : decode cX10_step 124 = .ok (.aload_n 0, 1) := by decide +kernel
theorem dX10_step_125 : decode cX10_step 125 = .ok (.aload_n 0, 1) := by decide +kernel
theorem dX10_step_126 : decode cX10_step 126 = .ok (.getfield 9, 3) := by decide +kernel
theorem dX10_step_129 : decode cX10_step 129 = .ok (.aload_n 0, 1) := by decide +kernel
theorem dX10_step_130 : decode cX10_step 130 = .ok (.getfield 19, 3) := by decide +kernel
theorem dX10_step_133 : decode cX10_step 133 = .ok (.baload, 1) := by decide +kernel
theorem dX10_step_134 : decode cX10_step 134 = .ok (.invokevirtual 42, 3) := by decide +kernel
theorem dX10_step_137 : decode cX10_step 137 = .ok (.putfield 25, 3) := by decide +kernel
theorem dX10_step_140 : decode cX10_step 140 = .ok (.aload_n 0, 1) := by decide +kernel
theorem dX10_step_141 : decode cX10_step 141 = .ok (.aload_n 0, 1) := by decide +kernel
theorem dX10_step_142 : decode cX10_step 142 = .ok (.getfield 19, 3) := by decide +kernel
theorem dX10_step_145 : decode cX10_step 145 = .ok (.iconst 1, 1) := by decide +kernel
theorem dX10_step_146 : decode cX10_step 146 = .ok (.iadd, 1) := by decide +kernel
theorem dX10_step_147 : decode cX10_step 147 = .ok (.putfield 22, 3) := by decide +kernel
theorem dX10_step_150 : decode cX10_step 150 = .ok (.return_, 1) := by decide +kernel
theorem dX10_begin_0 : decode cX10_begin 0 = .ok (.aload_n 0, 1) := by decide +kernel
theorem dX10_begin_1 : decode cX10_begin 1 = .ok (.aload_n 1, 1) := by decide +kernel
theorem dX10_begin_2 : decode cX10_begin 2 = .ok (.putfield 9, 3) := by decide +kernel
theorem dX10_begin_5 : decode cX10_begin 5 = .ok (.aload_n 0, 1) := by decide +kernel
theorem dX10_begin_6 : decode cX10_begin 6 = .ok (.iload_n 2, 1) := by decide +kernel
theorem dX10_begin_7 : decode cX10_begin 7 = .ok (.aload_n 1, 1) := by decide +kernel
theorem dX10_begin_8 : decode cX10_begin 8 = .ok (.arraylength, 1) := by decide +kernel
theorem dX10_begin_9 : decode cX10_begin 9 = .ok (.if_icmp .ge 7, 3) := by decide +kernel
theorem dX10_begin_12 : decode cX10_begin 12 = .ok (.iload_n 2, 1) := by decide +kernel
theorem dX10_begin_13 : decode cX10_begin 13 = .ok (.goto 5, 3) := by decide +kernel
theorem dX10_begin_16 : decode cX10_begin 16 = .ok (.aload_n 1, 1) := by decide +kernel
theorem dX10_begin_17 : decode cX10_begin 17 = .ok (.arraylength, 1) := by decide +kernel
theorem dX10_begin_18 : decode cX10_begin 18 = .ok (.putfield 15, 3) := by decide +kernel
theorem dX10_begin_21 : decode cX10_begin 21 = .ok (.aload_n 0, 1) := by decide +kernel
theorem dX10_begin_22 : decode cX10_begin 22 = .ok (.iconst 0, 1) := by decide +kernel
theorem dX10_begin_23 : decode cX10_begin 23 = .ok (.putfield 22, 3) := by decide +kernel
theorem dX10_begin_26 : decode cX10_begin 26 = .ok (.aload_n 0, 1) := by decide +kernel
theorem dX10_begin_27 : decode cX10_begin 27 = .ok (.invokevirtual 28, 3) := by decide +kernel
theorem dX10_begin_30 : decode cX10_begin 30 = .ok (.return_, 1) := by decide +kernel
theorem dX10_start_0 : decode cX10_start 0 = .ok (.aload_n 0, 1) := by decide +kernel
theorem dX10_start_1 : decode cX10_start 1 = .ok (.getfield 19, 3) := by decide +kernel
theorem dX10_start_4 : decode cX10_start 4 = .ok (.ireturn, 1) := by decide +kernel
theorem dX8_refuse_0 : decode cX8_refuse 0 = .ok (.aload_n 0, 1) := by decide +kernel
theorem dX8_refuse_1 : decode cX8_refuse 1 = .ok (.bipush 8, 2) := by decide +kernel
theorem dX8_refuse_3 : decode cX8_refuse 3 = .ok (.aload_n 0, 1) := by decide +kernel
theorem dX8_refuse_4 : decode cX8_refuse 4 = .ok (.getfield 12, 3) := by decide +kernel
theorem dX8_refuse_7 : decode cX8_refuse 7 = .ok (.invokevirtual 48, 3) := by decide +kernel
theorem dX8_refuse_10 : decode cX8_refuse 10 = .ok (.imul, 1) := by decide +kernel
theorem dX8_refuse_11 : decode cX8_refuse 11 = .ok (.iload_n 1, 1) := by decide +kernel
theorem dX8_refuse_12 : decode cX8_refuse 12 = .ok (.iadd, 1) := by decide +kernel
theorem dX8_refuse_13 : decode cX8_refuse 13 = .ok (.putfield 25, 3) := by decide +kernel
theorem dX8_refuse_16 : decode cX8_refuse 16 = .ok (.iconst 0, 1) := by decide +kernel
theorem dX8_refuse_17 : decode cX8_refuse 17 = .ok (.ireturn, 1) := by decide +kernel
theorem dX10_is_0 : decode cX10_is 0 = .ok (.aload_n 0, 1) := by decide +kernel
theorem dX10_is_1 : decode cX10_is 1 = .ok (.getfield 25, 3) := by decide +kernel
theorem dX10_is_4 : decode cX10_is 4 = .ok (.iload_n 1, 1) := by decide +kernel
theorem dX10_is_5 : decode cX10_is 5 = .ok (.if_icmp .ne 7, 3) := by decide +kernel
theorem dX10_is_8 : decode cX10_is 8 = .ok (.iconst 1, 1) := by decide +kernel
theorem dX10_is_9 : decode cX10_is 9 = .ok (.goto 4, 3) := by decide +kernel
theorem dX10_is_12 : decode cX10_is 12 = .ok (.iconst 0, 1) := by decide +kernel
theorem dX10_is_13 : decode cX10_is 13 = .ok (.ireturn, 1) := by decide +kernel
theorem dX10_value_0 : decode cX10_value 0 = .ok (.lconst 0, 1) := by decide +kernel
theorem dX10_value_1 : decode cX10_value 1 = .ok (.lstore_n 1, 1) := by decide +kernel
theorem dX10_value_2 : decode cX10_value 2 = .ok (.aload_n 0, 1) := by decide +kernel
theorem dX10_value_3 : decode cX10_value 3 = .ok (.getfield 19, 3) := by decide +kernel
theorem dX10_value_6 : decode cX10_value 6 = .ok (.istore_n 3, 1) := by decide +kernel
theorem dX10_value_7 : decode cX10_value 7 = .ok (.iload_n 3, 1) := by decide +kernel
theorem dX10_value_8 : decode cX10_value 8 = .ok (.aload_n 0, 1) := by decide +kernel
theorem dX10_value_9 : decode cX10_value 9 = .ok (.getfield 22, 3) := by decide +kernel
theorem dX10_value_12 : decode cX10_value 12 = .ok (.if_icmp .ge 40, 3) := by decide +kernel
theorem dX10_value_15 : decode cX10_value 15 = .ok (.aload_n 0, 1) := by decide +kernel
theorem dX10_value_16 : decode cX10_value 16 = .ok (.getfield 25, 3) := by decide +kernel
theorem dX10_value_19 : decode cX10_value 19 = .ok (.iconst 2, 1) := by decide +kernel
theorem dX10_value_20 : decode cX10_value 20 = .ok (.if_icmp .ne 32, 3) := by decide +kernel
theorem dX10_value_23 : decode cX10_value 23 = .ok (.lload_n 1, 1) := by decide +kernel
theorem dX10_value_24 : decode cX10_value 24 = .ok (.ldc2_w 48, 3) := by decide +kernel
theorem dX10_value_27 : decode cX10_value 27 = .ok (.lmul, 1) := by decide +kernel
theorem dX10_value_28 : decode cX10_value 28 = .ok (.aload_n 0, 1) := by decide +kernel
theorem dX10_value_29 : decode cX10_value 29 = .ok (.getfield 9, 3) := by decide +kernel
theorem dX10_value_32 : decode cX10_value 32 = .ok (.iload_n 3, 1) := by decide +kernel
theorem dX10_value_33 : decode cX10_value 33 = .ok (.baload, 1) := by decide +kernel
theorem dX10_value_34 : decode cX10_value 34 = .ok (.bipush 48, 2) := by decide +kernel
theorem dX10_value_36 : decode cX10_value 36 = .ok (.isub, 1) := by decide +kernel
theorem dX10_value_37 : decode cX10_value 37 = .ok (.i2l, 1) := by decide +kernel
theorem dX10_value_38 : decode cX10_value 38 = .ok (.ladd, 1) := by decide +kernel
theorem dX10_value_39 : decode cX10_value 39 = .ok (.ldc2_w 50, 3) := by decide +kernel
theorem dX10_value_42 : decode cX10_value 42 = .ok (.invokestatic 52, 3) := by decide +kernel
theorem dX10_value_45 : decode cX10_value 45 = .ok (.lstore_n 1, 1) := by decide +kernel
theorem dX10_value_46 : decode cX10_value 46 = .ok (.iinc 3 1, 3) := by decide +kernel
theorem dX10_value_49 : decode cX10_value 49 = .ok (.goto (-42), 3) := by decide +kernel
theorem dX10_value_52 : decode cX10_value 52 = .ok (.lload_n 1, 1) := by decide +kernel
theorem dX10_value_53 : decode cX10_value 53 = .ok (.lreturn, 1) := by decide +kernel
theorem dX8_readWhole_0 : decode cX8_readWhole 0 = .ok (.aload_n 0, 1) := by decide +kernel
theorem dX8_readWhole_1 : decode cX8_readWhole 1 = .ok (.getfield 12, 3) := by decide +kernel
theorem dX8_readWhole_4 : decode cX8_readWhole 4 = .ok (.iconst 4, 1) := by decide +kernel
theorem dX8_readWhole_5 : decode cX8_readWhole 5 = .ok (.invokevirtual 44, 3) := by decide +kernel
theorem dX8_readWhole_8 : decode cX8_readWhole 8 = .ok (.istore_n 3, 1) := by decide +kernel
theorem dX8_readWhole_9 : decode cX8_readWhole 9 = .ok (.iload_n 3, 1) := by decide +kernel
theorem dX8_readWhole_10 : decode cX8_readWhole 10 = .ok (.ifCond .eq 10, 3) := by decide +kernel
theorem dX8_readWhole_13 : decode cX8_readWhole 13 = .ok (.aload_n 0, 1) := by decide +kernel
theorem dX8_readWhole_14 : decode cX8_readWhole 14 = .ok (.getfield 12, 3) := by decide +kernel
theorem dX8_readWhole_17 : decode cX8_readWhole 17 = .ok (.invokevirtual 61, 3) := by decide +kernel
theorem dX8_readWhole_20 : decode cX8_readWhole 20 = .ok (.aload_n 0, 1) := by decide +kernel
theorem dX8_readWhole_21 : decode cX8_readWhole 21 = .ok (.getfield 12, 3) := by decide +kernel
theorem dX8_readWhole_24 : decode cX8_readWhole 24 = .ok (.iconst 2, 1) := by decide +kernel
theorem dX8_readWhole_25 : decode cX8_readWhole 25 = .ok (.invokevirtual 44, 3) := by decide +kernel
theorem dX8_readWhole_28 : decode cX8_readWhole 28 = .ok (.ifCond .ne 9, 3) := by decide +kernel
theorem dX8_readWhole_31 : decode cX8_readWhole 31 = .ok (.aload_n 0, 1) := by decide +kernel
theorem dX8_readWhole_32 : decode cX8_readWhole 32 = .ok (.iconst 1, 1) := by decide +kernel
theorem dX8_readWhole_33 : decode cX8_readWhole 33 = .ok (.invokevirtual 55, 3) := by decide +kernel
theorem dX8_readWhole_36 : decode cX8_readWhole 36 = .ok (.ireturn, 1) := by decide +kernel
theorem dX8_readWhole_37 : decode cX8_readWhole 37 = .ok (.aload_n 0, 1) := by decide +kernel
theorem dX8_readWhole_38 : decode cX8_readWhole 38 = .ok (.getfield 12, 3) := by decide +kernel
theorem dX8_readWhole_41 : decode cX8_readWhole 41 = .ok (.invokevirtual 100, 3) := by decide +kernel
theorem dX8_readWhole_44 : decode cX8_readWhole 44 = .ok (.lstore 4, 2) := by decide +kernel
theorem dX8_readWhole_46 : decode cX8_readWhole 46 = .ok (.lload 4, 2) := by decide +kernel
theorem dX8_readWhole_48 : decode cX8_readWhole 48 = .ok (.lconst 0, 1) := by decide +kernel
theorem dX8_readWhole_49 : decode cX8_readWhole 49 = .ok (.lcmp, 1) := by decide +kernel
theorem dX8_readWhole_50 : decode cX8_readWhole 50 = .ok (.ifCond .eq 23, 3) := by decide +kernel
theorem dX8_readWhole_53 : decode cX8_readWhole 53 = .ok (.lload 4, 2) := by decide +kernel
theorem dX8_readWhole_55 : decode cX8_readWhole 55 = .ok (.iload_n 1, 1) := by decide +kernel
theorem dX8_readWhole_56 : decode cX8_readWhole 56 = .ok (.i2l, 1) := by decide +kernel
theorem dX8_readWhole_57 : decode cX8_readWhole 57 = .ok (.lcmp, 1) := by decide +kernel
theorem dX8_readWhole_58 : decode cX8_readWhole 58 = .ok (.ifCond .gt 15, 3) := by decide +kernel
theorem dX8_readWhole_61 : decode cX8_readWhole 61 = .ok (.iload_n 2, 1) := by decide +kernel
theorem dX8_readWhole_62 : decode cX8_readWhole 62 = .ok (.ifCond .eq 17, 3) := by decide +kernel
theorem dX8_readWhole_65 : decode cX8_readWhole 65 = .ok (.lload 4, 2) := by decide +kernel
theorem dX8_readWhole_67 : decode cX8_readWhole 67 = .ok (.invokestatic 120, 3) := by decide +kernel
theorem dX8_readWhole_70 : decode cX8_readWhole 70 = .ok (.ifCond .ne 9, 3) := by decide +kernel
theorem dX8_readWhole_73 : decode cX8_readWhole 73 = .ok (.aload_n 0, 1) := by decide +kernel
theorem dX8_readWhole_74 : decode cX8_readWhole 74 = .ok (.iconst 4, 1) := by decide +kernel
theorem dX8_readWhole_75 : decode cX8_readWhole 75 = .ok (.invokevirtual 55, 3) := by decide +kernel
theorem dX8_readWhole_78 : decode cX8_readWhole 78 = .ok (.ireturn, 1) := by decide +kernel
theorem dX8_readWhole_79 : decode cX8_readWhole 79 = .ok (.aload_n 0, 1) := by decide +kernel
theorem dX8_readWhole_80 : decode cX8_readWhole 80 = .ok (.iload_n 3, 1) := by decide +kernel
theorem dX8_readWhole_81 : decode cX8_readWhole 81 = .ok (.ifCond .eq 9, 3) := by decide +kernel
theorem dX8_readWhole_84 : decode cX8_readWhole 84 = .ok (.lload 4, 2) := by decide +kernel
theorem dX8_readWhole_86 : decode cX8_readWhole 86 = .ok (.lneg, 1) := by decide +kernel
theorem dX8_readWhole_87 : decode cX8_readWhole 87 = .ok (.goto 5, 3) := by decide +kernel
theorem dX8_readWhole_90 : decode cX8_readWhole 90 = .ok (.lload 4, 2) := by decide +kernel
theorem dX8_readWhole_92 : decode cX8_readWhole 92 = .ok (.putfield 29, 3) := by decide +kernel
theorem dX8_readWhole_95 : decode cX8_readWhole 95 = .ok (.aload_n 0, 1) := by decide +kernel
theorem dX8_readWhole_96 : decode cX8_readWhole 96 = .ok (.getfield 12, 3) := by decide +kernel
theorem dX8_readWhole_99 : decode cX8_readWhole 99 = .ok (.invokevirtual 61, 3) := by decide +kernel
theorem dX8_readWhole_102 : decode cX8_readWhole 102 = .ok (.iconst 1, 1) := by decide +kernel
theorem dX8_readWhole_103 : decode cX8_readWhole 103 = .ok (.ireturn, 1) := by decide +kernel
theorem dX8_readSides_0 : decode cX8_readSides 0 = .ok (.aload_n 0, 1) := by decide +kernel
theorem dX8_readSides_1 : decode cX8_readSides 1 = .ok (.bipush 60, 2) := by decide +kernel
theorem dX8_readSides_3 : decode cX8_readSides 3 = .ok (.iconst 1, 1) := by decide +kernel
theorem dX8_readSides_4 : decode cX8_readSides 4 = .ok (.invokevirtual 89, 3) := by decide +kernel
theorem dX8_readSides_7 : decode cX8_readSides 7 = .ok (.ifCond .ne 5, 3) := by decide +kernel
theorem dX8_readSides_10 : decode cX8_readSides 10 = .ok (.iconst 0, 1) := by decide +kernel
theorem dX8_readSides_11 : decode cX8_readSides 11 = .ok (.ireturn, 1) := by decide +kernel
theorem dX8_readSides_12 : decode cX8_readSides 12 = .ok (.aload_n 0, 1) := by decide +kernel
theorem dX8_readSides_13 : decode cX8_readSides 13 = .ok (.getfield 21, 3) := by decide +kernel
theorem dX8_readSides_16 : decode cX8_readSides 16 = .ok (.aload_n 0, 1) := by decide +kernel
theorem dX8_readSides_17 : decode cX8_readSides 17 = .ok (.getfield 29, 3) := by decide +kernel
theorem dX8_readSides_20 : decode cX8_readSides 20 = .ok (.invokevirtual 93, 3) := by decide +kernel
theorem dX8_readSides_23 : decode cX8_readSides 23 = .ok (.aload_n 0, 1) := by decide +kernel
theorem dX8_readSides_24 : decode cX8_readSides 24 = .ok (.bipush 60, 2) := by decide +kernel
theorem dX8_readSides_26 : decode cX8_readSides 26 = .ok (.iconst 1, 1) := by decide +kernel
theorem dX8_readSides_27 : decode cX8_readSides 27 = .ok (.invokevirtual 89, 3) := by decide +kernel
theorem dX8_readSides_30 : decode cX8_readSides 30 = .ok (.ifCond .ne 5, 3) := by decide +kernel
theorem dX8_readSides_33 : decode cX8_readSides 33 = .ok (.iconst 0, 1) := by decide +kernel
theorem dX8_readSides_34 : decode cX8_readSides 34 = .ok (.ireturn, 1) := by decide +kernel
theorem dX8_readSides_35 : decode cX8_readSides 35 = .ok (.aload_n 0, 1) := by decide +kernel
theorem dX8_readSides_36 : decode cX8_readSides 36 = .ok (.getfield 21, 3) := by decide +kernel
theorem dX8_readSides_39 : decode cX8_readSides 39 = .ok (.aload_n 0, 1) := by decide +kernel
theorem dX8_readSides_40 : decode cX8_readSides 40 = .ok (.getfield 29, 3) := by decide +kernel
theorem dX8_readSides_43 : decode cX8_readSides 43 = .ok (.invokevirtual 97, 3) := by decide +kernel
theorem dX8_readSides_46 : decode cX8_readSides 46 = .ok (.iconst 1, 1) := by decide +kernel
theorem dX8_readSides_47 : decode cX8_readSides 47 = .ok (.ireturn, 1) := by decide +kernel
theorem dX8_isField_0 : decode cX8_isField 0 = .ok (.lload_n 1, 1) := by decide +kernel
theorem dX8_isField_1 : decode cX8_isField 1 = .ok (.ldc2_w 108, 3) := by decide +kernel
theorem dX8_isField_4 : decode cX8_isField 4 = .ok (.lcmp, 1) := by decide +kernel
theorem dX8_isField_5 : decode cX8_isField 5 = .ok (.ifCond .eq 43, 3) := by decide +kernel
theorem dX8_isField_8 : decode cX8_isField 8 = .ok (.lload_n 1, 1) := by decide +kernel
theorem dX8_isField_9 : decode cX8_isField 9 = .ok (.ldc2_w 110, 3) := by decide +kernel
theorem dX8_isField_12 : decode cX8_isField 12 = .ok (.lcmp, 1) := by decide +kernel
theorem dX8_isField_13 : decode cX8_isField 13 = .ok (.ifCond .eq 35, 3) := by decide +kernel
theorem dX8_isField_16 : decode cX8_isField 16 = .ok (.lload_n 1, 1) := by decide +kernel
theorem dX8_isField_17 : decode cX8_isField 17 = .ok (.ldc2_w 112, 3) := by decide +kernel
theorem dX8_isField_20 : decode cX8_isField 20 = .ok (.lcmp, 1) := by decide +kernel
theorem dX8_isField_21 : decode cX8_isField 21 = .ok (.ifCond .eq 27, 3) := by decide +kernel
theorem dX8_isField_24 : decode cX8_isField 24 = .ok (.lload_n 1, 1) := by decide +kernel
theorem dX8_isField_25 : decode cX8_isField 25 = .ok (.ldc2_w 114, 3) := by decide +kernel
theorem dX8_isField_28 : decode cX8_isField 28 = .ok (.lcmp, 1) := by decide +kernel
theorem dX8_isField_29 : decode cX8_isField 29 = .ok (.ifCond .eq 19, 3) := by decide +kernel
theorem dX8_isField_32 : decode cX8_isField 32 = .ok (.lload_n 1, 1) := by decide +kernel
theorem dX8_isField_33 : decode cX8_isField 33 = .ok (.ldc2_w 116, 3) := by decide +kernel
theorem dX8_isField_36 : decode cX8_isField 36 = .ok (.lcmp, 1) := by decide +kernel
theorem dX8_isField_37 : decode cX8_isField 37 = .ok (.ifCond .eq 11, 3) := by decide +kernel
theorem dX8_isField_40 : decode cX8_isField 40 = .ok (.lload_n 1, 1) := by decide +kernel
theorem dX8_isField_41 : decode cX8_isField 41 = .ok (.ldc2_w 118, 3) := by decide +kernel
theorem dX8_isField_44 : decode cX8_isField 44 = .ok (.lcmp, 1) := by decide +kernel
theorem dX8_isField_45 : decode cX8_isField 45 = .ok (.ifCond .ne 7, 3) := by decide +kernel
theorem dX8_isField_48 : decode cX8_isField 48 = .ok (.iconst 1, 1) := by decide +kernel
theorem dX8_isField_49 : decode cX8_isField 49 = .ok (.goto 4, 3) := by decide +kernel
theorem dX8_isField_52 : decode cX8_isField 52 = .ok (.iconst 0, 1) := by decide +kernel
theorem dX8_isField_53 : decode cX8_isField 53 = .ok (.ireturn, 1) := by decide +kernel
theorem dX8_readField_0 : decode cX8_readField 0 = .ok (.aload_n 0, 1) := by decide +kernel
theorem dX8_readField_1 : decode cX8_readField 1 = .ok (.getfield 12, 3) := by decide +kernel
theorem dX8_readField_4 : decode cX8_readField 4 = .ok (.iconst 2, 1) := by decide +kernel
theorem dX8_readField_5 : decode cX8_readField 5 = .ok (.invokevirtual 44, 3) := by decide +kernel
theorem dX8_readField_8 : decode cX8_readField 8 = .ok (.ifCond .ne 9, 3) := by decide +kernel
theorem dX8_readField_11 : decode cX8_readField 11 = .ok (.aload_n 0, 1) := by decide +kernel
theorem dX8_readField_12 : decode cX8_readField 12 = .ok (.iconst 1, 1) := by decide +kernel
theorem dX8_readField_13 : decode cX8_readField 13 = .ok (.invokevirtual 55, 3) := by decide +kernel
theorem dX8_readField_16 : decode cX8_readField 16 = .ok (.ireturn, 1) := by decide +kernel
theorem dX8_readField_17 : decode cX8_readField 17 = .ok (.aload_n 0, 1) := by decide +kernel
theorem dX8_readField_18 : decode cX8_readField 18 = .ok (.getfield 12, 3) := by decide +kernel
theorem dX8_readField_21 : decode cX8_readField 21 = .ok (.invokevirtual 100, 3) := by decide +kernel
theorem dX8_readField_24 : decode cX8_readField 24 = .ok (.lstore_n 1, 1) := by decide +kernel
theorem dX8_readField_25 : decode cX8_readField 25 = .ok (.aload_n 0, 1) := by decide +kernel
theorem dX8_readField_26 : decode cX8_readField 26 = .ok (.lload_n 1, 1) := by decide +kernel
theorem dX8_readField_27 : decode cX8_readField 27 = .ok (.invokevirtual 104, 3) := by decide +kernel
theorem dX8_readField_30 : decode cX8_readField 30 = .ok (.ifCond .ne 9, 3) := by decide +kernel
theorem dX8_readField_33 : decode cX8_readField 33 = .ok (.aload_n 0, 1) := by decide +kernel
theorem dX8_readField_34 : decode cX8_readField 34 = .ok (.iconst 4, 1) := by decide +kernel
theorem dX8_readField_35 : decode cX8_readField 35 = .ok (.invokevirtual 55, 3) := by decide +kernel
theorem dX8_readField_38 : decode cX8_readField 38 = .ok (.ireturn, 1) := by decide +kernel
theorem dX8_readField_39 : decode cX8_readField 39 = .ok (.aload_n 0, 1) := by decide +kernel
theorem dX8_readField_40 : decode cX8_readField 40 = .ok (.getfield 21, 3) := by decide +kernel
theorem dX8_readField_43 : decode cX8_readField 43 = .ok (.lload_n 1, 1) := by decide +kernel
theorem dX8_readField_44 : decode cX8_readField 44 = .ok (.invokevirtual 93, 3) := by decide +kernel
theorem dX8_readField_47 : decode cX8_readField 47 = .ok (.aload_n 0, 1) := by decide +kernel
theorem dX8_readField_48 : decode cX8_readField 48 = .ok (.getfield 12, 3) := by decide +kernel
theorem dX8_readField_51 : decode cX8_readField 51 = .ok (.invokevirtual 61, 3) := by decide +kernel
theorem dX8_readField_54 : decode cX8_readField 54 = .ok (.aload_n 0, 1) := by decide +kernel
theorem dX8_readField_55 : decode cX8_readField 55 = .ok (.sipush 999, 3) := by decide +kernel
theorem dX8_readField_58 : decode cX8_readField 58 = .ok (.iconst 0, 1) := by decide +kernel
theorem dX8_readField_59 : decode cX8_readField 59 = .ok (.invokevirtual 89, 3) := by decide +kernel
theorem dX8_readField_62 : decode cX8_readField 62 = .ok (.ifCond .ne 5, 3) := by decide +kernel
theorem dX8_readField_65 : decode cX8_readField 65 = .ok (.iconst 0, 1) := by decide +kernel
theorem dX8_readField_66 : decode cX8_readField 66 = .ok (.ireturn, 1) := by decide +kernel
theorem dX8_readField_67 : decode cX8_readField 67 = .ok (.aload_n 0, 1) := by decide +kernel
theorem dX8_readField_68 : decode cX8_readField 68 = .ok (.getfield 21, 3) := by decide +kernel
theorem dX8_readField_71 : decode cX8_readField 71 = .ok (.aload_n 0, 1) := by decide +kernel
theorem dX8_readField_72 : decode cX8_readField 72 = .ok (.getfield 29, 3) := by decide +kernel
theorem dX8_readField_75 : decode cX8_readField 75 = .ok (.invokevirtual 97, 3) := by decide +kernel
theorem dX8_readField_78 : decode cX8_readField 78 = .ok (.iconst 1, 1) := by decide +kernel
theorem dX8_readField_79 : decode cX8_readField 79 = .ok (.ireturn, 1) := by decide +kernel
theorem dX8_isSign_0 : decode cX8_isSign 0 = .ok (.aload_n 0, 1) := by decide +kernel
theorem dX8_isSign_1 : decode cX8_isSign 1 = .ok (.getfield 12, 3) := by decide +kernel
theorem dX8_isSign_4 : decode cX8_isSign 4 = .ok (.iconst 3, 1) := by decide +kernel
theorem dX8_isSign_5 : decode cX8_isSign 5 = .ok (.invokevirtual 44, 3) := by decide +kernel
theorem dX8_isSign_8 : decode cX8_isSign 8 = .ok (.ifCond .ne 14, 3) := by decide +kernel
theorem dX8_isSign_11 : decode cX8_isSign 11 = .ok (.aload_n 0, 1) := by decide +kernel
theorem dX8_isSign_12 : decode cX8_isSign 12 = .ok (.getfield 12, 3) := by decide +kernel
theorem dX8_isSign_15 : decode cX8_isSign 15 = .ok (.iconst 4, 1) := by decide +kernel
theorem dX8_isSign_16 : decode cX8_isSign 16 = .ok (.invokevirtual 44, 3) := by decide +kernel
theorem dX8_isSign_19 : decode cX8_isSign 19 = .ok (.ifCond .eq 7, 3) := by decide +kernel
theorem dX8_isSign_22 : decode cX8_isSign 22 = .ok (.iconst 1, 1) := by decide +kernel
theorem dX8_isSign_23 : decode cX8_isSign 23 = .ok (.goto 4, 3) := by decide +kernel
theorem dX8_isSign_26 : decode cX8_isSign 26 = .ok (.iconst 0, 1) := by decide +kernel
theorem dX8_isSign_27 : decode cX8_isSign 27 = .ok (.ireturn, 1) := by decide +kernel
theorem dX9_solve_0 : decode cX9_solve 0 = .ok (.aload_n 0, 1) := by decide +kernel
theorem dX9_solve_1 : decode cX9_solve 1 = .ok (.lload_n 1, 1) := by decide +kernel
theorem dX9_solve_2 : decode cX9_solve 2 = .ok (.putfield 7, 3) := by decide +kernel
theorem dX9_solve_5 : decode cX9_solve 5 = .ok (.aload_n 0, 1) := by decide +kernel
theorem dX9_solve_6 : decode cX9_solve 6 = .ok (.lload_n 3, 1) := by decide +kernel
theorem dX9_solve_7 : decode cX9_solve 7 = .ok (.putfield 13, 3) := by decide +kernel
theorem dX9_solve_10 : decode cX9_solve 10 = .ok (.aload_n 0, 1) := by decide +kernel
theorem dX9_solve_11 : decode cX9_solve 11 = .ok (.lconst 0, 1) := by decide +kernel
theorem dX9_solve_12 : decode cX9_solve 12 = .ok (.putfield 22, 3) := by decide +kernel
theorem dX9_solve_15 : decode cX9_solve 15 = .ok (.aload_n 0, 1) := by decide +kernel
theorem dX9_solve_16 : decode cX9_solve 16 = .ok (.getfield 22, 3) := by decide +kernel
theorem dX9_solve_19 : decode cX9_solve 19 = .ok (.ldc2_w 25, 3) := by decide +kernel
theorem dX9_solve_22 : decode cX9_solve 22 = .ok (.lcmp, 1) := by decide +kernel
theorem dX9_solve_23 : decode cX9_solve 23 = .ok (.ifCond .gt 115, 3) := by decide +kernel
theorem dX9_solve_26 : decode cX9_solve 26 = .ok (.aload_n 0, 1) := by decide +kernel
theorem dX9_solve_27 : decode cX9_solve 27 = .ok (.aload_n 0, 1) := by decide +kernel
theorem dX9_solve_28 : decode cX9_solve 28 = .ok (.getfield 22, 3) := by decide +kernel
theorem dX9_solve_31 : decode cX9_solve 31 = .ok (.lconst 0, 1) := by decide +kernel
theorem dX9_solve_32 : decode cX9_solve 32 = .ok (.lcmp, 1) := by decide +kernel
theorem dX9_solve_33 : decode cX9_solve 33 = .ok (.ifCond .ne 7, 3) := by decide +kernel
theorem dX9_solve_36 : decode cX9_solve 36 = .ok (.lconst 1, 1) := by decide +kernel
theorem dX9_solve_37 : decode cX9_solve 37 = .ok (.goto 4, 3) := by decide +kernel
theorem dX9_solve_40 : decode cX9_solve 40 = .ok (.lconst 0, 1) := by decide +kernel
theorem dX9_solve_41 : decode cX9_solve 41 = .ok (.putfield 19, 3) := by decide +kernel
theorem dX9_solve_44 : decode cX9_solve 44 = .ok (.aload_n 0, 1) := by decide +kernel
theorem dX9_solve_45 : decode cX9_solve 45 = .ok (.getfield 19, 3) := by decide +kernel
theorem dX9_solve_48 : decode cX9_solve 48 = .ok (.ldc2_w 25, 3) := by decide +kernel
theorem dX9_solve_51 : decode cX9_solve 51 = .ok (.lcmp, 1) := by decide +kernel
theorem dX9_solve_52 : decode cX9_solve 52 = .ok (.ifCond .gt 73, 3) := by decide +kernel
theorem dX9_solve_55 : decode cX9_solve 55 = .ok (.aload_n 0, 1) := by decide +kernel
theorem dX9_solve_56 : decode cX9_solve 56 = .ok (.getfield 7, 3) := by decide +kernel
theorem dX9_solve_59 : decode cX9_solve 59 = .ok (.aload_n 0, 1) := by decide +kernel
theorem dX9_solve_60 : decode cX9_solve 60 = .ok (.getfield 19, 3) := by decide +kernel
theorem dX9_solve_63 : decode cX9_solve 63 = .ok (.lmul, 1) := by decide +kernel
theorem dX9_solve_64 : decode cX9_solve 64 = .ok (.aload_n 0, 1) := by decide +kernel
theorem dX9_solve_65 : decode cX9_solve 65 = .ok (.getfield 19, 3) := by decide +kernel
theorem dX9_solve_68 : decode cX9_solve 68 = .ok (.lmul, 1) := by decide +kernel
theorem dX9_solve_69 : decode cX9_solve 69 = .ok (.aload_n 0, 1) := by decide +kernel
theorem dX9_solve_70 : decode cX9_solve 70 = .ok (.getfield 13, 3) := by decide +kernel
theorem dX9_solve_73 : decode cX9_solve 73 = .ok (.aload_n 0, 1) := by decide +kernel
theorem dX9_solve_74 : decode cX9_solve 74 = .ok (.getfield 22, 3) := by decide +kernel
theorem dX9_solve_77 : decode cX9_solve 77 = .ok (.lmul, 1) := by decide +kernel
theorem dX9_solve_78 : decode cX9_solve 78 = .ok (.aload_n 0, 1) := by decide +kernel
theorem dX9_solve_79 : decode cX9_solve 79 = .ok (.getfield 22, 3) := by decide +kernel
theorem dX9_solve_82 : decode cX9_solve 82 = .ok (.lmul, 1) := by decide +kernel
theorem dX9_solve_83 : decode cX9_solve 83 = .ok (.ladd, 1) := by decide +kernel
theorem dX9_solve_84 : decode cX9_solve 84 = .ok (.lstore 5, 2) := by decide +kernel
theorem dX9_solve_86 : decode cX9_solve 86 = .ok (.aload_n 0, 1) := by decide +kernel
theorem dX9_solve_87 : decode cX9_solve 87 = .ok (.lload 5, 2) := by decide +kernel
theorem dX9_solve_89 : decode cX9_solve 89 = .ok (.invokestatic 27, 3) := by decide +kernel
theorem dX9_solve_92 : decode cX9_solve 92 = .ok (.putfield 16, 3) := by decide +kernel
theorem dX9_solve_95 : decode cX9_solve 95 = .ok (.aload_n 0, 1) := by decide +kernel
theorem dX9_solve_96 : decode cX9_solve 96 = .ok (.getfield 16, 3) := by decide +kernel
theorem dX9_solve_99 : decode cX9_solve 99 = .ok (.aload_n 0, 1) := by decide +kernel
theorem dX9_solve_100 : decode cX9_solve 100 = .ok (.getfield 16, 3) := by decide +kernel
theorem dX9_solve_103 : decode cX9_solve 103 = .ok (.lmul, 1) := by decide +kernel
theorem dX9_solve_104 : decode cX9_solve 104 = .ok (.lload 5, 2) := by decide +kernel
theorem dX9_solve_106 : decode cX9_solve 106 = .ok (.lcmp, 1) := by decide +kernel
theorem dX9_solve_107 : decode cX9_solve 107 = .ok (.ifCond .ne 5, 3) := by decide +kernel
theorem dX9_solve_110 : decode cX9_solve 110 = .ok (.iconst 1, 1) := by decide +kernel
theorem dX9_solve_111 : decode cX9_solve 111 = .ok (.ireturn, 1) := by decide +kernel
theorem dX9_solve_112 : decode cX9_solve 112 = .ok (.aload_n 0, 1) := by decide +kernel
theorem dX9_solve_113 : decode cX9_solve 113 = .ok (.dup, 1) := by decide +kernel
theorem dX9_solve_114 : decode cX9_solve 114 = .ok (.getfield 19, 3) := by decide +kernel
theorem dX9_solve_117 : decode cX9_solve 117 = .ok (.lconst 1, 1) := by decide +kernel
theorem dX9_solve_118 : decode cX9_solve 118 = .ok (.ladd, 1) := by decide +kernel
theorem dX9_solve_119 : decode cX9_solve 119 = .ok (.putfield 19, 3) := by decide +kernel
theorem dX9_solve_122 : decode cX9_solve 122 = .ok (.goto (-78), 3) := by decide +kernel
theorem dX9_solve_125 : decode cX9_solve 125 = .ok (.aload_n 0, 1) := by decide +kernel
theorem dX9_solve_126 : decode cX9_solve 126 = .ok (.dup, 1) := by decide +kernel
theorem dX9_solve_127 : decode cX9_solve 127 = .ok (.getfield 22, 3) := by decide +kernel
theorem dX9_solve_130 : decode cX9_solve 130 = .ok (.lconst 1, 1) := by decide +kernel
theorem dX9_solve_131 : decode cX9_solve 131 = .ok (.ladd, 1) := by decide +kernel
theorem dX9_solve_132 : decode cX9_solve 132 = .ok (.putfield 22, 3) := by decide +kernel
theorem dX9_solve_135 : decode cX9_solve 135 = .ok (.goto (-120), 3) := by decide +kernel
theorem dX9_solve_138 : decode cX9_solve 138 = .ok (.iconst 0, 1) := by decide +kernel
theorem dX9_solve_139 : decode cX9_solve 139 = .ok (.ireturn, 1) := by decide +kernel
theorem dX9_part_0 : decode cX9_part 0 = .ok (.iload_n 1, 1) := by decide +kernel
theorem dX9_part_1 : decode cX9_part 1 = .ok (.ifCond .ne 10, 3) := by decide +kernel
theorem dX9_part_4 : decode cX9_part 4 = .ok (.aload_n 0, 1) := by decide +kernel
theorem dX9_part_5 : decode cX9_part 5 = .ok (.getfield 16, 3) := by decide +kernel
theorem dX9_part_8 : decode cX9_part 8 = .ok (.goto 19, 3) := by decide +kernel
theorem dX9_part_11 : decode cX9_part 11 = .ok (.iload_n 1, 1) := by decide +kernel
theorem dX9_part_12 : decode cX9_part 12 = .ok (.iconst 1, 1) := by decide +kernel
theorem dX9_part_13 : decode cX9_part 13 = .ok (.if_icmp .ne 10, 3) := by decide +kernel
theorem dX9_part_16 : decode cX9_part 16 = .ok (.aload_n 0, 1) := by decide +kernel
theorem dX9_part_17 : decode cX9_part 17 = .ok (.getfield 19, 3) := by decide +kernel
theorem dX9_part_20 : decode cX9_part 20 = .ok (.goto 7, 3) := by decide +kernel
theorem dX9_part_23 : decode cX9_part 23 = .ok (.aload_n 0, 1) := by decide +kernel
theorem dX9_part_24 : decode cX9_part 24 = .ok (.getfield 22, 3) := by decide +kernel
theorem dX9_part_27 : decode cX9_part 27 = .ok (.l2i, 1) := by decide +kernel
theorem dX9_part_28 : decode cX9_part 28 = .ok (.ireturn, 1) := by decide +kernel
theorem dX11_putBytes_0 : decode cX11_putBytes 0 = .ok (.bipush 24, 2) := by decide +kernel
theorem dX11_putBytes_2 : decode cX11_putBytes 2 = .ok (.istore_n 2, 1) := by decide +kernel
theorem dX11_putBytes_3 : decode cX11_putBytes 3 = .ok (.iload_n 2, 1) := by decide +kernel
theorem dX11_putBytes_4 : decode cX11_putBytes 4 = .ok (.ifCond .lt 42, 3) := by decide +kernel
theorem dX11_putBytes_7 : decode cX11_putBytes 7 = .ok (.aload_n 0, 1) := by decide +kernel
theorem dX11_putBytes_8 : decode cX11_putBytes 8 = .ok (.getfield 13, 3) := by decide +kernel
theorem dX11_putBytes_11 : decode cX11_putBytes 11 = .ok (.sipush 600, 3) := by decide +kernel
theorem dX11_putBytes_14 : decode cX11_putBytes 14 = .ok (.if_icmp .ge 32, 3) := by decide +kernel
theorem dX11_putBytes_17 : decode cX11_putBytes 17 = .ok (.aload_n 0, 1) := by decide +kernel
theorem dX11_putBytes_18 : decode cX11_putBytes 18 = .ok (.getfield 9, 3) := by decide +kernel
theorem dX11_putBytes_21 : decode cX11_putBytes 21 = .ok (.aload_n 0, 1) := by decide +kernel
theorem dX11_putBytes_22 : decode cX11_putBytes 22 = .ok (.getfield 13, 3) := by decide +kernel
theorem dX11_putBytes_25 : decode cX11_putBytes 25 = .ok (.iload_n 1, 1) := by decide +kernel
theorem dX11_putBytes_26 : decode cX11_putBytes 26 = .ok (.iload_n 2, 1) := by decide +kernel
theorem dX11_putBytes_27 : decode cX11_putBytes 27 = .ok (.ishr, 1) := by decide +kernel
theorem dX11_putBytes_28 : decode cX11_putBytes 28 = .ok (.i2b, 1) := by decide +kernel
theorem dX11_putBytes_29 : decode cX11_putBytes 29 = .ok (.bastore, 1) := by decide +kernel
theorem dX11_putBytes_30 : decode cX11_putBytes 30 = .ok (.aload_n 0, 1) := by decide +kernel
theorem dX11_putBytes_31 : decode cX11_putBytes 31 = .ok (.dup, 1) := by decide +kernel
theorem dX11_putBytes_32 : decode cX11_putBytes 32 = .ok (.getfield 13, 3) := by decide +kernel
theorem dX11_putBytes_35 : decode cX11_putBytes 35 = .ok (.iconst 1, 1) := by decide +kernel
theorem dX11_putBytes_36 : decode cX11_putBytes 36 = .ok (.iadd, 1) := by decide +kernel
theorem dX11_putBytes_37 : decode cX11_putBytes 37 = .ok (.putfield 13, 3) := by decide +kernel
theorem dX11_putBytes_40 : decode cX11_putBytes 40 = .ok (.iinc 2 (-8), 3) := by decide +kernel
theorem dX11_putBytes_43 : decode cX11_putBytes 43 = .ok (.goto (-40), 3) := by decide +kernel
theorem dX11_putBytes_46 : decode cX11_putBytes 46 = .ok (.return_, 1) := by decide +kernel
theorem dX11_feed_0 : decode cX11_feed 0 = .ok (.aload_n 0, 1) := by decide +kernel
theorem dX11_feed_1 : decode cX11_feed 1 = .ok (.getfield 13, 3) := by decide +kernel
theorem dX11_feed_4 : decode cX11_feed 4 = .ok (.bipush 20, 2) := by decide +kernel
theorem dX11_feed_6 : decode cX11_feed 6 = .ok (.iadd, 1) := by decide +kernel
theorem dX11_feed_7 : decode cX11_feed 7 = .ok (.sipush 600, 3) := by decide +kernel
theorem dX11_feed_10 : decode cX11_feed 10 = .ok (.if_icmp .le 5, 3) := by decide +kernel
theorem dX11_feed_13 : decode cX11_feed 13 = .ok (.iconst (-1), 1) := by decide +kernel
theorem dX11_feed_14 : decode cX11_feed 14 = .ok (.ireturn, 1) := by decide +kernel
theorem dX11_feed_15 : decode cX11_feed 15 = .ok (.aload_n 0, 1) := by decide +kernel
theorem dX11_feed_16 : decode cX11_feed 16 = .ok (.iload_n 1, 1) := by decide +kernel
theorem dX11_feed_17 : decode cX11_feed 17 = .ok (.invokevirtual 80, 3) := by decide +kernel
theorem dX11_feed_20 : decode cX11_feed 20 = .ok (.aload_n 0, 1) := by decide +kernel
theorem dX11_feed_21 : decode cX11_feed 21 = .ok (.iload_n 2, 1) := by decide +kernel
theorem dX11_feed_22 : decode cX11_feed 22 = .ok (.invokevirtual 80, 3) := by decide +kernel
theorem dX11_feed_25 : decode cX11_feed 25 = .ok (.aload_n 0, 1) := by decide +kernel
theorem dX11_feed_26 : decode cX11_feed 26 = .ok (.iload_n 3, 1) := by decide +kernel
theorem dX11_feed_27 : decode cX11_feed 27 = .ok (.invokevirtual 80, 3) := by decide +kernel
theorem dX11_feed_30 : decode cX11_feed 30 = .ok (.aload_n 0, 1) := by decide +kernel
theorem dX11_feed_31 : decode cX11_feed 31 = .ok (.iload 4, 2) := by decide +kernel
theorem dX11_feed_33 : decode cX11_feed 33 = .ok (.invokevirtual 80, 3) := by decide +kernel
theorem dX11_feed_36 : decode cX11_feed 36 = .ok (.aload_n 0, 1) := by decide +kernel
theorem dX11_feed_37 : decode cX11_feed 37 = .ok (.iload 5, 2) := by decide +kernel
theorem dX11_feed_39 : decode cX11_feed 39 = .ok (.invokevirtual 80, 3) := by decide +kernel
theorem dX11_feed_42 : decode cX11_feed 42 = .ok (.aload_n 0, 1) := by decide +kernel
theorem dX11_feed_43 : decode cX11_feed 43 = .ok (.getfield 13, 3) := by decide +kernel
theorem dX11_feed_46 : decode cX11_feed 46 = .ok (.ireturn, 1) := by decide +kernel
theorem dX11_isTold_0 : decode cX11_isTold 0 = .ok (.iload_n 1, 1) := by decide +kernel
theorem dX11_isTold_1 : decode cX11_isTold 1 = .ok (.ifCond .lt 18, 3) := by decide +kernel
theorem dX11_isTold_4 : decode cX11_isTold 4 = .ok (.iload_n 1, 1) := by decide +kernel
theorem dX11_isTold_5 : decode cX11_isTold 5 = .ok (.aload_n 0, 1) := by decide +kernel
theorem dX11_isTold_6 : decode cX11_isTold 6 = .ok (.getfield 27, 3) := by decide +kernel
theorem dX11_isTold_9 : decode cX11_isTold 9 = .ok (.invokevirtual 91, 3) := by decide +kernel
theorem dX11_isTold_12 : decode cX11_isTold 12 = .ok (.if_icmp .ge 7, 3) := by decide +kernel
theorem dX11_isTold_15 : decode cX11_isTold 15 = .ok (.iconst 1, 1) := by decide +kernel
theorem dX11_isTold_16 : decode cX11_isTold 16 = .ok (.goto 4, 3) := by decide +kernel
theorem dX11_isTold_19 : decode cX11_isTold 19 = .ok (.iconst 0, 1) := by decide +kernel
theorem dX11_isTold_20 : decode cX11_isTold 20 = .ok (.ireturn, 1) := by decide +kernel
theorem dX11_isQuaternion_0 : decode cX11_isQuaternion 0 = .ok (.aload_n 0, 1) := by decide +kernel
theorem dX11_isQuaternion_1 : decode cX11_isQuaternion 1 = .ok (.iload_n 1, 1) := by decide +kernel
theorem dX11_isQuaternion_2 : decode cX11_isQuaternion 2 = .ok (.invokevirtual 117, 3) := by decide +kernel
theorem dX11_isQuaternion_5 : decode cX11_isQuaternion 5 = .ok (.ifCond .eq 18, 3) := by decide +kernel
theorem dX11_isQuaternion_8 : decode cX11_isQuaternion 8 = .ok (.aload_n 0, 1) := by decide +kernel
theorem dX11_isQuaternion_9 : decode cX11_isQuaternion 9 = .ok (.getfield 27, 3) := by decide +kernel
theorem dX11_isQuaternion_12 : decode cX11_isQuaternion 12 = .ok (.iload_n 1, 1) := by decide +kernel
theorem dX11_isQuaternion_13 : decode cX11_isQuaternion 13 = .ok (.invokevirtual 123, 3) := by decide +kernel
theorem dX11_isQuaternion_16 : decode cX11_isQuaternion 16 = .ok (.ifCond .ne 7, 3) := by decide +kernel
theorem dX11_isQuaternion_19 : decode cX11_isQuaternion 19 = .ok (.iconst 1, 1) := by decide +kernel
theorem dX11_isQuaternion_20 : decode cX11_isQuaternion 20 = .ok (.goto 4, 3) := by decide +kernel
theorem dX11_isQuaternion_23 : decode cX11_isQuaternion 23 = .ok (.iconst 0, 1) := by decide +kernel
theorem dX11_isQuaternion_24 : decode cX11_isQuaternion 24 = .ok (.ireturn, 1) := by decide +kernel
theorem dX11_beginAnew_0 : decode cX11_beginAnew 0 = .ok (.aload_n 0, 1) := by decide +kernel
theorem dX11_beginAnew_1 : decode cX11_beginAnew 1 = .ok (.getfield 37, 3) := by decide +kernel
theorem dX11_beginAnew_4 : decode cX11_beginAnew 4 = .ok (.aload_n 0, 1) := by decide +kernel
theorem dX11_beginAnew_5 : decode cX11_beginAnew 5 = .ok (.getfield 27, 3) := by decide +kernel
theorem dX11_beginAnew_8 : decode cX11_beginAnew 8 = .ok (.invokevirtual 95, 3) := by decide +kernel
theorem dX11_beginAnew_11 : decode cX11_beginAnew 11 = .ok (.iconst 0, 1) := by decide +kernel
theorem dX11_beginAnew_12 : decode cX11_beginAnew 12 = .ok (.istore_n 1, 1) := by decide +kernel
theorem dX11_beginAnew_13 : decode cX11_beginAnew 13 = .ok (.iload_n 1, 1) := by decide +kernel
theorem dX11_beginAnew_14 : decode cX11_beginAnew 14 = .ok (.bipush 8, 2) := by decide +kernel
theorem dX11_beginAnew_16 : decode cX11_beginAnew 16 = .ok (.if_icmp .ge 18, 3) := by decide +kernel
theorem dX11_beginAnew_19 : decode cX11_beginAnew 19 = .ok (.aload_n 0, 1) := by decide +kernel
theorem dX11_beginAnew_20 : decode cX11_beginAnew 20 = .ok (.getfield 43, 3) := by decide +kernel
theorem dX11_beginAnew_23 : decode cX11_beginAnew 23 = .ok (.iload_n 1, 1) := by decide +kernel
theorem dX11_beginAnew_24 : decode cX11_beginAnew 24 = .ok (.aaload, 1) := by decide +kernel
theorem dX11_beginAnew_25 : decode cX11_beginAnew 25 = .ok (.invokevirtual 99, 3) := by decide +kernel
theorem dX11_beginAnew_28 : decode cX11_beginAnew 28 = .ok (.iinc 1 1, 3) := by decide +kernel
theorem dX11_beginAnew_31 : decode cX11_beginAnew 31 = .ok (.goto (-18), 3) := by decide +kernel
theorem dX11_beginAnew_34 : decode cX11_beginAnew 34 = .ok (.iconst 0, 1) := by decide +kernel
theorem dX11_beginAnew_35 : decode cX11_beginAnew 35 = .ok (.istore_n 1, 1) := by decide +kernel
theorem dX11_beginAnew_36 : decode cX11_beginAnew 36 = .ok (.iload_n 1, 1) := by decide +kernel
theorem dX11_beginAnew_37 : decode cX11_beginAnew 37 = .ok (.bipush 8, 2) := by decide +kernel
theorem dX11_beginAnew_39 : decode cX11_beginAnew 39 = .ok (.if_icmp .ge 44, 3) := by decide +kernel
theorem dX11_beginAnew_42 : decode cX11_beginAnew 42 = .ok (.aload_n 0, 1) := by decide +kernel
theorem dX11_beginAnew_43 : decode cX11_beginAnew 43 = .ok (.iload_n 1, 1) := by decide +kernel
theorem dX11_beginAnew_44 : decode cX11_beginAnew 44 = .ok (.invokevirtual 102, 3) := by decide +kernel
theorem dX11_beginAnew_47 : decode cX11_beginAnew 47 = .ok (.ifCond .eq 30, 3) := by decide +kernel
theorem dX11_beginAnew_50 : decode cX11_beginAnew 50 = .ok (.aload_n 0, 1) := by decide +kernel
theorem dX11_beginAnew_51 : decode cX11_beginAnew 51 = .ok (.getfield 49, 3) := by decide +kernel
theorem dX11_beginAnew_54 : decode cX11_beginAnew 54 = .ok (.iload_n 1, 1) := by decide +kernel
theorem dX11_beginAnew_55 : decode cX11_beginAnew 55 = .ok (.aaload, 1) := by decide +kernel
theorem dX11_beginAnew_56 : decode cX11_beginAnew 56 = .ok (.aload_n 0, 1) := by decide +kernel
theorem dX11_beginAnew_57 : decode cX11_beginAnew 57 = .ok (.getfield 27, 3) := by decide +kernel
theorem dX11_beginAnew_60 : decode cX11_beginAnew 60 = .ok (.iload_n 1, 1) := by decide +kernel
theorem dX11_beginAnew_61 : decode cX11_beginAnew 61 = .ok (.invokevirtual 106, 3) := by decide +kernel
theorem dX11_beginAnew_64 : decode cX11_beginAnew 64 = .ok (.i2l, 1) := by decide +kernel
theorem dX11_beginAnew_65 : decode cX11_beginAnew 65 = .ok (.aload_n 0, 1) := by decide +kernel
theorem dX11_beginAnew_66 : decode cX11_beginAnew 66 = .ok (.getfield 27, 3) := by decide +kernel
theorem dX11_beginAnew_69 : decode cX11_beginAnew 69 = .ok (.iload_n 1, 1) := by decide +kernel
theorem dX11_beginAnew_70 : decode cX11_beginAnew 70 = .ok (.invokevirtual 110, 3) := by decide +kernel
theorem dX11_beginAnew_73 : decode cX11_beginAnew 73 = .ok (.i2l, 1) := by decide +kernel
theorem dX11_beginAnew_74 : decode cX11_beginAnew 74 = .ok (.invokevirtual 113, 3) := by decide +kernel
theorem dX11_beginAnew_77 : decode cX11_beginAnew 77 = .ok (.iinc 1 1, 3) := by decide +kernel
theorem dX11_beginAnew_80 : decode cX11_beginAnew 80 = .ok (.goto (-44), 3) := by decide +kernel
theorem dX11_beginAnew_83 : decode cX11_beginAnew 83 = .ok (.return_, 1) := by decide +kernel
theorem dX11_local_0 : decode cX11_local 0 = .ok (.aload_n 0, 1) := by decide +kernel
theorem dX11_local_1 : decode cX11_local 1 = .ok (.iload_n 1, 1) := by decide +kernel
theorem dX11_local_2 : decode cX11_local 2 = .ok (.invokevirtual 117, 3) := by decide +kernel
theorem dX11_local_5 : decode cX11_local 5 = .ok (.ifCond .eq 9, 3) := by decide +kernel
theorem dX11_local_8 : decode cX11_local 8 = .ok (.iload_n 2, 1) := by decide +kernel
theorem dX11_local_9 : decode cX11_local 9 = .ok (.ldc 129, 2) := by decide +kernel
theorem dX11_local_11 : decode cX11_local 11 = .ok (.if_icmp .le 5, 3) := by decide +kernel
theorem dX11_local_14 : decode cX11_local 14 = .ok (.iconst (-1), 1) := by decide +kernel
theorem dX11_local_15 : decode cX11_local 15 = .ok (.ireturn, 1) := by decide +kernel
theorem dX11_local_16 : decode cX11_local 16 = .ok (.iload_n 2, 1) := by decide +kernel
theorem dX11_local_17 : decode cX11_local 17 = .ok (.ifCond .eq 12, 3) := by decide +kernel
theorem dX11_local_20 : decode cX11_local 20 = .ok (.iload_n 2, 1) := by decide +kernel
theorem dX11_local_21 : decode cX11_local 21 = .ok (.invokestatic 130, 3) := by decide +kernel
theorem dX11_local_24 : decode cX11_local 24 = .ok (.ifCond .ne 5, 3) := by decide +kernel
theorem dX11_local_27 : decode cX11_local 27 = .ok (.iconst (-1), 1) := by decide +kernel
theorem dX11_local_28 : decode cX11_local 28 = .ok (.ireturn, 1) := by decide +kernel
theorem dX11_local_29 : decode cX11_local 29 = .ok (.aload_n 0, 1) := by decide +kernel
theorem dX11_local_30 : decode cX11_local 30 = .ok (.getfield 37, 3) := by decide +kernel
theorem dX11_local_33 : decode cX11_local 33 = .ok (.iload_n 1, 1) := by decide +kernel
theorem dX11_local_34 : decode cX11_local 34 = .ok (.iload_n 2, 1) := by decide +kernel
theorem dX11_local_35 : decode cX11_local 35 = .ok (.invokevirtual 135, 3) := by decide +kernel
theorem dX11_local_38 : decode cX11_local 38 = .ok (.ireturn, 1) := by decide +kernel
theorem dX11_place_0 : decode cX11_place 0 = .ok (.aload_n 0, 1) := by decide +kernel
theorem dX11_place_1 : decode cX11_place 1 = .ok (.iload_n 1, 1) := by decide +kernel
theorem dX11_place_2 : decode cX11_place 2 = .ok (.invokevirtual 117, 3) := by decide +kernel
theorem dX11_place_5 : decode cX11_place 5 = .ok (.ifCond .eq 8, 3) := by decide +kernel
theorem dX11_place_8 : decode cX11_place 8 = .ok (.iload_n 2, 1) := by decide +kernel
theorem dX11_place_9 : decode cX11_place 9 = .ok (.iconst (-1), 1) := by decide +kernel
theorem dX11_place_10 : decode cX11_place 10 = .ok (.if_icmp .ge 6, 3) := by decide +kernel
theorem dX11_place_13 : decode cX11_place 13 = .ok (.bipush (-2), 2) := by decide +kernel
theorem dX11_place_15 : decode cX11_place 15 = .ok (.ireturn, 1) := by decide +kernel
theorem dX11_place_16 : decode cX11_place 16 = .ok (.iload_n 2, 1) := by decide +kernel
theorem dX11_place_17 : decode cX11_place 17 = .ok (.iconst (-1), 1) := by decide +kernel
theorem dX11_place_18 : decode cX11_place 18 = .ok (.if_icmp .ne 14, 3) := by decide +kernel
theorem dX11_place_21 : decode cX11_place 21 = .ok (.aload_n 0, 1) := by decide +kernel
theorem dX11_place_22 : decode cX11_place 22 = .ok (.getfield 37, 3) := by decide +kernel
theorem dX11_place_25 : decode cX11_place 25 = .ok (.iload_n 1, 1) := by decide +kernel
theorem dX11_place_26 : decode cX11_place 26 = .ok (.invokevirtual 139, 3) := by decide +kernel
theorem dX11_place_29 : decode cX11_place 29 = .ok (.goto 12, 3) := by decide +kernel
theorem dX11_place_32 : decode cX11_place 32 = .ok (.aload_n 0, 1) := by decide +kernel
theorem dX11_place_33 : decode cX11_place 33 = .ok (.getfield 37, 3) := by decide +kernel
theorem dX11_place_36 : decode cX11_place 36 = .ok (.iload_n 1, 1) := by decide +kernel
theorem dX11_place_37 : decode cX11_place 37 = .ok (.iload_n 2, 1) := by decide +kernel
theorem dX11_place_38 : decode cX11_place 38 = .ok (.invokevirtual 142, 3) := by decide +kernel
theorem dX11_place_41 : decode cX11_place 41 = .ok (.ireturn, 1) := by decide +kernel
theorem dX11_index_0 : decode cX11_index 0 = .ok (.aload_n 0, 1) := by decide +kernel
theorem dX11_index_1 : decode cX11_index 1 = .ok (.iload_n 1, 1) := by decide +kernel
theorem dX11_index_2 : decode cX11_index 2 = .ok (.invokevirtual 117, 3) := by decide +kernel
theorem dX11_index_5 : decode cX11_index 5 = .ok (.ifCond .eq 14, 3) := by decide +kernel
theorem dX11_index_8 : decode cX11_index 8 = .ok (.aload_n 0, 1) := by decide +kernel
theorem dX11_index_9 : decode cX11_index 9 = .ok (.getfield 37, 3) := by decide +kernel
theorem dX11_index_12 : decode cX11_index 12 = .ok (.iload_n 1, 1) := by decide +kernel
theorem dX11_index_13 : decode cX11_index 13 = .ok (.invokevirtual 145, 3) := by decide +kernel
theorem dX11_index_16 : decode cX11_index 16 = .ok (.goto 4, 3) := by decide +kernel
theorem dX11_index_19 : decode cX11_index 19 = .ok (.iconst (-1), 1) := by decide +kernel
theorem dX11_index_20 : decode cX11_index 20 = .ok (.ireturn, 1) := by decide +kernel
theorem dX11_alike_0 : decode cX11_alike 0 = .ok (.aload_n 0, 1) := by decide +kernel
theorem dX11_alike_1 : decode cX11_alike 1 = .ok (.iload_n 1, 1) := by decide +kernel
theorem dX11_alike_2 : decode cX11_alike 2 = .ok (.invokevirtual 117, 3) := by decide +kernel
theorem dX11_alike_5 : decode cX11_alike 5 = .ok (.ifCond .eq 11, 3) := by decide +kernel
theorem dX11_alike_8 : decode cX11_alike 8 = .ok (.aload_n 0, 1) := by decide +kernel
theorem dX11_alike_9 : decode cX11_alike 9 = .ok (.iload_n 2, 1) := by decide +kernel
theorem dX11_alike_10 : decode cX11_alike 10 = .ok (.invokevirtual 117, 3) := by decide +kernel
theorem dX11_alike_13 : decode cX11_alike 13 = .ok (.ifCond .ne 5, 3) := by decide +kernel
theorem dX11_alike_16 : decode cX11_alike 16 = .ok (.iconst (-1), 1) := by decide +kernel
theorem dX11_alike_17 : decode cX11_alike 17 = .ok (.ireturn, 1) := by decide +kernel
theorem dX11_alike_18 : decode cX11_alike 18 = .ok (.aload_n 0, 1) := by decide +kernel
theorem dX11_alike_19 : decode cX11_alike 19 = .ok (.getfield 37, 3) := by decide +kernel
theorem dX11_alike_22 : decode cX11_alike 22 = .ok (.iload_n 1, 1) := by decide +kernel
theorem dX11_alike_23 : decode cX11_alike 23 = .ok (.iload_n 2, 1) := by decide +kernel
theorem dX11_alike_24 : decode cX11_alike 24 = .ok (.invokevirtual 148, 3) := by decide +kernel
theorem dX11_alike_27 : decode cX11_alike 27 = .ok (.ifCond .eq 7, 3) := by decide +kernel
theorem dX11_alike_30 : decode cX11_alike 30 = .ok (.iconst 1, 1) := by decide +kernel
theorem dX11_alike_31 : decode cX11_alike 31 = .ok (.goto 4, 3) := by decide +kernel
theorem dX11_alike_34 : decode cX11_alike 34 = .ok (.iconst 0, 1) := by decide +kernel
theorem dX11_alike_35 : decode cX11_alike 35 = .ok (.ireturn, 1) := by decide +kernel
theorem dX11_classes_0 : decode cX11_classes 0 = .ok (.iconst 0, 1) := by decide +kernel
theorem dX11_classes_1 : decode cX11_classes 1 = .ok (.istore_n 1, 1) := by decide +kernel
theorem dX11_classes_2 : decode cX11_classes 2 = .ok (.iconst 0, 1) := by decide +kernel
theorem dX11_classes_3 : decode cX11_classes 3 = .ok (.istore_n 2, 1) := by decide +kernel
theorem dX11_classes_4 : decode cX11_classes 4 = .ok (.iload_n 2, 1) := by decide +kernel
theorem dX11_classes_5 : decode cX11_classes 5 = .ok (.aload_n 0, 1) := by decide +kernel
theorem dX11_classes_6 : decode cX11_classes 6 = .ok (.getfield 27, 3) := by decide +kernel
theorem dX11_classes_9 : decode cX11_classes 9 = .ok (.invokevirtual 91, 3) := by decide +kernel
theorem dX11_classes_12 : decode cX11_classes 12 = .ok (.if_icmp .ge 61, 3) := by decide +kernel
theorem dX11_classes_15 : decode cX11_classes 15 = .ok (.iconst 1, 1) := by decide +kernel
theorem dX11_classes_16 : decode cX11_classes 16 = .ok (.istore_n 3, 1) := by decide +kernel
theorem dX11_classes_17 : decode cX11_classes 17 = .ok (.iconst 0, 1) := by decide +kernel
theorem dX11_classes_18 : decode cX11_classes 18 = .ok (.istore 4, 2) := by decide +kernel
theorem dX11_classes_20 : decode cX11_classes 20 = .ok (.iload 4, 2) := by decide +kernel
theorem dX11_classes_22 : decode cX11_classes 22 = .ok (.iload_n 2, 1) := by decide +kernel
theorem dX11_classes_23 : decode cX11_classes 23 = .ok (.if_icmp .ge 32, 3) := by decide +kernel
theorem dX11_classes_26 : decode cX11_classes 26 = .ok (.iload_n 3, 1) := by decide +kernel
theorem dX11_classes_27 : decode cX11_classes 27 = .ok (.ifCond .eq 28, 3) := by decide +kernel
theorem dX11_classes_30 : decode cX11_classes 30 = .ok (.aload_n 0, 1) := by decide +kernel
theorem dX11_classes_31 : decode cX11_classes 31 = .ok (.getfield 37, 3) := by decide +kernel
theorem dX11_classes_34 : decode cX11_classes 34 = .ok (.iload_n 2, 1) := by decide +kernel
theorem dX11_classes_35 : decode cX11_classes 35 = .ok (.iload 4, 2) := by decide +kernel
theorem dX11_classes_37 : decode cX11_classes 37 = .ok (.invokevirtual 148, 3) := by decide +kernel
theorem dX11_classes_40 : decode cX11_classes 40 = .ok (.ifCond .ne 7, 3) := by decide +kernel
theorem dX11_classes_43 : decode cX11_classes 43 = .ok (.iconst 1, 1) := by decide +kernel
theorem dX11_classes_44 : decode cX11_classes 44 = .ok (.goto 4, 3) := by decide +kernel
theorem dX11_classes_47 : decode cX11_classes 47 = .ok (.iconst 0, 1) := by decide +kernel
theorem dX11_classes_48 : decode cX11_classes 48 = .ok (.istore_n 3, 1) := by decide +kernel
theorem dX11_classes_49 : decode cX11_classes 49 = .ok (.iinc 4 1, 3) := by decide +kernel
theorem dX11_classes_52 : decode cX11_classes 52 = .ok (.goto (-32), 3) := by decide +kernel
theorem dX11_classes_55 : decode cX11_classes 55 = .ok (.iload_n 1, 1) := by decide +kernel
theorem dX11_classes_56 : decode cX11_classes 56 = .ok (.iload_n 3, 1) := by decide +kernel
theorem dX11_classes_57 : decode cX11_classes 57 = .ok (.ifCond .eq 7, 3) := by decide +kernel
theorem dX11_classes_60 : decode cX11_classes 60 = .ok (.iconst 1, 1) := by decide +kernel
theorem dX11_classes_61 : decode cX11_classes 61 = .ok (.goto 4, 3) := by decide +kernel
theorem dX11_classes_64 : decode cX11_classes 64 = .ok (.iconst 0, 1) := by decide +kernel
theorem dX11_classes_65 : decode cX11_classes 65 = .ok (.iadd, 1) := by decide +kernel
theorem dX11_classes_66 : decode cX11_classes 66 = .ok (.istore_n 1, 1) := by decide +kernel
theorem dX11_classes_67 : decode cX11_classes 67 = .ok (.iinc 2 1, 3) := by decide +kernel
theorem dX11_classes_70 : decode cX11_classes 70 = .ok (.goto (-66), 3) := by decide +kernel
theorem dX11_classes_73 : decode cX11_classes 73 = .ok (.iload_n 1, 1) := by decide +kernel
theorem dX11_classes_74 : decode cX11_classes 74 = .ok (.ireturn, 1) := by decide +kernel
theorem dX11_isSplit_0 : decode cX11_isSplit 0 = .ok (.aload_n 0, 1) := by decide +kernel
theorem dX11_isSplit_1 : decode cX11_isSplit 1 = .ok (.getfield 37, 3) := by decide +kernel
theorem dX11_isSplit_4 : decode cX11_isSplit 4 = .ok (.iload_n 1, 1) := by decide +kernel
theorem dX11_isSplit_5 : decode cX11_isSplit 5 = .ok (.invokevirtual 145, 3) := by decide +kernel
theorem dX11_isSplit_8 : decode cX11_isSplit 8 = .ok (.iconst 1, 1) := by decide +kernel
theorem dX11_isSplit_9 : decode cX11_isSplit 9 = .ok (.if_icmp .ne 35, 3) := by decide +kernel
theorem dX11_isSplit_12 : decode cX11_isSplit 12 = .ok (.aload_n 0, 1) := by decide +kernel
theorem dX11_isSplit_13 : decode cX11_isSplit 13 = .ok (.getfield 63, 3) := by decide +kernel
theorem dX11_isSplit_16 : decode cX11_isSplit 16 = .ok (.aload_n 0, 1) := by decide +kernel
theorem dX11_isSplit_17 : decode cX11_isSplit 17 = .ok (.getfield 27, 3) := by decide +kernel
theorem dX11_isSplit_20 : decode cX11_isSplit 20 = .ok (.iload_n 1, 1) := by decide +kernel
theorem dX11_isSplit_21 : decode cX11_isSplit 21 = .ok (.invokevirtual 106, 3) := by decide +kernel
theorem dX11_isSplit_24 : decode cX11_isSplit 24 = .ok (.i2l, 1) := by decide +kernel
theorem dX11_isSplit_25 : decode cX11_isSplit 25 = .ok (.aload_n 0, 1) := by decide +kernel
theorem dX11_isSplit_26 : decode cX11_isSplit 26 = .ok (.getfield 27, 3) := by decide +kernel
theorem dX11_isSplit_29 : decode cX11_isSplit 29 = .ok (.iload_n 1, 1) := by decide +kernel
theorem dX11_isSplit_30 : decode cX11_isSplit 30 = .ok (.invokevirtual 110, 3) := by decide +kernel
theorem dX11_isSplit_33 : decode cX11_isSplit 33 = .ok (.i2l, 1) := by decide +kernel
theorem dX11_isSplit_34 : decode cX11_isSplit 34 = .ok (.invokevirtual 224, 3) := by decide +kernel
theorem dX11_isSplit_37 : decode cX11_isSplit 37 = .ok (.ifCond .eq 7, 3) := by decide +kernel
theorem dX11_isSplit_40 : decode cX11_isSplit 40 = .ok (.iconst 1, 1) := by decide +kernel
theorem dX11_isSplit_41 : decode cX11_isSplit 41 = .ok (.goto 4, 3) := by decide +kernel
theorem dX11_isSplit_44 : decode cX11_isSplit 44 = .ok (.iconst 0, 1) := by decide +kernel
theorem dX11_isSplit_45 : decode cX11_isSplit 45 = .ok (.ireturn, 1) := by decide +kernel
theorem dX11_solution_0 : decode cX11_solution 0 = .ok (.aload_n 0, 1) := by decide +kernel
theorem dX11_solution_1 : decode cX11_solution 1 = .ok (.iload_n 1, 1) := by decide +kernel
theorem dX11_solution_2 : decode cX11_solution 2 = .ok (.invokevirtual 102, 3) := by decide +kernel
theorem dX11_solution_5 : decode cX11_solution 5 = .ok (.ifCond .eq 12, 3) := by decide +kernel
theorem dX11_solution_8 : decode cX11_solution 8 = .ok (.iload_n 2, 1) := by decide +kernel
theorem dX11_solution_9 : decode cX11_solution 9 = .ok (.ifCond .lt 8, 3) := by decide +kernel
theorem dX11_solution_12 : decode cX11_solution 12 = .ok (.iload_n 2, 1) := by decide +kernel
theorem dX11_solution_13 : decode cX11_solution 13 = .ok (.iconst 2, 1) := by decide +kernel
theorem dX11_solution_14 : decode cX11_solution 14 = .ok (.if_icmp .le 5, 3) := by decide +kernel
theorem dX11_solution_17 : decode cX11_solution 17 = .ok (.iconst (-1), 1) := by decide +kernel
theorem dX11_solution_18 : decode cX11_solution 18 = .ok (.ireturn, 1) := by decide +kernel
theorem dX11_solution_19 : decode cX11_solution 19 = .ok (.aload_n 0, 1) := by decide +kernel
theorem dX11_solution_20 : decode cX11_solution 20 = .ok (.iload_n 1, 1) := by decide +kernel
theorem dX11_solution_21 : decode cX11_solution 21 = .ok (.invokevirtual 211, 3) := by decide +kernel
theorem dX11_solution_24 : decode cX11_solution 24 = .ok (.ifCond .ne 6, 3) := by decide +kernel
theorem dX11_solution_27 : decode cX11_solution 27 = .ok (.bipush (-2), 2) := by decide +kernel
theorem dX11_solution_29 : decode cX11_solution 29 = .ok (.ireturn, 1) := by decide +kernel
theorem dX11_solution_30 : decode cX11_solution 30 = .ok (.aload_n 0, 1) := by decide +kernel
theorem dX11_solution_31 : decode cX11_solution 31 = .ok (.getfield 63, 3) := by decide +kernel
theorem dX11_solution_34 : decode cX11_solution 34 = .ok (.iload_n 2, 1) := by decide +kernel
theorem dX11_solution_35 : decode cX11_solution 35 = .ok (.invokevirtual 214, 3) := by decide +kernel
theorem dX11_solution_38 : decode cX11_solution 38 = .ok (.ireturn, 1) := by decide +kernel
theorem dX11_disc_0 : decode cX11_disc 0 = .ok (.aload_n 0, 1) := by decide +kernel
theorem dX11_disc_1 : decode cX11_disc 1 = .ok (.iload_n 1, 1) := by decide +kernel
theorem dX11_disc_2 : decode cX11_disc 2 = .ok (.invokevirtual 102, 3) := by decide +kernel
theorem dX11_disc_5 : decode cX11_disc 5 = .ok (.ifCond .eq 16, 3) := by decide +kernel
theorem dX11_disc_8 : decode cX11_disc 8 = .ok (.aload_n 0, 1) := by decide +kernel
theorem dX11_disc_9 : decode cX11_disc 9 = .ok (.getfield 49, 3) := by decide +kernel
theorem dX11_disc_12 : decode cX11_disc 12 = .ok (.iload_n 1, 1) := by decide +kernel
theorem dX11_disc_13 : decode cX11_disc 13 = .ok (.aaload, 1) := by decide +kernel
theorem dX11_disc_14 : decode cX11_disc 14 = .ok (.invokevirtual 228, 3) := by decide +kernel
theorem dX11_disc_17 : decode cX11_disc 17 = .ok (.l2i, 1) := by decide +kernel
theorem dX11_disc_18 : decode cX11_disc 18 = .ok (.goto 4, 3) := by decide +kernel
theorem dX11_disc_21 : decode cX11_disc 21 = .ok (.iconst (-1), 1) := by decide +kernel
theorem dX11_disc_22 : decode cX11_disc 22 = .ok (.ireturn, 1) := by decide +kernel
def mX7_areAlike_B51 (v0 : Nat) (v1 : Int) (v2 : Int) (v3 : Int) (σ : mSt) : Option (Int × mSt) := mG (v3 = 0 ∨ v3 = 1) <| some (v3, σ)
def mX7_areAlike_L5 (v0 : Nat) (v1 : Int) (v2 : Int) (x51 : Int → mSt → Option (Int × mSt)) : Nat → Int → Int → mSt → Option (Int × mSt)
  | 0, _, _, _ => none
  | n + 1, v3, v4, σ => if wI (σ v0 0) ≤ wI v4 then (x51 v3 σ) else if wI v3 = 0 then (x51 v3 σ) else mRef (σ v0 3) fun r4 => mG (ixOK r4 26 v1) <| mRef (σ r4 (wI v1).toNat) fun r7 => mG (ixOK r7 20 v4) <| mRef (σ v0 3) fun r10 => mG (ixOK r10 26 v2) <| mRef (σ r10 (wI v2).toNat) fun r13 => mG (ixOK r13 20 v4) <| if wI (σ r7 (wI v4).toNat) = wI (σ r13 (wI v4).toNat) then (bnd (v4 + 1) fun a19 => mX7_areAlike_L5 v0 v1 v2 x51 n 1 a19 σ) else bnd (v4 + 1) fun a17 => mX7_areAlike_L5 v0 v1 v2 x51 n 0 a17 σ
def mX7_areAlike (v0 : Nat) (v1 : Int) (v2 : Int) (σ : mSt) : Option (Int × mSt) := mG (isC v0 6) <| mX7_areAlike_L5 v0 v1 v2 (fun z3 zσ => mX7_areAlike_B51 v0 v1 v2 z3 zσ) mF 1 0 σ
def mX10_isLetter_B26 (v0 : Nat) (v1 : Int) (σ : mSt) : Option (Int × mSt) := some (0, σ)
def mX10_isLetter (v0 : Nat) (v1 : Int) (σ : mSt) : Option (Int × mSt) := mG (isC v0 9) <| mRef (σ v0 0) fun r1 => mG (ixOK r1 22 v1) <| if wI (σ r1 (wI v1).toNat) < 97 then (mX10_isLetter_B26 v0 v1 σ) else mRef (σ v0 0) fun r5 => mG (ixOK r5 22 v1) <| if 122 < wI (σ r5 (wI v1).toNat) then (mX10_isLetter_B26 v0 v1 σ) else some (1, σ)
def mX10_isDigit_B26 (v0 : Nat) (v1 : Int) (σ : mSt) : Option (Int × mSt) := some (0, σ)
def mX10_isDigit (v0 : Nat) (v1 : Int) (σ : mSt) : Option (Int × mSt) := mG (isC v0 9) <| mRef (σ v0 0) fun r1 => mG (ixOK r1 22 v1) <| if wI (σ r1 (wI v1).toNat) < 48 then (mX10_isDigit_B26 v0 v1 σ) else mRef (σ v0 0) fun r5 => mG (ixOK r5 22 v1) <| if 57 < wI (σ r5 (wI v1).toNat) then (mX10_isDigit_B26 v0 v1 σ) else some (1, σ)
def mX10_takeRun_B89 (v0 : Nat) (v1 : Int) (t0 : Nat) (σ : mSt) : Option (Int × mSt) := mG (isC t0 9) <| bnd (upS σ t0 4 v1) fun s2 => some (0, s2)
def mX10_takeRun_B64 (v0 : Nat) (v1 : Int) (σ : mSt) : Option (Int × mSt) := if wI v1 = 1 then (if wI ((σ v0 3) - (σ v0 2)) ≤ 10 then (mX10_takeRun_B89 v0 v1 v0 σ) else bnd (upS σ v0 4 6) fun s6 => some (0, s6)) else mX10_takeRun_B89 v0 v1 v0 σ
def mX10_takeRun_L10 (v0 : Nat) (v1 : Int) (x64 : mSt → Option (Int × mSt)) : Nat → mSt → Option (Int × mSt)
  | 0, _ => none
  | n + 1, σ => if wI (σ v0 1) ≤ wI (σ v0 3) then (x64 σ) else if wI v1 = 1 then (mCall (mX10_isLetter v0 (σ v0 3) σ) fun b16 s17 => if wI b16 = 0 then (x64 s17) else bnd (upS s17 v0 3 ((s17 v0 3) + 1)) fun s20 => mX10_takeRun_L10 v0 v1 x64 n s20) else mCall (mX10_isDigit v0 (σ v0 3) σ) fun b10 s11 => if wI b10 = 0 then (x64 s11) else bnd (upS s11 v0 3 ((s11 v0 3) + 1)) fun s14 => mX10_takeRun_L10 v0 v1 x64 n s14
def mX10_takeRun (v0 : Nat) (v1 : Int) (σ : mSt) : Option (Int × mSt) := mG (isC v0 9) <| bnd (upS σ v0 3 ((σ v0 2) + 1)) fun s22 => mX10_takeRun_L10 v0 v1 (fun zσ => mX10_takeRun_B64 v0 v1 zσ) mF s22
def mX10_signKind (v0 : Nat) (v1 : Int) (σ : mSt) : Option (Int × mSt) := mG (isC v0 9) <| if wI v1 = 43 then (some (3, σ)) else if wI v1 = 45 then (some (4, σ)) else if wI v1 = 59 then (some (5, σ)) else some (6, σ)
def mX10_step_B60 (v0 : Nat) (σ : mSt) : Option (Int × mSt) := if wI (σ v0 2) < wI (σ v0 1) then (mCall (mX10_isLetter v0 (σ v0 2) σ) fun b2 s3 => if wI b2 = 0 then (mCall (mX10_isDigit v0 (s3 v0 2) s3) fun b6 s7 => if wI b6 = 0 then (mRef (s7 v0 0) fun r10 => mG (ixOK r10 22 (s7 v0 2)) <| mCall (mX10_signKind v0 (s7 r10 (wI (s7 v0 2)).toNat) s7) fun b13 s14 => bnd (upS s14 v0 4 b13) fun s16 => bnd (upS s16 v0 3 ((s16 v0 2) + 1)) fun s18 => some (0, s18)) else mCall (mX10_takeRun v0 2 s7) fun b20 s21 => some (0, s21)) else mCall (mX10_takeRun v0 1 s3) fun b23 s24 => some (0, s24)) else bnd (upS σ v0 4 0) fun s26 => bnd (upS s26 v0 3 (s26 v0 2)) fun s28 => some (0, s28)
def mX10_step_L8 (v0 : Nat) (x60 : mSt → Option (Int × mSt)) : Nat → mSt → Option (Int × mSt)
  | 0, _ => none
  | n + 1, σ => if wI (σ v0 1) ≤ wI (σ v0 2) then (x60 σ) else mRef (σ v0 0) fun r31 => mG (ixOK r31 22 (σ v0 2)) <| if wI (σ r31 (wI (σ v0 2)).toNat) = 32 then (bnd (upS σ v0 2 ((σ v0 2) + 1)) fun s35 => mX10_step_L8 v0 x60 n s35) else mRef (σ v0 0) fun r37 => mG (ixOK r37 22 (σ v0 2)) <| if wI (σ r37 (wI (σ v0 2)).toNat) = 10 then (bnd (upS σ v0 2 ((σ v0 2) + 1)) fun s41 => mX10_step_L8 v0 x60 n s41) else x60 σ
def mX10_step (v0 : Nat) (σ : mSt) : Option (Int × mSt) := mG (isC v0 9) <| bnd (upS σ v0 2 (σ v0 3)) fun s43 => mX10_step_L8 v0 (fun zσ => mX10_step_B60 v0 zσ) mF s43
def mX10_begin_B18 (v0 : Nat) (v1 : Nat) (v2 : Int) (t0 : Nat) (t1 : Int) (σ : mSt) : Option (Int × mSt) := mG (isC t0 9) <| bnd (upS σ t0 1 t1) fun s2 => bnd (upS s2 v0 3 0) fun s4 => mCall (mX10_step v0 s4) fun b6 s7 => some (0, s7)
def mX10_begin (v0 : Nat) (v1 : Nat) (v2 : Int) (σ : mSt) : Option (Int × mSt) := mG (isC v0 9) <| mG (v1 ≠ 0) <| bnd (upS σ v0 0 (v1 : Int)) fun s10 => mG ((shp v1).1 = 20 ∨ (shp v1).1 = 21 ∨ (shp v1).1 = 22) <| if wI ((shp v1).2 : Int) ≤ wI v2 then (mX10_begin_B18 v0 v1 v2 v0 ((shp v1).2 : Int) s10) else mX10_begin_B18 v0 v1 v2 v0 v2 s10
def mX10_start (v0 : Nat) (σ : mSt) : Option (Int × mSt) := mG (isC v0 9) <| some (σ v0 2, σ)
def mX8_refuse (v0 : Nat) (v1 : Int) (σ : mSt) : Option (Int × mSt) := mG (isC v0 7) <| mRef (σ v0 0) fun r1 => mCall (mX10_start r1 σ) fun b3 s4 => bnd (upS s4 v0 2 ((8 * b3) + v1)) fun s6 => some (0, s6)
def mX10_is (v0 : Nat) (v1 : Int) (σ : mSt) : Option (Int × mSt) := mG (isC v0 9) <| if wI (σ v0 4) = wI v1 then (some (1, σ)) else some (0, σ)
def mX10_value_B52 (v0 : Nat) (v1 : Int) (σ : mSt) : Option (Int × mSt) := some (v1, σ)
def mX10_value_L7 (v0 : Nat) (x52 : Int → mSt → Option (Int × mSt)) : Nat → Int → Int → mSt → Option (Int × mSt)
  | 0, _, _, _ => none
  | n + 1, v1, v3, σ => if wI (σ v0 3) ≤ wI v3 then (x52 v1 σ) else if wI (σ v0 4) = 2 then (mRef (σ v0 0) fun r3 => mG (ixOK r3 22 v3) <| mCall (mJ9_min_f86c9 ((v1 * 10) + (wI ((σ r3 (wI v3).toNat) - 48))) 1000000 σ) fun b6 s7 => bnd (v3 + 1) fun a9 => mX10_value_L7 v0 x52 n b6 a9 s7) else x52 v1 σ
def mX10_value (v0 : Nat) (σ : mSt) : Option (Int × mSt) := mG (isC v0 9) <| bnd (σ v0 2) fun a11 => mX10_value_L7 v0 (fun z1 zσ => mX10_value_B52 v0 z1 zσ) mF 0 a11 σ
def mX8_readWhole_B92 (v0 : Nat) (v1 : Int) (v2 : Int) (t0 : Nat) (t1 : Int) (σ : mSt) : Option (Int × mSt) := mG (isC t0 7) <| bnd (upS σ t0 3 t1) fun s2 => mRef (s2 v0 0) fun r4 => mCall (mX10_step r4 s2) fun b6 s7 => some (1, s7)
def mX8_readWhole_B79 (v0 : Nat) (v1 : Int) (v2 : Int) (v3 : Int) (v4 : Int) (σ : mSt) : Option (Int × mSt) := if wI v3 = 0 then (mX8_readWhole_B92 v0 v1 v2 v0 v4 σ) else mX8_readWhole_B92 v0 v1 v2 v0 (-v4) σ
def mX8_readWhole_B73 (v0 : Nat) (v1 : Int) (v2 : Int) (σ : mSt) : Option (Int × mSt) := mCall (mX8_refuse v0 4 σ) fun b10 s11 => mG (b10 = 0 ∨ b10 = 1) <| some (b10, s11)
def mX8_readWhole_B20 (v0 : Nat) (v1 : Int) (v2 : Int) (v3 : Int) (σ : mSt) : Option (Int × mSt) := mRef (σ v0 0) fun r14 => mCall (mX10_is r14 2 σ) fun b16 s17 => if wI b16 = 0 then (mCall (mX8_refuse v0 1 s17) fun b32 s33 => mG (b32 = 0 ∨ b32 = 1) <| some (b32, s33)) else mRef (s17 v0 0) fun r20 => mCall (mX10_value r20 s17) fun b22 s23 => if wL b22 = 0 then (mX8_readWhole_B73 v0 v1 v2 s23) else if wL (wI v1) < wL b22 then (mX8_readWhole_B73 v0 v1 v2 s23) else if wI v2 = 0 then (mX8_readWhole_B79 v0 v1 v2 v3 b22 s23) else mCall (mX5_isSquareFree b22 s23) fun b28 s29 => if wI b28 = 0 then (mX8_readWhole_B73 v0 v1 v2 s29) else mX8_readWhole_B79 v0 v1 v2 v3 b22 s29
def mX8_readWhole (v0 : Nat) (v1 : Int) (v2 : Int) (σ : mSt) : Option (Int × mSt) := mG (isC v0 7) <| mRef (σ v0 0) fun r36 => mCall (mX10_is r36 4 σ) fun b38 s39 => if wI b38 = 0 then (mX8_readWhole_B20 v0 v1 v2 b38 s39) else mRef (s39 v0 0) fun r42 => mCall (mX10_step r42 s39) fun b44 s45 => mX8_readWhole_B20 v0 v1 v2 b38 s45
def mX8_readSides (v0 : Nat) (σ : mSt) : Option (Int × mSt) := mG (isC v0 7) <| mCall (mX8_readWhole v0 60 1 σ) fun b1 s2 => if wI b1 = 0 then (some (0, s2)) else mRef (s2 v0 1) fun r5 => mCall (mX0_setFirst r5 (s2 v0 3) s2) fun b7 s8 => mCall (mX8_readWhole v0 60 1 s8) fun b10 s11 => if wI b10 = 0 then (some (0, s11)) else mRef (s11 v0 1) fun r14 => mCall (mX0_setSecond r14 (s11 v0 3) s11) fun b16 s17 => some (1, s17)
def mX8_isField_B48 (v0 : Nat) (v1 : Int) (σ : mSt) : Option (Int × mSt) := some (1, σ)
def mX8_isField (v0 : Nat) (v1 : Int) (σ : mSt) : Option (Int × mSt) := mG (isC v0 7) <| if wL v1 = 7 then (mX8_isField_B48 v0 v1 σ) else if wL v1 = 13 then (mX8_isField_B48 v0 v1 σ) else if wL v1 = 19 then (mX8_isField_B48 v0 v1 σ) else if wL v1 = 31 then (mX8_isField_B48 v0 v1 σ) else if wL v1 = 37 then (mX8_isField_B48 v0 v1 σ) else if wL v1 = 43 then (mX8_isField_B48 v0 v1 σ) else some (0, σ)
def mX8_readField (v0 : Nat) (σ : mSt) : Option (Int × mSt) := mG (isC v0 7) <| mRef (σ v0 0) fun r1 => mCall (mX10_is r1 2 σ) fun b3 s4 => if wI b3 = 0 then (mCall (mX8_refuse v0 1 s4) fun b39 s40 => mG (b39 = 0 ∨ b39 = 1) <| some (b39, s40)) else mRef (s4 v0 0) fun r7 => mCall (mX10_value r7 s4) fun b9 s10 => mCall (mX8_isField v0 b9 s10) fun b12 s13 => if wI b12 = 0 then (mCall (mX8_refuse v0 4 s13) fun b35 s36 => mG (b35 = 0 ∨ b35 = 1) <| some (b35, s36)) else mRef (s13 v0 1) fun r16 => mCall (mX0_setFirst r16 b9 s13) fun b18 s19 => mRef (s19 v0 0) fun r21 => mCall (mX10_step r21 s19) fun b23 s24 => mCall (mX8_readWhole v0 999 0 s24) fun b26 s27 => if wI b26 = 0 then (some (0, s27)) else mRef (s27 v0 1) fun r30 => mCall (mX0_setSecond r30 (s27 v0 3) s27) fun b32 s33 => some (1, s33)
def mX8_isSign_B22 (v0 : Nat) (σ : mSt) : Option (Int × mSt) := some (1, σ)
def mX8_isSign (v0 : Nat) (σ : mSt) : Option (Int × mSt) := mG (isC v0 7) <| mRef (σ v0 0) fun r1 => mCall (mX10_is r1 3 σ) fun b3 s4 => if wI b3 = 0 then (mRef (s4 v0 0) fun r7 => mCall (mX10_is r7 4 s4) fun b9 s10 => if wI b9 = 0 then (some (0, s10)) else mX8_isSign_B22 v0 s10) else mX8_isSign_B22 v0 s4
def mX9_solve_B138 (v0 : Nat) (v1 : Int) (v3 : Int) (σ : mSt) : Option (Int × mSt) := some (0, σ)
def mX9_solve_B125 (v0 : Nat) (v1 : Int) (v3 : Int) (c15 : mSt → Option (Int × mSt)) (x138 : mSt → Option (Int × mSt)) (σ : mSt) : Option (Int × mSt) := bnd (upS σ v0 4 ((σ v0 4) + 1)) fun s1 => c15 s1
def mX9_solve_L44 (v0 : Nat) (v1 : Int) (v3 : Int) (x125 : mSt → Option (Int × mSt)) : Nat → mSt → Option (Int × mSt)
  | 0, _ => none
  | n + 1, σ => if 7 < wL (σ v0 3) then (x125 σ) else bnd ((((σ v0 0) * (σ v0 3)) * (σ v0 3)) + (((σ v0 1) * (σ v0 4)) * (σ v0 4))) fun a4 => mCall (mX5_root a4 σ) fun b6 s7 => bnd (upS s7 v0 2 b6) fun s9 => if wL ((s9 v0 2) * (s9 v0 2)) = wL a4 then (some (1, s9)) else bnd (upS s9 v0 3 ((s9 v0 3) + 1)) fun s12 => mX9_solve_L44 v0 v1 v3 x125 n s12
def mX9_solve_B41 (v0 : Nat) (v1 : Int) (v3 : Int) (c15 : mSt → Option (Int × mSt)) (x138 : mSt → Option (Int × mSt)) (t0 : Nat) (t1 : Int) (σ : mSt) : Option (Int × mSt) := mG (isC t0 8) <| bnd (upS σ t0 3 t1) fun s15 => mX9_solve_L44 v0 v1 v3 (fun zσ => mX9_solve_B125 v0 v1 v3 c15 x138 zσ) mF s15
def mX9_solve_L15 (v0 : Nat) (v1 : Int) (v3 : Int) (x138 : mSt → Option (Int × mSt)) : Nat → mSt → Option (Int × mSt)
  | 0, _ => none
  | n + 1, σ => if 7 < wL (σ v0 4) then (x138 σ) else if wL (σ v0 4) = 0 then (mX9_solve_B41 v0 v1 v3 (mX9_solve_L15 v0 v1 v3 x138 n) x138 v0 1 σ) else mX9_solve_B41 v0 v1 v3 (mX9_solve_L15 v0 v1 v3 x138 n) x138 v0 0 σ
def mX9_solve (v0 : Nat) (v1 : Int) (v3 : Int) (σ : mSt) : Option (Int × mSt) := mG (isC v0 8) <| bnd (upS σ v0 0 v1) fun s19 => bnd (upS s19 v0 1 v3) fun s21 => bnd (upS s21 v0 4 0) fun s23 => mX9_solve_L15 v0 v1 v3 (fun zσ => mX9_solve_B138 v0 v1 v3 zσ) mF s23
def mX9_part (v0 : Nat) (v1 : Int) (σ : mSt) : Option (Int × mSt) := mG (isC v0 8) <| if wI v1 = 0 then (some (σ v0 2, σ)) else if wI v1 = 1 then (some (σ v0 3, σ)) else some (σ v0 4, σ)
def mX11_putBytes_B46 (v0 : Nat) (v1 : Int) (σ : mSt) : Option (Int × mSt) := some (0, σ)
def mX11_putBytes_L3 (v0 : Nat) (v1 : Int) (x46 : mSt → Option (Int × mSt)) : Nat → Int → mSt → Option (Int × mSt)
  | 0, _, _ => none
  | n + 1, v2, σ => if wI v2 < 0 then (x46 σ) else if 600 ≤ wI (σ v0 1) then (x46 σ) else mRef (σ v0 0) fun r3 => mG (ixOK r3 22 (σ v0 1)) <| mG (-128 ≤ wB (oShr v1 v2) ∧ wB (oShr v1 v2) < 128) <| bnd (upS σ r3 (wI (σ v0 1)).toNat (wB (oShr v1 v2))) fun s7 => bnd (upS s7 v0 1 ((s7 v0 1) + 1)) fun s9 => bnd (v2 + (-8)) fun a11 => mX11_putBytes_L3 v0 v1 x46 n a11 s9
def mX11_putBytes (v0 : Nat) (v1 : Int) (σ : mSt) : Option (Int × mSt) := mG (isC v0 10) <| mX11_putBytes_L3 v0 v1 (fun zσ => mX11_putBytes_B46 v0 v1 zσ) mF 24 σ
def mX11_feed (v0 : Nat) (v1 : Int) (v2 : Int) (v3 : Int) (v4 : Int) (v5 : Int) (σ : mSt) : Option (Int × mSt) := mG (isC v0 10) <| if wI ((σ v0 1) + 20) ≤ 600 then (mCall (mX11_putBytes v0 v1 σ) fun b2 s3 => mCall (mX11_putBytes v0 v2 s3) fun b5 s6 => mCall (mX11_putBytes v0 v3 s6) fun b8 s9 => mCall (mX11_putBytes v0 v4 s9) fun b11 s12 => mCall (mX11_putBytes v0 v5 s12) fun b14 s15 => some (s15 v0 1, s15)) else some ((-1), σ)
def mX11_isTold_B19 (v0 : Nat) (v1 : Int) (σ : mSt) : Option (Int × mSt) := some (0, σ)
def mX11_isTold (v0 : Nat) (v1 : Int) (σ : mSt) : Option (Int × mSt) := mG (isC v0 10) <| if wI v1 < 0 then (mX11_isTold_B19 v0 v1 σ) else mRef (σ v0 3) fun r2 => mCall (mX0_size r2 σ) fun b4 s5 => if wI b4 ≤ wI v1 then (mX11_isTold_B19 v0 v1 s5) else some (1, s5)
def mX11_isQuaternion_B23 (v0 : Nat) (v1 : Int) (σ : mSt) : Option (Int × mSt) := some (0, σ)
def mX11_isQuaternion (v0 : Nat) (v1 : Int) (σ : mSt) : Option (Int × mSt) := mG (isC v0 10) <| mCall (mX11_isTold v0 v1 σ) fun b1 s2 => if wI b1 = 0 then (mX11_isQuaternion_B23 v0 v1 s2) else mRef (s2 v0 3) fun r5 => mCall (mX0_kind r5 v1 s2) fun b7 s8 => if wI b7 = 0 then (some (1, s8)) else mX11_isQuaternion_B23 v0 v1 s8
def mX11_beginAnew_B83 (v0 : Nat) (σ : mSt) : Option (Int × mSt) := some (0, σ)
def mX11_beginAnew_L36 (v0 : Nat) (x83 : mSt → Option (Int × mSt)) : Nat → Int → mSt → Option (Int × mSt)
  | 0, _, _ => none
  | n + 1, v1, σ => if 8 ≤ wI v1 then (x83 σ) else mCall (mX11_isQuaternion v0 v1 σ) fun b2 s3 => if wI b2 = 0 then (bnd (v1 + 1) fun a6 => mX11_beginAnew_L36 v0 x83 n a6 s3) else mRef (s3 v0 7) fun r8 => mG (ixOK r8 24 v1) <| mRef (s3 r8 (wI v1).toNat) fun r11 => mRef (s3 v0 3) fun r13 => mCall (mX0_first r13 v1 s3) fun b15 s16 => mRef (s16 v0 3) fun r18 => mCall (mX0_second r18 v1 s16) fun b20 s21 => mCall (mX6_begin r11 (wI b15) (wI b20) s21) fun b23 s24 => bnd (v1 + 1) fun a26 => mX11_beginAnew_L36 v0 x83 n a26 s24
def mX11_beginAnew_B34 (v0 : Nat) (σ : mSt) : Option (Int × mSt) := mX11_beginAnew_L36 v0 (fun zσ => mX11_beginAnew_B83 v0 zσ) mF 0 σ
def mX11_beginAnew_L13 (v0 : Nat) (x34 : mSt → Option (Int × mSt)) : Nat → Int → mSt → Option (Int × mSt)
  | 0, _, _ => none
  | n + 1, v1, σ => if 8 ≤ wI v1 then (x34 σ) else mRef (σ v0 6) fun r29 => mG (ixOK r29 23 v1) <| mRef (σ r29 (wI v1).toNat) fun r32 => mCall (mX1_drop r32 σ) fun b34 s35 => bnd (v1 + 1) fun a37 => mX11_beginAnew_L13 v0 x34 n a37 s35
def mX11_beginAnew (v0 : Nat) (σ : mSt) : Option (Int × mSt) := mG (isC v0 10) <| mRef (σ v0 5) fun r39 => mRef (σ v0 3) fun r41 => mCall (mX7_reckon r39 r41 σ) fun b43 s44 => mX11_beginAnew_L13 v0 (fun zσ => mX11_beginAnew_B34 v0 zσ) mF 0 s44
def mX11_local_B29 (v0 : Nat) (v1 : Int) (v2 : Int) (σ : mSt) : Option (Int × mSt) := mRef (σ v0 5) fun r1 => mCall (mX7_sixthsAt r1 v1 v2 σ) fun b3 s4 => some (b3, s4)
def mX11_local (v0 : Nat) (v1 : Int) (v2 : Int) (σ : mSt) : Option (Int × mSt) := mG (isC v0 10) <| mCall (mX11_isTold v0 v1 σ) fun b6 s7 => if wI b6 = 0 then (some ((-1), s7)) else if wI v2 ≤ 60000 then (if wI v2 = 0 then (mX11_local_B29 v0 v1 v2 s7) else mCall (mX5_isPrime v2 s7) fun b12 s13 => if wI b12 = 0 then (some ((-1), s13)) else mX11_local_B29 v0 v1 v2 s13) else some ((-1), s7)
def mX11_place (v0 : Nat) (v1 : Int) (v2 : Int) (σ : mSt) : Option (Int × mSt) := mG (isC v0 10) <| mCall (mX11_isTold v0 v1 σ) fun b1 s2 => if wI b1 = 0 then (some ((-2), s2)) else if (-1) ≤ wI v2 then (if wI v2 = (-1) then (mRef (s2 v0 5) fun r12 => mCall (mX7_howMany r12 v1 s2) fun b14 s15 => some (b14, s15)) else mRef (s2 v0 5) fun r7 => mCall (mX7_placeOf r7 v1 v2 s2) fun b9 s10 => some (b9, s10)) else some ((-2), s2)
def mX11_index (v0 : Nat) (v1 : Int) (σ : mSt) : Option (Int × mSt) := mG (isC v0 10) <| mCall (mX11_isTold v0 v1 σ) fun b1 s2 => if wI b1 = 0 then (some ((-1), s2)) else mRef (s2 v0 5) fun r5 => mCall (mX7_indexOf r5 v1 s2) fun b7 s8 => some (b7, s8)
def mX11_alike (v0 : Nat) (v1 : Int) (v2 : Int) (σ : mSt) : Option (Int × mSt) := mG (isC v0 10) <| mCall (mX11_isTold v0 v1 σ) fun b1 s2 => if wI b1 = 0 then (some ((-1), s2)) else mCall (mX11_isTold v0 v2 s2) fun b5 s6 => if wI b5 = 0 then (some ((-1), s6)) else mRef (s6 v0 5) fun r9 => mCall (mX7_areAlike r9 v1 v2 s6) fun b11 s12 => if wI b11 = 0 then (some (0, s12)) else some (1, s12)
def mX11_classes_B73 (v0 : Nat) (v1 : Int) (σ : mSt) : Option (Int × mSt) := some (v1, σ)
def mX11_classes_B55 (v0 : Nat) (c4 : Int → Int → mSt → Option (Int × mSt)) (x73 : Int → mSt → Option (Int × mSt)) (v1 : Int) (v2 : Int) (v3 : Int) (σ : mSt) : Option (Int × mSt) := if wI v3 = 0 then (bnd (v1 + 0) fun a2 => bnd (v2 + 1) fun a4 => c4 a2 a4 σ) else bnd (v1 + 1) fun a6 => bnd (v2 + 1) fun a8 => c4 a6 a8 σ
def mX11_classes_L20 (v0 : Nat) (v1 : Int) (v2 : Int) (x55 : Int → mSt → Option (Int × mSt)) : Nat → Int → Int → mSt → Option (Int × mSt)
  | 0, _, _, _ => none
  | n + 1, v3, v4, σ => if wI v2 ≤ wI v4 then (x55 v3 σ) else if wI v3 = 0 then (x55 v3 σ) else mRef (σ v0 5) fun r12 => mCall (mX7_areAlike r12 v2 v4 σ) fun b14 s15 => if wI b14 = 0 then (bnd (v4 + 1) fun a20 => mX11_classes_L20 v0 v1 v2 x55 n 1 a20 s15) else bnd (v4 + 1) fun a18 => mX11_classes_L20 v0 v1 v2 x55 n 0 a18 s15
def mX11_classes_L4 (v0 : Nat) (x73 : Int → mSt → Option (Int × mSt)) : Nat → Int → Int → mSt → Option (Int × mSt)
  | 0, _, _, _ => none
  | n + 1, v1, v2, σ => mRef (σ v0 3) fun r22 => mCall (mX0_size r22 σ) fun b24 s25 => if wI b24 ≤ wI v2 then (x73 v1 s25) else mX11_classes_L20 v0 v1 v2 (fun z3 zσ => mX11_classes_B55 v0 (mX11_classes_L4 v0 x73 n) x73 v1 v2 z3 zσ) mF 1 0 s25
def mX11_classes (v0 : Nat) (σ : mSt) : Option (Int × mSt) := mG (isC v0 10) <| mX11_classes_L4 v0 (fun z1 zσ => mX11_classes_B73 v0 z1 zσ) mF 0 0 σ
def mX11_isSplit_B44 (v0 : Nat) (v1 : Int) (σ : mSt) : Option (Int × mSt) := some (0, σ)
def mX11_isSplit (v0 : Nat) (v1 : Int) (σ : mSt) : Option (Int × mSt) := mG (isC v0 10) <| mRef (σ v0 5) fun r1 => mCall (mX7_indexOf r1 v1 σ) fun b3 s4 => if wI b3 = 1 then (mRef (s4 v0 9) fun r7 => mRef (s4 v0 3) fun r9 => mCall (mX0_first r9 v1 s4) fun b11 s12 => mRef (s12 v0 3) fun r14 => mCall (mX0_second r14 v1 s12) fun b16 s17 => mCall (mX9_solve r7 (wI b11) (wI b16) s17) fun b19 s20 => if wI b19 = 0 then (mX11_isSplit_B44 v0 v1 s20) else some (1, s20)) else mX11_isSplit_B44 v0 v1 s4
def mX11_solution (v0 : Nat) (v1 : Int) (v2 : Int) (σ : mSt) : Option (Int × mSt) := mG (isC v0 10) <| mCall (mX11_isQuaternion v0 v1 σ) fun b1 s2 => if wI b1 = 0 then (some ((-1), s2)) else if wI v2 < 0 then (some ((-1), s2)) else if wI v2 ≤ 2 then (mCall (mX11_isSplit v0 v1 s2) fun b7 s8 => if wI b7 = 0 then (some ((-2), s8)) else mRef (s8 v0 9) fun r11 => mCall (mX9_part r11 v2 s8) fun b13 s14 => some (b13, s14)) else some ((-1), s2)
def mX11_disc (v0 : Nat) (v1 : Int) (σ : mSt) : Option (Int × mSt) := mG (isC v0 10) <| mCall (mX11_isQuaternion v0 v1 σ) fun b1 s2 => if wI b1 = 0 then (some ((-1), s2)) else mRef (s2 v0 7) fun r5 => mG (ixOK r5 24 v1) <| mRef (s2 r5 (wI v1).toNat) fun r8 => mCall (mX6_discriminant r8 s2) fun b10 s11 => some (b10, s11)
set_option maxRecDepth 100000 in
set_option maxHeartbeats 4000000 in
theorem wX7_areAlike_B51 (l : Launch) (E : mE) (out : Int × mSt) {p : Program} {e : Env} {s : State} {m : MethodId} {args : Array Value} {below : List Frame} {meth : Method} {c : Code} (G : CallFix p m c cX7_areAlike 5 s args mTs RX7) (hr : meth.sig.returnType = (some .boolean)) (hk : meth.locks = false) (v0 : Nat) (v1 : Int) (v2 : Int) (g0 : isC v0 6) : ∀ (v3 : Int) (σ : mSt) (H : Heap) (locs : List Loc) (ls : Array Slot), mX7_areAlike_B51 v0 v1 v2 v3 σ = some out → mM (mA E 257) E 257 σ s H locs → lv_has ls 5 [(3, vI v3)] → mGo l p e 0 0 s m args below meth c E (some (vI out.1)) out.2 H locs (F0 m 51 ls []) := by
  intro v3 σ H locs ls hm hM hl
  unfold mX7_areAlike_B51 at hm
  refine r_iload_n (np := 52) G hl 0 rfl dX7_areAlike_51 rfl rfl ?_
  obtain ⟨g1, hm⟩ := g_t hm
  exact r_zret G hr hk hM g1 hm dX7_areAlike_52
set_option maxRecDepth 100000 in
set_option maxHeartbeats 4000000 in
theorem wX7_areAlike_L5 (l : Launch) (E : mE) (out : Int × mSt) {p : Program} {e : Env} {s : State} {m : MethodId} {args : Array Value} {below : List Frame} {meth : Method} {c : Code} (G : CallFix p m c cX7_areAlike 5 s args mTs RX7) (hr : meth.sig.returnType = (some .boolean)) (hk : meth.locks = false) (v0 : Nat) (v1 : Int) (v2 : Int) (g0 : isC v0 6) (x51 : Int → mSt → Option (Int × mSt)) (hx51 : ∀ (v3 : Int) (σ : mSt) (H : Heap) (locs : List Loc) (ls : Array Slot), x51 v3 σ = some out → mM (mA E 257) E 257 σ s H locs → lv_has ls 5 [(3, vI v3)] → mGo l p e 0 0 s m args below meth c E (some (vI out.1)) out.2 H locs (F0 m 51 ls [])) : ∀ (n : Nat) (v3 : Int) (v4 : Int) (σ : mSt) (H : Heap) (locs : List Loc) (ls : Array Slot), mX7_areAlike_L5 v0 v1 v2 x51 n v3 v4 σ = some out → mM (mA E 257) E 257 σ s H locs → lv_has ls 5 [(0, .ref (eA E v0)), (1, vI v1), (2, vI v2), (3, vI v3), (4, vI v4)] → mGo l p e 0 0 s m args below meth c E (some (vI out.1)) out.2 H locs (F0 m 5 ls []) := by
  intro n
  induction n with
  | zero =>
    intro v3 v4 σ H locs ls hm hM hl
    exact absurd hm (by rw [mX7_areAlike_L5.eq_1]; exact fun h => nomatch h)
  | succ n ih =>
    intro v3 v4 σ H locs ls hm hM hl
    rw [mX7_areAlike_L5.eq_2] at hm
    refine r_iload (np := 7) G hl 4 rfl dX7_areAlike_5 rfl ?_
    refine r_aload_n (np := 8) G hl 0 rfl dX7_areAlike_7 rfl rfl ?_
    refine r_getI (np := 11) G hM (shp_lt g0 (by decide)) g0 fdX7_0 lkX7_9 dX7_areAlike_8 rfl ?_
    refine r_icmp_ge (np := 14) (tgt := 51) G rfl rfl dX7_areAlike_11 (by decide) rfl (fun h2 => ?_) (fun h2 => ?_)
    · have hm := b_t h2 hm
      exact hx51 v3 _ _ _ _ hm hM (lv_sub hl [3] rfl)
    · have hm := b_f h2 hm
      refine r_iload_n (np := 15) G hl 3 rfl dX7_areAlike_14 rfl rfl ?_
      refine r_if_eq (np := 18) (tgt := 51) G rfl dX7_areAlike_15 (by decide) rfl (fun h3 => ?_) (fun h3 => ?_)
      · have hm := b_t h3 hm
        exact hx51 v3 _ _ _ _ hm hM (lv_sub hl [3] rfl)
      · have hm := b_f h3 hm
        refine r_aload_n (np := 19) G hl 0 rfl dX7_areAlike_18 rfl rfl ?_
        obtain ⟨r4, e5, hm⟩ := ref_t hm
        refine r_getR (np := 22) G hM (shp_lt g0 (by decide)) g0 e5 fdX7_3 lkX7_24 dX7_areAlike_19 rfl ?_
        refine r_iload_n (np := 23) G hl 1 rfl dX7_areAlike_22 rfl rfl ?_
        obtain ⟨g6, hm⟩ := g_t hm
        obtain ⟨r7, e8, hm⟩ := ref_t hm
        refine r_aaload (np := 24) G hM (t := 6) g6 rfl ⟨by decide, by decide⟩ rfl rfl e8 dX7_areAlike_23 rfl ?_
        refine r_iload (np := 26) G hl 4 rfl dX7_areAlike_24 rfl ?_
        obtain ⟨g9, hm⟩ := g_t hm
        refine r_iaload (np := 27) G hM g9 rfl dX7_areAlike_26 rfl ?_
        refine r_aload_n (np := 28) G hl 0 rfl dX7_areAlike_27 rfl rfl ?_
        obtain ⟨r10, e11, hm⟩ := ref_t hm
        refine r_getR (np := 31) G hM (shp_lt g0 (by decide)) g0 e11 fdX7_3 lkX7_24 dX7_areAlike_28 rfl ?_
        refine r_iload_n (np := 32) G hl 2 rfl dX7_areAlike_31 rfl rfl ?_
        obtain ⟨g12, hm⟩ := g_t hm
        obtain ⟨r13, e14, hm⟩ := ref_t hm
        refine r_aaload (np := 33) G hM (t := 6) g12 rfl ⟨by decide, by decide⟩ rfl rfl e14 dX7_areAlike_32 rfl ?_
        refine r_iload (np := 35) G hl 4 rfl dX7_areAlike_33 rfl ?_
        obtain ⟨g15, hm⟩ := g_t hm
        refine r_iaload (np := 36) G hM g15 rfl dX7_areAlike_35 rfl ?_
        refine r_icmp_ne (np := 39) (tgt := 43) G rfl rfl dX7_areAlike_36 (by decide) rfl (fun h16 => ?_) (fun h16 => ?_)
        · have hm := b_f h16 hm
          refine r_iconst (np := 44) G 0 dX7_areAlike_43 rfl ?_
          refine r_istore_n (np := 45) G hl rfl [(3, vI 0), (0, .ref (eA E v0)), (1, vI v1), (2, vI v2), (4, vI v4)] dX7_areAlike_44 rfl rfl (by decide) rfl (fun ls hl => ?_)
          obtain ⟨a17, e18, hm⟩ := bnd_t hm
          refine r_iinc (np := 48) G hl 4 rfl e18 [(4, vI a17), (3, vI 0), (0, .ref (eA E v0)), (1, vI v1), (2, vI v2)] dX7_areAlike_45 rfl (by decide) rfl (fun ls hl => ?_)
          refine r_goto (np := 5) G dX7_areAlike_48 (by decide) ?_
          exact ih 0 a17 _ _ _ _ hm hM (lv_sub hl [2, 3, 4, 1, 0] rfl)
        · have hm := b_t h16 hm
          refine r_iconst (np := 40) G 1 dX7_areAlike_39 rfl ?_
          refine r_goto (np := 44) G dX7_areAlike_40 (by decide) ?_
          refine r_istore_n (np := 45) G hl rfl [(3, vI 1), (0, .ref (eA E v0)), (1, vI v1), (2, vI v2), (4, vI v4)] dX7_areAlike_44 rfl rfl (by decide) rfl (fun ls hl => ?_)
          obtain ⟨a19, e20, hm⟩ := bnd_t hm
          refine r_iinc (np := 48) G hl 4 rfl e20 [(4, vI a19), (3, vI 1), (0, .ref (eA E v0)), (1, vI v1), (2, vI v2)] dX7_areAlike_45 rfl (by decide) rfl (fun ls hl => ?_)
          refine r_goto (np := 5) G dX7_areAlike_48 (by decide) ?_
          exact ih 1 a19 _ _ _ _ hm hM (lv_sub hl [2, 3, 4, 1, 0] rfl)
set_option maxRecDepth 100000 in
set_option maxHeartbeats 4000000 in
theorem qX7_areAlike (l : Launch) (E : mE) (σ : mSt) (v0 : Nat) (v1 : Int) (v2 : Int) (out : Int × mSt) (hm : mX7_areAlike v0 v1 v2 σ = some out) : mMet l yX7_areAlike cX7_areAlike 5 (some .boolean) 0 0 E 257 [.ref (eA E v0), vI v1, vI v2] σ (some (vI out.1)) out.2 := by
  unfold mX7_areAlike at hm
  obtain ⟨g0, hm⟩ := g_t hm
  refine m_entry (by decide +kernel) (Nat.le_of_ble_eq_true rfl) (fun p e s m args below meth c G hr hk hM ls hl => ?_)
  have G : CallFix p m c cX7_areAlike 5 s args mTs RX7 := G
  have hl : lv_has ls 5 [(0, .ref (eA E v0)), (1, vI v1), (2, vI v2)] := hl
  refine r_iconst (np := 1) G 1 dX7_areAlike_0 rfl ?_
  refine r_istore_n (np := 2) G hl rfl [(3, vI 1), (0, .ref (eA E v0)), (1, vI v1), (2, vI v2)] dX7_areAlike_1 rfl rfl (by decide) rfl (fun ls hl => ?_)
  refine r_iconst (np := 3) G 0 dX7_areAlike_2 rfl ?_
  refine r_istore (np := 5) G hl rfl [(4, vI 0), (3, vI 1), (0, .ref (eA E v0)), (1, vI v1), (2, vI v2)] dX7_areAlike_3 rfl (by decide) rfl (fun ls hl => ?_)
  exact wX7_areAlike_L5 l E out G hr hk v0 v1 v2 g0 (fun z3 zσ => mX7_areAlike_B51 v0 v1 v2 z3 zσ) (fun z3 zσ zH zl zs zm zM zv => wX7_areAlike_B51 l E out G hr hk v0 v1 v2 g0 z3 zσ zH zl zs zm zM zv) mF 1 0 _ _ _ _ hm hM (lv_sub hl [2, 3, 4, 1, 0] rfl)
theorem gX7_areAlike {v0 : Nat} {v1 : Int} {v2 : Int} {σ : mSt} {out : Int × mSt} (hm : mX7_areAlike v0 v1 v2 σ = some out) : isC v0 6 := (g_t hm).1
set_option maxRecDepth 100000 in
set_option maxHeartbeats 4000000 in
theorem wX10_isLetter_B26 (l : Launch) (E : mE) (out : Int × mSt) {p : Program} {e : Env} {s : State} {m : MethodId} {args : Array Value} {below : List Frame} {meth : Method} {c : Code} (G : CallFix p m c cX10_isLetter 2 s args mTs RX10) (hr : meth.sig.returnType = (some .boolean)) (hk : meth.locks = false) (v0 : Nat) (v1 : Int) (g0 : isC v0 9) : ∀ (σ : mSt) (H : Heap) (locs : List Loc) (ls : Array Slot), mX10_isLetter_B26 v0 v1 σ = some out → mM (mA E 257) E 257 σ s H locs → lv_has ls 2 [] → mGo l p e 0 0 s m args below meth c E (some (vI out.1)) out.2 H locs (F0 m 26 ls []) := by
  intro σ H locs ls hm hM hl
  unfold mX10_isLetter_B26 at hm
  refine r_iconst (np := 27) G 0 dX10_isLetter_26 rfl ?_
  exact r_zret G hr hk hM (Or.inl rfl) hm dX10_isLetter_27
set_option maxRecDepth 100000 in
set_option maxHeartbeats 4000000 in
theorem qX10_isLetter (l : Launch) (E : mE) (σ : mSt) (v0 : Nat) (v1 : Int) (out : Int × mSt) (hm : mX10_isLetter v0 v1 σ = some out) : mMet l yX10_isLetter cX10_isLetter 2 (some .boolean) 0 0 E 257 [.ref (eA E v0), vI v1] σ (some (vI out.1)) out.2 := by
  unfold mX10_isLetter at hm
  obtain ⟨g0, hm⟩ := g_t hm
  refine m_entry (by decide +kernel) (Nat.le_of_ble_eq_true rfl) (fun p e s m args below meth c G hr hk hM ls hl => ?_)
  have G : CallFix p m c cX10_isLetter 2 s args mTs RX10 := G
  have hl : lv_has ls 2 [(0, .ref (eA E v0)), (1, vI v1)] := hl
  refine r_aload_n (np := 1) G hl 0 rfl dX10_isLetter_0 rfl rfl ?_
  obtain ⟨r1, e2, hm⟩ := ref_t hm
  refine r_getR (np := 4) G hM (shp_lt g0 (by decide)) g0 e2 fdX10_0 lkX10_9 dX10_isLetter_1 rfl ?_
  refine r_iload_n (np := 5) G hl 1 rfl dX10_isLetter_4 rfl rfl ?_
  obtain ⟨g3, hm⟩ := g_t hm
  refine r_baload (np := 6) G hM g3 rfl dX10_isLetter_5 rfl ?_
  refine r_bipush (np := 8) G 97 dX10_isLetter_6 (by decide) rfl ?_
  refine r_icmp_lt (np := 11) (tgt := 26) G rfl (wIk 97 rfl) dX10_isLetter_8 (by decide) rfl (fun h4 => ?_) (fun h4 => ?_)
  · have hm := b_t h4 hm
    exact wX10_isLetter_B26 l E out G hr hk v0 v1 g0 _ _ _ _ hm hM (lv_sub hl [] rfl)
  · have hm := b_f h4 hm
    refine r_aload_n (np := 12) G hl 0 rfl dX10_isLetter_11 rfl rfl ?_
    obtain ⟨r5, e6, hm⟩ := ref_t hm
    refine r_getR (np := 15) G hM (shp_lt g0 (by decide)) g0 e6 fdX10_0 lkX10_9 dX10_isLetter_12 rfl ?_
    refine r_iload_n (np := 16) G hl 1 rfl dX10_isLetter_15 rfl rfl ?_
    obtain ⟨g7, hm⟩ := g_t hm
    refine r_baload (np := 17) G hM g7 rfl dX10_isLetter_16 rfl ?_
    refine r_bipush (np := 19) G 122 dX10_isLetter_17 (by decide) rfl ?_
    refine r_icmp_gt (np := 22) (tgt := 26) G rfl (wIk 122 rfl) dX10_isLetter_19 (by decide) rfl (fun h8 => ?_) (fun h8 => ?_)
    · have hm := b_t h8 hm
      exact wX10_isLetter_B26 l E out G hr hk v0 v1 g0 _ _ _ _ hm hM (lv_sub hl [] rfl)
    · have hm := b_f h8 hm
      refine r_iconst (np := 23) G 1 dX10_isLetter_22 rfl ?_
      refine r_goto (np := 27) G dX10_isLetter_23 (by decide) ?_
      exact r_zret G hr hk hM (Or.inr rfl) hm dX10_isLetter_27
theorem gX10_isLetter {v0 : Nat} {v1 : Int} {σ : mSt} {out : Int × mSt} (hm : mX10_isLetter v0 v1 σ = some out) : isC v0 9 := (g_t hm).1
set_option maxRecDepth 100000 in
set_option maxHeartbeats 4000000 in
theorem wX10_isDigit_B26 (l : Launch) (E : mE) (out : Int × mSt) {p : Program} {e : Env} {s : State} {m : MethodId} {args : Array Value} {below : List Frame} {meth : Method} {c : Code} (G : CallFix p m c cX10_isDigit 2 s args mTs RX10) (hr : meth.sig.returnType = (some .boolean)) (hk : meth.locks = false) (v0 : Nat) (v1 : Int) (g0 : isC v0 9) : ∀ (σ : mSt) (H : Heap) (locs : List Loc) (ls : Array Slot), mX10_isDigit_B26 v0 v1 σ = some out → mM (mA E 257) E 257 σ s H locs → lv_has ls 2 [] → mGo l p e 0 0 s m args below meth c E (some (vI out.1)) out.2 H locs (F0 m 26 ls []) := by
  intro σ H locs ls hm hM hl
  unfold mX10_isDigit_B26 at hm
  refine r_iconst (np := 27) G 0 dX10_isDigit_26 rfl ?_
  exact r_zret G hr hk hM (Or.inl rfl) hm dX10_isDigit_27
set_option maxRecDepth 100000 in
set_option maxHeartbeats 4000000 in
theorem qX10_isDigit (l : Launch) (E : mE) (σ : mSt) (v0 : Nat) (v1 : Int) (out : Int × mSt) (hm : mX10_isDigit v0 v1 σ = some out) : mMet l yX10_isDigit cX10_isDigit 2 (some .boolean) 0 0 E 257 [.ref (eA E v0), vI v1] σ (some (vI out.1)) out.2 := by
  unfold mX10_isDigit at hm
  obtain ⟨g0, hm⟩ := g_t hm
  refine m_entry (by decide +kernel) (Nat.le_of_ble_eq_true rfl) (fun p e s m args below meth c G hr hk hM ls hl => ?_)
  have G : CallFix p m c cX10_isDigit 2 s args mTs RX10 := G
  have hl : lv_has ls 2 [(0, .ref (eA E v0)), (1, vI v1)] := hl
  refine r_aload_n (np := 1) G hl 0 rfl dX10_isDigit_0 rfl rfl ?_
  obtain ⟨r1, e2, hm⟩ := ref_t hm
  refine r_getR (np := 4) G hM (shp_lt g0 (by decide)) g0 e2 fdX10_0 lkX10_9 dX10_isDigit_1 rfl ?_
  refine r_iload_n (np := 5) G hl 1 rfl dX10_isDigit_4 rfl rfl ?_
  obtain ⟨g3, hm⟩ := g_t hm
  refine r_baload (np := 6) G hM g3 rfl dX10_isDigit_5 rfl ?_
  refine r_bipush (np := 8) G 48 dX10_isDigit_6 (by decide) rfl ?_
  refine r_icmp_lt (np := 11) (tgt := 26) G rfl (wIk 48 rfl) dX10_isDigit_8 (by decide) rfl (fun h4 => ?_) (fun h4 => ?_)
  · have hm := b_t h4 hm
    exact wX10_isDigit_B26 l E out G hr hk v0 v1 g0 _ _ _ _ hm hM (lv_sub hl [] rfl)
  · have hm := b_f h4 hm
    refine r_aload_n (np := 12) G hl 0 rfl dX10_isDigit_11 rfl rfl ?_
    obtain ⟨r5, e6, hm⟩ := ref_t hm
    refine r_getR (np := 15) G hM (shp_lt g0 (by decide)) g0 e6 fdX10_0 lkX10_9 dX10_isDigit_12 rfl ?_
    refine r_iload_n (np := 16) G hl 1 rfl dX10_isDigit_15 rfl rfl ?_
    obtain ⟨g7, hm⟩ := g_t hm
    refine r_baload (np := 17) G hM g7 rfl dX10_isDigit_16 rfl ?_
    refine r_bipush (np := 19) G 57 dX10_isDigit_17 (by decide) rfl ?_
    refine r_icmp_gt (np := 22) (tgt := 26) G rfl (wIk 57 rfl) dX10_isDigit_19 (by decide) rfl (fun h8 => ?_) (fun h8 => ?_)
    · have hm := b_t h8 hm
      exact wX10_isDigit_B26 l E out G hr hk v0 v1 g0 _ _ _ _ hm hM (lv_sub hl [] rfl)
    · have hm := b_f h8 hm
      refine r_iconst (np := 23) G 1 dX10_isDigit_22 rfl ?_
      refine r_goto (np := 27) G dX10_isDigit_23 (by decide) ?_
      exact r_zret G hr hk hM (Or.inr rfl) hm dX10_isDigit_27
theorem gX10_isDigit {v0 : Nat} {v1 : Int} {σ : mSt} {out : Int × mSt} (hm : mX10_isDigit v0 v1 σ = some out) : isC v0 9 := (g_t hm).1
set_option maxRecDepth 100000 in
set_option maxHeartbeats 4000000 in
theorem wX10_takeRun_B89 (l : Launch) (E : mE) (out : Int × mSt) {p : Program} {e : Env} {s : State} {m : MethodId} {args : Array Value} {below : List Frame} {meth : Method} {c : Code} (G : CallFix p m c cX10_takeRun 2 s args mTs RX10) (hr : meth.sig.returnType = none) (hk : meth.locks = false) (v0 : Nat) (v1 : Int) (g0 : isC v0 9) : ∀ (t0 : Nat) (σ : mSt) (H : Heap) (locs : List Loc) (ls : Array Slot), mX10_takeRun_B89 v0 v1 t0 σ = some out → mM (mA E 257) E 257 σ s H locs → lv_has ls 2 [(1, vI v1)] → mGo l p e 1 21 s m args below meth c E none out.2 H locs (F0 m 89 ls [.ref (eA E t0)]) := by
  intro t0 σ H locs ls hm hM hl
  unfold mX10_takeRun_B89 at hm
  refine r_iload_n (np := 90) G hl 0 rfl dX10_takeRun_89 rfl rfl ?_
  obtain ⟨g1, hm⟩ := g_t hm
  obtain ⟨s2, e3, hm⟩ := bnd_t hm
  refine r_putI (np := 93) G hM (shp_lt g1 (by decide)) g1 ptX10_4 rfl lkX10_25 s2 e3 dX10_takeRun_90 rfl (fun H locs hM => ?_)
  exact r_vret G hr hk hM hm dX10_takeRun_93
set_option maxRecDepth 100000 in
set_option maxHeartbeats 4000000 in
theorem wX10_takeRun_B64 (l : Launch) (E : mE) (out : Int × mSt) {p : Program} {e : Env} {s : State} {m : MethodId} {args : Array Value} {below : List Frame} {meth : Method} {c : Code} (G : CallFix p m c cX10_takeRun 2 s args mTs RX10) (hr : meth.sig.returnType = none) (hk : meth.locks = false) (v0 : Nat) (v1 : Int) (g0 : isC v0 9) : ∀ (σ : mSt) (H : Heap) (locs : List Loc) (ls : Array Slot), mX10_takeRun_B64 v0 v1 σ = some out → mM (mA E 257) E 257 σ s H locs → lv_has ls 2 [(0, .ref (eA E v0)), (1, vI v1)] → mGo l p e 1 21 s m args below meth c E none out.2 H locs (F0 m 64 ls []) := by
  intro σ H locs ls hm hM hl
  unfold mX10_takeRun_B64 at hm
  refine r_aload_n (np := 65) G hl 0 rfl dX10_takeRun_64 rfl rfl ?_
  refine r_iload_n (np := 66) G hl 1 rfl dX10_takeRun_65 rfl rfl ?_
  refine r_iconst (np := 67) G 1 dX10_takeRun_66 rfl ?_
  refine r_icmp_ne (np := 70) (tgt := 89) G rfl (wIk 1 rfl) dX10_takeRun_67 (by decide) rfl (fun h4 => ?_) (fun h4 => ?_)
  · have hm := b_f h4 hm
    exact wX10_takeRun_B89 l E out G hr hk v0 v1 g0 v0 _ _ _ _ hm hM (lv_sub hl [1] rfl)
  · have hm := b_t h4 hm
    refine r_aload_n (np := 71) G hl 0 rfl dX10_takeRun_70 rfl rfl ?_
    refine r_getI (np := 74) G hM (shp_lt g0 (by decide)) g0 fdX10_3 lkX10_22 dX10_takeRun_71 rfl ?_
    refine r_aload_n (np := 75) G hl 0 rfl dX10_takeRun_74 rfl rfl ?_
    refine r_getI (np := 78) G hM (shp_lt g0 (by decide)) g0 fdX10_2 lkX10_19 dX10_takeRun_75 rfl ?_
    refine r_isub (np := 79) G dX10_takeRun_78 rfl ?_
    refine r_bipush (np := 81) G 10 dX10_takeRun_79 (by decide) rfl ?_
    refine r_icmp_le (np := 84) (tgt := 89) G rfl (wIk 10 rfl) dX10_takeRun_81 (by decide) rfl (fun h5 => ?_) (fun h5 => ?_)
    · have hm := b_t h5 hm
      exact wX10_takeRun_B89 l E out G hr hk v0 v1 g0 v0 _ _ _ _ hm hM (lv_sub hl [1] rfl)
    · have hm := b_f h5 hm
      refine r_bipush (np := 86) G 6 dX10_takeRun_84 (by decide) rfl ?_
      refine r_goto (np := 90) G dX10_takeRun_86 (by decide) ?_
      obtain ⟨s6, e7, hm⟩ := bnd_t hm
      refine r_putI (np := 93) G hM (shp_lt g0 (by decide)) g0 ptX10_4 rfl lkX10_25 s6 e7 dX10_takeRun_90 rfl (fun H locs hM => ?_)
      exact r_vret G hr hk hM hm dX10_takeRun_93
set_option maxRecDepth 100000 in
set_option maxHeartbeats 4000000 in
theorem wX10_takeRun_L10 (l : Launch) (E : mE) (out : Int × mSt) {p : Program} {e : Env} {s : State} {m : MethodId} {args : Array Value} {below : List Frame} {meth : Method} {c : Code} (G : CallFix p m c cX10_takeRun 2 s args mTs RX10) (hr : meth.sig.returnType = none) (hk : meth.locks = false) (v0 : Nat) (v1 : Int) (g0 : isC v0 9) (x64 : mSt → Option (Int × mSt)) (hx64 : ∀ (σ : mSt) (H : Heap) (locs : List Loc) (ls : Array Slot), x64 σ = some out → mM (mA E 257) E 257 σ s H locs → lv_has ls 2 [(0, .ref (eA E v0)), (1, vI v1)] → mGo l p e 1 21 s m args below meth c E none out.2 H locs (F0 m 64 ls [])) : ∀ (n : Nat) (σ : mSt) (H : Heap) (locs : List Loc) (ls : Array Slot), mX10_takeRun_L10 v0 v1 x64 n σ = some out → mM (mA E 257) E 257 σ s H locs → lv_has ls 2 [(0, .ref (eA E v0)), (1, vI v1)] → mGo l p e 1 21 s m args below meth c E none out.2 H locs (F0 m 10 ls []) := by
  intro n
  induction n with
  | zero =>
    intro σ H locs ls hm hM hl
    exact absurd hm (by rw [mX10_takeRun_L10.eq_1]; exact fun h => nomatch h)
  | succ n ih =>
    intro σ H locs ls hm hM hl
    rw [mX10_takeRun_L10.eq_2] at hm
    refine r_aload_n (np := 11) G hl 0 rfl dX10_takeRun_10 rfl rfl ?_
    refine r_getI (np := 14) G hM (shp_lt g0 (by decide)) g0 fdX10_3 lkX10_22 dX10_takeRun_11 rfl ?_
    refine r_aload_n (np := 15) G hl 0 rfl dX10_takeRun_14 rfl rfl ?_
    refine r_getI (np := 18) G hM (shp_lt g0 (by decide)) g0 fdX10_1 lkX10_15 dX10_takeRun_15 rfl ?_
    refine r_icmp_ge (np := 21) (tgt := 64) G rfl rfl dX10_takeRun_18 (by decide) rfl (fun h8 => ?_) (fun h8 => ?_)
    · have hm := b_t h8 hm
      exact hx64 _ _ _ _ hm hM (lv_sub hl [0, 1] rfl)
    · have hm := b_f h8 hm
      refine r_iload_n (np := 22) G hl 1 rfl dX10_takeRun_21 rfl rfl ?_
      refine r_iconst (np := 23) G 1 dX10_takeRun_22 rfl ?_
      refine r_icmp_ne (np := 26) (tgt := 40) G rfl (wIk 1 rfl) dX10_takeRun_23 (by decide) rfl (fun h9 => ?_) (fun h9 => ?_)
      · have hm := b_f h9 hm
        refine r_aload_n (np := 41) G hl 0 rfl dX10_takeRun_40 rfl rfl ?_
        refine r_aload_n (np := 42) G hl 0 rfl dX10_takeRun_41 rfl rfl ?_
        refine r_getI (np := 45) G hM (shp_lt g0 (by decide)) g0 fdX10_3 lkX10_22 dX10_takeRun_42 rfl ?_
        obtain ⟨b10, s11, e12, hm⟩ := call_t hm
        refine m_callVI (np := 48) G hM hl.1 [vI (σ v0 3)] (qX10_isDigit l E σ v0 (σ v0 3) _ e12) myX10_isDigit (shp_lt (gX10_isDigit e12) (by decide)) (gX10_isDigit e12) rfl (by decide) lkX10_39 ⟨Nat.le_of_ble_eq_true rfl, Nat.le_of_ble_eq_true rfl⟩ ⟨Nat.le_of_ble_eq_true rfl, Nat.le_of_ble_eq_true rfl⟩ [] rfl (Nat.le_of_ble_eq_true rfl) dX10_takeRun_45 rfl (fun H locs hM => ?_)
        refine r_if_eq (np := 51) (tgt := 64) G rfl dX10_takeRun_48 (by decide) rfl (fun h13 => ?_) (fun h13 => ?_)
        · have hm := b_t h13 hm
          exact hx64 _ _ _ _ hm hM (lv_sub hl [0, 1] rfl)
        · have hm := b_f h13 hm
          refine r_aload_n (np := 52) G hl 0 rfl dX10_takeRun_51 rfl rfl ?_
          refine r_dup (np := 53) G dX10_takeRun_52 rfl rfl ?_
          refine r_getI (np := 56) G hM (shp_lt g0 (by decide)) g0 fdX10_3 lkX10_22 dX10_takeRun_53 rfl ?_
          refine r_iconst (np := 57) G 1 dX10_takeRun_56 rfl ?_
          refine r_iadd (np := 58) G dX10_takeRun_57 rfl ?_
          obtain ⟨s14, e15, hm⟩ := bnd_t hm
          refine r_putI (np := 61) G hM (shp_lt g0 (by decide)) g0 ptX10_3 rfl lkX10_22 s14 e15 dX10_takeRun_58 rfl (fun H locs hM => ?_)
          refine r_goto (np := 10) G dX10_takeRun_61 (by decide) ?_
          exact ih _ _ _ _ hm hM (lv_sub hl [0, 1] rfl)
      · have hm := b_t h9 hm
        refine r_aload_n (np := 27) G hl 0 rfl dX10_takeRun_26 rfl rfl ?_
        refine r_aload_n (np := 28) G hl 0 rfl dX10_takeRun_27 rfl rfl ?_
        refine r_getI (np := 31) G hM (shp_lt g0 (by decide)) g0 fdX10_3 lkX10_22 dX10_takeRun_28 rfl ?_
        obtain ⟨b16, s17, e18, hm⟩ := call_t hm
        refine m_callVI (np := 34) G hM hl.1 [vI (σ v0 3)] (qX10_isLetter l E σ v0 (σ v0 3) _ e18) myX10_isLetter (shp_lt (gX10_isLetter e18) (by decide)) (gX10_isLetter e18) rfl (by decide) lkX10_31 ⟨Nat.le_of_ble_eq_true rfl, Nat.le_of_ble_eq_true rfl⟩ ⟨Nat.le_of_ble_eq_true rfl, Nat.le_of_ble_eq_true rfl⟩ [] rfl (Nat.le_of_ble_eq_true rfl) dX10_takeRun_31 rfl (fun H locs hM => ?_)
        refine r_if_eq (np := 37) (tgt := 64) G rfl dX10_takeRun_34 (by decide) rfl (fun h19 => ?_) (fun h19 => ?_)
        · have hm := b_t h19 hm
          exact hx64 _ _ _ _ hm hM (lv_sub hl [0, 1] rfl)
        · have hm := b_f h19 hm
          refine r_goto (np := 51) G dX10_takeRun_37 (by decide) ?_
          refine r_aload_n (np := 52) G hl 0 rfl dX10_takeRun_51 rfl rfl ?_
          refine r_dup (np := 53) G dX10_takeRun_52 rfl rfl ?_
          refine r_getI (np := 56) G hM (shp_lt g0 (by decide)) g0 fdX10_3 lkX10_22 dX10_takeRun_53 rfl ?_
          refine r_iconst (np := 57) G 1 dX10_takeRun_56 rfl ?_
          refine r_iadd (np := 58) G dX10_takeRun_57 rfl ?_
          obtain ⟨s20, e21, hm⟩ := bnd_t hm
          refine r_putI (np := 61) G hM (shp_lt g0 (by decide)) g0 ptX10_3 rfl lkX10_22 s20 e21 dX10_takeRun_58 rfl (fun H locs hM => ?_)
          refine r_goto (np := 10) G dX10_takeRun_61 (by decide) ?_
          exact ih _ _ _ _ hm hM (lv_sub hl [0, 1] rfl)
set_option maxRecDepth 100000 in
set_option maxHeartbeats 4000000 in
theorem qX10_takeRun (l : Launch) (E : mE) (σ : mSt) (v0 : Nat) (v1 : Int) (out : Int × mSt) (hm : mX10_takeRun v0 v1 σ = some out) : mMet l yX10_takeRun cX10_takeRun 2 none 1 21 E 257 [.ref (eA E v0), vI v1] σ none out.2 := by
  unfold mX10_takeRun at hm
  obtain ⟨g0, hm⟩ := g_t hm
  refine m_entry (by decide +kernel) (Nat.le_of_ble_eq_true rfl) (fun p e s m args below meth c G hr hk hM ls hl => ?_)
  have G : CallFix p m c cX10_takeRun 2 s args mTs RX10 := G
  have hl : lv_has ls 2 [(0, .ref (eA E v0)), (1, vI v1)] := hl
  refine r_aload_n (np := 1) G hl 0 rfl dX10_takeRun_0 rfl rfl ?_
  refine r_aload_n (np := 2) G hl 0 rfl dX10_takeRun_1 rfl rfl ?_
  refine r_getI (np := 5) G hM (shp_lt g0 (by decide)) g0 fdX10_2 lkX10_19 dX10_takeRun_2 rfl ?_
  refine r_iconst (np := 6) G 1 dX10_takeRun_5 rfl ?_
  refine r_iadd (np := 7) G dX10_takeRun_6 rfl ?_
  obtain ⟨s22, e23, hm⟩ := bnd_t hm
  refine r_putI (np := 10) G hM (shp_lt g0 (by decide)) g0 ptX10_3 rfl lkX10_22 s22 e23 dX10_takeRun_7 rfl (fun H locs hM => ?_)
  exact wX10_takeRun_L10 l E out G hr hk v0 v1 g0 (fun zσ => mX10_takeRun_B64 v0 v1 zσ) (fun zσ zH zl zs zm zM zv => wX10_takeRun_B64 l E out G hr hk v0 v1 g0 zσ zH zl zs zm zM zv) mF _ _ _ _ hm hM (lv_sub hl [0, 1] rfl)
theorem gX10_takeRun {v0 : Nat} {v1 : Int} {σ : mSt} {out : Int × mSt} (hm : mX10_takeRun v0 v1 σ = some out) : isC v0 9 := (g_t hm).1
set_option maxRecDepth 100000 in
set_option maxHeartbeats 4000000 in
theorem qX10_signKind (l : Launch) (E : mE) (σ : mSt) (v0 : Nat) (v1 : Int) (out : Int × mSt) (hm : mX10_signKind v0 v1 σ = some out) : mMet l yX10_signKind cX10_signKind 2 (some .int) 0 0 E 257 [.ref (eA E v0), vI v1] σ (some (vI out.1)) out.2 := by
  unfold mX10_signKind at hm
  obtain ⟨g0, hm⟩ := g_t hm
  refine m_entry (by decide +kernel) (Nat.le_of_ble_eq_true rfl) (fun p e s m args below meth c G hr hk hM ls hl => ?_)
  have G : CallFix p m c cX10_signKind 2 s args mTs RX10 := G
  have hl : lv_has ls 2 [(0, .ref (eA E v0)), (1, vI v1)] := hl
  refine r_iload_n (np := 1) G hl 1 rfl dX10_signKind_0 rfl rfl ?_
  rcases ite_c hm with ⟨h1, hm⟩ | ⟨h1, hm⟩
  · refine r_lsw (tgt := 36) (off := 35) G (by rw [h1]; rfl) rfl dX10_signKind_1 (by decide) ?_
    refine r_iconst (np := 37) G 3 dX10_signKind_36 rfl ?_
    exact r_iret G hr hk hM hm dX10_signKind_37
  ·
    rcases ite_c hm with ⟨h2, hm⟩ | ⟨h2, hm⟩
    · refine r_lsw (tgt := 38) (off := 37) G (by rw [h2]; rfl) rfl dX10_signKind_1 (by decide) ?_
      refine r_iconst (np := 39) G 4 dX10_signKind_38 rfl ?_
      exact r_iret G hr hk hM hm dX10_signKind_39
    ·
      rcases ite_c hm with ⟨h3, hm⟩ | ⟨h3, hm⟩
      · refine r_lsw (tgt := 40) (off := 39) G (by rw [h3]; rfl) rfl dX10_signKind_1 (by decide) ?_
        refine r_iconst (np := 41) G 5 dX10_signKind_40 rfl ?_
        exact r_iret G hr hk hM hm dX10_signKind_41
      ·
        refine r_lsw (tgt := 42) (off := 41) G (lsw_out [(43, 35), (45, 37), (59, 39)] (List.forall_mem_cons.mpr ⟨fun z => h1 z.symm, (List.forall_mem_cons.mpr ⟨fun z => h2 z.symm, (List.forall_mem_cons.mpr ⟨fun z => h3 z.symm, (fun _ h => nomatch h)⟩)⟩)⟩)) rfl dX10_signKind_1 (by decide) ?_
        refine r_bipush (np := 44) G 6 dX10_signKind_42 (by decide) rfl ?_
        exact r_iret G hr hk hM hm dX10_signKind_44
theorem gX10_signKind {v0 : Nat} {v1 : Int} {σ : mSt} {out : Int × mSt} (hm : mX10_signKind v0 v1 σ = some out) : isC v0 9 := (g_t hm).1
set_option maxRecDepth 100000 in
set_option maxHeartbeats 4000000 in
theorem wX10_step_B60 (l : Launch) (E : mE) (out : Int × mSt) {p : Program} {e : Env} {s : State} {m : MethodId} {args : Array Value} {below : List Frame} {meth : Method} {c : Code} (G : CallFix p m c cX10_step 1 s args mTs RX10) (hr : meth.sig.returnType = none) (hk : meth.locks = false) (v0 : Nat) (g0 : isC v0 9) : ∀ (σ : mSt) (H : Heap) (locs : List Loc) (ls : Array Slot), mX10_step_B60 v0 σ = some out → mM (mA E 257) E 257 σ s H locs → lv_has ls 1 [(0, .ref (eA E v0))] → mGo l p e 2 42 s m args below meth c E none out.2 H locs (F0 m 60 ls []) := by
  intro σ H locs ls hm hM hl
  unfold mX10_step_B60 at hm
  refine r_aload_n (np := 61) G hl 0 rfl dX10_step_60 rfl rfl ?_
  refine r_getI (np := 64) G hM (shp_lt g0 (by decide)) g0 fdX10_2 lkX10_19 dX10_step_61 rfl ?_
  refine r_aload_n (np := 65) G hl 0 rfl dX10_step_64 rfl rfl ?_
  refine r_getI (np := 68) G hM (shp_lt g0 (by decide)) g0 fdX10_1 lkX10_15 dX10_step_65 rfl ?_
  refine r_icmp_lt (np := 71) (tgt := 85) G rfl rfl dX10_step_68 (by decide) rfl (fun h1 => ?_) (fun h1 => ?_)
  · have hm := b_t h1 hm
    refine r_aload_n (np := 86) G hl 0 rfl dX10_step_85 rfl rfl ?_
    refine r_aload_n (np := 87) G hl 0 rfl dX10_step_86 rfl rfl ?_
    refine r_getI (np := 90) G hM (shp_lt g0 (by decide)) g0 fdX10_2 lkX10_19 dX10_step_87 rfl ?_
    obtain ⟨b2, s3, e4, hm⟩ := call_t hm
    refine m_callVI (np := 93) G hM hl.1 [vI (σ v0 2)] (qX10_isLetter l E σ v0 (σ v0 2) _ e4) myX10_isLetter (shp_lt (gX10_isLetter e4) (by decide)) (gX10_isLetter e4) rfl (by decide) lkX10_31 ⟨Nat.le_of_ble_eq_true rfl, Nat.le_of_ble_eq_true rfl⟩ ⟨Nat.le_of_ble_eq_true rfl, Nat.le_of_ble_eq_true rfl⟩ [] rfl (Nat.le_of_ble_eq_true rfl) dX10_step_90 rfl (fun H locs hM => ?_)
    refine r_if_eq (np := 96) (tgt := 104) G rfl dX10_step_93 (by decide) rfl (fun h5 => ?_) (fun h5 => ?_)
    · have hm := b_t h5 hm
      refine r_aload_n (np := 105) G hl 0 rfl dX10_step_104 rfl rfl ?_
      refine r_aload_n (np := 106) G hl 0 rfl dX10_step_105 rfl rfl ?_
      refine r_getI (np := 109) G hM (shp_lt g0 (by decide)) g0 fdX10_2 lkX10_19 dX10_step_106 rfl ?_
      obtain ⟨b6, s7, e8, hm⟩ := call_t hm
      refine m_callVI (np := 112) G hM hl.1 [vI (s3 v0 2)] (qX10_isDigit l E s3 v0 (s3 v0 2) _ e8) myX10_isDigit (shp_lt (gX10_isDigit e8) (by decide)) (gX10_isDigit e8) rfl (by decide) lkX10_39 ⟨Nat.le_of_ble_eq_true rfl, Nat.le_of_ble_eq_true rfl⟩ ⟨Nat.le_of_ble_eq_true rfl, Nat.le_of_ble_eq_true rfl⟩ [] rfl (Nat.le_of_ble_eq_true rfl) dX10_step_109 rfl (fun H locs hM => ?_)
      refine r_if_eq (np := 115) (tgt := 123) G rfl dX10_step_112 (by decide) rfl (fun h9 => ?_) (fun h9 => ?_)
      · have hm := b_t h9 hm
        refine r_aload_n (np := 124) G hl 0 rfl dX10_step_123 rfl rfl ?_
        refine r_aload_n (np := 125) G hl 0 rfl dX10_step_124 rfl rfl ?_
        refine r_aload_n (np := 126) G hl 0 rfl dX10_step_125 rfl rfl ?_
        obtain ⟨r10, e11, hm⟩ := ref_t hm
        refine r_getR (np := 129) G hM (shp_lt g0 (by decide)) g0 e11 fdX10_0 lkX10_9 dX10_step_126 rfl ?_
        refine r_aload_n (np := 130) G hl 0 rfl dX10_step_129 rfl rfl ?_
        refine r_getI (np := 133) G hM (shp_lt g0 (by decide)) g0 fdX10_2 lkX10_19 dX10_step_130 rfl ?_
        obtain ⟨g12, hm⟩ := g_t hm
        refine r_baload (np := 134) G hM g12 rfl dX10_step_133 rfl ?_
        obtain ⟨b13, s14, e15, hm⟩ := call_t hm
        refine m_callVI (np := 137) G hM hl.1 [vI (s7 r10 (wI (s7 v0 2)).toNat)] (qX10_signKind l E s7 v0 (s7 r10 (wI (s7 v0 2)).toNat) _ e15) myX10_signKind (shp_lt (gX10_signKind e15) (by decide)) (gX10_signKind e15) rfl (by decide) lkX10_42 ⟨Nat.le_of_ble_eq_true rfl, Nat.le_of_ble_eq_true rfl⟩ ⟨Nat.le_of_ble_eq_true rfl, Nat.le_of_ble_eq_true rfl⟩ [.ref (eA E v0)] rfl (Nat.le_of_ble_eq_true rfl) dX10_step_134 rfl (fun H locs hM => ?_)
        obtain ⟨s16, e17, hm⟩ := bnd_t hm
        refine r_putI (np := 140) G hM (shp_lt g0 (by decide)) g0 ptX10_4 rfl lkX10_25 s16 e17 dX10_step_137 rfl (fun H locs hM => ?_)
        refine r_aload_n (np := 141) G hl 0 rfl dX10_step_140 rfl rfl ?_
        refine r_aload_n (np := 142) G hl 0 rfl dX10_step_141 rfl rfl ?_
        refine r_getI (np := 145) G hM (shp_lt g0 (by decide)) g0 fdX10_2 lkX10_19 dX10_step_142 rfl ?_
        refine r_iconst (np := 146) G 1 dX10_step_145 rfl ?_
        refine r_iadd (np := 147) G dX10_step_146 rfl ?_
        obtain ⟨s18, e19, hm⟩ := bnd_t hm
        refine r_putI (np := 150) G hM (shp_lt g0 (by decide)) g0 ptX10_3 rfl lkX10_22 s18 e19 dX10_step_147 rfl (fun H locs hM => ?_)
        exact r_vret G hr hk hM hm dX10_step_150
      · have hm := b_f h9 hm
        refine r_aload_n (np := 116) G hl 0 rfl dX10_step_115 rfl rfl ?_
        refine r_iconst (np := 117) G 2 dX10_step_116 rfl ?_
        obtain ⟨b20, s21, e22, hm⟩ := call_t hm
        refine m_callVV (np := 120) G hM hl.1 [vI 2] (qX10_takeRun l E s7 v0 2 _ e22) myX10_takeRun (shp_lt (gX10_takeRun e22) (by decide)) (gX10_takeRun e22) rfl (by decide) lkX10_35 ⟨Nat.le_of_ble_eq_true rfl, Nat.le_of_ble_eq_true rfl⟩ ⟨Nat.le_of_ble_eq_true rfl, Nat.le_of_ble_eq_true rfl⟩ [] rfl (Nat.le_of_ble_eq_true rfl) dX10_step_117 rfl (fun H locs hM => ?_)
        refine r_goto (np := 150) G dX10_step_120 (by decide) ?_
        exact r_vret G hr hk hM hm dX10_step_150
    · have hm := b_f h5 hm
      refine r_aload_n (np := 97) G hl 0 rfl dX10_step_96 rfl rfl ?_
      refine r_iconst (np := 98) G 1 dX10_step_97 rfl ?_
      obtain ⟨b23, s24, e25, hm⟩ := call_t hm
      refine m_callVV (np := 101) G hM hl.1 [vI 1] (qX10_takeRun l E s3 v0 1 _ e25) myX10_takeRun (shp_lt (gX10_takeRun e25) (by decide)) (gX10_takeRun e25) rfl (by decide) lkX10_35 ⟨Nat.le_of_ble_eq_true rfl, Nat.le_of_ble_eq_true rfl⟩ ⟨Nat.le_of_ble_eq_true rfl, Nat.le_of_ble_eq_true rfl⟩ [] rfl (Nat.le_of_ble_eq_true rfl) dX10_step_98 rfl (fun H locs hM => ?_)
      refine r_goto (np := 150) G dX10_step_101 (by decide) ?_
      exact r_vret G hr hk hM hm dX10_step_150
  · have hm := b_f h1 hm
    refine r_aload_n (np := 72) G hl 0 rfl dX10_step_71 rfl rfl ?_
    refine r_iconst (np := 73) G 0 dX10_step_72 rfl ?_
    obtain ⟨s26, e27, hm⟩ := bnd_t hm
    refine r_putI (np := 76) G hM (shp_lt g0 (by decide)) g0 ptX10_4 rfl lkX10_25 s26 e27 dX10_step_73 rfl (fun H locs hM => ?_)
    refine r_aload_n (np := 77) G hl 0 rfl dX10_step_76 rfl rfl ?_
    refine r_aload_n (np := 78) G hl 0 rfl dX10_step_77 rfl rfl ?_
    refine r_getI (np := 81) G hM (shp_lt g0 (by decide)) g0 fdX10_2 lkX10_19 dX10_step_78 rfl ?_
    obtain ⟨s28, e29, hm⟩ := bnd_t hm
    refine r_putI (np := 84) G hM (shp_lt g0 (by decide)) g0 ptX10_3 rfl lkX10_22 s28 e29 dX10_step_81 rfl (fun H locs hM => ?_)
    exact r_vret G hr hk hM hm dX10_step_84
set_option maxRecDepth 100000 in
set_option maxHeartbeats 4000000 in
theorem wX10_step_L8 (l : Launch) (E : mE) (out : Int × mSt) {p : Program} {e : Env} {s : State} {m : MethodId} {args : Array Value} {below : List Frame} {meth : Method} {c : Code} (G : CallFix p m c cX10_step 1 s args mTs RX10) (hr : meth.sig.returnType = none) (hk : meth.locks = false) (v0 : Nat) (g0 : isC v0 9) (x60 : mSt → Option (Int × mSt)) (hx60 : ∀ (σ : mSt) (H : Heap) (locs : List Loc) (ls : Array Slot), x60 σ = some out → mM (mA E 257) E 257 σ s H locs → lv_has ls 1 [(0, .ref (eA E v0))] → mGo l p e 2 42 s m args below meth c E none out.2 H locs (F0 m 60 ls [])) : ∀ (n : Nat) (σ : mSt) (H : Heap) (locs : List Loc) (ls : Array Slot), mX10_step_L8 v0 x60 n σ = some out → mM (mA E 257) E 257 σ s H locs → lv_has ls 1 [(0, .ref (eA E v0))] → mGo l p e 2 42 s m args below meth c E none out.2 H locs (F0 m 8 ls []) := by
  intro n
  induction n with
  | zero =>
    intro σ H locs ls hm hM hl
    exact absurd hm (by rw [mX10_step_L8.eq_1]; exact fun h => nomatch h)
  | succ n ih =>
    intro σ H locs ls hm hM hl
    rw [mX10_step_L8.eq_2] at hm
    refine r_aload_n (np := 9) G hl 0 rfl dX10_step_8 rfl rfl ?_
    refine r_getI (np := 12) G hM (shp_lt g0 (by decide)) g0 fdX10_2 lkX10_19 dX10_step_9 rfl ?_
    refine r_aload_n (np := 13) G hl 0 rfl dX10_step_12 rfl rfl ?_
    refine r_getI (np := 16) G hM (shp_lt g0 (by decide)) g0 fdX10_1 lkX10_15 dX10_step_13 rfl ?_
    refine r_icmp_ge (np := 19) (tgt := 60) G rfl rfl dX10_step_16 (by decide) rfl (fun h30 => ?_) (fun h30 => ?_)
    · have hm := b_t h30 hm
      exact hx60 _ _ _ _ hm hM (lv_sub hl [0] rfl)
    · have hm := b_f h30 hm
      refine r_aload_n (np := 20) G hl 0 rfl dX10_step_19 rfl rfl ?_
      obtain ⟨r31, e32, hm⟩ := ref_t hm
      refine r_getR (np := 23) G hM (shp_lt g0 (by decide)) g0 e32 fdX10_0 lkX10_9 dX10_step_20 rfl ?_
      refine r_aload_n (np := 24) G hl 0 rfl dX10_step_23 rfl rfl ?_
      refine r_getI (np := 27) G hM (shp_lt g0 (by decide)) g0 fdX10_2 lkX10_19 dX10_step_24 rfl ?_
      obtain ⟨g33, hm⟩ := g_t hm
      refine r_baload (np := 28) G hM g33 rfl dX10_step_27 rfl ?_
      refine r_bipush (np := 30) G 32 dX10_step_28 (by decide) rfl ?_
      refine r_icmp_eq (np := 33) (tgt := 47) G rfl (wIk 32 rfl) dX10_step_30 (by decide) rfl (fun h34 => ?_) (fun h34 => ?_)
      · have hm := b_t h34 hm
        refine r_aload_n (np := 48) G hl 0 rfl dX10_step_47 rfl rfl ?_
        refine r_dup (np := 49) G dX10_step_48 rfl rfl ?_
        refine r_getI (np := 52) G hM (shp_lt g0 (by decide)) g0 fdX10_2 lkX10_19 dX10_step_49 rfl ?_
        refine r_iconst (np := 53) G 1 dX10_step_52 rfl ?_
        refine r_iadd (np := 54) G dX10_step_53 rfl ?_
        obtain ⟨s35, e36, hm⟩ := bnd_t hm
        refine r_putI (np := 57) G hM (shp_lt g0 (by decide)) g0 ptX10_2 rfl lkX10_19 s35 e36 dX10_step_54 rfl (fun H locs hM => ?_)
        refine r_goto (np := 8) G dX10_step_57 (by decide) ?_
        exact ih _ _ _ _ hm hM (lv_sub hl [0] rfl)
      · have hm := b_f h34 hm
        refine r_aload_n (np := 34) G hl 0 rfl dX10_step_33 rfl rfl ?_
        obtain ⟨r37, e38, hm⟩ := ref_t hm
        refine r_getR (np := 37) G hM (shp_lt g0 (by decide)) g0 e38 fdX10_0 lkX10_9 dX10_step_34 rfl ?_
        refine r_aload_n (np := 38) G hl 0 rfl dX10_step_37 rfl rfl ?_
        refine r_getI (np := 41) G hM (shp_lt g0 (by decide)) g0 fdX10_2 lkX10_19 dX10_step_38 rfl ?_
        obtain ⟨g39, hm⟩ := g_t hm
        refine r_baload (np := 42) G hM g39 rfl dX10_step_41 rfl ?_
        refine r_bipush (np := 44) G 10 dX10_step_42 (by decide) rfl ?_
        refine r_icmp_ne (np := 47) (tgt := 60) G rfl (wIk 10 rfl) dX10_step_44 (by decide) rfl (fun h40 => ?_) (fun h40 => ?_)
        · have hm := b_f h40 hm
          exact hx60 _ _ _ _ hm hM (lv_sub hl [0] rfl)
        · have hm := b_t h40 hm
          refine r_aload_n (np := 48) G hl 0 rfl dX10_step_47 rfl rfl ?_
          refine r_dup (np := 49) G dX10_step_48 rfl rfl ?_
          refine r_getI (np := 52) G hM (shp_lt g0 (by decide)) g0 fdX10_2 lkX10_19 dX10_step_49 rfl ?_
          refine r_iconst (np := 53) G 1 dX10_step_52 rfl ?_
          refine r_iadd (np := 54) G dX10_step_53 rfl ?_
          obtain ⟨s41, e42, hm⟩ := bnd_t hm
          refine r_putI (np := 57) G hM (shp_lt g0 (by decide)) g0 ptX10_2 rfl lkX10_19 s41 e42 dX10_step_54 rfl (fun H locs hM => ?_)
          refine r_goto (np := 8) G dX10_step_57 (by decide) ?_
          exact ih _ _ _ _ hm hM (lv_sub hl [0] rfl)
set_option maxRecDepth 100000 in
set_option maxHeartbeats 4000000 in
theorem qX10_step (l : Launch) (E : mE) (σ : mSt) (v0 : Nat) (out : Int × mSt) (hm : mX10_step v0 σ = some out) : mMet l yX10_step cX10_step 1 none 2 42 E 257 [.ref (eA E v0)] σ none out.2 := by
  unfold mX10_step at hm
  obtain ⟨g0, hm⟩ := g_t hm
  refine m_entry (by decide +kernel) (Nat.le_of_ble_eq_true rfl) (fun p e s m args below meth c G hr hk hM ls hl => ?_)
  have G : CallFix p m c cX10_step 1 s args mTs RX10 := G
  have hl : lv_has ls 1 [(0, .ref (eA E v0))] := hl
  refine r_aload_n (np := 1) G hl 0 rfl dX10_step_0 rfl rfl ?_
  refine r_aload_n (np := 2) G hl 0 rfl dX10_step_1 rfl rfl ?_
  refine r_getI (np := 5) G hM (shp_lt g0 (by decide)) g0 fdX10_3 lkX10_22 dX10_step_2 rfl ?_
  obtain ⟨s43, e44, hm⟩ := bnd_t hm
  refine r_putI (np := 8) G hM (shp_lt g0 (by decide)) g0 ptX10_2 rfl lkX10_19 s43 e44 dX10_step_5 rfl (fun H locs hM => ?_)
  exact wX10_step_L8 l E out G hr hk v0 g0 (fun zσ => mX10_step_B60 v0 zσ) (fun zσ zH zl zs zm zM zv => wX10_step_B60 l E out G hr hk v0 g0 zσ zH zl zs zm zM zv) mF _ _ _ _ hm hM (lv_sub hl [0] rfl)
theorem gX10_step {v0 : Nat} {σ : mSt} {out : Int × mSt} (hm : mX10_step v0 σ = some out) : isC v0 9 := (g_t hm).1
set_option maxRecDepth 100000 in
set_option maxHeartbeats 4000000 in
theorem wX10_begin_B18 (l : Launch) (E : mE) (out : Int × mSt) {p : Program} {e : Env} {s : State} {m : MethodId} {args : Array Value} {below : List Frame} {meth : Method} {c : Code} (G : CallFix p m c cX10_begin 3 s args mTs RX10) (hr : meth.sig.returnType = none) (hk : meth.locks = false) (v0 : Nat) (v1 : Nat) (v2 : Int) (g0 : isC v0 9) : ∀ (t0 : Nat) (t1 : Int) (σ : mSt) (H : Heap) (locs : List Loc) (ls : Array Slot), mX10_begin_B18 v0 v1 v2 t0 t1 σ = some out → mM (mA E 257) E 257 σ s H locs → lv_has ls 3 [(0, .ref (eA E v0))] → mGo l p e 3 62 s m args below meth c E none out.2 H locs (F0 m 18 ls [vI t1, .ref (eA E t0)]) := by
  intro t0 t1 σ H locs ls hm hM hl
  unfold mX10_begin_B18 at hm
  obtain ⟨g1, hm⟩ := g_t hm
  obtain ⟨s2, e3, hm⟩ := bnd_t hm
  refine r_putI (np := 21) G hM (shp_lt g1 (by decide)) g1 ptX10_1 rfl lkX10_15 s2 e3 dX10_begin_18 rfl (fun H locs hM => ?_)
  refine r_aload_n (np := 22) G hl 0 rfl dX10_begin_21 rfl rfl ?_
  refine r_iconst (np := 23) G 0 dX10_begin_22 rfl ?_
  obtain ⟨s4, e5, hm⟩ := bnd_t hm
  refine r_putI (np := 26) G hM (shp_lt g0 (by decide)) g0 ptX10_3 rfl lkX10_22 s4 e5 dX10_begin_23 rfl (fun H locs hM => ?_)
  refine r_aload_n (np := 27) G hl 0 rfl dX10_begin_26 rfl rfl ?_
  obtain ⟨b6, s7, e8, hm⟩ := call_t hm
  refine m_callVV (np := 30) G hM hl.1 [] (qX10_step l E s4 v0 _ e8) myX10_step (shp_lt (gX10_step e8) (by decide)) (gX10_step e8) rfl (by decide) lkX10_28 ⟨Nat.le_of_ble_eq_true rfl, Nat.le_of_ble_eq_true rfl⟩ ⟨Nat.le_of_ble_eq_true rfl, Nat.le_of_ble_eq_true rfl⟩ [] rfl (Nat.le_of_ble_eq_true rfl) dX10_begin_27 rfl (fun H locs hM => ?_)
  exact r_vret G hr hk hM hm dX10_begin_30
set_option maxRecDepth 100000 in
set_option maxHeartbeats 4000000 in
theorem qX10_begin (l : Launch) (E : mE) (σ : mSt) (v0 : Nat) (v1 : Nat) (v2 : Int) (out : Int × mSt) (hm : mX10_begin v0 v1 v2 σ = some out) : mMet l yX10_begin cX10_begin 3 none 3 62 E 257 [.ref (eA E v0), .ref (eA E v1), vI v2] σ none out.2 := by
  unfold mX10_begin at hm
  obtain ⟨g0, hm⟩ := g_t hm
  refine m_entry (by decide +kernel) (Nat.le_of_ble_eq_true rfl) (fun p e s m args below meth c G hr hk hM ls hl => ?_)
  have G : CallFix p m c cX10_begin 3 s args mTs RX10 := G
  have hl : lv_has ls 3 [(0, .ref (eA E v0)), (1, .ref (eA E v1)), (2, vI v2)] := hl
  refine r_aload_n (np := 1) G hl 0 rfl dX10_begin_0 rfl rfl ?_
  refine r_aload_n (np := 2) G hl 1 rfl dX10_begin_1 rfl rfl ?_
  obtain ⟨g9, hm⟩ := g_t hm
  obtain ⟨s10, e11, hm⟩ := bnd_t hm
  refine r_putR (np := 5) G hM (shp_lt g0 (by decide)) g0 ptX10_0 rfl lkX10_9 g9 (fun _ => rfl) (fun _ => rfl) s10 e11 dX10_begin_2 rfl (fun H locs hM => ?_)
  refine r_aload_n (np := 6) G hl 0 rfl dX10_begin_5 rfl rfl ?_
  refine r_iload_n (np := 7) G hl 2 rfl dX10_begin_6 rfl rfl ?_
  refine r_aload_n (np := 8) G hl 1 rfl dX10_begin_7 rfl rfl ?_
  obtain ⟨g12, hm⟩ := g_t hm
  refine r_alen (np := 9) G hM g12 dX10_begin_8 rfl ?_
  refine r_icmp_ge (np := 12) (tgt := 16) G rfl rfl dX10_begin_9 (by decide) rfl (fun h13 => ?_) (fun h13 => ?_)
  · have hm := b_t h13 hm
    refine r_aload_n (np := 17) G hl 1 rfl dX10_begin_16 rfl rfl ?_
    refine r_alen (np := 18) G hM g12 dX10_begin_17 rfl ?_
    exact wX10_begin_B18 l E out G hr hk v0 v1 v2 g0 v0 ((shp v1).2 : Int) _ _ _ _ hm hM (lv_sub hl [0] rfl)
  · have hm := b_f h13 hm
    refine r_iload_n (np := 13) G hl 2 rfl dX10_begin_12 rfl rfl ?_
    refine r_goto (np := 18) G dX10_begin_13 (by decide) ?_
    exact wX10_begin_B18 l E out G hr hk v0 v1 v2 g0 v0 v2 _ _ _ _ hm hM (lv_sub hl [0] rfl)
theorem gX10_begin {v0 : Nat} {v1 : Nat} {v2 : Int} {σ : mSt} {out : Int × mSt} (hm : mX10_begin v0 v1 v2 σ = some out) : isC v0 9 := (g_t hm).1
set_option maxRecDepth 100000 in
set_option maxHeartbeats 4000000 in
theorem qX10_start (l : Launch) (E : mE) (σ : mSt) (v0 : Nat) (out : Int × mSt) (hm : mX10_start v0 σ = some out) : mMet l yX10_start cX10_start 1 (some .int) 0 0 E 257 [.ref (eA E v0)] σ (some (vI out.1)) out.2 := by
  unfold mX10_start at hm
  obtain ⟨g0, hm⟩ := g_t hm
  refine m_entry (by decide +kernel) (Nat.le_of_ble_eq_true rfl) (fun p e s m args below meth c G hr hk hM ls hl => ?_)
  have G : CallFix p m c cX10_start 1 s args mTs RX10 := G
  have hl : lv_has ls 1 [(0, .ref (eA E v0))] := hl
  refine r_aload_n (np := 1) G hl 0 rfl dX10_start_0 rfl rfl ?_
  refine r_getI (np := 4) G hM (shp_lt g0 (by decide)) g0 fdX10_2 lkX10_19 dX10_start_1 rfl ?_
  exact r_iret G hr hk hM hm dX10_start_4
theorem gX10_start {v0 : Nat} {σ : mSt} {out : Int × mSt} (hm : mX10_start v0 σ = some out) : isC v0 9 := (g_t hm).1
set_option maxRecDepth 100000 in
set_option maxHeartbeats 4000000 in
theorem qX8_refuse (l : Launch) (E : mE) (σ : mSt) (v0 : Nat) (v1 : Int) (out : Int × mSt) (hm : mX8_refuse v0 v1 σ = some out) : mMet l yX8_refuse cX8_refuse 2 (some .boolean) 1 20 E 257 [.ref (eA E v0), vI v1] σ (some (vI out.1)) out.2 := by
  unfold mX8_refuse at hm
  obtain ⟨g0, hm⟩ := g_t hm
  refine m_entry (by decide +kernel) (Nat.le_of_ble_eq_true rfl) (fun p e s m args below meth c G hr hk hM ls hl => ?_)
  have G : CallFix p m c cX8_refuse 2 s args mTs RX8 := G
  have hl : lv_has ls 2 [(0, .ref (eA E v0)), (1, vI v1)] := hl
  refine r_aload_n (np := 1) G hl 0 rfl dX8_refuse_0 rfl rfl ?_
  refine r_bipush (np := 3) G 8 dX8_refuse_1 (by decide) rfl ?_
  refine r_aload_n (np := 4) G hl 0 rfl dX8_refuse_3 rfl rfl ?_
  obtain ⟨r1, e2, hm⟩ := ref_t hm
  refine r_getR (np := 7) G hM (shp_lt g0 (by decide)) g0 e2 fdX8_0 lkX8_12 dX8_refuse_4 rfl ?_
  obtain ⟨b3, s4, e5, hm⟩ := call_t hm
  refine m_callVI (np := 10) G hM hl.1 [] (qX10_start l E σ r1 _ e5) myX10_start (shp_lt (gX10_start e5) (by decide)) (gX10_start e5) rfl (by decide) lkX8_48 ⟨Nat.le_of_ble_eq_true rfl, Nat.le_of_ble_eq_true rfl⟩ ⟨Nat.le_of_ble_eq_true rfl, Nat.le_of_ble_eq_true rfl⟩ [vI 8, .ref (eA E v0)] rfl (Nat.le_of_ble_eq_true rfl) dX8_refuse_7 rfl (fun H locs hM => ?_)
  refine r_imul (np := 11) G dX8_refuse_10 rfl ?_
  refine r_iload_n (np := 12) G hl 1 rfl dX8_refuse_11 rfl rfl ?_
  refine r_iadd (np := 13) G dX8_refuse_12 rfl ?_
  obtain ⟨s6, e7, hm⟩ := bnd_t hm
  refine r_putI (np := 16) G hM (shp_lt g0 (by decide)) g0 ptX8_2 rfl lkX8_25 s6 e7 dX8_refuse_13 rfl (fun H locs hM => ?_)
  refine r_iconst (np := 17) G 0 dX8_refuse_16 rfl ?_
  exact r_zret G hr hk hM (Or.inl rfl) hm dX8_refuse_17
theorem gX8_refuse {v0 : Nat} {v1 : Int} {σ : mSt} {out : Int × mSt} (hm : mX8_refuse v0 v1 σ = some out) : isC v0 7 := (g_t hm).1
set_option maxRecDepth 100000 in
set_option maxHeartbeats 4000000 in
theorem qX10_is (l : Launch) (E : mE) (σ : mSt) (v0 : Nat) (v1 : Int) (out : Int × mSt) (hm : mX10_is v0 v1 σ = some out) : mMet l yX10_is cX10_is 2 (some .boolean) 0 0 E 257 [.ref (eA E v0), vI v1] σ (some (vI out.1)) out.2 := by
  unfold mX10_is at hm
  obtain ⟨g0, hm⟩ := g_t hm
  refine m_entry (by decide +kernel) (Nat.le_of_ble_eq_true rfl) (fun p e s m args below meth c G hr hk hM ls hl => ?_)
  have G : CallFix p m c cX10_is 2 s args mTs RX10 := G
  have hl : lv_has ls 2 [(0, .ref (eA E v0)), (1, vI v1)] := hl
  refine r_aload_n (np := 1) G hl 0 rfl dX10_is_0 rfl rfl ?_
  refine r_getI (np := 4) G hM (shp_lt g0 (by decide)) g0 fdX10_4 lkX10_25 dX10_is_1 rfl ?_
  refine r_iload_n (np := 5) G hl 1 rfl dX10_is_4 rfl rfl ?_
  refine r_icmp_ne (np := 8) (tgt := 12) G rfl rfl dX10_is_5 (by decide) rfl (fun h1 => ?_) (fun h1 => ?_)
  · have hm := b_f h1 hm
    refine r_iconst (np := 13) G 0 dX10_is_12 rfl ?_
    exact r_zret G hr hk hM (Or.inl rfl) hm dX10_is_13
  · have hm := b_t h1 hm
    refine r_iconst (np := 9) G 1 dX10_is_8 rfl ?_
    refine r_goto (np := 13) G dX10_is_9 (by decide) ?_
    exact r_zret G hr hk hM (Or.inr rfl) hm dX10_is_13
theorem gX10_is {v0 : Nat} {v1 : Int} {σ : mSt} {out : Int × mSt} (hm : mX10_is v0 v1 σ = some out) : isC v0 9 := (g_t hm).1
set_option maxRecDepth 100000 in
set_option maxHeartbeats 4000000 in
theorem wX10_value_B52 (l : Launch) (E : mE) (out : Int × mSt) {p : Program} {e : Env} {s : State} {m : MethodId} {args : Array Value} {below : List Frame} {meth : Method} {c : Code} (G : CallFix p m c cX10_value 4 s args mTs RX10) (hr : meth.sig.returnType = (some .long)) (hk : meth.locks = false) (v0 : Nat) (g0 : isC v0 9) : ∀ (v1 : Int) (σ : mSt) (H : Heap) (locs : List Loc) (ls : Array Slot), mX10_value_B52 v0 v1 σ = some out → mM (mA E 257) E 257 σ s H locs → lv_has ls 4 [(1, vL v1)] → mGo l p e 1 23 s m args below meth c E (some (vL out.1)) out.2 H locs (F0 m 52 ls []) := by
  intro v1 σ H locs ls hm hM hl
  unfold mX10_value_B52 at hm
  refine r_lload_n (np := 53) G hl 0 rfl dX10_value_52 rfl rfl ?_
  exact r_lret G hr hk hM hm dX10_value_53
set_option maxRecDepth 100000 in
set_option maxHeartbeats 4000000 in
theorem wX10_value_L7 (l : Launch) (E : mE) (out : Int × mSt) {p : Program} {e : Env} {s : State} {m : MethodId} {args : Array Value} {below : List Frame} {meth : Method} {c : Code} (G : CallFix p m c cX10_value 4 s args mTs RX10) (hr : meth.sig.returnType = (some .long)) (hk : meth.locks = false) (v0 : Nat) (g0 : isC v0 9) (x52 : Int → mSt → Option (Int × mSt)) (hx52 : ∀ (v1 : Int) (σ : mSt) (H : Heap) (locs : List Loc) (ls : Array Slot), x52 v1 σ = some out → mM (mA E 257) E 257 σ s H locs → lv_has ls 4 [(1, vL v1)] → mGo l p e 1 23 s m args below meth c E (some (vL out.1)) out.2 H locs (F0 m 52 ls [])) : ∀ (n : Nat) (v1 : Int) (v3 : Int) (σ : mSt) (H : Heap) (locs : List Loc) (ls : Array Slot), mX10_value_L7 v0 x52 n v1 v3 σ = some out → mM (mA E 257) E 257 σ s H locs → lv_has ls 4 [(0, .ref (eA E v0)), (1, vL v1), (3, vI v3)] → mGo l p e 1 23 s m args below meth c E (some (vL out.1)) out.2 H locs (F0 m 7 ls []) := by
  intro n
  induction n with
  | zero =>
    intro v1 v3 σ H locs ls hm hM hl
    exact absurd hm (by rw [mX10_value_L7.eq_1]; exact fun h => nomatch h)
  | succ n ih =>
    intro v1 v3 σ H locs ls hm hM hl
    rw [mX10_value_L7.eq_2] at hm
    refine r_iload_n (np := 8) G hl 2 rfl dX10_value_7 rfl rfl ?_
    refine r_aload_n (np := 9) G hl 0 rfl dX10_value_8 rfl rfl ?_
    refine r_getI (np := 12) G hM (shp_lt g0 (by decide)) g0 fdX10_3 lkX10_22 dX10_value_9 rfl ?_
    refine r_icmp_ge (np := 15) (tgt := 52) G rfl rfl dX10_value_12 (by decide) rfl (fun h1 => ?_) (fun h1 => ?_)
    · have hm := b_t h1 hm
      exact hx52 v1 _ _ _ _ hm hM (lv_sub hl [1] rfl)
    · have hm := b_f h1 hm
      refine r_aload_n (np := 16) G hl 0 rfl dX10_value_15 rfl rfl ?_
      refine r_getI (np := 19) G hM (shp_lt g0 (by decide)) g0 fdX10_4 lkX10_25 dX10_value_16 rfl ?_
      refine r_iconst (np := 20) G 2 dX10_value_19 rfl ?_
      refine r_icmp_ne (np := 23) (tgt := 52) G rfl (wIk 2 rfl) dX10_value_20 (by decide) rfl (fun h2 => ?_) (fun h2 => ?_)
      · have hm := b_f h2 hm
        exact hx52 v1 _ _ _ _ hm hM (lv_sub hl [1] rfl)
      · have hm := b_t h2 hm
        refine r_lload_n (np := 24) G hl 1 rfl dX10_value_23 rfl rfl ?_
        refine r_ldc2 (np := 27) G 10 dX10_value_24 lkX10_48 rfl rfl ?_
        refine r_lmul (np := 28) G dX10_value_27 rfl ?_
        refine r_aload_n (np := 29) G hl 0 rfl dX10_value_28 rfl rfl ?_
        obtain ⟨r3, e4, hm⟩ := ref_t hm
        refine r_getR (np := 32) G hM (shp_lt g0 (by decide)) g0 e4 fdX10_0 lkX10_9 dX10_value_29 rfl ?_
        refine r_iload_n (np := 33) G hl 2 rfl dX10_value_32 rfl rfl ?_
        obtain ⟨g5, hm⟩ := g_t hm
        refine r_baload (np := 34) G hM g5 rfl dX10_value_33 rfl ?_
        refine r_bipush (np := 36) G 48 dX10_value_34 (by decide) rfl ?_
        refine r_isub (np := 37) G dX10_value_36 rfl ?_
        refine r_i2l (np := 38) G rfl dX10_value_37 rfl ?_
        refine r_ladd (np := 39) G dX10_value_38 rfl ?_
        refine r_ldc2 (np := 42) G 1000000 dX10_value_39 lkX10_50 rfl rfl ?_
        obtain ⟨b6, s7, e8, hm⟩ := call_t hm
        refine m_callSL (np := 45) G hM hl.1 [vL ((v1 * 10) + (wI ((σ r3 (wI v3).toNat) - 48))), vL 1000000] (qJ9_min_f86c9 l E σ ((v1 * 10) + (wI ((σ r3 (wI v3).toNat) - 48))) 1000000 _ e8) myJ9_min_f86c9 lkX10_52 ⟨Nat.le_of_ble_eq_true rfl, Nat.le_of_ble_eq_true rfl⟩ ⟨Nat.le_of_ble_eq_true rfl, Nat.le_of_ble_eq_true rfl⟩ [] rfl (Nat.le_of_ble_eq_true rfl) dX10_value_42 rfl (fun H locs hM => ?_)
        refine r_lstore_n (np := 46) G hl rfl [(1, vL b6), (0, .ref (eA E v0)), (3, vI v3)] dX10_value_45 rfl rfl (by decide) rfl (fun ls hl => ?_)
        obtain ⟨a9, e10, hm⟩ := bnd_t hm
        refine r_iinc (np := 49) G hl 2 rfl e10 [(3, vI a9), (1, vL b6), (0, .ref (eA E v0))] dX10_value_46 rfl (by decide) rfl (fun ls hl => ?_)
        refine r_goto (np := 7) G dX10_value_49 (by decide) ?_
        exact ih b6 a9 _ _ _ _ hm hM (lv_sub hl [2, 1, 0] rfl)
set_option maxRecDepth 100000 in
set_option maxHeartbeats 4000000 in
theorem qX10_value (l : Launch) (E : mE) (σ : mSt) (v0 : Nat) (out : Int × mSt) (hm : mX10_value v0 σ = some out) : mMet l yX10_value cX10_value 4 (some .long) 1 23 E 257 [.ref (eA E v0)] σ (some (vL out.1)) out.2 := by
  unfold mX10_value at hm
  obtain ⟨g0, hm⟩ := g_t hm
  refine m_entry (by decide +kernel) (Nat.le_of_ble_eq_true rfl) (fun p e s m args below meth c G hr hk hM ls hl => ?_)
  have G : CallFix p m c cX10_value 4 s args mTs RX10 := G
  have hl : lv_has ls 4 [(0, .ref (eA E v0))] := hl
  refine r_lconst (np := 1) G 0 dX10_value_0 rfl rfl ?_
  refine r_lstore_n (np := 2) G hl rfl [(1, vL 0), (0, .ref (eA E v0))] dX10_value_1 rfl rfl (by decide) rfl (fun ls hl => ?_)
  refine r_aload_n (np := 3) G hl 1 rfl dX10_value_2 rfl rfl ?_
  refine r_getI (np := 6) G hM (shp_lt g0 (by decide)) g0 fdX10_2 lkX10_19 dX10_value_3 rfl ?_
  obtain ⟨a11, e12, hm⟩ := bnd_t hm
  refine r_istore_n (np := 7) G hl e12 [(3, vI a11), (1, vL 0), (0, .ref (eA E v0))] dX10_value_6 rfl rfl (by decide) rfl (fun ls hl => ?_)
  exact wX10_value_L7 l E out G hr hk v0 g0 (fun z1 zσ => mX10_value_B52 v0 z1 zσ) (fun z1 zσ zH zl zs zm zM zv => wX10_value_B52 l E out G hr hk v0 g0 z1 zσ zH zl zs zm zM zv) mF 0 a11 _ _ _ _ hm hM (lv_sub hl [2, 1, 0] rfl)
theorem gX10_value {v0 : Nat} {σ : mSt} {out : Int × mSt} (hm : mX10_value v0 σ = some out) : isC v0 9 := (g_t hm).1
set_option maxRecDepth 100000 in
set_option maxHeartbeats 4000000 in
theorem wX8_readWhole_B92 (l : Launch) (E : mE) (out : Int × mSt) {p : Program} {e : Env} {s : State} {m : MethodId} {args : Array Value} {below : List Frame} {meth : Method} {c : Code} (G : CallFix p m c cX8_readWhole 6 s args mTs RX8) (hr : meth.sig.returnType = (some .boolean)) (hk : meth.locks = false) (v0 : Nat) (v1 : Int) (v2 : Int) (g0 : isC v0 7) : ∀ (t0 : Nat) (t1 : Int) (σ : mSt) (H : Heap) (locs : List Loc) (ls : Array Slot), mX8_readWhole_B92 v0 v1 v2 t0 t1 σ = some out → mM (mA E 257) E 257 σ s H locs → lv_has ls 6 [(0, .ref (eA E v0))] → mGo l p e 3 62 s m args below meth c E (some (vI out.1)) out.2 H locs (F0 m 92 ls [vL t1, .ref (eA E t0)]) := by
  intro t0 t1 σ H locs ls hm hM hl
  unfold mX8_readWhole_B92 at hm
  obtain ⟨g1, hm⟩ := g_t hm
  obtain ⟨s2, e3, hm⟩ := bnd_t hm
  refine r_putL (np := 95) G hM (shp_lt g1 (by decide)) g1 ptX8_3 rfl lkX8_29 s2 e3 dX8_readWhole_92 rfl (fun H locs hM => ?_)
  refine r_aload_n (np := 96) G hl 0 rfl dX8_readWhole_95 rfl rfl ?_
  obtain ⟨r4, e5, hm⟩ := ref_t hm
  refine r_getR (np := 99) G hM (shp_lt g0 (by decide)) g0 e5 fdX8_0 lkX8_12 dX8_readWhole_96 rfl ?_
  obtain ⟨b6, s7, e8, hm⟩ := call_t hm
  refine m_callVV (np := 102) G hM hl.1 [] (qX10_step l E s2 r4 _ e8) myX10_step (shp_lt (gX10_step e8) (by decide)) (gX10_step e8) rfl (by decide) lkX8_61 ⟨Nat.le_of_ble_eq_true rfl, Nat.le_of_ble_eq_true rfl⟩ ⟨Nat.le_of_ble_eq_true rfl, Nat.le_of_ble_eq_true rfl⟩ [] rfl (Nat.le_of_ble_eq_true rfl) dX8_readWhole_99 rfl (fun H locs hM => ?_)
  refine r_iconst (np := 103) G 1 dX8_readWhole_102 rfl ?_
  exact r_zret G hr hk hM (Or.inr rfl) hm dX8_readWhole_103
set_option maxRecDepth 100000 in
set_option maxHeartbeats 4000000 in
theorem wX8_readWhole_B79 (l : Launch) (E : mE) (out : Int × mSt) {p : Program} {e : Env} {s : State} {m : MethodId} {args : Array Value} {below : List Frame} {meth : Method} {c : Code} (G : CallFix p m c cX8_readWhole 6 s args mTs RX8) (hr : meth.sig.returnType = (some .boolean)) (hk : meth.locks = false) (v0 : Nat) (v1 : Int) (v2 : Int) (g0 : isC v0 7) : ∀ (v3 : Int) (v4 : Int) (σ : mSt) (H : Heap) (locs : List Loc) (ls : Array Slot), mX8_readWhole_B79 v0 v1 v2 v3 v4 σ = some out → mM (mA E 257) E 257 σ s H locs → lv_has ls 6 [(0, .ref (eA E v0)), (3, vI v3), (4, vL v4)] → mGo l p e 3 62 s m args below meth c E (some (vI out.1)) out.2 H locs (F0 m 79 ls []) := by
  intro v3 v4 σ H locs ls hm hM hl
  unfold mX8_readWhole_B79 at hm
  refine r_aload_n (np := 80) G hl 0 rfl dX8_readWhole_79 rfl rfl ?_
  refine r_iload_n (np := 81) G hl 1 rfl dX8_readWhole_80 rfl rfl ?_
  refine r_if_eq (np := 84) (tgt := 90) G rfl dX8_readWhole_81 (by decide) rfl (fun h9 => ?_) (fun h9 => ?_)
  · have hm := b_t h9 hm
    refine r_lload (np := 92) G hl 2 rfl dX8_readWhole_90 rfl ?_
    exact wX8_readWhole_B92 l E out G hr hk v0 v1 v2 g0 v0 v4 _ _ _ _ hm hM (lv_sub hl [0] rfl)
  · have hm := b_f h9 hm
    refine r_lload (np := 86) G hl 2 rfl dX8_readWhole_84 rfl ?_
    refine r_lneg (np := 87) G dX8_readWhole_86 rfl ?_
    refine r_goto (np := 92) G dX8_readWhole_87 (by decide) ?_
    exact wX8_readWhole_B92 l E out G hr hk v0 v1 v2 g0 v0 (-v4) _ _ _ _ hm hM (lv_sub hl [0] rfl)
set_option maxRecDepth 100000 in
set_option maxHeartbeats 4000000 in
theorem wX8_readWhole_B73 (l : Launch) (E : mE) (out : Int × mSt) {p : Program} {e : Env} {s : State} {m : MethodId} {args : Array Value} {below : List Frame} {meth : Method} {c : Code} (G : CallFix p m c cX8_readWhole 6 s args mTs RX8) (hr : meth.sig.returnType = (some .boolean)) (hk : meth.locks = false) (v0 : Nat) (v1 : Int) (v2 : Int) (g0 : isC v0 7) : ∀ (σ : mSt) (H : Heap) (locs : List Loc) (ls : Array Slot), mX8_readWhole_B73 v0 v1 v2 σ = some out → mM (mA E 257) E 257 σ s H locs → lv_has ls 6 [(0, .ref (eA E v0))] → mGo l p e 3 62 s m args below meth c E (some (vI out.1)) out.2 H locs (F0 m 73 ls []) := by
  intro σ H locs ls hm hM hl
  unfold mX8_readWhole_B73 at hm
  refine r_aload_n (np := 74) G hl 0 rfl dX8_readWhole_73 rfl rfl ?_
  refine r_iconst (np := 75) G 4 dX8_readWhole_74 rfl ?_
  obtain ⟨b10, s11, e12, hm⟩ := call_t hm
  refine m_callVI (np := 78) G hM hl.1 [vI 4] (qX8_refuse l E σ v0 4 _ e12) myX8_refuse (shp_lt (gX8_refuse e12) (by decide)) (gX8_refuse e12) rfl (by decide) lkX8_55 ⟨Nat.le_of_ble_eq_true rfl, Nat.le_of_ble_eq_true rfl⟩ ⟨Nat.le_of_ble_eq_true rfl, Nat.le_of_ble_eq_true rfl⟩ [] rfl (Nat.le_of_ble_eq_true rfl) dX8_readWhole_75 rfl (fun H locs hM => ?_)
  obtain ⟨g13, hm⟩ := g_t hm
  exact r_zret G hr hk hM g13 hm dX8_readWhole_78
set_option maxRecDepth 100000 in
set_option maxHeartbeats 4000000 in
theorem wX8_readWhole_B20 (l : Launch) (E : mE) (out : Int × mSt) {p : Program} {e : Env} {s : State} {m : MethodId} {args : Array Value} {below : List Frame} {meth : Method} {c : Code} (G : CallFix p m c cX8_readWhole 6 s args mTs RX8) (hr : meth.sig.returnType = (some .boolean)) (hk : meth.locks = false) (v0 : Nat) (v1 : Int) (v2 : Int) (g0 : isC v0 7) : ∀ (v3 : Int) (σ : mSt) (H : Heap) (locs : List Loc) (ls : Array Slot), mX8_readWhole_B20 v0 v1 v2 v3 σ = some out → mM (mA E 257) E 257 σ s H locs → lv_has ls 6 [(0, .ref (eA E v0)), (1, vI v1), (2, vI v2), (3, vI v3)] → mGo l p e 3 62 s m args below meth c E (some (vI out.1)) out.2 H locs (F0 m 20 ls []) := by
  intro v3 σ H locs ls hm hM hl
  unfold mX8_readWhole_B20 at hm
  refine r_aload_n (np := 21) G hl 0 rfl dX8_readWhole_20 rfl rfl ?_
  obtain ⟨r14, e15, hm⟩ := ref_t hm
  refine r_getR (np := 24) G hM (shp_lt g0 (by decide)) g0 e15 fdX8_0 lkX8_12 dX8_readWhole_21 rfl ?_
  refine r_iconst (np := 25) G 2 dX8_readWhole_24 rfl ?_
  obtain ⟨b16, s17, e18, hm⟩ := call_t hm
  refine m_callVI (np := 28) G hM hl.1 [vI 2] (qX10_is l E σ r14 2 _ e18) myX10_is (shp_lt (gX10_is e18) (by decide)) (gX10_is e18) rfl (by decide) lkX8_44 ⟨Nat.le_of_ble_eq_true rfl, Nat.le_of_ble_eq_true rfl⟩ ⟨Nat.le_of_ble_eq_true rfl, Nat.le_of_ble_eq_true rfl⟩ [] rfl (Nat.le_of_ble_eq_true rfl) dX8_readWhole_25 rfl (fun H locs hM => ?_)
  refine r_if_ne (np := 31) (tgt := 37) G rfl dX8_readWhole_28 (by decide) rfl (fun h19 => ?_) (fun h19 => ?_)
  · have hm := b_f h19 hm
    refine r_aload_n (np := 38) G hl 0 rfl dX8_readWhole_37 rfl rfl ?_
    obtain ⟨r20, e21, hm⟩ := ref_t hm
    refine r_getR (np := 41) G hM (shp_lt g0 (by decide)) g0 e21 fdX8_0 lkX8_12 dX8_readWhole_38 rfl ?_
    obtain ⟨b22, s23, e24, hm⟩ := call_t hm
    refine m_callVL (np := 44) G hM hl.1 [] (qX10_value l E s17 r20 _ e24) myX10_value (shp_lt (gX10_value e24) (by decide)) (gX10_value e24) rfl (by decide) lkX8_100 ⟨Nat.le_of_ble_eq_true rfl, Nat.le_of_ble_eq_true rfl⟩ ⟨Nat.le_of_ble_eq_true rfl, Nat.le_of_ble_eq_true rfl⟩ [] rfl (Nat.le_of_ble_eq_true rfl) dX8_readWhole_41 rfl (fun H locs hM => ?_)
    refine r_lstore (np := 46) G hl rfl [(4, vL b22), (0, .ref (eA E v0)), (1, vI v1), (2, vI v2), (3, vI v3)] dX8_readWhole_44 rfl (by decide) rfl (fun ls hl => ?_)
    refine r_lload (np := 48) G hl 0 rfl dX8_readWhole_46 rfl ?_
    refine r_lconst (np := 49) G 0 dX8_readWhole_48 rfl rfl ?_
    refine r_lcmp_eq (np := 53) (tgt := 73) G rfl (wLk 0 rfl) dX8_readWhole_49 dX8_readWhole_50 (by decide) rfl (fun h25 => ?_) (fun h25 => ?_)
    · have hm := b_t h25 hm
      exact wX8_readWhole_B73 l E out G hr hk v0 v1 v2 g0 _ _ _ _ hm hM (lv_sub hl [1] rfl)
    · have hm := b_f h25 hm
      refine r_lload (np := 55) G hl 0 rfl dX8_readWhole_53 rfl ?_
      refine r_iload_n (np := 56) G hl 2 rfl dX8_readWhole_55 rfl rfl ?_
      refine r_i2l (np := 57) G rfl dX8_readWhole_56 rfl ?_
      refine r_lcmp_gt (np := 61) (tgt := 73) G rfl rfl dX8_readWhole_57 dX8_readWhole_58 (by decide) rfl (fun h26 => ?_) (fun h26 => ?_)
      · have hm := b_t h26 hm
        exact wX8_readWhole_B73 l E out G hr hk v0 v1 v2 g0 _ _ _ _ hm hM (lv_sub hl [1] rfl)
      · have hm := b_f h26 hm
        refine r_iload_n (np := 62) G hl 3 rfl dX8_readWhole_61 rfl rfl ?_
        refine r_if_eq (np := 65) (tgt := 79) G rfl dX8_readWhole_62 (by decide) rfl (fun h27 => ?_) (fun h27 => ?_)
        · have hm := b_t h27 hm
          exact wX8_readWhole_B79 l E out G hr hk v0 v1 v2 g0 v3 b22 _ _ _ _ hm hM (lv_sub hl [1, 4, 0] rfl)
        · have hm := b_f h27 hm
          refine r_lload (np := 67) G hl 0 rfl dX8_readWhole_65 rfl ?_
          obtain ⟨b28, s29, e30, hm⟩ := call_t hm
          refine m_callSI (np := 70) G hM hl.1 [vL b22] (qX5_isSquareFree l E s23 b22 _ e30) myX5_isSquareFree lkX8_120 ⟨Nat.le_of_ble_eq_true rfl, Nat.le_of_ble_eq_true rfl⟩ ⟨Nat.le_of_ble_eq_true rfl, Nat.le_of_ble_eq_true rfl⟩ [] rfl (Nat.le_of_ble_eq_true rfl) dX8_readWhole_67 rfl (fun H locs hM => ?_)
          refine r_if_ne (np := 73) (tgt := 79) G rfl dX8_readWhole_70 (by decide) rfl (fun h31 => ?_) (fun h31 => ?_)
          · have hm := b_f h31 hm
            exact wX8_readWhole_B79 l E out G hr hk v0 v1 v2 g0 v3 b22 _ _ _ _ hm hM (lv_sub hl [1, 4, 0] rfl)
          · have hm := b_t h31 hm
            exact wX8_readWhole_B73 l E out G hr hk v0 v1 v2 g0 _ _ _ _ hm hM (lv_sub hl [1] rfl)
  · have hm := b_t h19 hm
    refine r_aload_n (np := 32) G hl 0 rfl dX8_readWhole_31 rfl rfl ?_
    refine r_iconst (np := 33) G 1 dX8_readWhole_32 rfl ?_
    obtain ⟨b32, s33, e34, hm⟩ := call_t hm
    refine m_callVI (np := 36) G hM hl.1 [vI 1] (qX8_refuse l E s17 v0 1 _ e34) myX8_refuse (shp_lt (gX8_refuse e34) (by decide)) (gX8_refuse e34) rfl (by decide) lkX8_55 ⟨Nat.le_of_ble_eq_true rfl, Nat.le_of_ble_eq_true rfl⟩ ⟨Nat.le_of_ble_eq_true rfl, Nat.le_of_ble_eq_true rfl⟩ [] rfl (Nat.le_of_ble_eq_true rfl) dX8_readWhole_33 rfl (fun H locs hM => ?_)
    obtain ⟨g35, hm⟩ := g_t hm
    exact r_zret G hr hk hM g35 hm dX8_readWhole_36
set_option maxRecDepth 100000 in
set_option maxHeartbeats 4000000 in
theorem qX8_readWhole (l : Launch) (E : mE) (σ : mSt) (v0 : Nat) (v1 : Int) (v2 : Int) (out : Int × mSt) (hm : mX8_readWhole v0 v1 v2 σ = some out) : mMet l yX8_readWhole cX8_readWhole 6 (some .boolean) 3 62 E 257 [.ref (eA E v0), vI v1, vI v2] σ (some (vI out.1)) out.2 := by
  unfold mX8_readWhole at hm
  obtain ⟨g0, hm⟩ := g_t hm
  refine m_entry (by decide +kernel) (Nat.le_of_ble_eq_true rfl) (fun p e s m args below meth c G hr hk hM ls hl => ?_)
  have G : CallFix p m c cX8_readWhole 6 s args mTs RX8 := G
  have hl : lv_has ls 6 [(0, .ref (eA E v0)), (1, vI v1), (2, vI v2)] := hl
  refine r_aload_n (np := 1) G hl 0 rfl dX8_readWhole_0 rfl rfl ?_
  obtain ⟨r36, e37, hm⟩ := ref_t hm
  refine r_getR (np := 4) G hM (shp_lt g0 (by decide)) g0 e37 fdX8_0 lkX8_12 dX8_readWhole_1 rfl ?_
  refine r_iconst (np := 5) G 4 dX8_readWhole_4 rfl ?_
  obtain ⟨b38, s39, e40, hm⟩ := call_t hm
  refine m_callVI (np := 8) G hM hl.1 [vI 4] (qX10_is l E σ r36 4 _ e40) myX10_is (shp_lt (gX10_is e40) (by decide)) (gX10_is e40) rfl (by decide) lkX8_44 ⟨Nat.le_of_ble_eq_true rfl, Nat.le_of_ble_eq_true rfl⟩ ⟨Nat.le_of_ble_eq_true rfl, Nat.le_of_ble_eq_true rfl⟩ [] rfl (Nat.le_of_ble_eq_true rfl) dX8_readWhole_5 rfl (fun H locs hM => ?_)
  refine r_istore_n (np := 9) G hl rfl [(3, vI b38), (0, .ref (eA E v0)), (1, vI v1), (2, vI v2)] dX8_readWhole_8 rfl rfl (by decide) rfl (fun ls hl => ?_)
  refine r_iload_n (np := 10) G hl 0 rfl dX8_readWhole_9 rfl rfl ?_
  refine r_if_eq (np := 13) (tgt := 20) G rfl dX8_readWhole_10 (by decide) rfl (fun h41 => ?_) (fun h41 => ?_)
  · have hm := b_t h41 hm
    exact wX8_readWhole_B20 l E out G hr hk v0 v1 v2 g0 b38 _ _ _ _ hm hM (lv_sub hl [1, 2, 3, 0] rfl)
  · have hm := b_f h41 hm
    refine r_aload_n (np := 14) G hl 1 rfl dX8_readWhole_13 rfl rfl ?_
    obtain ⟨r42, e43, hm⟩ := ref_t hm
    refine r_getR (np := 17) G hM (shp_lt g0 (by decide)) g0 e43 fdX8_0 lkX8_12 dX8_readWhole_14 rfl ?_
    obtain ⟨b44, s45, e46, hm⟩ := call_t hm
    refine m_callVV (np := 20) G hM hl.1 [] (qX10_step l E s39 r42 _ e46) myX10_step (shp_lt (gX10_step e46) (by decide)) (gX10_step e46) rfl (by decide) lkX8_61 ⟨Nat.le_of_ble_eq_true rfl, Nat.le_of_ble_eq_true rfl⟩ ⟨Nat.le_of_ble_eq_true rfl, Nat.le_of_ble_eq_true rfl⟩ [] rfl (Nat.le_of_ble_eq_true rfl) dX8_readWhole_17 rfl (fun H locs hM => ?_)
    exact wX8_readWhole_B20 l E out G hr hk v0 v1 v2 g0 b38 _ _ _ _ hm hM (lv_sub hl [1, 2, 3, 0] rfl)
theorem gX8_readWhole {v0 : Nat} {v1 : Int} {v2 : Int} {σ : mSt} {out : Int × mSt} (hm : mX8_readWhole v0 v1 v2 σ = some out) : isC v0 7 := (g_t hm).1
set_option maxRecDepth 100000 in
set_option maxHeartbeats 4000000 in
theorem qX8_readSides (l : Launch) (E : mE) (σ : mSt) (v0 : Nat) (out : Int × mSt) (hm : mX8_readSides v0 σ = some out) : mMet l yX8_readSides cX8_readSides 1 (some .boolean) 4 87 E 257 [.ref (eA E v0)] σ (some (vI out.1)) out.2 := by
  unfold mX8_readSides at hm
  obtain ⟨g0, hm⟩ := g_t hm
  refine m_entry (by decide +kernel) (Nat.le_of_ble_eq_true rfl) (fun p e s m args below meth c G hr hk hM ls hl => ?_)
  have G : CallFix p m c cX8_readSides 1 s args mTs RX8 := G
  have hl : lv_has ls 1 [(0, .ref (eA E v0))] := hl
  refine r_aload_n (np := 1) G hl 0 rfl dX8_readSides_0 rfl rfl ?_
  refine r_bipush (np := 3) G 60 dX8_readSides_1 (by decide) rfl ?_
  refine r_iconst (np := 4) G 1 dX8_readSides_3 rfl ?_
  obtain ⟨b1, s2, e3, hm⟩ := call_t hm
  refine m_callVI (np := 7) G hM hl.1 [vI 60, vI 1] (qX8_readWhole l E σ v0 60 1 _ e3) myX8_readWhole (shp_lt (gX8_readWhole e3) (by decide)) (gX8_readWhole e3) rfl (by decide) lkX8_89 ⟨Nat.le_of_ble_eq_true rfl, Nat.le_of_ble_eq_true rfl⟩ ⟨Nat.le_of_ble_eq_true rfl, Nat.le_of_ble_eq_true rfl⟩ [] rfl (Nat.le_of_ble_eq_true rfl) dX8_readSides_4 rfl (fun H locs hM => ?_)
  refine r_if_ne (np := 10) (tgt := 12) G rfl dX8_readSides_7 (by decide) rfl (fun h4 => ?_) (fun h4 => ?_)
  · have hm := b_f h4 hm
    refine r_aload_n (np := 13) G hl 0 rfl dX8_readSides_12 rfl rfl ?_
    obtain ⟨r5, e6, hm⟩ := ref_t hm
    refine r_getR (np := 16) G hM (shp_lt g0 (by decide)) g0 e6 fdX8_1 lkX8_21 dX8_readSides_13 rfl ?_
    refine r_aload_n (np := 17) G hl 0 rfl dX8_readSides_16 rfl rfl ?_
    refine r_getL (np := 20) G hM (shp_lt g0 (by decide)) g0 fdX8_3 lkX8_29 dX8_readSides_17 rfl ?_
    obtain ⟨b7, s8, e9, hm⟩ := call_t hm
    refine m_callVV (np := 23) G hM hl.1 [vL (s2 v0 3)] (qX0_setFirst l E s2 r5 (s2 v0 3) _ e9) myX0_setFirst (shp_lt (gX0_setFirst e9) (by decide)) (gX0_setFirst e9) rfl (by decide) lkX8_93 ⟨Nat.le_of_ble_eq_true rfl, Nat.le_of_ble_eq_true rfl⟩ ⟨Nat.le_of_ble_eq_true rfl, Nat.le_of_ble_eq_true rfl⟩ [] rfl (Nat.le_of_ble_eq_true rfl) dX8_readSides_20 rfl (fun H locs hM => ?_)
    refine r_aload_n (np := 24) G hl 0 rfl dX8_readSides_23 rfl rfl ?_
    refine r_bipush (np := 26) G 60 dX8_readSides_24 (by decide) rfl ?_
    refine r_iconst (np := 27) G 1 dX8_readSides_26 rfl ?_
    obtain ⟨b10, s11, e12, hm⟩ := call_t hm
    refine m_callVI (np := 30) G hM hl.1 [vI 60, vI 1] (qX8_readWhole l E s8 v0 60 1 _ e12) myX8_readWhole (shp_lt (gX8_readWhole e12) (by decide)) (gX8_readWhole e12) rfl (by decide) lkX8_89 ⟨Nat.le_of_ble_eq_true rfl, Nat.le_of_ble_eq_true rfl⟩ ⟨Nat.le_of_ble_eq_true rfl, Nat.le_of_ble_eq_true rfl⟩ [] rfl (Nat.le_of_ble_eq_true rfl) dX8_readSides_27 rfl (fun H locs hM => ?_)
    refine r_if_ne (np := 33) (tgt := 35) G rfl dX8_readSides_30 (by decide) rfl (fun h13 => ?_) (fun h13 => ?_)
    · have hm := b_f h13 hm
      refine r_aload_n (np := 36) G hl 0 rfl dX8_readSides_35 rfl rfl ?_
      obtain ⟨r14, e15, hm⟩ := ref_t hm
      refine r_getR (np := 39) G hM (shp_lt g0 (by decide)) g0 e15 fdX8_1 lkX8_21 dX8_readSides_36 rfl ?_
      refine r_aload_n (np := 40) G hl 0 rfl dX8_readSides_39 rfl rfl ?_
      refine r_getL (np := 43) G hM (shp_lt g0 (by decide)) g0 fdX8_3 lkX8_29 dX8_readSides_40 rfl ?_
      obtain ⟨b16, s17, e18, hm⟩ := call_t hm
      refine m_callVV (np := 46) G hM hl.1 [vL (s11 v0 3)] (qX0_setSecond l E s11 r14 (s11 v0 3) _ e18) myX0_setSecond (shp_lt (gX0_setSecond e18) (by decide)) (gX0_setSecond e18) rfl (by decide) lkX8_97 ⟨Nat.le_of_ble_eq_true rfl, Nat.le_of_ble_eq_true rfl⟩ ⟨Nat.le_of_ble_eq_true rfl, Nat.le_of_ble_eq_true rfl⟩ [] rfl (Nat.le_of_ble_eq_true rfl) dX8_readSides_43 rfl (fun H locs hM => ?_)
      refine r_iconst (np := 47) G 1 dX8_readSides_46 rfl ?_
      exact r_zret G hr hk hM (Or.inr rfl) hm dX8_readSides_47
    · have hm := b_t h13 hm
      refine r_iconst (np := 34) G 0 dX8_readSides_33 rfl ?_
      exact r_zret G hr hk hM (Or.inl rfl) hm dX8_readSides_34
  · have hm := b_t h4 hm
    refine r_iconst (np := 11) G 0 dX8_readSides_10 rfl ?_
    exact r_zret G hr hk hM (Or.inl rfl) hm dX8_readSides_11
theorem gX8_readSides {v0 : Nat} {σ : mSt} {out : Int × mSt} (hm : mX8_readSides v0 σ = some out) : isC v0 7 := (g_t hm).1
set_option maxRecDepth 100000 in
set_option maxHeartbeats 4000000 in
theorem wX8_isField_B48 (l : Launch) (E : mE) (out : Int × mSt) {p : Program} {e : Env} {s : State} {m : MethodId} {args : Array Value} {below : List Frame} {meth : Method} {c : Code} (G : CallFix p m c cX8_isField 3 s args mTs RX8) (hr : meth.sig.returnType = (some .boolean)) (hk : meth.locks = false) (v0 : Nat) (v1 : Int) (g0 : isC v0 7) : ∀ (σ : mSt) (H : Heap) (locs : List Loc) (ls : Array Slot), mX8_isField_B48 v0 v1 σ = some out → mM (mA E 257) E 257 σ s H locs → lv_has ls 3 [] → mGo l p e 0 0 s m args below meth c E (some (vI out.1)) out.2 H locs (F0 m 48 ls []) := by
  intro σ H locs ls hm hM hl
  unfold mX8_isField_B48 at hm
  refine r_iconst (np := 49) G 1 dX8_isField_48 rfl ?_
  refine r_goto (np := 53) G dX8_isField_49 (by decide) ?_
  exact r_zret G hr hk hM (Or.inr rfl) hm dX8_isField_53
set_option maxRecDepth 100000 in
set_option maxHeartbeats 4000000 in
theorem qX8_isField (l : Launch) (E : mE) (σ : mSt) (v0 : Nat) (v1 : Int) (out : Int × mSt) (hm : mX8_isField v0 v1 σ = some out) : mMet l yX8_isField cX8_isField 3 (some .boolean) 0 0 E 257 [.ref (eA E v0), vL v1] σ (some (vI out.1)) out.2 := by
  unfold mX8_isField at hm
  obtain ⟨g0, hm⟩ := g_t hm
  refine m_entry (by decide +kernel) (Nat.le_of_ble_eq_true rfl) (fun p e s m args below meth c G hr hk hM ls hl => ?_)
  have G : CallFix p m c cX8_isField 3 s args mTs RX8 := G
  have hl : lv_has ls 3 [(0, .ref (eA E v0)), (1, vL v1)] := hl
  refine r_lload_n (np := 1) G hl 1 rfl dX8_isField_0 rfl rfl ?_
  refine r_ldc2 (np := 4) G 7 dX8_isField_1 lkX8_108 rfl rfl ?_
  refine r_lcmp_eq (np := 8) (tgt := 48) G rfl (wLk 7 rfl) dX8_isField_4 dX8_isField_5 (by decide) rfl (fun h1 => ?_) (fun h1 => ?_)
  · have hm := b_t h1 hm
    exact wX8_isField_B48 l E out G hr hk v0 v1 g0 _ _ _ _ hm hM (lv_sub hl [] rfl)
  · have hm := b_f h1 hm
    refine r_lload_n (np := 9) G hl 1 rfl dX8_isField_8 rfl rfl ?_
    refine r_ldc2 (np := 12) G 13 dX8_isField_9 lkX8_110 rfl rfl ?_
    refine r_lcmp_eq (np := 16) (tgt := 48) G rfl (wLk 13 rfl) dX8_isField_12 dX8_isField_13 (by decide) rfl (fun h2 => ?_) (fun h2 => ?_)
    · have hm := b_t h2 hm
      exact wX8_isField_B48 l E out G hr hk v0 v1 g0 _ _ _ _ hm hM (lv_sub hl [] rfl)
    · have hm := b_f h2 hm
      refine r_lload_n (np := 17) G hl 1 rfl dX8_isField_16 rfl rfl ?_
      refine r_ldc2 (np := 20) G 19 dX8_isField_17 lkX8_112 rfl rfl ?_
      refine r_lcmp_eq (np := 24) (tgt := 48) G rfl (wLk 19 rfl) dX8_isField_20 dX8_isField_21 (by decide) rfl (fun h3 => ?_) (fun h3 => ?_)
      · have hm := b_t h3 hm
        exact wX8_isField_B48 l E out G hr hk v0 v1 g0 _ _ _ _ hm hM (lv_sub hl [] rfl)
      · have hm := b_f h3 hm
        refine r_lload_n (np := 25) G hl 1 rfl dX8_isField_24 rfl rfl ?_
        refine r_ldc2 (np := 28) G 31 dX8_isField_25 lkX8_114 rfl rfl ?_
        refine r_lcmp_eq (np := 32) (tgt := 48) G rfl (wLk 31 rfl) dX8_isField_28 dX8_isField_29 (by decide) rfl (fun h4 => ?_) (fun h4 => ?_)
        · have hm := b_t h4 hm
          exact wX8_isField_B48 l E out G hr hk v0 v1 g0 _ _ _ _ hm hM (lv_sub hl [] rfl)
        · have hm := b_f h4 hm
          refine r_lload_n (np := 33) G hl 1 rfl dX8_isField_32 rfl rfl ?_
          refine r_ldc2 (np := 36) G 37 dX8_isField_33 lkX8_116 rfl rfl ?_
          refine r_lcmp_eq (np := 40) (tgt := 48) G rfl (wLk 37 rfl) dX8_isField_36 dX8_isField_37 (by decide) rfl (fun h5 => ?_) (fun h5 => ?_)
          · have hm := b_t h5 hm
            exact wX8_isField_B48 l E out G hr hk v0 v1 g0 _ _ _ _ hm hM (lv_sub hl [] rfl)
          · have hm := b_f h5 hm
            refine r_lload_n (np := 41) G hl 1 rfl dX8_isField_40 rfl rfl ?_
            refine r_ldc2 (np := 44) G 43 dX8_isField_41 lkX8_118 rfl rfl ?_
            refine r_lcmp_ne (np := 48) (tgt := 52) G rfl (wLk 43 rfl) dX8_isField_44 dX8_isField_45 (by decide) rfl (fun h6 => ?_) (fun h6 => ?_)
            · have hm := b_f h6 hm
              refine r_iconst (np := 53) G 0 dX8_isField_52 rfl ?_
              exact r_zret G hr hk hM (Or.inl rfl) hm dX8_isField_53
            · have hm := b_t h6 hm
              exact wX8_isField_B48 l E out G hr hk v0 v1 g0 _ _ _ _ hm hM (lv_sub hl [] rfl)
theorem gX8_isField {v0 : Nat} {v1 : Int} {σ : mSt} {out : Int × mSt} (hm : mX8_isField v0 v1 σ = some out) : isC v0 7 := (g_t hm).1
set_option maxRecDepth 100000 in
set_option maxHeartbeats 4000000 in
theorem qX8_readField (l : Launch) (E : mE) (σ : mSt) (v0 : Nat) (out : Int × mSt) (hm : mX8_readField v0 σ = some out) : mMet l yX8_readField cX8_readField 3 (some .boolean) 4 87 E 257 [.ref (eA E v0)] σ (some (vI out.1)) out.2 := by
  unfold mX8_readField at hm
  obtain ⟨g0, hm⟩ := g_t hm
  refine m_entry (by decide +kernel) (Nat.le_of_ble_eq_true rfl) (fun p e s m args below meth c G hr hk hM ls hl => ?_)
  have G : CallFix p m c cX8_readField 3 s args mTs RX8 := G
  have hl : lv_has ls 3 [(0, .ref (eA E v0))] := hl
  refine r_aload_n (np := 1) G hl 0 rfl dX8_readField_0 rfl rfl ?_
  obtain ⟨r1, e2, hm⟩ := ref_t hm
  refine r_getR (np := 4) G hM (shp_lt g0 (by decide)) g0 e2 fdX8_0 lkX8_12 dX8_readField_1 rfl ?_
  refine r_iconst (np := 5) G 2 dX8_readField_4 rfl ?_
  obtain ⟨b3, s4, e5, hm⟩ := call_t hm
  refine m_callVI (np := 8) G hM hl.1 [vI 2] (qX10_is l E σ r1 2 _ e5) myX10_is (shp_lt (gX10_is e5) (by decide)) (gX10_is e5) rfl (by decide) lkX8_44 ⟨Nat.le_of_ble_eq_true rfl, Nat.le_of_ble_eq_true rfl⟩ ⟨Nat.le_of_ble_eq_true rfl, Nat.le_of_ble_eq_true rfl⟩ [] rfl (Nat.le_of_ble_eq_true rfl) dX8_readField_5 rfl (fun H locs hM => ?_)
  refine r_if_ne (np := 11) (tgt := 17) G rfl dX8_readField_8 (by decide) rfl (fun h6 => ?_) (fun h6 => ?_)
  · have hm := b_f h6 hm
    refine r_aload_n (np := 18) G hl 0 rfl dX8_readField_17 rfl rfl ?_
    obtain ⟨r7, e8, hm⟩ := ref_t hm
    refine r_getR (np := 21) G hM (shp_lt g0 (by decide)) g0 e8 fdX8_0 lkX8_12 dX8_readField_18 rfl ?_
    obtain ⟨b9, s10, e11, hm⟩ := call_t hm
    refine m_callVL (np := 24) G hM hl.1 [] (qX10_value l E s4 r7 _ e11) myX10_value (shp_lt (gX10_value e11) (by decide)) (gX10_value e11) rfl (by decide) lkX8_100 ⟨Nat.le_of_ble_eq_true rfl, Nat.le_of_ble_eq_true rfl⟩ ⟨Nat.le_of_ble_eq_true rfl, Nat.le_of_ble_eq_true rfl⟩ [] rfl (Nat.le_of_ble_eq_true rfl) dX8_readField_21 rfl (fun H locs hM => ?_)
    refine r_lstore_n (np := 25) G hl rfl [(1, vL b9), (0, .ref (eA E v0))] dX8_readField_24 rfl rfl (by decide) rfl (fun ls hl => ?_)
    refine r_aload_n (np := 26) G hl 1 rfl dX8_readField_25 rfl rfl ?_
    refine r_lload_n (np := 27) G hl 0 rfl dX8_readField_26 rfl rfl ?_
    obtain ⟨b12, s13, e14, hm⟩ := call_t hm
    refine m_callVI (np := 30) G hM hl.1 [vL b9] (qX8_isField l E s10 v0 b9 _ e14) myX8_isField (shp_lt (gX8_isField e14) (by decide)) (gX8_isField e14) rfl (by decide) lkX8_104 ⟨Nat.le_of_ble_eq_true rfl, Nat.le_of_ble_eq_true rfl⟩ ⟨Nat.le_of_ble_eq_true rfl, Nat.le_of_ble_eq_true rfl⟩ [] rfl (Nat.le_of_ble_eq_true rfl) dX8_readField_27 rfl (fun H locs hM => ?_)
    refine r_if_ne (np := 33) (tgt := 39) G rfl dX8_readField_30 (by decide) rfl (fun h15 => ?_) (fun h15 => ?_)
    · have hm := b_f h15 hm
      refine r_aload_n (np := 40) G hl 1 rfl dX8_readField_39 rfl rfl ?_
      obtain ⟨r16, e17, hm⟩ := ref_t hm
      refine r_getR (np := 43) G hM (shp_lt g0 (by decide)) g0 e17 fdX8_1 lkX8_21 dX8_readField_40 rfl ?_
      refine r_lload_n (np := 44) G hl 0 rfl dX8_readField_43 rfl rfl ?_
      obtain ⟨b18, s19, e20, hm⟩ := call_t hm
      refine m_callVV (np := 47) G hM hl.1 [vL b9] (qX0_setFirst l E s13 r16 b9 _ e20) myX0_setFirst (shp_lt (gX0_setFirst e20) (by decide)) (gX0_setFirst e20) rfl (by decide) lkX8_93 ⟨Nat.le_of_ble_eq_true rfl, Nat.le_of_ble_eq_true rfl⟩ ⟨Nat.le_of_ble_eq_true rfl, Nat.le_of_ble_eq_true rfl⟩ [] rfl (Nat.le_of_ble_eq_true rfl) dX8_readField_44 rfl (fun H locs hM => ?_)
      refine r_aload_n (np := 48) G hl 1 rfl dX8_readField_47 rfl rfl ?_
      obtain ⟨r21, e22, hm⟩ := ref_t hm
      refine r_getR (np := 51) G hM (shp_lt g0 (by decide)) g0 e22 fdX8_0 lkX8_12 dX8_readField_48 rfl ?_
      obtain ⟨b23, s24, e25, hm⟩ := call_t hm
      refine m_callVV (np := 54) G hM hl.1 [] (qX10_step l E s19 r21 _ e25) myX10_step (shp_lt (gX10_step e25) (by decide)) (gX10_step e25) rfl (by decide) lkX8_61 ⟨Nat.le_of_ble_eq_true rfl, Nat.le_of_ble_eq_true rfl⟩ ⟨Nat.le_of_ble_eq_true rfl, Nat.le_of_ble_eq_true rfl⟩ [] rfl (Nat.le_of_ble_eq_true rfl) dX8_readField_51 rfl (fun H locs hM => ?_)
      refine r_aload_n (np := 55) G hl 1 rfl dX8_readField_54 rfl rfl ?_
      refine r_sipush (np := 58) G 999 dX8_readField_55 (by decide) rfl ?_
      refine r_iconst (np := 59) G 0 dX8_readField_58 rfl ?_
      obtain ⟨b26, s27, e28, hm⟩ := call_t hm
      refine m_callVI (np := 62) G hM hl.1 [vI 999, vI 0] (qX8_readWhole l E s24 v0 999 0 _ e28) myX8_readWhole (shp_lt (gX8_readWhole e28) (by decide)) (gX8_readWhole e28) rfl (by decide) lkX8_89 ⟨Nat.le_of_ble_eq_true rfl, Nat.le_of_ble_eq_true rfl⟩ ⟨Nat.le_of_ble_eq_true rfl, Nat.le_of_ble_eq_true rfl⟩ [] rfl (Nat.le_of_ble_eq_true rfl) dX8_readField_59 rfl (fun H locs hM => ?_)
      refine r_if_ne (np := 65) (tgt := 67) G rfl dX8_readField_62 (by decide) rfl (fun h29 => ?_) (fun h29 => ?_)
      · have hm := b_f h29 hm
        refine r_aload_n (np := 68) G hl 1 rfl dX8_readField_67 rfl rfl ?_
        obtain ⟨r30, e31, hm⟩ := ref_t hm
        refine r_getR (np := 71) G hM (shp_lt g0 (by decide)) g0 e31 fdX8_1 lkX8_21 dX8_readField_68 rfl ?_
        refine r_aload_n (np := 72) G hl 1 rfl dX8_readField_71 rfl rfl ?_
        refine r_getL (np := 75) G hM (shp_lt g0 (by decide)) g0 fdX8_3 lkX8_29 dX8_readField_72 rfl ?_
        obtain ⟨b32, s33, e34, hm⟩ := call_t hm
        refine m_callVV (np := 78) G hM hl.1 [vL (s27 v0 3)] (qX0_setSecond l E s27 r30 (s27 v0 3) _ e34) myX0_setSecond (shp_lt (gX0_setSecond e34) (by decide)) (gX0_setSecond e34) rfl (by decide) lkX8_97 ⟨Nat.le_of_ble_eq_true rfl, Nat.le_of_ble_eq_true rfl⟩ ⟨Nat.le_of_ble_eq_true rfl, Nat.le_of_ble_eq_true rfl⟩ [] rfl (Nat.le_of_ble_eq_true rfl) dX8_readField_75 rfl (fun H locs hM => ?_)
        refine r_iconst (np := 79) G 1 dX8_readField_78 rfl ?_
        exact r_zret G hr hk hM (Or.inr rfl) hm dX8_readField_79
      · have hm := b_t h29 hm
        refine r_iconst (np := 66) G 0 dX8_readField_65 rfl ?_
        exact r_zret G hr hk hM (Or.inl rfl) hm dX8_readField_66
    · have hm := b_t h15 hm
      refine r_aload_n (np := 34) G hl 1 rfl dX8_readField_33 rfl rfl ?_
      refine r_iconst (np := 35) G 4 dX8_readField_34 rfl ?_
      obtain ⟨b35, s36, e37, hm⟩ := call_t hm
      refine m_callVI (np := 38) G hM hl.1 [vI 4] (qX8_refuse l E s13 v0 4 _ e37) myX8_refuse (shp_lt (gX8_refuse e37) (by decide)) (gX8_refuse e37) rfl (by decide) lkX8_55 ⟨Nat.le_of_ble_eq_true rfl, Nat.le_of_ble_eq_true rfl⟩ ⟨Nat.le_of_ble_eq_true rfl, Nat.le_of_ble_eq_true rfl⟩ [] rfl (Nat.le_of_ble_eq_true rfl) dX8_readField_35 rfl (fun H locs hM => ?_)
      obtain ⟨g38, hm⟩ := g_t hm
      exact r_zret G hr hk hM g38 hm dX8_readField_38
  · have hm := b_t h6 hm
    refine r_aload_n (np := 12) G hl 0 rfl dX8_readField_11 rfl rfl ?_
    refine r_iconst (np := 13) G 1 dX8_readField_12 rfl ?_
    obtain ⟨b39, s40, e41, hm⟩ := call_t hm
    refine m_callVI (np := 16) G hM hl.1 [vI 1] (qX8_refuse l E s4 v0 1 _ e41) myX8_refuse (shp_lt (gX8_refuse e41) (by decide)) (gX8_refuse e41) rfl (by decide) lkX8_55 ⟨Nat.le_of_ble_eq_true rfl, Nat.le_of_ble_eq_true rfl⟩ ⟨Nat.le_of_ble_eq_true rfl, Nat.le_of_ble_eq_true rfl⟩ [] rfl (Nat.le_of_ble_eq_true rfl) dX8_readField_13 rfl (fun H locs hM => ?_)
    obtain ⟨g42, hm⟩ := g_t hm
    exact r_zret G hr hk hM g42 hm dX8_readField_16
theorem gX8_readField {v0 : Nat} {σ : mSt} {out : Int × mSt} (hm : mX8_readField v0 σ = some out) : isC v0 7 := (g_t hm).1
set_option maxRecDepth 100000 in
set_option maxHeartbeats 4000000 in
theorem wX8_isSign_B22 (l : Launch) (E : mE) (out : Int × mSt) {p : Program} {e : Env} {s : State} {m : MethodId} {args : Array Value} {below : List Frame} {meth : Method} {c : Code} (G : CallFix p m c cX8_isSign 1 s args mTs RX8) (hr : meth.sig.returnType = (some .boolean)) (hk : meth.locks = false) (v0 : Nat) (g0 : isC v0 7) : ∀ (σ : mSt) (H : Heap) (locs : List Loc) (ls : Array Slot), mX8_isSign_B22 v0 σ = some out → mM (mA E 257) E 257 σ s H locs → lv_has ls 1 [] → mGo l p e 1 21 s m args below meth c E (some (vI out.1)) out.2 H locs (F0 m 22 ls []) := by
  intro σ H locs ls hm hM hl
  unfold mX8_isSign_B22 at hm
  refine r_iconst (np := 23) G 1 dX8_isSign_22 rfl ?_
  refine r_goto (np := 27) G dX8_isSign_23 (by decide) ?_
  exact r_zret G hr hk hM (Or.inr rfl) hm dX8_isSign_27
set_option maxRecDepth 100000 in
set_option maxHeartbeats 4000000 in
theorem qX8_isSign (l : Launch) (E : mE) (σ : mSt) (v0 : Nat) (out : Int × mSt) (hm : mX8_isSign v0 σ = some out) : mMet l yX8_isSign cX8_isSign 1 (some .boolean) 1 21 E 257 [.ref (eA E v0)] σ (some (vI out.1)) out.2 := by
  unfold mX8_isSign at hm
  obtain ⟨g0, hm⟩ := g_t hm
  refine m_entry (by decide +kernel) (Nat.le_of_ble_eq_true rfl) (fun p e s m args below meth c G hr hk hM ls hl => ?_)
  have G : CallFix p m c cX8_isSign 1 s args mTs RX8 := G
  have hl : lv_has ls 1 [(0, .ref (eA E v0))] := hl
  refine r_aload_n (np := 1) G hl 0 rfl dX8_isSign_0 rfl rfl ?_
  obtain ⟨r1, e2, hm⟩ := ref_t hm
  refine r_getR (np := 4) G hM (shp_lt g0 (by decide)) g0 e2 fdX8_0 lkX8_12 dX8_isSign_1 rfl ?_
  refine r_iconst (np := 5) G 3 dX8_isSign_4 rfl ?_
  obtain ⟨b3, s4, e5, hm⟩ := call_t hm
  refine m_callVI (np := 8) G hM hl.1 [vI 3] (qX10_is l E σ r1 3 _ e5) myX10_is (shp_lt (gX10_is e5) (by decide)) (gX10_is e5) rfl (by decide) lkX8_44 ⟨Nat.le_of_ble_eq_true rfl, Nat.le_of_ble_eq_true rfl⟩ ⟨Nat.le_of_ble_eq_true rfl, Nat.le_of_ble_eq_true rfl⟩ [] rfl (Nat.le_of_ble_eq_true rfl) dX8_isSign_5 rfl (fun H locs hM => ?_)
  refine r_if_ne (np := 11) (tgt := 22) G rfl dX8_isSign_8 (by decide) rfl (fun h6 => ?_) (fun h6 => ?_)
  · have hm := b_f h6 hm
    exact wX8_isSign_B22 l E out G hr hk v0 g0 _ _ _ _ hm hM (lv_sub hl [] rfl)
  · have hm := b_t h6 hm
    refine r_aload_n (np := 12) G hl 0 rfl dX8_isSign_11 rfl rfl ?_
    obtain ⟨r7, e8, hm⟩ := ref_t hm
    refine r_getR (np := 15) G hM (shp_lt g0 (by decide)) g0 e8 fdX8_0 lkX8_12 dX8_isSign_12 rfl ?_
    refine r_iconst (np := 16) G 4 dX8_isSign_15 rfl ?_
    obtain ⟨b9, s10, e11, hm⟩ := call_t hm
    refine m_callVI (np := 19) G hM hl.1 [vI 4] (qX10_is l E s4 r7 4 _ e11) myX10_is (shp_lt (gX10_is e11) (by decide)) (gX10_is e11) rfl (by decide) lkX8_44 ⟨Nat.le_of_ble_eq_true rfl, Nat.le_of_ble_eq_true rfl⟩ ⟨Nat.le_of_ble_eq_true rfl, Nat.le_of_ble_eq_true rfl⟩ [] rfl (Nat.le_of_ble_eq_true rfl) dX8_isSign_16 rfl (fun H locs hM => ?_)
    refine r_if_eq (np := 22) (tgt := 26) G rfl dX8_isSign_19 (by decide) rfl (fun h12 => ?_) (fun h12 => ?_)
    · have hm := b_t h12 hm
      refine r_iconst (np := 27) G 0 dX8_isSign_26 rfl ?_
      exact r_zret G hr hk hM (Or.inl rfl) hm dX8_isSign_27
    · have hm := b_f h12 hm
      exact wX8_isSign_B22 l E out G hr hk v0 g0 _ _ _ _ hm hM (lv_sub hl [] rfl)
theorem gX8_isSign {v0 : Nat} {σ : mSt} {out : Int × mSt} (hm : mX8_isSign v0 σ = some out) : isC v0 7 := (g_t hm).1
set_option maxRecDepth 100000 in
set_option maxHeartbeats 4000000 in
theorem wX9_solve_B138 (l : Launch) (E : mE) (out : Int × mSt) {p : Program} {e : Env} {s : State} {m : MethodId} {args : Array Value} {below : List Frame} {meth : Method} {c : Code} (G : CallFix p m c cX9_solve 7 s args mTs RX9) (hr : meth.sig.returnType = (some .boolean)) (hk : meth.locks = false) (v0 : Nat) (v1 : Int) (v3 : Int) (g0 : isC v0 8) : ∀ (σ : mSt) (H : Heap) (locs : List Loc) (ls : Array Slot), mX9_solve_B138 v0 v1 v3 σ = some out → mM (mA E 257) E 257 σ s H locs → lv_has ls 7 [] → mGo l p e 1 27 s m args below meth c E (some (vI out.1)) out.2 H locs (F0 m 138 ls []) := by
  intro σ H locs ls hm hM hl
  unfold mX9_solve_B138 at hm
  refine r_iconst (np := 139) G 0 dX9_solve_138 rfl ?_
  exact r_zret G hr hk hM (Or.inl rfl) hm dX9_solve_139
set_option maxRecDepth 100000 in
set_option maxHeartbeats 4000000 in
theorem wX9_solve_B125 (l : Launch) (E : mE) (out : Int × mSt) {p : Program} {e : Env} {s : State} {m : MethodId} {args : Array Value} {below : List Frame} {meth : Method} {c : Code} (G : CallFix p m c cX9_solve 7 s args mTs RX9) (hr : meth.sig.returnType = (some .boolean)) (hk : meth.locks = false) (v0 : Nat) (v1 : Int) (v3 : Int) (g0 : isC v0 8) (c15 : mSt → Option (Int × mSt)) (x138 : mSt → Option (Int × mSt)) (hc15 : ∀ (σ : mSt) (H : Heap) (locs : List Loc) (ls : Array Slot), c15 σ = some out → mM (mA E 257) E 257 σ s H locs → lv_has ls 7 [(0, .ref (eA E v0))] → mGo l p e 1 27 s m args below meth c E (some (vI out.1)) out.2 H locs (F0 m 15 ls [])) (hx138 : ∀ (σ : mSt) (H : Heap) (locs : List Loc) (ls : Array Slot), x138 σ = some out → mM (mA E 257) E 257 σ s H locs → lv_has ls 7 [] → mGo l p e 1 27 s m args below meth c E (some (vI out.1)) out.2 H locs (F0 m 138 ls [])) : ∀ (σ : mSt) (H : Heap) (locs : List Loc) (ls : Array Slot), mX9_solve_B125 v0 v1 v3 c15 x138 σ = some out → mM (mA E 257) E 257 σ s H locs → lv_has ls 7 [(0, .ref (eA E v0))] → mGo l p e 1 27 s m args below meth c E (some (vI out.1)) out.2 H locs (F0 m 125 ls []) := by
  intro σ H locs ls hm hM hl
  unfold mX9_solve_B125 at hm
  refine r_aload_n (np := 126) G hl 0 rfl dX9_solve_125 rfl rfl ?_
  refine r_dup (np := 127) G dX9_solve_126 rfl rfl ?_
  refine r_getL (np := 130) G hM (shp_lt g0 (by decide)) g0 fdX9_4 lkX9_22 dX9_solve_127 rfl ?_
  refine r_lconst (np := 131) G 1 dX9_solve_130 rfl rfl ?_
  refine r_ladd (np := 132) G dX9_solve_131 rfl ?_
  obtain ⟨s1, e2, hm⟩ := bnd_t hm
  refine r_putL (np := 135) G hM (shp_lt g0 (by decide)) g0 ptX9_4 rfl lkX9_22 s1 e2 dX9_solve_132 rfl (fun H locs hM => ?_)
  refine r_goto (np := 15) G dX9_solve_135 (by decide) ?_
  exact hc15 _ _ _ _ hm hM (lv_sub hl [0] rfl)
set_option maxRecDepth 100000 in
set_option maxHeartbeats 4000000 in
theorem wX9_solve_L44 (l : Launch) (E : mE) (out : Int × mSt) {p : Program} {e : Env} {s : State} {m : MethodId} {args : Array Value} {below : List Frame} {meth : Method} {c : Code} (G : CallFix p m c cX9_solve 7 s args mTs RX9) (hr : meth.sig.returnType = (some .boolean)) (hk : meth.locks = false) (v0 : Nat) (v1 : Int) (v3 : Int) (g0 : isC v0 8) (x125 : mSt → Option (Int × mSt)) (hx125 : ∀ (σ : mSt) (H : Heap) (locs : List Loc) (ls : Array Slot), x125 σ = some out → mM (mA E 257) E 257 σ s H locs → lv_has ls 7 [(0, .ref (eA E v0))] → mGo l p e 1 27 s m args below meth c E (some (vI out.1)) out.2 H locs (F0 m 125 ls [])) : ∀ (n : Nat) (σ : mSt) (H : Heap) (locs : List Loc) (ls : Array Slot), mX9_solve_L44 v0 v1 v3 x125 n σ = some out → mM (mA E 257) E 257 σ s H locs → lv_has ls 7 [(0, .ref (eA E v0))] → mGo l p e 1 27 s m args below meth c E (some (vI out.1)) out.2 H locs (F0 m 44 ls []) := by
  intro n
  induction n with
  | zero =>
    intro σ H locs ls hm hM hl
    exact absurd hm (by rw [mX9_solve_L44.eq_1]; exact fun h => nomatch h)
  | succ n ih =>
    intro σ H locs ls hm hM hl
    rw [mX9_solve_L44.eq_2] at hm
    refine r_aload_n (np := 45) G hl 0 rfl dX9_solve_44 rfl rfl ?_
    refine r_getL (np := 48) G hM (shp_lt g0 (by decide)) g0 fdX9_3 lkX9_19 dX9_solve_45 rfl ?_
    refine r_ldc2 (np := 51) G 7 dX9_solve_48 lkX9_25 rfl rfl ?_
    refine r_lcmp_gt (np := 55) (tgt := 125) G rfl (wLk 7 rfl) dX9_solve_51 dX9_solve_52 (by decide) rfl (fun h3 => ?_) (fun h3 => ?_)
    · have hm := b_t h3 hm
      exact hx125 _ _ _ _ hm hM (lv_sub hl [0] rfl)
    · have hm := b_f h3 hm
      refine r_aload_n (np := 56) G hl 0 rfl dX9_solve_55 rfl rfl ?_
      refine r_getL (np := 59) G hM (shp_lt g0 (by decide)) g0 fdX9_0 lkX9_7 dX9_solve_56 rfl ?_
      refine r_aload_n (np := 60) G hl 0 rfl dX9_solve_59 rfl rfl ?_
      refine r_getL (np := 63) G hM (shp_lt g0 (by decide)) g0 fdX9_3 lkX9_19 dX9_solve_60 rfl ?_
      refine r_lmul (np := 64) G dX9_solve_63 rfl ?_
      refine r_aload_n (np := 65) G hl 0 rfl dX9_solve_64 rfl rfl ?_
      refine r_getL (np := 68) G hM (shp_lt g0 (by decide)) g0 fdX9_3 lkX9_19 dX9_solve_65 rfl ?_
      refine r_lmul (np := 69) G dX9_solve_68 rfl ?_
      refine r_aload_n (np := 70) G hl 0 rfl dX9_solve_69 rfl rfl ?_
      refine r_getL (np := 73) G hM (shp_lt g0 (by decide)) g0 fdX9_1 lkX9_13 dX9_solve_70 rfl ?_
      refine r_aload_n (np := 74) G hl 0 rfl dX9_solve_73 rfl rfl ?_
      refine r_getL (np := 77) G hM (shp_lt g0 (by decide)) g0 fdX9_4 lkX9_22 dX9_solve_74 rfl ?_
      refine r_lmul (np := 78) G dX9_solve_77 rfl ?_
      refine r_aload_n (np := 79) G hl 0 rfl dX9_solve_78 rfl rfl ?_
      refine r_getL (np := 82) G hM (shp_lt g0 (by decide)) g0 fdX9_4 lkX9_22 dX9_solve_79 rfl ?_
      refine r_lmul (np := 83) G dX9_solve_82 rfl ?_
      refine r_ladd (np := 84) G dX9_solve_83 rfl ?_
      obtain ⟨a4, e5, hm⟩ := bnd_t hm
      refine r_lstore (np := 86) G hl e5 [(5, vL a4), (0, .ref (eA E v0))] dX9_solve_84 rfl (by decide) rfl (fun ls hl => ?_)
      refine r_aload_n (np := 87) G hl 1 rfl dX9_solve_86 rfl rfl ?_
      refine r_lload (np := 89) G hl 0 rfl dX9_solve_87 rfl ?_
      obtain ⟨b6, s7, e8, hm⟩ := call_t hm
      refine m_callSL (np := 92) G hM hl.1 [vL a4] (qX5_root l E σ a4 _ e8) myX5_root lkX9_27 ⟨Nat.le_of_ble_eq_true rfl, Nat.le_of_ble_eq_true rfl⟩ ⟨Nat.le_of_ble_eq_true rfl, Nat.le_of_ble_eq_true rfl⟩ [.ref (eA E v0)] rfl (Nat.le_of_ble_eq_true rfl) dX9_solve_89 rfl (fun H locs hM => ?_)
      obtain ⟨s9, e10, hm⟩ := bnd_t hm
      refine r_putL (np := 95) G hM (shp_lt g0 (by decide)) g0 ptX9_2 rfl lkX9_16 s9 e10 dX9_solve_92 rfl (fun H locs hM => ?_)
      refine r_aload_n (np := 96) G hl 1 rfl dX9_solve_95 rfl rfl ?_
      refine r_getL (np := 99) G hM (shp_lt g0 (by decide)) g0 fdX9_2 lkX9_16 dX9_solve_96 rfl ?_
      refine r_aload_n (np := 100) G hl 1 rfl dX9_solve_99 rfl rfl ?_
      refine r_getL (np := 103) G hM (shp_lt g0 (by decide)) g0 fdX9_2 lkX9_16 dX9_solve_100 rfl ?_
      refine r_lmul (np := 104) G dX9_solve_103 rfl ?_
      refine r_lload (np := 106) G hl 0 rfl dX9_solve_104 rfl ?_
      refine r_lcmp_ne (np := 110) (tgt := 112) G rfl rfl dX9_solve_106 dX9_solve_107 (by decide) rfl (fun h11 => ?_) (fun h11 => ?_)
      · have hm := b_f h11 hm
        refine r_aload_n (np := 113) G hl 1 rfl dX9_solve_112 rfl rfl ?_
        refine r_dup (np := 114) G dX9_solve_113 rfl rfl ?_
        refine r_getL (np := 117) G hM (shp_lt g0 (by decide)) g0 fdX9_3 lkX9_19 dX9_solve_114 rfl ?_
        refine r_lconst (np := 118) G 1 dX9_solve_117 rfl rfl ?_
        refine r_ladd (np := 119) G dX9_solve_118 rfl ?_
        obtain ⟨s12, e13, hm⟩ := bnd_t hm
        refine r_putL (np := 122) G hM (shp_lt g0 (by decide)) g0 ptX9_3 rfl lkX9_19 s12 e13 dX9_solve_119 rfl (fun H locs hM => ?_)
        refine r_goto (np := 44) G dX9_solve_122 (by decide) ?_
        exact ih _ _ _ _ hm hM (lv_sub hl [1] rfl)
      · have hm := b_t h11 hm
        refine r_iconst (np := 111) G 1 dX9_solve_110 rfl ?_
        exact r_zret G hr hk hM (Or.inr rfl) hm dX9_solve_111
set_option maxRecDepth 100000 in
set_option maxHeartbeats 4000000 in
theorem wX9_solve_B41 (l : Launch) (E : mE) (out : Int × mSt) {p : Program} {e : Env} {s : State} {m : MethodId} {args : Array Value} {below : List Frame} {meth : Method} {c : Code} (G : CallFix p m c cX9_solve 7 s args mTs RX9) (hr : meth.sig.returnType = (some .boolean)) (hk : meth.locks = false) (v0 : Nat) (v1 : Int) (v3 : Int) (g0 : isC v0 8) (c15 : mSt → Option (Int × mSt)) (x138 : mSt → Option (Int × mSt)) (hc15 : ∀ (σ : mSt) (H : Heap) (locs : List Loc) (ls : Array Slot), c15 σ = some out → mM (mA E 257) E 257 σ s H locs → lv_has ls 7 [(0, .ref (eA E v0))] → mGo l p e 1 27 s m args below meth c E (some (vI out.1)) out.2 H locs (F0 m 15 ls [])) (hx138 : ∀ (σ : mSt) (H : Heap) (locs : List Loc) (ls : Array Slot), x138 σ = some out → mM (mA E 257) E 257 σ s H locs → lv_has ls 7 [] → mGo l p e 1 27 s m args below meth c E (some (vI out.1)) out.2 H locs (F0 m 138 ls [])) : ∀ (t0 : Nat) (t1 : Int) (σ : mSt) (H : Heap) (locs : List Loc) (ls : Array Slot), mX9_solve_B41 v0 v1 v3 c15 x138 t0 t1 σ = some out → mM (mA E 257) E 257 σ s H locs → lv_has ls 7 [(0, .ref (eA E v0))] → mGo l p e 1 27 s m args below meth c E (some (vI out.1)) out.2 H locs (F0 m 41 ls [vL t1, .ref (eA E t0)]) := by
  intro t0 t1 σ H locs ls hm hM hl
  unfold mX9_solve_B41 at hm
  obtain ⟨g14, hm⟩ := g_t hm
  obtain ⟨s15, e16, hm⟩ := bnd_t hm
  refine r_putL (np := 44) G hM (shp_lt g14 (by decide)) g14 ptX9_3 rfl lkX9_19 s15 e16 dX9_solve_41 rfl (fun H locs hM => ?_)
  exact wX9_solve_L44 l E out G hr hk v0 v1 v3 g0 (fun zσ => mX9_solve_B125 v0 v1 v3 c15 x138 zσ) (fun zσ zH zl zs zm zM zv => wX9_solve_B125 l E out G hr hk v0 v1 v3 g0 c15 x138 hc15 hx138 zσ zH zl zs zm zM zv) mF _ _ _ _ hm hM (lv_sub hl [0] rfl)
set_option maxRecDepth 100000 in
set_option maxHeartbeats 4000000 in
theorem wX9_solve_L15 (l : Launch) (E : mE) (out : Int × mSt) {p : Program} {e : Env} {s : State} {m : MethodId} {args : Array Value} {below : List Frame} {meth : Method} {c : Code} (G : CallFix p m c cX9_solve 7 s args mTs RX9) (hr : meth.sig.returnType = (some .boolean)) (hk : meth.locks = false) (v0 : Nat) (v1 : Int) (v3 : Int) (g0 : isC v0 8) (x138 : mSt → Option (Int × mSt)) (hx138 : ∀ (σ : mSt) (H : Heap) (locs : List Loc) (ls : Array Slot), x138 σ = some out → mM (mA E 257) E 257 σ s H locs → lv_has ls 7 [] → mGo l p e 1 27 s m args below meth c E (some (vI out.1)) out.2 H locs (F0 m 138 ls [])) : ∀ (n : Nat) (σ : mSt) (H : Heap) (locs : List Loc) (ls : Array Slot), mX9_solve_L15 v0 v1 v3 x138 n σ = some out → mM (mA E 257) E 257 σ s H locs → lv_has ls 7 [(0, .ref (eA E v0))] → mGo l p e 1 27 s m args below meth c E (some (vI out.1)) out.2 H locs (F0 m 15 ls []) := by
  intro n
  induction n with
  | zero =>
    intro σ H locs ls hm hM hl
    exact absurd hm (by rw [mX9_solve_L15.eq_1]; exact fun h => nomatch h)
  | succ n ih =>
    intro σ H locs ls hm hM hl
    rw [mX9_solve_L15.eq_2] at hm
    refine r_aload_n (np := 16) G hl 0 rfl dX9_solve_15 rfl rfl ?_
    refine r_getL (np := 19) G hM (shp_lt g0 (by decide)) g0 fdX9_4 lkX9_22 dX9_solve_16 rfl ?_
    refine r_ldc2 (np := 22) G 7 dX9_solve_19 lkX9_25 rfl rfl ?_
    refine r_lcmp_gt (np := 26) (tgt := 138) G rfl (wLk 7 rfl) dX9_solve_22 dX9_solve_23 (by decide) rfl (fun h17 => ?_) (fun h17 => ?_)
    · have hm := b_t h17 hm
      exact hx138 _ _ _ _ hm hM (lv_sub hl [] rfl)
    · have hm := b_f h17 hm
      refine r_aload_n (np := 27) G hl 0 rfl dX9_solve_26 rfl rfl ?_
      refine r_aload_n (np := 28) G hl 0 rfl dX9_solve_27 rfl rfl ?_
      refine r_getL (np := 31) G hM (shp_lt g0 (by decide)) g0 fdX9_4 lkX9_22 dX9_solve_28 rfl ?_
      refine r_lconst (np := 32) G 0 dX9_solve_31 rfl rfl ?_
      refine r_lcmp_ne (np := 36) (tgt := 40) G rfl (wLk 0 rfl) dX9_solve_32 dX9_solve_33 (by decide) rfl (fun h18 => ?_) (fun h18 => ?_)
      · have hm := b_f h18 hm
        refine r_lconst (np := 41) G 0 dX9_solve_40 rfl rfl ?_
        exact wX9_solve_B41 l E out G hr hk v0 v1 v3 g0 (mX9_solve_L15 v0 v1 v3 x138 n) x138 ih hx138 v0 0 _ _ _ _ hm hM (lv_sub hl [0] rfl)
      · have hm := b_t h18 hm
        refine r_lconst (np := 37) G 1 dX9_solve_36 rfl rfl ?_
        refine r_goto (np := 41) G dX9_solve_37 (by decide) ?_
        exact wX9_solve_B41 l E out G hr hk v0 v1 v3 g0 (mX9_solve_L15 v0 v1 v3 x138 n) x138 ih hx138 v0 1 _ _ _ _ hm hM (lv_sub hl [0] rfl)
set_option maxRecDepth 100000 in
set_option maxHeartbeats 4000000 in
theorem qX9_solve (l : Launch) (E : mE) (σ : mSt) (v0 : Nat) (v1 : Int) (v3 : Int) (out : Int × mSt) (hm : mX9_solve v0 v1 v3 σ = some out) : mMet l yX9_solve cX9_solve 7 (some .boolean) 1 27 E 257 [.ref (eA E v0), vL v1, vL v3] σ (some (vI out.1)) out.2 := by
  unfold mX9_solve at hm
  obtain ⟨g0, hm⟩ := g_t hm
  refine m_entry (by decide +kernel) (Nat.le_of_ble_eq_true rfl) (fun p e s m args below meth c G hr hk hM ls hl => ?_)
  have G : CallFix p m c cX9_solve 7 s args mTs RX9 := G
  have hl : lv_has ls 7 [(0, .ref (eA E v0)), (1, vL v1), (3, vL v3)] := hl
  refine r_aload_n (np := 1) G hl 0 rfl dX9_solve_0 rfl rfl ?_
  refine r_lload_n (np := 2) G hl 1 rfl dX9_solve_1 rfl rfl ?_
  obtain ⟨s19, e20, hm⟩ := bnd_t hm
  refine r_putL (np := 5) G hM (shp_lt g0 (by decide)) g0 ptX9_0 rfl lkX9_7 s19 e20 dX9_solve_2 rfl (fun H locs hM => ?_)
  refine r_aload_n (np := 6) G hl 0 rfl dX9_solve_5 rfl rfl ?_
  refine r_lload_n (np := 7) G hl 2 rfl dX9_solve_6 rfl rfl ?_
  obtain ⟨s21, e22, hm⟩ := bnd_t hm
  refine r_putL (np := 10) G hM (shp_lt g0 (by decide)) g0 ptX9_1 rfl lkX9_13 s21 e22 dX9_solve_7 rfl (fun H locs hM => ?_)
  refine r_aload_n (np := 11) G hl 0 rfl dX9_solve_10 rfl rfl ?_
  refine r_lconst (np := 12) G 0 dX9_solve_11 rfl rfl ?_
  obtain ⟨s23, e24, hm⟩ := bnd_t hm
  refine r_putL (np := 15) G hM (shp_lt g0 (by decide)) g0 ptX9_4 rfl lkX9_22 s23 e24 dX9_solve_12 rfl (fun H locs hM => ?_)
  exact wX9_solve_L15 l E out G hr hk v0 v1 v3 g0 (fun zσ => mX9_solve_B138 v0 v1 v3 zσ) (fun zσ zH zl zs zm zM zv => wX9_solve_B138 l E out G hr hk v0 v1 v3 g0 zσ zH zl zs zm zM zv) mF _ _ _ _ hm hM (lv_sub hl [0] rfl)
theorem gX9_solve {v0 : Nat} {v1 : Int} {v3 : Int} {σ : mSt} {out : Int × mSt} (hm : mX9_solve v0 v1 v3 σ = some out) : isC v0 8 := (g_t hm).1
set_option maxRecDepth 100000 in
set_option maxHeartbeats 4000000 in
theorem qX9_part (l : Launch) (E : mE) (σ : mSt) (v0 : Nat) (v1 : Int) (out : Int × mSt) (hm : mX9_part v0 v1 σ = some out) : mMet l yX9_part cX9_part 2 (some .int) 0 0 E 257 [.ref (eA E v0), vI v1] σ (some (vI out.1)) out.2 := by
  unfold mX9_part at hm
  obtain ⟨g0, hm⟩ := g_t hm
  refine m_entry (by decide +kernel) (Nat.le_of_ble_eq_true rfl) (fun p e s m args below meth c G hr hk hM ls hl => ?_)
  have G : CallFix p m c cX9_part 2 s args mTs RX9 := G
  have hl : lv_has ls 2 [(0, .ref (eA E v0)), (1, vI v1)] := hl
  refine r_iload_n (np := 1) G hl 1 rfl dX9_part_0 rfl rfl ?_
  refine r_if_ne (np := 4) (tgt := 11) G rfl dX9_part_1 (by decide) rfl (fun h1 => ?_) (fun h1 => ?_)
  · have hm := b_f h1 hm
    refine r_iload_n (np := 12) G hl 1 rfl dX9_part_11 rfl rfl ?_
    refine r_iconst (np := 13) G 1 dX9_part_12 rfl ?_
    refine r_icmp_ne (np := 16) (tgt := 23) G rfl (wIk 1 rfl) dX9_part_13 (by decide) rfl (fun h2 => ?_) (fun h2 => ?_)
    · have hm := b_f h2 hm
      refine r_aload_n (np := 24) G hl 0 rfl dX9_part_23 rfl rfl ?_
      refine r_getL (np := 27) G hM (shp_lt g0 (by decide)) g0 fdX9_4 lkX9_22 dX9_part_24 rfl ?_
      refine r_l2i (np := 28) G dX9_part_27 rfl ?_
      exact r_iret G hr hk hM hm dX9_part_28
    · have hm := b_t h2 hm
      refine r_aload_n (np := 17) G hl 0 rfl dX9_part_16 rfl rfl ?_
      refine r_getL (np := 20) G hM (shp_lt g0 (by decide)) g0 fdX9_3 lkX9_19 dX9_part_17 rfl ?_
      refine r_goto (np := 27) G dX9_part_20 (by decide) ?_
      refine r_l2i (np := 28) G dX9_part_27 rfl ?_
      exact r_iret G hr hk hM hm dX9_part_28
  · have hm := b_t h1 hm
    refine r_aload_n (np := 5) G hl 0 rfl dX9_part_4 rfl rfl ?_
    refine r_getL (np := 8) G hM (shp_lt g0 (by decide)) g0 fdX9_2 lkX9_16 dX9_part_5 rfl ?_
    refine r_goto (np := 27) G dX9_part_8 (by decide) ?_
    refine r_l2i (np := 28) G dX9_part_27 rfl ?_
    exact r_iret G hr hk hM hm dX9_part_28
theorem gX9_part {v0 : Nat} {v1 : Int} {σ : mSt} {out : Int × mSt} (hm : mX9_part v0 v1 σ = some out) : isC v0 8 := (g_t hm).1
set_option maxRecDepth 100000 in
set_option maxHeartbeats 4000000 in
theorem wX11_putBytes_B46 (l : Launch) (E : mE) (out : Int × mSt) {p : Program} {e : Env} {s : State} {m : MethodId} {args : Array Value} {below : List Frame} {meth : Method} {c : Code} (G : CallFix p m c cX11_putBytes 3 s args mTs RX11) (hr : meth.sig.returnType = none) (hk : meth.locks = false) (v0 : Nat) (v1 : Int) (g0 : isC v0 10) : ∀ (σ : mSt) (H : Heap) (locs : List Loc) (ls : Array Slot), mX11_putBytes_B46 v0 v1 σ = some out → mM (mA E 257) E 257 σ s H locs → lv_has ls 3 [] → mGo l p e 0 0 s m args below meth c E none out.2 H locs (F0 m 46 ls []) := by
  intro σ H locs ls hm hM hl
  unfold mX11_putBytes_B46 at hm
  exact r_vret G hr hk hM hm dX11_putBytes_46
set_option maxRecDepth 100000 in
set_option maxHeartbeats 4000000 in
theorem wX11_putBytes_L3 (l : Launch) (E : mE) (out : Int × mSt) {p : Program} {e : Env} {s : State} {m : MethodId} {args : Array Value} {below : List Frame} {meth : Method} {c : Code} (G : CallFix p m c cX11_putBytes 3 s args mTs RX11) (hr : meth.sig.returnType = none) (hk : meth.locks = false) (v0 : Nat) (v1 : Int) (g0 : isC v0 10) (x46 : mSt → Option (Int × mSt)) (hx46 : ∀ (σ : mSt) (H : Heap) (locs : List Loc) (ls : Array Slot), x46 σ = some out → mM (mA E 257) E 257 σ s H locs → lv_has ls 3 [] → mGo l p e 0 0 s m args below meth c E none out.2 H locs (F0 m 46 ls [])) : ∀ (n : Nat) (v2 : Int) (σ : mSt) (H : Heap) (locs : List Loc) (ls : Array Slot), mX11_putBytes_L3 v0 v1 x46 n v2 σ = some out → mM (mA E 257) E 257 σ s H locs → lv_has ls 3 [(0, .ref (eA E v0)), (1, vI v1), (2, vI v2)] → mGo l p e 0 0 s m args below meth c E none out.2 H locs (F0 m 3 ls []) := by
  intro n
  induction n with
  | zero =>
    intro v2 σ H locs ls hm hM hl
    exact absurd hm (by rw [mX11_putBytes_L3.eq_1]; exact fun h => nomatch h)
  | succ n ih =>
    intro v2 σ H locs ls hm hM hl
    rw [mX11_putBytes_L3.eq_2] at hm
    refine r_iload_n (np := 4) G hl 2 rfl dX11_putBytes_3 rfl rfl ?_
    refine r_if_lt (np := 7) (tgt := 46) G rfl dX11_putBytes_4 (by decide) rfl (fun h1 => ?_) (fun h1 => ?_)
    · have hm := b_t h1 hm
      exact hx46 _ _ _ _ hm hM (lv_sub hl [] rfl)
    · have hm := b_f h1 hm
      refine r_aload_n (np := 8) G hl 0 rfl dX11_putBytes_7 rfl rfl ?_
      refine r_getI (np := 11) G hM (shp_lt g0 (by decide)) g0 fdX11_1 lkX11_13 dX11_putBytes_8 rfl ?_
      refine r_sipush (np := 14) G 600 dX11_putBytes_11 (by decide) rfl ?_
      refine r_icmp_ge (np := 17) (tgt := 46) G rfl (wIk 600 rfl) dX11_putBytes_14 (by decide) rfl (fun h2 => ?_) (fun h2 => ?_)
      · have hm := b_t h2 hm
        exact hx46 _ _ _ _ hm hM (lv_sub hl [] rfl)
      · have hm := b_f h2 hm
        refine r_aload_n (np := 18) G hl 0 rfl dX11_putBytes_17 rfl rfl ?_
        obtain ⟨r3, e4, hm⟩ := ref_t hm
        refine r_getR (np := 21) G hM (shp_lt g0 (by decide)) g0 e4 fdX11_0 lkX11_9 dX11_putBytes_18 rfl ?_
        refine r_aload_n (np := 22) G hl 0 rfl dX11_putBytes_21 rfl rfl ?_
        refine r_getI (np := 25) G hM (shp_lt g0 (by decide)) g0 fdX11_1 lkX11_13 dX11_putBytes_22 rfl ?_
        refine r_iload_n (np := 26) G hl 1 rfl dX11_putBytes_25 rfl rfl ?_
        refine r_iload_n (np := 27) G hl 2 rfl dX11_putBytes_26 rfl rfl ?_
        refine r_ishr (np := 28) G dX11_putBytes_27 rfl ?_
        refine r_i2b (np := 29) G dX11_putBytes_28 rfl ?_
        obtain ⟨g5, hm⟩ := g_t hm
        obtain ⟨g6, hm⟩ := g_t hm
        obtain ⟨s7, e8, hm⟩ := bnd_t hm
        refine r_bastore (np := 30) G hM g5 rfl g6 s7 e8 dX11_putBytes_29 rfl (fun H locs hM => ?_)
        refine r_aload_n (np := 31) G hl 0 rfl dX11_putBytes_30 rfl rfl ?_
        refine r_dup (np := 32) G dX11_putBytes_31 rfl rfl ?_
        refine r_getI (np := 35) G hM (shp_lt g0 (by decide)) g0 fdX11_1 lkX11_13 dX11_putBytes_32 rfl ?_
        refine r_iconst (np := 36) G 1 dX11_putBytes_35 rfl ?_
        refine r_iadd (np := 37) G dX11_putBytes_36 rfl ?_
        obtain ⟨s9, e10, hm⟩ := bnd_t hm
        refine r_putI (np := 40) G hM (shp_lt g0 (by decide)) g0 ptX11_1 rfl lkX11_13 s9 e10 dX11_putBytes_37 rfl (fun H locs hM => ?_)
        obtain ⟨a11, e12, hm⟩ := bnd_t hm
        refine r_iinc (np := 43) G hl 2 rfl e12 [(2, vI a11), (0, .ref (eA E v0)), (1, vI v1)] dX11_putBytes_40 rfl (by decide) rfl (fun ls hl => ?_)
        refine r_goto (np := 3) G dX11_putBytes_43 (by decide) ?_
        exact ih a11 _ _ _ _ hm hM (lv_sub hl [1, 2, 0] rfl)
set_option maxRecDepth 100000 in
set_option maxHeartbeats 4000000 in
theorem qX11_putBytes (l : Launch) (E : mE) (σ : mSt) (v0 : Nat) (v1 : Int) (out : Int × mSt) (hm : mX11_putBytes v0 v1 σ = some out) : mMet l yX11_putBytes cX11_putBytes 3 none 0 0 E 257 [.ref (eA E v0), vI v1] σ none out.2 := by
  unfold mX11_putBytes at hm
  obtain ⟨g0, hm⟩ := g_t hm
  refine m_entry (by decide +kernel) (Nat.le_of_ble_eq_true rfl) (fun p e s m args below meth c G hr hk hM ls hl => ?_)
  have G : CallFix p m c cX11_putBytes 3 s args mTs RX11 := G
  have hl : lv_has ls 3 [(0, .ref (eA E v0)), (1, vI v1)] := hl
  refine r_bipush (np := 2) G 24 dX11_putBytes_0 (by decide) rfl ?_
  refine r_istore_n (np := 3) G hl rfl [(2, vI 24), (0, .ref (eA E v0)), (1, vI v1)] dX11_putBytes_2 rfl rfl (by decide) rfl (fun ls hl => ?_)
  exact wX11_putBytes_L3 l E out G hr hk v0 v1 g0 (fun zσ => mX11_putBytes_B46 v0 v1 zσ) (fun zσ zH zl zs zm zM zv => wX11_putBytes_B46 l E out G hr hk v0 v1 g0 zσ zH zl zs zm zM zv) mF 24 _ _ _ _ hm hM (lv_sub hl [1, 2, 0] rfl)
theorem gX11_putBytes {v0 : Nat} {v1 : Int} {σ : mSt} {out : Int × mSt} (hm : mX11_putBytes v0 v1 σ = some out) : isC v0 10 := (g_t hm).1
set_option maxRecDepth 100000 in
set_option maxHeartbeats 4000000 in
theorem qX11_feed (l : Launch) (E : mE) (σ : mSt) (v0 : Nat) (v1 : Int) (v2 : Int) (v3 : Int) (v4 : Int) (v5 : Int) (out : Int × mSt) (hm : mX11_feed v0 v1 v2 v3 v4 v5 σ = some out) : mMet l yX11_feed cX11_feed 6 (some .int) 1 22 E 257 [.ref (eA E v0), vI v1, vI v2, vI v3, vI v4, vI v5] σ (some (vI out.1)) out.2 := by
  unfold mX11_feed at hm
  obtain ⟨g0, hm⟩ := g_t hm
  refine m_entry (by decide +kernel) (Nat.le_of_ble_eq_true rfl) (fun p e s m args below meth c G hr hk hM ls hl => ?_)
  have G : CallFix p m c cX11_feed 6 s args mTs RX11 := G
  have hl : lv_has ls 6 [(0, .ref (eA E v0)), (1, vI v1), (2, vI v2), (3, vI v3), (4, vI v4), (5, vI v5)] := hl
  refine r_aload_n (np := 1) G hl 0 rfl dX11_feed_0 rfl rfl ?_
  refine r_getI (np := 4) G hM (shp_lt g0 (by decide)) g0 fdX11_1 lkX11_13 dX11_feed_1 rfl ?_
  refine r_bipush (np := 6) G 20 dX11_feed_4 (by decide) rfl ?_
  refine r_iadd (np := 7) G dX11_feed_6 rfl ?_
  refine r_sipush (np := 10) G 600 dX11_feed_7 (by decide) rfl ?_
  refine r_icmp_le (np := 13) (tgt := 15) G rfl (wIk 600 rfl) dX11_feed_10 (by decide) rfl (fun h1 => ?_) (fun h1 => ?_)
  · have hm := b_t h1 hm
    refine r_aload_n (np := 16) G hl 0 rfl dX11_feed_15 rfl rfl ?_
    refine r_iload_n (np := 17) G hl 1 rfl dX11_feed_16 rfl rfl ?_
    obtain ⟨b2, s3, e4, hm⟩ := call_t hm
    refine m_callVV (np := 20) G hM hl.1 [vI v1] (qX11_putBytes l E σ v0 v1 _ e4) myX11_putBytes (shp_lt (gX11_putBytes e4) (by decide)) (gX11_putBytes e4) rfl (by decide) lkX11_80 ⟨Nat.le_of_ble_eq_true rfl, Nat.le_of_ble_eq_true rfl⟩ ⟨Nat.le_of_ble_eq_true rfl, Nat.le_of_ble_eq_true rfl⟩ [] rfl (Nat.le_of_ble_eq_true rfl) dX11_feed_17 rfl (fun H locs hM => ?_)
    refine r_aload_n (np := 21) G hl 0 rfl dX11_feed_20 rfl rfl ?_
    refine r_iload_n (np := 22) G hl 2 rfl dX11_feed_21 rfl rfl ?_
    obtain ⟨b5, s6, e7, hm⟩ := call_t hm
    refine m_callVV (np := 25) G hM hl.1 [vI v2] (qX11_putBytes l E s3 v0 v2 _ e7) myX11_putBytes (shp_lt (gX11_putBytes e7) (by decide)) (gX11_putBytes e7) rfl (by decide) lkX11_80 ⟨Nat.le_of_ble_eq_true rfl, Nat.le_of_ble_eq_true rfl⟩ ⟨Nat.le_of_ble_eq_true rfl, Nat.le_of_ble_eq_true rfl⟩ [] rfl (Nat.le_of_ble_eq_true rfl) dX11_feed_22 rfl (fun H locs hM => ?_)
    refine r_aload_n (np := 26) G hl 0 rfl dX11_feed_25 rfl rfl ?_
    refine r_iload_n (np := 27) G hl 3 rfl dX11_feed_26 rfl rfl ?_
    obtain ⟨b8, s9, e10, hm⟩ := call_t hm
    refine m_callVV (np := 30) G hM hl.1 [vI v3] (qX11_putBytes l E s6 v0 v3 _ e10) myX11_putBytes (shp_lt (gX11_putBytes e10) (by decide)) (gX11_putBytes e10) rfl (by decide) lkX11_80 ⟨Nat.le_of_ble_eq_true rfl, Nat.le_of_ble_eq_true rfl⟩ ⟨Nat.le_of_ble_eq_true rfl, Nat.le_of_ble_eq_true rfl⟩ [] rfl (Nat.le_of_ble_eq_true rfl) dX11_feed_27 rfl (fun H locs hM => ?_)
    refine r_aload_n (np := 31) G hl 0 rfl dX11_feed_30 rfl rfl ?_
    refine r_iload (np := 33) G hl 4 rfl dX11_feed_31 rfl ?_
    obtain ⟨b11, s12, e13, hm⟩ := call_t hm
    refine m_callVV (np := 36) G hM hl.1 [vI v4] (qX11_putBytes l E s9 v0 v4 _ e13) myX11_putBytes (shp_lt (gX11_putBytes e13) (by decide)) (gX11_putBytes e13) rfl (by decide) lkX11_80 ⟨Nat.le_of_ble_eq_true rfl, Nat.le_of_ble_eq_true rfl⟩ ⟨Nat.le_of_ble_eq_true rfl, Nat.le_of_ble_eq_true rfl⟩ [] rfl (Nat.le_of_ble_eq_true rfl) dX11_feed_33 rfl (fun H locs hM => ?_)
    refine r_aload_n (np := 37) G hl 0 rfl dX11_feed_36 rfl rfl ?_
    refine r_iload (np := 39) G hl 5 rfl dX11_feed_37 rfl ?_
    obtain ⟨b14, s15, e16, hm⟩ := call_t hm
    refine m_callVV (np := 42) G hM hl.1 [vI v5] (qX11_putBytes l E s12 v0 v5 _ e16) myX11_putBytes (shp_lt (gX11_putBytes e16) (by decide)) (gX11_putBytes e16) rfl (by decide) lkX11_80 ⟨Nat.le_of_ble_eq_true rfl, Nat.le_of_ble_eq_true rfl⟩ ⟨Nat.le_of_ble_eq_true rfl, Nat.le_of_ble_eq_true rfl⟩ [] rfl (Nat.le_of_ble_eq_true rfl) dX11_feed_39 rfl (fun H locs hM => ?_)
    refine r_aload_n (np := 43) G hl 0 rfl dX11_feed_42 rfl rfl ?_
    refine r_getI (np := 46) G hM (shp_lt g0 (by decide)) g0 fdX11_1 lkX11_13 dX11_feed_43 rfl ?_
    exact r_iret G hr hk hM hm dX11_feed_46
  · have hm := b_f h1 hm
    refine r_iconst (np := 14) G (-1) dX11_feed_13 rfl ?_
    exact r_iret G hr hk hM hm dX11_feed_14
theorem gX11_feed {v0 : Nat} {v1 : Int} {v2 : Int} {v3 : Int} {v4 : Int} {v5 : Int} {σ : mSt} {out : Int × mSt} (hm : mX11_feed v0 v1 v2 v3 v4 v5 σ = some out) : isC v0 10 := (g_t hm).1
set_option maxRecDepth 100000 in
set_option maxHeartbeats 4000000 in
theorem wX11_isTold_B19 (l : Launch) (E : mE) (out : Int × mSt) {p : Program} {e : Env} {s : State} {m : MethodId} {args : Array Value} {below : List Frame} {meth : Method} {c : Code} (G : CallFix p m c cX11_isTold 2 s args mTs RX11) (hr : meth.sig.returnType = (some .boolean)) (hk : meth.locks = false) (v0 : Nat) (v1 : Int) (g0 : isC v0 10) : ∀ (σ : mSt) (H : Heap) (locs : List Loc) (ls : Array Slot), mX11_isTold_B19 v0 v1 σ = some out → mM (mA E 257) E 257 σ s H locs → lv_has ls 2 [] → mGo l p e 1 20 s m args below meth c E (some (vI out.1)) out.2 H locs (F0 m 19 ls []) := by
  intro σ H locs ls hm hM hl
  unfold mX11_isTold_B19 at hm
  refine r_iconst (np := 20) G 0 dX11_isTold_19 rfl ?_
  exact r_zret G hr hk hM (Or.inl rfl) hm dX11_isTold_20
set_option maxRecDepth 100000 in
set_option maxHeartbeats 4000000 in
theorem qX11_isTold (l : Launch) (E : mE) (σ : mSt) (v0 : Nat) (v1 : Int) (out : Int × mSt) (hm : mX11_isTold v0 v1 σ = some out) : mMet l yX11_isTold cX11_isTold 2 (some .boolean) 1 20 E 257 [.ref (eA E v0), vI v1] σ (some (vI out.1)) out.2 := by
  unfold mX11_isTold at hm
  obtain ⟨g0, hm⟩ := g_t hm
  refine m_entry (by decide +kernel) (Nat.le_of_ble_eq_true rfl) (fun p e s m args below meth c G hr hk hM ls hl => ?_)
  have G : CallFix p m c cX11_isTold 2 s args mTs RX11 := G
  have hl : lv_has ls 2 [(0, .ref (eA E v0)), (1, vI v1)] := hl
  refine r_iload_n (np := 1) G hl 1 rfl dX11_isTold_0 rfl rfl ?_
  refine r_if_lt (np := 4) (tgt := 19) G rfl dX11_isTold_1 (by decide) rfl (fun h1 => ?_) (fun h1 => ?_)
  · have hm := b_t h1 hm
    exact wX11_isTold_B19 l E out G hr hk v0 v1 g0 _ _ _ _ hm hM (lv_sub hl [] rfl)
  · have hm := b_f h1 hm
    refine r_iload_n (np := 5) G hl 1 rfl dX11_isTold_4 rfl rfl ?_
    refine r_aload_n (np := 6) G hl 0 rfl dX11_isTold_5 rfl rfl ?_
    obtain ⟨r2, e3, hm⟩ := ref_t hm
    refine r_getR (np := 9) G hM (shp_lt g0 (by decide)) g0 e3 fdX11_3 lkX11_27 dX11_isTold_6 rfl ?_
    obtain ⟨b4, s5, e6, hm⟩ := call_t hm
    refine m_callVI (np := 12) G hM hl.1 [] (qX0_size l E σ r2 _ e6) myX0_size (shp_lt (gX0_size e6) (by decide)) (gX0_size e6) rfl (by decide) lkX11_91 ⟨Nat.le_of_ble_eq_true rfl, Nat.le_of_ble_eq_true rfl⟩ ⟨Nat.le_of_ble_eq_true rfl, Nat.le_of_ble_eq_true rfl⟩ [vI v1] rfl (Nat.le_of_ble_eq_true rfl) dX11_isTold_9 rfl (fun H locs hM => ?_)
    refine r_icmp_ge (np := 15) (tgt := 19) G rfl rfl dX11_isTold_12 (by decide) rfl (fun h7 => ?_) (fun h7 => ?_)
    · have hm := b_t h7 hm
      exact wX11_isTold_B19 l E out G hr hk v0 v1 g0 _ _ _ _ hm hM (lv_sub hl [] rfl)
    · have hm := b_f h7 hm
      refine r_iconst (np := 16) G 1 dX11_isTold_15 rfl ?_
      refine r_goto (np := 20) G dX11_isTold_16 (by decide) ?_
      exact r_zret G hr hk hM (Or.inr rfl) hm dX11_isTold_20
theorem gX11_isTold {v0 : Nat} {v1 : Int} {σ : mSt} {out : Int × mSt} (hm : mX11_isTold v0 v1 σ = some out) : isC v0 10 := (g_t hm).1
set_option maxRecDepth 100000 in
set_option maxHeartbeats 4000000 in
theorem wX11_isQuaternion_B23 (l : Launch) (E : mE) (out : Int × mSt) {p : Program} {e : Env} {s : State} {m : MethodId} {args : Array Value} {below : List Frame} {meth : Method} {c : Code} (G : CallFix p m c cX11_isQuaternion 2 s args mTs RX11) (hr : meth.sig.returnType = (some .boolean)) (hk : meth.locks = false) (v0 : Nat) (v1 : Int) (g0 : isC v0 10) : ∀ (σ : mSt) (H : Heap) (locs : List Loc) (ls : Array Slot), mX11_isQuaternion_B23 v0 v1 σ = some out → mM (mA E 257) E 257 σ s H locs → lv_has ls 2 [] → mGo l p e 2 41 s m args below meth c E (some (vI out.1)) out.2 H locs (F0 m 23 ls []) := by
  intro σ H locs ls hm hM hl
  unfold mX11_isQuaternion_B23 at hm
  refine r_iconst (np := 24) G 0 dX11_isQuaternion_23 rfl ?_
  exact r_zret G hr hk hM (Or.inl rfl) hm dX11_isQuaternion_24
set_option maxRecDepth 100000 in
set_option maxHeartbeats 4000000 in
theorem qX11_isQuaternion (l : Launch) (E : mE) (σ : mSt) (v0 : Nat) (v1 : Int) (out : Int × mSt) (hm : mX11_isQuaternion v0 v1 σ = some out) : mMet l yX11_isQuaternion cX11_isQuaternion 2 (some .boolean) 2 41 E 257 [.ref (eA E v0), vI v1] σ (some (vI out.1)) out.2 := by
  unfold mX11_isQuaternion at hm
  obtain ⟨g0, hm⟩ := g_t hm
  refine m_entry (by decide +kernel) (Nat.le_of_ble_eq_true rfl) (fun p e s m args below meth c G hr hk hM ls hl => ?_)
  have G : CallFix p m c cX11_isQuaternion 2 s args mTs RX11 := G
  have hl : lv_has ls 2 [(0, .ref (eA E v0)), (1, vI v1)] := hl
  refine r_aload_n (np := 1) G hl 0 rfl dX11_isQuaternion_0 rfl rfl ?_
  refine r_iload_n (np := 2) G hl 1 rfl dX11_isQuaternion_1 rfl rfl ?_
  obtain ⟨b1, s2, e3, hm⟩ := call_t hm
  refine m_callVI (np := 5) G hM hl.1 [vI v1] (qX11_isTold l E σ v0 v1 _ e3) myX11_isTold (shp_lt (gX11_isTold e3) (by decide)) (gX11_isTold e3) rfl (by decide) lkX11_117 ⟨Nat.le_of_ble_eq_true rfl, Nat.le_of_ble_eq_true rfl⟩ ⟨Nat.le_of_ble_eq_true rfl, Nat.le_of_ble_eq_true rfl⟩ [] rfl (Nat.le_of_ble_eq_true rfl) dX11_isQuaternion_2 rfl (fun H locs hM => ?_)
  refine r_if_eq (np := 8) (tgt := 23) G rfl dX11_isQuaternion_5 (by decide) rfl (fun h4 => ?_) (fun h4 => ?_)
  · have hm := b_t h4 hm
    exact wX11_isQuaternion_B23 l E out G hr hk v0 v1 g0 _ _ _ _ hm hM (lv_sub hl [] rfl)
  · have hm := b_f h4 hm
    refine r_aload_n (np := 9) G hl 0 rfl dX11_isQuaternion_8 rfl rfl ?_
    obtain ⟨r5, e6, hm⟩ := ref_t hm
    refine r_getR (np := 12) G hM (shp_lt g0 (by decide)) g0 e6 fdX11_3 lkX11_27 dX11_isQuaternion_9 rfl ?_
    refine r_iload_n (np := 13) G hl 1 rfl dX11_isQuaternion_12 rfl rfl ?_
    obtain ⟨b7, s8, e9, hm⟩ := call_t hm
    refine m_callVI (np := 16) G hM hl.1 [vI v1] (qX0_kind l E s2 r5 v1 _ e9) myX0_kind (shp_lt (gX0_kind e9) (by decide)) (gX0_kind e9) rfl (by decide) lkX11_123 ⟨Nat.le_of_ble_eq_true rfl, Nat.le_of_ble_eq_true rfl⟩ ⟨Nat.le_of_ble_eq_true rfl, Nat.le_of_ble_eq_true rfl⟩ [] rfl (Nat.le_of_ble_eq_true rfl) dX11_isQuaternion_13 rfl (fun H locs hM => ?_)
    refine r_if_ne (np := 19) (tgt := 23) G rfl dX11_isQuaternion_16 (by decide) rfl (fun h10 => ?_) (fun h10 => ?_)
    · have hm := b_f h10 hm
      exact wX11_isQuaternion_B23 l E out G hr hk v0 v1 g0 _ _ _ _ hm hM (lv_sub hl [] rfl)
    · have hm := b_t h10 hm
      refine r_iconst (np := 20) G 1 dX11_isQuaternion_19 rfl ?_
      refine r_goto (np := 24) G dX11_isQuaternion_20 (by decide) ?_
      exact r_zret G hr hk hM (Or.inr rfl) hm dX11_isQuaternion_24
theorem gX11_isQuaternion {v0 : Nat} {v1 : Int} {σ : mSt} {out : Int × mSt} (hm : mX11_isQuaternion v0 v1 σ = some out) : isC v0 10 := (g_t hm).1
set_option maxRecDepth 100000 in
set_option maxHeartbeats 4000000 in
theorem wX11_beginAnew_B83 (l : Launch) (E : mE) (out : Int × mSt) {p : Program} {e : Env} {s : State} {m : MethodId} {args : Array Value} {below : List Frame} {meth : Method} {c : Code} (G : CallFix p m c cX11_beginAnew 2 s args mTs RX11) (hr : meth.sig.returnType = none) (hk : meth.locks = false) (v0 : Nat) (g0 : isC v0 10) : ∀ (σ : mSt) (H : Heap) (locs : List Loc) (ls : Array Slot), mX11_beginAnew_B83 v0 σ = some out → mM (mA E 257) E 257 σ s H locs → lv_has ls 2 [] → mGo l p e 6 152 s m args below meth c E none out.2 H locs (F0 m 83 ls []) := by
  intro σ H locs ls hm hM hl
  unfold mX11_beginAnew_B83 at hm
  exact r_vret G hr hk hM hm dX11_beginAnew_83
set_option maxRecDepth 100000 in
set_option maxHeartbeats 4000000 in
theorem wX11_beginAnew_L36 (l : Launch) (E : mE) (out : Int × mSt) {p : Program} {e : Env} {s : State} {m : MethodId} {args : Array Value} {below : List Frame} {meth : Method} {c : Code} (G : CallFix p m c cX11_beginAnew 2 s args mTs RX11) (hr : meth.sig.returnType = none) (hk : meth.locks = false) (v0 : Nat) (g0 : isC v0 10) (x83 : mSt → Option (Int × mSt)) (hx83 : ∀ (σ : mSt) (H : Heap) (locs : List Loc) (ls : Array Slot), x83 σ = some out → mM (mA E 257) E 257 σ s H locs → lv_has ls 2 [] → mGo l p e 6 152 s m args below meth c E none out.2 H locs (F0 m 83 ls [])) : ∀ (n : Nat) (v1 : Int) (σ : mSt) (H : Heap) (locs : List Loc) (ls : Array Slot), mX11_beginAnew_L36 v0 x83 n v1 σ = some out → mM (mA E 257) E 257 σ s H locs → lv_has ls 2 [(0, .ref (eA E v0)), (1, vI v1)] → mGo l p e 6 152 s m args below meth c E none out.2 H locs (F0 m 36 ls []) := by
  intro n
  induction n with
  | zero =>
    intro v1 σ H locs ls hm hM hl
    exact absurd hm (by rw [mX11_beginAnew_L36.eq_1]; exact fun h => nomatch h)
  | succ n ih =>
    intro v1 σ H locs ls hm hM hl
    rw [mX11_beginAnew_L36.eq_2] at hm
    refine r_iload_n (np := 37) G hl 1 rfl dX11_beginAnew_36 rfl rfl ?_
    refine r_bipush (np := 39) G 8 dX11_beginAnew_37 (by decide) rfl ?_
    refine r_icmp_ge (np := 42) (tgt := 83) G rfl (wIk 8 rfl) dX11_beginAnew_39 (by decide) rfl (fun h1 => ?_) (fun h1 => ?_)
    · have hm := b_t h1 hm
      exact hx83 _ _ _ _ hm hM (lv_sub hl [] rfl)
    · have hm := b_f h1 hm
      refine r_aload_n (np := 43) G hl 0 rfl dX11_beginAnew_42 rfl rfl ?_
      refine r_iload_n (np := 44) G hl 1 rfl dX11_beginAnew_43 rfl rfl ?_
      obtain ⟨b2, s3, e4, hm⟩ := call_t hm
      refine m_callVI (np := 47) G hM hl.1 [vI v1] (qX11_isQuaternion l E σ v0 v1 _ e4) myX11_isQuaternion (shp_lt (gX11_isQuaternion e4) (by decide)) (gX11_isQuaternion e4) rfl (by decide) lkX11_102 ⟨Nat.le_of_ble_eq_true rfl, Nat.le_of_ble_eq_true rfl⟩ ⟨Nat.le_of_ble_eq_true rfl, Nat.le_of_ble_eq_true rfl⟩ [] rfl (Nat.le_of_ble_eq_true rfl) dX11_beginAnew_44 rfl (fun H locs hM => ?_)
      refine r_if_eq (np := 50) (tgt := 77) G rfl dX11_beginAnew_47 (by decide) rfl (fun h5 => ?_) (fun h5 => ?_)
      · have hm := b_t h5 hm
        obtain ⟨a6, e7, hm⟩ := bnd_t hm
        refine r_iinc (np := 80) G hl 1 rfl e7 [(1, vI a6), (0, .ref (eA E v0))] dX11_beginAnew_77 rfl (by decide) rfl (fun ls hl => ?_)
        refine r_goto (np := 36) G dX11_beginAnew_80 (by decide) ?_
        exact ih a6 _ _ _ _ hm hM (lv_sub hl [1, 0] rfl)
      · have hm := b_f h5 hm
        refine r_aload_n (np := 51) G hl 0 rfl dX11_beginAnew_50 rfl rfl ?_
        obtain ⟨r8, e9, hm⟩ := ref_t hm
        refine r_getR (np := 54) G hM (shp_lt g0 (by decide)) g0 e9 fdX11_7 lkX11_49 dX11_beginAnew_51 rfl ?_
        refine r_iload_n (np := 55) G hl 1 rfl dX11_beginAnew_54 rfl rfl ?_
        obtain ⟨g10, hm⟩ := g_t hm
        obtain ⟨r11, e12, hm⟩ := ref_t hm
        refine r_aaload (np := 56) G hM (t := 4) g10 rfl ⟨by decide, by decide⟩ rfl rfl e12 dX11_beginAnew_55 rfl ?_
        refine r_aload_n (np := 57) G hl 0 rfl dX11_beginAnew_56 rfl rfl ?_
        obtain ⟨r13, e14, hm⟩ := ref_t hm
        refine r_getR (np := 60) G hM (shp_lt g0 (by decide)) g0 e14 fdX11_3 lkX11_27 dX11_beginAnew_57 rfl ?_
        refine r_iload_n (np := 61) G hl 1 rfl dX11_beginAnew_60 rfl rfl ?_
        obtain ⟨b15, s16, e17, hm⟩ := call_t hm
        refine m_callVI (np := 64) G hM hl.1 [vI v1] (qX0_first l E s3 r13 v1 _ e17) myX0_first (shp_lt (gX0_first e17) (by decide)) (gX0_first e17) rfl (by decide) lkX11_106 ⟨Nat.le_of_ble_eq_true rfl, Nat.le_of_ble_eq_true rfl⟩ ⟨Nat.le_of_ble_eq_true rfl, Nat.le_of_ble_eq_true rfl⟩ [.ref (eA E r11)] rfl (Nat.le_of_ble_eq_true rfl) dX11_beginAnew_61 rfl (fun H locs hM => ?_)
        refine r_i2l (np := 65) G rfl dX11_beginAnew_64 rfl ?_
        refine r_aload_n (np := 66) G hl 0 rfl dX11_beginAnew_65 rfl rfl ?_
        obtain ⟨r18, e19, hm⟩ := ref_t hm
        refine r_getR (np := 69) G hM (shp_lt g0 (by decide)) g0 e19 fdX11_3 lkX11_27 dX11_beginAnew_66 rfl ?_
        refine r_iload_n (np := 70) G hl 1 rfl dX11_beginAnew_69 rfl rfl ?_
        obtain ⟨b20, s21, e22, hm⟩ := call_t hm
        refine m_callVI (np := 73) G hM hl.1 [vI v1] (qX0_second l E s16 r18 v1 _ e22) myX0_second (shp_lt (gX0_second e22) (by decide)) (gX0_second e22) rfl (by decide) lkX11_110 ⟨Nat.le_of_ble_eq_true rfl, Nat.le_of_ble_eq_true rfl⟩ ⟨Nat.le_of_ble_eq_true rfl, Nat.le_of_ble_eq_true rfl⟩ [vL (wI b15), .ref (eA E r11)] rfl (Nat.le_of_ble_eq_true rfl) dX11_beginAnew_70 rfl (fun H locs hM => ?_)
        refine r_i2l (np := 74) G rfl dX11_beginAnew_73 rfl ?_
        obtain ⟨b23, s24, e25, hm⟩ := call_t hm
        refine m_callVV (np := 77) G hM hl.1 [vL (wI b15), vL (wI b20)] (qX6_begin l E s21 r11 (wI b15) (wI b20) _ e25) myX6_begin (shp_lt (gX6_begin e25) (by decide)) (gX6_begin e25) rfl (by decide) lkX11_113 ⟨Nat.le_of_ble_eq_true rfl, Nat.le_of_ble_eq_true rfl⟩ ⟨Nat.le_of_ble_eq_true rfl, Nat.le_of_ble_eq_true rfl⟩ [] rfl (Nat.le_of_ble_eq_true rfl) dX11_beginAnew_74 rfl (fun H locs hM => ?_)
        obtain ⟨a26, e27, hm⟩ := bnd_t hm
        refine r_iinc (np := 80) G hl 1 rfl e27 [(1, vI a26), (0, .ref (eA E v0))] dX11_beginAnew_77 rfl (by decide) rfl (fun ls hl => ?_)
        refine r_goto (np := 36) G dX11_beginAnew_80 (by decide) ?_
        exact ih a26 _ _ _ _ hm hM (lv_sub hl [1, 0] rfl)
set_option maxRecDepth 100000 in
set_option maxHeartbeats 4000000 in
theorem wX11_beginAnew_B34 (l : Launch) (E : mE) (out : Int × mSt) {p : Program} {e : Env} {s : State} {m : MethodId} {args : Array Value} {below : List Frame} {meth : Method} {c : Code} (G : CallFix p m c cX11_beginAnew 2 s args mTs RX11) (hr : meth.sig.returnType = none) (hk : meth.locks = false) (v0 : Nat) (g0 : isC v0 10) : ∀ (σ : mSt) (H : Heap) (locs : List Loc) (ls : Array Slot), mX11_beginAnew_B34 v0 σ = some out → mM (mA E 257) E 257 σ s H locs → lv_has ls 2 [(0, .ref (eA E v0))] → mGo l p e 6 152 s m args below meth c E none out.2 H locs (F0 m 34 ls []) := by
  intro σ H locs ls hm hM hl
  unfold mX11_beginAnew_B34 at hm
  refine r_iconst (np := 35) G 0 dX11_beginAnew_34 rfl ?_
  refine r_istore_n (np := 36) G hl rfl [(1, vI 0), (0, .ref (eA E v0))] dX11_beginAnew_35 rfl rfl (by decide) rfl (fun ls hl => ?_)
  exact wX11_beginAnew_L36 l E out G hr hk v0 g0 (fun zσ => mX11_beginAnew_B83 v0 zσ) (fun zσ zH zl zs zm zM zv => wX11_beginAnew_B83 l E out G hr hk v0 g0 zσ zH zl zs zm zM zv) mF 0 _ _ _ _ hm hM (lv_sub hl [1, 0] rfl)
set_option maxRecDepth 100000 in
set_option maxHeartbeats 4000000 in
theorem wX11_beginAnew_L13 (l : Launch) (E : mE) (out : Int × mSt) {p : Program} {e : Env} {s : State} {m : MethodId} {args : Array Value} {below : List Frame} {meth : Method} {c : Code} (G : CallFix p m c cX11_beginAnew 2 s args mTs RX11) (hr : meth.sig.returnType = none) (hk : meth.locks = false) (v0 : Nat) (g0 : isC v0 10) (x34 : mSt → Option (Int × mSt)) (hx34 : ∀ (σ : mSt) (H : Heap) (locs : List Loc) (ls : Array Slot), x34 σ = some out → mM (mA E 257) E 257 σ s H locs → lv_has ls 2 [(0, .ref (eA E v0))] → mGo l p e 6 152 s m args below meth c E none out.2 H locs (F0 m 34 ls [])) : ∀ (n : Nat) (v1 : Int) (σ : mSt) (H : Heap) (locs : List Loc) (ls : Array Slot), mX11_beginAnew_L13 v0 x34 n v1 σ = some out → mM (mA E 257) E 257 σ s H locs → lv_has ls 2 [(0, .ref (eA E v0)), (1, vI v1)] → mGo l p e 6 152 s m args below meth c E none out.2 H locs (F0 m 13 ls []) := by
  intro n
  induction n with
  | zero =>
    intro v1 σ H locs ls hm hM hl
    exact absurd hm (by rw [mX11_beginAnew_L13.eq_1]; exact fun h => nomatch h)
  | succ n ih =>
    intro v1 σ H locs ls hm hM hl
    rw [mX11_beginAnew_L13.eq_2] at hm
    refine r_iload_n (np := 14) G hl 1 rfl dX11_beginAnew_13 rfl rfl ?_
    refine r_bipush (np := 16) G 8 dX11_beginAnew_14 (by decide) rfl ?_
    refine r_icmp_ge (np := 19) (tgt := 34) G rfl (wIk 8 rfl) dX11_beginAnew_16 (by decide) rfl (fun h28 => ?_) (fun h28 => ?_)
    · have hm := b_t h28 hm
      exact hx34 _ _ _ _ hm hM (lv_sub hl [0] rfl)
    · have hm := b_f h28 hm
      refine r_aload_n (np := 20) G hl 0 rfl dX11_beginAnew_19 rfl rfl ?_
      obtain ⟨r29, e30, hm⟩ := ref_t hm
      refine r_getR (np := 23) G hM (shp_lt g0 (by decide)) g0 e30 fdX11_6 lkX11_43 dX11_beginAnew_20 rfl ?_
      refine r_iload_n (np := 24) G hl 1 rfl dX11_beginAnew_23 rfl rfl ?_
      obtain ⟨g31, hm⟩ := g_t hm
      obtain ⟨r32, e33, hm⟩ := ref_t hm
      refine r_aaload (np := 25) G hM (t := 3) g31 rfl ⟨by decide, by decide⟩ rfl rfl e33 dX11_beginAnew_24 rfl ?_
      obtain ⟨b34, s35, e36, hm⟩ := call_t hm
      refine m_callVV (np := 28) G hM hl.1 [] (qX1_drop l E σ r32 _ e36) myX1_drop (shp_lt (gX1_drop e36) (by decide)) (gX1_drop e36) rfl (by decide) lkX11_99 ⟨Nat.le_of_ble_eq_true rfl, Nat.le_of_ble_eq_true rfl⟩ ⟨Nat.le_of_ble_eq_true rfl, Nat.le_of_ble_eq_true rfl⟩ [] rfl (Nat.le_of_ble_eq_true rfl) dX11_beginAnew_25 rfl (fun H locs hM => ?_)
      obtain ⟨a37, e38, hm⟩ := bnd_t hm
      refine r_iinc (np := 31) G hl 1 rfl e38 [(1, vI a37), (0, .ref (eA E v0))] dX11_beginAnew_28 rfl (by decide) rfl (fun ls hl => ?_)
      refine r_goto (np := 13) G dX11_beginAnew_31 (by decide) ?_
      exact ih a37 _ _ _ _ hm hM (lv_sub hl [1, 0] rfl)
set_option maxRecDepth 100000 in
set_option maxHeartbeats 4000000 in
theorem qX11_beginAnew (l : Launch) (E : mE) (σ : mSt) (v0 : Nat) (out : Int × mSt) (hm : mX11_beginAnew v0 σ = some out) : mMet l yX11_beginAnew cX11_beginAnew 2 none 6 152 E 257 [.ref (eA E v0)] σ none out.2 := by
  unfold mX11_beginAnew at hm
  obtain ⟨g0, hm⟩ := g_t hm
  refine m_entry (by decide +kernel) (Nat.le_of_ble_eq_true rfl) (fun p e s m args below meth c G hr hk hM ls hl => ?_)
  have G : CallFix p m c cX11_beginAnew 2 s args mTs RX11 := G
  have hl : lv_has ls 2 [(0, .ref (eA E v0))] := hl
  refine r_aload_n (np := 1) G hl 0 rfl dX11_beginAnew_0 rfl rfl ?_
  obtain ⟨r39, e40, hm⟩ := ref_t hm
  refine r_getR (np := 4) G hM (shp_lt g0 (by decide)) g0 e40 fdX11_5 lkX11_37 dX11_beginAnew_1 rfl ?_
  refine r_aload_n (np := 5) G hl 0 rfl dX11_beginAnew_4 rfl rfl ?_
  obtain ⟨r41, e42, hm⟩ := ref_t hm
  refine r_getR (np := 8) G hM (shp_lt g0 (by decide)) g0 e42 fdX11_3 lkX11_27 dX11_beginAnew_5 rfl ?_
  obtain ⟨b43, s44, e45, hm⟩ := call_t hm
  refine m_callVV (np := 11) G hM hl.1 [.ref (eA E r41)] (qX7_reckon l E σ r39 r41 _ e45) myX7_reckon (shp_lt (gX7_reckon e45) (by decide)) (gX7_reckon e45) rfl (by decide) lkX11_95 ⟨Nat.le_of_ble_eq_true rfl, Nat.le_of_ble_eq_true rfl⟩ ⟨Nat.le_of_ble_eq_true rfl, Nat.le_of_ble_eq_true rfl⟩ [] rfl (Nat.le_of_ble_eq_true rfl) dX11_beginAnew_8 rfl (fun H locs hM => ?_)
  refine r_iconst (np := 12) G 0 dX11_beginAnew_11 rfl ?_
  refine r_istore_n (np := 13) G hl rfl [(1, vI 0), (0, .ref (eA E v0))] dX11_beginAnew_12 rfl rfl (by decide) rfl (fun ls hl => ?_)
  exact wX11_beginAnew_L13 l E out G hr hk v0 g0 (fun zσ => mX11_beginAnew_B34 v0 zσ) (fun zσ zH zl zs zm zM zv => wX11_beginAnew_B34 l E out G hr hk v0 g0 zσ zH zl zs zm zM zv) mF 0 _ _ _ _ hm hM (lv_sub hl [1, 0] rfl)
theorem gX11_beginAnew {v0 : Nat} {σ : mSt} {out : Int × mSt} (hm : mX11_beginAnew v0 σ = some out) : isC v0 10 := (g_t hm).1
set_option maxRecDepth 100000 in
set_option maxHeartbeats 4000000 in
theorem wX11_local_B29 (l : Launch) (E : mE) (out : Int × mSt) {p : Program} {e : Env} {s : State} {m : MethodId} {args : Array Value} {below : List Frame} {meth : Method} {c : Code} (G : CallFix p m c cX11_local 3 s args mTs RX11) (hr : meth.sig.returnType = (some .int)) (hk : meth.locks = false) (v0 : Nat) (v1 : Int) (v2 : Int) (g0 : isC v0 10) : ∀ (σ : mSt) (H : Heap) (locs : List Loc) (ls : Array Slot), mX11_local_B29 v0 v1 v2 σ = some out → mM (mA E 257) E 257 σ s H locs → lv_has ls 3 [(0, .ref (eA E v0)), (1, vI v1), (2, vI v2)] → mGo l p e 2 41 s m args below meth c E (some (vI out.1)) out.2 H locs (F0 m 29 ls []) := by
  intro σ H locs ls hm hM hl
  unfold mX11_local_B29 at hm
  refine r_aload_n (np := 30) G hl 0 rfl dX11_local_29 rfl rfl ?_
  obtain ⟨r1, e2, hm⟩ := ref_t hm
  refine r_getR (np := 33) G hM (shp_lt g0 (by decide)) g0 e2 fdX11_5 lkX11_37 dX11_local_30 rfl ?_
  refine r_iload_n (np := 34) G hl 1 rfl dX11_local_33 rfl rfl ?_
  refine r_iload_n (np := 35) G hl 2 rfl dX11_local_34 rfl rfl ?_
  obtain ⟨b3, s4, e5, hm⟩ := call_t hm
  refine m_callVI (np := 38) G hM hl.1 [vI v1, vI v2] (qX7_sixthsAt l E σ r1 v1 v2 _ e5) myX7_sixthsAt (shp_lt (gX7_sixthsAt e5) (by decide)) (gX7_sixthsAt e5) rfl (by decide) lkX11_135 ⟨Nat.le_of_ble_eq_true rfl, Nat.le_of_ble_eq_true rfl⟩ ⟨Nat.le_of_ble_eq_true rfl, Nat.le_of_ble_eq_true rfl⟩ [] rfl (Nat.le_of_ble_eq_true rfl) dX11_local_35 rfl (fun H locs hM => ?_)
  exact r_iret G hr hk hM hm dX11_local_38
set_option maxRecDepth 100000 in
set_option maxHeartbeats 4000000 in
theorem qX11_local (l : Launch) (E : mE) (σ : mSt) (v0 : Nat) (v1 : Int) (v2 : Int) (out : Int × mSt) (hm : mX11_local v0 v1 v2 σ = some out) : mMet l yX11_local cX11_local 3 (some .int) 2 41 E 257 [.ref (eA E v0), vI v1, vI v2] σ (some (vI out.1)) out.2 := by
  unfold mX11_local at hm
  obtain ⟨g0, hm⟩ := g_t hm
  refine m_entry (by decide +kernel) (Nat.le_of_ble_eq_true rfl) (fun p e s m args below meth c G hr hk hM ls hl => ?_)
  have G : CallFix p m c cX11_local 3 s args mTs RX11 := G
  have hl : lv_has ls 3 [(0, .ref (eA E v0)), (1, vI v1), (2, vI v2)] := hl
  refine r_aload_n (np := 1) G hl 0 rfl dX11_local_0 rfl rfl ?_
  refine r_iload_n (np := 2) G hl 1 rfl dX11_local_1 rfl rfl ?_
  obtain ⟨b6, s7, e8, hm⟩ := call_t hm
  refine m_callVI (np := 5) G hM hl.1 [vI v1] (qX11_isTold l E σ v0 v1 _ e8) myX11_isTold (shp_lt (gX11_isTold e8) (by decide)) (gX11_isTold e8) rfl (by decide) lkX11_117 ⟨Nat.le_of_ble_eq_true rfl, Nat.le_of_ble_eq_true rfl⟩ ⟨Nat.le_of_ble_eq_true rfl, Nat.le_of_ble_eq_true rfl⟩ [] rfl (Nat.le_of_ble_eq_true rfl) dX11_local_2 rfl (fun H locs hM => ?_)
  refine r_if_eq (np := 8) (tgt := 14) G rfl dX11_local_5 (by decide) rfl (fun h9 => ?_) (fun h9 => ?_)
  · have hm := b_t h9 hm
    refine r_iconst (np := 15) G (-1) dX11_local_14 rfl ?_
    exact r_iret G hr hk hM hm dX11_local_15
  · have hm := b_f h9 hm
    refine r_iload_n (np := 9) G hl 2 rfl dX11_local_8 rfl rfl ?_
    refine r_ldc (np := 11) G 60000 dX11_local_9 lkX11_129 rfl rfl ?_
    refine r_icmp_le (np := 14) (tgt := 16) G rfl (wIk 60000 rfl) dX11_local_11 (by decide) rfl (fun h10 => ?_) (fun h10 => ?_)
    · have hm := b_t h10 hm
      refine r_iload_n (np := 17) G hl 2 rfl dX11_local_16 rfl rfl ?_
      refine r_if_eq (np := 20) (tgt := 29) G rfl dX11_local_17 (by decide) rfl (fun h11 => ?_) (fun h11 => ?_)
      · have hm := b_t h11 hm
        exact wX11_local_B29 l E out G hr hk v0 v1 v2 g0 _ _ _ _ hm hM (lv_sub hl [0, 1, 2] rfl)
      · have hm := b_f h11 hm
        refine r_iload_n (np := 21) G hl 2 rfl dX11_local_20 rfl rfl ?_
        obtain ⟨b12, s13, e14, hm⟩ := call_t hm
        refine m_callSI (np := 24) G hM hl.1 [vI v2] (qX5_isPrime l E s7 v2 _ e14) myX5_isPrime lkX11_130 ⟨Nat.le_of_ble_eq_true rfl, Nat.le_of_ble_eq_true rfl⟩ ⟨Nat.le_of_ble_eq_true rfl, Nat.le_of_ble_eq_true rfl⟩ [] rfl (Nat.le_of_ble_eq_true rfl) dX11_local_21 rfl (fun H locs hM => ?_)
        refine r_if_ne (np := 27) (tgt := 29) G rfl dX11_local_24 (by decide) rfl (fun h15 => ?_) (fun h15 => ?_)
        · have hm := b_f h15 hm
          exact wX11_local_B29 l E out G hr hk v0 v1 v2 g0 _ _ _ _ hm hM (lv_sub hl [0, 1, 2] rfl)
        · have hm := b_t h15 hm
          refine r_iconst (np := 28) G (-1) dX11_local_27 rfl ?_
          exact r_iret G hr hk hM hm dX11_local_28
    · have hm := b_f h10 hm
      refine r_iconst (np := 15) G (-1) dX11_local_14 rfl ?_
      exact r_iret G hr hk hM hm dX11_local_15
theorem gX11_local {v0 : Nat} {v1 : Int} {v2 : Int} {σ : mSt} {out : Int × mSt} (hm : mX11_local v0 v1 v2 σ = some out) : isC v0 10 := (g_t hm).1
set_option maxRecDepth 100000 in
set_option maxHeartbeats 4000000 in
theorem qX11_place (l : Launch) (E : mE) (σ : mSt) (v0 : Nat) (v1 : Int) (v2 : Int) (out : Int × mSt) (hm : mX11_place v0 v1 v2 σ = some out) : mMet l yX11_place cX11_place 3 (some .int) 2 41 E 257 [.ref (eA E v0), vI v1, vI v2] σ (some (vI out.1)) out.2 := by
  unfold mX11_place at hm
  obtain ⟨g0, hm⟩ := g_t hm
  refine m_entry (by decide +kernel) (Nat.le_of_ble_eq_true rfl) (fun p e s m args below meth c G hr hk hM ls hl => ?_)
  have G : CallFix p m c cX11_place 3 s args mTs RX11 := G
  have hl : lv_has ls 3 [(0, .ref (eA E v0)), (1, vI v1), (2, vI v2)] := hl
  refine r_aload_n (np := 1) G hl 0 rfl dX11_place_0 rfl rfl ?_
  refine r_iload_n (np := 2) G hl 1 rfl dX11_place_1 rfl rfl ?_
  obtain ⟨b1, s2, e3, hm⟩ := call_t hm
  refine m_callVI (np := 5) G hM hl.1 [vI v1] (qX11_isTold l E σ v0 v1 _ e3) myX11_isTold (shp_lt (gX11_isTold e3) (by decide)) (gX11_isTold e3) rfl (by decide) lkX11_117 ⟨Nat.le_of_ble_eq_true rfl, Nat.le_of_ble_eq_true rfl⟩ ⟨Nat.le_of_ble_eq_true rfl, Nat.le_of_ble_eq_true rfl⟩ [] rfl (Nat.le_of_ble_eq_true rfl) dX11_place_2 rfl (fun H locs hM => ?_)
  refine r_if_eq (np := 8) (tgt := 13) G rfl dX11_place_5 (by decide) rfl (fun h4 => ?_) (fun h4 => ?_)
  · have hm := b_t h4 hm
    refine r_bipush (np := 15) G (-2) dX11_place_13 (by decide) rfl ?_
    exact r_iret G hr hk hM hm dX11_place_15
  · have hm := b_f h4 hm
    refine r_iload_n (np := 9) G hl 2 rfl dX11_place_8 rfl rfl ?_
    refine r_iconst (np := 10) G (-1) dX11_place_9 rfl ?_
    refine r_icmp_ge (np := 13) (tgt := 16) G rfl (wIk (-1) rfl) dX11_place_10 (by decide) rfl (fun h5 => ?_) (fun h5 => ?_)
    · have hm := b_t h5 hm
      refine r_iload_n (np := 17) G hl 2 rfl dX11_place_16 rfl rfl ?_
      refine r_iconst (np := 18) G (-1) dX11_place_17 rfl ?_
      refine r_icmp_ne (np := 21) (tgt := 32) G rfl (wIk (-1) rfl) dX11_place_18 (by decide) rfl (fun h6 => ?_) (fun h6 => ?_)
      · have hm := b_f h6 hm
        refine r_aload_n (np := 33) G hl 0 rfl dX11_place_32 rfl rfl ?_
        obtain ⟨r7, e8, hm⟩ := ref_t hm
        refine r_getR (np := 36) G hM (shp_lt g0 (by decide)) g0 e8 fdX11_5 lkX11_37 dX11_place_33 rfl ?_
        refine r_iload_n (np := 37) G hl 1 rfl dX11_place_36 rfl rfl ?_
        refine r_iload_n (np := 38) G hl 2 rfl dX11_place_37 rfl rfl ?_
        obtain ⟨b9, s10, e11, hm⟩ := call_t hm
        refine m_callVI (np := 41) G hM hl.1 [vI v1, vI v2] (qX7_placeOf l E s2 r7 v1 v2 _ e11) myX7_placeOf (shp_lt (gX7_placeOf e11) (by decide)) (gX7_placeOf e11) rfl (by decide) lkX11_142 ⟨Nat.le_of_ble_eq_true rfl, Nat.le_of_ble_eq_true rfl⟩ ⟨Nat.le_of_ble_eq_true rfl, Nat.le_of_ble_eq_true rfl⟩ [] rfl (Nat.le_of_ble_eq_true rfl) dX11_place_38 rfl (fun H locs hM => ?_)
        exact r_iret G hr hk hM hm dX11_place_41
      · have hm := b_t h6 hm
        refine r_aload_n (np := 22) G hl 0 rfl dX11_place_21 rfl rfl ?_
        obtain ⟨r12, e13, hm⟩ := ref_t hm
        refine r_getR (np := 25) G hM (shp_lt g0 (by decide)) g0 e13 fdX11_5 lkX11_37 dX11_place_22 rfl ?_
        refine r_iload_n (np := 26) G hl 1 rfl dX11_place_25 rfl rfl ?_
        obtain ⟨b14, s15, e16, hm⟩ := call_t hm
        refine m_callVI (np := 29) G hM hl.1 [vI v1] (qX7_howMany l E s2 r12 v1 _ e16) myX7_howMany (shp_lt (gX7_howMany e16) (by decide)) (gX7_howMany e16) rfl (by decide) lkX11_139 ⟨Nat.le_of_ble_eq_true rfl, Nat.le_of_ble_eq_true rfl⟩ ⟨Nat.le_of_ble_eq_true rfl, Nat.le_of_ble_eq_true rfl⟩ [] rfl (Nat.le_of_ble_eq_true rfl) dX11_place_26 rfl (fun H locs hM => ?_)
        refine r_goto (np := 41) G dX11_place_29 (by decide) ?_
        exact r_iret G hr hk hM hm dX11_place_41
    · have hm := b_f h5 hm
      refine r_bipush (np := 15) G (-2) dX11_place_13 (by decide) rfl ?_
      exact r_iret G hr hk hM hm dX11_place_15
theorem gX11_place {v0 : Nat} {v1 : Int} {v2 : Int} {σ : mSt} {out : Int × mSt} (hm : mX11_place v0 v1 v2 σ = some out) : isC v0 10 := (g_t hm).1
set_option maxRecDepth 100000 in
set_option maxHeartbeats 4000000 in
theorem qX11_index (l : Launch) (E : mE) (σ : mSt) (v0 : Nat) (v1 : Int) (out : Int × mSt) (hm : mX11_index v0 v1 σ = some out) : mMet l yX11_index cX11_index 2 (some .int) 3 75 E 257 [.ref (eA E v0), vI v1] σ (some (vI out.1)) out.2 := by
  unfold mX11_index at hm
  obtain ⟨g0, hm⟩ := g_t hm
  refine m_entry (by decide +kernel) (Nat.le_of_ble_eq_true rfl) (fun p e s m args below meth c G hr hk hM ls hl => ?_)
  have G : CallFix p m c cX11_index 2 s args mTs RX11 := G
  have hl : lv_has ls 2 [(0, .ref (eA E v0)), (1, vI v1)] := hl
  refine r_aload_n (np := 1) G hl 0 rfl dX11_index_0 rfl rfl ?_
  refine r_iload_n (np := 2) G hl 1 rfl dX11_index_1 rfl rfl ?_
  obtain ⟨b1, s2, e3, hm⟩ := call_t hm
  refine m_callVI (np := 5) G hM hl.1 [vI v1] (qX11_isTold l E σ v0 v1 _ e3) myX11_isTold (shp_lt (gX11_isTold e3) (by decide)) (gX11_isTold e3) rfl (by decide) lkX11_117 ⟨Nat.le_of_ble_eq_true rfl, Nat.le_of_ble_eq_true rfl⟩ ⟨Nat.le_of_ble_eq_true rfl, Nat.le_of_ble_eq_true rfl⟩ [] rfl (Nat.le_of_ble_eq_true rfl) dX11_index_2 rfl (fun H locs hM => ?_)
  refine r_if_eq (np := 8) (tgt := 19) G rfl dX11_index_5 (by decide) rfl (fun h4 => ?_) (fun h4 => ?_)
  · have hm := b_t h4 hm
    refine r_iconst (np := 20) G (-1) dX11_index_19 rfl ?_
    exact r_iret G hr hk hM hm dX11_index_20
  · have hm := b_f h4 hm
    refine r_aload_n (np := 9) G hl 0 rfl dX11_index_8 rfl rfl ?_
    obtain ⟨r5, e6, hm⟩ := ref_t hm
    refine r_getR (np := 12) G hM (shp_lt g0 (by decide)) g0 e6 fdX11_5 lkX11_37 dX11_index_9 rfl ?_
    refine r_iload_n (np := 13) G hl 1 rfl dX11_index_12 rfl rfl ?_
    obtain ⟨b7, s8, e9, hm⟩ := call_t hm
    refine m_callVI (np := 16) G hM hl.1 [vI v1] (qX7_indexOf l E s2 r5 v1 _ e9) myX7_indexOf (shp_lt (gX7_indexOf e9) (by decide)) (gX7_indexOf e9) rfl (by decide) lkX11_145 ⟨Nat.le_of_ble_eq_true rfl, Nat.le_of_ble_eq_true rfl⟩ ⟨Nat.le_of_ble_eq_true rfl, Nat.le_of_ble_eq_true rfl⟩ [] rfl (Nat.le_of_ble_eq_true rfl) dX11_index_13 rfl (fun H locs hM => ?_)
    refine r_goto (np := 20) G dX11_index_16 (by decide) ?_
    exact r_iret G hr hk hM hm dX11_index_20
theorem gX11_index {v0 : Nat} {v1 : Int} {σ : mSt} {out : Int × mSt} (hm : mX11_index v0 v1 σ = some out) : isC v0 10 := (g_t hm).1
set_option maxRecDepth 100000 in
set_option maxHeartbeats 4000000 in
theorem qX11_alike (l : Launch) (E : mE) (σ : mSt) (v0 : Nat) (v1 : Int) (v2 : Int) (out : Int × mSt) (hm : mX11_alike v0 v1 v2 σ = some out) : mMet l yX11_alike cX11_alike 3 (some .int) 2 41 E 257 [.ref (eA E v0), vI v1, vI v2] σ (some (vI out.1)) out.2 := by
  unfold mX11_alike at hm
  obtain ⟨g0, hm⟩ := g_t hm
  refine m_entry (by decide +kernel) (Nat.le_of_ble_eq_true rfl) (fun p e s m args below meth c G hr hk hM ls hl => ?_)
  have G : CallFix p m c cX11_alike 3 s args mTs RX11 := G
  have hl : lv_has ls 3 [(0, .ref (eA E v0)), (1, vI v1), (2, vI v2)] := hl
  refine r_aload_n (np := 1) G hl 0 rfl dX11_alike_0 rfl rfl ?_
  refine r_iload_n (np := 2) G hl 1 rfl dX11_alike_1 rfl rfl ?_
  obtain ⟨b1, s2, e3, hm⟩ := call_t hm
  refine m_callVI (np := 5) G hM hl.1 [vI v1] (qX11_isTold l E σ v0 v1 _ e3) myX11_isTold (shp_lt (gX11_isTold e3) (by decide)) (gX11_isTold e3) rfl (by decide) lkX11_117 ⟨Nat.le_of_ble_eq_true rfl, Nat.le_of_ble_eq_true rfl⟩ ⟨Nat.le_of_ble_eq_true rfl, Nat.le_of_ble_eq_true rfl⟩ [] rfl (Nat.le_of_ble_eq_true rfl) dX11_alike_2 rfl (fun H locs hM => ?_)
  refine r_if_eq (np := 8) (tgt := 16) G rfl dX11_alike_5 (by decide) rfl (fun h4 => ?_) (fun h4 => ?_)
  · have hm := b_t h4 hm
    refine r_iconst (np := 17) G (-1) dX11_alike_16 rfl ?_
    exact r_iret G hr hk hM hm dX11_alike_17
  · have hm := b_f h4 hm
    refine r_aload_n (np := 9) G hl 0 rfl dX11_alike_8 rfl rfl ?_
    refine r_iload_n (np := 10) G hl 2 rfl dX11_alike_9 rfl rfl ?_
    obtain ⟨b5, s6, e7, hm⟩ := call_t hm
    refine m_callVI (np := 13) G hM hl.1 [vI v2] (qX11_isTold l E s2 v0 v2 _ e7) myX11_isTold (shp_lt (gX11_isTold e7) (by decide)) (gX11_isTold e7) rfl (by decide) lkX11_117 ⟨Nat.le_of_ble_eq_true rfl, Nat.le_of_ble_eq_true rfl⟩ ⟨Nat.le_of_ble_eq_true rfl, Nat.le_of_ble_eq_true rfl⟩ [] rfl (Nat.le_of_ble_eq_true rfl) dX11_alike_10 rfl (fun H locs hM => ?_)
    refine r_if_ne (np := 16) (tgt := 18) G rfl dX11_alike_13 (by decide) rfl (fun h8 => ?_) (fun h8 => ?_)
    · have hm := b_f h8 hm
      refine r_aload_n (np := 19) G hl 0 rfl dX11_alike_18 rfl rfl ?_
      obtain ⟨r9, e10, hm⟩ := ref_t hm
      refine r_getR (np := 22) G hM (shp_lt g0 (by decide)) g0 e10 fdX11_5 lkX11_37 dX11_alike_19 rfl ?_
      refine r_iload_n (np := 23) G hl 1 rfl dX11_alike_22 rfl rfl ?_
      refine r_iload_n (np := 24) G hl 2 rfl dX11_alike_23 rfl rfl ?_
      obtain ⟨b11, s12, e13, hm⟩ := call_t hm
      refine m_callVI (np := 27) G hM hl.1 [vI v1, vI v2] (qX7_areAlike l E s6 r9 v1 v2 _ e13) myX7_areAlike (shp_lt (gX7_areAlike e13) (by decide)) (gX7_areAlike e13) rfl (by decide) lkX11_148 ⟨Nat.le_of_ble_eq_true rfl, Nat.le_of_ble_eq_true rfl⟩ ⟨Nat.le_of_ble_eq_true rfl, Nat.le_of_ble_eq_true rfl⟩ [] rfl (Nat.le_of_ble_eq_true rfl) dX11_alike_24 rfl (fun H locs hM => ?_)
      refine r_if_eq (np := 30) (tgt := 34) G rfl dX11_alike_27 (by decide) rfl (fun h14 => ?_) (fun h14 => ?_)
      · have hm := b_t h14 hm
        refine r_iconst (np := 35) G 0 dX11_alike_34 rfl ?_
        exact r_iret G hr hk hM hm dX11_alike_35
      · have hm := b_f h14 hm
        refine r_iconst (np := 31) G 1 dX11_alike_30 rfl ?_
        refine r_goto (np := 35) G dX11_alike_31 (by decide) ?_
        exact r_iret G hr hk hM hm dX11_alike_35
    · have hm := b_t h8 hm
      refine r_iconst (np := 17) G (-1) dX11_alike_16 rfl ?_
      exact r_iret G hr hk hM hm dX11_alike_17
theorem gX11_alike {v0 : Nat} {v1 : Int} {v2 : Int} {σ : mSt} {out : Int × mSt} (hm : mX11_alike v0 v1 v2 σ = some out) : isC v0 10 := (g_t hm).1
set_option maxRecDepth 100000 in
set_option maxHeartbeats 4000000 in
theorem wX11_classes_B73 (l : Launch) (E : mE) (out : Int × mSt) {p : Program} {e : Env} {s : State} {m : MethodId} {args : Array Value} {below : List Frame} {meth : Method} {c : Code} (G : CallFix p m c cX11_classes 5 s args mTs RX11) (hr : meth.sig.returnType = (some .int)) (hk : meth.locks = false) (v0 : Nat) (g0 : isC v0 10) : ∀ (v1 : Int) (σ : mSt) (H : Heap) (locs : List Loc) (ls : Array Slot), mX11_classes_B73 v0 v1 σ = some out → mM (mA E 257) E 257 σ s H locs → lv_has ls 5 [(1, vI v1)] → mGo l p e 1 24 s m args below meth c E (some (vI out.1)) out.2 H locs (F0 m 73 ls []) := by
  intro v1 σ H locs ls hm hM hl
  unfold mX11_classes_B73 at hm
  refine r_iload_n (np := 74) G hl 0 rfl dX11_classes_73 rfl rfl ?_
  exact r_iret G hr hk hM hm dX11_classes_74
set_option maxRecDepth 100000 in
set_option maxHeartbeats 4000000 in
theorem wX11_classes_B55 (l : Launch) (E : mE) (out : Int × mSt) {p : Program} {e : Env} {s : State} {m : MethodId} {args : Array Value} {below : List Frame} {meth : Method} {c : Code} (G : CallFix p m c cX11_classes 5 s args mTs RX11) (hr : meth.sig.returnType = (some .int)) (hk : meth.locks = false) (v0 : Nat) (g0 : isC v0 10) (c4 : Int → Int → mSt → Option (Int × mSt)) (x73 : Int → mSt → Option (Int × mSt)) (hc4 : ∀ (v1 : Int) (v2 : Int) (σ : mSt) (H : Heap) (locs : List Loc) (ls : Array Slot), c4 v1 v2 σ = some out → mM (mA E 257) E 257 σ s H locs → lv_has ls 5 [(0, .ref (eA E v0)), (1, vI v1), (2, vI v2)] → mGo l p e 1 24 s m args below meth c E (some (vI out.1)) out.2 H locs (F0 m 4 ls [])) (hx73 : ∀ (v1 : Int) (σ : mSt) (H : Heap) (locs : List Loc) (ls : Array Slot), x73 v1 σ = some out → mM (mA E 257) E 257 σ s H locs → lv_has ls 5 [(1, vI v1)] → mGo l p e 1 24 s m args below meth c E (some (vI out.1)) out.2 H locs (F0 m 73 ls [])) : ∀ (v1 : Int) (v2 : Int) (v3 : Int) (σ : mSt) (H : Heap) (locs : List Loc) (ls : Array Slot), mX11_classes_B55 v0 c4 x73 v1 v2 v3 σ = some out → mM (mA E 257) E 257 σ s H locs → lv_has ls 5 [(0, .ref (eA E v0)), (1, vI v1), (2, vI v2), (3, vI v3)] → mGo l p e 1 24 s m args below meth c E (some (vI out.1)) out.2 H locs (F0 m 55 ls []) := by
  intro v1 v2 v3 σ H locs ls hm hM hl
  unfold mX11_classes_B55 at hm
  refine r_iload_n (np := 56) G hl 1 rfl dX11_classes_55 rfl rfl ?_
  refine r_iload_n (np := 57) G hl 3 rfl dX11_classes_56 rfl rfl ?_
  refine r_if_eq (np := 60) (tgt := 64) G rfl dX11_classes_57 (by decide) rfl (fun h1 => ?_) (fun h1 => ?_)
  · have hm := b_t h1 hm
    refine r_iconst (np := 65) G 0 dX11_classes_64 rfl ?_
    refine r_iadd (np := 66) G dX11_classes_65 rfl ?_
    obtain ⟨a2, e3, hm⟩ := bnd_t hm
    refine r_istore_n (np := 67) G hl e3 [(1, vI a2), (0, .ref (eA E v0)), (2, vI v2), (3, vI v3)] dX11_classes_66 rfl rfl (by decide) rfl (fun ls hl => ?_)
    obtain ⟨a4, e5, hm⟩ := bnd_t hm
    refine r_iinc (np := 70) G hl 2 rfl e5 [(2, vI a4), (1, vI a2), (0, .ref (eA E v0)), (3, vI v3)] dX11_classes_67 rfl (by decide) rfl (fun ls hl => ?_)
    refine r_goto (np := 4) G dX11_classes_70 (by decide) ?_
    exact hc4 a2 a4 _ _ _ _ hm hM (lv_sub hl [2, 1, 0] rfl)
  · have hm := b_f h1 hm
    refine r_iconst (np := 61) G 1 dX11_classes_60 rfl ?_
    refine r_goto (np := 65) G dX11_classes_61 (by decide) ?_
    refine r_iadd (np := 66) G dX11_classes_65 rfl ?_
    obtain ⟨a6, e7, hm⟩ := bnd_t hm
    refine r_istore_n (np := 67) G hl e7 [(1, vI a6), (0, .ref (eA E v0)), (2, vI v2), (3, vI v3)] dX11_classes_66 rfl rfl (by decide) rfl (fun ls hl => ?_)
    obtain ⟨a8, e9, hm⟩ := bnd_t hm
    refine r_iinc (np := 70) G hl 2 rfl e9 [(2, vI a8), (1, vI a6), (0, .ref (eA E v0)), (3, vI v3)] dX11_classes_67 rfl (by decide) rfl (fun ls hl => ?_)
    refine r_goto (np := 4) G dX11_classes_70 (by decide) ?_
    exact hc4 a6 a8 _ _ _ _ hm hM (lv_sub hl [2, 1, 0] rfl)
set_option maxRecDepth 100000 in
set_option maxHeartbeats 4000000 in
theorem wX11_classes_L20 (l : Launch) (E : mE) (out : Int × mSt) {p : Program} {e : Env} {s : State} {m : MethodId} {args : Array Value} {below : List Frame} {meth : Method} {c : Code} (G : CallFix p m c cX11_classes 5 s args mTs RX11) (hr : meth.sig.returnType = (some .int)) (hk : meth.locks = false) (v0 : Nat) (v1 : Int) (v2 : Int) (g0 : isC v0 10) (x55 : Int → mSt → Option (Int × mSt)) (hx55 : ∀ (v3 : Int) (σ : mSt) (H : Heap) (locs : List Loc) (ls : Array Slot), x55 v3 σ = some out → mM (mA E 257) E 257 σ s H locs → lv_has ls 5 [(0, .ref (eA E v0)), (1, vI v1), (2, vI v2), (3, vI v3)] → mGo l p e 1 24 s m args below meth c E (some (vI out.1)) out.2 H locs (F0 m 55 ls [])) : ∀ (n : Nat) (v3 : Int) (v4 : Int) (σ : mSt) (H : Heap) (locs : List Loc) (ls : Array Slot), mX11_classes_L20 v0 v1 v2 x55 n v3 v4 σ = some out → mM (mA E 257) E 257 σ s H locs → lv_has ls 5 [(0, .ref (eA E v0)), (1, vI v1), (2, vI v2), (3, vI v3), (4, vI v4)] → mGo l p e 1 24 s m args below meth c E (some (vI out.1)) out.2 H locs (F0 m 20 ls []) := by
  intro n
  induction n with
  | zero =>
    intro v3 v4 σ H locs ls hm hM hl
    exact absurd hm (by rw [mX11_classes_L20.eq_1]; exact fun h => nomatch h)
  | succ n ih =>
    intro v3 v4 σ H locs ls hm hM hl
    rw [mX11_classes_L20.eq_2] at hm
    refine r_iload (np := 22) G hl 4 rfl dX11_classes_20 rfl ?_
    refine r_iload_n (np := 23) G hl 2 rfl dX11_classes_22 rfl rfl ?_
    refine r_icmp_ge (np := 26) (tgt := 55) G rfl rfl dX11_classes_23 (by decide) rfl (fun h10 => ?_) (fun h10 => ?_)
    · have hm := b_t h10 hm
      exact hx55 v3 _ _ _ _ hm hM (lv_sub hl [0, 1, 2, 3] rfl)
    · have hm := b_f h10 hm
      refine r_iload_n (np := 27) G hl 3 rfl dX11_classes_26 rfl rfl ?_
      refine r_if_eq (np := 30) (tgt := 55) G rfl dX11_classes_27 (by decide) rfl (fun h11 => ?_) (fun h11 => ?_)
      · have hm := b_t h11 hm
        exact hx55 v3 _ _ _ _ hm hM (lv_sub hl [0, 1, 2, 3] rfl)
      · have hm := b_f h11 hm
        refine r_aload_n (np := 31) G hl 0 rfl dX11_classes_30 rfl rfl ?_
        obtain ⟨r12, e13, hm⟩ := ref_t hm
        refine r_getR (np := 34) G hM (shp_lt g0 (by decide)) g0 e13 fdX11_5 lkX11_37 dX11_classes_31 rfl ?_
        refine r_iload_n (np := 35) G hl 2 rfl dX11_classes_34 rfl rfl ?_
        refine r_iload (np := 37) G hl 4 rfl dX11_classes_35 rfl ?_
        obtain ⟨b14, s15, e16, hm⟩ := call_t hm
        refine m_callVI (np := 40) G hM hl.1 [vI v2, vI v4] (qX7_areAlike l E σ r12 v2 v4 _ e16) myX7_areAlike (shp_lt (gX7_areAlike e16) (by decide)) (gX7_areAlike e16) rfl (by decide) lkX11_148 ⟨Nat.le_of_ble_eq_true rfl, Nat.le_of_ble_eq_true rfl⟩ ⟨Nat.le_of_ble_eq_true rfl, Nat.le_of_ble_eq_true rfl⟩ [] rfl (Nat.le_of_ble_eq_true rfl) dX11_classes_37 rfl (fun H locs hM => ?_)
        refine r_if_ne (np := 43) (tgt := 47) G rfl dX11_classes_40 (by decide) rfl (fun h17 => ?_) (fun h17 => ?_)
        · have hm := b_f h17 hm
          refine r_iconst (np := 48) G 0 dX11_classes_47 rfl ?_
          refine r_istore_n (np := 49) G hl rfl [(3, vI 0), (0, .ref (eA E v0)), (1, vI v1), (2, vI v2), (4, vI v4)] dX11_classes_48 rfl rfl (by decide) rfl (fun ls hl => ?_)
          obtain ⟨a18, e19, hm⟩ := bnd_t hm
          refine r_iinc (np := 52) G hl 4 rfl e19 [(4, vI a18), (3, vI 0), (0, .ref (eA E v0)), (1, vI v1), (2, vI v2)] dX11_classes_49 rfl (by decide) rfl (fun ls hl => ?_)
          refine r_goto (np := 20) G dX11_classes_52 (by decide) ?_
          exact ih 0 a18 _ _ _ _ hm hM (lv_sub hl [2, 3, 4, 1, 0] rfl)
        · have hm := b_t h17 hm
          refine r_iconst (np := 44) G 1 dX11_classes_43 rfl ?_
          refine r_goto (np := 48) G dX11_classes_44 (by decide) ?_
          refine r_istore_n (np := 49) G hl rfl [(3, vI 1), (0, .ref (eA E v0)), (1, vI v1), (2, vI v2), (4, vI v4)] dX11_classes_48 rfl rfl (by decide) rfl (fun ls hl => ?_)
          obtain ⟨a20, e21, hm⟩ := bnd_t hm
          refine r_iinc (np := 52) G hl 4 rfl e21 [(4, vI a20), (3, vI 1), (0, .ref (eA E v0)), (1, vI v1), (2, vI v2)] dX11_classes_49 rfl (by decide) rfl (fun ls hl => ?_)
          refine r_goto (np := 20) G dX11_classes_52 (by decide) ?_
          exact ih 1 a20 _ _ _ _ hm hM (lv_sub hl [2, 3, 4, 1, 0] rfl)
set_option maxRecDepth 100000 in
set_option maxHeartbeats 4000000 in
theorem wX11_classes_L4 (l : Launch) (E : mE) (out : Int × mSt) {p : Program} {e : Env} {s : State} {m : MethodId} {args : Array Value} {below : List Frame} {meth : Method} {c : Code} (G : CallFix p m c cX11_classes 5 s args mTs RX11) (hr : meth.sig.returnType = (some .int)) (hk : meth.locks = false) (v0 : Nat) (g0 : isC v0 10) (x73 : Int → mSt → Option (Int × mSt)) (hx73 : ∀ (v1 : Int) (σ : mSt) (H : Heap) (locs : List Loc) (ls : Array Slot), x73 v1 σ = some out → mM (mA E 257) E 257 σ s H locs → lv_has ls 5 [(1, vI v1)] → mGo l p e 1 24 s m args below meth c E (some (vI out.1)) out.2 H locs (F0 m 73 ls [])) : ∀ (n : Nat) (v1 : Int) (v2 : Int) (σ : mSt) (H : Heap) (locs : List Loc) (ls : Array Slot), mX11_classes_L4 v0 x73 n v1 v2 σ = some out → mM (mA E 257) E 257 σ s H locs → lv_has ls 5 [(0, .ref (eA E v0)), (1, vI v1), (2, vI v2)] → mGo l p e 1 24 s m args below meth c E (some (vI out.1)) out.2 H locs (F0 m 4 ls []) := by
  intro n
  induction n with
  | zero =>
    intro v1 v2 σ H locs ls hm hM hl
    exact absurd hm (by rw [mX11_classes_L4.eq_1]; exact fun h => nomatch h)
  | succ n ih =>
    intro v1 v2 σ H locs ls hm hM hl
    rw [mX11_classes_L4.eq_2] at hm
    refine r_iload_n (np := 5) G hl 2 rfl dX11_classes_4 rfl rfl ?_
    refine r_aload_n (np := 6) G hl 0 rfl dX11_classes_5 rfl rfl ?_
    obtain ⟨r22, e23, hm⟩ := ref_t hm
    refine r_getR (np := 9) G hM (shp_lt g0 (by decide)) g0 e23 fdX11_3 lkX11_27 dX11_classes_6 rfl ?_
    obtain ⟨b24, s25, e26, hm⟩ := call_t hm
    refine m_callVI (np := 12) G hM hl.1 [] (qX0_size l E σ r22 _ e26) myX0_size (shp_lt (gX0_size e26) (by decide)) (gX0_size e26) rfl (by decide) lkX11_91 ⟨Nat.le_of_ble_eq_true rfl, Nat.le_of_ble_eq_true rfl⟩ ⟨Nat.le_of_ble_eq_true rfl, Nat.le_of_ble_eq_true rfl⟩ [vI v2] rfl (Nat.le_of_ble_eq_true rfl) dX11_classes_9 rfl (fun H locs hM => ?_)
    refine r_icmp_ge (np := 15) (tgt := 73) G rfl rfl dX11_classes_12 (by decide) rfl (fun h27 => ?_) (fun h27 => ?_)
    · have hm := b_t h27 hm
      exact hx73 v1 _ _ _ _ hm hM (lv_sub hl [1] rfl)
    · have hm := b_f h27 hm
      refine r_iconst (np := 16) G 1 dX11_classes_15 rfl ?_
      refine r_istore_n (np := 17) G hl rfl [(3, vI 1), (0, .ref (eA E v0)), (1, vI v1), (2, vI v2)] dX11_classes_16 rfl rfl (by decide) rfl (fun ls hl => ?_)
      refine r_iconst (np := 18) G 0 dX11_classes_17 rfl ?_
      refine r_istore (np := 20) G hl rfl [(4, vI 0), (3, vI 1), (0, .ref (eA E v0)), (1, vI v1), (2, vI v2)] dX11_classes_18 rfl (by decide) rfl (fun ls hl => ?_)
      exact wX11_classes_L20 l E out G hr hk v0 v1 v2 g0 (fun z3 zσ => mX11_classes_B55 v0 (mX11_classes_L4 v0 x73 n) x73 v1 v2 z3 zσ) (fun z3 zσ zH zl zs zm zM zv => wX11_classes_B55 l E out G hr hk v0 g0 (mX11_classes_L4 v0 x73 n) x73 ih hx73 v1 v2 z3 zσ zH zl zs zm zM zv) mF 1 0 _ _ _ _ hm hM (lv_sub hl [2, 3, 4, 1, 0] rfl)
set_option maxRecDepth 100000 in
set_option maxHeartbeats 4000000 in
theorem qX11_classes (l : Launch) (E : mE) (σ : mSt) (v0 : Nat) (out : Int × mSt) (hm : mX11_classes v0 σ = some out) : mMet l yX11_classes cX11_classes 5 (some .int) 1 24 E 257 [.ref (eA E v0)] σ (some (vI out.1)) out.2 := by
  unfold mX11_classes at hm
  obtain ⟨g0, hm⟩ := g_t hm
  refine m_entry (by decide +kernel) (Nat.le_of_ble_eq_true rfl) (fun p e s m args below meth c G hr hk hM ls hl => ?_)
  have G : CallFix p m c cX11_classes 5 s args mTs RX11 := G
  have hl : lv_has ls 5 [(0, .ref (eA E v0))] := hl
  refine r_iconst (np := 1) G 0 dX11_classes_0 rfl ?_
  refine r_istore_n (np := 2) G hl rfl [(1, vI 0), (0, .ref (eA E v0))] dX11_classes_1 rfl rfl (by decide) rfl (fun ls hl => ?_)
  refine r_iconst (np := 3) G 0 dX11_classes_2 rfl ?_
  refine r_istore_n (np := 4) G hl rfl [(2, vI 0), (1, vI 0), (0, .ref (eA E v0))] dX11_classes_3 rfl rfl (by decide) rfl (fun ls hl => ?_)
  exact wX11_classes_L4 l E out G hr hk v0 g0 (fun z1 zσ => mX11_classes_B73 v0 z1 zσ) (fun z1 zσ zH zl zs zm zM zv => wX11_classes_B73 l E out G hr hk v0 g0 z1 zσ zH zl zs zm zM zv) mF 0 0 _ _ _ _ hm hM (lv_sub hl [2, 1, 0] rfl)
theorem gX11_classes {v0 : Nat} {σ : mSt} {out : Int × mSt} (hm : mX11_classes v0 σ = some out) : isC v0 10 := (g_t hm).1
set_option maxRecDepth 100000 in
set_option maxHeartbeats 4000000 in
theorem wX11_isSplit_B44 (l : Launch) (E : mE) (out : Int × mSt) {p : Program} {e : Env} {s : State} {m : MethodId} {args : Array Value} {below : List Frame} {meth : Method} {c : Code} (G : CallFix p m c cX11_isSplit 2 s args mTs RX11) (hr : meth.sig.returnType = (some .boolean)) (hk : meth.locks = false) (v0 : Nat) (v1 : Int) (g0 : isC v0 10) : ∀ (σ : mSt) (H : Heap) (locs : List Loc) (ls : Array Slot), mX11_isSplit_B44 v0 v1 σ = some out → mM (mA E 257) E 257 σ s H locs → lv_has ls 2 [] → mGo l p e 3 75 s m args below meth c E (some (vI out.1)) out.2 H locs (F0 m 44 ls []) := by
  intro σ H locs ls hm hM hl
  unfold mX11_isSplit_B44 at hm
  refine r_iconst (np := 45) G 0 dX11_isSplit_44 rfl ?_
  exact r_zret G hr hk hM (Or.inl rfl) hm dX11_isSplit_45
set_option maxRecDepth 100000 in
set_option maxHeartbeats 4000000 in
theorem qX11_isSplit (l : Launch) (E : mE) (σ : mSt) (v0 : Nat) (v1 : Int) (out : Int × mSt) (hm : mX11_isSplit v0 v1 σ = some out) : mMet l yX11_isSplit cX11_isSplit 2 (some .boolean) 3 75 E 257 [.ref (eA E v0), vI v1] σ (some (vI out.1)) out.2 := by
  unfold mX11_isSplit at hm
  obtain ⟨g0, hm⟩ := g_t hm
  refine m_entry (by decide +kernel) (Nat.le_of_ble_eq_true rfl) (fun p e s m args below meth c G hr hk hM ls hl => ?_)
  have G : CallFix p m c cX11_isSplit 2 s args mTs RX11 := G
  have hl : lv_has ls 2 [(0, .ref (eA E v0)), (1, vI v1)] := hl
  refine r_aload_n (np := 1) G hl 0 rfl dX11_isSplit_0 rfl rfl ?_
  obtain ⟨r1, e2, hm⟩ := ref_t hm
  refine r_getR (np := 4) G hM (shp_lt g0 (by decide)) g0 e2 fdX11_5 lkX11_37 dX11_isSplit_1 rfl ?_
  refine r_iload_n (np := 5) G hl 1 rfl dX11_isSplit_4 rfl rfl ?_
  obtain ⟨b3, s4, e5, hm⟩ := call_t hm
  refine m_callVI (np := 8) G hM hl.1 [vI v1] (qX7_indexOf l E σ r1 v1 _ e5) myX7_indexOf (shp_lt (gX7_indexOf e5) (by decide)) (gX7_indexOf e5) rfl (by decide) lkX11_145 ⟨Nat.le_of_ble_eq_true rfl, Nat.le_of_ble_eq_true rfl⟩ ⟨Nat.le_of_ble_eq_true rfl, Nat.le_of_ble_eq_true rfl⟩ [] rfl (Nat.le_of_ble_eq_true rfl) dX11_isSplit_5 rfl (fun H locs hM => ?_)
  refine r_iconst (np := 9) G 1 dX11_isSplit_8 rfl ?_
  refine r_icmp_ne (np := 12) (tgt := 44) G rfl (wIk 1 rfl) dX11_isSplit_9 (by decide) rfl (fun h6 => ?_) (fun h6 => ?_)
  · have hm := b_f h6 hm
    exact wX11_isSplit_B44 l E out G hr hk v0 v1 g0 _ _ _ _ hm hM (lv_sub hl [] rfl)
  · have hm := b_t h6 hm
    refine r_aload_n (np := 13) G hl 0 rfl dX11_isSplit_12 rfl rfl ?_
    obtain ⟨r7, e8, hm⟩ := ref_t hm
    refine r_getR (np := 16) G hM (shp_lt g0 (by decide)) g0 e8 fdX11_9 lkX11_63 dX11_isSplit_13 rfl ?_
    refine r_aload_n (np := 17) G hl 0 rfl dX11_isSplit_16 rfl rfl ?_
    obtain ⟨r9, e10, hm⟩ := ref_t hm
    refine r_getR (np := 20) G hM (shp_lt g0 (by decide)) g0 e10 fdX11_3 lkX11_27 dX11_isSplit_17 rfl ?_
    refine r_iload_n (np := 21) G hl 1 rfl dX11_isSplit_20 rfl rfl ?_
    obtain ⟨b11, s12, e13, hm⟩ := call_t hm
    refine m_callVI (np := 24) G hM hl.1 [vI v1] (qX0_first l E s4 r9 v1 _ e13) myX0_first (shp_lt (gX0_first e13) (by decide)) (gX0_first e13) rfl (by decide) lkX11_106 ⟨Nat.le_of_ble_eq_true rfl, Nat.le_of_ble_eq_true rfl⟩ ⟨Nat.le_of_ble_eq_true rfl, Nat.le_of_ble_eq_true rfl⟩ [.ref (eA E r7)] rfl (Nat.le_of_ble_eq_true rfl) dX11_isSplit_21 rfl (fun H locs hM => ?_)
    refine r_i2l (np := 25) G rfl dX11_isSplit_24 rfl ?_
    refine r_aload_n (np := 26) G hl 0 rfl dX11_isSplit_25 rfl rfl ?_
    obtain ⟨r14, e15, hm⟩ := ref_t hm
    refine r_getR (np := 29) G hM (shp_lt g0 (by decide)) g0 e15 fdX11_3 lkX11_27 dX11_isSplit_26 rfl ?_
    refine r_iload_n (np := 30) G hl 1 rfl dX11_isSplit_29 rfl rfl ?_
    obtain ⟨b16, s17, e18, hm⟩ := call_t hm
    refine m_callVI (np := 33) G hM hl.1 [vI v1] (qX0_second l E s12 r14 v1 _ e18) myX0_second (shp_lt (gX0_second e18) (by decide)) (gX0_second e18) rfl (by decide) lkX11_110 ⟨Nat.le_of_ble_eq_true rfl, Nat.le_of_ble_eq_true rfl⟩ ⟨Nat.le_of_ble_eq_true rfl, Nat.le_of_ble_eq_true rfl⟩ [vL (wI b11), .ref (eA E r7)] rfl (Nat.le_of_ble_eq_true rfl) dX11_isSplit_30 rfl (fun H locs hM => ?_)
    refine r_i2l (np := 34) G rfl dX11_isSplit_33 rfl ?_
    obtain ⟨b19, s20, e21, hm⟩ := call_t hm
    refine m_callVI (np := 37) G hM hl.1 [vL (wI b11), vL (wI b16)] (qX9_solve l E s17 r7 (wI b11) (wI b16) _ e21) myX9_solve (shp_lt (gX9_solve e21) (by decide)) (gX9_solve e21) rfl (by decide) lkX11_224 ⟨Nat.le_of_ble_eq_true rfl, Nat.le_of_ble_eq_true rfl⟩ ⟨Nat.le_of_ble_eq_true rfl, Nat.le_of_ble_eq_true rfl⟩ [] rfl (Nat.le_of_ble_eq_true rfl) dX11_isSplit_34 rfl (fun H locs hM => ?_)
    refine r_if_eq (np := 40) (tgt := 44) G rfl dX11_isSplit_37 (by decide) rfl (fun h22 => ?_) (fun h22 => ?_)
    · have hm := b_t h22 hm
      exact wX11_isSplit_B44 l E out G hr hk v0 v1 g0 _ _ _ _ hm hM (lv_sub hl [] rfl)
    · have hm := b_f h22 hm
      refine r_iconst (np := 41) G 1 dX11_isSplit_40 rfl ?_
      refine r_goto (np := 45) G dX11_isSplit_41 (by decide) ?_
      exact r_zret G hr hk hM (Or.inr rfl) hm dX11_isSplit_45
theorem gX11_isSplit {v0 : Nat} {v1 : Int} {σ : mSt} {out : Int × mSt} (hm : mX11_isSplit v0 v1 σ = some out) : isC v0 10 := (g_t hm).1
set_option maxRecDepth 100000 in
set_option maxHeartbeats 4000000 in
theorem qX11_solution (l : Launch) (E : mE) (σ : mSt) (v0 : Nat) (v1 : Int) (v2 : Int) (out : Int × mSt) (hm : mX11_solution v0 v1 v2 σ = some out) : mMet l yX11_solution cX11_solution 3 (some .int) 4 96 E 257 [.ref (eA E v0), vI v1, vI v2] σ (some (vI out.1)) out.2 := by
  unfold mX11_solution at hm
  obtain ⟨g0, hm⟩ := g_t hm
  refine m_entry (by decide +kernel) (Nat.le_of_ble_eq_true rfl) (fun p e s m args below meth c G hr hk hM ls hl => ?_)
  have G : CallFix p m c cX11_solution 3 s args mTs RX11 := G
  have hl : lv_has ls 3 [(0, .ref (eA E v0)), (1, vI v1), (2, vI v2)] := hl
  refine r_aload_n (np := 1) G hl 0 rfl dX11_solution_0 rfl rfl ?_
  refine r_iload_n (np := 2) G hl 1 rfl dX11_solution_1 rfl rfl ?_
  obtain ⟨b1, s2, e3, hm⟩ := call_t hm
  refine m_callVI (np := 5) G hM hl.1 [vI v1] (qX11_isQuaternion l E σ v0 v1 _ e3) myX11_isQuaternion (shp_lt (gX11_isQuaternion e3) (by decide)) (gX11_isQuaternion e3) rfl (by decide) lkX11_102 ⟨Nat.le_of_ble_eq_true rfl, Nat.le_of_ble_eq_true rfl⟩ ⟨Nat.le_of_ble_eq_true rfl, Nat.le_of_ble_eq_true rfl⟩ [] rfl (Nat.le_of_ble_eq_true rfl) dX11_solution_2 rfl (fun H locs hM => ?_)
  refine r_if_eq (np := 8) (tgt := 17) G rfl dX11_solution_5 (by decide) rfl (fun h4 => ?_) (fun h4 => ?_)
  · have hm := b_t h4 hm
    refine r_iconst (np := 18) G (-1) dX11_solution_17 rfl ?_
    exact r_iret G hr hk hM hm dX11_solution_18
  · have hm := b_f h4 hm
    refine r_iload_n (np := 9) G hl 2 rfl dX11_solution_8 rfl rfl ?_
    refine r_if_lt (np := 12) (tgt := 17) G rfl dX11_solution_9 (by decide) rfl (fun h5 => ?_) (fun h5 => ?_)
    · have hm := b_t h5 hm
      refine r_iconst (np := 18) G (-1) dX11_solution_17 rfl ?_
      exact r_iret G hr hk hM hm dX11_solution_18
    · have hm := b_f h5 hm
      refine r_iload_n (np := 13) G hl 2 rfl dX11_solution_12 rfl rfl ?_
      refine r_iconst (np := 14) G 2 dX11_solution_13 rfl ?_
      refine r_icmp_le (np := 17) (tgt := 19) G rfl (wIk 2 rfl) dX11_solution_14 (by decide) rfl (fun h6 => ?_) (fun h6 => ?_)
      · have hm := b_t h6 hm
        refine r_aload_n (np := 20) G hl 0 rfl dX11_solution_19 rfl rfl ?_
        refine r_iload_n (np := 21) G hl 1 rfl dX11_solution_20 rfl rfl ?_
        obtain ⟨b7, s8, e9, hm⟩ := call_t hm
        refine m_callVI (np := 24) G hM hl.1 [vI v1] (qX11_isSplit l E s2 v0 v1 _ e9) myX11_isSplit (shp_lt (gX11_isSplit e9) (by decide)) (gX11_isSplit e9) rfl (by decide) lkX11_211 ⟨Nat.le_of_ble_eq_true rfl, Nat.le_of_ble_eq_true rfl⟩ ⟨Nat.le_of_ble_eq_true rfl, Nat.le_of_ble_eq_true rfl⟩ [] rfl (Nat.le_of_ble_eq_true rfl) dX11_solution_21 rfl (fun H locs hM => ?_)
        refine r_if_ne (np := 27) (tgt := 30) G rfl dX11_solution_24 (by decide) rfl (fun h10 => ?_) (fun h10 => ?_)
        · have hm := b_f h10 hm
          refine r_aload_n (np := 31) G hl 0 rfl dX11_solution_30 rfl rfl ?_
          obtain ⟨r11, e12, hm⟩ := ref_t hm
          refine r_getR (np := 34) G hM (shp_lt g0 (by decide)) g0 e12 fdX11_9 lkX11_63 dX11_solution_31 rfl ?_
          refine r_iload_n (np := 35) G hl 2 rfl dX11_solution_34 rfl rfl ?_
          obtain ⟨b13, s14, e15, hm⟩ := call_t hm
          refine m_callVI (np := 38) G hM hl.1 [vI v2] (qX9_part l E s8 r11 v2 _ e15) myX9_part (shp_lt (gX9_part e15) (by decide)) (gX9_part e15) rfl (by decide) lkX11_214 ⟨Nat.le_of_ble_eq_true rfl, Nat.le_of_ble_eq_true rfl⟩ ⟨Nat.le_of_ble_eq_true rfl, Nat.le_of_ble_eq_true rfl⟩ [] rfl (Nat.le_of_ble_eq_true rfl) dX11_solution_35 rfl (fun H locs hM => ?_)
          exact r_iret G hr hk hM hm dX11_solution_38
        · have hm := b_t h10 hm
          refine r_bipush (np := 29) G (-2) dX11_solution_27 (by decide) rfl ?_
          exact r_iret G hr hk hM hm dX11_solution_29
      · have hm := b_f h6 hm
        refine r_iconst (np := 18) G (-1) dX11_solution_17 rfl ?_
        exact r_iret G hr hk hM hm dX11_solution_18
theorem gX11_solution {v0 : Nat} {v1 : Int} {v2 : Int} {σ : mSt} {out : Int × mSt} (hm : mX11_solution v0 v1 v2 σ = some out) : isC v0 10 := (g_t hm).1
set_option maxRecDepth 100000 in
set_option maxHeartbeats 4000000 in
theorem qX11_disc (l : Launch) (E : mE) (σ : mSt) (v0 : Nat) (v1 : Int) (out : Int × mSt) (hm : mX11_disc v0 v1 σ = some out) : mMet l yX11_disc cX11_disc 2 (some .int) 5 118 E 257 [.ref (eA E v0), vI v1] σ (some (vI out.1)) out.2 := by
  unfold mX11_disc at hm
  obtain ⟨g0, hm⟩ := g_t hm
  refine m_entry (by decide +kernel) (Nat.le_of_ble_eq_true rfl) (fun p e s m args below meth c G hr hk hM ls hl => ?_)
  have G : CallFix p m c cX11_disc 2 s args mTs RX11 := G
  have hl : lv_has ls 2 [(0, .ref (eA E v0)), (1, vI v1)] := hl
  refine r_aload_n (np := 1) G hl 0 rfl dX11_disc_0 rfl rfl ?_
  refine r_iload_n (np := 2) G hl 1 rfl dX11_disc_1 rfl rfl ?_
  obtain ⟨b1, s2, e3, hm⟩ := call_t hm
  refine m_callVI (np := 5) G hM hl.1 [vI v1] (qX11_isQuaternion l E σ v0 v1 _ e3) myX11_isQuaternion (shp_lt (gX11_isQuaternion e3) (by decide)) (gX11_isQuaternion e3) rfl (by decide) lkX11_102 ⟨Nat.le_of_ble_eq_true rfl, Nat.le_of_ble_eq_true rfl⟩ ⟨Nat.le_of_ble_eq_true rfl, Nat.le_of_ble_eq_true rfl⟩ [] rfl (Nat.le_of_ble_eq_true rfl) dX11_disc_2 rfl (fun H locs hM => ?_)
  refine r_if_eq (np := 8) (tgt := 21) G rfl dX11_disc_5 (by decide) rfl (fun h4 => ?_) (fun h4 => ?_)
  · have hm := b_t h4 hm
    refine r_iconst (np := 22) G (-1) dX11_disc_21 rfl ?_
    exact r_iret G hr hk hM hm dX11_disc_22
  · have hm := b_f h4 hm
    refine r_aload_n (np := 9) G hl 0 rfl dX11_disc_8 rfl rfl ?_
    obtain ⟨r5, e6, hm⟩ := ref_t hm
    refine r_getR (np := 12) G hM (shp_lt g0 (by decide)) g0 e6 fdX11_7 lkX11_49 dX11_disc_9 rfl ?_
    refine r_iload_n (np := 13) G hl 1 rfl dX11_disc_12 rfl rfl ?_
    obtain ⟨g7, hm⟩ := g_t hm
    obtain ⟨r8, e9, hm⟩ := ref_t hm
    refine r_aaload (np := 14) G hM (t := 4) g7 rfl ⟨by decide, by decide⟩ rfl rfl e9 dX11_disc_13 rfl ?_
    obtain ⟨b10, s11, e12, hm⟩ := call_t hm
    refine m_callVL (np := 17) G hM hl.1 [] (qX6_discriminant l E s2 r8 _ e12) myX6_discriminant (shp_lt (gX6_discriminant e12) (by decide)) (gX6_discriminant e12) rfl (by decide) lkX11_228 ⟨Nat.le_of_ble_eq_true rfl, Nat.le_of_ble_eq_true rfl⟩ ⟨Nat.le_of_ble_eq_true rfl, Nat.le_of_ble_eq_true rfl⟩ [] rfl (Nat.le_of_ble_eq_true rfl) dX11_disc_14 rfl (fun H locs hM => ?_)
    refine r_l2i (np := 18) G dX11_disc_17 rfl ?_
    refine r_goto (np := 22) G dX11_disc_18 (by decide) ?_
    exact r_iret G hr hk hM hm dX11_disc_22
theorem gX11_disc {v0 : Nat} {v1 : Int} {σ : mSt} {out : Int × mSt} (hm : mX11_disc v0 v1 σ = some out) : isC v0 10 := (g_t hm).1
