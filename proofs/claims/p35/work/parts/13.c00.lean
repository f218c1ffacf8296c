theorem lkX10_72 : Cond.methodLink RX10 72 yJ0_length_8abf5 ∈ mTs := mTs_in 560 (by decide +kernel) (by decide +kernel)
theorem lkX10_78 : Cond.methodLink RX10 78 yJ0_charAt_5068e ∈ mTs := mTs_in 565 (by decide +kernel) (by decide +kernel)
theorem lkX10_82 : Cond.methodLink RX10 82 yX10_byteAt ∈ mTs := mTs_in 566 (by decide +kernel) (by decide +kernel)
theorem lkX10_77 : Cond.methodLink RX10 77 yX10_length ∈ mTs := mTs_in 561 (by decide +kernel) (by decide +kernel)
theorem lkX10_60 : Cond.methodLink RX10 60 yX10_isWord ∈ mTs := mTs_in 556 (by decide +kernel) (by decide +kernel)
theorem myX10_isWord : mYV yX10_isWord cX10_isWord 4 (some .boolean) 1 := ⟨⟨mTs_in 559 (by decide +kernel) (by decide +kernel), mTs_in 32 (by decide +kernel) (by decide +kernel), ⟨by decide, by decide⟩, by decide +kernel⟩, mTs_in 558 (by decide +kernel) (by decide +kernel), mTs_in 9 (by decide +kernel) (by decide +kernel)⟩
theorem lkX10_68 : Cond.methodLink RX10 68 yX10_lineKind ∈ mTs := mTs_in 593 (by decide +kernel) (by decide +kernel)
theorem myX10_lineKind : mYV yX10_lineKind cX10_lineKind 1 (some .int) 0 := ⟨⟨mTs_in 554 (by decide +kernel) (by decide +kernel), mTs_in 32 (by decide +kernel) (by decide +kernel), ⟨by decide, by decide⟩, by decide +kernel⟩, mTs_in 552 (by decide +kernel) (by decide +kernel), mTs_in 553 (by decide +kernel) (by decide +kernel)⟩
theorem lkX8_79 : Cond.methodLink RX8 79 yX10_isName ∈ mTs := mTs_in 589 (by decide +kernel) (by decide +kernel)
theorem myX10_isName : mYV yX10_isName cX10_isName 1 (some .boolean) 0 := ⟨⟨mTs_in 592 (by decide +kernel) (by decide +kernel), mTs_in 32 (by decide +kernel) (by decide +kernel), ⟨by decide, by decide⟩, by decide +kernel⟩, mTs_in 590 (by decide +kernel) (by decide +kernel), mTs_in 591 (by decide +kernel) (by decide +kernel)⟩
theorem lkX8_82 : Cond.methodLink RX8 82 yX0_find ∈ mTs := mTs_in 594 (by decide +kernel) (by decide +kernel)
theorem myX0_find : mYV yX0_find cX0_find 3 (some .int) 1 := ⟨⟨mTs_in 597 (by decide +kernel) (by decide +kernel), mTs_in 33 (by decide +kernel) (by decide +kernel), ⟨by decide, by decide⟩, by decide +kernel⟩, mTs_in 595 (by decide +kernel) (by decide +kernel), mTs_in 596 (by decide +kernel) (by decide +kernel)⟩
theorem lkX8_86 : Cond.methodLink RX8 86 yX0_begin ∈ mTs := mTs_in 604 (by decide +kernel) (by decide +kernel)
theorem myX0_begin : mYV yX0_begin cX0_begin 4 none 2 := ⟨⟨mTs_in 607 (by decide +kernel) (by decide +kernel), mTs_in 33 (by decide +kernel) (by decide +kernel), ⟨by decide, by decide⟩, by decide +kernel⟩, mTs_in 605 (by decide +kernel) (by decide +kernel), mTs_in 606 (by decide +kernel) (by decide +kernel)⟩
theorem lkX8_131 : Cond.methodLink RX8 131 yX0_addTerm ∈ mTs := mTs_in 667 (by decide +kernel) (by decide +kernel)
theorem myX0_addTerm : mYV yX0_addTerm cX0_addTerm 3 none 2 := ⟨⟨mTs_in 670 (by decide +kernel) (by decide +kernel), mTs_in 33 (by decide +kernel) (by decide +kernel), ⟨by decide, by decide⟩, by decide +kernel⟩, mTs_in 668 (by decide +kernel) (by decide +kernel), mTs_in 669 (by decide +kernel) (by decide +kernel)⟩
theorem lkX8_125 : Cond.methodLink RX8 125 yX8_isSign ∈ mTs := mTs_in 659 (by decide +kernel) (by decide +kernel)
theorem myX8_isSign : mYV yX8_isSign cX8_isSign 1 (some .boolean) 0 := ⟨⟨mTs_in 662 (by decide +kernel) (by decide +kernel), mTs_in 31 (by decide +kernel) (by decide +kernel), ⟨by decide, by decide⟩, by decide +kernel⟩, mTs_in 661 (by decide +kernel) (by decide +kernel), mTs_in 18 (by decide +kernel) (by decide +kernel)⟩
theorem lkX8_128 : Cond.methodLink RX8 128 yX0_hasAllTerms ∈ mTs := mTs_in 663 (by decide +kernel) (by decide +kernel)
theorem lkX8_76 : Cond.methodLink RX8 76 yX0_finish ∈ mTs := mTs_in 672 (by decide +kernel) (by decide +kernel)
theorem myX0_finish : mYV yX0_finish cX0_finish 1 none 0 := ⟨⟨mTs_in 675 (by decide +kernel) (by decide +kernel), mTs_in 33 (by decide +kernel) (by decide +kernel), ⟨by decide, by decide⟩, by decide +kernel⟩, mTs_in 673 (by decide +kernel) (by decide +kernel), mTs_in 674 (by decide +kernel) (by decide +kernel)⟩
theorem lkX8_52 : Cond.methodLink RX8 52 yX10_lineKind ∈ mTs := mTs_in 551 (by decide +kernel) (by decide +kernel)
theorem lkX8_58 : Cond.methodLink RX8 58 yX0_isFull ∈ mTs := mTs_in 580 (by decide +kernel) (by decide +kernel)
theorem lkX8_64 : Cond.methodLink RX8 64 yX8_readNewName ∈ mTs := mTs_in 585 (by decide +kernel) (by decide +kernel)
theorem myX8_readNewName : mYV yX8_readNewName cX8_readNewName 2 (some .boolean) 1 := ⟨⟨mTs_in 588 (by decide +kernel) (by decide +kernel), mTs_in 31 (by decide +kernel) (by decide +kernel), ⟨by decide, by decide⟩, by decide +kernel⟩, mTs_in 587 (by decide +kernel) (by decide +kernel), mTs_in 11 (by decide +kernel) (by decide +kernel)⟩
theorem lkX8_73 : Cond.methodLink RX8 73 yX8_readTerms ∈ mTs := mTs_in 655 (by decide +kernel) (by decide +kernel)
theorem myX8_readTerms : mYV yX8_readTerms cX8_readTerms 4 (some .boolean) 0 := ⟨⟨mTs_in 658 (by decide +kernel) (by decide +kernel), mTs_in 31 (by decide +kernel) (by decide +kernel), ⟨by decide, by decide⟩, by decide +kernel⟩, mTs_in 657 (by decide +kernel) (by decide +kernel), mTs_in 17 (by decide +kernel) (by decide +kernel)⟩
theorem lkX8_70 : Cond.methodLink RX8 70 yX8_readField ∈ mTs := mTs_in 641 (by decide +kernel) (by decide +kernel)
theorem myX8_readField : mYV yX8_readField cX8_readField 3 (some .boolean) 0 := ⟨⟨mTs_in 644 (by decide +kernel) (by decide +kernel), mTs_in 31 (by decide +kernel) (by decide +kernel), ⟨by decide, by decide⟩, by decide +kernel⟩, mTs_in 643 (by decide +kernel) (by decide +kernel), mTs_in 15 (by decide +kernel) (by decide +kernel)⟩
theorem lkX8_67 : Cond.methodLink RX8 67 yX8_readSides ∈ mTs := mTs_in 609 (by decide +kernel) (by decide +kernel)
theorem myX8_readSides : mYV yX8_readSides cX8_readSides 1 (some .boolean) 0 := ⟨⟨mTs_in 612 (by decide +kernel) (by decide +kernel), mTs_in 31 (by decide +kernel) (by decide +kernel), ⟨by decide, by decide⟩, by decide +kernel⟩, mTs_in 611 (by decide +kernel) (by decide +kernel), mTs_in 13 (by decide +kernel) (by decide +kernel)⟩
theorem lkX8_40 : Cond.methodLink RX8 40 yX8_readLine ∈ mTs := mTs_in 547 (by decide +kernel) (by decide +kernel)
theorem myX8_readLine : mYV yX8_readLine cX8_readLine 2 (some .boolean) 0 := ⟨⟨mTs_in 550 (by decide +kernel) (by decide +kernel), mTs_in 31 (by decide +kernel) (by decide +kernel), ⟨by decide, by decide⟩, by decide +kernel⟩, mTs_in 549 (by decide +kernel) (by decide +kernel), mTs_in 8 (by decide +kernel) (by decide +kernel)⟩
theorem ptX8_1 : mPut 7 1 2 4 RX8 TX8 tyX8 (.object "MiddleAlgebras$Book") := ⟨fdX8_1, tyX8_ok, nmX8, (by decide +kernel), rfl⟩
theorem lkX8_33 : Cond.methodLink RX8 33 yX0_clear ∈ mTs := mTs_in 519 (by decide +kernel) (by decide +kernel)
theorem myX0_clear : mYV yX0_clear cX0_clear 1 none 0 := ⟨⟨mTs_in 522 (by decide +kernel) (by decide +kernel), mTs_in 33 (by decide +kernel) (by decide +kernel), ⟨by decide, by decide⟩, by decide +kernel⟩, mTs_in 520 (by decide +kernel) (by decide +kernel), mTs_in 521 (by decide +kernel) (by decide +kernel)⟩
theorem lkX8_36 : Cond.methodLink RX8 36 yX10_begin ∈ mTs := mTs_in 523 (by decide +kernel) (by decide +kernel)
theorem myX10_begin : mYV yX10_begin cX10_begin 3 none 2 := ⟨⟨mTs_in 526 (by decide +kernel) (by decide +kernel), mTs_in 32 (by decide +kernel) (by decide +kernel), ⟨by decide, by decide⟩, by decide +kernel⟩, mTs_in 524 (by decide +kernel) (by decide +kernel), mTs_in 525 (by decide +kernel) (by decide +kernel)⟩
theorem lkX11_20 : Cond.fieldLink RX11 20 (TX11 2).1 (TX11 2).2.1 (TX11 2).2.2.1 ∈ mTs := mTs_in 295 (by decide +kernel) (by decide +kernel)
theorem fdX11_2 : mFld 10 2 2 12 RX11 TX11 := ⟨rfl, inX11, by decide, rfl, by decide⟩
theorem lkX11_31 : Cond.fieldLink RX11 31 (TX11 4).1 (TX11 4).2.1 (TX11 4).2.2.1 ∈ mTs := mTs_in 297 (by decide +kernel) (by decide +kernel)
theorem fdX11_4 : mFld 10 4 2 12 RX11 TX11 := ⟨rfl, inX11, by decide, rfl, by decide⟩
theorem lkX11_84 : Cond.methodLink RX11 84 yX8_readText ∈ mTs := mTs_in 515 (by decide +kernel) (by decide +kernel)
theorem myX8_readText : mYV yX8_readText cX8_readText 6 (some .int) 3 := ⟨⟨mTs_in 518 (by decide +kernel) (by decide +kernel), mTs_in 31 (by decide +kernel) (by decide +kernel), ⟨by decide, by decide⟩, by decide +kernel⟩, mTs_in 516 (by decide +kernel) (by decide +kernel), mTs_in 517 (by decide +kernel) (by decide +kernel)⟩
theorem ptX11_3 : mPut 10 3 2 12 RX11 TX11 tyX11 (.object "MiddleAlgebras$Book") := ⟨fdX11_3, tyX11_ok, nmX11, (by decide +kernel), rfl⟩
theorem ptX11_4 : mPut 10 4 2 12 RX11 TX11 tyX11 (.object "MiddleAlgebras$Book") := ⟨fdX11_4, tyX11_ok, nmX11, (by decide +kernel), rfl⟩
theorem lkX11_88 : Cond.methodLink RX11 88 yX11_beginAnew ∈ mTs := mTs_in 676 (by decide +kernel) (by decide +kernel)
theorem myX11_beginAnew : mYV yX11_beginAnew cX11_beginAnew 2 none 0 := ⟨⟨mTs_in 679 (by decide +kernel) (by decide +kernel), mTs_in 30 (by decide +kernel) (by decide +kernel), ⟨by decide, by decide⟩, by decide +kernel⟩, mTs_in 678 (by decide +kernel) (by decide +kernel), mTs_in 19 (by decide +kernel) (by decide +kernel)⟩
theorem dX10_isWord_0 : decode cX10_isWord 0 = .ok (.aload_n 0, 1) := by decide +kernel
theorem dX10_isWord_1 : decode cX10_isWord 1 = .ok (.getfield 25, 3) := by decide +kernel
theorem dX10_isWord_4 : decode cX10_isWord 4 = .ok (.iconst 1, 1) := by decide +kernel
theorem dX10_isWord_5 : decode cX10_isWord 5 = .ok (.if_icmp .ne 18, 3) := by decide +kernel
theorem dX10_isWord_8 : decode cX10_isWord 8 = .ok (.aload_n 1, 1) := by decide +kernel
theorem dX10_isWord_9 : decode cX10_isWord 9 = .ok (.invokevirtual 72, 3) := by decide +kernel
theorem dX10_isWord_12 : decode cX10_isWord 12 = .ok (.aload_n 0, 1) := by decide +kernel
theorem dX10_isWord_13 : decode cX10_isWord 13 = .ok (.invokevirtual 77, 3) := by decide +kernel
theorem dX10_isWord_16 : decode cX10_isWord 16 = .ok (.if_icmp .ne 7, 3) := by decide +kernel
theorem dX10_isWord_19 : decode cX10_isWord 19 = .ok (.iconst 1, 1) := by decide +kernel
theorem dX10_isWord_20 : decode cX10_isWord 20 = .ok (.goto 4, 3) := by decide +kernel
theorem dX10_isWord_23 : decode cX10_isWord 23 = .ok (.iconst 0, 1) := by decide +kernel
theorem dX10_isWord_24 : decode cX10_isWord 24 = .ok (.istore_n 2, 1) := by decide +kernel
theorem dX10_isWord_25 : decode cX10_isWord 25 = .ok (.iconst 0, 1) := by decide +kernel
theorem dX10_isWord_26 : decode cX10_isWord 26 = .ok (.istore_n 3, 1) := by decide +kernel
theorem dX10_isWord_27 : decode cX10_isWord 27 = .ok (.iload_n 3, 1) := by decide +kernel
theorem dX10_isWord_28 : decode cX10_isWord 28 = .ok (.aload_n 1, 1) := by decide +kernel
theorem dX10_isWord_29 : decode cX10_isWord 29 = .ok (.invokevirtual 72, 3) := by decide +kernel
theorem dX10_isWord_32 : decode cX10_isWord 32 = .ok (.if_icmp .ge 32, 3) := by decide +kernel
theorem dX10_isWord_35 : decode cX10_isWord 35 = .ok (.iload_n 2, 1) := by decide +kernel
theorem dX10_isWord_36 : decode cX10_isWord 36 = .ok (.ifCond .eq 28, 3) := by decide +kernel
theorem dX10_isWord_39 : decode cX10_isWord 39 = .ok (.aload_n 1, 1) := by decide +kernel
theorem dX10_isWord_40 : decode cX10_isWord 40 = .ok (.iload_n 3, 1) := by decide +kernel
theorem dX10_isWord_41 : decode cX10_isWord 41 = .ok (.invokevirtual 78, 3) := by decide +kernel
theorem dX10_isWord_44 : decode cX10_isWord 44 = .ok (.aload_n 0, 1) := by decide +kernel
theorem dX10_isWord_45 : decode cX10_isWord 45 = .ok (.iload_n 3, 1) := by decide +kernel
theorem dX10_isWord_46 : decode cX10_isWord 46 = .ok (.invokevirtual 82, 3) := by decide +kernel
theorem dX10_isWord_49 : decode cX10_isWord 49 = .ok (.if_icmp .ne 7, 3) := by decide +kernel
theorem dX10_isWord_52 : decode cX10_isWord 52 = .ok (.iconst 1, 1) := by decide +kernel
theorem dX10_isWord_53 : decode cX10_isWord 53 = .ok (.goto 4, 3) := by decide +kernel
theorem dX10_isWord_56 : decode cX10_isWord 56 = .ok (.iconst 0, 1) := by decide +kernel
theorem dX10_isWord_57 : decode cX10_isWord 57 = .ok (.istore_n 2, 1) := by decide +kernel
theorem dX10_isWord_58 : decode cX10_isWord 58 = .ok (.iinc 3 1, 3) := by decide +kernel
theorem dX10_isWord_61 : decode cX10_isWord 61 = .ok (.goto (-34), 3) := by decide +kernel
theorem dX10_isWord_64 : decode cX10_isWord 64 = .ok (.iload_n 2, 1) := by decide +kernel
theorem dX10_isWord_65 : decode cX10_isWord 65 = .ok (.ireturn, 1) := by decide +kernel
theorem dX10_lineKind_0 : decode cX10_lineKind 0 = .ok (.aload_n 0, 1) := by decide +kernel
theorem dX10_lineKind_1 : decode cX10_lineKind 1 = .ok (.ldc 58, 2) := by decide +kernel
theorem dX10_lineKind_3 : decode cX10_lineKind 3 = .ok (.invokevirtual 60, 3) := by decide +kernel
theorem dX10_lineKind_6 : decode cX10_lineKind 6 = .ok (.ifCond .eq 5, 3) := by decide +kernel
theorem dX10_lineKind_9 : decode cX10_lineKind 9 = .ok (.iconst 0, 1) := by decide +kernel
theorem dX10_lineKind_10 : decode cX10_lineKind 10 = .ok (.ireturn, 1) := by decide +kernel
theorem dX10_lineKind_11 : decode cX10_lineKind 11 = .ok (.aload_n 0, 1) := by decide +kernel
theorem dX10_lineKind_12 : decode cX10_lineKind 12 = .ok (.ldc 64, 2) := by decide +kernel
theorem dX10_lineKind_14 : decode cX10_lineKind 14 = .ok (.invokevirtual 60, 3) := by decide +kernel
theorem dX10_lineKind_17 : decode cX10_lineKind 17 = .ok (.ifCond .eq 5, 3) := by decide +kernel
theorem dX10_lineKind_20 : decode cX10_lineKind 20 = .ok (.iconst 1, 1) := by decide +kernel
theorem dX10_lineKind_21 : decode cX10_lineKind 21 = .ok (.ireturn, 1) := by decide +kernel
theorem dX10_lineKind_22 : decode cX10_lineKind 22 = .ok (.aload_n 0, 1) := by decide +kernel
theorem dX10_lineKind_23 : decode cX10_lineKind 23 = .ok (.ldc 66, 2) := by decide +kernel
theorem dX10_lineKind_25 : decode cX10_lineKind 25 = .ok (.invokevirtual 60, 3) := by decide +kernel
theorem dX10_lineKind_28 : decode cX10_lineKind 28 = .ok (.ifCond .eq 7, 3) := by decide +kernel
theorem dX10_lineKind_31 : decode cX10_lineKind 31 = .ok (.iconst 2, 1) := by decide +kernel
theorem dX10_lineKind_32 : decode cX10_lineKind 32 = .ok (.goto 4, 3) := by decide +kernel
theorem dX10_lineKind_35 : decode cX10_lineKind 35 = .ok (.iconst (-1), 1) := by decide +kernel
theorem dX10_lineKind_36 : decode cX10_lineKind 36 = .ok (.ireturn, 1) := by decide +kernel
theorem dX10_isName_0 : decode cX10_isName 0 = .ok (.aload_n 0, 1) := by decide +kernel
theorem dX10_isName_1 : decode cX10_isName 1 = .ok (.getfield 25, 3) := by decide +kernel
theorem dX10_isName_4 : decode cX10_isName 4 = .ok (.iconst 1, 1) := by decide +kernel
theorem dX10_isName_5 : decode cX10_isName 5 = .ok (.if_icmp .ne 15, 3) := by decide +kernel
theorem dX10_isName_8 : decode cX10_isName 8 = .ok (.aload_n 0, 1) := by decide +kernel
theorem dX10_isName_9 : decode cX10_isName 9 = .ok (.invokevirtual 68, 3) := by decide +kernel
theorem dX10_isName_12 : decode cX10_isName 12 = .ok (.iconst (-1), 1) := by decide +kernel
theorem dX10_isName_13 : decode cX10_isName 13 = .ok (.if_icmp .ne 7, 3) := by decide +kernel
theorem dX10_isName_16 : decode cX10_isName 16 = .ok (.iconst 1, 1) := by decide +kernel
theorem dX10_isName_17 : decode cX10_isName 17 = .ok (.goto 4, 3) := by decide +kernel
theorem dX10_isName_20 : decode cX10_isName 20 = .ok (.iconst 0, 1) := by decide +kernel
theorem dX10_isName_21 : decode cX10_isName 21 = .ok (.ireturn, 1) := by decide +kernel
theorem dX8_readNewName_0 : decode cX8_readNewName 0 = .ok (.aload_n 0, 1) := by decide +kernel
theorem dX8_readNewName_1 : decode cX8_readNewName 1 = .ok (.getfield 12, 3) := by decide +kernel
theorem dX8_readNewName_4 : decode cX8_readNewName 4 = .ok (.invokevirtual 79, 3) := by decide +kernel
theorem dX8_readNewName_7 : decode cX8_readNewName 7 = .ok (.ifCond .ne 9, 3) := by decide +kernel
theorem dX8_readNewName_10 : decode cX8_readNewName 10 = .ok (.aload_n 0, 1) := by decide +kernel
theorem dX8_readNewName_11 : decode cX8_readNewName 11 = .ok (.iconst 1, 1) := by decide +kernel
theorem dX8_readNewName_12 : decode cX8_readNewName 12 = .ok (.invokevirtual 55, 3) := by decide +kernel
theorem dX8_readNewName_15 : decode cX8_readNewName 15 = .ok (.ireturn, 1) := by decide +kernel
theorem dX8_readNewName_16 : decode cX8_readNewName 16 = .ok (.aload_n 0, 1) := by decide +kernel
theorem dX8_readNewName_17 : decode cX8_readNewName 17 = .ok (.getfield 21, 3) := by decide +kernel
theorem dX8_readNewName_20 : decode cX8_readNewName 20 = .ok (.aload_n 0, 1) := by decide +kernel
theorem dX8_readNewName_21 : decode cX8_readNewName 21 = .ok (.getfield 12, 3) := by decide +kernel
theorem dX8_readNewName_24 : decode cX8_readNewName 24 = .ok (.invokevirtual 82, 3) := by decide +kernel
theorem dX8_readNewName_27 : decode cX8_readNewName 27 = .ok (.iconst (-1), 1) := by decide +kernel
theorem dX8_readNewName_28 : decode cX8_readNewName 28 = .ok (.if_icmp .eq 9, 3) := by decide +kernel
theorem dX8_readNewName_31 : decode cX8_readNewName 31 = .ok (.aload_n 0, 1) := by decide +kernel
theorem dX8_readNewName_32 : decode cX8_readNewName 32 = .ok (.iconst 2, 1) := by decide +kernel
theorem dX8_readNewName_33 : decode cX8_readNewName 33 = .ok (.invokevirtual 55, 3) := by decide +kernel
theorem dX8_readNewName_36 : decode cX8_readNewName 36 = .ok (.ireturn, 1) := by decide +kernel
theorem dX8_readNewName_37 : decode cX8_readNewName 37 = .ok (.aload_n 0, 1) := by decide +kernel
theorem dX8_readNewName_38 : decode cX8_readNewName 38 = .ok (.getfield 21, 3) := by decide +kernel
theorem dX8_readNewName_41 : decode cX8_readNewName 41 = .ok (.iload_n 1, 1) := by decide +kernel
theorem dX8_readNewName_42 : decode cX8_readNewName 42 = .ok (.aload_n 0, 1) := by decide +kernel
theorem dX8_readNewName_43 : decode cX8_readNewName 43 = .ok (.getfield 12, 3) := by decide +kernel
theorem dX8_readNewName_46 : decode cX8_readNewName 46 = .ok (.invokevirtual 86, 3) := by decide +kernel
theorem dX8_readNewName_49 : decode cX8_readNewName 49 = .ok (.aload_n 0, 1) := by decide +kernel
theorem dX8_readNewName_50 : decode cX8_readNewName 50 = .ok (.getfield 12, 3) := by decide +kernel
theorem dX8_readNewName_53 : decode cX8_readNewName 53 = .ok (.invokevirtual 61, 3) := by decide +kernel
theorem dX8_readNewName_56 : decode cX8_readNewName 56 = .ok (.iconst 1, 1) := by decide +kernel
theorem dX8_readNewName_57 : decode cX8_readNewName 57 = .ok (.ireturn, 1) := by decide +kernel
theorem dX8_readTerms_0 : decode cX8_readTerms 0 = .ok (.aload_n 0, 1) := by decide +kernel
theorem dX8_readTerms_1 : decode cX8_readTerms 1 = .ok (.invokevirtual 125, 3) := by decide +kernel
theorem dX8_readTerms_4 : decode cX8_readTerms 4 = .ok (.ifCond .ne 9, 3) := by decide +kernel
theorem dX8_readTerms_7 : decode cX8_readTerms 7 = .ok (.aload_n 0, 1) := by decide +kernel
theorem dX8_readTerms_8 : decode cX8_readTerms 8 = .ok (.iconst 1, 1) := by decide +kernel
theorem dX8_readTerms_9 : decode cX8_readTerms 9 = .ok (.invokevirtual 55, 3) := by decide +kernel
theorem dX8_readTerms_12 : decode cX8_readTerms 12 = .ok (.ireturn, 1) := by decide +kernel
theorem dX8_readTerms_13 : decode cX8_readTerms 13 = .ok (.iconst 0, 1) := by decide +kernel
theorem dX8_readTerms_14 : decode cX8_readTerms 14 = .ok (.istore_n 1, 1) := by decide +kernel
theorem dX8_readTerms_15 : decode cX8_readTerms 15 = .ok (.iload_n 1, 1) := by decide +kernel
theorem dX8_readTerms_16 : decode cX8_readTerms 16 = .ok (.iconst 4, 1) := by decide +kernel
theorem dX8_readTerms_17 : decode cX8_readTerms 17 = .ok (.if_icmp .gt 111, 3) := by decide +kernel
theorem dX8_readTerms_20 : decode cX8_readTerms 20 = .ok (.aload_n 0, 1) := by decide +kernel
theorem dX8_readTerms_21 : decode cX8_readTerms 21 = .ok (.invokevirtual 125, 3) := by decide +kernel
theorem dX8_readTerms_24 : decode cX8_readTerms 24 = .ok (.ifCond .eq 104, 3) := by decide +kernel
theorem dX8_readTerms_27 : decode cX8_readTerms 27 = .ok (.aload_n 0, 1) := by decide +kernel
theorem dX8_readTerms_28 : decode cX8_readTerms 28 = .ok (.getfield 21, 3) := by decide +kernel
theorem dX8_readTerms_31 : decode cX8_readTerms 31 = .ok (.invokevirtual 128, 3) := by decide +kernel
theorem dX8_readTerms_34 : decode cX8_readTerms 34 = .ok (.ifCond .eq 9, 3) := by decide +kernel
theorem dX8_readTerms_37 : decode cX8_readTerms 37 = .ok (.aload_n 0, 1) := by decide +kernel
theorem dX8_readTerms_38 : decode cX8_readTerms 38 = .ok (.iconst 5, 1) := by decide +kernel
theorem dX8_readTerms_39 : decode cX8_readTerms 39 = .ok (.invokevirtual 55, 3) := by decide +kernel
theorem dX8_readTerms_42 : decode cX8_readTerms 42 = .ok (.ireturn, 1) := by decide +kernel
theorem dX8_readTerms_43 : decode cX8_readTerms 43 = .ok (.aload_n 0, 1) := by decide +kernel
theorem dX8_readTerms_44 : decode cX8_readTerms 44 = .ok (.getfield 12, 3) := by decide +kernel
theorem dX8_readTerms_47 : decode cX8_readTerms 47 = .ok (.iconst 4, 1) := by decide +kernel
theorem dX8_readTerms_48 : decode cX8_readTerms 48 = .ok (.invokevirtual 44, 3) := by decide +kernel
theorem dX8_readTerms_51 : decode cX8_readTerms 51 = .ok (.ifCond .eq 7, 3) := by decide +kernel
theorem dX8_readTerms_54 : decode cX8_readTerms 54 = .ok (.iconst (-1), 1) := by decide +kernel
theorem dX8_readTerms_55 : decode cX8_readTerms 55 = .ok (.goto 4, 3) := by decide +kernel
theorem dX8_readTerms_58 : decode cX8_readTerms 58 = .ok (.iconst 1, 1) := by decide +kernel
theorem dX8_readTerms_59 : decode cX8_readTerms 59 = .ok (.istore_n 2, 1) := by decide +kernel
theorem dX8_readTerms_60 : decode cX8_readTerms 60 = .ok (.aload_n 0, 1) := by decide +kernel
theorem dX8_readTerms_61 : decode cX8_readTerms 61 = .ok (.getfield 12, 3) := by decide +kernel
theorem dX8_readTerms_64 : decode cX8_readTerms 64 = .ok (.invokevirtual 61, 3) := by decide +kernel
theorem dX8_readTerms_67 : decode cX8_readTerms 67 = .ok (.aload_n 0, 1) := by decide +kernel
theorem dX8_readTerms_68 : decode cX8_readTerms 68 = .ok (.getfield 12, 3) := by decide +kernel
theorem dX8_readTerms_71 : decode cX8_readTerms 71 = .ok (.invokevirtual 79, 3) := by decide +kernel
theorem dX8_readTerms_74 : decode cX8_readTerms 74 = .ok (.ifCond .ne 9, 3) := by decide +kernel
theorem dX8_readTerms_77 : decode cX8_readTerms 77 = .ok (.aload_n 0, 1) := by decide +kernel
theorem dX8_readTerms_78 : decode cX8_readTerms 78 = .ok (.iconst 1, 1) := by decide +kernel
theorem dX8_readTerms_79 : decode cX8_readTerms 79 = .ok (.invokevirtual 55, 3) := by decide +kernel
theorem dX8_readTerms_82 : decode cX8_readTerms 82 = .ok (.ireturn, 1) := by decide +kernel
theorem dX8_readTerms_83 : decode cX8_readTerms 83 = .ok (.aload_n 0, 1) := by decide +kernel
theorem dX8_readTerms_84 : decode cX8_readTerms 84 = .ok (.getfield 21, 3) := by decide +kernel
theorem dX8_readTerms_87 : decode cX8_readTerms 87 = .ok (.aload_n 0, 1) := by decide +kernel
theorem dX8_readTerms_88 : decode cX8_readTerms 88 = .ok (.getfield 12, 3) := by decide +kernel
theorem dX8_readTerms_91 : decode cX8_readTerms 91 = .ok (.invokevirtual 82, 3) := by decide +kernel
theorem dX8_readTerms_94 : decode cX8_readTerms 94 = .ok (.istore_n 3, 1) := by decide +kernel
theorem dX8_readTerms_95 : decode cX8_readTerms 95 = .ok (.iload_n 3, 1) := by decide +kernel
theorem dX8_readTerms_96 : decode cX8_readTerms 96 = .ok (.iconst (-1), 1) := by decide +kernel
theorem dX8_readTerms_97 : decode cX8_readTerms 97 = .ok (.if_icmp .ne 9, 3) := by decide +kernel
theorem dX8_readTerms_100 : decode cX8_readTerms 100 = .ok (.aload_n 0, 1) := by decide +kernel
theorem dX8_readTerms_101 : decode cX8_readTerms 101 = .ok (.iconst 3, 1) := by decide +kernel
theorem dX8_readTerms_102 : decode cX8_readTerms 102 = .ok (.invokevirtual 55, 3) := by decide +kernel
theorem dX8_readTerms_105 : decode cX8_readTerms 105 = .ok (.ireturn, 1) := by decide +kernel
theorem dX8_readTerms_106 : decode cX8_readTerms 106 = .ok (.aload_n 0, 1) := by decide +kernel
theorem dX8_readTerms_107 : decode cX8_readTerms 107 = .ok (.getfield 21, 3) := by decide +kernel
theorem dX8_readTerms_110 : decode cX8_readTerms 110 = .ok (.iload_n 2, 1) := by decide +kernel
theorem dX8_readTerms_111 : decode cX8_readTerms 111 = .ok (.iload_n 3, 1) := by decide +kernel
theorem dX8_readTerms_112 : decode cX8_readTerms 112 = .ok (.invokevirtual 131, 3) := by decide +kernel
theorem dX8_readTerms_115 : decode cX8_readTerms 115 = .ok (.aload_n 0, 1) := by decide +kernel
theorem dX8_readTerms_116 : decode cX8_readTerms 116 = .ok (.getfield 12, 3) := by decide +kernel
theorem dX8_readTerms_119 : decode cX8_readTerms 119 = .ok (.invokevirtual 61, 3) := by decide +kernel
theorem dX8_readTerms_122 : decode cX8_readTerms 122 = .ok (.iinc 1 1, 3) := by decide +kernel
theorem dX8_readTerms_125 : decode cX8_readTerms 125 = .ok (.goto (-110), 3) := by decide +kernel
theorem dX8_readTerms_128 : decode cX8_readTerms 128 = .ok (.iconst 1, 1) := by decide +kernel
theorem dX8_readTerms_129 : decode cX8_readTerms 129 = .ok (.ireturn, 1) := by decide +kernel
theorem dX8_readLine_0 : decode cX8_readLine 0 = .ok (.aload_n 0, 1) := by decide +kernel
theorem dX8_readLine_1 : decode cX8_readLine 1 = .ok (.getfield 12, 3) := by decide +kernel
theorem dX8_readLine_4 : decode cX8_readLine 4 = .ok (.invokevirtual 52, 3) := by decide +kernel
theorem dX8_readLine_7 : decode cX8_readLine 7 = .ok (.istore_n 1, 1) := by decide +kernel
theorem dX8_readLine_8 : decode cX8_readLine 8 = .ok (.iload_n 1, 1) := by decide +kernel
theorem dX8_readLine_9 : decode cX8_readLine 9 = .ok (.iconst (-1), 1) := by decide +kernel
theorem dX8_readLine_10 : decode cX8_readLine 10 = .ok (.if_icmp .ne 9, 3) := by decide +kernel
theorem dX8_readLine_13 : decode cX8_readLine 13 = .ok (.aload_n 0, 1) := by decide +kernel
theorem dX8_readLine_14 : decode cX8_readLine 14 = .ok (.iconst 1, 1) := by decide +kernel
theorem dX8_readLine_15 : decode cX8_readLine 15 = .ok (.invokevirtual 55, 3) := by decide +kernel
theorem dX8_readLine_18 : decode cX8_readLine 18 = .ok (.ireturn, 1) := by decide +kernel
theorem dX8_readLine_19 : decode cX8_readLine 19 = .ok (.aload_n 0, 1) := by decide +kernel
theorem dX8_readLine_20 : decode cX8_readLine 20 = .ok (.getfield 21, 3) := by decide +kernel
theorem dX8_readLine_23 : decode cX8_readLine 23 = .ok (.invokevirtual 58, 3) := by decide +kernel
theorem dX8_readLine_26 : decode cX8_readLine 26 = .ok (.ifCond .eq 9, 3) := by decide +kernel
theorem dX8_readLine_29 : decode cX8_readLine 29 = .ok (.aload_n 0, 1) := by decide +kernel
theorem dX8_readLine_30 : decode cX8_readLine 30 = .ok (.iconst 5, 1) := by decide +kernel
theorem dX8_readLine_31 : decode cX8_readLine 31 = .ok (.invokevirtual 55, 3) := by decide +kernel
theorem dX8_readLine_34 : decode cX8_readLine 34 = .ok (.ireturn, 1) := by decide +kernel
theorem dX8_readLine_35 : decode cX8_readLine 35 = .ok (.aload_n 0, 1) := by decide +kernel
theorem dX8_readLine_36 : decode cX8_readLine 36 = .ok (.getfield 12, 3) := by decide +kernel
theorem dX8_readLine_39 : decode cX8_readLine 39 = .ok (.invokevirtual 61, 3) := by decide +kernel
theorem dX8_readLine_42 : decode cX8_readLine 42 = .ok (.aload_n 0, 1) := by decide +kernel
theorem dX8_readLine_43 : decode cX8_readLine 43 = .ok (.iload_n 1, 1) := by decide +kernel
theorem dX8_readLine_44 : decode cX8_readLine 44 = .ok (.invokevirtual 64, 3) := by decide +kernel
theorem dX8_readLine_47 : decode cX8_readLine 47 = .ok (.ifCond .ne 5, 3) := by decide +kernel
theorem dX8_readLine_50 : decode cX8_readLine 50 = .ok (.iconst 0, 1) := by decide +kernel
theorem dX8_readLine_51 : decode cX8_readLine 51 = .ok (.ireturn, 1) := by decide +kernel
theorem dX8_readLine_52 : decode cX8_readLine 52 = .ok (.iload_n 1, 1) := by decide +kernel
theorem dX8_readLine_53 : decode cX8_readLine 53 = .ok (.ifCond .ne 13, 3) := by decide +kernel
theorem dX8_readLine_56 : decode cX8_readLine 56 = .ok (.aload_n 0, 1) := by decide +kernel
theorem dX8_readLine_57 : decode cX8_readLine 57 = .ok (.invokevirtual 67, 3) := by decide +kernel
theorem dX8_readLine_60 : decode cX8_readLine 60 = .ok (.ifCond .eq 28, 3) := by decide +kernel
theorem dX8_readLine_63 : decode cX8_readLine 63 = .ok (.goto 27, 3) := by decide +kernel
theorem dX8_readLine_66 : decode cX8_readLine 66 = .ok (.iload_n 1, 1) := by decide +kernel
theorem dX8_readLine_67 : decode cX8_readLine 67 = .ok (.iconst 1, 1) := by decide +kernel
theorem dX8_readLine_68 : decode cX8_readLine 68 = .ok (.if_icmp .ne 13, 3) := by decide +kernel
theorem dX8_readLine_71 : decode cX8_readLine 71 = .ok (.aload_n 0, 1) := by decide +kernel
theorem dX8_readLine_72 : decode cX8_readLine 72 = .ok (.invokevirtual 70, 3) := by decide +kernel
theorem dX8_readLine_75 : decode cX8_readLine 75 = .ok (.ifCond .eq 13, 3) := by decide +kernel
theorem dX8_readLine_78 : decode cX8_readLine 78 = .ok (.goto 12, 3) := by decide +kernel
theorem dX8_readLine_81 : decode cX8_readLine 81 = .ok (.aload_n 0, 1) := by decide +kernel
theorem dX8_readLine_82 : decode cX8_readLine 82 = .ok (.invokevirtual 73, 3) := by decide +kernel
theorem dX8_readLine_85 : decode cX8_readLine 85 = .ok (.ifCond .ne 5, 3) := by decide +kernel
theorem dX8_readLine_88 : decode cX8_readLine 88 = .ok (.iconst 0, 1) := by decide +kernel
theorem dX8_readLine_89 : decode cX8_readLine 89 = .ok (.ireturn, 1) := by decide +kernel
theorem dX8_readLine_90 : decode cX8_readLine 90 = .ok (.aload_n 0, 1) := by decide +kernel
theorem dX8_readLine_91 : decode cX8_readLine 91 = .ok (.getfield 12, 3) := by decide +kernel
theorem dX8_readLine_94 : decode cX8_readLine 94 = .ok (.iconst 5, 1) := by decide +kernel
theorem dX8_readLine_95 : decode cX8_readLine 95 = .ok (.invokevirtual 44, 3) := by decide +kernel
theorem dX8_readLine_98 : decode cX8_readLine 98 = .ok (.ifCond .ne 9, 3) := by decide +kernel
theorem dX8_readLine_101 : decode cX8_readLine 101 = .ok (.aload_n 0, 1) := by decide +kernel
theorem dX8_readLine_102 : decode cX8_readLine 102 = .ok (.iconst 1, 1) := by decide +kernel
theorem dX8_readLine_103 : decode cX8_readLine 103 = .ok (.invokevirtual 55, 3) := by decide +kernel
theorem dX8_readLine_106 : decode cX8_readLine 106 = .ok (.ireturn, 1) := by decide +kernel
theorem dX8_readLine_107 : decode cX8_readLine 107 = .ok (.aload_n 0, 1) := by decide +kernel
theorem dX8_readLine_108 : decode cX8_readLine 108 = .ok (.getfield 12, 3) := by decide +kernel
theorem dX8_readLine_111 : decode cX8_readLine 111 = .ok (.invokevirtual 61, 3) := by decide +kernel
theorem dX8_readLine_114 : decode cX8_readLine 114 = .ok (.aload_n 0, 1) := by decide +kernel
theorem dX8_readLine_115 : decode cX8_readLine 115 = .ok (.getfield 21, 3) := by decide +kernel
theorem dX8_readLine_118 : decode cX8_readLine 118 = .ok (.invokevirtual 76, 3) := by decide +kernel
theorem dX8_readLine_121 : decode cX8_readLine 121 = .ok (.iconst 1, 1) := by decide +kernel
theorem dX8_readLine_122 : decode cX8_readLine 122 = .ok (.ireturn, 1) := by decide +kernel
theorem dX8_readText_0 : decode cX8_readText 0 = .ok (.aload_n 0, 1) := by decide +kernel
theorem dX8_readText_1 : decode cX8_readText 1 = .ok (.aload_n 3, 1) := by decide +kernel
theorem dX8_readText_2 : decode cX8_readText 2 = .ok (.putfield 21, 3) := by decide +kernel
theorem dX8_readText_5 : decode cX8_readText 5 = .ok (.aload_n 0, 1) := by decide +kernel
theorem dX8_readText_6 : decode cX8_readText 6 = .ok (.getfield 21, 3) := by decide +kernel
theorem dX8_readText_9 : decode cX8_readText 9 = .ok (.invokevirtual 33, 3) := by decide +kernel
theorem dX8_readText_12 : decode cX8_readText 12 = .ok (.aload_n 0, 1) := by decide +kernel
theorem dX8_readText_13 : decode cX8_readText 13 = .ok (.iconst 0, 1) := by decide +kernel
theorem dX8_readText_14 : decode cX8_readText 14 = .ok (.putfield 25, 3) := by decide +kernel
theorem dX8_readText_17 : decode cX8_readText 17 = .ok (.aload_n 0, 1) := by decide +kernel
theorem dX8_readText_18 : decode cX8_readText 18 = .ok (.getfield 12, 3) := by decide +kernel
theorem dX8_readText_21 : decode cX8_readText 21 = .ok (.aload_n 1, 1) := by decide +kernel
theorem dX8_readText_22 : decode cX8_readText 22 = .ok (.iload_n 2, 1) := by decide +kernel
theorem dX8_readText_23 : decode cX8_readText 23 = .ok (.invokevirtual 36, 3) := by decide +kernel
theorem dX8_readText_26 : decode cX8_readText 26 = .ok (.iconst 1, 1) := by decide +kernel
theorem dX8_readText_27 : decode cX8_readText 27 = .ok (.istore 4, 2) := by decide +kernel
theorem dX8_readText_29 : decode cX8_readText 29 = .ok (.iconst 0, 1) := by decide +kernel
theorem dX8_readText_30 : decode cX8_readText 30 = .ok (.istore 5, 2) := by decide +kernel
theorem dX8_readText_32 : decode cX8_readText 32 = .ok (.iload 5, 2) := by decide +kernel
theorem dX8_readText_34 : decode cX8_readText 34 = .ok (.bipush 8, 2) := by decide +kernel
theorem dX8_readText_36 : decode cX8_readText 36 = .ok (.if_icmp .gt 39, 3) := by decide +kernel
theorem dX8_readText_39 : decode cX8_readText 39 = .ok (.iload 4, 2) := by decide +kernel
theorem dX8_readText_41 : decode cX8_readText 41 = .ok (.ifCond .eq 34, 3) := by decide +kernel
theorem dX8_readText_44 : decode cX8_readText 44 = .ok (.aload_n 0, 1) := by decide +kernel
theorem dX8_readText_45 : decode cX8_readText 45 = .ok (.invokevirtual 40, 3) := by decide +kernel
theorem dX8_readText_48 : decode cX8_readText 48 = .ok (.ifCond .eq 18, 3) := by decide +kernel
theorem dX8_readText_51 : decode cX8_readText 51 = .ok (.aload_n 0, 1) := by decide +kernel
theorem dX8_readText_52 : decode cX8_readText 52 = .ok (.getfield 12, 3) := by decide +kernel
theorem dX8_readText_55 : decode cX8_readText 55 = .ok (.iconst 0, 1) := by decide +kernel
theorem dX8_readText_56 : decode cX8_readText 56 = .ok (.invokevirtual 44, 3) := by decide +kernel
theorem dX8_readText_59 : decode cX8_readText 59 = .ok (.ifCond .ne 7, 3) := by decide +kernel
theorem dX8_readText_62 : decode cX8_readText 62 = .ok (.iconst 1, 1) := by decide +kernel
theorem dX8_readText_63 : decode cX8_readText 63 = .ok (.goto 4, 3) := by decide +kernel
theorem dX8_readText_66 : decode cX8_readText 66 = .ok (.iconst 0, 1) := by decide +kernel
theorem dX8_readText_67 : decode cX8_readText 67 = .ok (.istore 4, 2) := by decide +kernel
theorem dX8_readText_69 : decode cX8_readText 69 = .ok (.iinc 5 1, 3) := by decide +kernel
theorem dX8_readText_72 : decode cX8_readText 72 = .ok (.goto (-40), 3) := by decide +kernel
theorem dX8_readText_75 : decode cX8_readText 75 = .ok (.aload_n 0, 1) := by decide +kernel
theorem dX8_readText_76 : decode cX8_readText 76 = .ok (.getfield 25, 3) := by decide +kernel
theorem dX8_readText_79 : decode cX8_readText 79 = .ok (.ireturn, 1) := by decide +kernel
theorem dX11_text_0 : decode cX11_text 0 = .ok (.iload_n 1, 1) := by decide +kernel
theorem dX11_text_1 : decode cX11_text 1 = .ok (.ifCond .lt 11, 3) := by decide +kernel
theorem dX11_text_4 : decode cX11_text 4 = .ok (.iload_n 1, 1) := by decide +kernel
theorem dX11_text_5 : decode cX11_text 5 = .ok (.aload_n 0, 1) := by decide +kernel
theorem dX11_text_6 : decode cX11_text 6 = .ok (.getfield 13, 3) := by decide +kernel
theorem dX11_text_9 : decode cX11_text 9 = .ok (.if_icmp .le 5, 3) := by decide +kernel
theorem dX11_text_12 : decode cX11_text 12 = .ok (.iconst (-1), 1) := by decide +kernel
theorem dX11_text_13 : decode cX11_text 13 = .ok (.ireturn, 1) := by decide +kernel
theorem dX11_text_14 : decode cX11_text 14 = .ok (.aload_n 0, 1) := by decide +kernel
theorem dX11_text_15 : decode cX11_text 15 = .ok (.getfield 20, 3) := by decide +kernel
theorem dX11_text_18 : decode cX11_text 18 = .ok (.aload_n 0, 1) := by decide +kernel
theorem dX11_text_19 : decode cX11_text 19 = .ok (.getfield 9, 3) := by decide +kernel
theorem dX11_text_22 : decode cX11_text 22 = .ok (.iload_n 1, 1) := by decide +kernel
theorem dX11_text_23 : decode cX11_text 23 = .ok (.aload_n 0, 1) := by decide +kernel
theorem dX11_text_24 : decode cX11_text 24 = .ok (.getfield 31, 3) := by decide +kernel
theorem dX11_text_27 : decode cX11_text 27 = .ok (.invokevirtual 84, 3) := by decide +kernel
theorem dX11_text_30 : decode cX11_text 30 = .ok (.istore_n 2, 1) := by decide +kernel
theorem dX11_text_31 : decode cX11_text 31 = .ok (.aload_n 0, 1) := by decide +kernel
theorem dX11_text_32 : decode cX11_text 32 = .ok (.iconst 0, 1) := by decide +kernel
theorem dX11_text_33 : decode cX11_text 33 = .ok (.putfield 13, 3) := by decide +kernel
theorem dX11_text_36 : decode cX11_text 36 = .ok (.iload_n 2, 1) := by decide +kernel
theorem dX11_text_37 : decode cX11_text 37 = .ok (.ifCond .eq 8, 3) := by decide +kernel
theorem dX11_text_40 : decode cX11_text 40 = .ok (.bipush (-2), 2) := by decide +kernel
theorem dX11_text_42 : decode cX11_text 42 = .ok (.iload_n 2, 1) := by decide +kernel
theorem dX11_text_43 : decode cX11_text 43 = .ok (.isub, 1) := by decide +kernel
theorem dX11_text_44 : decode cX11_text 44 = .ok (.ireturn, 1) := by decide +kernel
theorem dX11_text_45 : decode cX11_text 45 = .ok (.aload_n 0, 1) := by decide +kernel
theorem dX11_text_46 : decode cX11_text 46 = .ok (.getfield 27, 3) := by decide +kernel
theorem dX11_text_49 : decode cX11_text 49 = .ok (.astore_n 3, 1) := by decide +kernel
theorem dX11_text_50 : decode cX11_text 50 = .ok (.aload_n 0, 1) := by decide +kernel
theorem dX11_text_51 : decode cX11_text 51 = .ok (.aload_n 0, 1) := by decide +kernel
theorem dX11_text_52 : decode cX11_text 52 = .ok (.getfield 31, 3) := by decide +kernel
theorem dX11_text_55 : decode cX11_text 55 = .ok (.putfield 27, 3) := by decide +kernel
theorem dX11_text_58 : decode cX11_text 58 = .ok (.aload_n 0, 1) := by decide +kernel
theorem dX11_text_59 : decode cX11_text 59 = .ok (.aload_n 3, 1) := by decide +kernel
theorem dX11_text_60 : decode cX11_text 60 = .ok (.putfield 31, 3) := by decide +kernel
theorem dX11_text_63 : decode cX11_text 63 = .ok (.aload_n 0, 1) := by decide +kernel
theorem dX11_text_64 : decode cX11_text 64 = .ok (.invokevirtual 88, 3) := by decide +kernel
theorem dX11_text_67 : decode cX11_text 67 = .ok (.aload_n 0, 1) := by decide +kernel
theorem dX11_text_68 : decode cX11_text 68 = .ok (.getfield 27, 3) := by decide +kernel
theorem dX11_text_71 : decode cX11_text 71 = .ok (.invokevirtual 91, 3) := by decide +kernel
theorem dX11_text_74 : decode cX11_text 74 = .ok (.ireturn, 1) := by decide +kernel
def mX10_isWord_B64 (v0 : Nat) (v1 : Nat) (v2 : Int) (σ : mSt) : Option (Int × mSt) := mG (v2 = 0 ∨ v2 = 1) <| some (v2, σ)
def mX10_isWord_L27 (v0 : Nat) (v1 : Nat) (x64 : Int → mSt → Option (Int × mSt)) : Nat → Int → Int → mSt → Option (Int × mSt)
  | 0, _, _, _ => none
  | n + 1, v2, v3, σ => mG (v1 < 3) <| if wI ((mXLen.getD v1 0 : Nat) : Int) ≤ wI v3 then (x64 v2 σ) else if wI v2 = 0 then (x64 v2 σ) else mG (v1 < 3 ∧ 0 ≤ wI v3 ∧ wI v3 < ((mXLen.getD v1 0 : Nat) : Int)) <| mCall (mX10_byteAt v0 v3 σ) fun b6 s7 => if wI (((mXByt.getD v1 []).getD (wI v3).toNat 0).toInt) = wI b6 then (bnd (v3 + 1) fun a12 => mX10_isWord_L27 v0 v1 x64 n 1 a12 s7) else bnd (v3 + 1) fun a10 => mX10_isWord_L27 v0 v1 x64 n 0 a10 s7
def mX10_isWord_B24 (v0 : Nat) (v1 : Nat) (t0 : Int) (σ : mSt) : Option (Int × mSt) := mX10_isWord_L27 v0 v1 (fun z2 zσ => mX10_isWord_B64 v0 v1 z2 zσ) mF t0 0 σ
def mX10_isWord_B23 (v0 : Nat) (v1 : Nat) (σ : mSt) : Option (Int × mSt) := mX10_isWord_B24 v0 v1 0 σ
def mX10_isWord (v0 : Nat) (v1 : Nat) (σ : mSt) : Option (Int × mSt) := mG (isC v0 9) <| if wI (σ v0 4) = 1 then (mG (v1 < 3) <| mCall (mX10_length v0 σ) fun b16 s17 => if wI ((mXLen.getD v1 0 : Nat) : Int) = wI b16 then (mX10_isWord_B24 v0 v1 1 s17) else mX10_isWord_B23 v0 v1 s17) else mX10_isWord_B23 v0 v1 σ
def mX10_lineKind (v0 : Nat) (σ : mSt) : Option (Int × mSt) := mG (isC v0 9) <| mCall (mX10_isWord v0 0 σ) fun b1 s2 => if wI b1 = 0 then (mCall (mX10_isWord v0 1 s2) fun b5 s6 => if wI b5 = 0 then (mCall (mX10_isWord v0 2 s6) fun b9 s10 => if wI b9 = 0 then (some ((-1), s10)) else some (2, s10)) else some (1, s6)) else some (0, s2)
def mX10_isName_B20 (v0 : Nat) (σ : mSt) : Option (Int × mSt) := some (0, σ)
def mX10_isName (v0 : Nat) (σ : mSt) : Option (Int × mSt) := mG (isC v0 9) <| if wI (σ v0 4) = 1 then (mCall (mX10_lineKind v0 σ) fun b2 s3 => if wI b2 = (-1) then (some (1, s3)) else mX10_isName_B20 v0 s3) else mX10_isName_B20 v0 σ
def mX8_readNewName (v0 : Nat) (v1 : Int) (σ : mSt) : Option (Int × mSt) := mG (isC v0 7) <| mRef (σ v0 0) fun r1 => mCall (mX10_isName r1 σ) fun b3 s4 => if wI b3 = 0 then (mCall (mX8_refuse v0 1 s4) fun b31 s32 => mG (b31 = 0 ∨ b31 = 1) <| some (b31, s32)) else mRef (s4 v0 1) fun r7 => mRef (s4 v0 0) fun r9 => mCall (mX0_find r7 r9 s4) fun b11 s12 => if wI b11 = (-1) then (mRef (s12 v0 1) fun r15 => mRef (s12 v0 0) fun r17 => mCall (mX0_begin r15 v1 r17 s12) fun b19 s20 => mRef (s20 v0 0) fun r22 => mCall (mX10_step r22 s20) fun b24 s25 => some (1, s25)) else mCall (mX8_refuse v0 2 s12) fun b27 s28 => mG (b27 = 0 ∨ b27 = 1) <| some (b27, s28)
def mX8_readTerms_B128 (v0 : Nat) (σ : mSt) : Option (Int × mSt) := some (1, σ)
def mX8_readTerms_B59 (v0 : Nat) (c15 : Int → mSt → Option (Int × mSt)) (x128 : mSt → Option (Int × mSt)) (v1 : Int) (t0 : Int) (σ : mSt) : Option (Int × mSt) := mRef (σ v0 0) fun r1 => mCall (mX10_step r1 σ) fun b3 s4 => mRef (s4 v0 0) fun r6 => mCall (mX10_isName r6 s4) fun b8 s9 => if wI b8 = 0 then (mCall (mX8_refuse v0 1 s9) fun b36 s37 => mG (b36 = 0 ∨ b36 = 1) <| some (b36, s37)) else mRef (s9 v0 1) fun r12 => mRef (s9 v0 0) fun r14 => mCall (mX0_find r12 r14 s9) fun b16 s17 => if wI b16 = (-1) then (mCall (mX8_refuse v0 3 s17) fun b32 s33 => mG (b32 = 0 ∨ b32 = 1) <| some (b32, s33)) else mRef (s17 v0 1) fun r20 => mCall (mX0_addTerm r20 t0 b16 s17) fun b22 s23 => mRef (s23 v0 0) fun r25 => mCall (mX10_step r25 s23) fun b27 s28 => bnd (v1 + 1) fun a30 => c15 a30 s28
def mX8_readTerms_L15 (v0 : Nat) (x128 : mSt → Option (Int × mSt)) : Nat → Int → mSt → Option (Int × mSt)
  | 0, _, _ => none
  | n + 1, v1, σ => if 4 < wI v1 then (x128 σ) else mCall (mX8_isSign v0 σ) fun b41 s42 => if wI b41 = 0 then (x128 s42) else mRef (s42 v0 1) fun r45 => mCall (mX0_hasAllTerms r45 s42) fun b47 s48 => if wI b47 = 0 then (mRef (s48 v0 0) fun r51 => mCall (mX10_is r51 4 s48) fun b53 s54 => if wI b53 = 0 then (mX8_readTerms_B59 v0 (mX8_readTerms_L15 v0 x128 n) x128 v1 1 s54) else mX8_readTerms_B59 v0 (mX8_readTerms_L15 v0 x128 n) x128 v1 (-1) s54) else mCall (mX8_refuse v0 5 s48) fun b57 s58 => mG (b57 = 0 ∨ b57 = 1) <| some (b57, s58)
def mX8_readTerms (v0 : Nat) (σ : mSt) : Option (Int × mSt) := mG (isC v0 7) <| mCall (mX8_isSign v0 σ) fun b61 s62 => if wI b61 = 0 then (mCall (mX8_refuse v0 1 s62) fun b65 s66 => mG (b65 = 0 ∨ b65 = 1) <| some (b65, s66)) else mX8_readTerms_L15 v0 (fun zσ => mX8_readTerms_B128 v0 zσ) mF 0 s62
def mX8_readLine_B90 (v0 : Nat) (σ : mSt) : Option (Int × mSt) := mRef (σ v0 0) fun r1 => mCall (mX10_is r1 5 σ) fun b3 s4 => if wI b3 = 0 then (mCall (mX8_refuse v0 1 s4) fun b17 s18 => mG (b17 = 0 ∨ b17 = 1) <| some (b17, s18)) else mRef (s4 v0 0) fun r7 => mCall (mX10_step r7 s4) fun b9 s10 => mRef (s10 v0 1) fun r12 => mCall (mX0_finish r12 s10) fun b14 s15 => some (1, s15)
def mX8_readLine (v0 : Nat) (σ : mSt) : Option (Int × mSt) := mG (isC v0 7) <| mRef (σ v0 0) fun r21 => mCall (mX10_lineKind r21 σ) fun b23 s24 => if wI b23 = (-1) then (mCall (mX8_refuse v0 1 s24) fun b60 s61 => mG (b60 = 0 ∨ b60 = 1) <| some (b60, s61)) else mRef (s24 v0 1) fun r27 => mCall (mX0_isFull r27 s24) fun b29 s30 => if wI b29 = 0 then (mRef (s30 v0 0) fun r33 => mCall (mX10_step r33 s30) fun b35 s36 => mCall (mX8_readNewName v0 b23 s36) fun b38 s39 => if wI b38 = 0 then (some (0, s39)) else if wI b23 = 0 then (mCall (mX8_readSides v0 s39) fun b52 s53 => if wI b52 = 0 then (some (0, s53)) else mX8_readLine_B90 v0 s53) else if wI b23 = 1 then (mCall (mX8_readField v0 s39) fun b48 s49 => if wI b48 = 0 then (some (0, s49)) else mX8_readLine_B90 v0 s49) else mCall (mX8_readTerms v0 s39) fun b44 s45 => if wI b44 = 0 then (some (0, s45)) else mX8_readLine_B90 v0 s45) else mCall (mX8_refuse v0 5 s30) fun b56 s57 => mG (b56 = 0 ∨ b56 = 1) <| some (b56, s57)
def mX8_readText_B75 (v0 : Nat) (v1 : Nat) (v2 : Int) (v3 : Nat) (σ : mSt) : Option (Int × mSt) := some (σ v0 2, σ)
def mX8_readText_B66 (v0 : Nat) (v1 : Nat) (v2 : Int) (v3 : Nat) (c32 : Int → Int → mSt → Option (Int × mSt)) (x75 : mSt → Option (Int × mSt)) (v5 : Int) (σ : mSt) : Option (Int × mSt) := bnd (v5 + 1) fun a1 => c32 0 a1 σ
def mX8_readText_L32 (v0 : Nat) (v1 : Nat) (v2 : Int) (v3 : Nat) (x75 : mSt → Option (Int × mSt)) : Nat → Int → Int → mSt → Option (Int × mSt)
  | 0, _, _, _ => none
  | n + 1, v4, v5, σ => if 8 < wI v5 then (x75 σ) else if wI v4 = 0 then (x75 σ) else mCall (mX8_readLine v0 σ) fun b5 s6 => if wI b5 = 0 then (mX8_readText_B66 v0 v1 v2 v3 (mX8_readText_L32 v0 v1 v2 v3 x75 n) x75 v5 s6) else mRef (s6 v0 0) fun r9 => mCall (mX10_is r9 0 s6) fun b11 s12 => if wI b11 = 0 then (bnd (v5 + 1) fun a15 => mX8_readText_L32 v0 v1 v2 v3 x75 n 1 a15 s12) else mX8_readText_B66 v0 v1 v2 v3 (mX8_readText_L32 v0 v1 v2 v3 x75 n) x75 v5 s12
def mX8_readText (v0 : Nat) (v1 : Nat) (v2 : Int) (v3 : Nat) (σ : mSt) : Option (Int × mSt) := mG (isC v0 7) <| mG (v3 ≠ 0) <| bnd (upS σ v0 1 (v3 : Int)) fun s18 => mRef (s18 v0 1) fun r20 => mCall (mX0_clear r20 s18) fun b22 s23 => bnd (upS s23 v0 2 0) fun s25 => mRef (s25 v0 0) fun r27 => mCall (mX10_begin r27 v1 v2 s25) fun b29 s30 => mX8_readText_L32 v0 v1 v2 v3 (fun zσ => mX8_readText_B75 v0 v1 v2 v3 zσ) mF 1 0 s30
def mX11_text (v0 : Nat) (v1 : Int) (σ : mSt) : Option (Int × mSt) := mG (isC v0 10) <| if wI v1 < 0 then (some ((-1), σ)) else if wI v1 ≤ wI (σ v0 1) then (mRef (σ v0 2) fun r3 => mRef (σ v0 0) fun r5 => mRef (σ v0 4) fun r7 => mCall (mX8_readText r3 r5 v1 r7 σ) fun b9 s10 => bnd (upS s10 v0 1 0) fun s12 => if wI b9 = 0 then (mRef (s12 v0 3) fun r15 => mRef (s12 v0 4) fun r17 => mG (r17 ≠ 0) <| bnd (upS s12 v0 3 (r17 : Int)) fun s20 => mG (r15 ≠ 0) <| bnd (upS s20 v0 4 (r15 : Int)) fun s23 => mCall (mX11_beginAnew v0 s23) fun b25 s26 => mRef (s26 v0 3) fun r28 => mCall (mX0_size r28 s26) fun b30 s31 => some (b30, s31)) else some ((-2) - b9, s12)) else some ((-1), σ)
set_option maxRecDepth 100000 in
set_option maxHeartbeats 4000000 in
theorem wX10_isWord_B64 (l : Launch) (E : mE) (out : Int × mSt) {p : Program} {e : Env} {s : State} {m : MethodId} {args : Array Value} {below : List Frame} {meth : Method} {c : Code} (G : CallFix p m c cX10_isWord 4 s args mTs RX10) (hr : meth.sig.returnType = (some .boolean)) (hk : meth.locks = false) (v0 : Nat) (v1 : Nat) (g0 : isC v0 9) : ∀ (v2 : Int) (σ : mSt) (H : Heap) (locs : List Loc) (ls : Array Slot), mX10_isWord_B64 v0 v1 v2 σ = some out → mM (mA E 257) E 257 σ s H locs → lv_has ls 4 [(2, vI v2)] → mGo l p e 5 221 s m args below meth c E (some (vI out.1)) out.2 H locs (F0 m 64 ls []) := by
  intro v2 σ H locs ls hm hM hl
  unfold mX10_isWord_B64 at hm
  refine r_iload_n (np := 65) G hl 0 rfl dX10_isWord_64 rfl rfl ?_
  obtain ⟨g1, hm⟩ := g_t hm
  exact r_zret G hr hk hM g1 hm dX10_isWord_65
set_option maxRecDepth 100000 in
set_option maxHeartbeats 4000000 in
theorem wX10_isWord_L27 (l : Launch) (E : mE) (out : Int × mSt) {p : Program} {e : Env} {s : State} {m : MethodId} {args : Array Value} {below : List Frame} {meth : Method} {c : Code} (G : CallFix p m c cX10_isWord 4 s args mTs RX10) (hr : meth.sig.returnType = (some .boolean)) (hk : meth.locks = false) (v0 : Nat) (v1 : Nat) (g0 : isC v0 9) (x64 : Int → mSt → Option (Int × mSt)) (hx64 : ∀ (v2 : Int) (σ : mSt) (H : Heap) (locs : List Loc) (ls : Array Slot), x64 v2 σ = some out → mM (mA E 257) E 257 σ s H locs → lv_has ls 4 [(2, vI v2)] → mGo l p e 5 221 s m args below meth c E (some (vI out.1)) out.2 H locs (F0 m 64 ls [])) : ∀ (n : Nat) (v2 : Int) (v3 : Int) (σ : mSt) (H : Heap) (locs : List Loc) (ls : Array Slot), mX10_isWord_L27 v0 v1 x64 n v2 v3 σ = some out → mM (mA E 257) E 257 σ s H locs → lv_has ls 4 [(0, .ref (eA E v0)), (1, .ref (eK E v1)), (2, vI v2), (3, vI v3)] → mGo l p e 5 221 s m args below meth c E (some (vI out.1)) out.2 H locs (F0 m 27 ls []) := by
  intro n
  induction n with
  | zero =>
    intro v2 v3 σ H locs ls hm hM hl
    exact absurd hm (by rw [mX10_isWord_L27.eq_1]; exact fun h => nomatch h)
  | succ n ih =>
    intro v2 v3 σ H locs ls hm hM hl
    rw [mX10_isWord_L27.eq_2] at hm
    refine r_iload_n (np := 28) G hl 3 rfl dX10_isWord_27 rfl rfl ?_
    refine r_aload_n (np := 29) G hl 1 rfl dX10_isWord_28 rfl rfl ?_
    obtain ⟨g2, hm⟩ := g_t hm
    refine r_strlen (np := 32) G hM g2 hl.1 lkX10_72 ⟨Nat.le_of_ble_eq_true rfl, Nat.le_of_ble_eq_true rfl⟩ ⟨Nat.le_of_ble_eq_true rfl, Nat.le_of_ble_eq_true rfl⟩ [vI v3] (Nat.le_of_ble_eq_true rfl) dX10_isWord_29 rfl (fun H locs hM => ?_)
    refine r_icmp_ge (np := 35) (tgt := 64) G rfl rfl dX10_isWord_32 (by decide) rfl (fun h3 => ?_) (fun h3 => ?_)
    · have hm := b_t h3 hm
      exact hx64 v2 _ _ _ _ hm hM (lv_sub hl [2] rfl)
    · have hm := b_f h3 hm
      refine r_iload_n (np := 36) G hl 2 rfl dX10_isWord_35 rfl rfl ?_
      refine r_if_eq (np := 39) (tgt := 64) G rfl dX10_isWord_36 (by decide) rfl (fun h4 => ?_) (fun h4 => ?_)
      · have hm := b_t h4 hm
        exact hx64 v2 _ _ _ _ hm hM (lv_sub hl [2] rfl)
      · have hm := b_f h4 hm
        refine r_aload_n (np := 40) G hl 1 rfl dX10_isWord_39 rfl rfl ?_
        refine r_iload_n (np := 41) G hl 3 rfl dX10_isWord_40 rfl rfl ?_
        obtain ⟨g5, hm⟩ := g_t hm
        refine r_strat (np := 44) G hM g5 hl.1 lkX10_78 ⟨Nat.le_of_ble_eq_true rfl, Nat.le_of_ble_eq_true rfl⟩ ⟨Nat.le_of_ble_eq_true rfl, Nat.le_of_ble_eq_true rfl⟩ [] (Nat.le_of_ble_eq_true rfl) dX10_isWord_41 rfl (fun H locs hM => ?_)
        refine r_aload_n (np := 45) G hl 0 rfl dX10_isWord_44 rfl rfl ?_
        refine r_iload_n (np := 46) G hl 3 rfl dX10_isWord_45 rfl rfl ?_
        obtain ⟨b6, s7, e8, hm⟩ := call_t hm
        refine m_callVI (np := 49) G hM hl.1 [vI v3] (qX10_byteAt l E σ v0 v3 _ e8) myX10_byteAt (shp_lt (gX10_byteAt e8) (by decide)) (gX10_byteAt e8) rfl (by decide) lkX10_82 ⟨Nat.le_of_ble_eq_true rfl, Nat.le_of_ble_eq_true rfl⟩ ⟨Nat.le_of_ble_eq_true rfl, Nat.le_of_ble_eq_true rfl⟩ [vI (((mXByt.getD v1 []).getD (wI v3).toNat 0).toInt)] rfl (Nat.le_of_ble_eq_true rfl) dX10_isWord_46 rfl (fun H locs hM => ?_)
        refine r_icmp_ne (np := 52) (tgt := 56) G rfl rfl dX10_isWord_49 (by decide) rfl (fun h9 => ?_) (fun h9 => ?_)
        · have hm := b_f h9 hm
          refine r_iconst (np := 57) G 0 dX10_isWord_56 rfl ?_
          refine r_istore_n (np := 58) G hl rfl [(2, vI 0), (0, .ref (eA E v0)), (1, .ref (eK E v1)), (3, vI v3)] dX10_isWord_57 rfl rfl (by decide) rfl (fun ls hl => ?_)
          obtain ⟨a10, e11, hm⟩ := bnd_t hm
          refine r_iinc (np := 61) G hl 3 rfl e11 [(3, vI a10), (2, vI 0), (0, .ref (eA E v0)), (1, .ref (eK E v1))] dX10_isWord_58 rfl (by decide) rfl (fun ls hl => ?_)
          refine r_goto (np := 27) G dX10_isWord_61 (by decide) ?_
          exact ih 0 a10 _ _ _ _ hm hM (lv_sub hl [2, 3, 1, 0] rfl)
        · have hm := b_t h9 hm
          refine r_iconst (np := 53) G 1 dX10_isWord_52 rfl ?_
          refine r_goto (np := 57) G dX10_isWord_53 (by decide) ?_
          refine r_istore_n (np := 58) G hl rfl [(2, vI 1), (0, .ref (eA E v0)), (1, .ref (eK E v1)), (3, vI v3)] dX10_isWord_57 rfl rfl (by decide) rfl (fun ls hl => ?_)
          obtain ⟨a12, e13, hm⟩ := bnd_t hm
          refine r_iinc (np := 61) G hl 3 rfl e13 [(3, vI a12), (2, vI 1), (0, .ref (eA E v0)), (1, .ref (eK E v1))] dX10_isWord_58 rfl (by decide) rfl (fun ls hl => ?_)
          refine r_goto (np := 27) G dX10_isWord_61 (by decide) ?_
          exact ih 1 a12 _ _ _ _ hm hM (lv_sub hl [2, 3, 1, 0] rfl)
set_option maxRecDepth 100000 in
set_option maxHeartbeats 4000000 in
theorem wX10_isWord_B24 (l : Launch) (E : mE) (out : Int × mSt) {p : Program} {e : Env} {s : State} {m : MethodId} {args : Array Value} {below : List Frame} {meth : Method} {c : Code} (G : CallFix p m c cX10_isWord 4 s args mTs RX10) (hr : meth.sig.returnType = (some .boolean)) (hk : meth.locks = false) (v0 : Nat) (v1 : Nat) (g0 : isC v0 9) : ∀ (t0 : Int) (σ : mSt) (H : Heap) (locs : List Loc) (ls : Array Slot), mX10_isWord_B24 v0 v1 t0 σ = some out → mM (mA E 257) E 257 σ s H locs → lv_has ls 4 [(0, .ref (eA E v0)), (1, .ref (eK E v1))] → mGo l p e 5 221 s m args below meth c E (some (vI out.1)) out.2 H locs (F0 m 24 ls [vI t0]) := by
  intro t0 σ H locs ls hm hM hl
  unfold mX10_isWord_B24 at hm
  refine r_istore_n (np := 25) G hl rfl [(2, vI t0), (0, .ref (eA E v0)), (1, .ref (eK E v1))] dX10_isWord_24 rfl rfl (by decide) rfl (fun ls hl => ?_)
  refine r_iconst (np := 26) G 0 dX10_isWord_25 rfl ?_
  refine r_istore_n (np := 27) G hl rfl [(3, vI 0), (2, vI t0), (0, .ref (eA E v0)), (1, .ref (eK E v1))] dX10_isWord_26 rfl rfl (by decide) rfl (fun ls hl => ?_)
  exact wX10_isWord_L27 l E out G hr hk v0 v1 g0 (fun z2 zσ => mX10_isWord_B64 v0 v1 z2 zσ) (fun z2 zσ zH zl zs zm zM zv => wX10_isWord_B64 l E out G hr hk v0 v1 g0 z2 zσ zH zl zs zm zM zv) mF t0 0 _ _ _ _ hm hM (lv_sub hl [2, 3, 1, 0] rfl)
set_option maxRecDepth 100000 in
set_option maxHeartbeats 4000000 in
theorem wX10_isWord_B23 (l : Launch) (E : mE) (out : Int × mSt) {p : Program} {e : Env} {s : State} {m : MethodId} {args : Array Value} {below : List Frame} {meth : Method} {c : Code} (G : CallFix p m c cX10_isWord 4 s args mTs RX10) (hr : meth.sig.returnType = (some .boolean)) (hk : meth.locks = false) (v0 : Nat) (v1 : Nat) (g0 : isC v0 9) : ∀ (σ : mSt) (H : Heap) (locs : List Loc) (ls : Array Slot), mX10_isWord_B23 v0 v1 σ = some out → mM (mA E 257) E 257 σ s H locs → lv_has ls 4 [(0, .ref (eA E v0)), (1, .ref (eK E v1))] → mGo l p e 5 221 s m args below meth c E (some (vI out.1)) out.2 H locs (F0 m 23 ls []) := by
  intro σ H locs ls hm hM hl
  unfold mX10_isWord_B23 at hm
  refine r_iconst (np := 24) G 0 dX10_isWord_23 rfl ?_
  exact wX10_isWord_B24 l E out G hr hk v0 v1 g0 0 _ _ _ _ hm hM (lv_sub hl [0, 1] rfl)
set_option maxRecDepth 100000 in
set_option maxHeartbeats 4000000 in
theorem qX10_isWord (l : Launch) (E : mE) (σ : mSt) (v0 : Nat) (v1 : Nat) (out : Int × mSt) (hm : mX10_isWord v0 v1 σ = some out) : mMet l yX10_isWord cX10_isWord 4 (some .boolean) 5 221 E 257 [.ref (eA E v0), .ref (eK E v1)] σ (some (vI out.1)) out.2 := by
  unfold mX10_isWord at hm
  obtain ⟨g0, hm⟩ := g_t hm
  refine m_entry (by decide +kernel) (Nat.le_of_ble_eq_true rfl) (fun p e s m args below meth c G hr hk hM ls hl => ?_)
  have G : CallFix p m c cX10_isWord 4 s args mTs RX10 := G
  have hl : lv_has ls 4 [(0, .ref (eA E v0)), (1, .ref (eK E v1))] := hl
  refine r_aload_n (np := 1) G hl 0 rfl dX10_isWord_0 rfl rfl ?_
  refine r_getI (np := 4) G hM (shp_lt g0 (by decide)) g0 fdX10_4 lkX10_25 dX10_isWord_1 rfl ?_
  refine r_iconst (np := 5) G 1 dX10_isWord_4 rfl ?_
  refine r_icmp_ne (np := 8) (tgt := 23) G rfl (wIk 1 rfl) dX10_isWord_5 (by decide) rfl (fun h14 => ?_) (fun h14 => ?_)
  · have hm := b_f h14 hm
    exact wX10_isWord_B23 l E out G hr hk v0 v1 g0 _ _ _ _ hm hM (lv_sub hl [0, 1] rfl)
  · have hm := b_t h14 hm
    refine r_aload_n (np := 9) G hl 1 rfl dX10_isWord_8 rfl rfl ?_
    obtain ⟨g15, hm⟩ := g_t hm
    refine r_strlen (np := 12) G hM g15 hl.1 lkX10_72 ⟨Nat.le_of_ble_eq_true rfl, Nat.le_of_ble_eq_true rfl⟩ ⟨Nat.le_of_ble_eq_true rfl, Nat.le_of_ble_eq_true rfl⟩ [] (Nat.le_of_ble_eq_true rfl) dX10_isWord_9 rfl (fun H locs hM => ?_)
    refine r_aload_n (np := 13) G hl 0 rfl dX10_isWord_12 rfl rfl ?_
    obtain ⟨b16, s17, e18, hm⟩ := call_t hm
    refine m_callVI (np := 16) G hM hl.1 [] (qX10_length l E σ v0 _ e18) myX10_length (shp_lt (gX10_length e18) (by decide)) (gX10_length e18) rfl (by decide) lkX10_77 ⟨Nat.le_of_ble_eq_true rfl, Nat.le_of_ble_eq_true rfl⟩ ⟨Nat.le_of_ble_eq_true rfl, Nat.le_of_ble_eq_true rfl⟩ [vI ((mXLen.getD v1 0 : Nat) : Int)] rfl (Nat.le_of_ble_eq_true rfl) dX10_isWord_13 rfl (fun H locs hM => ?_)
    refine r_icmp_ne (np := 19) (tgt := 23) G rfl rfl dX10_isWord_16 (by decide) rfl (fun h19 => ?_) (fun h19 => ?_)
    · have hm := b_f h19 hm
      exact wX10_isWord_B23 l E out G hr hk v0 v1 g0 _ _ _ _ hm hM (lv_sub hl [0, 1] rfl)
    · have hm := b_t h19 hm
      refine r_iconst (np := 20) G 1 dX10_isWord_19 rfl ?_
      refine r_goto (np := 24) G dX10_isWord_20 (by decide) ?_
      exact wX10_isWord_B24 l E out G hr hk v0 v1 g0 1 _ _ _ _ hm hM (lv_sub hl [0, 1] rfl)
theorem gX10_isWord {v0 : Nat} {v1 : Nat} {σ : mSt} {out : Int × mSt} (hm : mX10_isWord v0 v1 σ = some out) : isC v0 9 := (g_t hm).1
set_option maxRecDepth 100000 in
set_option maxHeartbeats 4000000 in
theorem qX10_lineKind (l : Launch) (E : mE) (σ : mSt) (v0 : Nat) (out : Int × mSt) (hm : mX10_lineKind v0 σ = some out) : mMet l yX10_lineKind cX10_lineKind 1 (some .int) 6 244 E 257 [.ref (eA E v0)] σ (some (vI out.1)) out.2 := by
  unfold mX10_lineKind at hm
  obtain ⟨g0, hm⟩ := g_t hm
  refine m_entry (by decide +kernel) (Nat.le_of_ble_eq_true rfl) (fun p e s m args below meth c G hr hk hM ls hl => ?_)
  have G : CallFix p m c cX10_lineKind 1 s args mTs RX10 := G
  have hl : lv_has ls 1 [(0, .ref (eA E v0))] := hl
  refine r_aload_n (np := 1) G hl 0 rfl dX10_lineKind_0 rfl rfl ?_
  refine r_ldcSt (np := 3) G hM 0 (by decide) dX10_lineKind_1 rfl ?_
  obtain ⟨b1, s2, e3, hm⟩ := call_t hm
  refine m_callVI (np := 6) G hM hl.1 [.ref (eK E 0)] (qX10_isWord l E σ v0 0 _ e3) myX10_isWord (shp_lt (gX10_isWord e3) (by decide)) (gX10_isWord e3) rfl (by decide) lkX10_60 ⟨Nat.le_of_ble_eq_true rfl, Nat.le_of_ble_eq_true rfl⟩ ⟨Nat.le_of_ble_eq_true rfl, Nat.le_of_ble_eq_true rfl⟩ [] rfl (Nat.le_of_ble_eq_true rfl) dX10_lineKind_3 rfl (fun H locs hM => ?_)
  refine r_if_eq (np := 9) (tgt := 11) G rfl dX10_lineKind_6 (by decide) rfl (fun h4 => ?_) (fun h4 => ?_)
  · have hm := b_t h4 hm
    refine r_aload_n (np := 12) G hl 0 rfl dX10_lineKind_11 rfl rfl ?_
    refine r_ldcSt (np := 14) G hM 1 (by decide) dX10_lineKind_12 rfl ?_
    obtain ⟨b5, s6, e7, hm⟩ := call_t hm
    refine m_callVI (np := 17) G hM hl.1 [.ref (eK E 1)] (qX10_isWord l E s2 v0 1 _ e7) myX10_isWord (shp_lt (gX10_isWord e7) (by decide)) (gX10_isWord e7) rfl (by decide) lkX10_60 ⟨Nat.le_of_ble_eq_true rfl, Nat.le_of_ble_eq_true rfl⟩ ⟨Nat.le_of_ble_eq_true rfl, Nat.le_of_ble_eq_true rfl⟩ [] rfl (Nat.le_of_ble_eq_true rfl) dX10_lineKind_14 rfl (fun H locs hM => ?_)
    refine r_if_eq (np := 20) (tgt := 22) G rfl dX10_lineKind_17 (by decide) rfl (fun h8 => ?_) (fun h8 => ?_)
    · have hm := b_t h8 hm
      refine r_aload_n (np := 23) G hl 0 rfl dX10_lineKind_22 rfl rfl ?_
      refine r_ldcSt (np := 25) G hM 2 (by decide) dX10_lineKind_23 rfl ?_
      obtain ⟨b9, s10, e11, hm⟩ := call_t hm
      refine m_callVI (np := 28) G hM hl.1 [.ref (eK E 2)] (qX10_isWord l E s6 v0 2 _ e11) myX10_isWord (shp_lt (gX10_isWord e11) (by decide)) (gX10_isWord e11) rfl (by decide) lkX10_60 ⟨Nat.le_of_ble_eq_true rfl, Nat.le_of_ble_eq_true rfl⟩ ⟨Nat.le_of_ble_eq_true rfl, Nat.le_of_ble_eq_true rfl⟩ [] rfl (Nat.le_of_ble_eq_true rfl) dX10_lineKind_25 rfl (fun H locs hM => ?_)
      refine r_if_eq (np := 31) (tgt := 35) G rfl dX10_lineKind_28 (by decide) rfl (fun h12 => ?_) (fun h12 => ?_)
      · have hm := b_t h12 hm
        refine r_iconst (np := 36) G (-1) dX10_lineKind_35 rfl ?_
        exact r_iret G hr hk hM hm dX10_lineKind_36
      · have hm := b_f h12 hm
        refine r_iconst (np := 32) G 2 dX10_lineKind_31 rfl ?_
        refine r_goto (np := 36) G dX10_lineKind_32 (by decide) ?_
        exact r_iret G hr hk hM hm dX10_lineKind_36
    · have hm := b_f h8 hm
      refine r_iconst (np := 21) G 1 dX10_lineKind_20 rfl ?_
      exact r_iret G hr hk hM hm dX10_lineKind_21
  · have hm := b_f h4 hm
    refine r_iconst (np := 10) G 0 dX10_lineKind_9 rfl ?_
    exact r_iret G hr hk hM hm dX10_lineKind_10
theorem gX10_lineKind {v0 : Nat} {σ : mSt} {out : Int × mSt} (hm : mX10_lineKind v0 σ = some out) : isC v0 9 := (g_t hm).1
set_option maxRecDepth 100000 in
set_option maxHeartbeats 4000000 in
theorem wX10_isName_B20 (l : Launch) (E : mE) (out : Int × mSt) {p : Program} {e : Env} {s : State} {m : MethodId} {args : Array Value} {below : List Frame} {meth : Method} {c : Code} (G : CallFix p m c cX10_isName 1 s args mTs RX10) (hr : meth.sig.returnType = (some .boolean)) (hk : meth.locks = false) (v0 : Nat) (g0 : isC v0 9) : ∀ (σ : mSt) (H : Heap) (locs : List Loc) (ls : Array Slot), mX10_isName_B20 v0 σ = some out → mM (mA E 257) E 257 σ s H locs → lv_has ls 1 [] → mGo l p e 7 264 s m args below meth c E (some (vI out.1)) out.2 H locs (F0 m 20 ls []) := by
  intro σ H locs ls hm hM hl
  unfold mX10_isName_B20 at hm
  refine r_iconst (np := 21) G 0 dX10_isName_20 rfl ?_
  exact r_zret G hr hk hM (Or.inl rfl) hm dX10_isName_21
set_option maxRecDepth 100000 in
set_option maxHeartbeats 4000000 in
theorem qX10_isName (l : Launch) (E : mE) (σ : mSt) (v0 : Nat) (out : Int × mSt) (hm : mX10_isName v0 σ = some out) : mMet l yX10_isName cX10_isName 1 (some .boolean) 7 264 E 257 [.ref (eA E v0)] σ (some (vI out.1)) out.2 := by
  unfold mX10_isName at hm
  obtain ⟨g0, hm⟩ := g_t hm
  refine m_entry (by decide +kernel) (Nat.le_of_ble_eq_true rfl) (fun p e s m args below meth c G hr hk hM ls hl => ?_)
  have G : CallFix p m c cX10_isName 1 s args mTs RX10 := G
  have hl : lv_has ls 1 [(0, .ref (eA E v0))] := hl
  refine r_aload_n (np := 1) G hl 0 rfl dX10_isName_0 rfl rfl ?_
  refine r_getI (np := 4) G hM (shp_lt g0 (by decide)) g0 fdX10_4 lkX10_25 dX10_isName_1 rfl ?_
  refine r_iconst (np := 5) G 1 dX10_isName_4 rfl ?_
  refine r_icmp_ne (np := 8) (tgt := 20) G rfl (wIk 1 rfl) dX10_isName_5 (by decide) rfl (fun h1 => ?_) (fun h1 => ?_)
  · have hm := b_f h1 hm
    exact wX10_isName_B20 l E out G hr hk v0 g0 _ _ _ _ hm hM (lv_sub hl [] rfl)
  · have hm := b_t h1 hm
    refine r_aload_n (np := 9) G hl 0 rfl dX10_isName_8 rfl rfl ?_
    obtain ⟨b2, s3, e4, hm⟩ := call_t hm
    refine m_callVI (np := 12) G hM hl.1 [] (qX10_lineKind l E σ v0 _ e4) myX10_lineKind (shp_lt (gX10_lineKind e4) (by decide)) (gX10_lineKind e4) rfl (by decide) lkX10_68 ⟨Nat.le_of_ble_eq_true rfl, Nat.le_of_ble_eq_true rfl⟩ ⟨Nat.le_of_ble_eq_true rfl, Nat.le_of_ble_eq_true rfl⟩ [] rfl (Nat.le_of_ble_eq_true rfl) dX10_isName_9 rfl (fun H locs hM => ?_)
    refine r_iconst (np := 13) G (-1) dX10_isName_12 rfl ?_
    refine r_icmp_ne (np := 16) (tgt := 20) G rfl (wIk (-1) rfl) dX10_isName_13 (by decide) rfl (fun h5 => ?_) (fun h5 => ?_)
    · have hm := b_f h5 hm
      exact wX10_isName_B20 l E out G hr hk v0 g0 _ _ _ _ hm hM (lv_sub hl [] rfl)
    · have hm := b_t h5 hm
      refine r_iconst (np := 17) G 1 dX10_isName_16 rfl ?_
      refine r_goto (np := 21) G dX10_isName_17 (by decide) ?_
      exact r_zret G hr hk hM (Or.inr rfl) hm dX10_isName_21
theorem gX10_isName {v0 : Nat} {σ : mSt} {out : Int × mSt} (hm : mX10_isName v0 σ = some out) : isC v0 9 := (g_t hm).1
set_option maxRecDepth 100000 in
set_option maxHeartbeats 4000000 in
theorem qX8_readNewName (l : Launch) (E : mE) (σ : mSt) (v0 : Nat) (v1 : Int) (out : Int × mSt) (hm : mX8_readNewName v0 v1 σ = some out) : mMet l yX8_readNewName cX8_readNewName 2 (some .boolean) 8 284 E 257 [.ref (eA E v0), vI v1] σ (some (vI out.1)) out.2 := by
  unfold mX8_readNewName at hm
  obtain ⟨g0, hm⟩ := g_t hm
  refine m_entry (by decide +kernel) (Nat.le_of_ble_eq_true rfl) (fun p e s m args below meth c G hr hk hM ls hl => ?_)
  have G : CallFix p m c cX8_readNewName 2 s args mTs RX8 := G
  have hl : lv_has ls 2 [(0, .ref (eA E v0)), (1, vI v1)] := hl
  refine r_aload_n (np := 1) G hl 0 rfl dX8_readNewName_0 rfl rfl ?_
  obtain ⟨r1, e2, hm⟩ := ref_t hm
  refine r_getR (np := 4) G hM (shp_lt g0 (by decide)) g0 e2 fdX8_0 lkX8_12 dX8_readNewName_1 rfl ?_
  obtain ⟨b3, s4, e5, hm⟩ := call_t hm
  refine m_callVI (np := 7) G hM hl.1 [] (qX10_isName l E σ r1 _ e5) myX10_isName (shp_lt (gX10_isName e5) (by decide)) (gX10_isName e5) rfl (by decide) lkX8_79 ⟨Nat.le_of_ble_eq_true rfl, Nat.le_of_ble_eq_true rfl⟩ ⟨Nat.le_of_ble_eq_true rfl, Nat.le_of_ble_eq_true rfl⟩ [] rfl (Nat.le_of_ble_eq_true rfl) dX8_readNewName_4 rfl (fun H locs hM => ?_)
  refine r_if_ne (np := 10) (tgt := 16) G rfl dX8_readNewName_7 (by decide) rfl (fun h6 => ?_) (fun h6 => ?_)
  · have hm := b_f h6 hm
    refine r_aload_n (np := 17) G hl 0 rfl dX8_readNewName_16 rfl rfl ?_
    obtain ⟨r7, e8, hm⟩ := ref_t hm
    refine r_getR (np := 20) G hM (shp_lt g0 (by decide)) g0 e8 fdX8_1 lkX8_21 dX8_readNewName_17 rfl ?_
    refine r_aload_n (np := 21) G hl 0 rfl dX8_readNewName_20 rfl rfl ?_
    obtain ⟨r9, e10, hm⟩ := ref_t hm
    refine r_getR (np := 24) G hM (shp_lt g0 (by decide)) g0 e10 fdX8_0 lkX8_12 dX8_readNewName_21 rfl ?_
    obtain ⟨b11, s12, e13, hm⟩ := call_t hm
    refine m_callVI (np := 27) G hM hl.1 [.ref (eA E r9)] (qX0_find l E s4 r7 r9 _ e13) myX0_find (shp_lt (gX0_find e13) (by decide)) (gX0_find e13) rfl (by decide) lkX8_82 ⟨Nat.le_of_ble_eq_true rfl, Nat.le_of_ble_eq_true rfl⟩ ⟨Nat.le_of_ble_eq_true rfl, Nat.le_of_ble_eq_true rfl⟩ [] rfl (Nat.le_of_ble_eq_true rfl) dX8_readNewName_24 rfl (fun H locs hM => ?_)
    refine r_iconst (np := 28) G (-1) dX8_readNewName_27 rfl ?_
    refine r_icmp_eq (np := 31) (tgt := 37) G rfl (wIk (-1) rfl) dX8_readNewName_28 (by decide) rfl (fun h14 => ?_) (fun h14 => ?_)
    · have hm := b_t h14 hm
      refine r_aload_n (np := 38) G hl 0 rfl dX8_readNewName_37 rfl rfl ?_
      obtain ⟨r15, e16, hm⟩ := ref_t hm
      refine r_getR (np := 41) G hM (shp_lt g0 (by decide)) g0 e16 fdX8_1 lkX8_21 dX8_readNewName_38 rfl ?_
      refine r_iload_n (np := 42) G hl 1 rfl dX8_readNewName_41 rfl rfl ?_
      refine r_aload_n (np := 43) G hl 0 rfl dX8_readNewName_42 rfl rfl ?_
      obtain ⟨r17, e18, hm⟩ := ref_t hm
      refine r_getR (np := 46) G hM (shp_lt g0 (by decide)) g0 e18 fdX8_0 lkX8_12 dX8_readNewName_43 rfl ?_
      obtain ⟨b19, s20, e21, hm⟩ := call_t hm
      refine m_callVV (np := 49) G hM hl.1 [vI v1, .ref (eA E r17)] (qX0_begin l E s12 r15 v1 r17 _ e21) myX0_begin (shp_lt (gX0_begin e21) (by decide)) (gX0_begin e21) rfl (by decide) lkX8_86 ⟨Nat.le_of_ble_eq_true rfl, Nat.le_of_ble_eq_true rfl⟩ ⟨Nat.le_of_ble_eq_true rfl, Nat.le_of_ble_eq_true rfl⟩ [] rfl (Nat.le_of_ble_eq_true rfl) dX8_readNewName_46 rfl (fun H locs hM => ?_)
      refine r_aload_n (np := 50) G hl 0 rfl dX8_readNewName_49 rfl rfl ?_
      obtain ⟨r22, e23, hm⟩ := ref_t hm
      refine r_getR (np := 53) G hM (shp_lt g0 (by decide)) g0 e23 fdX8_0 lkX8_12 dX8_readNewName_50 rfl ?_
      obtain ⟨b24, s25, e26, hm⟩ := call_t hm
      refine m_callVV (np := 56) G hM hl.1 [] (qX10_step l E s20 r22 _ e26) myX10_step (shp_lt (gX10_step e26) (by decide)) (gX10_step e26) rfl (by decide) lkX8_61 ⟨Nat.le_of_ble_eq_true rfl, Nat.le_of_ble_eq_true rfl⟩ ⟨Nat.le_of_ble_eq_true rfl, Nat.le_of_ble_eq_true rfl⟩ [] rfl (Nat.le_of_ble_eq_true rfl) dX8_readNewName_53 rfl (fun H locs hM => ?_)
      refine r_iconst (np := 57) G 1 dX8_readNewName_56 rfl ?_
      exact r_zret G hr hk hM (Or.inr rfl) hm dX8_readNewName_57
    · have hm := b_f h14 hm
      refine r_aload_n (np := 32) G hl 0 rfl dX8_readNewName_31 rfl rfl ?_
      refine r_iconst (np := 33) G 2 dX8_readNewName_32 rfl ?_
      obtain ⟨b27, s28, e29, hm⟩ := call_t hm
      refine m_callVI (np := 36) G hM hl.1 [vI 2] (qX8_refuse l E s12 v0 2 _ e29) myX8_refuse (shp_lt (gX8_refuse e29) (by decide)) (gX8_refuse e29) rfl (by decide) lkX8_55 ⟨Nat.le_of_ble_eq_true rfl, Nat.le_of_ble_eq_true rfl⟩ ⟨Nat.le_of_ble_eq_true rfl, Nat.le_of_ble_eq_true rfl⟩ [] rfl (Nat.le_of_ble_eq_true rfl) dX8_readNewName_33 rfl (fun H locs hM => ?_)
      obtain ⟨g30, hm⟩ := g_t hm
      exact r_zret G hr hk hM g30 hm dX8_readNewName_36
  · have hm := b_t h6 hm
    refine r_aload_n (np := 11) G hl 0 rfl dX8_readNewName_10 rfl rfl ?_
    refine r_iconst (np := 12) G 1 dX8_readNewName_11 rfl ?_
    obtain ⟨b31, s32, e33, hm⟩ := call_t hm
    refine m_callVI (np := 15) G hM hl.1 [vI 1] (qX8_refuse l E s4 v0 1 _ e33) myX8_refuse (shp_lt (gX8_refuse e33) (by decide)) (gX8_refuse e33) rfl (by decide) lkX8_55 ⟨Nat.le_of_ble_eq_true rfl, Nat.le_of_ble_eq_true rfl⟩ ⟨Nat.le_of_ble_eq_true rfl, Nat.le_of_ble_eq_true rfl⟩ [] rfl (Nat.le_of_ble_eq_true rfl) dX8_readNewName_12 rfl (fun H locs hM => ?_)
    obtain ⟨g34, hm⟩ := g_t hm
    exact r_zret G hr hk hM g34 hm dX8_readNewName_15
theorem gX8_readNewName {v0 : Nat} {v1 : Int} {σ : mSt} {out : Int × mSt} (hm : mX8_readNewName v0 v1 σ = some out) : isC v0 7 := (g_t hm).1
set_option maxRecDepth 100000 in
set_option maxHeartbeats 4000000 in
theorem wX8_readTerms_B128 (l : Launch) (E : mE) (out : Int × mSt) {p : Program} {e : Env} {s : State} {m : MethodId} {args : Array Value} {below : List Frame} {meth : Method} {c : Code} (G : CallFix p m c cX8_readTerms 4 s args mTs RX8) (hr : meth.sig.returnType = (some .boolean)) (hk : meth.locks = false) (v0 : Nat) (g0 : isC v0 7) : ∀ (σ : mSt) (H : Heap) (locs : List Loc) (ls : Array Slot), mX8_readTerms_B128 v0 σ = some out → mM (mA E 257) E 257 σ s H locs → lv_has ls 4 [] → mGo l p e 8 284 s m args below meth c E (some (vI out.1)) out.2 H locs (F0 m 128 ls []) := by
  intro σ H locs ls hm hM hl
  unfold mX8_readTerms_B128 at hm
  refine r_iconst (np := 129) G 1 dX8_readTerms_128 rfl ?_
  exact r_zret G hr hk hM (Or.inr rfl) hm dX8_readTerms_129
set_option maxRecDepth 100000 in
set_option maxHeartbeats 4000000 in
theorem wX8_readTerms_B59 (l : Launch) (E : mE) (out : Int × mSt) {p : Program} {e : Env} {s : State} {m : MethodId} {args : Array Value} {below : List Frame} {meth : Method} {c : Code} (G : CallFix p m c cX8_readTerms 4 s args mTs RX8) (hr : meth.sig.returnType = (some .boolean)) (hk : meth.locks = false) (v0 : Nat) (g0 : isC v0 7) (c15 : Int → mSt → Option (Int × mSt)) (x128 : mSt → Option (Int × mSt)) (hc15 : ∀ (v1 : Int) (σ : mSt) (H : Heap) (locs : List Loc) (ls : Array Slot), c15 v1 σ = some out → mM (mA E 257) E 257 σ s H locs → lv_has ls 4 [(0, .ref (eA E v0)), (1, vI v1)] → mGo l p e 8 284 s m args below meth c E (some (vI out.1)) out.2 H locs (F0 m 15 ls [])) (hx128 : ∀ (σ : mSt) (H : Heap) (locs : List Loc) (ls : Array Slot), x128 σ = some out → mM (mA E 257) E 257 σ s H locs → lv_has ls 4 [] → mGo l p e 8 284 s m args below meth c E (some (vI out.1)) out.2 H locs (F0 m 128 ls [])) : ∀ (v1 : Int) (t0 : Int) (σ : mSt) (H : Heap) (locs : List Loc) (ls : Array Slot), mX8_readTerms_B59 v0 c15 x128 v1 t0 σ = some out → mM (mA E 257) E 257 σ s H locs → lv_has ls 4 [(0, .ref (eA E v0)), (1, vI v1)] → mGo l p e 8 284 s m args below meth c E (some (vI out.1)) out.2 H locs (F0 m 59 ls [vI t0]) := by
  intro v1 t0 σ H locs ls hm hM hl
  unfold mX8_readTerms_B59 at hm
  refine r_istore_n (np := 60) G hl rfl [(2, vI t0), (0, .ref (eA E v0)), (1, vI v1)] dX8_readTerms_59 rfl rfl (by decide) rfl (fun ls hl => ?_)
  refine r_aload_n (np := 61) G hl 1 rfl dX8_readTerms_60 rfl rfl ?_
  obtain ⟨r1, e2, hm⟩ := ref_t hm
  refine r_getR (np := 64) G hM (shp_lt g0 (by decide)) g0 e2 fdX8_0 lkX8_12 dX8_readTerms_61 rfl ?_
  obtain ⟨b3, s4, e5, hm⟩ := call_t hm
  refine m_callVV (np := 67) G hM hl.1 [] (qX10_step l E σ r1 _ e5) myX10_step (shp_lt (gX10_step e5) (by decide)) (gX10_step e5) rfl (by decide) lkX8_61 ⟨Nat.le_of_ble_eq_true rfl, Nat.le_of_ble_eq_true rfl⟩ ⟨Nat.le_of_ble_eq_true rfl, Nat.le_of_ble_eq_true rfl⟩ [] rfl (Nat.le_of_ble_eq_true rfl) dX8_readTerms_64 rfl (fun H locs hM => ?_)
  refine r_aload_n (np := 68) G hl 1 rfl dX8_readTerms_67 rfl rfl ?_
  obtain ⟨r6, e7, hm⟩ := ref_t hm
  refine r_getR (np := 71) G hM (shp_lt g0 (by decide)) g0 e7 fdX8_0 lkX8_12 dX8_readTerms_68 rfl ?_
  obtain ⟨b8, s9, e10, hm⟩ := call_t hm
  refine m_callVI (np := 74) G hM hl.1 [] (qX10_isName l E s4 r6 _ e10) myX10_isName (shp_lt (gX10_isName e10) (by decide)) (gX10_isName e10) rfl (by decide) lkX8_79 ⟨Nat.le_of_ble_eq_true rfl, Nat.le_of_ble_eq_true rfl⟩ ⟨Nat.le_of_ble_eq_true rfl, Nat.le_of_ble_eq_true rfl⟩ [] rfl (Nat.le_of_ble_eq_true rfl) dX8_readTerms_71 rfl (fun H locs hM => ?_)
  refine r_if_ne (np := 77) (tgt := 83) G rfl dX8_readTerms_74 (by decide) rfl (fun h11 => ?_) (fun h11 => ?_)
  · have hm := b_f h11 hm
    refine r_aload_n (np := 84) G hl 1 rfl dX8_readTerms_83 rfl rfl ?_
    obtain ⟨r12, e13, hm⟩ := ref_t hm
    refine r_getR (np := 87) G hM (shp_lt g0 (by decide)) g0 e13 fdX8_1 lkX8_21 dX8_readTerms_84 rfl ?_
    refine r_aload_n (np := 88) G hl 1 rfl dX8_readTerms_87 rfl rfl ?_
    obtain ⟨r14, e15, hm⟩ := ref_t hm
    refine r_getR (np := 91) G hM (shp_lt g0 (by decide)) g0 e15 fdX8_0 lkX8_12 dX8_readTerms_88 rfl ?_
    obtain ⟨b16, s17, e18, hm⟩ := call_t hm
    refine m_callVI (np := 94) G hM hl.1 [.ref (eA E r14)] (qX0_find l E s9 r12 r14 _ e18) myX0_find (shp_lt (gX0_find e18) (by decide)) (gX0_find e18) rfl (by decide) lkX8_82 ⟨Nat.le_of_ble_eq_true rfl, Nat.le_of_ble_eq_true rfl⟩ ⟨Nat.le_of_ble_eq_true rfl, Nat.le_of_ble_eq_true rfl⟩ [] rfl (Nat.le_of_ble_eq_true rfl) dX8_readTerms_91 rfl (fun H locs hM => ?_)
    refine r_istore_n (np := 95) G hl rfl [(3, vI b16), (2, vI t0), (0, .ref (eA E v0)), (1, vI v1)] dX8_readTerms_94 rfl rfl (by decide) rfl (fun ls hl => ?_)
    refine r_iload_n (np := 96) G hl 0 rfl dX8_readTerms_95 rfl rfl ?_
    refine r_iconst (np := 97) G (-1) dX8_readTerms_96 rfl ?_
    refine r_icmp_ne (np := 100) (tgt := 106) G rfl (wIk (-1) rfl) dX8_readTerms_97 (by decide) rfl (fun h19 => ?_) (fun h19 => ?_)
    · have hm := b_f h19 hm
      refine r_aload_n (np := 107) G hl 2 rfl dX8_readTerms_106 rfl rfl ?_
      obtain ⟨r20, e21, hm⟩ := ref_t hm
      refine r_getR (np := 110) G hM (shp_lt g0 (by decide)) g0 e21 fdX8_1 lkX8_21 dX8_readTerms_107 rfl ?_
      refine r_iload_n (np := 111) G hl 1 rfl dX8_readTerms_110 rfl rfl ?_
      refine r_iload_n (np := 112) G hl 0 rfl dX8_readTerms_111 rfl rfl ?_
      obtain ⟨b22, s23, e24, hm⟩ := call_t hm
      refine m_callVV (np := 115) G hM hl.1 [vI t0, vI b16] (qX0_addTerm l E s17 r20 t0 b16 _ e24) myX0_addTerm (shp_lt (gX0_addTerm e24) (by decide)) (gX0_addTerm e24) rfl (by decide) lkX8_131 ⟨Nat.le_of_ble_eq_true rfl, Nat.le_of_ble_eq_true rfl⟩ ⟨Nat.le_of_ble_eq_true rfl, Nat.le_of_ble_eq_true rfl⟩ [] rfl (Nat.le_of_ble_eq_true rfl) dX8_readTerms_112 rfl (fun H locs hM => ?_)
      refine r_aload_n (np := 116) G hl 2 rfl dX8_readTerms_115 rfl rfl ?_
      obtain ⟨r25, e26, hm⟩ := ref_t hm
      refine r_getR (np := 119) G hM (shp_lt g0 (by decide)) g0 e26 fdX8_0 lkX8_12 dX8_readTerms_116 rfl ?_
      obtain ⟨b27, s28, e29, hm⟩ := call_t hm
      refine m_callVV (np := 122) G hM hl.1 [] (qX10_step l E s23 r25 _ e29) myX10_step (shp_lt (gX10_step e29) (by decide)) (gX10_step e29) rfl (by decide) lkX8_61 ⟨Nat.le_of_ble_eq_true rfl, Nat.le_of_ble_eq_true rfl⟩ ⟨Nat.le_of_ble_eq_true rfl, Nat.le_of_ble_eq_true rfl⟩ [] rfl (Nat.le_of_ble_eq_true rfl) dX8_readTerms_119 rfl (fun H locs hM => ?_)
      obtain ⟨a30, e31, hm⟩ := bnd_t hm
      refine r_iinc (np := 125) G hl 3 rfl e31 [(1, vI a30), (3, vI b16), (2, vI t0), (0, .ref (eA E v0))] dX8_readTerms_122 rfl (by decide) rfl (fun ls hl => ?_)
      refine r_goto (np := 15) G dX8_readTerms_125 (by decide) ?_
      exact hc15 a30 _ _ _ _ hm hM (lv_sub hl [3, 0] rfl)
    · have hm := b_t h19 hm
      refine r_aload_n (np := 101) G hl 2 rfl dX8_readTerms_100 rfl rfl ?_
      refine r_iconst (np := 102) G 3 dX8_readTerms_101 rfl ?_
      obtain ⟨b32, s33, e34, hm⟩ := call_t hm
      refine m_callVI (np := 105) G hM hl.1 [vI 3] (qX8_refuse l E s17 v0 3 _ e34) myX8_refuse (shp_lt (gX8_refuse e34) (by decide)) (gX8_refuse e34) rfl (by decide) lkX8_55 ⟨Nat.le_of_ble_eq_true rfl, Nat.le_of_ble_eq_true rfl⟩ ⟨Nat.le_of_ble_eq_true rfl, Nat.le_of_ble_eq_true rfl⟩ [] rfl (Nat.le_of_ble_eq_true rfl) dX8_readTerms_102 rfl (fun H locs hM => ?_)
      obtain ⟨g35, hm⟩ := g_t hm
      exact r_zret G hr hk hM g35 hm dX8_readTerms_105
  · have hm := b_t h11 hm
    refine r_aload_n (np := 78) G hl 1 rfl dX8_readTerms_77 rfl rfl ?_
    refine r_iconst (np := 79) G 1 dX8_readTerms_78 rfl ?_
    obtain ⟨b36, s37, e38, hm⟩ := call_t hm
    refine m_callVI (np := 82) G hM hl.1 [vI 1] (qX8_refuse l E s9 v0 1 _ e38) myX8_refuse (shp_lt (gX8_refuse e38) (by decide)) (gX8_refuse e38) rfl (by decide) lkX8_55 ⟨Nat.le_of_ble_eq_true rfl, Nat.le_of_ble_eq_true rfl⟩ ⟨Nat.le_of_ble_eq_true rfl, Nat.le_of_ble_eq_true rfl⟩ [] rfl (Nat.le_of_ble_eq_true rfl) dX8_readTerms_79 rfl (fun H locs hM => ?_)
    obtain ⟨g39, hm⟩ := g_t hm
    exact r_zret G hr hk hM g39 hm dX8_readTerms_82
set_option maxRecDepth 100000 in
set_option maxHeartbeats 4000000 in
theorem wX8_readTerms_L15 (l : Launch) (E : mE) (out : Int × mSt) {p : Program} {e : Env} {s : State} {m : MethodId} {args : Array Value} {below : List Frame} {meth : Method} {c : Code} (G : CallFix p m c cX8_readTerms 4 s args mTs RX8) (hr : meth.sig.returnType = (some .boolean)) (hk : meth.locks = false) (v0 : Nat) (g0 : isC v0 7) (x128 : mSt → Option (Int × mSt)) (hx128 : ∀ (σ : mSt) (H : Heap) (locs : List Loc) (ls : Array Slot), x128 σ = some out → mM (mA E 257) E 257 σ s H locs → lv_has ls 4 [] → mGo l p e 8 284 s m args below meth c E (some (vI out.1)) out.2 H locs (F0 m 128 ls [])) : ∀ (n : Nat) (v1 : Int) (σ : mSt) (H : Heap) (locs : List Loc) (ls : Array Slot), mX8_readTerms_L15 v0 x128 n v1 σ = some out → mM (mA E 257) E 257 σ s H locs → lv_has ls 4 [(0, .ref (eA E v0)), (1, vI v1)] → mGo l p e 8 284 s m args below meth c E (some (vI out.1)) out.2 H locs (F0 m 15 ls []) := by
  intro n
  induction n with
  | zero =>
    intro v1 σ H locs ls hm hM hl
    exact absurd hm (by rw [mX8_readTerms_L15.eq_1]; exact fun h => nomatch h)
  | succ n ih =>
    intro v1 σ H locs ls hm hM hl
    rw [mX8_readTerms_L15.eq_2] at hm
    refine r_iload_n (np := 16) G hl 1 rfl dX8_readTerms_15 rfl rfl ?_
    refine r_iconst (np := 17) G 4 dX8_readTerms_16 rfl ?_
    refine r_icmp_gt (np := 20) (tgt := 128) G rfl (wIk 4 rfl) dX8_readTerms_17 (by decide) rfl (fun h40 => ?_) (fun h40 => ?_)
    · have hm := b_t h40 hm
      exact hx128 _ _ _ _ hm hM (lv_sub hl [] rfl)
    · have hm := b_f h40 hm
      refine r_aload_n (np := 21) G hl 0 rfl dX8_readTerms_20 rfl rfl ?_
      obtain ⟨b41, s42, e43, hm⟩ := call_t hm
      refine m_callVI (np := 24) G hM hl.1 [] (qX8_isSign l E σ v0 _ e43) myX8_isSign (shp_lt (gX8_isSign e43) (by decide)) (gX8_isSign e43) rfl (by decide) lkX8_125 ⟨Nat.le_of_ble_eq_true rfl, Nat.le_of_ble_eq_true rfl⟩ ⟨Nat.le_of_ble_eq_true rfl, Nat.le_of_ble_eq_true rfl⟩ [] rfl (Nat.le_of_ble_eq_true rfl) dX8_readTerms_21 rfl (fun H locs hM => ?_)
      refine r_if_eq (np := 27) (tgt := 128) G rfl dX8_readTerms_24 (by decide) rfl (fun h44 => ?_) (fun h44 => ?_)
      · have hm := b_t h44 hm
        exact hx128 _ _ _ _ hm hM (lv_sub hl [] rfl)
      · have hm := b_f h44 hm
        refine r_aload_n (np := 28) G hl 0 rfl dX8_readTerms_27 rfl rfl ?_
        obtain ⟨r45, e46, hm⟩ := ref_t hm
        refine r_getR (np := 31) G hM (shp_lt g0 (by decide)) g0 e46 fdX8_1 lkX8_21 dX8_readTerms_28 rfl ?_
        obtain ⟨b47, s48, e49, hm⟩ := call_t hm
        refine m_callVI (np := 34) G hM hl.1 [] (qX0_hasAllTerms l E s42 r45 _ e49) myX0_hasAllTerms (shp_lt (gX0_hasAllTerms e49) (by decide)) (gX0_hasAllTerms e49) rfl (by decide) lkX8_128 ⟨Nat.le_of_ble_eq_true rfl, Nat.le_of_ble_eq_true rfl⟩ ⟨Nat.le_of_ble_eq_true rfl, Nat.le_of_ble_eq_true rfl⟩ [] rfl (Nat.le_of_ble_eq_true rfl) dX8_readTerms_31 rfl (fun H locs hM => ?_)
        refine r_if_eq (np := 37) (tgt := 43) G rfl dX8_readTerms_34 (by decide) rfl (fun h50 => ?_) (fun h50 => ?_)
        · have hm := b_t h50 hm
          refine r_aload_n (np := 44) G hl 0 rfl dX8_readTerms_43 rfl rfl ?_
          obtain ⟨r51, e52, hm⟩ := ref_t hm
          refine r_getR (np := 47) G hM (shp_lt g0 (by decide)) g0 e52 fdX8_0 lkX8_12 dX8_readTerms_44 rfl ?_
          refine r_iconst (np := 48) G 4 dX8_readTerms_47 rfl ?_
          obtain ⟨b53, s54, e55, hm⟩ := call_t hm
          refine m_callVI (np := 51) G hM hl.1 [vI 4] (qX10_is l E s48 r51 4 _ e55) myX10_is (shp_lt (gX10_is e55) (by decide)) (gX10_is e55) rfl (by decide) lkX8_44 ⟨Nat.le_of_ble_eq_true rfl, Nat.le_of_ble_eq_true rfl⟩ ⟨Nat.le_of_ble_eq_true rfl, Nat.le_of_ble_eq_true rfl⟩ [] rfl (Nat.le_of_ble_eq_true rfl) dX8_readTerms_48 rfl (fun H locs hM => ?_)
          refine r_if_eq (np := 54) (tgt := 58) G rfl dX8_readTerms_51 (by decide) rfl (fun h56 => ?_) (fun h56 => ?_)
          · have hm := b_t h56 hm
            refine r_iconst (np := 59) G 1 dX8_readTerms_58 rfl ?_
            exact wX8_readTerms_B59 l E out G hr hk v0 g0 (mX8_readTerms_L15 v0 x128 n) x128 ih hx128 v1 1 _ _ _ _ hm hM (lv_sub hl [0, 1] rfl)
          · have hm := b_f h56 hm
            refine r_iconst (np := 55) G (-1) dX8_readTerms_54 rfl ?_
            refine r_goto (np := 59) G dX8_readTerms_55 (by decide) ?_
            exact wX8_readTerms_B59 l E out G hr hk v0 g0 (mX8_readTerms_L15 v0 x128 n) x128 ih hx128 v1 (-1) _ _ _ _ hm hM (lv_sub hl [0, 1] rfl)
        · have hm := b_f h50 hm
          refine r_aload_n (np := 38) G hl 0 rfl dX8_readTerms_37 rfl rfl ?_
          refine r_iconst (np := 39) G 5 dX8_readTerms_38 rfl ?_
          obtain ⟨b57, s58, e59, hm⟩ := call_t hm
          refine m_callVI (np := 42) G hM hl.1 [vI 5] (qX8_refuse l E s48 v0 5 _ e59) myX8_refuse (shp_lt (gX8_refuse e59) (by decide)) (gX8_refuse e59) rfl (by decide) lkX8_55 ⟨Nat.le_of_ble_eq_true rfl, Nat.le_of_ble_eq_true rfl⟩ ⟨Nat.le_of_ble_eq_true rfl, Nat.le_of_ble_eq_true rfl⟩ [] rfl (Nat.le_of_ble_eq_true rfl) dX8_readTerms_39 rfl (fun H locs hM => ?_)
          obtain ⟨g60, hm⟩ := g_t hm
          exact r_zret G hr hk hM g60 hm dX8_readTerms_42
set_option maxRecDepth 100000 in
set_option maxHeartbeats 4000000 in
theorem qX8_readTerms (l : Launch) (E : mE) (σ : mSt) (v0 : Nat) (out : Int × mSt) (hm : mX8_readTerms v0 σ = some out) : mMet l yX8_readTerms cX8_readTerms 4 (some .boolean) 8 284 E 257 [.ref (eA E v0)] σ (some (vI out.1)) out.2 := by
  unfold mX8_readTerms at hm
  obtain ⟨g0, hm⟩ := g_t hm
  refine m_entry (by decide +kernel) (Nat.le_of_ble_eq_true rfl) (fun p e s m args below meth c G hr hk hM ls hl => ?_)
  have G : CallFix p m c cX8_readTerms 4 s args mTs RX8 := G
  have hl : lv_has ls 4 [(0, .ref (eA E v0))] := hl
  refine r_aload_n (np := 1) G hl 0 rfl dX8_readTerms_0 rfl rfl ?_
  obtain ⟨b61, s62, e63, hm⟩ := call_t hm
  refine m_callVI (np := 4) G hM hl.1 [] (qX8_isSign l E σ v0 _ e63) myX8_isSign (shp_lt (gX8_isSign e63) (by decide)) (gX8_isSign e63) rfl (by decide) lkX8_125 ⟨Nat.le_of_ble_eq_true rfl, Nat.le_of_ble_eq_true rfl⟩ ⟨Nat.le_of_ble_eq_true rfl, Nat.le_of_ble_eq_true rfl⟩ [] rfl (Nat.le_of_ble_eq_true rfl) dX8_readTerms_1 rfl (fun H locs hM => ?_)
  refine r_if_ne (np := 7) (tgt := 13) G rfl dX8_readTerms_4 (by decide) rfl (fun h64 => ?_) (fun h64 => ?_)
  · have hm := b_f h64 hm
    refine r_iconst (np := 14) G 0 dX8_readTerms_13 rfl ?_
    refine r_istore_n (np := 15) G hl rfl [(1, vI 0), (0, .ref (eA E v0))] dX8_readTerms_14 rfl rfl (by decide) rfl (fun ls hl => ?_)
    exact wX8_readTerms_L15 l E out G hr hk v0 g0 (fun zσ => mX8_readTerms_B128 v0 zσ) (fun zσ zH zl zs zm zM zv => wX8_readTerms_B128 l E out G hr hk v0 g0 zσ zH zl zs zm zM zv) mF 0 _ _ _ _ hm hM (lv_sub hl [1, 0] rfl)
  · have hm := b_t h64 hm
    refine r_aload_n (np := 8) G hl 0 rfl dX8_readTerms_7 rfl rfl ?_
    refine r_iconst (np := 9) G 1 dX8_readTerms_8 rfl ?_
    obtain ⟨b65, s66, e67, hm⟩ := call_t hm
    refine m_callVI (np := 12) G hM hl.1 [vI 1] (qX8_refuse l E s62 v0 1 _ e67) myX8_refuse (shp_lt (gX8_refuse e67) (by decide)) (gX8_refuse e67) rfl (by decide) lkX8_55 ⟨Nat.le_of_ble_eq_true rfl, Nat.le_of_ble_eq_true rfl⟩ ⟨Nat.le_of_ble_eq_true rfl, Nat.le_of_ble_eq_true rfl⟩ [] rfl (Nat.le_of_ble_eq_true rfl) dX8_readTerms_9 rfl (fun H locs hM => ?_)
    obtain ⟨g68, hm⟩ := g_t hm
    exact r_zret G hr hk hM g68 hm dX8_readTerms_12
theorem gX8_readTerms {v0 : Nat} {σ : mSt} {out : Int × mSt} (hm : mX8_readTerms v0 σ = some out) : isC v0 7 := (g_t hm).1
set_option maxRecDepth 100000 in
set_option maxHeartbeats 4000000 in
theorem wX8_readLine_B90 (l : Launch) (E : mE) (out : Int × mSt) {p : Program} {e : Env} {s : State} {m : MethodId} {args : Array Value} {below : List Frame} {meth : Method} {c : Code} (G : CallFix p m c cX8_readLine 2 s args mTs RX8) (hr : meth.sig.returnType = (some .boolean)) (hk : meth.locks = false) (v0 : Nat) (g0 : isC v0 7) : ∀ (σ : mSt) (H : Heap) (locs : List Loc) (ls : Array Slot), mX8_readLine_B90 v0 σ = some out → mM (mA E 257) E 257 σ s H locs → lv_has ls 2 [(0, .ref (eA E v0))] → mGo l p e 9 307 s m args below meth c E (some (vI out.1)) out.2 H locs (F0 m 90 ls []) := by
  intro σ H locs ls hm hM hl
  unfold mX8_readLine_B90 at hm
  refine r_aload_n (np := 91) G hl 0 rfl dX8_readLine_90 rfl rfl ?_
  obtain ⟨r1, e2, hm⟩ := ref_t hm
  refine r_getR (np := 94) G hM (shp_lt g0 (by decide)) g0 e2 fdX8_0 lkX8_12 dX8_readLine_91 rfl ?_
  refine r_iconst (np := 95) G 5 dX8_readLine_94 rfl ?_
  obtain ⟨b3, s4, e5, hm⟩ := call_t hm
  refine m_callVI (np := 98) G hM hl.1 [vI 5] (qX10_is l E σ r1 5 _ e5) myX10_is (shp_lt (gX10_is e5) (by decide)) (gX10_is e5) rfl (by decide) lkX8_44 ⟨Nat.le_of_ble_eq_true rfl, Nat.le_of_ble_eq_true rfl⟩ ⟨Nat.le_of_ble_eq_true rfl, Nat.le_of_ble_eq_true rfl⟩ [] rfl (Nat.le_of_ble_eq_true rfl) dX8_readLine_95 rfl (fun H locs hM => ?_)
  refine r_if_ne (np := 101) (tgt := 107) G rfl dX8_readLine_98 (by decide) rfl (fun h6 => ?_) (fun h6 => ?_)
  · have hm := b_f h6 hm
    refine r_aload_n (np := 108) G hl 0 rfl dX8_readLine_107 rfl rfl ?_
    obtain ⟨r7, e8, hm⟩ := ref_t hm
    refine r_getR (np := 111) G hM (shp_lt g0 (by decide)) g0 e8 fdX8_0 lkX8_12 dX8_readLine_108 rfl ?_
    obtain ⟨b9, s10, e11, hm⟩ := call_t hm
    refine m_callVV (np := 114) G hM hl.1 [] (qX10_step l E s4 r7 _ e11) myX10_step (shp_lt (gX10_step e11) (by decide)) (gX10_step e11) rfl (by decide) lkX8_61 ⟨Nat.le_of_ble_eq_true rfl, Nat.le_of_ble_eq_true rfl⟩ ⟨Nat.le_of_ble_eq_true rfl, Nat.le_of_ble_eq_true rfl⟩ [] rfl (Nat.le_of_ble_eq_true rfl) dX8_readLine_111 rfl (fun H locs hM => ?_)
    refine r_aload_n (np := 115) G hl 0 rfl dX8_readLine_114 rfl rfl ?_
    obtain ⟨r12, e13, hm⟩ := ref_t hm
    refine r_getR (np := 118) G hM (shp_lt g0 (by decide)) g0 e13 fdX8_1 lkX8_21 dX8_readLine_115 rfl ?_
    obtain ⟨b14, s15, e16, hm⟩ := call_t hm
    refine m_callVV (np := 121) G hM hl.1 [] (qX0_finish l E s10 r12 _ e16) myX0_finish (shp_lt (gX0_finish e16) (by decide)) (gX0_finish e16) rfl (by decide) lkX8_76 ⟨Nat.le_of_ble_eq_true rfl, Nat.le_of_ble_eq_true rfl⟩ ⟨Nat.le_of_ble_eq_true rfl, Nat.le_of_ble_eq_true rfl⟩ [] rfl (Nat.le_of_ble_eq_true rfl) dX8_readLine_118 rfl (fun H locs hM => ?_)
    refine r_iconst (np := 122) G 1 dX8_readLine_121 rfl ?_
    exact r_zret G hr hk hM (Or.inr rfl) hm dX8_readLine_122
  · have hm := b_t h6 hm
    refine r_aload_n (np := 102) G hl 0 rfl dX8_readLine_101 rfl rfl ?_
    refine r_iconst (np := 103) G 1 dX8_readLine_102 rfl ?_
    obtain ⟨b17, s18, e19, hm⟩ := call_t hm
    refine m_callVI (np := 106) G hM hl.1 [vI 1] (qX8_refuse l E s4 v0 1 _ e19) myX8_refuse (shp_lt (gX8_refuse e19) (by decide)) (gX8_refuse e19) rfl (by decide) lkX8_55 ⟨Nat.le_of_ble_eq_true rfl, Nat.le_of_ble_eq_true rfl⟩ ⟨Nat.le_of_ble_eq_true rfl, Nat.le_of_ble_eq_true rfl⟩ [] rfl (Nat.le_of_ble_eq_true rfl) dX8_readLine_103 rfl (fun H locs hM => ?_)
    obtain ⟨g20, hm⟩ := g_t hm
    exact r_zret G hr hk hM g20 hm dX8_readLine_106
set_option maxRecDepth 100000 in
set_option maxHeartbeats 4000000 in
theorem qX8_readLine (l : Launch) (E : mE) (σ : mSt) (v0 : Nat) (out : Int × mSt) (hm : mX8_readLine v0 σ = some out) : mMet l yX8_readLine cX8_readLine 2 (some .boolean) 9 307 E 257 [.ref (eA E v0)] σ (some (vI out.1)) out.2 := by
  unfold mX8_readLine at hm
  obtain ⟨g0, hm⟩ := g_t hm
  refine m_entry (by decide +kernel) (Nat.le_of_ble_eq_true rfl) (fun p e s m args below meth c G hr hk hM ls hl => ?_)
  have G : CallFix p m c cX8_readLine 2 s args mTs RX8 := G
  have hl : lv_has ls 2 [(0, .ref (eA E v0))] := hl
  refine r_aload_n (np := 1) G hl 0 rfl dX8_readLine_0 rfl rfl ?_
  obtain ⟨r21, e22, hm⟩ := ref_t hm
  refine r_getR (np := 4) G hM (shp_lt g0 (by decide)) g0 e22 fdX8_0 lkX8_12 dX8_readLine_1 rfl ?_
  obtain ⟨b23, s24, e25, hm⟩ := call_t hm
  refine m_callVI (np := 7) G hM hl.1 [] (qX10_lineKind l E σ r21 _ e25) myX10_lineKind (shp_lt (gX10_lineKind e25) (by decide)) (gX10_lineKind e25) rfl (by decide) lkX8_52 ⟨Nat.le_of_ble_eq_true rfl, Nat.le_of_ble_eq_true rfl⟩ ⟨Nat.le_of_ble_eq_true rfl, Nat.le_of_ble_eq_true rfl⟩ [] rfl (Nat.le_of_ble_eq_true rfl) dX8_readLine_4 rfl (fun H locs hM => ?_)
  refine r_istore_n (np := 8) G hl rfl [(1, vI b23), (0, .ref (eA E v0))] dX8_readLine_7 rfl rfl (by decide) rfl (fun ls hl => ?_)
  refine r_iload_n (np := 9) G hl 0 rfl dX8_readLine_8 rfl rfl ?_
  refine r_iconst (np := 10) G (-1) dX8_readLine_9 rfl ?_
  refine r_icmp_ne (np := 13) (tgt := 19) G rfl (wIk (-1) rfl) dX8_readLine_10 (by decide) rfl (fun h26 => ?_) (fun h26 => ?_)
  · have hm := b_f h26 hm
    refine r_aload_n (np := 20) G hl 1 rfl dX8_readLine_19 rfl rfl ?_
    obtain ⟨r27, e28, hm⟩ := ref_t hm
    refine r_getR (np := 23) G hM (shp_lt g0 (by decide)) g0 e28 fdX8_1 lkX8_21 dX8_readLine_20 rfl ?_
    obtain ⟨b29, s30, e31, hm⟩ := call_t hm
    refine m_callVI (np := 26) G hM hl.1 [] (qX0_isFull l E s24 r27 _ e31) myX0_isFull (shp_lt (gX0_isFull e31) (by decide)) (gX0_isFull e31) rfl (by decide) lkX8_58 ⟨Nat.le_of_ble_eq_true rfl, Nat.le_of_ble_eq_true rfl⟩ ⟨Nat.le_of_ble_eq_true rfl, Nat.le_of_ble_eq_true rfl⟩ [] rfl (Nat.le_of_ble_eq_true rfl) dX8_readLine_23 rfl (fun H locs hM => ?_)
    refine r_if_eq (np := 29) (tgt := 35) G rfl dX8_readLine_26 (by decide) rfl (fun h32 => ?_) (fun h32 => ?_)
    · have hm := b_t h32 hm
      refine r_aload_n (np := 36) G hl 1 rfl dX8_readLine_35 rfl rfl ?_
      obtain ⟨r33, e34, hm⟩ := ref_t hm
      refine r_getR (np := 39) G hM (shp_lt g0 (by decide)) g0 e34 fdX8_0 lkX8_12 dX8_readLine_36 rfl ?_
      obtain ⟨b35, s36, e37, hm⟩ := call_t hm
      refine m_callVV (np := 42) G hM hl.1 [] (qX10_step l E s30 r33 _ e37) myX10_step (shp_lt (gX10_step e37) (by decide)) (gX10_step e37) rfl (by decide) lkX8_61 ⟨Nat.le_of_ble_eq_true rfl, Nat.le_of_ble_eq_true rfl⟩ ⟨Nat.le_of_ble_eq_true rfl, Nat.le_of_ble_eq_true rfl⟩ [] rfl (Nat.le_of_ble_eq_true rfl) dX8_readLine_39 rfl (fun H locs hM => ?_)
      refine r_aload_n (np := 43) G hl 1 rfl dX8_readLine_42 rfl rfl ?_
      refine r_iload_n (np := 44) G hl 0 rfl dX8_readLine_43 rfl rfl ?_
      obtain ⟨b38, s39, e40, hm⟩ := call_t hm
      refine m_callVI (np := 47) G hM hl.1 [vI b23] (qX8_readNewName l E s36 v0 b23 _ e40) myX8_readNewName (shp_lt (gX8_readNewName e40) (by decide)) (gX8_readNewName e40) rfl (by decide) lkX8_64 ⟨Nat.le_of_ble_eq_true rfl, Nat.le_of_ble_eq_true rfl⟩ ⟨Nat.le_of_ble_eq_true rfl, Nat.le_of_ble_eq_true rfl⟩ [] rfl (Nat.le_of_ble_eq_true rfl) dX8_readLine_44 rfl (fun H locs hM => ?_)
      refine r_if_ne (np := 50) (tgt := 52) G rfl dX8_readLine_47 (by decide) rfl (fun h41 => ?_) (fun h41 => ?_)
      · have hm := b_f h41 hm
        refine r_iload_n (np := 53) G hl 0 rfl dX8_readLine_52 rfl rfl ?_
        refine r_if_ne (np := 56) (tgt := 66) G rfl dX8_readLine_53 (by decide) rfl (fun h42 => ?_) (fun h42 => ?_)
        · have hm := b_f h42 hm
          refine r_iload_n (np := 67) G hl 0 rfl dX8_readLine_66 rfl rfl ?_
          refine r_iconst (np := 68) G 1 dX8_readLine_67 rfl ?_
          refine r_icmp_ne (np := 71) (tgt := 81) G rfl (wIk 1 rfl) dX8_readLine_68 (by decide) rfl (fun h43 => ?_) (fun h43 => ?_)
          · have hm := b_f h43 hm
            refine r_aload_n (np := 82) G hl 1 rfl dX8_readLine_81 rfl rfl ?_
            obtain ⟨b44, s45, e46, hm⟩ := call_t hm
            refine m_callVI (np := 85) G hM hl.1 [] (qX8_readTerms l E s39 v0 _ e46) myX8_readTerms (shp_lt (gX8_readTerms e46) (by decide)) (gX8_readTerms e46) rfl (by decide) lkX8_73 ⟨Nat.le_of_ble_eq_true rfl, Nat.le_of_ble_eq_true rfl⟩ ⟨Nat.le_of_ble_eq_true rfl, Nat.le_of_ble_eq_true rfl⟩ [] rfl (Nat.le_of_ble_eq_true rfl) dX8_readLine_82 rfl (fun H locs hM => ?_)
            refine r_if_ne (np := 88) (tgt := 90) G rfl dX8_readLine_85 (by decide) rfl (fun h47 => ?_) (fun h47 => ?_)
            · have hm := b_f h47 hm
              exact wX8_readLine_B90 l E out G hr hk v0 g0 _ _ _ _ hm hM (lv_sub hl [1] rfl)
            · have hm := b_t h47 hm
              refine r_iconst (np := 89) G 0 dX8_readLine_88 rfl ?_
              exact r_zret G hr hk hM (Or.inl rfl) hm dX8_readLine_89
          · have hm := b_t h43 hm
            refine r_aload_n (np := 72) G hl 1 rfl dX8_readLine_71 rfl rfl ?_
            obtain ⟨b48, s49, e50, hm⟩ := call_t hm
            refine m_callVI (np := 75) G hM hl.1 [] (qX8_readField l E s39 v0 _ e50) myX8_readField (shp_lt (gX8_readField e50) (by decide)) (gX8_readField e50) rfl (by decide) lkX8_70 ⟨Nat.le_of_ble_eq_true rfl, Nat.le_of_ble_eq_true rfl⟩ ⟨Nat.le_of_ble_eq_true rfl, Nat.le_of_ble_eq_true rfl⟩ [] rfl (Nat.le_of_ble_eq_true rfl) dX8_readLine_72 rfl (fun H locs hM => ?_)
            refine r_if_eq (np := 78) (tgt := 88) G rfl dX8_readLine_75 (by decide) rfl (fun h51 => ?_) (fun h51 => ?_)
            · have hm := b_t h51 hm
              refine r_iconst (np := 89) G 0 dX8_readLine_88 rfl ?_
              exact r_zret G hr hk hM (Or.inl rfl) hm dX8_readLine_89
            · have hm := b_f h51 hm
              refine r_goto (np := 90) G dX8_readLine_78 (by decide) ?_
              exact wX8_readLine_B90 l E out G hr hk v0 g0 _ _ _ _ hm hM (lv_sub hl [1] rfl)
        · have hm := b_t h42 hm
          refine r_aload_n (np := 57) G hl 1 rfl dX8_readLine_56 rfl rfl ?_
          obtain ⟨b52, s53, e54, hm⟩ := call_t hm
          refine m_callVI (np := 60) G hM hl.1 [] (qX8_readSides l E s39 v0 _ e54) myX8_readSides (shp_lt (gX8_readSides e54) (by decide)) (gX8_readSides e54) rfl (by decide) lkX8_67 ⟨Nat.le_of_ble_eq_true rfl, Nat.le_of_ble_eq_true rfl⟩ ⟨Nat.le_of_ble_eq_true rfl, Nat.le_of_ble_eq_true rfl⟩ [] rfl (Nat.le_of_ble_eq_true rfl) dX8_readLine_57 rfl (fun H locs hM => ?_)
          refine r_if_eq (np := 63) (tgt := 88) G rfl dX8_readLine_60 (by decide) rfl (fun h55 => ?_) (fun h55 => ?_)
          · have hm := b_t h55 hm
            refine r_iconst (np := 89) G 0 dX8_readLine_88 rfl ?_
            exact r_zret G hr hk hM (Or.inl rfl) hm dX8_readLine_89
          · have hm := b_f h55 hm
            refine r_goto (np := 90) G dX8_readLine_63 (by decide) ?_
            exact wX8_readLine_B90 l E out G hr hk v0 g0 _ _ _ _ hm hM (lv_sub hl [1] rfl)
      · have hm := b_t h41 hm
        refine r_iconst (np := 51) G 0 dX8_readLine_50 rfl ?_
        exact r_zret G hr hk hM (Or.inl rfl) hm dX8_readLine_51
    · have hm := b_f h32 hm
      refine r_aload_n (np := 30) G hl 1 rfl dX8_readLine_29 rfl rfl ?_
      refine r_iconst (np := 31) G 5 dX8_readLine_30 rfl ?_
      obtain ⟨b56, s57, e58, hm⟩ := call_t hm
      refine m_callVI (np := 34) G hM hl.1 [vI 5] (qX8_refuse l E s30 v0 5 _ e58) myX8_refuse (shp_lt (gX8_refuse e58) (by decide)) (gX8_refuse e58) rfl (by decide) lkX8_55 ⟨Nat.le_of_ble_eq_true rfl, Nat.le_of_ble_eq_true rfl⟩ ⟨Nat.le_of_ble_eq_true rfl, Nat.le_of_ble_eq_true rfl⟩ [] rfl (Nat.le_of_ble_eq_true rfl) dX8_readLine_31 rfl (fun H locs hM => ?_)
      obtain ⟨g59, hm⟩ := g_t hm
      exact r_zret G hr hk hM g59 hm dX8_readLine_34
  · have hm := b_t h26 hm
    refine r_aload_n (np := 14) G hl 1 rfl dX8_readLine_13 rfl rfl ?_
    refine r_iconst (np := 15) G 1 dX8_readLine_14 rfl ?_
    obtain ⟨b60, s61, e62, hm⟩ := call_t hm
    refine m_callVI (np := 18) G hM hl.1 [vI 1] (qX8_refuse l E s24 v0 1 _ e62) myX8_refuse (shp_lt (gX8_refuse e62) (by decide)) (gX8_refuse e62) rfl (by decide) lkX8_55 ⟨Nat.le_of_ble_eq_true rfl, Nat.le_of_ble_eq_true rfl⟩ ⟨Nat.le_of_ble_eq_true rfl, Nat.le_of_ble_eq_true rfl⟩ [] rfl (Nat.le_of_ble_eq_true rfl) dX8_readLine_15 rfl (fun H locs hM => ?_)
    obtain ⟨g63, hm⟩ := g_t hm
    exact r_zret G hr hk hM g63 hm dX8_readLine_18
theorem gX8_readLine {v0 : Nat} {σ : mSt} {out : Int × mSt} (hm : mX8_readLine v0 σ = some out) : isC v0 7 := (g_t hm).1
set_option maxRecDepth 100000 in
set_option maxHeartbeats 4000000 in
theorem wX8_readText_B75 (l : Launch) (E : mE) (out : Int × mSt) {p : Program} {e : Env} {s : State} {m : MethodId} {args : Array Value} {below : List Frame} {meth : Method} {c : Code} (G : CallFix p m c cX8_readText 6 s args mTs RX8) (hr : meth.sig.returnType = (some .int)) (hk : meth.locks = false) (v0 : Nat) (v1 : Nat) (v2 : Int) (v3 : Nat) (g0 : isC v0 7) : ∀ (σ : mSt) (H : Heap) (locs : List Loc) (ls : Array Slot), mX8_readText_B75 v0 v1 v2 v3 σ = some out → mM (mA E 257) E 257 σ s H locs → lv_has ls 6 [(0, .ref (eA E v0))] → mGo l p e 10 328 s m args below meth c E (some (vI out.1)) out.2 H locs (F0 m 75 ls []) := by
  intro σ H locs ls hm hM hl
  unfold mX8_readText_B75 at hm
  refine r_aload_n (np := 76) G hl 0 rfl dX8_readText_75 rfl rfl ?_
  refine r_getI (np := 79) G hM (shp_lt g0 (by decide)) g0 fdX8_2 lkX8_25 dX8_readText_76 rfl ?_
  exact r_iret G hr hk hM hm dX8_readText_79
set_option maxRecDepth 100000 in
set_option maxHeartbeats 4000000 in
theorem wX8_readText_B66 (l : Launch) (E : mE) (out : Int × mSt) {p : Program} {e : Env} {s : State} {m : MethodId} {args : Array Value} {below : List Frame} {meth : Method} {c : Code} (G : CallFix p m c cX8_readText 6 s args mTs RX8) (hr : meth.sig.returnType = (some .int)) (hk : meth.locks = false) (v0 : Nat) (v1 : Nat) (v2 : Int) (v3 : Nat) (g0 : isC v0 7) (c32 : Int → Int → mSt → Option (Int × mSt)) (x75 : mSt → Option (Int × mSt)) (hc32 : ∀ (v4 : Int) (v5 : Int) (σ : mSt) (H : Heap) (locs : List Loc) (ls : Array Slot), c32 v4 v5 σ = some out → mM (mA E 257) E 257 σ s H locs → lv_has ls 6 [(0, .ref (eA E v0)), (4, vI v4), (5, vI v5)] → mGo l p e 10 328 s m args below meth c E (some (vI out.1)) out.2 H locs (F0 m 32 ls [])) (hx75 : ∀ (σ : mSt) (H : Heap) (locs : List Loc) (ls : Array Slot), x75 σ = some out → mM (mA E 257) E 257 σ s H locs → lv_has ls 6 [(0, .ref (eA E v0))] → mGo l p e 10 328 s m args below meth c E (some (vI out.1)) out.2 H locs (F0 m 75 ls [])) : ∀ (v5 : Int) (σ : mSt) (H : Heap) (locs : List Loc) (ls : Array Slot), mX8_readText_B66 v0 v1 v2 v3 c32 x75 v5 σ = some out → mM (mA E 257) E 257 σ s H locs → lv_has ls 6 [(0, .ref (eA E v0)), (5, vI v5)] → mGo l p e 10 328 s m args below meth c E (some (vI out.1)) out.2 H locs (F0 m 66 ls []) := by
  intro v5 σ H locs ls hm hM hl
  unfold mX8_readText_B66 at hm
  refine r_iconst (np := 67) G 0 dX8_readText_66 rfl ?_
  refine r_istore (np := 69) G hl rfl [(4, vI 0), (0, .ref (eA E v0)), (5, vI v5)] dX8_readText_67 rfl (by decide) rfl (fun ls hl => ?_)
  obtain ⟨a1, e2, hm⟩ := bnd_t hm
  refine r_iinc (np := 72) G hl 2 rfl e2 [(5, vI a1), (4, vI 0), (0, .ref (eA E v0))] dX8_readText_69 rfl (by decide) rfl (fun ls hl => ?_)
  refine r_goto (np := 32) G dX8_readText_72 (by decide) ?_
  exact hc32 0 a1 _ _ _ _ hm hM (lv_sub hl [2, 1, 0] rfl)
set_option maxRecDepth 100000 in
set_option maxHeartbeats 4000000 in
theorem wX8_readText_L32 (l : Launch) (E : mE) (out : Int × mSt) {p : Program} {e : Env} {s : State} {m : MethodId} {args : Array Value} {below : List Frame} {meth : Method} {c : Code} (G : CallFix p m c cX8_readText 6 s args mTs RX8) (hr : meth.sig.returnType = (some .int)) (hk : meth.locks = false) (v0 : Nat) (v1 : Nat) (v2 : Int) (v3 : Nat) (g0 : isC v0 7) (x75 : mSt → Option (Int × mSt)) (hx75 : ∀ (σ : mSt) (H : Heap) (locs : List Loc) (ls : Array Slot), x75 σ = some out → mM (mA E 257) E 257 σ s H locs → lv_has ls 6 [(0, .ref (eA E v0))] → mGo l p e 10 328 s m args below meth c E (some (vI out.1)) out.2 H locs (F0 m 75 ls [])) : ∀ (n : Nat) (v4 : Int) (v5 : Int) (σ : mSt) (H : Heap) (locs : List Loc) (ls : Array Slot), mX8_readText_L32 v0 v1 v2 v3 x75 n v4 v5 σ = some out → mM (mA E 257) E 257 σ s H locs → lv_has ls 6 [(0, .ref (eA E v0)), (4, vI v4), (5, vI v5)] → mGo l p e 10 328 s m args below meth c E (some (vI out.1)) out.2 H locs (F0 m 32 ls []) := by
  intro n
  induction n with
  | zero =>
    intro v4 v5 σ H locs ls hm hM hl
    exact absurd hm (by rw [mX8_readText_L32.eq_1]; exact fun h => nomatch h)
  | succ n ih =>
    intro v4 v5 σ H locs ls hm hM hl
    rw [mX8_readText_L32.eq_2] at hm
    refine r_iload (np := 34) G hl 2 rfl dX8_readText_32 rfl ?_
    refine r_bipush (np := 36) G 8 dX8_readText_34 (by decide) rfl ?_
    refine r_icmp_gt (np := 39) (tgt := 75) G rfl (wIk 8 rfl) dX8_readText_36 (by decide) rfl (fun h3 => ?_) (fun h3 => ?_)
    · have hm := b_t h3 hm
      exact hx75 _ _ _ _ hm hM (lv_sub hl [0] rfl)
    · have hm := b_f h3 hm
      refine r_iload (np := 41) G hl 1 rfl dX8_readText_39 rfl ?_
      refine r_if_eq (np := 44) (tgt := 75) G rfl dX8_readText_41 (by decide) rfl (fun h4 => ?_) (fun h4 => ?_)
      · have hm := b_t h4 hm
        exact hx75 _ _ _ _ hm hM (lv_sub hl [0] rfl)
      · have hm := b_f h4 hm
        refine r_aload_n (np := 45) G hl 0 rfl dX8_readText_44 rfl rfl ?_
        obtain ⟨b5, s6, e7, hm⟩ := call_t hm
        refine m_callVI (np := 48) G hM hl.1 [] (qX8_readLine l E σ v0 _ e7) myX8_readLine (shp_lt (gX8_readLine e7) (by decide)) (gX8_readLine e7) rfl (by decide) lkX8_40 ⟨Nat.le_of_ble_eq_true rfl, Nat.le_of_ble_eq_true rfl⟩ ⟨Nat.le_of_ble_eq_true rfl, Nat.le_of_ble_eq_true rfl⟩ [] rfl (Nat.le_of_ble_eq_true rfl) dX8_readText_45 rfl (fun H locs hM => ?_)
        refine r_if_eq (np := 51) (tgt := 66) G rfl dX8_readText_48 (by decide) rfl (fun h8 => ?_) (fun h8 => ?_)
        · have hm := b_t h8 hm
          exact wX8_readText_B66 l E out G hr hk v0 v1 v2 v3 g0 (mX8_readText_L32 v0 v1 v2 v3 x75 n) x75 ih hx75 v5 _ _ _ _ hm hM (lv_sub hl [0, 2] rfl)
        · have hm := b_f h8 hm
          refine r_aload_n (np := 52) G hl 0 rfl dX8_readText_51 rfl rfl ?_
          obtain ⟨r9, e10, hm⟩ := ref_t hm
          refine r_getR (np := 55) G hM (shp_lt g0 (by decide)) g0 e10 fdX8_0 lkX8_12 dX8_readText_52 rfl ?_
          refine r_iconst (np := 56) G 0 dX8_readText_55 rfl ?_
          obtain ⟨b11, s12, e13, hm⟩ := call_t hm
          refine m_callVI (np := 59) G hM hl.1 [vI 0] (qX10_is l E s6 r9 0 _ e13) myX10_is (shp_lt (gX10_is e13) (by decide)) (gX10_is e13) rfl (by decide) lkX8_44 ⟨Nat.le_of_ble_eq_true rfl, Nat.le_of_ble_eq_true rfl⟩ ⟨Nat.le_of_ble_eq_true rfl, Nat.le_of_ble_eq_true rfl⟩ [] rfl (Nat.le_of_ble_eq_true rfl) dX8_readText_56 rfl (fun H locs hM => ?_)
          refine r_if_ne (np := 62) (tgt := 66) G rfl dX8_readText_59 (by decide) rfl (fun h14 => ?_) (fun h14 => ?_)
          · have hm := b_f h14 hm
            exact wX8_readText_B66 l E out G hr hk v0 v1 v2 v3 g0 (mX8_readText_L32 v0 v1 v2 v3 x75 n) x75 ih hx75 v5 _ _ _ _ hm hM (lv_sub hl [0, 2] rfl)
          · have hm := b_t h14 hm
            refine r_iconst (np := 63) G 1 dX8_readText_62 rfl ?_
            refine r_goto (np := 67) G dX8_readText_63 (by decide) ?_
            refine r_istore (np := 69) G hl rfl [(4, vI 1), (0, .ref (eA E v0)), (5, vI v5)] dX8_readText_67 rfl (by decide) rfl (fun ls hl => ?_)
            obtain ⟨a15, e16, hm⟩ := bnd_t hm
            refine r_iinc (np := 72) G hl 2 rfl e16 [(5, vI a15), (4, vI 1), (0, .ref (eA E v0))] dX8_readText_69 rfl (by decide) rfl (fun ls hl => ?_)
            refine r_goto (np := 32) G dX8_readText_72 (by decide) ?_
            exact ih 1 a15 _ _ _ _ hm hM (lv_sub hl [2, 1, 0] rfl)
set_option maxRecDepth 100000 in
set_option maxHeartbeats 4000000 in
theorem qX8_readText (l : Launch) (E : mE) (σ : mSt) (v0 : Nat) (v1 : Nat) (v2 : Int) (v3 : Nat) (out : Int × mSt) (hm : mX8_readText v0 v1 v2 v3 σ = some out) : mMet l yX8_readText cX8_readText 6 (some .int) 10 328 E 257 [.ref (eA E v0), .ref (eA E v1), vI v2, .ref (eA E v3)] σ (some (vI out.1)) out.2 := by
  unfold mX8_readText at hm
  obtain ⟨g0, hm⟩ := g_t hm
  refine m_entry (by decide +kernel) (Nat.le_of_ble_eq_true rfl) (fun p e s m args below meth c G hr hk hM ls hl => ?_)
  have G : CallFix p m c cX8_readText 6 s args mTs RX8 := G
  have hl : lv_has ls 6 [(0, .ref (eA E v0)), (1, .ref (eA E v1)), (2, vI v2), (3, .ref (eA E v3))] := hl
  refine r_aload_n (np := 1) G hl 0 rfl dX8_readText_0 rfl rfl ?_
  refine r_aload_n (np := 2) G hl 3 rfl dX8_readText_1 rfl rfl ?_
  obtain ⟨g17, hm⟩ := g_t hm
  obtain ⟨s18, e19, hm⟩ := bnd_t hm
  refine r_putR (np := 5) G hM (shp_lt g0 (by decide)) g0 ptX8_1 rfl lkX8_21 g17 (fun _ => rfl) (fun _ => rfl) s18 e19 dX8_readText_2 rfl (fun H locs hM => ?_)
  refine r_aload_n (np := 6) G hl 0 rfl dX8_readText_5 rfl rfl ?_
  obtain ⟨r20, e21, hm⟩ := ref_t hm
  refine r_getR (np := 9) G hM (shp_lt g0 (by decide)) g0 e21 fdX8_1 lkX8_21 dX8_readText_6 rfl ?_
  obtain ⟨b22, s23, e24, hm⟩ := call_t hm
  refine m_callVV (np := 12) G hM hl.1 [] (qX0_clear l E s18 r20 _ e24) myX0_clear (shp_lt (gX0_clear e24) (by decide)) (gX0_clear e24) rfl (by decide) lkX8_33 ⟨Nat.le_of_ble_eq_true rfl, Nat.le_of_ble_eq_true rfl⟩ ⟨Nat.le_of_ble_eq_true rfl, Nat.le_of_ble_eq_true rfl⟩ [] rfl (Nat.le_of_ble_eq_true rfl) dX8_readText_9 rfl (fun H locs hM => ?_)
  refine r_aload_n (np := 13) G hl 0 rfl dX8_readText_12 rfl rfl ?_
  refine r_iconst (np := 14) G 0 dX8_readText_13 rfl ?_
  obtain ⟨s25, e26, hm⟩ := bnd_t hm
  refine r_putI (np := 17) G hM (shp_lt g0 (by decide)) g0 ptX8_2 rfl lkX8_25 s25 e26 dX8_readText_14 rfl (fun H locs hM => ?_)
  refine r_aload_n (np := 18) G hl 0 rfl dX8_readText_17 rfl rfl ?_
  obtain ⟨r27, e28, hm⟩ := ref_t hm
  refine r_getR (np := 21) G hM (shp_lt g0 (by decide)) g0 e28 fdX8_0 lkX8_12 dX8_readText_18 rfl ?_
  refine r_aload_n (np := 22) G hl 1 rfl dX8_readText_21 rfl rfl ?_
  refine r_iload_n (np := 23) G hl 2 rfl dX8_readText_22 rfl rfl ?_
  obtain ⟨b29, s30, e31, hm⟩ := call_t hm
  refine m_callVV (np := 26) G hM hl.1 [.ref (eA E v1), vI v2] (qX10_begin l E s25 r27 v1 v2 _ e31) myX10_begin (shp_lt (gX10_begin e31) (by decide)) (gX10_begin e31) rfl (by decide) lkX8_36 ⟨Nat.le_of_ble_eq_true rfl, Nat.le_of_ble_eq_true rfl⟩ ⟨Nat.le_of_ble_eq_true rfl, Nat.le_of_ble_eq_true rfl⟩ [] rfl (Nat.le_of_ble_eq_true rfl) dX8_readText_23 rfl (fun H locs hM => ?_)
  refine r_iconst (np := 27) G 1 dX8_readText_26 rfl ?_
  refine r_istore (np := 29) G hl rfl [(4, vI 1), (0, .ref (eA E v0)), (1, .ref (eA E v1)), (2, vI v2), (3, .ref (eA E v3))] dX8_readText_27 rfl (by decide) rfl (fun ls hl => ?_)
  refine r_iconst (np := 30) G 0 dX8_readText_29 rfl ?_
  refine r_istore (np := 32) G hl rfl [(5, vI 0), (4, vI 1), (0, .ref (eA E v0)), (1, .ref (eA E v1)), (2, vI v2), (3, .ref (eA E v3))] dX8_readText_30 rfl (by decide) rfl (fun ls hl => ?_)
  exact wX8_readText_L32 l E out G hr hk v0 v1 v2 v3 g0 (fun zσ => mX8_readText_B75 v0 v1 v2 v3 zσ) (fun zσ zH zl zs zm zM zv => wX8_readText_B75 l E out G hr hk v0 v1 v2 v3 g0 zσ zH zl zs zm zM zv) mF 1 0 _ _ _ _ hm hM (lv_sub hl [2, 1, 0] rfl)
theorem gX8_readText {v0 : Nat} {v1 : Nat} {v2 : Int} {v3 : Nat} {σ : mSt} {out : Int × mSt} (hm : mX8_readText v0 v1 v2 v3 σ = some out) : isC v0 7 := (g_t hm).1
set_option maxRecDepth 100000 in
set_option maxHeartbeats 4000000 in
theorem qX11_text (l : Launch) (E : mE) (σ : mSt) (v0 : Nat) (v1 : Int) (out : Int × mSt) (hm : mX11_text v0 v1 σ = some out) : mMet l yX11_text cX11_text 4 (some .int) 11 353 E 257 [.ref (eA E v0), vI v1] σ (some (vI out.1)) out.2 := by
  unfold mX11_text at hm
  obtain ⟨g0, hm⟩ := g_t hm
  refine m_entry (by decide +kernel) (Nat.le_of_ble_eq_true rfl) (fun p e s m args below meth c G hr hk hM ls hl => ?_)
  have G : CallFix p m c cX11_text 4 s args mTs RX11 := G
  have hl : lv_has ls 4 [(0, .ref (eA E v0)), (1, vI v1)] := hl
  refine r_iload_n (np := 1) G hl 1 rfl dX11_text_0 rfl rfl ?_
  refine r_if_lt (np := 4) (tgt := 12) G rfl dX11_text_1 (by decide) rfl (fun h1 => ?_) (fun h1 => ?_)
  · have hm := b_t h1 hm
    refine r_iconst (np := 13) G (-1) dX11_text_12 rfl ?_
    exact r_iret G hr hk hM hm dX11_text_13
  · have hm := b_f h1 hm
    refine r_iload_n (np := 5) G hl 1 rfl dX11_text_4 rfl rfl ?_
    refine r_aload_n (np := 6) G hl 0 rfl dX11_text_5 rfl rfl ?_
    refine r_getI (np := 9) G hM (shp_lt g0 (by decide)) g0 fdX11_1 lkX11_13 dX11_text_6 rfl ?_
    refine r_icmp_le (np := 12) (tgt := 14) G rfl rfl dX11_text_9 (by decide) rfl (fun h2 => ?_) (fun h2 => ?_)
    · have hm := b_t h2 hm
      refine r_aload_n (np := 15) G hl 0 rfl dX11_text_14 rfl rfl ?_
      obtain ⟨r3, e4, hm⟩ := ref_t hm
      refine r_getR (np := 18) G hM (shp_lt g0 (by decide)) g0 e4 fdX11_2 lkX11_20 dX11_text_15 rfl ?_
      refine r_aload_n (np := 19) G hl 0 rfl dX11_text_18 rfl rfl ?_
      obtain ⟨r5, e6, hm⟩ := ref_t hm
      refine r_getR (np := 22) G hM (shp_lt g0 (by decide)) g0 e6 fdX11_0 lkX11_9 dX11_text_19 rfl ?_
      refine r_iload_n (np := 23) G hl 1 rfl dX11_text_22 rfl rfl ?_
      refine r_aload_n (np := 24) G hl 0 rfl dX11_text_23 rfl rfl ?_
      obtain ⟨r7, e8, hm⟩ := ref_t hm
      refine r_getR (np := 27) G hM (shp_lt g0 (by decide)) g0 e8 fdX11_4 lkX11_31 dX11_text_24 rfl ?_
      obtain ⟨b9, s10, e11, hm⟩ := call_t hm
      refine m_callVI (np := 30) G hM hl.1 [.ref (eA E r5), vI v1, .ref (eA E r7)] (qX8_readText l E σ r3 r5 v1 r7 _ e11) myX8_readText (shp_lt (gX8_readText e11) (by decide)) (gX8_readText e11) rfl (by decide) lkX11_84 ⟨Nat.le_of_ble_eq_true rfl, Nat.le_of_ble_eq_true rfl⟩ ⟨Nat.le_of_ble_eq_true rfl, Nat.le_of_ble_eq_true rfl⟩ [] rfl (Nat.le_of_ble_eq_true rfl) dX11_text_27 rfl (fun H locs hM => ?_)
      refine r_istore_n (np := 31) G hl rfl [(2, vI b9), (0, .ref (eA E v0)), (1, vI v1)] dX11_text_30 rfl rfl (by decide) rfl (fun ls hl => ?_)
      refine r_aload_n (np := 32) G hl 1 rfl dX11_text_31 rfl rfl ?_
      refine r_iconst (np := 33) G 0 dX11_text_32 rfl ?_
      obtain ⟨s12, e13, hm⟩ := bnd_t hm
      refine r_putI (np := 36) G hM (shp_lt g0 (by decide)) g0 ptX11_1 rfl lkX11_13 s12 e13 dX11_text_33 rfl (fun H locs hM => ?_)
      refine r_iload_n (np := 37) G hl 0 rfl dX11_text_36 rfl rfl ?_
      refine r_if_eq (np := 40) (tgt := 45) G rfl dX11_text_37 (by decide) rfl (fun h14 => ?_) (fun h14 => ?_)
      · have hm := b_t h14 hm
        refine r_aload_n (np := 46) G hl 1 rfl dX11_text_45 rfl rfl ?_
        obtain ⟨r15, e16, hm⟩ := ref_t hm
        refine r_getR (np := 49) G hM (shp_lt g0 (by decide)) g0 e16 fdX11_3 lkX11_27 dX11_text_46 rfl ?_
        refine r_astore_n (np := 50) G hl rfl [(3, .ref (eA E r15)), (2, vI b9), (0, .ref (eA E v0)), (1, vI v1)] dX11_text_49 rfl rfl (by decide) rfl (fun ls hl => ?_)
        refine r_aload_n (np := 51) G hl 2 rfl dX11_text_50 rfl rfl ?_
        refine r_aload_n (np := 52) G hl 2 rfl dX11_text_51 rfl rfl ?_
        obtain ⟨r17, e18, hm⟩ := ref_t hm
        refine r_getR (np := 55) G hM (shp_lt g0 (by decide)) g0 e18 fdX11_4 lkX11_31 dX11_text_52 rfl ?_
        obtain ⟨g19, hm⟩ := g_t hm
        obtain ⟨s20, e21, hm⟩ := bnd_t hm
        refine r_putR (np := 58) G hM (shp_lt g0 (by decide)) g0 ptX11_3 rfl lkX11_27 g19 (fun _ => rfl) (fun _ => rfl) s20 e21 dX11_text_55 rfl (fun H locs hM => ?_)
        refine r_aload_n (np := 59) G hl 2 rfl dX11_text_58 rfl rfl ?_
        refine r_aload_n (np := 60) G hl 0 rfl dX11_text_59 rfl rfl ?_
        obtain ⟨g22, hm⟩ := g_t hm
        obtain ⟨s23, e24, hm⟩ := bnd_t hm
        refine r_putR (np := 63) G hM (shp_lt g0 (by decide)) g0 ptX11_4 rfl lkX11_31 g22 (fun _ => rfl) (fun _ => rfl) s23 e24 dX11_text_60 rfl (fun H locs hM => ?_)
        refine r_aload_n (np := 64) G hl 2 rfl dX11_text_63 rfl rfl ?_
        obtain ⟨b25, s26, e27, hm⟩ := call_t hm
        refine m_callVV (np := 67) G hM hl.1 [] (qX11_beginAnew l E s23 v0 _ e27) myX11_beginAnew (shp_lt (gX11_beginAnew e27) (by decide)) (gX11_beginAnew e27) rfl (by decide) lkX11_88 ⟨Nat.le_of_ble_eq_true rfl, Nat.le_of_ble_eq_true rfl⟩ ⟨Nat.le_of_ble_eq_true rfl, Nat.le_of_ble_eq_true rfl⟩ [] rfl (Nat.le_of_ble_eq_true rfl) dX11_text_64 rfl (fun H locs hM => ?_)
        refine r_aload_n (np := 68) G hl 2 rfl dX11_text_67 rfl rfl ?_
        obtain ⟨r28, e29, hm⟩ := ref_t hm
        refine r_getR (np := 71) G hM (shp_lt g0 (by decide)) g0 e29 fdX11_3 lkX11_27 dX11_text_68 rfl ?_
        obtain ⟨b30, s31, e32, hm⟩ := call_t hm
        refine m_callVI (np := 74) G hM hl.1 [] (qX0_size l E s26 r28 _ e32) myX0_size (shp_lt (gX0_size e32) (by decide)) (gX0_size e32) rfl (by decide) lkX11_91 ⟨Nat.le_of_ble_eq_true rfl, Nat.le_of_ble_eq_true rfl⟩ ⟨Nat.le_of_ble_eq_true rfl, Nat.le_of_ble_eq_true rfl⟩ [] rfl (Nat.le_of_ble_eq_true rfl) dX11_text_71 rfl (fun H locs hM => ?_)
        exact r_iret G hr hk hM hm dX11_text_74
      · have hm := b_f h14 hm
        refine r_bipush (np := 42) G (-2) dX11_text_40 (by decide) rfl ?_
        refine r_iload_n (np := 43) G hl 0 rfl dX11_text_42 rfl rfl ?_
        refine r_isub (np := 44) G dX11_text_43 rfl ?_
        exact r_iret G hr hk hM hm dX11_text_44
    · have hm := b_f h2 hm
      refine r_iconst (np := 13) G (-1) dX11_text_12 rfl ?_
      exact r_iret G hr hk hM hm dX11_text_13
theorem gX11_text {v0 : Nat} {v1 : Int} {σ : mSt} {out : Int × mSt} (hm : mX11_text v0 v1 σ = some out) : isC v0 10 := (g_t hm).1
