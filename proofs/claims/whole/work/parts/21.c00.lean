theorem lkX10_72 : Cond.methodLink RX10 72 yJ0_length_8abf5 ∈ mTs := mTs_in 483 (by decide +kernel) (by decide +kernel)
theorem lkX10_78 : Cond.methodLink RX10 78 yJ0_charAt_5068e ∈ mTs := mTs_in 497 (by decide +kernel) (by decide +kernel)
theorem lkX10_82 : Cond.methodLink RX10 82 yX10_byteAt ∈ mTs := mTs_in 535 (by decide +kernel) (by decide +kernel)
theorem lkX10_77 : Cond.methodLink RX10 77 yX10_length ∈ mTs := mTs_in 493 (by decide +kernel) (by decide +kernel)
theorem lkX10_60 : Cond.methodLink RX10 60 yX10_isWord ∈ mTs := mTs_in 479 (by decide +kernel) (by decide +kernel)
theorem myX10_isWord : mYV yX10_isWord cX10_isWord 4 (some .boolean) 1 := ⟨⟨mTs_in 482 (by decide +kernel) (by decide +kernel), mTs_in 118 (by decide +kernel) (by decide +kernel), ⟨by decide, by decide⟩, by decide +kernel⟩, mTs_in 481 (by decide +kernel) (by decide +kernel), mTs_in 6 (by decide +kernel) (by decide +kernel)⟩
theorem lkX10_68 : Cond.methodLink RX10 68 yX10_lineKind ∈ mTs := mTs_in 562 (by decide +kernel) (by decide +kernel)
theorem myX10_lineKind : mYV yX10_lineKind cX10_lineKind 1 (some .int) 0 := ⟨⟨mTs_in 477 (by decide +kernel) (by decide +kernel), mTs_in 118 (by decide +kernel) (by decide +kernel), ⟨by decide, by decide⟩, by decide +kernel⟩, mTs_in 475 (by decide +kernel) (by decide +kernel), mTs_in 476 (by decide +kernel) (by decide +kernel)⟩
theorem lkX8_79 : Cond.methodLink RX8 79 yX10_isName ∈ mTs := mTs_in 558 (by decide +kernel) (by decide +kernel)
theorem myX10_isName : mYV yX10_isName cX10_isName 1 (some .boolean) 0 := ⟨⟨mTs_in 561 (by decide +kernel) (by decide +kernel), mTs_in 118 (by decide +kernel) (by decide +kernel), ⟨by decide, by decide⟩, by decide +kernel⟩, mTs_in 559 (by decide +kernel) (by decide +kernel), mTs_in 560 (by decide +kernel) (by decide +kernel)⟩
theorem lkX8_82 : Cond.methodLink RX8 82 yX0_find ∈ mTs := mTs_in 563 (by decide +kernel) (by decide +kernel)
theorem myX0_find : mYV yX0_find cX0_find 3 (some .int) 1 := ⟨⟨mTs_in 566 (by decide +kernel) (by decide +kernel), mTs_in 119 (by decide +kernel) (by decide +kernel), ⟨by decide, by decide⟩, by decide +kernel⟩, mTs_in 564 (by decide +kernel) (by decide +kernel), mTs_in 565 (by decide +kernel) (by decide +kernel)⟩
theorem lkX8_86 : Cond.methodLink RX8 86 yX0_begin ∈ mTs := mTs_in 573 (by decide +kernel) (by decide +kernel)
theorem myX0_begin : mYV yX0_begin cX0_begin 4 none 2 := ⟨⟨mTs_in 576 (by decide +kernel) (by decide +kernel), mTs_in 119 (by decide +kernel) (by decide +kernel), ⟨by decide, by decide⟩, by decide +kernel⟩, mTs_in 574 (by decide +kernel) (by decide +kernel), mTs_in 575 (by decide +kernel) (by decide +kernel)⟩
theorem lkX8_131 : Cond.methodLink RX8 131 yX0_addTerm ∈ mTs := mTs_in 636 (by decide +kernel) (by decide +kernel)
theorem myX0_addTerm : mYV yX0_addTerm cX0_addTerm 3 none 2 := ⟨⟨mTs_in 639 (by decide +kernel) (by decide +kernel), mTs_in 119 (by decide +kernel) (by decide +kernel), ⟨by decide, by decide⟩, by decide +kernel⟩, mTs_in 637 (by decide +kernel) (by decide +kernel), mTs_in 638 (by decide +kernel) (by decide +kernel)⟩
theorem lkX8_125 : Cond.methodLink RX8 125 yX8_isSign ∈ mTs := mTs_in 628 (by decide +kernel) (by decide +kernel)
theorem myX8_isSign : mYV yX8_isSign cX8_isSign 1 (some .boolean) 0 := ⟨⟨mTs_in 631 (by decide +kernel) (by decide +kernel), mTs_in 117 (by decide +kernel) (by decide +kernel), ⟨by decide, by decide⟩, by decide +kernel⟩, mTs_in 630 (by decide +kernel) (by decide +kernel), mTs_in 15 (by decide +kernel) (by decide +kernel)⟩
theorem lkX8_128 : Cond.methodLink RX8 128 yX0_hasAllTerms ∈ mTs := mTs_in 632 (by decide +kernel) (by decide +kernel)
theorem lkX8_76 : Cond.methodLink RX8 76 yX0_finish ∈ mTs := mTs_in 641 (by decide +kernel) (by decide +kernel)
theorem myX0_finish : mYV yX0_finish cX0_finish 1 none 0 := ⟨⟨mTs_in 644 (by decide +kernel) (by decide +kernel), mTs_in 119 (by decide +kernel) (by decide +kernel), ⟨by decide, by decide⟩, by decide +kernel⟩, mTs_in 642 (by decide +kernel) (by decide +kernel), mTs_in 643 (by decide +kernel) (by decide +kernel)⟩
theorem lkX8_52 : Cond.methodLink RX8 52 yX10_lineKind ∈ mTs := mTs_in 474 (by decide +kernel) (by decide +kernel)
theorem lkX8_58 : Cond.methodLink RX8 58 yX0_isFull ∈ mTs := mTs_in 549 (by decide +kernel) (by decide +kernel)
theorem lkX8_64 : Cond.methodLink RX8 64 yX8_readNewName ∈ mTs := mTs_in 554 (by decide +kernel) (by decide +kernel)
theorem myX8_readNewName : mYV yX8_readNewName cX8_readNewName 2 (some .boolean) 1 := ⟨⟨mTs_in 557 (by decide +kernel) (by decide +kernel), mTs_in 117 (by decide +kernel) (by decide +kernel), ⟨by decide, by decide⟩, by decide +kernel⟩, mTs_in 556 (by decide +kernel) (by decide +kernel), mTs_in 8 (by decide +kernel) (by decide +kernel)⟩
theorem lkX8_73 : Cond.methodLink RX8 73 yX8_readTerms ∈ mTs := mTs_in 624 (by decide +kernel) (by decide +kernel)
theorem myX8_readTerms : mYV yX8_readTerms cX8_readTerms 4 (some .boolean) 0 := ⟨⟨mTs_in 627 (by decide +kernel) (by decide +kernel), mTs_in 117 (by decide +kernel) (by decide +kernel), ⟨by decide, by decide⟩, by decide +kernel⟩, mTs_in 626 (by decide +kernel) (by decide +kernel), mTs_in 14 (by decide +kernel) (by decide +kernel)⟩
theorem lkX8_70 : Cond.methodLink RX8 70 yX8_readField ∈ mTs := mTs_in 610 (by decide +kernel) (by decide +kernel)
theorem myX8_readField : mYV yX8_readField cX8_readField 3 (some .boolean) 0 := ⟨⟨mTs_in 613 (by decide +kernel) (by decide +kernel), mTs_in 117 (by decide +kernel) (by decide +kernel), ⟨by decide, by decide⟩, by decide +kernel⟩, mTs_in 612 (by decide +kernel) (by decide +kernel), mTs_in 12 (by decide +kernel) (by decide +kernel)⟩
theorem lkX8_67 : Cond.methodLink RX8 67 yX8_readSides ∈ mTs := mTs_in 578 (by decide +kernel) (by decide +kernel)
theorem myX8_readSides : mYV yX8_readSides cX8_readSides 1 (some .boolean) 0 := ⟨⟨mTs_in 581 (by decide +kernel) (by decide +kernel), mTs_in 117 (by decide +kernel) (by decide +kernel), ⟨by decide, by decide⟩, by decide +kernel⟩, mTs_in 580 (by decide +kernel) (by decide +kernel), mTs_in 10 (by decide +kernel) (by decide +kernel)⟩
theorem lkX8_40 : Cond.methodLink RX8 40 yX8_readLine ∈ mTs := mTs_in 470 (by decide +kernel) (by decide +kernel)
theorem myX8_readLine : mYV yX8_readLine cX8_readLine 2 (some .boolean) 0 := ⟨⟨mTs_in 473 (by decide +kernel) (by decide +kernel), mTs_in 117 (by decide +kernel) (by decide +kernel), ⟨by decide, by decide⟩, by decide +kernel⟩, mTs_in 472 (by decide +kernel) (by decide +kernel), mTs_in 5 (by decide +kernel) (by decide +kernel)⟩
theorem ptX8_1 : mPut 7 1 2 4 RX8 TX8 tyX8 (.object "MiddleAlgebras$Book") := ⟨fdX8_1, tyX8_ok, nmX8, (by decide +kernel), rfl⟩
theorem lkX8_33 : Cond.methodLink RX8 33 yX0_clear ∈ mTs := mTs_in 442 (by decide +kernel) (by decide +kernel)
theorem myX0_clear : mYV yX0_clear cX0_clear 1 none 0 := ⟨⟨mTs_in 445 (by decide +kernel) (by decide +kernel), mTs_in 119 (by decide +kernel) (by decide +kernel), ⟨by decide, by decide⟩, by decide +kernel⟩, mTs_in 443 (by decide +kernel) (by decide +kernel), mTs_in 444 (by decide +kernel) (by decide +kernel)⟩
theorem lkX8_36 : Cond.methodLink RX8 36 yX10_begin ∈ mTs := mTs_in 446 (by decide +kernel) (by decide +kernel)
theorem myX10_begin : mYV yX10_begin cX10_begin 3 none 2 := ⟨⟨mTs_in 449 (by decide +kernel) (by decide +kernel), mTs_in 118 (by decide +kernel) (by decide +kernel), ⟨by decide, by decide⟩, by decide +kernel⟩, mTs_in 447 (by decide +kernel) (by decide +kernel), mTs_in 448 (by decide +kernel) (by decide +kernel)⟩
theorem lkX11_20 : Cond.fieldLink RX11 20 (TX11 2).1 (TX11 2).2.1 (TX11 2).2.2.1 ∈ mTs := mTs_in 391 (by decide +kernel) (by decide +kernel)
theorem fdX11_2 : mFld 10 2 2 12 RX11 TX11 := ⟨rfl, inX11, by decide, rfl, by decide⟩
theorem lkX11_31 : Cond.fieldLink RX11 31 (TX11 4).1 (TX11 4).2.1 (TX11 4).2.2.1 ∈ mTs := mTs_in 393 (by decide +kernel) (by decide +kernel)
theorem fdX11_4 : mFld 10 4 2 12 RX11 TX11 := ⟨rfl, inX11, by decide, rfl, by decide⟩
theorem lkX11_84 : Cond.methodLink RX11 84 yX8_readText ∈ mTs := mTs_in 438 (by decide +kernel) (by decide +kernel)
theorem myX8_readText : mYV yX8_readText cX8_readText 6 (some .int) 3 := ⟨⟨mTs_in 441 (by decide +kernel) (by decide +kernel), mTs_in 117 (by decide +kernel) (by decide +kernel), ⟨by decide, by decide⟩, by decide +kernel⟩, mTs_in 439 (by decide +kernel) (by decide +kernel), mTs_in 440 (by decide +kernel) (by decide +kernel)⟩
theorem ptX11_3 : mPut 10 3 2 12 RX11 TX11 tyX11 (.object "MiddleAlgebras$Book") := ⟨fdX11_3, tyX11_ok, nmX11, (by decide +kernel), rfl⟩
theorem ptX11_4 : mPut 10 4 2 12 RX11 TX11 tyX11 (.object "MiddleAlgebras$Book") := ⟨fdX11_4, tyX11_ok, nmX11, (by decide +kernel), rfl⟩
theorem lkX11_88 : Cond.methodLink RX11 88 yX11_beginAnew ∈ mTs := mTs_in 645 (by decide +kernel) (by decide +kernel)
theorem myX11_beginAnew : mYV yX11_beginAnew cX11_beginAnew 2 none 0 := ⟨⟨mTs_in 648 (by decide +kernel) (by decide +kernel), mTs_in 116 (by decide +kernel) (by decide +kernel), ⟨by decide, by decide⟩, by decide +kernel⟩, mTs_in 647 (by decide +kernel) (by decide +kernel), mTs_in 16 (by decide +kernel) (by decide +kernel)⟩
theorem lkX12_134 : Cond.methodLink RX12 134 yJ0_length_8abf5 ∈ mTs := mTs_in 1449 (by decide +kernel) (by decide +kernel)
theorem lkX12_140 : Cond.methodLink RX12 140 yJ0_charAt_5068e ∈ mTs := mTs_in 1450 (by decide +kernel) (by decide +kernel)
theorem lkX12_144 : Cond.methodLink RX12 144 yX12_spelled ∈ mTs := mTs_in 1446 (by decide +kernel) (by decide +kernel)
theorem myX12_spelled : mYS yX12_spelled cX12_spelled 4 (some .long) 1 := ⟨⟨mTs_in 1448 (by decide +kernel) (by decide +kernel), mTs_in 127 (by decide +kernel) (by decide +kernel), ⟨by decide, by decide⟩, by decide +kernel⟩, mTs_in 1447 (by decide +kernel) (by decide +kernel)⟩
theorem lkX12_150 : Cond.methodLink RX12 150 yX12_is ∈ mTs := mTs_in 1442 (by decide +kernel) (by decide +kernel)
theorem myX12_is : mYV yX12_is cX12_is 2 (some .boolean) 1 := ⟨⟨mTs_in 1445 (by decide +kernel) (by decide +kernel), mTs_in 127 (by decide +kernel) (by decide +kernel), ⟨by decide, by decide⟩, by decide +kernel⟩, mTs_in 1444 (by decide +kernel) (by decide +kernel), mTs_in 57 (by decide +kernel) (by decide +kernel)⟩
theorem lkX12_187 : Cond.methodLink RX12 187 yX12_isName ∈ mTs := mTs_in 1465 (by decide +kernel) (by decide +kernel)
theorem myX12_isName : mYV yX12_isName cX12_isName 1 (some .boolean) 0 := ⟨⟨mTs_in 1468 (by decide +kernel) (by decide +kernel), mTs_in 127 (by decide +kernel) (by decide +kernel), ⟨by decide, by decide⟩, by decide +kernel⟩, mTs_in 1467 (by decide +kernel) (by decide +kernel), mTs_in 61 (by decide +kernel) (by decide +kernel)⟩
theorem lkX12_191 : Cond.methodLink RX12 191 yX12_named ∈ mTs := mTs_in 1469 (by decide +kernel) (by decide +kernel)
theorem myX12_named : mYV yX12_named cX12_named 4 (some .int) 1 := ⟨⟨mTs_in 1472 (by decide +kernel) (by decide +kernel), mTs_in 127 (by decide +kernel) (by decide +kernel), ⟨by decide, by decide⟩, by decide +kernel⟩, mTs_in 1471 (by decide +kernel) (by decide +kernel), mTs_in 62 (by decide +kernel) (by decide +kernel)⟩
theorem lkX12_198 : Cond.methodLink RX12 198 yX12_newName ∈ mTs := mTs_in 1461 (by decide +kernel) (by decide +kernel)
theorem myX12_newName : mYV yX12_newName cX12_newName 1 (some .boolean) 0 := ⟨⟨mTs_in 1464 (by decide +kernel) (by decide +kernel), mTs_in 127 (by decide +kernel) (by decide +kernel), ⟨by decide, by decide⟩, by decide +kernel⟩, mTs_in 1463 (by decide +kernel) (by decide +kernel), mTs_in 60 (by decide +kernel) (by decide +kernel)⟩
theorem lkX12_207 : Cond.methodLink RX12 207 yX12_sumLine ∈ mTs := mTs_in 1500 (by decide +kernel) (by decide +kernel)
theorem myX12_sumLine : mYV yX12_sumLine cX12_sumLine 3 (some .boolean) 1 := ⟨⟨mTs_in 1503 (by decide +kernel) (by decide +kernel), mTs_in 127 (by decide +kernel) (by decide +kernel), ⟨by decide, by decide⟩, by decide +kernel⟩, mTs_in 1502 (by decide +kernel) (by decide +kernel), mTs_in 69 (by decide +kernel) (by decide +kernel)⟩
theorem lkX12_204 : Cond.methodLink RX12 204 yX12_cyclicLine ∈ mTs := mTs_in 1496 (by decide +kernel) (by decide +kernel)
theorem myX12_cyclicLine : mYV yX12_cyclicLine cX12_cyclicLine 3 (some .boolean) 1 := ⟨⟨mTs_in 1499 (by decide +kernel) (by decide +kernel), mTs_in 127 (by decide +kernel) (by decide +kernel), ⟨by decide, by decide⟩, by decide +kernel⟩, mTs_in 1498 (by decide +kernel) (by decide +kernel), mTs_in 68 (by decide +kernel) (by decide +kernel)⟩
theorem lkX12_201 : Cond.methodLink RX12 201 yX12_quaternionLine ∈ mTs := mTs_in 1477 (by decide +kernel) (by decide +kernel)
theorem myX12_quaternionLine : mYV yX12_quaternionLine cX12_quaternionLine 2 (some .boolean) 1 := ⟨⟨mTs_in 1480 (by decide +kernel) (by decide +kernel), mTs_in 127 (by decide +kernel) (by decide +kernel), ⟨by decide, by decide⟩, by decide +kernel⟩, mTs_in 1479 (by decide +kernel) (by decide +kernel), mTs_in 64 (by decide +kernel) (by decide +kernel)⟩
theorem ptX12_11 : mPut 11 11 0 37 RX12 TX12 tyX12 .int := ⟨fdX12_11, tyX12_ok, nmX12, (by decide +kernel), rfl⟩
theorem lkX12_210 : Cond.methodLink RX12 210 yX12_lineHere ∈ mTs := mTs_in 1437 (by decide +kernel) (by decide +kernel)
theorem myX12_lineHere : mYV yX12_lineHere cX12_lineHere 4 (some .boolean) 0 := ⟨⟨mTs_in 1440 (by decide +kernel) (by decide +kernel), mTs_in 127 (by decide +kernel) (by decide +kernel), ⟨by decide, by decide⟩, by decide +kernel⟩, mTs_in 1439 (by decide +kernel) (by decide +kernel), mTs_in 56 (by decide +kernel) (by decide +kernel)⟩
theorem ptX12_3 : mPut 11 3 0 37 RX12 TX12 tyX12 .int := ⟨fdX12_3, tyX12_ok, nmX12, (by decide +kernel), rfl⟩
theorem dX10_isWord_0 : decode cX10_isWord 0 = .ok (.aload_n 0, 1) := by decide +kernel
theorem dX10_isWord_1 : decode cX10_isWord 1 = .ok (.getfield 25, 3) := by decide +kernel
theorem dX10_isWord_4 : decode cX10_isWord 4 = .ok (.iconst 1, 1) := by decide +kernel
theorem dX10_isWord_5 : decode cX10_isWord 5 = .ok (.if_icmp .ne 18, 3) := by decide +kernel
theorem dX10_isWord_8 : decode cX10_isWord 8 = .ok (.aload_n 1, 1) := by decide +kernel
theorem dX10_isWord_9 : decode cX10_isWord 9 = .ok (.invokevirtual 72, 3) := by decide +kernel
theorem dX10_isWord_12 : decode cX10_isWord 12 = .ok (.aload_n 0, 1) := by decide +kernel
theorem dX10_isWord_13 : decode cX10_isWord 13 = .ok (.invokevirtual 77, 3) := by decide +kernel
theorem dX10_isWord_16 : decode cX10_isWord 16 = .ok (.if_icmp .ne 7, 3) := by decide +kernel
theorem dX10_isWord_19 : decode cX10_isWord 19 = .ok (.iconst 1, 1) := by decide +kernel
theorem dX10_isWord_20 : decode cX10_isWord 20 = .ok (.goto 4, 3) := by decide +kernel
theorem dX10_isWord_23 : decode cX10_isWord 23 = .ok (.iconst 0, 1) := by decide +kernel
theorem dX10_isWord_24 : decode cX10_isWord 24 = .ok (.istore_n 2, 1) := by decide +kernel
theorem dX10_isWord_25 : decode cX10_isWord 25 = .ok (.iconst 0, 1) := by decide +kernel
theorem dX10_isWord_26 : decode cX10_isWord 26 = .ok (.istore_n 3, 1) := by decide +kernel
theorem dX10_isWord_27 : decode cX10_isWord 27 = .ok (.iload_n 3, 1) := by decide +kernel
theorem dX10_isWord_28 : decode cX10_isWord 28 = .ok (.aload_n 1, 1) := by decide +kernel
theorem dX10_isWord_29 : decode cX10_isWord 29 = .ok (.invokevirtual 72, 3) := by decide +kernel
theorem dX10_isWord_32 : decode cX10_isWord 32 = .ok (.if_icmp .ge 32, 3) := by decide +kernel
theorem dX10_isWord_35 : decode cX10_isWord 35 = .ok (.iload_n 2, 1) := by decide +kernel
theorem dX10_isWord_36 : decode cX10_isWord 36 = .ok (.ifCond .eq 28, 3) := by decide +kernel
theorem dX10_isWord_39 : decode cX10_isWord 39 = .ok (.aload_n 1, 1) := by decide +kernel
theorem dX10_isWord_40 : decode cX10_isWord 40 = .ok (.iload_n 3, 1) := by decide +kernel
theorem dX10_isWord_41 : decode cX10_isWord 41 = .ok (.invokevirtual 78, 3) := by decide +kernel
theorem dX10_isWord_44 : decode cX10_isWord 44 = .ok (.aload_n 0, 1) := by decide +kernel
theorem dX10_isWord_45 : decode cX10_isWord 45 = .ok (.iload_n 3, 1) := by decide +kernel
theorem dX10_isWord_46 : decode cX10_isWord 46 = .ok (.invokevirtual 82, 3) := by decide +kernel
theorem dX10_isWord_49 : decode cX10_isWord 49 = .ok (.if_icmp .ne 7, 3) := by decide +kernel
theorem dX10_isWord_52 : decode cX10_isWord 52 = .ok (.iconst 1, 1) := by decide +kernel
theorem dX10_isWord_53 : decode cX10_isWord 53 = .ok (.goto 4, 3) := by decide +kernel
theorem dX10_isWord_56 : decode cX10_isWord 56 = .ok (.iconst 0, 1) := by decide +kernel
theorem dX10_isWord_57 : decode cX10_isWord 57 = .ok (.istore_n 2, 1) := by decide +kernel
theorem dX10_isWord_58 : decode cX10_isWord 58 = .ok (.iinc 3 1, 3) := by decide +kernel
theorem dX10_isWord_61 : decode cX10_isWord 61 = .ok (.goto (-34), 3) := by decide +kernel
theorem dX10_isWord_64 : decode cX10_isWord 64 = .ok (.iload_n 2, 1) := by decide +kernel
theorem dX10_isWord_65 : decode cX10_isWord 65 = .ok (.ireturn, 1) := by decide +kernel
theorem dX10_lineKind_0 : decode cX10_lineKind 0 = .ok (.aload_n 0, 1) := by decide +kernel
theorem dX10_lineKind_1 : decode cX10_lineKind 1 = .ok (.ldc 58, 2) := by decide +kernel
theorem dX10_lineKind_3 : decode cX10_lineKind 3 = .ok (.invokevirtual 60, 3) := by decide +kernel
theorem dX10_lineKind_6 : decode cX10_lineKind 6 = .ok (.ifCond .eq 5, 3) := by decide +kernel
theorem dX10_lineKind_9 : decode cX10_lineKind 9 = .ok (.iconst 0, 1) := by decide +kernel
theorem dX10_lineKind_10 : decode cX10_lineKind 10 = .ok (.ireturn, 1) := by decide +kernel
theorem dX10_lineKind_11 : decode cX10_lineKind 11 = .ok (.aload_n 0, 1) := by decide +kernel
theorem dX10_lineKind_12 : decode cX10_lineKind 12 = .ok (.ldc 64, 2) := by decide +kernel
theorem dX10_lineKind_14 : decode cX10_lineKind 14 = .ok (.invokevirtual 60, 3) := by decide +kernel
theorem dX10_lineKind_17 : decode cX10_lineKind 17 = .ok (.ifCond .eq 5, 3) := by decide +kernel
theorem dX10_lineKind_20 : decode cX10_lineKind 20 = .ok (.iconst 1, 1) := by decide +kernel
theorem dX10_lineKind_21 : decode cX10_lineKind 21 = .ok (.ireturn, 1) := by decide +kernel
theorem dX10_lineKind_22 : decode cX10_lineKind 22 = .ok (.aload_n 0, 1) := by decide +kernel
theorem dX10_lineKind_23 : decode cX10_lineKind 23 = .ok (.ldc 66, 2) := by decide +kernel
theorem dX10_lineKind_25 : decode cX10_lineKind 25 = .ok (.invokevirtual 60, 3) := by decide +kernel
theorem dX10_lineKind_28 : decode cX10_lineKind 28 = .ok (.ifCond .eq 7, 3) := by decide +kernel
theorem dX10_lineKind_31 : decode cX10_lineKind 31 = .ok (.iconst 2, 1) := by decide +kernel
theorem dX10_lineKind_32 : decode cX10_lineKind 32 = .ok (.goto 4, 3) := by decide +kernel
theorem dX10_lineKind_35 : decode cX10_lineKind 35 = .ok (.iconst (-1), 1) := by decide +kernel
theorem dX10_lineKind_36 : decode cX10_lineKind 36 = .ok (.ireturn, 1) := by decide +kernel
theorem dX10_isName_0 : decode cX10_isName 0 = .ok (.aload_n 0, 1) := by decide +kernel
theorem dX10_isName_1 : decode cX10_isName 1 = .ok (.getfield 25, 3) := by decide +kernel
theorem dX10_isName_4 : decode cX10_isName 4 = .ok (.iconst 1, 1) := by decide +kernel
theorem dX10_isName_5 : decode cX10_isName 5 = .ok (.if_icmp .ne 15, 3) := by decide +kernel
theorem dX10_isName_8 : decode cX10_isName 8 = .ok (.aload_n 0, 1) := by decide +kernel
theorem dX10_isName_9 : decode cX10_isName 9 = .ok (.invokevirtual 68, 3) := by decide +kernel
theorem dX10_isName_12 : decode cX10_isName 12 = .ok (.iconst (-1), 1) := by decide +kernel
theorem dX10_isName_13 : decode cX10_isName 13 = .ok (.if_icmp .ne 7, 3) := by decide +kernel
theorem dX10_isName_16 : decode cX10_isName 16 = .ok (.iconst 1, 1) := by decide +kernel
theorem dX10_isName_17 : decode cX10_isName 17 = .ok (.goto 4, 3) := by decide +kernel
theorem dX10_isName_20 : decode cX10_isName 20 = .ok (.iconst 0, 1) := by decide +kernel
theorem dX10_isName_21 : decode cX10_isName 21 = .ok (.ireturn, 1) := by decide +kernel
theorem dX8_readNewName_0 : decode cX8_readNewName 0 = .ok (.aload_n 0, 1) := by decide +kernel
theorem dX8_readNewName_1 : decode cX8_readNewName 1 = .ok (.getfield 12, 3) := by decide +kernel
theorem dX8_readNewName_4 : decode cX8_readNewName 4 = .ok (.invokevirtual 79, 3) := by decide +kernel
theorem dX8_readNewName_7 : decode cX8_readNewName 7 = .ok (.ifCond .ne 9, 3) := by decide +kernel
theorem dX8_readNewName_10 : decode cX8_readNewName 10 = .ok (.aload_n 0, 1) := by decide +kernel
theorem dX8_readNewName_11 : decode cX8_readNewName 11 = .ok (.iconst 1, 1) := by decide +kernel
theorem dX8_readNewName_12 : decode cX8_readNewName 12 = .ok (.invokevirtual 55, 3) := by decide +kernel
theorem dX8_readNewName_15 : decode cX8_readNewName 15 = .ok (.ireturn, 1) := by decide +kernel
theorem dX8_readNewName_16 : decode cX8_readNewName 16 = .ok (.aload_n 0, 1) := by decide +kernel
theorem dX8_readNewName_17 : decode cX8_readNewName 17 = .ok (.getfield 21, 3) := by decide +kernel
theorem dX8_readNewName_20 : decode cX8_readNewName 20 = .ok (.aload_n 0, 1) := by decide +kernel
theorem dX8_readNewName_21 : decode cX8_readNewName 21 = .ok (.getfield 12, 3) := by decide +kernel
theorem dX8_readNewName_24 : decode cX8_readNewName 24 = .ok (.invokevirtual 82, 3) := by decide +kernel
theorem dX8_readNewName_27 : decode cX8_readNewName 27 = .ok (.iconst (-1), 1) := by decide +kernel
theorem dX8_readNewName_28 : decode cX8_readNewName 28 = .ok (.if_icmp .eq 9, 3) := by decide +kernel
theorem dX8_readNewName_31 : decode cX8_readNewName 31 = .ok (.aload_n 0, 1) := by decide +kernel
theorem dX8_readNewName_32 : decode cX8_readNewName 32 = .ok (.iconst 2, 1) := by decide +kernel
theorem dX8_readNewName_33 : decode cX8_readNewName 33 = .ok (.invokevirtual 55, 3) := by decide +kernel
theorem dX8_readNewName_36 : decode cX8_readNewName 36 = .ok (.ireturn, 1) := by decide +kernel
theorem dX8_readNewName_37 : decode cX8_readNewName 37 = .ok (.aload_n 0, 1) := by decide +kernel
theorem dX8_readNewName_38 : decode cX8_readNewName 38 = .ok (.getfield 21, 3) := by decide +kernel
theorem dX8_readNewName_41 : decode cX8_readNewName 41 = .ok (.iload_n 1, 1) := by decide +kernel
theorem dX8_readNewName_42 : decode cX8_readNewName 42 = .ok (.aload_n 0, 1) := by decide +kernel
theorem dX8_readNewName_43 : decode cX8_readNewName 43 = .ok (.getfield 12, 3) := by decide +kernel
theorem dX8_readNewName_46 : decode cX8_readNewName 46 = .ok (.invokevirtual 86, 3) := by decide +kernel
theorem dX8_readNewName_49 : decode cX8_readNewName 49 = .ok (.aload_n 0, 1) := by decide +kernel
theorem dX8_readNewName_50 : decode cX8_readNewName 50 = .ok (.getfield 12, 3) := by decide +kernel
theorem dX8_readNewName_53 : decode cX8_readNewName 53 = .ok (.invokevirtual 61, 3) := by decide +kernel
theorem dX8_readNewName_56 : decode cX8_readNewName 56 = .ok (.iconst 1, 1) := by decide +kernel
theorem dX8_readNewName_57 : decode cX8_readNewName 57 = .ok (.ireturn, 1) := by decide +kernel
theorem dX8_readTerms_0 : decode cX8_readTerms 0 = .ok (.aload_n 0, 1) := by decide +kernel
theorem dX8_readTerms_1 : decode cX8_readTerms 1 = .ok (.invokevirtual 125, 3) := by decide +kernel
theorem dX8_readTerms_4 : decode cX8_readTerms 4 = .ok (.ifCond .ne 9, 3) := by decide +kernel
theorem dX8_readTerms_7 : decode cX8_readTerms 7 = .ok (.aload_n 0, 1) := by decide +kernel
theorem dX8_readTerms_8 : decode cX8_readTerms 8 = .ok (.iconst 1, 1) := by decide +kernel
theorem dX8_readTerms_9 : decode cX8_readTerms 9 = .ok (.invokevirtual 55, 3) := by decide +kernel
theorem dX8_readTerms_12 : decode cX8_readTerms 12 = .ok (.ireturn, 1) := by decide +kernel
theorem dX8_readTerms_13 : decode cX8_readTerms 13 = .ok (.iconst 0, 1) := by decide +kernel
theorem dX8_readTerms_14 : decode cX8_readTerms 14 = .ok (.istore_n 1, 1) := by decide +kernel
theorem dX8_readTerms_15 : decode cX8_readTerms 15 = .ok (.iload_n 1, 1) := by decide +kernel
theorem dX8_readTerms_16 : decode cX8_readTerms 16 = .ok (.iconst 4, 1) := by decide +kernel
theorem dX8_readTerms_17 : decode cX8_readTerms 17 = .ok (.if_icmp .gt 111, 3) := by decide +kernel
theorem dX8_readTerms_20 : decode cX8_readTerms 20 = .ok (.aload_n 0, 1) := by decide +kernel
theorem dX8_readTerms_21 : decode cX8_readTerms 21 = .ok (.invokevirtual 125, 3) := by decide +kernel
theorem dX8_readTerms_24 : decode cX8_readTerms 24 = .ok (.ifCond .eq 104, 3) := by decide +kernel
theorem dX8_readTerms_27 : decode cX8_readTerms 27 = .ok (.aload_n 0, 1) := by decide +kernel
theorem dX8_readTerms_28 : decode cX8_readTerms 28 = .ok (.getfield 21, 3) := by decide +kernel
theorem dX8_readTerms_31 : decode cX8_readTerms 31 = .ok (.invokevirtual 128, 3) := by decide +kernel
theorem dX8_readTerms_34 : decode cX8_readTerms 34 = .ok (.ifCond .eq 9, 3) := by decide +kernel
theorem dX8_readTerms_37 : decode cX8_readTerms 37 = .ok (.aload_n 0, 1) := by decide +kernel
theorem dX8_readTerms_38 : decode cX8_readTerms 38 = .ok (.iconst 5, 1) := by decide +kernel
theorem dX8_readTerms_39 : decode cX8_readTerms 39 = .ok (.invokevirtual 55, 3) := by decide +kernel
theorem dX8_readTerms_42 : decode cX8_readTerms 42 = .ok (.ireturn, 1) := by decide +kernel
theorem dX8_readTerms_43 : decode cX8_readTerms 43 = .ok (.aload_n 0, 1) := by decide +kernel
theorem dX8_readTerms_44 : decode cX8_readTerms 44 = .ok (.getfield 12, 3) := by decide +kernel
theorem dX8_readTerms_47 : decode cX8_readTerms 47 = .ok (.iconst 4, 1) := by decide +kernel
theorem dX8_readTerms_48 : decode cX8_readTerms 48 = .ok (.invokevirtual 44, 3) := by decide +kernel
theorem dX8_readTerms_51 : decode cX8_readTerms 51 = .ok (.ifCond .eq 7, 3) := by decide +kernel
theorem dX8_readTerms_54 : decode cX8_readTerms 54 = .ok (.iconst (-1), 1) := by decide +kernel
theorem dX8_readTerms_55 : decode cX8_readTerms 55 = .ok (.goto 4, 3) := by decide +kernel
theorem dX8_readTerms_58 : decode cX8_readTerms 58 = .ok (.iconst 1, 1) := by decide +kernel
theorem dX8_readTerms_59 : decode cX8_readTerms 59 = .ok (.istore_n 2, 1) := by decide +kernel
theorem dX8_readTerms_60 : decode cX8_readTerms 60 = .ok (.aload_n 0, 1) := by decide +kernel
theorem dX8_readTerms_61 : decode cX8_readTerms 61 = .ok (.getfield 12, 3) := by decide +kernel
theorem dX8_readTerms_64 : decode cX8_readTerms 64 = .ok (.invokevirtual 61, 3) := by decide +kernel
theorem dX8_readTerms_67 : decode cX8_readTerms 67 = .ok (.aload_n 0, 1) := by decide +kernel
theorem dX8_readTerms_68 : decode cX8_readTerms 68 = .ok (.getfield 12, 3) := by decide +kernel
theorem dX8_readTerms_71 : decode cX8_readTerms 71 = .ok (.invokevirtual 79, 3) := by decide +kernel
theorem dX8_readTerms_74 : decode cX8_readTerms 74 = .ok (.ifCond .ne 9, 3) := by decide +kernel
theorem dX8_readTerms_77 : decode cX8_readTerms 77 = .ok (.aload_n 0, 1) := by decide +kernel
theorem dX8_readTerms_78 : decode cX8_readTerms 78 = .ok (.iconst 1, 1) := by decide +kernel
theorem dX8_readTerms_79 : decode cX8_readTerms 79 = .ok (.invokevirtual 55, 3) := by decide +kernel
theorem dX8_readTerms_82 : decode cX8_readTerms 82 = .ok (.ireturn, 1) := by decide +kernel
theorem dX8_readTerms_83 : decode cX8_readTerms 83 = .ok (.aload_n 0, 1) := by decide +kernel
theorem dX8_readTerms_84 : decode cX8_readTerms 84 = .ok (.getfield 21, 3) := by decide +kernel
theorem dX8_readTerms_87 : decode cX8_readTerms 87 = .ok (.aload_n 0, 1) := by decide +kernel
theorem dX8_readTerms_88 : decode cX8_readTerms 88 = .ok (.getfield 12, 3) := by decide +kernel
theorem dX8_readTerms_91 : decode cX8_readTerms 91 = .ok (.invokevirtual 82, 3) := by decide +kernel
theorem dX8_readTerms_94 : decode cX8_readTerms 94 = .ok (.istore_n 3, 1) := by decide +kernel
theorem dX8_readTerms_95 : decode cX8_readTerms 95 = .ok (.iload_n 3, 1) := by decide +kernel
theorem dX8_readTerms_96 : decode cX8_readTerms 96 = .ok (.iconst (-1), 1) := by decide +kernel
theorem dX8_readTerms_97 : decode cX8_readTerms 97 = .ok (.if_icmp .ne 9, 3) := by decide +kernel
theorem dX8_readTerms_100 : decode cX8_readTerms 100 = .ok (.aload_n 0, 1) := by decide +kernel
theorem dX8_readTerms_101 : decode cX8_readTerms 101 = .ok (.iconst 3, 1) := by decide +kernel
theorem dX8_readTerms_102 : decode cX8_readTerms 102 = .ok (.invokevirtual 55, 3) := by decide +kernel
theorem dX8_readTerms_105 : decode cX8_readTerms 105 = .ok (.ireturn, 1) := by decide +kernel
theorem dX8_readTerms_106 : decode cX8_readTerms 106 = .ok (.aload_n 0, 1) := by decide +kernel
theorem dX8_readTerms_107 : decode cX8_readTerms 107 = .ok (.getfield 21, 3) := by decide +kernel
theorem dX8_readTerms_110 : decode cX8_readTerms 110 = .ok (.iload_n 2, 1) := by decide +kernel
theorem dX8_readTerms_111 : decode cX8_readTerms 111 = .ok (.iload_n 3, 1) := by decide +kernel
theorem dX8_readTerms_112 : decode cX8_readTerms 112 = .ok (.invokevirtual 131, 3) := by decide +kernel
theorem dX8_readTerms_115 : decode cX8_readTerms 115 = .ok (.aload_n 0, 1) := by decide +kernel
theorem dX8_readTerms_116 : decode cX8_readTerms 116 = .ok (.getfield 12, 3) := by decide +kernel
theorem dX8_readTerms_119 : decode cX8_readTerms 119 = .ok (.invokevirtual 61, 3) := by decide +kernel
theorem dX8_readTerms_122 : decode cX8_readTerms 122 = .ok (.iinc 1 1, 3) := by decide +kernel
theorem dX8_readTerms_125 : decode cX8_readTerms 125 = .ok (.goto (-110), 3) := by decide +kernel
theorem dX8_readTerms_128 : decode cX8_readTerms 128 = .ok (.iconst 1, 1) := by decide +kernel
theorem dX8_readTerms_129 : decode cX8_readTerms 129 = .ok (.ireturn, 1) := by decide +kernel
theorem dX8_readLine_0 : decode cX8_readLine 0 = .ok (.aload_n 0, 1) := by decide +kernel
theorem dX8_readLine_1 : decode cX8_readLine 1 = .ok (.getfield 12, 3) := by decide +kernel
theorem dX8_readLine_4 : decode cX8_readLine 4 = .ok (.invokevirtual 52, 3) := by decide +kernel
theorem dX8_readLine_7 : decode cX8_readLine 7 = .ok (.istore_n 1, 1) := by decide +kernel
theorem dX8_readLine_8 : decode cX8_readLine 8 = .ok (.iload_n 1, 1) := by decide +kernel
theorem dX8_readLine_9 : decode cX8_readLine 9 = .ok (.iconst (-1), 1) := by decide +kernel
theorem dX8_readLine_10 : decode cX8_readLine 10 = .ok (.if_icmp .ne 9, 3) := by decide +kernel
theorem dX8_readLine_13 : decode cX8_readLine 13 = .ok (.aload_n 0, 1) := by decide +kernel
theorem dX8_readLine_14 : decode cX8_readLine 14 = .ok (.iconst 1, 1) := by decide +kernel
theorem dX8_readLine_15 : decode cX8_readLine 15 = .ok (.invokevirtual 55, 3) := by decide +kernel
theorem dX8_readLine_18 : decode cX8_readLine 18 = .ok (.ireturn, 1) := by decide +kernel
theorem dX8_readLine_19 : decode cX8_readLine 19 = .ok (.aload_n 0, 1) := by decide +kernel
theorem dX8_readLine_20 : decode cX8_readLine 20 = .ok (.getfield 21, 3) := by decide +kernel
theorem dX8_readLine_23 : decode cX8_readLine 23 = .ok (.invokevirtual 58, 3) := by decide +kernel
theorem dX8_readLine_26 : decode cX8_readLine 26 = .ok (.ifCond .eq 9, 3) := by decide +kernel
theorem dX8_readLine_29 : decode cX8_readLine 29 = .ok (.aload_n 0, 1) := by decide +kernel
theorem dX8_readLine_30 : decode cX8_readLine 30 = .ok (.iconst 5, 1) := by decide +kernel
theorem dX8_readLine_31 : decode cX8_readLine 31 = .ok (.invokevirtual 55, 3) := by decide +kernel
theorem dX8_readLine_34 : decode cX8_readLine 34 = .ok (.ireturn, 1) := by decide +kernel
theorem dX8_readLine_35 : decode cX8_readLine 35 = .ok (.aload_n 0, 1) := by decide +kernel
theorem dX8_readLine_36 : decode cX8_readLine 36 = .ok (.getfield 12, 3) := by decide +kernel
theorem dX8_readLine_39 : decode cX8_readLine 39 = .ok (.invokevirtual 61, 3) := by decide +kernel
theorem dX8_readLine_42 : decode cX8_readLine 42 = .ok (.aload_n 0, 1) := by decide +kernel
theorem dX8_readLine_43 : decode cX8_readLine 43 = .ok (.iload_n 1, 1) := by decide +kernel
theorem dX8_readLine_44 : decode cX8_readLine 44 = .ok (.invokevirtual 64, 3) := by decide +kernel
theorem dX8_readLine_47 : decode cX8_readLine 47 = .ok (.ifCond .ne 5, 3) := by decide +kernel
theorem dX8_readLine_50 : decode cX8_readLine 50 = .ok (.iconst 0, 1) := by decide +kernel
theorem dX8_readLine_51 : decode cX8_readLine 51 = .ok (.ireturn, 1) := by decide +kernel
theorem dX8_readLine_52 : decode cX8_readLine 52 = .ok (.iload_n 1, 1) := by decide +kernel
theorem dX8_readLine_53 : decode cX8_readLine 53 = .ok (.ifCond .ne 13, 3) := by decide +kernel
theorem dX8_readLine_56 : decode cX8_readLine 56 = .ok (.aload_n 0, 1) := by decide +kernel
theorem dX8_readLine_57 : decode cX8_readLine 57 = .ok (.invokevirtual 67, 3) := by decide +kernel
theorem dX8_readLine_60 : decode cX8_readLine 60 = .ok (.ifCond .eq 28, 3) := by decide +kernel
theorem dX8_readLine_63 : decode cX8_readLine 63 = .ok (.goto 27, 3) := by decide +kernel
theorem dX8_readLine_66 : decode cX8_readLine 66 = .ok (.iload_n 1, 1) := by decide +kernel
theorem dX8_readLine_67 : decode cX8_readLine 67 = .ok (.iconst 1, 1) := by decide +kernel
theorem dX8_readLine_68 : decode cX8_readLine 68 = .ok (.if_icmp .ne 13, 3) := by decide +kernel
theorem dX8_readLine_71 : decode cX8_readLine 71 = .ok (.aload_n 0, 1) := by decide +kernel
theorem dX8_readLine_72 : decode cX8_readLine 72 = .ok (.invokevirtual 70, 3) := by decide +kernel
theorem dX8_readLine_75 : decode cX8_readLine 75 = .ok (.ifCond .eq 13, 3) := by decide +kernel
theorem dX8_readLine_78 : decode cX8_readLine 78 = .ok (.goto 12, 3) := by decide +kernel
theorem dX8_readLine_81 : decode cX8_readLine 81 = .ok (.aload_n 0, 1) := by decide +kernel
theorem dX8_readLine_82 : decode cX8_readLine 82 = .ok (.invokevirtual 73, 3) := by decide +kernel
theorem dX8_readLine_85 : decode cX8_readLine 85 = .ok (.ifCond .ne 5, 3) := by decide +kernel
theorem dX8_readLine_88 : decode cX8_readLine 88 = .ok (.iconst 0, 1) := by decide +kernel
theorem dX8_readLine_89 : decode cX8_readLine 89 = .ok (.ireturn, 1) := by decide +kernel
theorem dX8_readLine_90 : decode cX8_readLine 90 = .ok (.aload_n 0, 1) := by decide +kernel
theorem dX8_readLine_91 : decode cX8_readLine 91 = .ok (.getfield 12, 3) := by decide +kernel
theorem dX8_readLine_94 : decode cX8_readLine 94 = .ok (.iconst 5, 1) := by decide +kernel
theorem dX8_readLine_95 : decode cX8_readLine 95 = .ok (.invokevirtual 44, 3) := by decide +kernel
theorem dX8_readLine_98 : decode cX8_readLine 98 = .ok (.ifCond .ne 9, 3) := by decide +kernel
theorem dX8_readLine_101 : decode cX8_readLine 101 = .ok (.aload_n 0, 1) := by decide +kernel
theorem dX8_readLine_102 : decode cX8_readLine 102 = .ok (.iconst 1, 1) := by decide +kernel
theorem dX8_readLine_103 : decode cX8_readLine 103 = .ok (.invokevirtual 55, 3) := by decide +kernel
theorem dX8_readLine_106 : decode cX8_readLine 106 = .ok (.ireturn, 1) := by decide +kernel
theorem dX8_readLine_107 : decode cX8_readLine 107 = .ok (.aload_n 0, 1) := by decide +kernel
theorem dX8_readLine_108 : decode cX8_readLine 108 = .ok (.getfield 12, 3) := by decide +kernel
theorem dX8_readLine_111 : decode cX8_readLine 111 = .ok (.invokevirtual 61, 3) := by decide +kernel
theorem dX8_readLine_114 : decode cX8_readLine 114 = .ok (.aload_n 0, 1) := by decide +kernel
theorem dX8_readLine_115 : decode cX8_readLine 115 = .ok (.getfield 21, 3) := by decide +kernel
theorem dX8_readLine_118 : decode cX8_readLine 118 = .ok (.invokevirtual 76, 3) := by decide +kernel
theorem dX8_readLine_121 : decode cX8_readLine 121 = .ok (.iconst 1, 1) := by decide +kernel
theorem dX8_readLine_122 : decode cX8_readLine 122 = .ok (.ireturn, 1) := by decide +kernel
theorem dX8_readText_0 : decode cX8_readText 0 = .ok (.aload_n 0, 1) := by decide +kernel
theorem dX8_readText_1 : decode cX8_readText 1 = .ok (.aload_n 3, 1) := by decide +kernel
theorem dX8_readText_2 : decode cX8_readText 2 = .ok (.putfield 21, 3) := by decide +kernel
theorem dX8_readText_5 : decode cX8_readText 5 = .ok (.aload_n 0, 1) := by decide +kernel
theorem dX8_readText_6 : decode cX8_readText 6 = .ok (.getfield 21, 3) := by decide +kernel
theorem dX8_readText_9 : decode cX8_readText 9 = .ok (.invokevirtual 33, 3) := by decide +kernel
theorem dX8_readText_12 : decode cX8_readText 12 = .ok (.aload_n 0, 1) := by decide +kernel
theorem dX8_readText_13 : decode cX8_readText 13 = .ok (.iconst 0, 1) := by decide +kernel
theorem dX8_readText_14 : decode cX8_readText 14 = .ok (.putfield 25, 3) := by decide +kernel
theorem dX8_readText_17 : decode cX8_readText 17 = .ok (.aload_n 0, 1) := by decide +kernel
theorem dX8_readText_18 : decode cX8_readText 18 = .ok (.getfield 12, 3) := by decide +kernel
theorem dX8_readText_21 : decode cX8_readText 21 = .ok (.aload_n 1, 1) := by decide +kernel
theorem dX8_readText_22 : decode cX8_readText 22 = .ok (.iload_n 2, 1) := by decide +kernel
theorem dX8_readText_23 : decode cX8_readText 23 = .ok (.invokevirtual 36, 3) := by decide +kernel
theorem dX8_readText_26 : decode cX8_readText 26 = .ok (.iconst 1, 1) := by decide +kernel
theorem dX8_readText_27 : decode cX8_readText 27 = .ok (.istore 4, 2) := by decide +kernel
theorem dX8_readText_29 : decode cX8_readText 29 = .ok (.iconst 0, 1) := by decide +kernel
theorem dX8_readText_30 : decode cX8_readText 30 = .ok (.istore 5, 2) := by decide +kernel
theorem dX8_readText_32 : decode cX8_readText 32 = .ok (.iload 5, 2) := by decide +kernel
theorem dX8_readText_34 : decode cX8_readText 34 = .ok (.bipush 8, 2) := by decide +kernel
theorem dX8_readText_36 : decode cX8_readText 36 = .ok (.if_icmp .gt 39, 3) := by decide +kernel
theorem dX8_readText_39 : decode cX8_readText 39 = .ok (.iload 4, 2) := by decide +kernel
theorem dX8_readText_41 : decode cX8_readText 41 = .ok (.ifCond .eq 34, 3) := by decide +kernel
theorem dX8_readText_44 : decode cX8_readText 44 = .ok (.aload_n 0, 1) := by decide +kernel
theorem dX8_readText_45 : decode cX8_readText 45 = .ok (.invokevirtual 40, 3) := by decide +kernel
theorem dX8_readText_48 : decode cX8_readText 48 = .ok (.ifCond .eq 18, 3) := by decide +kernel
theorem dX8_readText_51 : decode cX8_readText 51 = .ok (.aload_n 0, 1) := by decide +kernel
theorem dX8_readText_52 : decode cX8_readText 52 = .ok (.getfield 12, 3) := by decide +kernel
theorem dX8_readText_55 : decode cX8_readText 55 = .ok (.iconst 0, 1) := by decide +kernel
theorem dX8_readText_56 : decode cX8_readText 56 = .ok (.invokevirtual 44, 3) := by decide +kernel
theorem dX8_readText_59 : decode cX8_readText 59 = .ok (.ifCond .ne 7, 3) := by decide +kernel
theorem dX8_readText_62 : decode cX8_readText 62 = .ok (.iconst 1, 1) := by decide +kernel
theorem dX8_readText_63 : decode cX8_readText 63 = .ok (.goto 4, 3) := by decide +kernel
theorem dX8_readText_66 : decode cX8_readText 66 = .ok (.iconst 0, 1) := by decide +kernel
theorem dX8_readText_67 : decode cX8_readText 67 = .ok (.istore 4, 2) := by decide +kernel
theorem dX8_readText_69 : decode cX8_readText 69 = .ok (.iinc 5 1, 3) := by decide +kernel
theorem dX8_readText_72 : decode cX8_readText 72 = .ok (.goto (-40), 3) := by decide +kernel
theorem dX8_readText_75 : decode cX8_readText 75 = .ok (.aload_n 0, 1) := by decide +kernel
theorem dX8_readText_76 : decode cX8_readText 76 = .ok (.getfield 25, 3) := by decide +kernel
theorem dX8_readText_79 : decode cX8_readText 79 = .ok (.ireturn, 1) := by decide +kernel
theorem dX11_text_0 : decode cX11_text 0 = .ok (.iload_n 1, 1) := by decide +kernel
theorem dX11_text_1 : decode cX11_text 1 = .ok (.ifCond .lt 11, 3) := by decide +kernel
theorem dX11_text_4 : decode cX11_text 4 = .ok (.iload_n 1, 1) := by decide +kernel
theorem dX11_text_5 : decode cX11_text 5 = .ok (.aload_n 0, 1) := by decide +kernel
theorem dX11_text_6 : decode cX11_text 6 = .ok (.getfield 13, 3) := by decide +kernel
theorem dX11_text_9 : decode cX11_text 9 = .ok (.if_icmp .le 5, 3) := by decide +kernel
theorem dX11_text_12 : decode cX11_text 12 = .ok (.iconst (-1), 1) := by decide +kernel
theorem dX11_text_13 : decode cX11_text 13 = .ok (.ireturn, 1) := by decide +kernel
theorem dX11_text_14 : decode cX11_text 14 = .ok (.aload_n 0, 1) := by decide +kernel
theorem dX11_text_15 : decode cX11_text 15 = .ok (.getfield 20, 3) := by decide +kernel
theorem dX11_text_18 : decode cX11_text 18 = .ok (.aload_n 0, 1) := by decide +kernel
theorem dX11_text_19 : decode cX11_text 19 = .ok (.getfield 9, 3) := by decide +kernel
theorem dX11_text_22 : decode cX11_text 22 = .ok (.iload_n 1, 1) := by decide +kernel
theorem dX11_text_23 : decode cX11_text 23 = .ok (.aload_n 0, 1) := by decide +kernel
theorem dX11_text_24 : decode cX11_text 24 = .ok (.getfield 31, 3) := by decide +kernel
theorem dX11_text_27 : decode cX11_text 27 = .ok (.invokevirtual 84, 3) := by decide +kernel
theorem dX11_text_30 : decode cX11_text 30 = .ok (.istore_n 2, 1) := by decide +kernel
theorem dX11_text_31 : decode cX11_text 31 = .ok (.aload_n 0, 1) := by decide +kernel
theorem dX11_text_32 : decode cX11_text 32 = .ok (.iconst 0, 1) := by decide +kernel
theorem dX11_text_33 : decode cX11_text 33 = .ok (.putfield 13, 3) := by decide +kernel
theorem dX11_text_36 : decode cX11_text 36 = .ok (.iload_n 2, 1) := by decide +kernel
theorem dX11_text_37 : decode cX11_text 37 = .ok (.ifCond .eq 8, 3) := by decide +kernel
theorem dX11_text_40 : decode cX11_text 40 = .ok (.bipush (-2), 2) := by decide +kernel
theorem dX11_text_42 : decode cX11_text 42 = .ok (.iload_n 2, 1) := by decide +kernel
theorem dX11_text_43 : decode cX11_text 43 = .ok (.isub, 1) := by decide +kernel
theorem dX11_text_44 : decode cX11_text 44 = .ok (.ireturn, 1) := by decide +kernel
theorem dX11_text_45 : decode cX11_text 45 = .ok (.aload_n 0, 1) := by decide +kernel
theorem dX11_text_46 : decode cX11_text 46 = .ok (.getfield 27, 3) := by decide +kernel
theorem dX11_text_49 : decode cX11_text 49 = .ok (.astore_n 3, 1) := by decide +kernel
theorem dX11_text_50 : decode cX11_text 50 = .ok (.aload_n 0, 1) := by decide +kernel
theorem dX11_text_51 : decode cX11_text 51 = .ok (.aload_n 0, 1) := by decide +kernel
theorem dX11_text_52 : decode cX11_text 52 = .ok (.getfield 31, 3) := by decide +kernel
theorem dX11_text_55 : decode cX11_text 55 = .ok (.putfield 27, 3) := by decide +kernel
theorem dX11_text_58 : decode cX11_text 58 = .ok (.aload_n 0, 1) := by decide +kernel
theorem dX11_text_59 : decode cX11_text 59 = .ok (.aload_n 3, 1) := by decide +kernel
theorem dX11_text_60 : decode cX11_text 60 = .ok (.putfield 31, 3) := by decide +kernel
theorem dX11_text_63 : decode cX11_text 63 = .ok (.aload_n 0, 1) := by decide +kernel
theorem dX11_text_64 : decode cX11_text 64 = .ok (.invokevirtual 88, 3) := by decide +kernel
theorem dX11_text_67 : decode cX11_text 67 = .ok (.aload_n 0, 1) := by decide +kernel
theorem dX11_text_68 : decode cX11_text 68 = .ok (.getfield 27, 3) := by decide +kernel
theorem dX11_text_71 : decode cX11_text 71 = .ok (.invokevirtual 91, 3) := by decide +kernel
theorem dX11_text_74 : decode cX11_text 74 = .ok (.ireturn, 1) := by decide +kernel
theorem dX12_spelled_0 : decode cX12_spelled 0 = .ok (.lconst 0, 1) := by decide +kernel
theorem dX12_spelled_1 : decode cX12_spelled 1 = .ok (.lstore_n 1, 1) := by decide +kernel
theorem dX12_spelled_2 : decode cX12_spelled 2 = .ok (.iconst 0, 1) := by decide +kernel
theorem dX12_spelled_3 : decode cX12_spelled 3 = .ok (.istore_n 3, 1) := by decide +kernel
theorem dX12_spelled_4 : decode cX12_spelled 4 = .ok (.iload_n 3, 1) := by decide +kernel
theorem dX12_spelled_5 : decode cX12_spelled 5 = .ok (.aload_n 0, 1) := by decide +kernel
theorem dX12_spelled_6 : decode cX12_spelled 6 = .ok (.invokevirtual 134, 3) := by decide +kernel
theorem dX12_spelled_9 : decode cX12_spelled 9 = .ok (.if_icmp .ge 24, 3) := by decide +kernel
theorem dX12_spelled_12 : decode cX12_spelled 12 = .ok (.lload_n 1, 1) := by decide +kernel
theorem dX12_spelled_13 : decode cX12_spelled 13 = .ok (.iconst 5, 1) := by decide +kernel
theorem dX12_spelled_14 : decode cX12_spelled 14 = .ok (.lshl, 1) := by decide +kernel
theorem dX12_spelled_15 : decode cX12_spelled 15 = .ok (.aload_n 0, 1) := by decide +kernel
theorem dX12_spelled_16 : decode cX12_spelled 16 = .ok (.iload_n 3, 1) := by decide +kernel
theorem dX12_spelled_17 : decode cX12_spelled 17 = .ok (.invokevirtual 140, 3) := by decide +kernel
theorem dX12_spelled_20 : decode cX12_spelled 20 = .ok (.i2l, 1) := by decide +kernel
theorem dX12_spelled_21 : decode cX12_spelled 21 = .ok (.ldc2_w 117, 3) := by decide +kernel
theorem dX12_spelled_24 : decode cX12_spelled 24 = .ok (.lsub, 1) := by decide +kernel
theorem dX12_spelled_25 : decode cX12_spelled 25 = .ok (.lor, 1) := by decide +kernel
theorem dX12_spelled_26 : decode cX12_spelled 26 = .ok (.lstore_n 1, 1) := by decide +kernel
theorem dX12_spelled_27 : decode cX12_spelled 27 = .ok (.iinc 3 1, 3) := by decide +kernel
theorem dX12_spelled_30 : decode cX12_spelled 30 = .ok (.goto (-26), 3) := by decide +kernel
theorem dX12_spelled_33 : decode cX12_spelled 33 = .ok (.lload_n 1, 1) := by decide +kernel
theorem dX12_spelled_34 : decode cX12_spelled 34 = .ok (.lreturn, 1) := by decide +kernel
theorem dX12_is_0 : decode cX12_is 0 = .ok (.aload_n 0, 1) := by decide +kernel
theorem dX12_is_1 : decode cX12_is 1 = .ok (.getfield 99, 3) := by decide +kernel
theorem dX12_is_4 : decode cX12_is 4 = .ok (.iconst 1, 1) := by decide +kernel
theorem dX12_is_5 : decode cX12_is 5 = .ok (.if_icmp .ne 19, 3) := by decide +kernel
theorem dX12_is_8 : decode cX12_is 8 = .ok (.aload_n 0, 1) := by decide +kernel
theorem dX12_is_9 : decode cX12_is 9 = .ok (.getfield 105, 3) := by decide +kernel
theorem dX12_is_12 : decode cX12_is 12 = .ok (.aload_n 1, 1) := by decide +kernel
theorem dX12_is_13 : decode cX12_is 13 = .ok (.invokestatic 144, 3) := by decide +kernel
theorem dX12_is_16 : decode cX12_is 16 = .ok (.lcmp, 1) := by decide +kernel
theorem dX12_is_17 : decode cX12_is 17 = .ok (.ifCond .ne 7, 3) := by decide +kernel
theorem dX12_is_20 : decode cX12_is 20 = .ok (.iconst 1, 1) := by decide +kernel
theorem dX12_is_21 : decode cX12_is 21 = .ok (.goto 4, 3) := by decide +kernel
theorem dX12_is_24 : decode cX12_is 24 = .ok (.iconst 0, 1) := by decide +kernel
theorem dX12_is_25 : decode cX12_is 25 = .ok (.ireturn, 1) := by decide +kernel
theorem dX12_isName_0 : decode cX12_isName 0 = .ok (.aload_n 0, 1) := by decide +kernel
theorem dX12_isName_1 : decode cX12_isName 1 = .ok (.getfield 99, 3) := by decide +kernel
theorem dX12_isName_4 : decode cX12_isName 4 = .ok (.iconst 1, 1) := by decide +kernel
theorem dX12_isName_5 : decode cX12_isName 5 = .ok (.if_icmp .ne 34, 3) := by decide +kernel
theorem dX12_isName_8 : decode cX12_isName 8 = .ok (.aload_n 0, 1) := by decide +kernel
theorem dX12_isName_9 : decode cX12_isName 9 = .ok (.ldc 148, 2) := by decide +kernel
theorem dX12_isName_11 : decode cX12_isName 11 = .ok (.invokevirtual 150, 3) := by decide +kernel
theorem dX12_isName_14 : decode cX12_isName 14 = .ok (.ifCond .ne 25, 3) := by decide +kernel
theorem dX12_isName_17 : decode cX12_isName 17 = .ok (.aload_n 0, 1) := by decide +kernel
theorem dX12_isName_18 : decode cX12_isName 18 = .ok (.ldc 154, 2) := by decide +kernel
theorem dX12_isName_20 : decode cX12_isName 20 = .ok (.invokevirtual 150, 3) := by decide +kernel
theorem dX12_isName_23 : decode cX12_isName 23 = .ok (.ifCond .ne 16, 3) := by decide +kernel
theorem dX12_isName_26 : decode cX12_isName 26 = .ok (.aload_n 0, 1) := by decide +kernel
theorem dX12_isName_27 : decode cX12_isName 27 = .ok (.ldc 156, 2) := by decide +kernel
theorem dX12_isName_29 : decode cX12_isName 29 = .ok (.invokevirtual 150, 3) := by decide +kernel
theorem dX12_isName_32 : decode cX12_isName 32 = .ok (.ifCond .ne 7, 3) := by decide +kernel
theorem dX12_isName_35 : decode cX12_isName 35 = .ok (.iconst 1, 1) := by decide +kernel
theorem dX12_isName_36 : decode cX12_isName 36 = .ok (.goto 4, 3) := by decide +kernel
theorem dX12_isName_39 : decode cX12_isName 39 = .ok (.iconst 0, 1) := by decide +kernel
theorem dX12_isName_40 : decode cX12_isName 40 = .ok (.ireturn, 1) := by decide +kernel
theorem dX12_newName_0 : decode cX12_newName 0 = .ok (.aload_n 0, 1) := by decide +kernel
theorem dX12_newName_1 : decode cX12_newName 1 = .ok (.invokevirtual 168, 3) := by decide +kernel
theorem dX12_newName_4 : decode cX12_newName 4 = .ok (.aload_n 0, 1) := by decide +kernel
theorem dX12_newName_5 : decode cX12_newName 5 = .ok (.aload_n 0, 1) := by decide +kernel
theorem dX12_newName_6 : decode cX12_newName 6 = .ok (.invokevirtual 187, 3) := by decide +kernel
theorem dX12_newName_9 : decode cX12_newName 9 = .ok (.iconst 1, 1) := by decide +kernel
theorem dX12_newName_10 : decode cX12_newName 10 = .ok (.invokevirtual 171, 3) := by decide +kernel
theorem dX12_newName_13 : decode cX12_newName 13 = .ok (.ifCond .eq 27, 3) := by decide +kernel
theorem dX12_newName_16 : decode cX12_newName 16 = .ok (.aload_n 0, 1) := by decide +kernel
theorem dX12_newName_17 : decode cX12_newName 17 = .ok (.aload_n 0, 1) := by decide +kernel
theorem dX12_newName_18 : decode cX12_newName 18 = .ok (.aload_n 0, 1) := by decide +kernel
theorem dX12_newName_19 : decode cX12_newName 19 = .ok (.getfield 105, 3) := by decide +kernel
theorem dX12_newName_22 : decode cX12_newName 22 = .ok (.invokevirtual 191, 3) := by decide +kernel
theorem dX12_newName_25 : decode cX12_newName 25 = .ok (.ifCond .ge 7, 3) := by decide +kernel
theorem dX12_newName_28 : decode cX12_newName 28 = .ok (.iconst 1, 1) := by decide +kernel
theorem dX12_newName_29 : decode cX12_newName 29 = .ok (.goto 4, 3) := by decide +kernel
theorem dX12_newName_32 : decode cX12_newName 32 = .ok (.iconst 0, 1) := by decide +kernel
theorem dX12_newName_33 : decode cX12_newName 33 = .ok (.iconst 2, 1) := by decide +kernel
theorem dX12_newName_34 : decode cX12_newName 34 = .ok (.invokevirtual 171, 3) := by decide +kernel
theorem dX12_newName_37 : decode cX12_newName 37 = .ok (.ifCond .ne 5, 3) := by decide +kernel
theorem dX12_newName_40 : decode cX12_newName 40 = .ok (.iconst 0, 1) := by decide +kernel
theorem dX12_newName_41 : decode cX12_newName 41 = .ok (.ireturn, 1) := by decide +kernel
theorem dX12_newName_42 : decode cX12_newName 42 = .ok (.aload_n 0, 1) := by decide +kernel
theorem dX12_newName_43 : decode cX12_newName 43 = .ok (.getfield 17, 3) := by decide +kernel
theorem dX12_newName_46 : decode cX12_newName 46 = .ok (.aload_n 0, 1) := by decide +kernel
theorem dX12_newName_47 : decode cX12_newName 47 = .ok (.aload_n 0, 1) := by decide +kernel
theorem dX12_newName_48 : decode cX12_newName 48 = .ok (.getfield 13, 3) := by decide +kernel
theorem dX12_newName_51 : decode cX12_newName 51 = .ok (.aload_n 0, 1) := by decide +kernel
theorem dX12_newName_52 : decode cX12_newName 52 = .ok (.getfield 158, 3) := by decide +kernel
theorem dX12_newName_55 : decode cX12_newName 55 = .ok (.iaload, 1) := by decide +kernel
theorem dX12_newName_56 : decode cX12_newName 56 = .ok (.invokevirtual 161, 3) := by decide +kernel
theorem dX12_newName_59 : decode cX12_newName 59 = .ok (.aload_n 0, 1) := by decide +kernel
theorem dX12_newName_60 : decode cX12_newName 60 = .ok (.getfield 105, 3) := by decide +kernel
theorem dX12_newName_63 : decode cX12_newName 63 = .ok (.lastore, 1) := by decide +kernel
theorem dX12_newName_64 : decode cX12_newName 64 = .ok (.aload_n 0, 1) := by decide +kernel
theorem dX12_newName_65 : decode cX12_newName 65 = .ok (.invokevirtual 168, 3) := by decide +kernel
theorem dX12_newName_68 : decode cX12_newName 68 = .ok (.iconst 1, 1) := by decide +kernel
theorem dX12_newName_69 : decode cX12_newName 69 = .ok (.ireturn, 1) := by decide +kernel
theorem dX12_sumLine_0 : decode cX12_sumLine 0 = .ok (.iconst 0, 1) := by decide +kernel
theorem dX12_sumLine_1 : decode cX12_sumLine 1 = .ok (.istore_n 2, 1) := by decide +kernel
theorem dX12_sumLine_2 : decode cX12_sumLine 2 = .ok (.aload_n 0, 1) := by decide +kernel
theorem dX12_sumLine_3 : decode cX12_sumLine 3 = .ok (.aload_n 0, 1) := by decide +kernel
theorem dX12_sumLine_4 : decode cX12_sumLine 4 = .ok (.bipush 43, 2) := by decide +kernel
theorem dX12_sumLine_6 : decode cX12_sumLine 6 = .ok (.invokevirtual 164, 3) := by decide +kernel
theorem dX12_sumLine_9 : decode cX12_sumLine 9 = .ok (.ifCond .ne 12, 3) := by decide +kernel
theorem dX12_sumLine_12 : decode cX12_sumLine 12 = .ok (.aload_n 0, 1) := by decide +kernel
theorem dX12_sumLine_13 : decode cX12_sumLine 13 = .ok (.bipush 45, 2) := by decide +kernel
theorem dX12_sumLine_15 : decode cX12_sumLine 15 = .ok (.invokevirtual 164, 3) := by decide +kernel
theorem dX12_sumLine_18 : decode cX12_sumLine 18 = .ok (.ifCond .eq 7, 3) := by decide +kernel
theorem dX12_sumLine_21 : decode cX12_sumLine 21 = .ok (.iconst 1, 1) := by decide +kernel
theorem dX12_sumLine_22 : decode cX12_sumLine 22 = .ok (.goto 4, 3) := by decide +kernel
theorem dX12_sumLine_25 : decode cX12_sumLine 25 = .ok (.iconst 0, 1) := by decide +kernel
theorem dX12_sumLine_26 : decode cX12_sumLine 26 = .ok (.iconst 1, 1) := by decide +kernel
theorem dX12_sumLine_27 : decode cX12_sumLine 27 = .ok (.invokevirtual 171, 3) := by decide +kernel
theorem dX12_sumLine_30 : decode cX12_sumLine 30 = .ok (.ifCond .ne 5, 3) := by decide +kernel
theorem dX12_sumLine_33 : decode cX12_sumLine 33 = .ok (.iconst 0, 1) := by decide +kernel
theorem dX12_sumLine_34 : decode cX12_sumLine 34 = .ok (.ireturn, 1) := by decide +kernel
theorem dX12_sumLine_35 : decode cX12_sumLine 35 = .ok (.aload_n 0, 1) := by decide +kernel
theorem dX12_sumLine_36 : decode cX12_sumLine 36 = .ok (.bipush 43, 2) := by decide +kernel
theorem dX12_sumLine_38 : decode cX12_sumLine 38 = .ok (.invokevirtual 164, 3) := by decide +kernel
theorem dX12_sumLine_41 : decode cX12_sumLine 41 = .ok (.ifCond .ne 12, 3) := by decide +kernel
theorem dX12_sumLine_44 : decode cX12_sumLine 44 = .ok (.aload_n 0, 1) := by decide +kernel
theorem dX12_sumLine_45 : decode cX12_sumLine 45 = .ok (.bipush 45, 2) := by decide +kernel
theorem dX12_sumLine_47 : decode cX12_sumLine 47 = .ok (.invokevirtual 164, 3) := by decide +kernel
theorem dX12_sumLine_50 : decode cX12_sumLine 50 = .ok (.ifCond .eq 125, 3) := by decide +kernel
theorem dX12_sumLine_53 : decode cX12_sumLine 53 = .ok (.aload_n 0, 1) := by decide +kernel
theorem dX12_sumLine_54 : decode cX12_sumLine 54 = .ok (.iload_n 2, 1) := by decide +kernel
theorem dX12_sumLine_55 : decode cX12_sumLine 55 = .ok (.iconst 4, 1) := by decide +kernel
theorem dX12_sumLine_56 : decode cX12_sumLine 56 = .ok (.if_icmp .ge 7, 3) := by decide +kernel
theorem dX12_sumLine_59 : decode cX12_sumLine 59 = .ok (.iconst 1, 1) := by decide +kernel
theorem dX12_sumLine_60 : decode cX12_sumLine 60 = .ok (.goto 4, 3) := by decide +kernel
theorem dX12_sumLine_63 : decode cX12_sumLine 63 = .ok (.iconst 0, 1) := by decide +kernel
theorem dX12_sumLine_64 : decode cX12_sumLine 64 = .ok (.iconst 5, 1) := by decide +kernel
theorem dX12_sumLine_65 : decode cX12_sumLine 65 = .ok (.invokevirtual 171, 3) := by decide +kernel
theorem dX12_sumLine_68 : decode cX12_sumLine 68 = .ok (.ifCond .ne 5, 3) := by decide +kernel
theorem dX12_sumLine_71 : decode cX12_sumLine 71 = .ok (.iconst 0, 1) := by decide +kernel
theorem dX12_sumLine_72 : decode cX12_sumLine 72 = .ok (.ireturn, 1) := by decide +kernel
theorem dX12_sumLine_73 : decode cX12_sumLine 73 = .ok (.aload_n 0, 1) := by decide +kernel
theorem dX12_sumLine_74 : decode cX12_sumLine 74 = .ok (.getfield 30, 3) := by decide +kernel
theorem dX12_sumLine_77 : decode cX12_sumLine 77 = .ok (.iconst 4, 1) := by decide +kernel
theorem dX12_sumLine_78 : decode cX12_sumLine 78 = .ok (.aload_n 0, 1) := by decide +kernel
theorem dX12_sumLine_79 : decode cX12_sumLine 79 = .ok (.iload_n 1, 1) := by decide +kernel
theorem dX12_sumLine_80 : decode cX12_sumLine 80 = .ok (.invokevirtual 161, 3) := by decide +kernel
theorem dX12_sumLine_83 : decode cX12_sumLine 83 = .ok (.imul, 1) := by decide +kernel
theorem dX12_sumLine_84 : decode cX12_sumLine 84 = .ok (.iload_n 2, 1) := by decide +kernel
theorem dX12_sumLine_85 : decode cX12_sumLine 85 = .ok (.iadd, 1) := by decide +kernel
theorem dX12_sumLine_86 : decode cX12_sumLine 86 = .ok (.aload_n 0, 1) := by decide +kernel
theorem dX12_sumLine_87 : decode cX12_sumLine 87 = .ok (.bipush 43, 2) := by decide +kernel
theorem dX12_sumLine_89 : decode cX12_sumLine 89 = .ok (.invokevirtual 164, 3) := by decide +kernel
theorem dX12_sumLine_92 : decode cX12_sumLine 92 = .ok (.ifCond .eq 7, 3) := by decide +kernel
theorem dX12_sumLine_95 : decode cX12_sumLine 95 = .ok (.iconst 1, 1) := by decide +kernel
theorem dX12_sumLine_96 : decode cX12_sumLine 96 = .ok (.goto 4, 3) := by decide +kernel
theorem dX12_sumLine_99 : decode cX12_sumLine 99 = .ok (.iconst (-1), 1) := by decide +kernel
theorem dX12_sumLine_100 : decode cX12_sumLine 100 = .ok (.iastore, 1) := by decide +kernel
theorem dX12_sumLine_101 : decode cX12_sumLine 101 = .ok (.aload_n 0, 1) := by decide +kernel
theorem dX12_sumLine_102 : decode cX12_sumLine 102 = .ok (.invokevirtual 168, 3) := by decide +kernel
theorem dX12_sumLine_105 : decode cX12_sumLine 105 = .ok (.aload_n 0, 1) := by decide +kernel
theorem dX12_sumLine_106 : decode cX12_sumLine 106 = .ok (.aload_n 0, 1) := by decide +kernel
theorem dX12_sumLine_107 : decode cX12_sumLine 107 = .ok (.invokevirtual 187, 3) := by decide +kernel
theorem dX12_sumLine_110 : decode cX12_sumLine 110 = .ok (.iconst 1, 1) := by decide +kernel
theorem dX12_sumLine_111 : decode cX12_sumLine 111 = .ok (.invokevirtual 171, 3) := by decide +kernel
theorem dX12_sumLine_114 : decode cX12_sumLine 114 = .ok (.ifCond .eq 27, 3) := by decide +kernel
theorem dX12_sumLine_117 : decode cX12_sumLine 117 = .ok (.aload_n 0, 1) := by decide +kernel
theorem dX12_sumLine_118 : decode cX12_sumLine 118 = .ok (.aload_n 0, 1) := by decide +kernel
theorem dX12_sumLine_119 : decode cX12_sumLine 119 = .ok (.aload_n 0, 1) := by decide +kernel
theorem dX12_sumLine_120 : decode cX12_sumLine 120 = .ok (.getfield 105, 3) := by decide +kernel
theorem dX12_sumLine_123 : decode cX12_sumLine 123 = .ok (.invokevirtual 191, 3) := by decide +kernel
theorem dX12_sumLine_126 : decode cX12_sumLine 126 = .ok (.ifCond .lt 7, 3) := by decide +kernel
theorem dX12_sumLine_129 : decode cX12_sumLine 129 = .ok (.iconst 1, 1) := by decide +kernel
theorem dX12_sumLine_130 : decode cX12_sumLine 130 = .ok (.goto 4, 3) := by decide +kernel
theorem dX12_sumLine_133 : decode cX12_sumLine 133 = .ok (.iconst 0, 1) := by decide +kernel
theorem dX12_sumLine_134 : decode cX12_sumLine 134 = .ok (.iconst 3, 1) := by decide +kernel
theorem dX12_sumLine_135 : decode cX12_sumLine 135 = .ok (.invokevirtual 171, 3) := by decide +kernel
theorem dX12_sumLine_138 : decode cX12_sumLine 138 = .ok (.ifCond .ne 5, 3) := by decide +kernel
theorem dX12_sumLine_141 : decode cX12_sumLine 141 = .ok (.iconst 0, 1) := by decide +kernel
theorem dX12_sumLine_142 : decode cX12_sumLine 142 = .ok (.ireturn, 1) := by decide +kernel
theorem dX12_sumLine_143 : decode cX12_sumLine 143 = .ok (.aload_n 0, 1) := by decide +kernel
theorem dX12_sumLine_144 : decode cX12_sumLine 144 = .ok (.getfield 33, 3) := by decide +kernel
theorem dX12_sumLine_147 : decode cX12_sumLine 147 = .ok (.iconst 4, 1) := by decide +kernel
theorem dX12_sumLine_148 : decode cX12_sumLine 148 = .ok (.aload_n 0, 1) := by decide +kernel
theorem dX12_sumLine_149 : decode cX12_sumLine 149 = .ok (.iload_n 1, 1) := by decide +kernel
theorem dX12_sumLine_150 : decode cX12_sumLine 150 = .ok (.invokevirtual 161, 3) := by decide +kernel
theorem dX12_sumLine_153 : decode cX12_sumLine 153 = .ok (.imul, 1) := by decide +kernel
theorem dX12_sumLine_154 : decode cX12_sumLine 154 = .ok (.iload_n 2, 1) := by decide +kernel
theorem dX12_sumLine_155 : decode cX12_sumLine 155 = .ok (.iadd, 1) := by decide +kernel
theorem dX12_sumLine_156 : decode cX12_sumLine 156 = .ok (.aload_n 0, 1) := by decide +kernel
theorem dX12_sumLine_157 : decode cX12_sumLine 157 = .ok (.aload_n 0, 1) := by decide +kernel
theorem dX12_sumLine_158 : decode cX12_sumLine 158 = .ok (.getfield 105, 3) := by decide +kernel
theorem dX12_sumLine_161 : decode cX12_sumLine 161 = .ok (.invokevirtual 191, 3) := by decide +kernel
theorem dX12_sumLine_164 : decode cX12_sumLine 164 = .ok (.iastore, 1) := by decide +kernel
theorem dX12_sumLine_165 : decode cX12_sumLine 165 = .ok (.aload_n 0, 1) := by decide +kernel
theorem dX12_sumLine_166 : decode cX12_sumLine 166 = .ok (.invokevirtual 168, 3) := by decide +kernel
theorem dX12_sumLine_169 : decode cX12_sumLine 169 = .ok (.iinc 2 1, 3) := by decide +kernel
theorem dX12_sumLine_172 : decode cX12_sumLine 172 = .ok (.goto (-137), 3) := by decide +kernel
theorem dX12_sumLine_175 : decode cX12_sumLine 175 = .ok (.aload_n 0, 1) := by decide +kernel
theorem dX12_sumLine_176 : decode cX12_sumLine 176 = .ok (.getfield 24, 3) := by decide +kernel
theorem dX12_sumLine_179 : decode cX12_sumLine 179 = .ok (.aload_n 0, 1) := by decide +kernel
theorem dX12_sumLine_180 : decode cX12_sumLine 180 = .ok (.iload_n 1, 1) := by decide +kernel
theorem dX12_sumLine_181 : decode cX12_sumLine 181 = .ok (.invokevirtual 161, 3) := by decide +kernel
theorem dX12_sumLine_184 : decode cX12_sumLine 184 = .ok (.iload_n 2, 1) := by decide +kernel
theorem dX12_sumLine_185 : decode cX12_sumLine 185 = .ok (.iastore, 1) := by decide +kernel
theorem dX12_sumLine_186 : decode cX12_sumLine 186 = .ok (.aload_n 0, 1) := by decide +kernel
theorem dX12_sumLine_187 : decode cX12_sumLine 187 = .ok (.getfield 27, 3) := by decide +kernel
theorem dX12_sumLine_190 : decode cX12_sumLine 190 = .ok (.aload_n 0, 1) := by decide +kernel
theorem dX12_sumLine_191 : decode cX12_sumLine 191 = .ok (.iload_n 1, 1) := by decide +kernel
theorem dX12_sumLine_192 : decode cX12_sumLine 192 = .ok (.invokevirtual 161, 3) := by decide +kernel
theorem dX12_sumLine_195 : decode cX12_sumLine 195 = .ok (.iconst 0, 1) := by decide +kernel
theorem dX12_sumLine_196 : decode cX12_sumLine 196 = .ok (.iastore, 1) := by decide +kernel
theorem dX12_sumLine_197 : decode cX12_sumLine 197 = .ok (.iconst 1, 1) := by decide +kernel
theorem dX12_sumLine_198 : decode cX12_sumLine 198 = .ok (.ireturn, 1) := by decide +kernel
theorem dX12_lineHere_0 : decode cX12_lineHere 0 = .ok (.aload_n 0, 1) := by decide +kernel
theorem dX12_lineHere_1 : decode cX12_lineHere 1 = .ok (.ldc 148, 2) := by decide +kernel
theorem dX12_lineHere_3 : decode cX12_lineHere 3 = .ok (.invokevirtual 150, 3) := by decide +kernel
theorem dX12_lineHere_6 : decode cX12_lineHere 6 = .ok (.ifCond .eq 7, 3) := by decide +kernel
theorem dX12_lineHere_9 : decode cX12_lineHere 9 = .ok (.iconst 0, 1) := by decide +kernel
theorem dX12_lineHere_10 : decode cX12_lineHere 10 = .ok (.goto 30, 3) := by decide +kernel
theorem dX12_lineHere_13 : decode cX12_lineHere 13 = .ok (.aload_n 0, 1) := by decide +kernel
theorem dX12_lineHere_14 : decode cX12_lineHere 14 = .ok (.ldc 154, 2) := by decide +kernel
theorem dX12_lineHere_16 : decode cX12_lineHere 16 = .ok (.invokevirtual 150, 3) := by decide +kernel
theorem dX12_lineHere_19 : decode cX12_lineHere 19 = .ok (.ifCond .eq 7, 3) := by decide +kernel
theorem dX12_lineHere_22 : decode cX12_lineHere 22 = .ok (.iconst 1, 1) := by decide +kernel
theorem dX12_lineHere_23 : decode cX12_lineHere 23 = .ok (.goto 17, 3) := by decide +kernel
theorem dX12_lineHere_26 : decode cX12_lineHere 26 = .ok (.aload_n 0, 1) := by decide +kernel
theorem dX12_lineHere_27 : decode cX12_lineHere 27 = .ok (.ldc 156, 2) := by decide +kernel
theorem dX12_lineHere_29 : decode cX12_lineHere 29 = .ok (.invokevirtual 150, 3) := by decide +kernel
theorem dX12_lineHere_32 : decode cX12_lineHere 32 = .ok (.ifCond .eq 7, 3) := by decide +kernel
theorem dX12_lineHere_35 : decode cX12_lineHere 35 = .ok (.iconst 2, 1) := by decide +kernel
theorem dX12_lineHere_36 : decode cX12_lineHere 36 = .ok (.goto 4, 3) := by decide +kernel
theorem dX12_lineHere_39 : decode cX12_lineHere 39 = .ok (.iconst (-1), 1) := by decide +kernel
theorem dX12_lineHere_40 : decode cX12_lineHere 40 = .ok (.istore_n 1, 1) := by decide +kernel
theorem dX12_lineHere_41 : decode cX12_lineHere 41 = .ok (.aload_n 0, 1) := by decide +kernel
theorem dX12_lineHere_42 : decode cX12_lineHere 42 = .ok (.iload_n 1, 1) := by decide +kernel
theorem dX12_lineHere_43 : decode cX12_lineHere 43 = .ok (.ifCond .lt 7, 3) := by decide +kernel
theorem dX12_lineHere_46 : decode cX12_lineHere 46 = .ok (.iconst 1, 1) := by decide +kernel
theorem dX12_lineHere_47 : decode cX12_lineHere 47 = .ok (.goto 4, 3) := by decide +kernel
theorem dX12_lineHere_50 : decode cX12_lineHere 50 = .ok (.iconst 0, 1) := by decide +kernel
theorem dX12_lineHere_51 : decode cX12_lineHere 51 = .ok (.iconst 1, 1) := by decide +kernel
theorem dX12_lineHere_52 : decode cX12_lineHere 52 = .ok (.invokevirtual 171, 3) := by decide +kernel
theorem dX12_lineHere_55 : decode cX12_lineHere 55 = .ok (.ifCond .eq 30, 3) := by decide +kernel
theorem dX12_lineHere_58 : decode cX12_lineHere 58 = .ok (.aload_n 0, 1) := by decide +kernel
theorem dX12_lineHere_59 : decode cX12_lineHere 59 = .ok (.aload_n 0, 1) := by decide +kernel
theorem dX12_lineHere_60 : decode cX12_lineHere 60 = .ok (.getfield 13, 3) := by decide +kernel
theorem dX12_lineHere_63 : decode cX12_lineHere 63 = .ok (.aload_n 0, 1) := by decide +kernel
theorem dX12_lineHere_64 : decode cX12_lineHere 64 = .ok (.getfield 158, 3) := by decide +kernel
theorem dX12_lineHere_67 : decode cX12_lineHere 67 = .ok (.iaload, 1) := by decide +kernel
theorem dX12_lineHere_68 : decode cX12_lineHere 68 = .ok (.bipush 8, 2) := by decide +kernel
theorem dX12_lineHere_70 : decode cX12_lineHere 70 = .ok (.if_icmp .ge 7, 3) := by decide +kernel
theorem dX12_lineHere_73 : decode cX12_lineHere 73 = .ok (.iconst 1, 1) := by decide +kernel
theorem dX12_lineHere_74 : decode cX12_lineHere 74 = .ok (.goto 4, 3) := by decide +kernel
theorem dX12_lineHere_77 : decode cX12_lineHere 77 = .ok (.iconst 0, 1) := by decide +kernel
theorem dX12_lineHere_78 : decode cX12_lineHere 78 = .ok (.iconst 5, 1) := by decide +kernel
theorem dX12_lineHere_79 : decode cX12_lineHere 79 = .ok (.invokevirtual 171, 3) := by decide +kernel
theorem dX12_lineHere_82 : decode cX12_lineHere 82 = .ok (.ifCond .ne 5, 3) := by decide +kernel
theorem dX12_lineHere_85 : decode cX12_lineHere 85 = .ok (.iconst 0, 1) := by decide +kernel
theorem dX12_lineHere_86 : decode cX12_lineHere 86 = .ok (.ireturn, 1) := by decide +kernel
theorem dX12_lineHere_87 : decode cX12_lineHere 87 = .ok (.aload_n 0, 1) := by decide +kernel
theorem dX12_lineHere_88 : decode cX12_lineHere 88 = .ok (.invokevirtual 198, 3) := by decide +kernel
theorem dX12_lineHere_91 : decode cX12_lineHere 91 = .ok (.ifCond .ne 5, 3) := by decide +kernel
theorem dX12_lineHere_94 : decode cX12_lineHere 94 = .ok (.iconst 0, 1) := by decide +kernel
theorem dX12_lineHere_95 : decode cX12_lineHere 95 = .ok (.ireturn, 1) := by decide +kernel
theorem dX12_lineHere_96 : decode cX12_lineHere 96 = .ok (.aload_n 0, 1) := by decide +kernel
theorem dX12_lineHere_97 : decode cX12_lineHere 97 = .ok (.getfield 13, 3) := by decide +kernel
theorem dX12_lineHere_100 : decode cX12_lineHere 100 = .ok (.aload_n 0, 1) := by decide +kernel
theorem dX12_lineHere_101 : decode cX12_lineHere 101 = .ok (.getfield 158, 3) := by decide +kernel
theorem dX12_lineHere_104 : decode cX12_lineHere 104 = .ok (.iaload, 1) := by decide +kernel
theorem dX12_lineHere_105 : decode cX12_lineHere 105 = .ok (.istore_n 2, 1) := by decide +kernel
theorem dX12_lineHere_106 : decode cX12_lineHere 106 = .ok (.aload_n 0, 1) := by decide +kernel
theorem dX12_lineHere_107 : decode cX12_lineHere 107 = .ok (.getfield 21, 3) := by decide +kernel
theorem dX12_lineHere_110 : decode cX12_lineHere 110 = .ok (.aload_n 0, 1) := by decide +kernel
theorem dX12_lineHere_111 : decode cX12_lineHere 111 = .ok (.iload_n 2, 1) := by decide +kernel
theorem dX12_lineHere_112 : decode cX12_lineHere 112 = .ok (.invokevirtual 161, 3) := by decide +kernel
theorem dX12_lineHere_115 : decode cX12_lineHere 115 = .ok (.iload_n 1, 1) := by decide +kernel
theorem dX12_lineHere_116 : decode cX12_lineHere 116 = .ok (.iastore, 1) := by decide +kernel
theorem dX12_lineHere_117 : decode cX12_lineHere 117 = .ok (.iload_n 1, 1) := by decide +kernel
theorem dX12_lineHere_118 : decode cX12_lineHere 118 = .ok (.ifCond .ne 11, 3) := by decide +kernel
theorem dX12_lineHere_121 : decode cX12_lineHere 121 = .ok (.aload_n 0, 1) := by decide +kernel
theorem dX12_lineHere_122 : decode cX12_lineHere 122 = .ok (.iload_n 2, 1) := by decide +kernel
theorem dX12_lineHere_123 : decode cX12_lineHere 123 = .ok (.invokevirtual 201, 3) := by decide +kernel
theorem dX12_lineHere_126 : decode cX12_lineHere 126 = .ok (.goto 21, 3) := by decide +kernel
theorem dX12_lineHere_129 : decode cX12_lineHere 129 = .ok (.iload_n 1, 1) := by decide +kernel
theorem dX12_lineHere_130 : decode cX12_lineHere 130 = .ok (.iconst 1, 1) := by decide +kernel
theorem dX12_lineHere_131 : decode cX12_lineHere 131 = .ok (.if_icmp .ne 11, 3) := by decide +kernel
theorem dX12_lineHere_134 : decode cX12_lineHere 134 = .ok (.aload_n 0, 1) := by decide +kernel
theorem dX12_lineHere_135 : decode cX12_lineHere 135 = .ok (.iload_n 2, 1) := by decide +kernel
theorem dX12_lineHere_136 : decode cX12_lineHere 136 = .ok (.invokevirtual 204, 3) := by decide +kernel
theorem dX12_lineHere_139 : decode cX12_lineHere 139 = .ok (.goto 8, 3) := by decide +kernel
theorem dX12_lineHere_142 : decode cX12_lineHere 142 = .ok (.aload_n 0, 1) := by decide +kernel
theorem dX12_lineHere_143 : decode cX12_lineHere 143 = .ok (.iload_n 2, 1) := by decide +kernel
theorem dX12_lineHere_144 : decode cX12_lineHere 144 = .ok (.invokevirtual 207, 3) := by decide +kernel
theorem dX12_lineHere_147 : decode cX12_lineHere 147 = .ok (.istore_n 3, 1) := by decide +kernel
theorem dX12_lineHere_148 : decode cX12_lineHere 148 = .ok (.iload_n 3, 1) := by decide +kernel
theorem dX12_lineHere_149 : decode cX12_lineHere 149 = .ok (.ifCond .eq 17, 3) := by decide +kernel
theorem dX12_lineHere_152 : decode cX12_lineHere 152 = .ok (.aload_n 0, 1) := by decide +kernel
theorem dX12_lineHere_153 : decode cX12_lineHere 153 = .ok (.aload_n 0, 1) := by decide +kernel
theorem dX12_lineHere_154 : decode cX12_lineHere 154 = .ok (.bipush 59, 2) := by decide +kernel
theorem dX12_lineHere_156 : decode cX12_lineHere 156 = .ok (.invokevirtual 164, 3) := by decide +kernel
theorem dX12_lineHere_159 : decode cX12_lineHere 159 = .ok (.iconst 1, 1) := by decide +kernel
theorem dX12_lineHere_160 : decode cX12_lineHere 160 = .ok (.invokevirtual 171, 3) := by decide +kernel
theorem dX12_lineHere_163 : decode cX12_lineHere 163 = .ok (.ifCond .ne 5, 3) := by decide +kernel
theorem dX12_lineHere_166 : decode cX12_lineHere 166 = .ok (.iconst 0, 1) := by decide +kernel
theorem dX12_lineHere_167 : decode cX12_lineHere 167 = .ok (.ireturn, 1) := by decide +kernel
theorem dX12_lineHere_168 : decode cX12_lineHere 168 = .ok (.aload_n 0, 1) := by decide +kernel
theorem dX12_lineHere_169 : decode cX12_lineHere 169 = .ok (.invokevirtual 168, 3) := by decide +kernel
theorem dX12_lineHere_172 : decode cX12_lineHere 172 = .ok (.aload_n 0, 1) := by decide +kernel
theorem dX12_lineHere_173 : decode cX12_lineHere 173 = .ok (.getfield 13, 3) := by decide +kernel
theorem dX12_lineHere_176 : decode cX12_lineHere 176 = .ok (.aload_n 0, 1) := by decide +kernel
theorem dX12_lineHere_177 : decode cX12_lineHere 177 = .ok (.getfield 158, 3) := by decide +kernel
theorem dX12_lineHere_180 : decode cX12_lineHere 180 = .ok (.dup2, 1) := by decide +kernel
theorem dX12_lineHere_181 : decode cX12_lineHere 181 = .ok (.iaload, 1) := by decide +kernel
theorem dX12_lineHere_182 : decode cX12_lineHere 182 = .ok (.iconst 1, 1) := by decide +kernel
theorem dX12_lineHere_183 : decode cX12_lineHere 183 = .ok (.iadd, 1) := by decide +kernel
theorem dX12_lineHere_184 : decode cX12_lineHere 184 = .ok (.iastore, 1) := by decide +kernel
theorem dX12_lineHere_185 : decode cX12_lineHere 185 = .ok (.iconst 1, 1) := by decide +kernel
theorem dX12_lineHere_186 : decode cX12_lineHere 186 = .ok (.ireturn, 1) := by decide +kernel
theorem dX12_text_0 : decode cX12_text 0 = .ok (.aload_n 0, 1) := by decide +kernel
theorem dX12_text_1 : decode cX12_text 1 = .ok (.iconst 0, 1) := by decide +kernel
theorem dX12_text_2 : decode cX12_text 2 = .ok (.putfield 75, 3) := by decide +kernel
theorem dX12_text_5 : decode cX12_text 5 = .ok (.iload_n 1, 1) := by decide +kernel
theorem dX12_text_6 : decode cX12_text 6 = .ok (.i2l, 1) := by decide +kernel
theorem dX12_text_7 : decode cX12_text 7 = .ok (.lconst 0, 1) := by decide +kernel
theorem dX12_text_8 : decode cX12_text 8 = .ok (.aload_n 0, 1) := by decide +kernel
theorem dX12_text_9 : decode cX12_text 9 = .ok (.getfield 79, 3) := by decide +kernel
theorem dX12_text_12 : decode cX12_text 12 = .ok (.i2l, 1) := by decide +kernel
theorem dX12_text_13 : decode cX12_text 13 = .ok (.invokestatic 113, 3) := by decide +kernel
theorem dX12_text_16 : decode cX12_text 16 = .ok (.ifCond .ne 5, 3) := by decide +kernel
theorem dX12_text_19 : decode cX12_text 19 = .ok (.iconst (-1), 1) := by decide +kernel
theorem dX12_text_20 : decode cX12_text 20 = .ok (.ireturn, 1) := by decide +kernel
theorem dX12_text_21 : decode cX12_text 21 = .ok (.aload_n 0, 1) := by decide +kernel
theorem dX12_text_22 : decode cX12_text 22 = .ok (.iconst 0, 1) := by decide +kernel
theorem dX12_text_23 : decode cX12_text 23 = .ok (.putfield 79, 3) := by decide +kernel
theorem dX12_text_26 : decode cX12_text 26 = .ok (.aload_n 0, 1) := by decide +kernel
theorem dX12_text_27 : decode cX12_text 27 = .ok (.iload_n 1, 1) := by decide +kernel
theorem dX12_text_28 : decode cX12_text 28 = .ok (.putfield 86, 3) := by decide +kernel
theorem dX12_text_31 : decode cX12_text 31 = .ok (.aload_n 0, 1) := by decide +kernel
theorem dX12_text_32 : decode cX12_text 32 = .ok (.iconst 0, 1) := by decide +kernel
theorem dX12_text_33 : decode cX12_text 33 = .ok (.putfield 89, 3) := by decide +kernel
theorem dX12_text_36 : decode cX12_text 36 = .ok (.aload_n 0, 1) := by decide +kernel
theorem dX12_text_37 : decode cX12_text 37 = .ok (.iconst 0, 1) := by decide +kernel
theorem dX12_text_38 : decode cX12_text 38 = .ok (.putfield 124, 3) := by decide +kernel
theorem dX12_text_41 : decode cX12_text 41 = .ok (.aload_n 0, 1) := by decide +kernel
theorem dX12_text_42 : decode cX12_text 42 = .ok (.iconst 1, 1) := by decide +kernel
theorem dX12_text_43 : decode cX12_text 43 = .ok (.putfield 158, 3) := by decide +kernel
theorem dX12_text_46 : decode cX12_text 46 = .ok (.aload_n 0, 1) := by decide +kernel
theorem dX12_text_47 : decode cX12_text 47 = .ok (.getfield 13, 3) := by decide +kernel
theorem dX12_text_50 : decode cX12_text 50 = .ok (.iconst 1, 1) := by decide +kernel
theorem dX12_text_51 : decode cX12_text 51 = .ok (.iconst 0, 1) := by decide +kernel
theorem dX12_text_52 : decode cX12_text 52 = .ok (.iastore, 1) := by decide +kernel
theorem dX12_text_53 : decode cX12_text 53 = .ok (.aload_n 0, 1) := by decide +kernel
theorem dX12_text_54 : decode cX12_text 54 = .ok (.invokevirtual 168, 3) := by decide +kernel
theorem dX12_text_57 : decode cX12_text 57 = .ok (.aload_n 0, 1) := by decide +kernel
theorem dX12_text_58 : decode cX12_text 58 = .ok (.invokevirtual 210, 3) := by decide +kernel
theorem dX12_text_61 : decode cX12_text 61 = .ok (.istore_n 2, 1) := by decide +kernel
theorem dX12_text_62 : decode cX12_text 62 = .ok (.iload_n 2, 1) := by decide +kernel
theorem dX12_text_63 : decode cX12_text 63 = .ok (.ifCond .eq 18, 3) := by decide +kernel
theorem dX12_text_66 : decode cX12_text 66 = .ok (.aload_n 0, 1) := by decide +kernel
theorem dX12_text_67 : decode cX12_text 67 = .ok (.getfield 99, 3) := by decide +kernel
theorem dX12_text_70 : decode cX12_text 70 = .ok (.ifCond .eq 11, 3) := by decide +kernel
theorem dX12_text_73 : decode cX12_text 73 = .ok (.aload_n 0, 1) := by decide +kernel
theorem dX12_text_74 : decode cX12_text 74 = .ok (.invokevirtual 210, 3) := by decide +kernel
theorem dX12_text_77 : decode cX12_text 77 = .ok (.istore_n 2, 1) := by decide +kernel
theorem dX12_text_78 : decode cX12_text 78 = .ok (.goto (-16), 3) := by decide +kernel
theorem dX12_text_81 : decode cX12_text 81 = .ok (.aload_n 0, 1) := by decide +kernel
theorem dX12_text_82 : decode cX12_text 82 = .ok (.iconst 0, 1) := by decide +kernel
theorem dX12_text_83 : decode cX12_text 83 = .ok (.putfield 158, 3) := by decide +kernel
theorem dX12_text_86 : decode cX12_text 86 = .ok (.iload_n 2, 1) := by decide +kernel
theorem dX12_text_87 : decode cX12_text 87 = .ok (.ifCond .ne 19, 3) := by decide +kernel
theorem dX12_text_90 : decode cX12_text 90 = .ok (.bipush (-2), 2) := by decide +kernel
theorem dX12_text_92 : decode cX12_text 92 = .ok (.bipush 8, 2) := by decide +kernel
theorem dX12_text_94 : decode cX12_text 94 = .ok (.aload_n 0, 1) := by decide +kernel
theorem dX12_text_95 : decode cX12_text 95 = .ok (.getfield 127, 3) := by decide +kernel
theorem dX12_text_98 : decode cX12_text 98 = .ok (.imul, 1) := by decide +kernel
theorem dX12_text_99 : decode cX12_text 99 = .ok (.aload_n 0, 1) := by decide +kernel
theorem dX12_text_100 : decode cX12_text 100 = .ok (.getfield 124, 3) := by decide +kernel
theorem dX12_text_103 : decode cX12_text 103 = .ok (.iadd, 1) := by decide +kernel
theorem dX12_text_104 : decode cX12_text 104 = .ok (.isub, 1) := by decide +kernel
theorem dX12_text_105 : decode cX12_text 105 = .ok (.ireturn, 1) := by decide +kernel
theorem dX12_text_106 : decode cX12_text 106 = .ok (.aload_n 0, 1) := by decide +kernel
theorem dX12_text_107 : decode cX12_text 107 = .ok (.getfield 13, 3) := by decide +kernel
theorem dX12_text_110 : decode cX12_text 110 = .ok (.iconst 0, 1) := by decide +kernel
theorem dX12_text_111 : decode cX12_text 111 = .ok (.aload_n 0, 1) := by decide +kernel
theorem dX12_text_112 : decode cX12_text 112 = .ok (.getfield 13, 3) := by decide +kernel
theorem dX12_text_115 : decode cX12_text 115 = .ok (.iconst 1, 1) := by decide +kernel
theorem dX12_text_116 : decode cX12_text 116 = .ok (.iaload, 1) := by decide +kernel
theorem dX12_text_117 : decode cX12_text 117 = .ok (.iastore, 1) := by decide +kernel
theorem dX12_text_118 : decode cX12_text 118 = .ok (.iconst 0, 1) := by decide +kernel
theorem dX12_text_119 : decode cX12_text 119 = .ok (.istore_n 3, 1) := by decide +kernel
theorem dX12_text_120 : decode cX12_text 120 = .ok (.iload_n 3, 1) := by decide +kernel
theorem dX12_text_121 : decode cX12_text 121 = .ok (.bipush 8, 2) := by decide +kernel
theorem dX12_text_123 : decode cX12_text 123 = .ok (.if_icmp .ge 69, 3) := by decide +kernel
theorem dX12_text_126 : decode cX12_text 126 = .ok (.aload_n 0, 1) := by decide +kernel
theorem dX12_text_127 : decode cX12_text 127 = .ok (.getfield 17, 3) := by decide +kernel
theorem dX12_text_130 : decode cX12_text 130 = .ok (.iload_n 3, 1) := by decide +kernel
theorem dX12_text_131 : decode cX12_text 131 = .ok (.aload_n 0, 1) := by decide +kernel
theorem dX12_text_132 : decode cX12_text 132 = .ok (.getfield 17, 3) := by decide +kernel
theorem dX12_text_135 : decode cX12_text 135 = .ok (.bipush 8, 2) := by decide +kernel
theorem dX12_text_137 : decode cX12_text 137 = .ok (.iload_n 3, 1) := by decide +kernel
theorem dX12_text_138 : decode cX12_text 138 = .ok (.iadd, 1) := by decide +kernel
theorem dX12_text_139 : decode cX12_text 139 = .ok (.laload, 1) := by decide +kernel
theorem dX12_text_140 : decode cX12_text 140 = .ok (.lastore, 1) := by decide +kernel
theorem dX12_text_141 : decode cX12_text 141 = .ok (.aload_n 0, 1) := by decide +kernel
theorem dX12_text_142 : decode cX12_text 142 = .ok (.getfield 21, 3) := by decide +kernel
theorem dX12_text_145 : decode cX12_text 145 = .ok (.iload_n 3, 1) := by decide +kernel
theorem dX12_text_146 : decode cX12_text 146 = .ok (.aload_n 0, 1) := by decide +kernel
theorem dX12_text_147 : decode cX12_text 147 = .ok (.getfield 21, 3) := by decide +kernel
theorem dX12_text_150 : decode cX12_text 150 = .ok (.bipush 8, 2) := by decide +kernel
theorem dX12_text_152 : decode cX12_text 152 = .ok (.iload_n 3, 1) := by decide +kernel
theorem dX12_text_153 : decode cX12_text 153 = .ok (.iadd, 1) := by decide +kernel
theorem dX12_text_154 : decode cX12_text 154 = .ok (.iaload, 1) := by decide +kernel
theorem dX12_text_155 : decode cX12_text 155 = .ok (.iastore, 1) := by decide +kernel
theorem dX12_text_156 : decode cX12_text 156 = .ok (.aload_n 0, 1) := by decide +kernel
theorem dX12_text_157 : decode cX12_text 157 = .ok (.getfield 24, 3) := by decide +kernel
theorem dX12_text_160 : decode cX12_text 160 = .ok (.iload_n 3, 1) := by decide +kernel
theorem dX12_text_161 : decode cX12_text 161 = .ok (.aload_n 0, 1) := by decide +kernel
theorem dX12_text_162 : decode cX12_text 162 = .ok (.getfield 24, 3) := by decide +kernel
theorem dX12_text_165 : decode cX12_text 165 = .ok (.bipush 8, 2) := by decide +kernel
theorem dX12_text_167 : decode cX12_text 167 = .ok (.iload_n 3, 1) := by decide +kernel
theorem dX12_text_168 : decode cX12_text 168 = .ok (.iadd, 1) := by decide +kernel
theorem dX12_text_169 : decode cX12_text 169 = .ok (.iaload, 1) := by decide +kernel
theorem dX12_text_170 : decode cX12_text 170 = .ok (.iastore, 1) := by decide +kernel
theorem dX12_text_171 : decode cX12_text 171 = .ok (.aload_n 0, 1) := by decide +kernel
theorem dX12_text_172 : decode cX12_text 172 = .ok (.getfield 27, 3) := by decide +kernel
theorem dX12_text_175 : decode cX12_text 175 = .ok (.iload_n 3, 1) := by decide +kernel
theorem dX12_text_176 : decode cX12_text 176 = .ok (.aload_n 0, 1) := by decide +kernel
theorem dX12_text_177 : decode cX12_text 177 = .ok (.getfield 27, 3) := by decide +kernel
theorem dX12_text_180 : decode cX12_text 180 = .ok (.bipush 8, 2) := by decide +kernel
theorem dX12_text_182 : decode cX12_text 182 = .ok (.iload_n 3, 1) := by decide +kernel
theorem dX12_text_183 : decode cX12_text 183 = .ok (.iadd, 1) := by decide +kernel
theorem dX12_text_184 : decode cX12_text 184 = .ok (.iaload, 1) := by decide +kernel
theorem dX12_text_185 : decode cX12_text 185 = .ok (.iastore, 1) := by decide +kernel
theorem dX12_text_186 : decode cX12_text 186 = .ok (.iinc 3 1, 3) := by decide +kernel
theorem dX12_text_189 : decode cX12_text 189 = .ok (.goto (-69), 3) := by decide +kernel
theorem dX12_text_192 : decode cX12_text 192 = .ok (.iconst 0, 1) := by decide +kernel
theorem dX12_text_193 : decode cX12_text 193 = .ok (.istore_n 3, 1) := by decide +kernel
theorem dX12_text_194 : decode cX12_text 194 = .ok (.iload_n 3, 1) := by decide +kernel
theorem dX12_text_195 : decode cX12_text 195 = .ok (.bipush 32, 2) := by decide +kernel
theorem dX12_text_197 : decode cX12_text 197 = .ok (.if_icmp .ge 39, 3) := by decide +kernel
theorem dX12_text_200 : decode cX12_text 200 = .ok (.aload_n 0, 1) := by decide +kernel
theorem dX12_text_201 : decode cX12_text 201 = .ok (.getfield 30, 3) := by decide +kernel
theorem dX12_text_204 : decode cX12_text 204 = .ok (.iload_n 3, 1) := by decide +kernel
theorem dX12_text_205 : decode cX12_text 205 = .ok (.aload_n 0, 1) := by decide +kernel
theorem dX12_text_206 : decode cX12_text 206 = .ok (.getfield 30, 3) := by decide +kernel
theorem dX12_text_209 : decode cX12_text 209 = .ok (.bipush 32, 2) := by decide +kernel
theorem dX12_text_211 : decode cX12_text 211 = .ok (.iload_n 3, 1) := by decide +kernel
theorem dX12_text_212 : decode cX12_text 212 = .ok (.iadd, 1) := by decide +kernel
theorem dX12_text_213 : decode cX12_text 213 = .ok (.iaload, 1) := by decide +kernel
theorem dX12_text_214 : decode cX12_text 214 = .ok (.iastore, 1) := by decide +kernel
theorem dX12_text_215 : decode cX12_text 215 = .ok (.aload_n 0, 1) := by decide +kernel
theorem dX12_text_216 : decode cX12_text 216 = .ok (.getfield 33, 3) := by decide +kernel
theorem dX12_text_219 : decode cX12_text 219 = .ok (.iload_n 3, 1) := by decide +kernel
theorem dX12_text_220 : decode cX12_text 220 = .ok (.aload_n 0, 1) := by decide +kernel
theorem dX12_text_221 : decode cX12_text 221 = .ok (.getfield 33, 3) := by decide +kernel
theorem dX12_text_224 : decode cX12_text 224 = .ok (.bipush 32, 2) := by decide +kernel
theorem dX12_text_226 : decode cX12_text 226 = .ok (.iload_n 3, 1) := by decide +kernel
theorem dX12_text_227 : decode cX12_text 227 = .ok (.iadd, 1) := by decide +kernel
theorem dX12_text_228 : decode cX12_text 228 = .ok (.iaload, 1) := by decide +kernel
theorem dX12_text_229 : decode cX12_text 229 = .ok (.iastore, 1) := by decide +kernel
theorem dX12_text_230 : decode cX12_text 230 = .ok (.iinc 3 1, 3) := by decide +kernel
theorem dX12_text_233 : decode cX12_text 233 = .ok (.goto (-39), 3) := by decide +kernel
theorem dX12_text_236 : decode cX12_text 236 = .ok (.aload_n 0, 1) := by decide +kernel
theorem dX12_text_237 : decode cX12_text 237 = .ok (.iconst 0, 1) := by decide +kernel
theorem dX12_text_238 : decode cX12_text 238 = .ok (.putfield 213, 3) := by decide +kernel
theorem dX12_text_241 : decode cX12_text 241 = .ok (.iconst 0, 1) := by decide +kernel
theorem dX12_text_242 : decode cX12_text 242 = .ok (.istore_n 3, 1) := by decide +kernel
theorem dX12_text_243 : decode cX12_text 243 = .ok (.iload_n 3, 1) := by decide +kernel
theorem dX12_text_244 : decode cX12_text 244 = .ok (.aload_n 0, 1) := by decide +kernel
theorem dX12_text_245 : decode cX12_text 245 = .ok (.getfield 13, 3) := by decide +kernel
theorem dX12_text_248 : decode cX12_text 248 = .ok (.iconst 0, 1) := by decide +kernel
theorem dX12_text_249 : decode cX12_text 249 = .ok (.iaload, 1) := by decide +kernel
theorem dX12_text_250 : decode cX12_text 250 = .ok (.if_icmp .ge 14, 3) := by decide +kernel
theorem dX12_text_253 : decode cX12_text 253 = .ok (.aload_n 0, 1) := by decide +kernel
theorem dX12_text_254 : decode cX12_text 254 = .ok (.iload_n 3, 1) := by decide +kernel
theorem dX12_text_255 : decode cX12_text 255 = .ok (.invokevirtual 216, 3) := by decide +kernel
theorem dX12_text_258 : decode cX12_text 258 = .ok (.iinc 3 1, 3) := by decide +kernel
theorem dX12_text_261 : decode cX12_text 261 = .ok (.goto (-18), 3) := by decide +kernel
theorem dX12_text_264 : decode cX12_text 264 = .ok (.aload_n 0, 1) := by decide +kernel
theorem dX12_text_265 : decode cX12_text 265 = .ok (.getfield 13, 3) := by decide +kernel
theorem dX12_text_268 : decode cX12_text 268 = .ok (.iconst 0, 1) := by decide +kernel
theorem dX12_text_269 : decode cX12_text 269 = .ok (.iaload, 1) := by decide +kernel
theorem dX12_text_270 : decode cX12_text 270 = .ok (.ireturn, 1) := by decide +kernel
def mX10_isWord_B64 (v0 : Nat) (v1 : Nat) (v2 : Int) (σ : mSt) : Option (Int × mSt) := mG (v2 = 0 ∨ v2 = 1) <| some (v2, σ)
def mX10_isWord_L27 (v0 : Nat) (v1 : Nat) (x64 : Int → mSt → Option (Int × mSt)) : Nat → Int → Int → mSt → Option (Int × mSt)
  | 0, _, _, _ => none
  | n + 1, v2, v3, σ => mG (v1 < 3) <| if wI ((mXLen.getD v1 0 : Nat) : Int) ≤ wI v3 then (x64 v2 σ) else if wI v2 = 0 then (x64 v2 σ) else mG (v1 < 3 ∧ 0 ≤ wI v3 ∧ wI v3 < ((mXLen.getD v1 0 : Nat) : Int)) <| mCall (mX10_byteAt v0 v3 σ) fun b6 s7 => if wI (((mXByt.getD v1 []).getD (wI v3).toNat 0).toInt) = wI b6 then (bnd (v3 + 1) fun a12 => mX10_isWord_L27 v0 v1 x64 n 1 a12 s7) else bnd (v3 + 1) fun a10 => mX10_isWord_L27 v0 v1 x64 n 0 a10 s7
def mX10_isWord_B24 (v0 : Nat) (v1 : Nat) (t0 : Int) (σ : mSt) : Option (Int × mSt) := mX10_isWord_L27 v0 v1 (fun z2 zσ => mX10_isWord_B64 v0 v1 z2 zσ) mF t0 0 σ
def mX10_isWord_B23 (v0 : Nat) (v1 : Nat) (σ : mSt) : Option (Int × mSt) := mX10_isWord_B24 v0 v1 0 σ
def mX10_isWord (v0 : Nat) (v1 : Nat) (σ : mSt) : Option (Int × mSt) := mG (isC v0 9) <| if wI (σ v0 4) = 1 then (mG (v1 < 3) <| mCall (mX10_length v0 σ) fun b16 s17 => if wI ((mXLen.getD v1 0 : Nat) : Int) = wI b16 then (mX10_isWord_B24 v0 v1 1 s17) else mX10_isWord_B23 v0 v1 s17) else mX10_isWord_B23 v0 v1 σ
def mX10_lineKind (v0 : Nat) (σ : mSt) : Option (Int × mSt) := mG (isC v0 9) <| mCall (mX10_isWord v0 0 σ) fun b1 s2 => if wI b1 = 0 then (mCall (mX10_isWord v0 1 s2) fun b5 s6 => if wI b5 = 0 then (mCall (mX10_isWord v0 2 s6) fun b9 s10 => if wI b9 = 0 then (some ((-1), s10)) else some (2, s10)) else some (1, s6)) else some (0, s2)
def mX10_isName_B20 (v0 : Nat) (σ : mSt) : Option (Int × mSt) := some (0, σ)
def mX10_isName (v0 : Nat) (σ : mSt) : Option (Int × mSt) := mG (isC v0 9) <| if wI (σ v0 4) = 1 then (mCall (mX10_lineKind v0 σ) fun b2 s3 => if wI b2 = (-1) then (some (1, s3)) else mX10_isName_B20 v0 s3) else mX10_isName_B20 v0 σ
def mX8_readNewName (v0 : Nat) (v1 : Int) (σ : mSt) : Option (Int × mSt) := mG (isC v0 7) <| mRef (σ v0 0) fun r1 => mCall (mX10_isName r1 σ) fun b3 s4 => if wI b3 = 0 then (mCall (mX8_refuse v0 1 s4) fun b31 s32 => mG (b31 = 0 ∨ b31 = 1) <| some (b31, s32)) else mRef (s4 v0 1) fun r7 => mRef (s4 v0 0) fun r9 => mCall (mX0_find r7 r9 s4) fun b11 s12 => if wI b11 = (-1) then (mRef (s12 v0 1) fun r15 => mRef (s12 v0 0) fun r17 => mCall (mX0_begin r15 v1 r17 s12) fun b19 s20 => mRef (s20 v0 0) fun r22 => mCall (mX10_step r22 s20) fun b24 s25 => some (1, s25)) else mCall (mX8_refuse v0 2 s12) fun b27 s28 => mG (b27 = 0 ∨ b27 = 1) <| some (b27, s28)
def mX8_readTerms_B128 (v0 : Nat) (σ : mSt) : Option (Int × mSt) := some (1, σ)
def mX8_readTerms_B59 (v0 : Nat) (c15 : Int → mSt → Option (Int × mSt)) (x128 : mSt → Option (Int × mSt)) (v1 : Int) (t0 : Int) (σ : mSt) : Option (Int × mSt) := mRef (σ v0 0) fun r1 => mCall (mX10_step r1 σ) fun b3 s4 => mRef (s4 v0 0) fun r6 => mCall (mX10_isName r6 s4) fun b8 s9 => if wI b8 = 0 then (mCall (mX8_refuse v0 1 s9) fun b36 s37 => mG (b36 = 0 ∨ b36 = 1) <| some (b36, s37)) else mRef (s9 v0 1) fun r12 => mRef (s9 v0 0) fun r14 => mCall (mX0_find r12 r14 s9) fun b16 s17 => if wI b16 = (-1) then (mCall (mX8_refuse v0 3 s17) fun b32 s33 => mG (b32 = 0 ∨ b32 = 1) <| some (b32, s33)) else mRef (s17 v0 1) fun r20 => mCall (mX0_addTerm r20 t0 b16 s17) fun b22 s23 => mRef (s23 v0 0) fun r25 => mCall (mX10_step r25 s23) fun b27 s28 => bnd (v1 + 1) fun a30 => c15 a30 s28
def mX8_readTerms_L15 (v0 : Nat) (x128 : mSt → Option (Int × mSt)) : Nat → Int → mSt → Option (Int × mSt)
  | 0, _, _ => none
  | n + 1, v1, σ => if 4 < wI v1 then (x128 σ) else mCall (mX8_isSign v0 σ) fun b41 s42 => if wI b41 = 0 then (x128 s42) else mRef (s42 v0 1) fun r45 => mCall (mX0_hasAllTerms r45 s42) fun b47 s48 => if wI b47 = 0 then (mRef (s48 v0 0) fun r51 => mCall (mX10_is r51 4 s48) fun b53 s54 => if wI b53 = 0 then (mX8_readTerms_B59 v0 (mX8_readTerms_L15 v0 x128 n) x128 v1 1 s54) else mX8_readTerms_B59 v0 (mX8_readTerms_L15 v0 x128 n) x128 v1 (-1) s54) else mCall (mX8_refuse v0 5 s48) fun b57 s58 => mG (b57 = 0 ∨ b57 = 1) <| some (b57, s58)
def mX8_readTerms (v0 : Nat) (σ : mSt) : Option (Int × mSt) := mG (isC v0 7) <| mCall (mX8_isSign v0 σ) fun b61 s62 => if wI b61 = 0 then (mCall (mX8_refuse v0 1 s62) fun b65 s66 => mG (b65 = 0 ∨ b65 = 1) <| some (b65, s66)) else mX8_readTerms_L15 v0 (fun zσ => mX8_readTerms_B128 v0 zσ) mF 0 s62
def mX8_readLine_B90 (v0 : Nat) (σ : mSt) : Option (Int × mSt) := mRef (σ v0 0) fun r1 => mCall (mX10_is r1 5 σ) fun b3 s4 => if wI b3 = 0 then (mCall (mX8_refuse v0 1 s4) fun b17 s18 => mG (b17 = 0 ∨ b17 = 1) <| some (b17, s18)) else mRef (s4 v0 0) fun r7 => mCall (mX10_step r7 s4) fun b9 s10 => mRef (s10 v0 1) fun r12 => mCall (mX0_finish r12 s10) fun b14 s15 => some (1, s15)
def mX8_readLine (v0 : Nat) (σ : mSt) : Option (Int × mSt) := mG (isC v0 7) <| mRef (σ v0 0) fun r21 => mCall (mX10_lineKind r21 σ) fun b23 s24 => if wI b23 = (-1) then (mCall (mX8_refuse v0 1 s24) fun b60 s61 => mG (b60 = 0 ∨ b60 = 1) <| some (b60, s61)) else mRef (s24 v0 1) fun r27 => mCall (mX0_isFull r27 s24) fun b29 s30 => if wI b29 = 0 then (mRef (s30 v0 0) fun r33 => mCall (mX10_step r33 s30) fun b35 s36 => mCall (mX8_readNewName v0 b23 s36) fun b38 s39 => if wI b38 = 0 then (some (0, s39)) else if wI b23 = 0 then (mCall (mX8_readSides v0 s39) fun b52 s53 => if wI b52 = 0 then (some (0, s53)) else mX8_readLine_B90 v0 s53) else if wI b23 = 1 then (mCall (mX8_readField v0 s39) fun b48 s49 => if wI b48 = 0 then (some (0, s49)) else mX8_readLine_B90 v0 s49) else mCall (mX8_readTerms v0 s39) fun b44 s45 => if wI b44 = 0 then (some (0, s45)) else mX8_readLine_B90 v0 s45) else mCall (mX8_refuse v0 5 s30) fun b56 s57 => mG (b56 = 0 ∨ b56 = 1) <| some (b56, s57)
def mX8_readText_B75 (v0 : Nat) (v1 : Nat) (v2 : Int) (v3 : Nat) (σ : mSt) : Option (Int × mSt) := some (σ v0 2, σ)
def mX8_readText_B66 (v0 : Nat) (v1 : Nat) (v2 : Int) (v3 : Nat) (c32 : Int → Int → mSt → Option (Int × mSt)) (x75 : mSt → Option (Int × mSt)) (v5 : Int) (σ : mSt) : Option (Int × mSt) := bnd (v5 + 1) fun a1 => c32 0 a1 σ
def mX8_readText_L32 (v0 : Nat) (v1 : Nat) (v2 : Int) (v3 : Nat) (x75 : mSt → Option (Int × mSt)) : Nat → Int → Int → mSt → Option (Int × mSt)
  | 0, _, _, _ => none
  | n + 1, v4, v5, σ => if 8 < wI v5 then (x75 σ) else if wI v4 = 0 then (x75 σ) else mCall (mX8_readLine v0 σ) fun b5 s6 => if wI b5 = 0 then (mX8_readText_B66 v0 v1 v2 v3 (mX8_readText_L32 v0 v1 v2 v3 x75 n) x75 v5 s6) else mRef (s6 v0 0) fun r9 => mCall (mX10_is r9 0 s6) fun b11 s12 => if wI b11 = 0 then (bnd (v5 + 1) fun a15 => mX8_readText_L32 v0 v1 v2 v3 x75 n 1 a15 s12) else mX8_readText_B66 v0 v1 v2 v3 (mX8_readText_L32 v0 v1 v2 v3 x75 n) x75 v5 s12
def mX8_readText (v0 : Nat) (v1 : Nat) (v2 : Int) (v3 : Nat) (σ : mSt) : Option (Int × mSt) := mG (isC v0 7) <| mG (v3 ≠ 0) <| bnd (upS σ v0 1 (v3 : Int)) fun s18 => mRef (s18 v0 1) fun r20 => mCall (mX0_clear r20 s18) fun b22 s23 => bnd (upS s23 v0 2 0) fun s25 => mRef (s25 v0 0) fun r27 => mCall (mX10_begin r27 v1 v2 s25) fun b29 s30 => mX8_readText_L32 v0 v1 v2 v3 (fun zσ => mX8_readText_B75 v0 v1 v2 v3 zσ) mF 1 0 s30
def mX11_text (v0 : Nat) (v1 : Int) (σ : mSt) : Option (Int × mSt) := mG (isC v0 10) <| if wI v1 < 0 then (some ((-1), σ)) else if wI v1 ≤ wI (σ v0 1) then (mRef (σ v0 2) fun r3 => mRef (σ v0 0) fun r5 => mRef (σ v0 4) fun r7 => mCall (mX8_readText r3 r5 v1 r7 σ) fun b9 s10 => bnd (upS s10 v0 1 0) fun s12 => if wI b9 = 0 then (mRef (s12 v0 3) fun r15 => mRef (s12 v0 4) fun r17 => mG (r17 ≠ 0) <| bnd (upS s12 v0 3 (r17 : Int)) fun s20 => mG (r15 ≠ 0) <| bnd (upS s20 v0 4 (r15 : Int)) fun s23 => mCall (mX11_beginAnew v0 s23) fun b25 s26 => mRef (s26 v0 3) fun r28 => mCall (mX0_size r28 s26) fun b30 s31 => some (b30, s31)) else some ((-2) - b9, s12)) else some ((-1), σ)
def mX12_spelled_B33 (v0 : Nat) (v1 : Int) (σ : mSt) : Option (Int × mSt) := some (v1, σ)
def mX12_spelled_L4 (v0 : Nat) (x33 : Int → mSt → Option (Int × mSt)) : Nat → Int → Int → mSt → Option (Int × mSt)
  | 0, _, _, _ => none
  | n + 1, v1, v3, σ => mG (v0 < 3) <| if wI ((mXLen.getD v0 0 : Nat) : Int) ≤ wI v3 then (x33 v1 σ) else mG (v0 < 3 ∧ 0 ≤ wI v3 ∧ wI v3 < ((mXLen.getD v0 0 : Nat) : Int)) <| bnd (oOrL (oShlL v1 5) ((wI (((mXByt.getD v0 []).getD (wI v3).toNat 0).toInt)) - 96)) fun a4 => bnd (v3 + 1) fun a6 => mX12_spelled_L4 v0 x33 n a4 a6 σ
def mX12_spelled (v0 : Nat) (σ : mSt) : Option (Int × mSt) := mX12_spelled_L4 v0 (fun z1 zσ => mX12_spelled_B33 v0 z1 zσ) mF 0 0 σ
def mX12_is_B24 (v0 : Nat) (v1 : Nat) (σ : mSt) : Option (Int × mSt) := some (0, σ)
def mX12_is (v0 : Nat) (v1 : Nat) (σ : mSt) : Option (Int × mSt) := mG (isC v0 11) <| if wI (σ v0 6) = 1 then (mCall (mX12_spelled v1 σ) fun b2 s3 => if wL (σ v0 8) = wL b2 then (some (1, s3)) else mX12_is_B24 v0 v1 s3) else mX12_is_B24 v0 v1 σ
def mX12_isName_B39 (v0 : Nat) (σ : mSt) : Option (Int × mSt) := some (0, σ)
def mX12_isName (v0 : Nat) (σ : mSt) : Option (Int × mSt) := mG (isC v0 11) <| if wI (σ v0 6) = 1 then (mCall (mX12_is v0 0 σ) fun b2 s3 => if wI b2 = 0 then (mCall (mX12_is v0 1 s3) fun b6 s7 => if wI b6 = 0 then (mCall (mX12_is v0 2 s7) fun b10 s11 => if wI b10 = 0 then (some (1, s11)) else mX12_isName_B39 v0 s11) else mX12_isName_B39 v0 s7) else mX12_isName_B39 v0 s3) else mX12_isName_B39 v0 σ
def mX12_newName_B33 (v0 : Nat) (t0 : Nat) (t1 : Int) (σ : mSt) : Option (Int × mSt) := mCall (mX12_must t0 t1 2 σ) fun b1 s2 => if wI b1 = 0 then (some (0, s2)) else mRef (s2 v0 13) fun r5 => mRef (s2 v0 12) fun r7 => mG (ixOK r7 20 (s2 v0 11)) <| mCall (mX12_at v0 (s2 r7 (wI (s2 v0 11)).toNat) s2) fun b10 s11 => mG (ixOK r5 21 b10) <| bnd (upS s11 r5 (wI b10).toNat (s11 v0 8)) fun s14 => mCall (mX12_steps v0 s14) fun b16 s17 => some (1, s17)
def mX12_newName (v0 : Nat) (σ : mSt) : Option (Int × mSt) := mG (isC v0 11) <| mCall (mX12_steps v0 σ) fun b19 s20 => mCall (mX12_isName v0 s20) fun b22 s23 => mCall (mX12_must v0 b22 1 s23) fun b25 s26 => if wI b25 = 0 then (some (0, s26)) else mCall (mX12_named v0 (s26 v0 8) s26) fun b29 s30 => if 0 ≤ wI b29 then (mX12_newName_B33 v0 v0 0 s30) else mX12_newName_B33 v0 v0 1 s30
def mX12_sumLine_B175 (v0 : Nat) (v1 : Int) (v2 : Int) (σ : mSt) : Option (Int × mSt) := mRef (σ v0 15) fun r1 => mCall (mX12_at v0 v1 σ) fun b3 s4 => mG (ixOK r1 20 b3) <| bnd (upS s4 r1 (wI b3).toNat v2) fun s7 => mRef (s7 v0 16) fun r9 => mCall (mX12_at v0 v1 s7) fun b11 s12 => mG (ixOK r9 20 b11) <| bnd (upS s12 r9 (wI b11).toNat 0) fun s15 => some (1, s15)
def mX12_sumLine_B134 (v0 : Nat) (v1 : Int) (c35 : Int → mSt → Option (Int × mSt)) (x175 : Int → mSt → Option (Int × mSt)) (v2 : Int) (t0 : Nat) (t1 : Int) (σ : mSt) : Option (Int × mSt) := mCall (mX12_must t0 t1 3 σ) fun b17 s18 => if wI b17 = 0 then (some (0, s18)) else mRef (s18 v0 18) fun r21 => mCall (mX12_at v0 v1 s18) fun b23 s24 => mCall (mX12_named v0 (s24 v0 8) s24) fun b26 s27 => mG (ixOK r21 20 ((4 * b23) + v2)) <| bnd (upS s27 r21 (wI ((4 * b23) + v2)).toNat b26) fun s30 => mCall (mX12_steps v0 s30) fun b32 s33 => bnd (v2 + 1) fun a35 => c35 a35 s33
def mX12_sumLine_B100 (v0 : Nat) (v1 : Int) (c35 : Int → mSt → Option (Int × mSt)) (x175 : Int → mSt → Option (Int × mSt)) (v2 : Int) (t0 : Nat) (t1 : Int) (t2 : Int) (σ : mSt) : Option (Int × mSt) := mG (ixOK t0 20 t1) <| bnd (upS σ t0 (wI t1).toNat t2) fun s38 => mCall (mX12_steps v0 s38) fun b40 s41 => mCall (mX12_isName v0 s41) fun b43 s44 => mCall (mX12_must v0 b43 1 s44) fun b46 s47 => if wI b46 = 0 then (some (0, s47)) else mCall (mX12_named v0 (s47 v0 8) s47) fun b50 s51 => if wI b50 < 0 then (mX12_sumLine_B134 v0 v1 c35 x175 v2 v0 0 s51) else mX12_sumLine_B134 v0 v1 c35 x175 v2 v0 1 s51
def mX12_sumLine_B64 (v0 : Nat) (v1 : Int) (c35 : Int → mSt → Option (Int × mSt)) (x175 : Int → mSt → Option (Int × mSt)) (v2 : Int) (t0 : Nat) (t1 : Int) (σ : mSt) : Option (Int × mSt) := mCall (mX12_must t0 t1 5 σ) fun b54 s55 => if wI b54 = 0 then (some (0, s55)) else mRef (s55 v0 17) fun r58 => mCall (mX12_at v0 v1 s55) fun b60 s61 => mCall (mX12_isSign v0 43 s61) fun b63 s64 => if wI b63 = 0 then (mX12_sumLine_B100 v0 v1 c35 x175 v2 r58 ((4 * b60) + v2) (-1) s64) else mX12_sumLine_B100 v0 v1 c35 x175 v2 r58 ((4 * b60) + v2) 1 s64
def mX12_sumLine_B53 (v0 : Nat) (v1 : Int) (c35 : Int → mSt → Option (Int × mSt)) (x175 : Int → mSt → Option (Int × mSt)) (v2 : Int) (σ : mSt) : Option (Int × mSt) := if 4 ≤ wI v2 then (mX12_sumLine_B64 v0 v1 c35 x175 v2 v0 0 σ) else mX12_sumLine_B64 v0 v1 c35 x175 v2 v0 1 σ
def mX12_sumLine_L35 (v0 : Nat) (v1 : Int) (x175 : Int → mSt → Option (Int × mSt)) : Nat → Int → mSt → Option (Int × mSt)
  | 0, _, _ => none
  | n + 1, v2, σ => mCall (mX12_isSign v0 43 σ) fun b68 s69 => if wI b68 = 0 then (mCall (mX12_isSign v0 45 s69) fun b72 s73 => if wI b72 = 0 then (x175 v2 s73) else mX12_sumLine_B53 v0 v1 (mX12_sumLine_L35 v0 v1 x175 n) x175 v2 s73) else mX12_sumLine_B53 v0 v1 (mX12_sumLine_L35 v0 v1 x175 n) x175 v2 s69
def mX12_sumLine_B26 (v0 : Nat) (v1 : Int) (v2 : Int) (t0 : Nat) (t1 : Int) (σ : mSt) : Option (Int × mSt) := mCall (mX12_must t0 t1 1 σ) fun b76 s77 => if wI b76 = 0 then (some (0, s77)) else mX12_sumLine_L35 v0 v1 (fun z2 zσ => mX12_sumLine_B175 v0 v1 z2 zσ) mF v2 s77
def mX12_sumLine_B21 (v0 : Nat) (v1 : Int) (v2 : Int) (t0 : Nat) (σ : mSt) : Option (Int × mSt) := mX12_sumLine_B26 v0 v1 v2 t0 1 σ
def mX12_sumLine (v0 : Nat) (v1 : Int) (σ : mSt) : Option (Int × mSt) := mG (isC v0 11) <| mCall (mX12_isSign v0 43 σ) fun b80 s81 => if wI b80 = 0 then (mCall (mX12_isSign v0 45 s81) fun b84 s85 => if wI b84 = 0 then (mX12_sumLine_B26 v0 v1 0 v0 0 s85) else mX12_sumLine_B21 v0 v1 0 v0 s85) else mX12_sumLine_B21 v0 v1 0 v0 s81
def mX12_lineHere_B147 (v0 : Nat) (t0 : Int) (σ : mSt) : Option (Int × mSt) := if wI t0 = 0 then (some (0, σ)) else mCall (mX12_isSign v0 59 σ) fun b2 s3 => mCall (mX12_must v0 b2 1 s3) fun b5 s6 => if wI b5 = 0 then (some (0, s6)) else mCall (mX12_steps v0 s6) fun b9 s10 => mRef (s10 v0 12) fun r12 => mG (ixOK r12 20 (s10 v0 11)) <| bnd (upS s10 r12 (wI (s10 v0 11)).toNat ((s10 r12 (wI (s10 v0 11)).toNat) + 1)) fun s15 => some (1, s15)
def mX12_lineHere_B78 (v0 : Nat) (v1 : Int) (t0 : Nat) (t1 : Int) (σ : mSt) : Option (Int × mSt) := mCall (mX12_must t0 t1 5 σ) fun b17 s18 => if wI b17 = 0 then (some (0, s18)) else mCall (mX12_newName v0 s18) fun b21 s22 => if wI b21 = 0 then (some (0, s22)) else mRef (s22 v0 12) fun r25 => mG (ixOK r25 20 (s22 v0 11)) <| bnd (s22 r25 (wI (s22 v0 11)).toNat) fun a28 => mRef (s22 v0 14) fun r30 => mCall (mX12_at v0 a28 s22) fun b32 s33 => mG (ixOK r30 20 b32) <| bnd (upS s33 r30 (wI b32).toNat v1) fun s36 => if wI v1 = 0 then (mCall (mX12_quaternionLine v0 a28 s36) fun b46 s47 => mX12_lineHere_B147 v0 b46 s47) else if wI v1 = 1 then (mCall (mX12_cyclicLine v0 a28 s36) fun b43 s44 => mX12_lineHere_B147 v0 b43 s44) else mCall (mX12_sumLine v0 a28 s36) fun b40 s41 => mX12_lineHere_B147 v0 b40 s41
def mX12_lineHere_B51 (v0 : Nat) (v1 : Int) (t0 : Nat) (t1 : Int) (σ : mSt) : Option (Int × mSt) := mCall (mX12_must t0 t1 1 σ) fun b49 s50 => if wI b49 = 0 then (some (0, s50)) else mRef (s50 v0 12) fun r53 => mG (ixOK r53 20 (s50 v0 11)) <| if 8 ≤ wI (s50 r53 (wI (s50 v0 11)).toNat) then (mX12_lineHere_B78 v0 v1 v0 0 s50) else mX12_lineHere_B78 v0 v1 v0 1 s50
def mX12_lineHere_B40 (v0 : Nat) (t0 : Int) (σ : mSt) : Option (Int × mSt) := if wI t0 < 0 then (mX12_lineHere_B51 v0 t0 v0 0 σ) else mX12_lineHere_B51 v0 t0 v0 1 σ
def mX12_lineHere (v0 : Nat) (σ : mSt) : Option (Int × mSt) := mG (isC v0 11) <| mCall (mX12_is v0 0 σ) fun b58 s59 => if wI b58 = 0 then (mCall (mX12_is v0 1 s59) fun b62 s63 => if wI b62 = 0 then (mCall (mX12_is v0 2 s63) fun b66 s67 => if wI b66 = 0 then (mX12_lineHere_B40 v0 (-1) s67) else mX12_lineHere_B40 v0 2 s67) else mX12_lineHere_B40 v0 1 s63) else mX12_lineHere_B40 v0 0 s59
def mX12_text_B264 (v0 : Nat) (v1 : Int) (σ : mSt) : Option (Int × mSt) := mRef (σ v0 12) fun r1 => mG (ixOK r1 20 0) <| some (σ r1 0, σ)
def mX12_text_L243 (v0 : Nat) (v1 : Int) (x264 : mSt → Option (Int × mSt)) : Nat → Int → mSt → Option (Int × mSt)
  | 0, _, _ => none
  | n + 1, v3, σ => mRef (σ v0 12) fun r4 => mG (ixOK r4 20 0) <| if wI (σ r4 0) ≤ wI v3 then (x264 σ) else mCall (mX12_laysPlain v0 v3 σ) fun b8 s9 => bnd (v3 + 1) fun a11 => mX12_text_L243 v0 v1 x264 n a11 s9
def mX12_text_B236 (v0 : Nat) (v1 : Int) (σ : mSt) : Option (Int × mSt) := bnd (upS σ v0 21 0) fun s13 => mX12_text_L243 v0 v1 (fun zσ => mX12_text_B264 v0 v1 zσ) mF 0 s13
def mX12_text_L194 (v0 : Nat) (v1 : Int) (x236 : mSt → Option (Int × mSt)) : Nat → Int → mSt → Option (Int × mSt)
  | 0, _, _ => none
  | n + 1, v3, σ => if 32 ≤ wI v3 then (x236 σ) else mRef (σ v0 17) fun r16 => mRef (σ v0 17) fun r18 => mG (ixOK r18 20 (32 + v3)) <| mG (ixOK r16 20 v3) <| bnd (upS σ r16 (wI v3).toNat (σ r18 (wI (32 + v3)).toNat)) fun s22 => mRef (s22 v0 18) fun r24 => mRef (s22 v0 18) fun r26 => mG (ixOK r26 20 (32 + v3)) <| mG (ixOK r24 20 v3) <| bnd (upS s22 r24 (wI v3).toNat (s22 r26 (wI (32 + v3)).toNat)) fun s30 => bnd (v3 + 1) fun a32 => mX12_text_L194 v0 v1 x236 n a32 s30
def mX12_text_B192 (v0 : Nat) (v1 : Int) (σ : mSt) : Option (Int × mSt) := mX12_text_L194 v0 v1 (fun zσ => mX12_text_B236 v0 v1 zσ) mF 0 σ
def mX12_text_L120 (v0 : Nat) (v1 : Int) (x192 : mSt → Option (Int × mSt)) : Nat → Int → mSt → Option (Int × mSt)
  | 0, _, _ => none
  | n + 1, v3, σ => if 8 ≤ wI v3 then (x192 σ) else mRef (σ v0 13) fun r35 => mRef (σ v0 13) fun r37 => mG (ixOK r37 21 (8 + v3)) <| mG (ixOK r35 21 v3) <| bnd (upS σ r35 (wI v3).toNat (σ r37 (wI (8 + v3)).toNat)) fun s41 => mRef (s41 v0 14) fun r43 => mRef (s41 v0 14) fun r45 => mG (ixOK r45 20 (8 + v3)) <| mG (ixOK r43 20 v3) <| bnd (upS s41 r43 (wI v3).toNat (s41 r45 (wI (8 + v3)).toNat)) fun s49 => mRef (s49 v0 15) fun r51 => mRef (s49 v0 15) fun r53 => mG (ixOK r53 20 (8 + v3)) <| mG (ixOK r51 20 v3) <| bnd (upS s49 r51 (wI v3).toNat (s49 r53 (wI (8 + v3)).toNat)) fun s57 => mRef (s57 v0 16) fun r59 => mRef (s57 v0 16) fun r61 => mG (ixOK r61 20 (8 + v3)) <| mG (ixOK r59 20 v3) <| bnd (upS s57 r59 (wI v3).toNat (s57 r61 (wI (8 + v3)).toNat)) fun s65 => bnd (v3 + 1) fun a67 => mX12_text_L120 v0 v1 x192 n a67 s65
def mX12_text_B81 (v0 : Nat) (v1 : Int) (v2 : Int) (σ : mSt) : Option (Int × mSt) := bnd (upS σ v0 11 0) fun s69 => if wI v2 = 0 then (some ((-2) - ((8 * (s69 v0 10)) + (s69 v0 9)), s69)) else mRef (s69 v0 12) fun r72 => mRef (s69 v0 12) fun r74 => mG (ixOK r74 20 1) <| mG (ixOK r72 20 0) <| bnd (upS s69 r72 0 (s69 r74 1)) fun s78 => mX12_text_L120 v0 v1 (fun zσ => mX12_text_B192 v0 v1 zσ) mF 0 s78
def mX12_text_L62 (v0 : Nat) (v1 : Int) (x81 : Int → mSt → Option (Int × mSt)) : Nat → Int → mSt → Option (Int × mSt)
  | 0, _, _ => none
  | n + 1, v2, σ => if wI v2 = 0 then (x81 v2 σ) else if wI (σ v0 6) = 0 then (x81 v2 σ) else mCall (mX12_lineHere v0 σ) fun b82 s83 => mX12_text_L62 v0 v1 x81 n b82 s83
def mX12_text (v0 : Nat) (v1 : Int) (σ : mSt) : Option (Int × mSt) := mG (isC v0 11) <| bnd (upS σ v0 0 0) fun s85 => mCall (mX12_within (wI v1) 0 (wI (s85 v0 2)) s85) fun b87 s88 => if wI b87 = 0 then (some ((-1), s88)) else bnd (upS s88 v0 2 0) fun s91 => bnd (upS s91 v0 3 v1) fun s93 => bnd (upS s93 v0 5 0) fun s95 => bnd (upS s95 v0 9 0) fun s97 => bnd (upS s97 v0 11 1) fun s99 => mRef (s99 v0 12) fun r101 => mG (ixOK r101 20 1) <| bnd (upS s99 r101 1 0) fun s104 => mCall (mX12_steps v0 s104) fun b106 s107 => mCall (mX12_lineHere v0 s107) fun b109 s110 => mX12_text_L62 v0 v1 (fun z2 zσ => mX12_text_B81 v0 v1 z2 zσ) mF b109 s110
set_option maxRecDepth 100000 in
set_option maxHeartbeats 4000000 in
theorem wX10_isWord_B64 (l : Launch) (E : mE) (out : Int × mSt) {p : Program} {e : Env} {s : State} {m : MethodId} {args : Array Value} {below : List Frame} {meth : Method} {c : Code} (G : CallFix p m c cX10_isWord 4 s args mTs RX10) (hr : meth.sig.returnType = (some .boolean)) (hk : meth.locks = false) (v0 : Nat) (v1 : Nat) (g0 : isC v0 9) : ∀ (v2 : Int) (σ : mSt) (H : Heap) (locs : List Loc) (ls : Array Slot), mX10_isWord_B64 v0 v1 v2 σ = some out → mM (mA E 276) E 276 σ s H locs → lv_has ls 4 [(2, vI v2)] → mGo l p e 5 221 s m args below meth c E (some (vI out.1)) out.2 H locs (F0 m 64 ls []) := by
  intro v2 σ H locs ls hm hM hl
  unfold mX10_isWord_B64 at hm
  refine r_iload_n (np := 65) G hl 0 rfl dX10_isWord_64 rfl rfl ?_
  obtain ⟨g1, hm⟩ := g_t hm
  exact r_zret G hr hk hM g1 hm dX10_isWord_65
set_option maxRecDepth 100000 in
set_option maxHeartbeats 4000000 in
theorem wX10_isWord_L27 (l : Launch) (E : mE) (out : Int × mSt) {p : Program} {e : Env} {s : State} {m : MethodId} {args : Array Value} {below : List Frame} {meth : Method} {c : Code} (G : CallFix p m c cX10_isWord 4 s args mTs RX10) (hr : meth.sig.returnType = (some .boolean)) (hk : meth.locks = false) (v0 : Nat) (v1 : Nat) (g0 : isC v0 9) (x64 : Int → mSt → Option (Int × mSt)) (hx64 : ∀ (v2 : Int) (σ : mSt) (H : Heap) (locs : List Loc) (ls : Array Slot), x64 v2 σ = some out → mM (mA E 276) E 276 σ s H locs → lv_has ls 4 [(2, vI v2)] → mGo l p e 5 221 s m args below meth c E (some (vI out.1)) out.2 H locs (F0 m 64 ls [])) : ∀ (n : Nat) (v2 : Int) (v3 : Int) (σ : mSt) (H : Heap) (locs : List Loc) (ls : Array Slot), mX10_isWord_L27 v0 v1 x64 n v2 v3 σ = some out → mM (mA E 276) E 276 σ s H locs → lv_has ls 4 [(0, .ref (eA E v0)), (1, .ref (eK E v1)), (2, vI v2), (3, vI v3)] → mGo l p e 5 221 s m args below meth c E (some (vI out.1)) out.2 H locs (F0 m 27 ls []) := by
  intro n
  induction n with
  | zero =>
    intro v2 v3 σ H locs ls hm hM hl
    exact absurd hm (by rw [mX10_isWord_L27.eq_1]; exact fun h => nomatch h)
  | succ n ih =>
    intro v2 v3 σ H locs ls hm hM hl
    rw [mX10_isWord_L27.eq_2] at hm
    refine r_iload_n (np := 28) G hl 3 rfl dX10_isWord_27 rfl rfl ?_
    refine r_aload_n (np := 29) G hl 1 rfl dX10_isWord_28 rfl rfl ?_
    obtain ⟨g2, hm⟩ := g_t hm
    refine r_strlen (np := 32) G hM g2 hl.1 lkX10_72 ⟨Nat.le_of_ble_eq_true rfl, Nat.le_of_ble_eq_true rfl⟩ ⟨Nat.le_of_ble_eq_true rfl, Nat.le_of_ble_eq_true rfl⟩ [vI v3] (Nat.le_of_ble_eq_true rfl) dX10_isWord_29 rfl (fun H locs hM => ?_)
    refine r_icmp_ge (np := 35) (tgt := 64) G rfl rfl dX10_isWord_32 (by decide) rfl (fun h3 => ?_) (fun h3 => ?_)
    · have hm := b_t h3 hm
      exact hx64 v2 _ _ _ _ hm hM (lv_sub hl [2] rfl)
    · have hm := b_f h3 hm
      refine r_iload_n (np := 36) G hl 2 rfl dX10_isWord_35 rfl rfl ?_
      refine r_if_eq (np := 39) (tgt := 64) G rfl dX10_isWord_36 (by decide) rfl (fun h4 => ?_) (fun h4 => ?_)
      · have hm := b_t h4 hm
        exact hx64 v2 _ _ _ _ hm hM (lv_sub hl [2] rfl)
      · have hm := b_f h4 hm
        refine r_aload_n (np := 40) G hl 1 rfl dX10_isWord_39 rfl rfl ?_
        refine r_iload_n (np := 41) G hl 3 rfl dX10_isWord_40 rfl rfl ?_
        obtain ⟨g5, hm⟩ := g_t hm
        refine r_strat (np := 44) G hM g5 hl.1 lkX10_78 ⟨Nat.le_of_ble_eq_true rfl, Nat.le_of_ble_eq_true rfl⟩ ⟨Nat.le_of_ble_eq_true rfl, Nat.le_of_ble_eq_true rfl⟩ [] (Nat.le_of_ble_eq_true rfl) dX10_isWord_41 rfl (fun H locs hM => ?_)
        refine r_aload_n (np := 45) G hl 0 rfl dX10_isWord_44 rfl rfl ?_
        refine r_iload_n (np := 46) G hl 3 rfl dX10_isWord_45 rfl rfl ?_
        obtain ⟨b6, s7, e8, hm⟩ := call_t hm
        refine m_callVI (np := 49) G hM hl.1 [vI v3] (qX10_byteAt l E σ v0 v3 _ e8) myX10_byteAt (shp_lt (gX10_byteAt e8) (by decide)) (gX10_byteAt e8) rfl (by decide) lkX10_82 ⟨Nat.le_of_ble_eq_true rfl, Nat.le_of_ble_eq_true rfl⟩ ⟨Nat.le_of_ble_eq_true rfl, Nat.le_of_ble_eq_true rfl⟩ [vI (((mXByt.getD v1 []).getD (wI v3).toNat 0).toInt)] rfl (Nat.le_of_ble_eq_true rfl) dX10_isWord_46 rfl (fun H locs hM => ?_)
        refine r_icmp_ne (np := 52) (tgt := 56) G rfl rfl dX10_isWord_49 (by decide) rfl (fun h9 => ?_) (fun h9 => ?_)
        · have hm := b_f h9 hm
          refine r_iconst (np := 57) G 0 dX10_isWord_56 rfl ?_
          refine r_istore_n (np := 58) G hl rfl [(2, vI 0), (0, .ref (eA E v0)), (1, .ref (eK E v1)), (3, vI v3)] dX10_isWord_57 rfl rfl (by decide) rfl (fun ls hl => ?_)
          obtain ⟨a10, e11, hm⟩ := bnd_t hm
          refine r_iinc (np := 61) G hl 3 rfl e11 [(3, vI a10), (2, vI 0), (0, .ref (eA E v0)), (1, .ref (eK E v1))] dX10_isWord_58 rfl (by decide) rfl (fun ls hl => ?_)
          refine r_goto (np := 27) G dX10_isWord_61 (by decide) ?_
          exact ih 0 a10 _ _ _ _ hm hM (lv_sub hl [2, 3, 1, 0] rfl)
        · have hm := b_t h9 hm
          refine r_iconst (np := 53) G 1 dX10_isWord_52 rfl ?_
          refine r_goto (np := 57) G dX10_isWord_53 (by decide) ?_
          refine r_istore_n (np := 58) G hl rfl [(2, vI 1), (0, .ref (eA E v0)), (1, .ref (eK E v1)), (3, vI v3)] dX10_isWord_57 rfl rfl (by decide) rfl (fun ls hl => ?_)
          obtain ⟨a12, e13, hm⟩ := bnd_t hm
          refine r_iinc (np := 61) G hl 3 rfl e13 [(3, vI a12), (2, vI 1), (0, .ref (eA E v0)), (1, .ref (eK E v1))] dX10_isWord_58 rfl (by decide) rfl (fun ls hl => ?_)
          refine r_goto (np := 27) G dX10_isWord_61 (by decide) ?_
          exact ih 1 a12 _ _ _ _ hm hM (lv_sub hl [2, 3, 1, 0] rfl)
set_option maxRecDepth 100000 in
set_option maxHeartbeats 4000000 in
theorem wX10_isWord_B24 (l : Launch) (E : mE) (out : Int × mSt) {p : Program} {e : Env} {s : State} {m : MethodId} {args : Array Value} {below : List Frame} {meth : Method} {c : Code} (G : CallFix p m c cX10_isWord 4 s args mTs RX10) (hr : meth.sig.returnType = (some .boolean)) (hk : meth.locks = false) (v0 : Nat) (v1 : Nat) (g0 : isC v0 9) : ∀ (t0 : Int) (σ : mSt) (H : Heap) (locs : List Loc) (ls : Array Slot), mX10_isWord_B24 v0 v1 t0 σ = some out → mM (mA E 276) E 276 σ s H locs → lv_has ls 4 [(0, .ref (eA E v0)), (1, .ref (eK E v1))] → mGo l p e 5 221 s m args below meth c E (some (vI out.1)) out.2 H locs (F0 m 24 ls [vI t0]) := by
  intro t0 σ H locs ls hm hM hl
  unfold mX10_isWord_B24 at hm
  refine r_istore_n (np := 25) G hl rfl [(2, vI t0), (0, .ref (eA E v0)), (1, .ref (eK E v1))] dX10_isWord_24 rfl rfl (by decide) rfl (fun ls hl => ?_)
  refine r_iconst (np := 26) G 0 dX10_isWord_25 rfl ?_
  refine r_istore_n (np := 27) G hl rfl [(3, vI 0), (2, vI t0), (0, .ref (eA E v0)), (1, .ref (eK E v1))] dX10_isWord_26 rfl rfl (by decide) rfl (fun ls hl => ?_)
  exact wX10_isWord_L27 l E out G hr hk v0 v1 g0 (fun z2 zσ => mX10_isWord_B64 v0 v1 z2 zσ) (fun z2 zσ zH zl zs zm zM zv => wX10_isWord_B64 l E out G hr hk v0 v1 g0 z2 zσ zH zl zs zm zM zv) mF t0 0 _ _ _ _ hm hM (lv_sub hl [2, 3, 1, 0] rfl)
set_option maxRecDepth 100000 in
set_option maxHeartbeats 4000000 in
theorem wX10_isWord_B23 (l : Launch) (E : mE) (out : Int × mSt) {p : Program} {e : Env} {s : State} {m : MethodId} {args : Array Value} {below : List Frame} {meth : Method} {c : Code} (G : CallFix p m c cX10_isWord 4 s args mTs RX10) (hr : meth.sig.returnType = (some .boolean)) (hk : meth.locks = false) (v0 : Nat) (v1 : Nat) (g0 : isC v0 9) : ∀ (σ : mSt) (H : Heap) (locs : List Loc) (ls : Array Slot), mX10_isWord_B23 v0 v1 σ = some out → mM (mA E 276) E 276 σ s H locs → lv_has ls 4 [(0, .ref (eA E v0)), (1, .ref (eK E v1))] → mGo l p e 5 221 s m args below meth c E (some (vI out.1)) out.2 H locs (F0 m 23 ls []) := by
  intro σ H locs ls hm hM hl
  unfold mX10_isWord_B23 at hm
  refine r_iconst (np := 24) G 0 dX10_isWord_23 rfl ?_
  exact wX10_isWord_B24 l E out G hr hk v0 v1 g0 0 _ _ _ _ hm hM (lv_sub hl [0, 1] rfl)
set_option maxRecDepth 100000 in
set_option maxHeartbeats 4000000 in
theorem qX10_isWord (l : Launch) (E : mE) (σ : mSt) (v0 : Nat) (v1 : Nat) (out : Int × mSt) (hm : mX10_isWord v0 v1 σ = some out) : mMet l yX10_isWord cX10_isWord 4 (some .boolean) 5 221 E 276 [.ref (eA E v0), .ref (eK E v1)] σ (some (vI out.1)) out.2 := by
  unfold mX10_isWord at hm
  obtain ⟨g0, hm⟩ := g_t hm
  refine m_entry (by decide +kernel) (Nat.le_of_ble_eq_true rfl) (fun p e s m args below meth c G hr hk hM ls hl => ?_)
  have G : CallFix p m c cX10_isWord 4 s args mTs RX10 := G
  have hl : lv_has ls 4 [(0, .ref (eA E v0)), (1, .ref (eK E v1))] := hl
  refine r_aload_n (np := 1) G hl 0 rfl dX10_isWord_0 rfl rfl ?_
  refine r_getI (np := 4) G hM (shp_lt g0 (by decide)) g0 fdX10_4 lkX10_25 dX10_isWord_1 rfl ?_
  refine r_iconst (np := 5) G 1 dX10_isWord_4 rfl ?_
  refine r_icmp_ne (np := 8) (tgt := 23) G rfl (wIk 1 rfl) dX10_isWord_5 (by decide) rfl (fun h14 => ?_) (fun h14 => ?_)
  · have hm := b_f h14 hm
    exact wX10_isWord_B23 l E out G hr hk v0 v1 g0 _ _ _ _ hm hM (lv_sub hl [0, 1] rfl)
  · have hm := b_t h14 hm
    refine r_aload_n (np := 9) G hl 1 rfl dX10_isWord_8 rfl rfl ?_
    obtain ⟨g15, hm⟩ := g_t hm
    refine r_strlen (np := 12) G hM g15 hl.1 lkX10_72 ⟨Nat.le_of_ble_eq_true rfl, Nat.le_of_ble_eq_true rfl⟩ ⟨Nat.le_of_ble_eq_true rfl, Nat.le_of_ble_eq_true rfl⟩ [] (Nat.le_of_ble_eq_true rfl) dX10_isWord_9 rfl (fun H locs hM => ?_)
    refine r_aload_n (np := 13) G hl 0 rfl dX10_isWord_12 rfl rfl ?_
    obtain ⟨b16, s17, e18, hm⟩ := call_t hm
    refine m_callVI (np := 16) G hM hl.1 [] (qX10_length l E σ v0 _ e18) myX10_length (shp_lt (gX10_length e18) (by decide)) (gX10_length e18) rfl (by decide) lkX10_77 ⟨Nat.le_of_ble_eq_true rfl, Nat.le_of_ble_eq_true rfl⟩ ⟨Nat.le_of_ble_eq_true rfl, Nat.le_of_ble_eq_true rfl⟩ [vI ((mXLen.getD v1 0 : Nat) : Int)] rfl (Nat.le_of_ble_eq_true rfl) dX10_isWord_13 rfl (fun H locs hM => ?_)
    refine r_icmp_ne (np := 19) (tgt := 23) G rfl rfl dX10_isWord_16 (by decide) rfl (fun h19 => ?_) (fun h19 => ?_)
    · have hm := b_f h19 hm
      exact wX10_isWord_B23 l E out G hr hk v0 v1 g0 _ _ _ _ hm hM (lv_sub hl [0, 1] rfl)
    · have hm := b_t h19 hm
      refine r_iconst (np := 20) G 1 dX10_isWord_19 rfl ?_
      refine r_goto (np := 24) G dX10_isWord_20 (by decide) ?_
      exact wX10_isWord_B24 l E out G hr hk v0 v1 g0 1 _ _ _ _ hm hM (lv_sub hl [0, 1] rfl)
theorem gX10_isWord {v0 : Nat} {v1 : Nat} {σ : mSt} {out : Int × mSt} (hm : mX10_isWord v0 v1 σ = some out) : isC v0 9 := (g_t hm).1
set_option maxRecDepth 100000 in
set_option maxHeartbeats 4000000 in
theorem qX10_lineKind (l : Launch) (E : mE) (σ : mSt) (v0 : Nat) (out : Int × mSt) (hm : mX10_lineKind v0 σ = some out) : mMet l yX10_lineKind cX10_lineKind 1 (some .int) 6 244 E 276 [.ref (eA E v0)] σ (some (vI out.1)) out.2 := by
  unfold mX10_lineKind at hm
  obtain ⟨g0, hm⟩ := g_t hm
  refine m_entry (by decide +kernel) (Nat.le_of_ble_eq_true rfl) (fun p e s m args below meth c G hr hk hM ls hl => ?_)
  have G : CallFix p m c cX10_lineKind 1 s args mTs RX10 := G
  have hl : lv_has ls 1 [(0, .ref (eA E v0))] := hl
  refine r_aload_n (np := 1) G hl 0 rfl dX10_lineKind_0 rfl rfl ?_
  refine r_ldcSt (np := 3) G hM 0 (by decide) dX10_lineKind_1 rfl ?_
  obtain ⟨b1, s2, e3, hm⟩ := call_t hm
  refine m_callVI (np := 6) G hM hl.1 [.ref (eK E 0)] (qX10_isWord l E σ v0 0 _ e3) myX10_isWord (shp_lt (gX10_isWord e3) (by decide)) (gX10_isWord e3) rfl (by decide) lkX10_60 ⟨Nat.le_of_ble_eq_true rfl, Nat.le_of_ble_eq_true rfl⟩ ⟨Nat.le_of_ble_eq_true rfl, Nat.le_of_ble_eq_true rfl⟩ [] rfl (Nat.le_of_ble_eq_true rfl) dX10_lineKind_3 rfl (fun H locs hM => ?_)
  refine r_if_eq (np := 9) (tgt := 11) G rfl dX10_lineKind_6 (by decide) rfl (fun h4 => ?_) (fun h4 => ?_)
  · have hm := b_t h4 hm
    refine r_aload_n (np := 12) G hl 0 rfl dX10_lineKind_11 rfl rfl ?_
    refine r_ldcSt (np := 14) G hM 1 (by decide) dX10_lineKind_12 rfl ?_
    obtain ⟨b5, s6, e7, hm⟩ := call_t hm
    refine m_callVI (np := 17) G hM hl.1 [.ref (eK E 1)] (qX10_isWord l E s2 v0 1 _ e7) myX10_isWord (shp_lt (gX10_isWord e7) (by decide)) (gX10_isWord e7) rfl (by decide) lkX10_60 ⟨Nat.le_of_ble_eq_true rfl, Nat.le_of_ble_eq_true rfl⟩ ⟨Nat.le_of_ble_eq_true rfl, Nat.le_of_ble_eq_true rfl⟩ [] rfl (Nat.le_of_ble_eq_true rfl) dX10_lineKind_14 rfl (fun H locs hM => ?_)
    refine r_if_eq (np := 20) (tgt := 22) G rfl dX10_lineKind_17 (by decide) rfl (fun h8 => ?_) (fun h8 => ?_)
    · have hm := b_t h8 hm
      refine r_aload_n (np := 23) G hl 0 rfl dX10_lineKind_22 rfl rfl ?_
      refine r_ldcSt (np := 25) G hM 2 (by decide) dX10_lineKind_23 rfl ?_
      obtain ⟨b9, s10, e11, hm⟩ := call_t hm
      refine m_callVI (np := 28) G hM hl.1 [.ref (eK E 2)] (qX10_isWord l E s6 v0 2 _ e11) myX10_isWord (shp_lt (gX10_isWord e11) (by decide)) (gX10_isWord e11) rfl (by decide) lkX10_60 ⟨Nat.le_of_ble_eq_true rfl, Nat.le_of_ble_eq_true rfl⟩ ⟨Nat.le_of_ble_eq_true rfl, Nat.le_of_ble_eq_true rfl⟩ [] rfl (Nat.le_of_ble_eq_true rfl) dX10_lineKind_25 rfl (fun H locs hM => ?_)
      refine r_if_eq (np := 31) (tgt := 35) G rfl dX10_lineKind_28 (by decide) rfl (fun h12 => ?_) (fun h12 => ?_)
      · have hm := b_t h12 hm
        refine r_iconst (np := 36) G (-1) dX10_lineKind_35 rfl ?_
        exact r_iret G hr hk hM hm dX10_lineKind_36
      · have hm := b_f h12 hm
        refine r_iconst (np := 32) G 2 dX10_lineKind_31 rfl ?_
        refine r_goto (np := 36) G dX10_lineKind_32 (by decide) ?_
        exact r_iret G hr hk hM hm dX10_lineKind_36
    · have hm := b_f h8 hm
      refine r_iconst (np := 21) G 1 dX10_lineKind_20 rfl ?_
      exact r_iret G hr hk hM hm dX10_lineKind_21
  · have hm := b_f h4 hm
    refine r_iconst (np := 10) G 0 dX10_lineKind_9 rfl ?_
    exact r_iret G hr hk hM hm dX10_lineKind_10
theorem gX10_lineKind {v0 : Nat} {σ : mSt} {out : Int × mSt} (hm : mX10_lineKind v0 σ = some out) : isC v0 9 := (g_t hm).1
set_option maxRecDepth 100000 in
set_option maxHeartbeats 4000000 in
theorem wX10_isName_B20 (l : Launch) (E : mE) (out : Int × mSt) {p : Program} {e : Env} {s : State} {m : MethodId} {args : Array Value} {below : List Frame} {meth : Method} {c : Code} (G : CallFix p m c cX10_isName 1 s args mTs RX10) (hr : meth.sig.returnType = (some .boolean)) (hk : meth.locks = false) (v0 : Nat) (g0 : isC v0 9) : ∀ (σ : mSt) (H : Heap) (locs : List Loc) (ls : Array Slot), mX10_isName_B20 v0 σ = some out → mM (mA E 276) E 276 σ s H locs → lv_has ls 1 [] → mGo l p e 7 264 s m args below meth c E (some (vI out.1)) out.2 H locs (F0 m 20 ls []) := by
  intro σ H locs ls hm hM hl
  unfold mX10_isName_B20 at hm
  refine r_iconst (np := 21) G 0 dX10_isName_20 rfl ?_
  exact r_zret G hr hk hM (Or.inl rfl) hm dX10_isName_21
set_option maxRecDepth 100000 in
set_option maxHeartbeats 4000000 in
theorem qX10_isName (l : Launch) (E : mE) (σ : mSt) (v0 : Nat) (out : Int × mSt) (hm : mX10_isName v0 σ = some out) : mMet l yX10_isName cX10_isName 1 (some .boolean) 7 264 E 276 [.ref (eA E v0)] σ (some (vI out.1)) out.2 := by
  unfold mX10_isName at hm
  obtain ⟨g0, hm⟩ := g_t hm
  refine m_entry (by decide +kernel) (Nat.le_of_ble_eq_true rfl) (fun p e s m args below meth c G hr hk hM ls hl => ?_)
  have G : CallFix p m c cX10_isName 1 s args mTs RX10 := G
  have hl : lv_has ls 1 [(0, .ref (eA E v0))] := hl
  refine r_aload_n (np := 1) G hl 0 rfl dX10_isName_0 rfl rfl ?_
  refine r_getI (np := 4) G hM (shp_lt g0 (by decide)) g0 fdX10_4 lkX10_25 dX10_isName_1 rfl ?_
  refine r_iconst (np := 5) G 1 dX10_isName_4 rfl ?_
  refine r_icmp_ne (np := 8) (tgt := 20) G rfl (wIk 1 rfl) dX10_isName_5 (by decide) rfl (fun h1 => ?_) (fun h1 => ?_)
  · have hm := b_f h1 hm
    exact wX10_isName_B20 l E out G hr hk v0 g0 _ _ _ _ hm hM (lv_sub hl [] rfl)
  · have hm := b_t h1 hm
    refine r_aload_n (np := 9) G hl 0 rfl dX10_isName_8 rfl rfl ?_
    obtain ⟨b2, s3, e4, hm⟩ := call_t hm
    refine m_callVI (np := 12) G hM hl.1 [] (qX10_lineKind l E σ v0 _ e4) myX10_lineKind (shp_lt (gX10_lineKind e4) (by decide)) (gX10_lineKind e4) rfl (by decide) lkX10_68 ⟨Nat.le_of_ble_eq_true rfl, Nat.le_of_ble_eq_true rfl⟩ ⟨Nat.le_of_ble_eq_true rfl, Nat.le_of_ble_eq_true rfl⟩ [] rfl (Nat.le_of_ble_eq_true rfl) dX10_isName_9 rfl (fun H locs hM => ?_)
    refine r_iconst (np := 13) G (-1) dX10_isName_12 rfl ?_
    refine r_icmp_ne (np := 16) (tgt := 20) G rfl (wIk (-1) rfl) dX10_isName_13 (by decide) rfl (fun h5 => ?_) (fun h5 => ?_)
    · have hm := b_f h5 hm
      exact wX10_isName_B20 l E out G hr hk v0 g0 _ _ _ _ hm hM (lv_sub hl [] rfl)
    · have hm := b_t h5 hm
      refine r_iconst (np := 17) G 1 dX10_isName_16 rfl ?_
      refine r_goto (np := 21) G dX10_isName_17 (by decide) ?_
      exact r_zret G hr hk hM (Or.inr rfl) hm dX10_isName_21
theorem gX10_isName {v0 : Nat} {σ : mSt} {out : Int × mSt} (hm : mX10_isName v0 σ = some out) : isC v0 9 := (g_t hm).1
set_option maxRecDepth 100000 in
set_option maxHeartbeats 4000000 in
theorem qX8_readNewName (l : Launch) (E : mE) (σ : mSt) (v0 : Nat) (v1 : Int) (out : Int × mSt) (hm : mX8_readNewName v0 v1 σ = some out) : mMet l yX8_readNewName cX8_readNewName 2 (some .boolean) 8 284 E 276 [.ref (eA E v0), vI v1] σ (some (vI out.1)) out.2 := by
  unfold mX8_readNewName at hm
  obtain ⟨g0, hm⟩ := g_t hm
  refine m_entry (by decide +kernel) (Nat.le_of_ble_eq_true rfl) (fun p e s m args below meth c G hr hk hM ls hl => ?_)
  have G : CallFix p m c cX8_readNewName 2 s args mTs RX8 := G
  have hl : lv_has ls 2 [(0, .ref (eA E v0)), (1, vI v1)] := hl
  refine r_aload_n (np := 1) G hl 0 rfl dX8_readNewName_0 rfl rfl ?_
  obtain ⟨r1, e2, hm⟩ := ref_t hm
  refine r_getR (np := 4) G hM (shp_lt g0 (by decide)) g0 e2 fdX8_0 lkX8_12 dX8_readNewName_1 rfl ?_
  obtain ⟨b3, s4, e5, hm⟩ := call_t hm
  refine m_callVI (np := 7) G hM hl.1 [] (qX10_isName l E σ r1 _ e5) myX10_isName (shp_lt (gX10_isName e5) (by decide)) (gX10_isName e5) rfl (by decide) lkX8_79 ⟨Nat.le_of_ble_eq_true rfl, Nat.le_of_ble_eq_true rfl⟩ ⟨Nat.le_of_ble_eq_true rfl, Nat.le_of_ble_eq_true rfl⟩ [] rfl (Nat.le_of_ble_eq_true rfl) dX8_readNewName_4 rfl (fun H locs hM => ?_)
  refine r_if_ne (np := 10) (tgt := 16) G rfl dX8_readNewName_7 (by decide) rfl (fun h6 => ?_) (fun h6 => ?_)
  · have hm := b_f h6 hm
    refine r_aload_n (np := 17) G hl 0 rfl dX8_readNewName_16 rfl rfl ?_
    obtain ⟨r7, e8, hm⟩ := ref_t hm
    refine r_getR (np := 20) G hM (shp_lt g0 (by decide)) g0 e8 fdX8_1 lkX8_21 dX8_readNewName_17 rfl ?_
    refine r_aload_n (np := 21) G hl 0 rfl dX8_readNewName_20 rfl rfl ?_
    obtain ⟨r9, e10, hm⟩ := ref_t hm
    refine r_getR (np := 24) G hM (shp_lt g0 (by decide)) g0 e10 fdX8_0 lkX8_12 dX8_readNewName_21 rfl ?_
    obtain ⟨b11, s12, e13, hm⟩ := call_t hm
    refine m_callVI (np := 27) G hM hl.1 [.ref (eA E r9)] (qX0_find l E s4 r7 r9 _ e13) myX0_find (shp_lt (gX0_find e13) (by decide)) (gX0_find e13) rfl (by decide) lkX8_82 ⟨Nat.le_of_ble_eq_true rfl, Nat.le_of_ble_eq_true rfl⟩ ⟨Nat.le_of_ble_eq_true rfl, Nat.le_of_ble_eq_true rfl⟩ [] rfl (Nat.le_of_ble_eq_true rfl) dX8_readNewName_24 rfl (fun H locs hM => ?_)
    refine r_iconst (np := 28) G (-1) dX8_readNewName_27 rfl ?_
    refine r_icmp_eq (np := 31) (tgt := 37) G rfl (wIk (-1) rfl) dX8_readNewName_28 (by decide) rfl (fun h14 => ?_) (fun h14 => ?_)
    · have hm := b_t h14 hm
      refine r_aload_n (np := 38) G hl 0 rfl dX8_readNewName_37 rfl rfl ?_
      obtain ⟨r15, e16, hm⟩ := ref_t hm
      refine r_getR (np := 41) G hM (shp_lt g0 (by decide)) g0 e16 fdX8_1 lkX8_21 dX8_readNewName_38 rfl ?_
      refine r_iload_n (np := 42) G hl 1 rfl dX8_readNewName_41 rfl rfl ?_
      refine r_aload_n (np := 43) G hl 0 rfl dX8_readNewName_42 rfl rfl ?_
      obtain ⟨r17, e18, hm⟩ := ref_t hm
      refine r_getR (np := 46) G hM (shp_lt g0 (by decide)) g0 e18 fdX8_0 lkX8_12 dX8_readNewName_43 rfl ?_
      obtain ⟨b19, s20, e21, hm⟩ := call_t hm
      refine m_callVV (np := 49) G hM hl.1 [vI v1, .ref (eA E r17)] (qX0_begin l E s12 r15 v1 r17 _ e21) myX0_begin (shp_lt (gX0_begin e21) (by decide)) (gX0_begin e21) rfl (by decide) lkX8_86 ⟨Nat.le_of_ble_eq_true rfl, Nat.le_of_ble_eq_true rfl⟩ ⟨Nat.le_of_ble_eq_true rfl, Nat.le_of_ble_eq_true rfl⟩ [] rfl (Nat.le_of_ble_eq_true rfl) dX8_readNewName_46 rfl (fun H locs hM => ?_)
      refine r_aload_n (np := 50) G hl 0 rfl dX8_readNewName_49 rfl rfl ?_
      obtain ⟨r22, e23, hm⟩ := ref_t hm
      refine r_getR (np := 53) G hM (shp_lt g0 (by decide)) g0 e23 fdX8_0 lkX8_12 dX8_readNewName_50 rfl ?_
      obtain ⟨b24, s25, e26, hm⟩ := call_t hm
      refine m_callVV (np := 56) G hM hl.1 [] (qX10_step l E s20 r22 _ e26) myX10_step (shp_lt (gX10_step e26) (by decide)) (gX10_step e26) rfl (by decide) lkX8_61 ⟨Nat.le_of_ble_eq_true rfl, Nat.le_of_ble_eq_true rfl⟩ ⟨Nat.le_of_ble_eq_true rfl, Nat.le_of_ble_eq_true rfl⟩ [] rfl (Nat.le_of_ble_eq_true rfl) dX8_readNewName_53 rfl (fun H locs hM => ?_)
      refine r_iconst (np := 57) G 1 dX8_readNewName_56 rfl ?_
      exact r_zret G hr hk hM (Or.inr rfl) hm dX8_readNewName_57
    · have hm := b_f h14 hm
      refine r_aload_n (np := 32) G hl 0 rfl dX8_readNewName_31 rfl rfl ?_
      refine r_iconst (np := 33) G 2 dX8_readNewName_32 rfl ?_
      obtain ⟨b27, s28, e29, hm⟩ := call_t hm
      refine m_callVI (np := 36) G hM hl.1 [vI 2] (qX8_refuse l E s12 v0 2 _ e29) myX8_refuse (shp_lt (gX8_refuse e29) (by decide)) (gX8_refuse e29) rfl (by decide) lkX8_55 ⟨Nat.le_of_ble_eq_true rfl, Nat.le_of_ble_eq_true rfl⟩ ⟨Nat.le_of_ble_eq_true rfl, Nat.le_of_ble_eq_true rfl⟩ [] rfl (Nat.le_of_ble_eq_true rfl) dX8_readNewName_33 rfl (fun H locs hM => ?_)
      obtain ⟨g30, hm⟩ := g_t hm
      exact r_zret G hr hk hM g30 hm dX8_readNewName_36
  · have hm := b_t h6 hm
    refine r_aload_n (np := 11) G hl 0 rfl dX8_readNewName_10 rfl rfl ?_
    refine r_iconst (np := 12) G 1 dX8_readNewName_11 rfl ?_
    obtain ⟨b31, s32, e33, hm⟩ := call_t hm
    refine m_callVI (np := 15) G hM hl.1 [vI 1] (qX8_refuse l E s4 v0 1 _ e33) myX8_refuse (shp_lt (gX8_refuse e33) (by decide)) (gX8_refuse e33) rfl (by decide) lkX8_55 ⟨Nat.le_of_ble_eq_true rfl, Nat.le_of_ble_eq_true rfl⟩ ⟨Nat.le_of_ble_eq_true rfl, Nat.le_of_ble_eq_true rfl⟩ [] rfl (Nat.le_of_ble_eq_true rfl) dX8_readNewName_12 rfl (fun H locs hM => ?_)
    obtain ⟨g34, hm⟩ := g_t hm
    exact r_zret G hr hk hM g34 hm dX8_readNewName_15
theorem gX8_readNewName {v0 : Nat} {v1 : Int} {σ : mSt} {out : Int × mSt} (hm : mX8_readNewName v0 v1 σ = some out) : isC v0 7 := (g_t hm).1
set_option maxRecDepth 100000 in
set_option maxHeartbeats 4000000 in
theorem wX8_readTerms_B128 (l : Launch) (E : mE) (out : Int × mSt) {p : Program} {e : Env} {s : State} {m : MethodId} {args : Array Value} {below : List Frame} {meth : Method} {c : Code} (G : CallFix p m c cX8_readTerms 4 s args mTs RX8) (hr : meth.sig.returnType = (some .boolean)) (hk : meth.locks = false) (v0 : Nat) (g0 : isC v0 7) : ∀ (σ : mSt) (H : Heap) (locs : List Loc) (ls : Array Slot), mX8_readTerms_B128 v0 σ = some out → mM (mA E 276) E 276 σ s H locs → lv_has ls 4 [] → mGo l p e 8 284 s m args below meth c E (some (vI out.1)) out.2 H locs (F0 m 128 ls []) := by
  intro σ H locs ls hm hM hl
  unfold mX8_readTerms_B128 at hm
  refine r_iconst (np := 129) G 1 dX8_readTerms_128 rfl ?_
  exact r_zret G hr hk hM (Or.inr rfl) hm dX8_readTerms_129
set_option maxRecDepth 100000 in
set_option maxHeartbeats 4000000 in
theorem wX8_readTerms_B59 (l : Launch) (E : mE) (out : Int × mSt) {p : Program} {e : Env} {s : State} {m : MethodId} {args : Array Value} {below : List Frame} {meth : Method} {c : Code} (G : CallFix p m c cX8_readTerms 4 s args mTs RX8) (hr : meth.sig.returnType = (some .boolean)) (hk : meth.locks = false) (v0 : Nat) (g0 : isC v0 7) (c15 : Int → mSt → Option (Int × mSt)) (x128 : mSt → Option (Int × mSt)) (hc15 : ∀ (v1 : Int) (σ : mSt) (H : Heap) (locs : List Loc) (ls : Array Slot), c15 v1 σ = some out → mM (mA E 276) E 276 σ s H locs → lv_has ls 4 [(0, .ref (eA E v0)), (1, vI v1)] → mGo l p e 8 284 s m args below meth c E (some (vI out.1)) out.2 H locs (F0 m 15 ls [])) (hx128 : ∀ (σ : mSt) (H : Heap) (locs : List Loc) (ls : Array Slot), x128 σ = some out → mM (mA E 276) E 276 σ s H locs → lv_has ls 4 [] → mGo l p e 8 284 s m args below meth c E (some (vI out.1)) out.2 H locs (F0 m 128 ls [])) : ∀ (v1 : Int) (t0 : Int) (σ : mSt) (H : Heap) (locs : List Loc) (ls : Array Slot), mX8_readTerms_B59 v0 c15 x128 v1 t0 σ = some out → mM (mA E 276) E 276 σ s H locs → lv_has ls 4 [(0, .ref (eA E v0)), (1, vI v1)] → mGo l p e 8 284 s m args below meth c E (some (vI out.1)) out.2 H locs (F0 m 59 ls [vI t0]) := by
  intro v1 t0 σ H locs ls hm hM hl
  unfold mX8_readTerms_B59 at hm
  refine r_istore_n (np := 60) G hl rfl [(2, vI t0), (0, .ref (eA E v0)), (1, vI v1)] dX8_readTerms_59 rfl rfl (by decide) rfl (fun ls hl => ?_)
  refine r_aload_n (np := 61) G hl 1 rfl dX8_readTerms_60 rfl rfl ?_
  obtain ⟨r1, e2, hm⟩ := ref_t hm
  refine r_getR (np := 64) G hM (shp_lt g0 (by decide)) g0 e2 fdX8_0 lkX8_12 dX8_readTerms_61 rfl ?_
  obtain ⟨b3, s4, e5, hm⟩ := call_t hm
  refine m_callVV (np := 67) G hM hl.1 [] (qX10_step l E σ r1 _ e5) myX10_step (shp_lt (gX10_step e5) (by decide)) (gX10_step e5) rfl (by decide) lkX8_61 ⟨Nat.le_of_ble_eq_true rfl, Nat.le_of_ble_eq_true rfl⟩ ⟨Nat.le_of_ble_eq_true rfl, Nat.le_of_ble_eq_true rfl⟩ [] rfl (Nat.le_of_ble_eq_true rfl) dX8_readTerms_64 rfl (fun H locs hM => ?_)
  refine r_aload_n (np := 68) G hl 1 rfl dX8_readTerms_67 rfl rfl ?_
  obtain ⟨r6, e7, hm⟩ := ref_t hm
  refine r_getR (np := 71) G hM (shp_lt g0 (by decide)) g0 e7 fdX8_0 lkX8_12 dX8_readTerms_68 rfl ?_
  obtain ⟨b8, s9, e10, hm⟩ := call_t hm
  refine m_callVI (np := 74) G hM hl.1 [] (qX10_isName l E s4 r6 _ e10) myX10_isName (shp_lt (gX10_isName e10) (by decide)) (gX10_isName e10) rfl (by decide) lkX8_79 ⟨Nat.le_of_ble_eq_true rfl, Nat.le_of_ble_eq_true rfl⟩ ⟨Nat.le_of_ble_eq_true rfl, Nat.le_of_ble_eq_true rfl⟩ [] rfl (Nat.le_of_ble_eq_true rfl) dX8_readTerms_71 rfl (fun H locs hM => ?_)
  refine r_if_ne (np := 77) (tgt := 83) G rfl dX8_readTerms_74 (by decide) rfl (fun h11 => ?_) (fun h11 => ?_)
  · have hm := b_f h11 hm
    refine r_aload_n (np := 84) G hl 1 rfl dX8_readTerms_83 rfl rfl ?_
    obtain ⟨r12, e13, hm⟩ := ref_t hm
    refine r_getR (np := 87) G hM (shp_lt g0 (by decide)) g0 e13 fdX8_1 lkX8_21 dX8_readTerms_84 rfl ?_
    refine r_aload_n (np := 88) G hl 1 rfl dX8_readTerms_87 rfl rfl ?_
    obtain ⟨r14, e15, hm⟩ := ref_t hm
    refine r_getR (np := 91) G hM (shp_lt g0 (by decide)) g0 e15 fdX8_0 lkX8_12 dX8_readTerms_88 rfl ?_
    obtain ⟨b16, s17, e18, hm⟩ := call_t hm
    refine m_callVI (np := 94) G hM hl.1 [.ref (eA E r14)] (qX0_find l E s9 r12 r14 _ e18) myX0_find (shp_lt (gX0_find e18) (by decide)) (gX0_find e18) rfl (by decide) lkX8_82 ⟨Nat.le_of_ble_eq_true rfl, Nat.le_of_ble_eq_true rfl⟩ ⟨Nat.le_of_ble_eq_true rfl, Nat.le_of_ble_eq_true rfl⟩ [] rfl (Nat.le_of_ble_eq_true rfl) dX8_readTerms_91 rfl (fun H locs hM => ?_)
    refine r_istore_n (np := 95) G hl rfl [(3, vI b16), (2, vI t0), (0, .ref (eA E v0)), (1, vI v1)] dX8_readTerms_94 rfl rfl (by decide) rfl (fun ls hl => ?_)
    refine r_iload_n (np := 96) G hl 0 rfl dX8_readTerms_95 rfl rfl ?_
    refine r_iconst (np := 97) G (-1) dX8_readTerms_96 rfl ?_
    refine r_icmp_ne (np := 100) (tgt := 106) G rfl (wIk (-1) rfl) dX8_readTerms_97 (by decide) rfl (fun h19 => ?_) (fun h19 => ?_)
    · have hm := b_f h19 hm
      refine r_aload_n (np := 107) G hl 2 rfl dX8_readTerms_106 rfl rfl ?_
      obtain ⟨r20, e21, hm⟩ := ref_t hm
      refine r_getR (np := 110) G hM (shp_lt g0 (by decide)) g0 e21 fdX8_1 lkX8_21 dX8_readTerms_107 rfl ?_
      refine r_iload_n (np := 111) G hl 1 rfl dX8_readTerms_110 rfl rfl ?_
      refine r_iload_n (np := 112) G hl 0 rfl dX8_readTerms_111 rfl rfl ?_
      obtain ⟨b22, s23, e24, hm⟩ := call_t hm
      refine m_callVV (np := 115) G hM hl.1 [vI t0, vI b16] (qX0_addTerm l E s17 r20 t0 b16 _ e24) myX0_addTerm (shp_lt (gX0_addTerm e24) (by decide)) (gX0_addTerm e24) rfl (by decide) lkX8_131 ⟨Nat.le_of_ble_eq_true rfl, Nat.le_of_ble_eq_true rfl⟩ ⟨Nat.le_of_ble_eq_true rfl, Nat.le_of_ble_eq_true rfl⟩ [] rfl (Nat.le_of_ble_eq_true rfl) dX8_readTerms_112 rfl (fun H locs hM => ?_)
      refine r_aload_n (np := 116) G hl 2 rfl dX8_readTerms_115 rfl rfl ?_
      obtain ⟨r25, e26, hm⟩ := ref_t hm
      refine r_getR (np := 119) G hM (shp_lt g0 (by decide)) g0 e26 fdX8_0 lkX8_12 dX8_readTerms_116 rfl ?_
      obtain ⟨b27, s28, e29, hm⟩ := call_t hm
      refine m_callVV (np := 122) G hM hl.1 [] (qX10_step l E s23 r25 _ e29) myX10_step (shp_lt (gX10_step e29) (by decide)) (gX10_step e29) rfl (by decide) lkX8_61 ⟨Nat.le_of_ble_eq_true rfl, Nat.le_of_ble_eq_true rfl⟩ ⟨Nat.le_of_ble_eq_true rfl, Nat.le_of_ble_eq_true rfl⟩ [] rfl (Nat.le_of_ble_eq_true rfl) dX8_readTerms_119 rfl (fun H locs hM => ?_)
      obtain ⟨a30, e31, hm⟩ := bnd_t hm
      refine r_iinc (np := 125) G hl 3 rfl e31 [(1, vI a30), (3, vI b16), (2, vI t0), (0, .ref (eA E v0))] dX8_readTerms_122 rfl (by decide) rfl (fun ls hl => ?_)
      refine r_goto (np := 15) G dX8_readTerms_125 (by decide) ?_
      exact hc15 a30 _ _ _ _ hm hM (lv_sub hl [3, 0] rfl)
    · have hm := b_t h19 hm
      refine r_aload_n (np := 101) G hl 2 rfl dX8_readTerms_100 rfl rfl ?_
      refine r_iconst (np := 102) G 3 dX8_readTerms_101 rfl ?_
      obtain ⟨b32, s33, e34, hm⟩ := call_t hm
      refine m_callVI (np := 105) G hM hl.1 [vI 3] (qX8_refuse l E s17 v0 3 _ e34) myX8_refuse (shp_lt (gX8_refuse e34) (by decide)) (gX8_refuse e34) rfl (by decide) lkX8_55 ⟨Nat.le_of_ble_eq_true rfl, Nat.le_of_ble_eq_true rfl⟩ ⟨Nat.le_of_ble_eq_true rfl, Nat.le_of_ble_eq_true rfl⟩ [] rfl (Nat.le_of_ble_eq_true rfl) dX8_readTerms_102 rfl (fun H locs hM => ?_)
      obtain ⟨g35, hm⟩ := g_t hm
      exact r_zret G hr hk hM g35 hm dX8_readTerms_105
  · have hm := b_t h11 hm
    refine r_aload_n (np := 78) G hl 1 rfl dX8_readTerms_77 rfl rfl ?_
    refine r_iconst (np := 79) G 1 dX8_readTerms_78 rfl ?_
    obtain ⟨b36, s37, e38, hm⟩ := call_t hm
    refine m_callVI (np := 82) G hM hl.1 [vI 1] (qX8_refuse l E s9 v0 1 _ e38) myX8_refuse (shp_lt (gX8_refuse e38) (by decide)) (gX8_refuse e38) rfl (by decide) lkX8_55 ⟨Nat.le_of_ble_eq_true rfl, Nat.le_of_ble_eq_true rfl⟩ ⟨Nat.le_of_ble_eq_true rfl, Nat.le_of_ble_eq_true rfl⟩ [] rfl (Nat.le_of_ble_eq_true rfl) dX8_readTerms_79 rfl (fun H locs hM => ?_)
    obtain ⟨g39, hm⟩ := g_t hm
    exact r_zret G hr hk hM g39 hm dX8_readTerms_82
set_option maxRecDepth 100000 in
set_option maxHeartbeats 4000000 in
theorem wX8_readTerms_L15 (l : Launch) (E : mE) (out : Int × mSt) {p : Program} {e : Env} {s : State} {m : MethodId} {args : Array Value} {below : List Frame} {meth : Method} {c : Code} (G : CallFix p m c cX8_readTerms 4 s args mTs RX8) (hr : meth.sig.returnType = (some .boolean)) (hk : meth.locks = false) (v0 : Nat) (g0 : isC v0 7) (x128 : mSt → Option (Int × mSt)) (hx128 : ∀ (σ : mSt) (H : Heap) (locs : List Loc) (ls : Array Slot), x128 σ = some out → mM (mA E 276) E 276 σ s H locs → lv_has ls 4 [] → mGo l p e 8 284 s m args below meth c E (some (vI out.1)) out.2 H locs (F0 m 128 ls [])) : ∀ (n : Nat) (v1 : Int) (σ : mSt) (H : Heap) (locs : List Loc) (ls : Array Slot), mX8_readTerms_L15 v0 x128 n v1 σ = some out → mM (mA E 276) E 276 σ s H locs → lv_has ls 4 [(0, .ref (eA E v0)), (1, vI v1)] → mGo l p e 8 284 s m args below meth c E (some (vI out.1)) out.2 H locs (F0 m 15 ls []) := by
  intro n
  induction n with
  | zero =>
    intro v1 σ H locs ls hm hM hl
    exact absurd hm (by rw [mX8_readTerms_L15.eq_1]; exact fun h => nomatch h)
  | succ n ih =>
    intro v1 σ H locs ls hm hM hl
    rw [mX8_readTerms_L15.eq_2] at hm
    refine r_iload_n (np := 16) G hl 1 rfl dX8_readTerms_15 rfl rfl ?_
    refine r_iconst (np := 17) G 4 dX8_readTerms_16 rfl ?_
    refine r_icmp_gt (np := 20) (tgt := 128) G rfl (wIk 4 rfl) dX8_readTerms_17 (by decide) rfl (fun h40 => ?_) (fun h40 => ?_)
    · have hm := b_t h40 hm
      exact hx128 _ _ _ _ hm hM (lv_sub hl [] rfl)
    · have hm := b_f h40 hm
      refine r_aload_n (np := 21) G hl 0 rfl dX8_readTerms_20 rfl rfl ?_
      obtain ⟨b41, s42, e43, hm⟩ := call_t hm
      refine m_callVI (np := 24) G hM hl.1 [] (qX8_isSign l E σ v0 _ e43) myX8_isSign (shp_lt (gX8_isSign e43) (by decide)) (gX8_isSign e43) rfl (by decide) lkX8_125 ⟨Nat.le_of_ble_eq_true rfl, Nat.le_of_ble_eq_true rfl⟩ ⟨Nat.le_of_ble_eq_true rfl, Nat.le_of_ble_eq_true rfl⟩ [] rfl (Nat.le_of_ble_eq_true rfl) dX8_readTerms_21 rfl (fun H locs hM => ?_)
      refine r_if_eq (np := 27) (tgt := 128) G rfl dX8_readTerms_24 (by decide) rfl (fun h44 => ?_) (fun h44 => ?_)
      · have hm := b_t h44 hm
        exact hx128 _ _ _ _ hm hM (lv_sub hl [] rfl)
      · have hm := b_f h44 hm
        refine r_aload_n (np := 28) G hl 0 rfl dX8_readTerms_27 rfl rfl ?_
        obtain ⟨r45, e46, hm⟩ := ref_t hm
        refine r_getR (np := 31) G hM (shp_lt g0 (by decide)) g0 e46 fdX8_1 lkX8_21 dX8_readTerms_28 rfl ?_
        obtain ⟨b47, s48, e49, hm⟩ := call_t hm
        refine m_callVI (np := 34) G hM hl.1 [] (qX0_hasAllTerms l E s42 r45 _ e49) myX0_hasAllTerms (shp_lt (gX0_hasAllTerms e49) (by decide)) (gX0_hasAllTerms e49) rfl (by decide) lkX8_128 ⟨Nat.le_of_ble_eq_true rfl, Nat.le_of_ble_eq_true rfl⟩ ⟨Nat.le_of_ble_eq_true rfl, Nat.le_of_ble_eq_true rfl⟩ [] rfl (Nat.le_of_ble_eq_true rfl) dX8_readTerms_31 rfl (fun H locs hM => ?_)
        refine r_if_eq (np := 37) (tgt := 43) G rfl dX8_readTerms_34 (by decide) rfl (fun h50 => ?_) (fun h50 => ?_)
        · have hm := b_t h50 hm
          refine r_aload_n (np := 44) G hl 0 rfl dX8_readTerms_43 rfl rfl ?_
          obtain ⟨r51, e52, hm⟩ := ref_t hm
          refine r_getR (np := 47) G hM (shp_lt g0 (by decide)) g0 e52 fdX8_0 lkX8_12 dX8_readTerms_44 rfl ?_
          refine r_iconst (np := 48) G 4 dX8_readTerms_47 rfl ?_
          obtain ⟨b53, s54, e55, hm⟩ := call_t hm
          refine m_callVI (np := 51) G hM hl.1 [vI 4] (qX10_is l E s48 r51 4 _ e55) myX10_is (shp_lt (gX10_is e55) (by decide)) (gX10_is e55) rfl (by decide) lkX8_44 ⟨Nat.le_of_ble_eq_true rfl, Nat.le_of_ble_eq_true rfl⟩ ⟨Nat.le_of_ble_eq_true rfl, Nat.le_of_ble_eq_true rfl⟩ [] rfl (Nat.le_of_ble_eq_true rfl) dX8_readTerms_48 rfl (fun H locs hM => ?_)
          refine r_if_eq (np := 54) (tgt := 58) G rfl dX8_readTerms_51 (by decide) rfl (fun h56 => ?_) (fun h56 => ?_)
          · have hm := b_t h56 hm
            refine r_iconst (np := 59) G 1 dX8_readTerms_58 rfl ?_
            exact wX8_readTerms_B59 l E out G hr hk v0 g0 (mX8_readTerms_L15 v0 x128 n) x128 ih hx128 v1 1 _ _ _ _ hm hM (lv_sub hl [0, 1] rfl)
          · have hm := b_f h56 hm
            refine r_iconst (np := 55) G (-1) dX8_readTerms_54 rfl ?_
            refine r_goto (np := 59) G dX8_readTerms_55 (by decide) ?_
            exact wX8_readTerms_B59 l E out G hr hk v0 g0 (mX8_readTerms_L15 v0 x128 n) x128 ih hx128 v1 (-1) _ _ _ _ hm hM (lv_sub hl [0, 1] rfl)
        · have hm := b_f h50 hm
          refine r_aload_n (np := 38) G hl 0 rfl dX8_readTerms_37 rfl rfl ?_
          refine r_iconst (np := 39) G 5 dX8_readTerms_38 rfl ?_
          obtain ⟨b57, s58, e59, hm⟩ := call_t hm
          refine m_callVI (np := 42) G hM hl.1 [vI 5] (qX8_refuse l E s48 v0 5 _ e59) myX8_refuse (shp_lt (gX8_refuse e59) (by decide)) (gX8_refuse e59) rfl (by decide) lkX8_55 ⟨Nat.le_of_ble_eq_true rfl, Nat.le_of_ble_eq_true rfl⟩ ⟨Nat.le_of_ble_eq_true rfl, Nat.le_of_ble_eq_true rfl⟩ [] rfl (Nat.le_of_ble_eq_true rfl) dX8_readTerms_39 rfl (fun H locs hM => ?_)
          obtain ⟨g60, hm⟩ := g_t hm
          exact r_zret G hr hk hM g60 hm dX8_readTerms_42
set_option maxRecDepth 100000 in
set_option maxHeartbeats 4000000 in
theorem qX8_readTerms (l : Launch) (E : mE) (σ : mSt) (v0 : Nat) (out : Int × mSt) (hm : mX8_readTerms v0 σ = some out) : mMet l yX8_readTerms cX8_readTerms 4 (some .boolean) 8 284 E 276 [.ref (eA E v0)] σ (some (vI out.1)) out.2 := by
  unfold mX8_readTerms at hm
  obtain ⟨g0, hm⟩ := g_t hm
  refine m_entry (by decide +kernel) (Nat.le_of_ble_eq_true rfl) (fun p e s m args below meth c G hr hk hM ls hl => ?_)
  have G : CallFix p m c cX8_readTerms 4 s args mTs RX8 := G
  have hl : lv_has ls 4 [(0, .ref (eA E v0))] := hl
  refine r_aload_n (np := 1) G hl 0 rfl dX8_readTerms_0 rfl rfl ?_
  obtain ⟨b61, s62, e63, hm⟩ := call_t hm
  refine m_callVI (np := 4) G hM hl.1 [] (qX8_isSign l E σ v0 _ e63) myX8_isSign (shp_lt (gX8_isSign e63) (by decide)) (gX8_isSign e63) rfl (by decide) lkX8_125 ⟨Nat.le_of_ble_eq_true rfl, Nat.le_of_ble_eq_true rfl⟩ ⟨Nat.le_of_ble_eq_true rfl, Nat.le_of_ble_eq_true rfl⟩ [] rfl (Nat.le_of_ble_eq_true rfl) dX8_readTerms_1 rfl (fun H locs hM => ?_)
  refine r_if_ne (np := 7) (tgt := 13) G rfl dX8_readTerms_4 (by decide) rfl (fun h64 => ?_) (fun h64 => ?_)
  · have hm := b_f h64 hm
    refine r_iconst (np := 14) G 0 dX8_readTerms_13 rfl ?_
    refine r_istore_n (np := 15) G hl rfl [(1, vI 0), (0, .ref (eA E v0))] dX8_readTerms_14 rfl rfl (by decide) rfl (fun ls hl => ?_)
    exact wX8_readTerms_L15 l E out G hr hk v0 g0 (fun zσ => mX8_readTerms_B128 v0 zσ) (fun zσ zH zl zs zm zM zv => wX8_readTerms_B128 l E out G hr hk v0 g0 zσ zH zl zs zm zM zv) mF 0 _ _ _ _ hm hM (lv_sub hl [1, 0] rfl)
  · have hm := b_t h64 hm
    refine r_aload_n (np := 8) G hl 0 rfl dX8_readTerms_7 rfl rfl ?_
    refine r_iconst (np := 9) G 1 dX8_readTerms_8 rfl ?_
    obtain ⟨b65, s66, e67, hm⟩ := call_t hm
    refine m_callVI (np := 12) G hM hl.1 [vI 1] (qX8_refuse l E s62 v0 1 _ e67) myX8_refuse (shp_lt (gX8_refuse e67) (by decide)) (gX8_refuse e67) rfl (by decide) lkX8_55 ⟨Nat.le_of_ble_eq_true rfl, Nat.le_of_ble_eq_true rfl⟩ ⟨Nat.le_of_ble_eq_true rfl, Nat.le_of_ble_eq_true rfl⟩ [] rfl (Nat.le_of_ble_eq_true rfl) dX8_readTerms_9 rfl (fun H locs hM => ?_)
    obtain ⟨g68, hm⟩ := g_t hm
    exact r_zret G hr hk hM g68 hm dX8_readTerms_12
theorem gX8_readTerms {v0 : Nat} {σ : mSt} {out : Int × mSt} (hm : mX8_readTerms v0 σ = some out) : isC v0 7 := (g_t hm).1
set_option maxRecDepth 100000 in
set_option maxHeartbeats 4000000 in
theorem wX8_readLine_B90 (l : Launch) (E : mE) (out : Int × mSt) {p : Program} {e : Env} {s : State} {m : MethodId} {args : Array Value} {below : List Frame} {meth : Method} {c : Code} (G : CallFix p m c cX8_readLine 2 s args mTs RX8) (hr : meth.sig.returnType = (some .boolean)) (hk : meth.locks = false) (v0 : Nat) (g0 : isC v0 7) : ∀ (σ : mSt) (H : Heap) (locs : List Loc) (ls : Array Slot), mX8_readLine_B90 v0 σ = some out → mM (mA E 276) E 276 σ s H locs → lv_has ls 2 [(0, .ref (eA E v0))] → mGo l p e 9 307 s m args below meth c E (some (vI out.1)) out.2 H locs (F0 m 90 ls []) := by
  intro σ H locs ls hm hM hl
  unfold mX8_readLine_B90 at hm
  refine r_aload_n (np := 91) G hl 0 rfl dX8_readLine_90 rfl rfl ?_
  obtain ⟨r1, e2, hm⟩ := ref_t hm
  refine r_getR (np := 94) G hM (shp_lt g0 (by decide)) g0 e2 fdX8_0 lkX8_12 dX8_readLine_91 rfl ?_
  refine r_iconst (np := 95) G 5 dX8_readLine_94 rfl ?_
  obtain ⟨b3, s4, e5, hm⟩ := call_t hm
  refine m_callVI (np := 98) G hM hl.1 [vI 5] (qX10_is l E σ r1 5 _ e5) myX10_is (shp_lt (gX10_is e5) (by decide)) (gX10_is e5) rfl (by decide) lkX8_44 ⟨Nat.le_of_ble_eq_true rfl, Nat.le_of_ble_eq_true rfl⟩ ⟨Nat.le_of_ble_eq_true rfl, Nat.le_of_ble_eq_true rfl⟩ [] rfl (Nat.le_of_ble_eq_true rfl) dX8_readLine_95 rfl (fun H locs hM => ?_)
  refine r_if_ne (np := 101) (tgt := 107) G rfl dX8_readLine_98 (by decide) rfl (fun h6 => ?_) (fun h6 => ?_)
  · have hm := b_f h6 hm
    refine r_aload_n (np := 108) G hl 0 rfl dX8_readLine_107 rfl rfl ?_
    obtain ⟨r7, e8, hm⟩ := ref_t hm
    refine r_getR (np := 111) G hM (shp_lt g0 (by decide)) g0 e8 fdX8_0 lkX8_12 dX8_readLine_108 rfl ?_
    obtain ⟨b9, s10, e11, hm⟩ := call_t hm
    refine m_callVV (np := 114) G hM hl.1 [] (qX10_step l E s4 r7 _ e11) myX10_step (shp_lt (gX10_step e11) (by decide)) (gX10_step e11) rfl (by decide) lkX8_61 ⟨Nat.le_of_ble_eq_true rfl, Nat.le_of_ble_eq_true rfl⟩ ⟨Nat.le_of_ble_eq_true rfl, Nat.le_of_ble_eq_true rfl⟩ [] rfl (Nat.le_of_ble_eq_true rfl) dX8_readLine_111 rfl (fun H locs hM => ?_)
    refine r_aload_n (np := 115) G hl 0 rfl dX8_readLine_114 rfl rfl ?_
    obtain ⟨r12, e13, hm⟩ := ref_t hm
    refine r_getR (np := 118) G hM (shp_lt g0 (by decide)) g0 e13 fdX8_1 lkX8_21 dX8_readLine_115 rfl ?_
    obtain ⟨b14, s15, e16, hm⟩ := call_t hm
    refine m_callVV (np := 121) G hM hl.1 [] (qX0_finish l E s10 r12 _ e16) myX0_finish (shp_lt (gX0_finish e16) (by decide)) (gX0_finish e16) rfl (by decide) lkX8_76 ⟨Nat.le_of_ble_eq_true rfl, Nat.le_of_ble_eq_true rfl⟩ ⟨Nat.le_of_ble_eq_true rfl, Nat.le_of_ble_eq_true rfl⟩ [] rfl (Nat.le_of_ble_eq_true rfl) dX8_readLine_118 rfl (fun H locs hM => ?_)
    refine r_iconst (np := 122) G 1 dX8_readLine_121 rfl ?_
    exact r_zret G hr hk hM (Or.inr rfl) hm dX8_readLine_122
  · have hm := b_t h6 hm
    refine r_aload_n (np := 102) G hl 0 rfl dX8_readLine_101 rfl rfl ?_
    refine r_iconst (np := 103) G 1 dX8_readLine_102 rfl ?_
    obtain ⟨b17, s18, e19, hm⟩ := call_t hm
    refine m_callVI (np := 106) G hM hl.1 [vI 1] (qX8_refuse l E s4 v0 1 _ e19) myX8_refuse (shp_lt (gX8_refuse e19) (by decide)) (gX8_refuse e19) rfl (by decide) lkX8_55 ⟨Nat.le_of_ble_eq_true rfl, Nat.le_of_ble_eq_true rfl⟩ ⟨Nat.le_of_ble_eq_true rfl, Nat.le_of_ble_eq_true rfl⟩ [] rfl (Nat.le_of_ble_eq_true rfl) dX8_readLine_103 rfl (fun H locs hM => ?_)
    obtain ⟨g20, hm⟩ := g_t hm
    exact r_zret G hr hk hM g20 hm dX8_readLine_106
set_option maxRecDepth 100000 in
set_option maxHeartbeats 4000000 in
theorem qX8_readLine (l : Launch) (E : mE) (σ : mSt) (v0 : Nat) (out : Int × mSt) (hm : mX8_readLine v0 σ = some out) : mMet l yX8_readLine cX8_readLine 2 (some .boolean) 9 307 E 276 [.ref (eA E v0)] σ (some (vI out.1)) out.2 := by
  unfold mX8_readLine at hm
  obtain ⟨g0, hm⟩ := g_t hm
  refine m_entry (by decide +kernel) (Nat.le_of_ble_eq_true rfl) (fun p e s m args below meth c G hr hk hM ls hl => ?_)
  have G : CallFix p m c cX8_readLine 2 s args mTs RX8 := G
  have hl : lv_has ls 2 [(0, .ref (eA E v0))] := hl
  refine r_aload_n (np := 1) G hl 0 rfl dX8_readLine_0 rfl rfl ?_
  obtain ⟨r21, e22, hm⟩ := ref_t hm
  refine r_getR (np := 4) G hM (shp_lt g0 (by decide)) g0 e22 fdX8_0 lkX8_12 dX8_readLine_1 rfl ?_
  obtain ⟨b23, s24, e25, hm⟩ := call_t hm
  refine m_callVI (np := 7) G hM hl.1 [] (qX10_lineKind l E σ r21 _ e25) myX10_lineKind (shp_lt (gX10_lineKind e25) (by decide)) (gX10_lineKind e25) rfl (by decide) lkX8_52 ⟨Nat.le_of_ble_eq_true rfl, Nat.le_of_ble_eq_true rfl⟩ ⟨Nat.le_of_ble_eq_true rfl, Nat.le_of_ble_eq_true rfl⟩ [] rfl (Nat.le_of_ble_eq_true rfl) dX8_readLine_4 rfl (fun H locs hM => ?_)
  refine r_istore_n (np := 8) G hl rfl [(1, vI b23), (0, .ref (eA E v0))] dX8_readLine_7 rfl rfl (by decide) rfl (fun ls hl => ?_)
  refine r_iload_n (np := 9) G hl 0 rfl dX8_readLine_8 rfl rfl ?_
  refine r_iconst (np := 10) G (-1) dX8_readLine_9 rfl ?_
  refine r_icmp_ne (np := 13) (tgt := 19) G rfl (wIk (-1) rfl) dX8_readLine_10 (by decide) rfl (fun h26 => ?_) (fun h26 => ?_)
  · have hm := b_f h26 hm
    refine r_aload_n (np := 20) G hl 1 rfl dX8_readLine_19 rfl rfl ?_
    obtain ⟨r27, e28, hm⟩ := ref_t hm
    refine r_getR (np := 23) G hM (shp_lt g0 (by decide)) g0 e28 fdX8_1 lkX8_21 dX8_readLine_20 rfl ?_
    obtain ⟨b29, s30, e31, hm⟩ := call_t hm
    refine m_callVI (np := 26) G hM hl.1 [] (qX0_isFull l E s24 r27 _ e31) myX0_isFull (shp_lt (gX0_isFull e31) (by decide)) (gX0_isFull e31) rfl (by decide) lkX8_58 ⟨Nat.le_of_ble_eq_true rfl, Nat.le_of_ble_eq_true rfl⟩ ⟨Nat.le_of_ble_eq_true rfl, Nat.le_of_ble_eq_true rfl⟩ [] rfl (Nat.le_of_ble_eq_true rfl) dX8_readLine_23 rfl (fun H locs hM => ?_)
    refine r_if_eq (np := 29) (tgt := 35) G rfl dX8_readLine_26 (by decide) rfl (fun h32 => ?_) (fun h32 => ?_)
    · have hm := b_t h32 hm
      refine r_aload_n (np := 36) G hl 1 rfl dX8_readLine_35 rfl rfl ?_
      obtain ⟨r33, e34, hm⟩ := ref_t hm
      refine r_getR (np := 39) G hM (shp_lt g0 (by decide)) g0 e34 fdX8_0 lkX8_12 dX8_readLine_36 rfl ?_
      obtain ⟨b35, s36, e37, hm⟩ := call_t hm
      refine m_callVV (np := 42) G hM hl.1 [] (qX10_step l E s30 r33 _ e37) myX10_step (shp_lt (gX10_step e37) (by decide)) (gX10_step e37) rfl (by decide) lkX8_61 ⟨Nat.le_of_ble_eq_true rfl, Nat.le_of_ble_eq_true rfl⟩ ⟨Nat.le_of_ble_eq_true rfl, Nat.le_of_ble_eq_true rfl⟩ [] rfl (Nat.le_of_ble_eq_true rfl) dX8_readLine_39 rfl (fun H locs hM => ?_)
      refine r_aload_n (np := 43) G hl 1 rfl dX8_readLine_42 rfl rfl ?_
      refine r_iload_n (np := 44) G hl 0 rfl dX8_readLine_43 rfl rfl ?_
      obtain ⟨b38, s39, e40, hm⟩ := call_t hm
      refine m_callVI (np := 47) G hM hl.1 [vI b23] (qX8_readNewName l E s36 v0 b23 _ e40) myX8_readNewName (shp_lt (gX8_readNewName e40) (by decide)) (gX8_readNewName e40) rfl (by decide) lkX8_64 ⟨Nat.le_of_ble_eq_true rfl, Nat.le_of_ble_eq_true rfl⟩ ⟨Nat.le_of_ble_eq_true rfl, Nat.le_of_ble_eq_true rfl⟩ [] rfl (Nat.le_of_ble_eq_true rfl) dX8_readLine_44 rfl (fun H locs hM => ?_)
      refine r_if_ne (np := 50) (tgt := 52) G rfl dX8_readLine_47 (by decide) rfl (fun h41 => ?_) (fun h41 => ?_)
      · have hm := b_f h41 hm
        refine r_iload_n (np := 53) G hl 0 rfl dX8_readLine_52 rfl rfl ?_
        refine r_if_ne (np := 56) (tgt := 66) G rfl dX8_readLine_53 (by decide) rfl (fun h42 => ?_) (fun h42 => ?_)
        · have hm := b_f h42 hm
          refine r_iload_n (np := 67) G hl 0 rfl dX8_readLine_66 rfl rfl ?_
          refine r_iconst (np := 68) G 1 dX8_readLine_67 rfl ?_
          refine r_icmp_ne (np := 71) (tgt := 81) G rfl (wIk 1 rfl) dX8_readLine_68 (by decide) rfl (fun h43 => ?_) (fun h43 => ?_)
          · have hm := b_f h43 hm
            refine r_aload_n (np := 82) G hl 1 rfl dX8_readLine_81 rfl rfl ?_
            obtain ⟨b44, s45, e46, hm⟩ := call_t hm
            refine m_callVI (np := 85) G hM hl.1 [] (qX8_readTerms l E s39 v0 _ e46) myX8_readTerms (shp_lt (gX8_readTerms e46) (by decide)) (gX8_readTerms e46) rfl (by decide) lkX8_73 ⟨Nat.le_of_ble_eq_true rfl, Nat.le_of_ble_eq_true rfl⟩ ⟨Nat.le_of_ble_eq_true rfl, Nat.le_of_ble_eq_true rfl⟩ [] rfl (Nat.le_of_ble_eq_true rfl) dX8_readLine_82 rfl (fun H locs hM => ?_)
            refine r_if_ne (np := 88) (tgt := 90) G rfl dX8_readLine_85 (by decide) rfl (fun h47 => ?_) (fun h47 => ?_)
            · have hm := b_f h47 hm
              exact wX8_readLine_B90 l E out G hr hk v0 g0 _ _ _ _ hm hM (lv_sub hl [1] rfl)
            · have hm := b_t h47 hm
              refine r_iconst (np := 89) G 0 dX8_readLine_88 rfl ?_
              exact r_zret G hr hk hM (Or.inl rfl) hm dX8_readLine_89
          · have hm := b_t h43 hm
            refine r_aload_n (np := 72) G hl 1 rfl dX8_readLine_71 rfl rfl ?_
            obtain ⟨b48, s49, e50, hm⟩ := call_t hm
            refine m_callVI (np := 75) G hM hl.1 [] (qX8_readField l E s39 v0 _ e50) myX8_readField (shp_lt (gX8_readField e50) (by decide)) (gX8_readField e50) rfl (by decide) lkX8_70 ⟨Nat.le_of_ble_eq_true rfl, Nat.le_of_ble_eq_true rfl⟩ ⟨Nat.le_of_ble_eq_true rfl, Nat.le_of_ble_eq_true rfl⟩ [] rfl (Nat.le_of_ble_eq_true rfl) dX8_readLine_72 rfl (fun H locs hM => ?_)
            refine r_if_eq (np := 78) (tgt := 88) G rfl dX8_readLine_75 (by decide) rfl (fun h51 => ?_) (fun h51 => ?_)
            · have hm := b_t h51 hm
              refine r_iconst (np := 89) G 0 dX8_readLine_88 rfl ?_
              exact r_zret G hr hk hM (Or.inl rfl) hm dX8_readLine_89
            · have hm := b_f h51 hm
              refine r_goto (np := 90) G dX8_readLine_78 (by decide) ?_
              exact wX8_readLine_B90 l E out G hr hk v0 g0 _ _ _ _ hm hM (lv_sub hl [1] rfl)
        · have hm := b_t h42 hm
          refine r_aload_n (np := 57) G hl 1 rfl dX8_readLine_56 rfl rfl ?_
          obtain ⟨b52, s53, e54, hm⟩ := call_t hm
          refine m_callVI (np := 60) G hM hl.1 [] (qX8_readSides l E s39 v0 _ e54) myX8_readSides (shp_lt (gX8_readSides e54) (by decide)) (gX8_readSides e54) rfl (by decide) lkX8_67 ⟨Nat.le_of_ble_eq_true rfl, Nat.le_of_ble_eq_true rfl⟩ ⟨Nat.le_of_ble_eq_true rfl, Nat.le_of_ble_eq_true rfl⟩ [] rfl (Nat.le_of_ble_eq_true rfl) dX8_readLine_57 rfl (fun H locs hM => ?_)
          refine r_if_eq (np := 63) (tgt := 88) G rfl dX8_readLine_60 (by decide) rfl (fun h55 => ?_) (fun h55 => ?_)
          · have hm := b_t h55 hm
            refine r_iconst (np := 89) G 0 dX8_readLine_88 rfl ?_
            exact r_zret G hr hk hM (Or.inl rfl) hm dX8_readLine_89
          · have hm := b_f h55 hm
            refine r_goto (np := 90) G dX8_readLine_63 (by decide) ?_
            exact wX8_readLine_B90 l E out G hr hk v0 g0 _ _ _ _ hm hM (lv_sub hl [1] rfl)
      · have hm := b_t h41 hm
        refine r_iconst (np := 51) G 0 dX8_readLine_50 rfl ?_
        exact r_zret G hr hk hM (Or.inl rfl) hm dX8_readLine_51
    · have hm := b_f h32 hm
      refine r_aload_n (np := 30) G hl 1 rfl dX8_readLine_29 rfl rfl ?_
      refine r_iconst (np := 31) G 5 dX8_readLine_30 rfl ?_
      obtain ⟨b56, s57, e58, hm⟩ := call_t hm
      refine m_callVI (np := 34) G hM hl.1 [vI 5] (qX8_refuse l E s30 v0 5 _ e58) myX8_refuse (shp_lt (gX8_refuse e58) (by decide)) (gX8_refuse e58) rfl (by decide) lkX8_55 ⟨Nat.le_of_ble_eq_true rfl, Nat.le_of_ble_eq_true rfl⟩ ⟨Nat.le_of_ble_eq_true rfl, Nat.le_of_ble_eq_true rfl⟩ [] rfl (Nat.le_of_ble_eq_true rfl) dX8_readLine_31 rfl (fun H locs hM => ?_)
      obtain ⟨g59, hm⟩ := g_t hm
      exact r_zret G hr hk hM g59 hm dX8_readLine_34
  · have hm := b_t h26 hm
    refine r_aload_n (np := 14) G hl 1 rfl dX8_readLine_13 rfl rfl ?_
    refine r_iconst (np := 15) G 1 dX8_readLine_14 rfl ?_
    obtain ⟨b60, s61, e62, hm⟩ := call_t hm
    refine m_callVI (np := 18) G hM hl.1 [vI 1] (qX8_refuse l E s24 v0 1 _ e62) myX8_refuse (shp_lt (gX8_refuse e62) (by decide)) (gX8_refuse e62) rfl (by decide) lkX8_55 ⟨Nat.le_of_ble_eq_true rfl, Nat.le_of_ble_eq_true rfl⟩ ⟨Nat.le_of_ble_eq_true rfl, Nat.le_of_ble_eq_true rfl⟩ [] rfl (Nat.le_of_ble_eq_true rfl) dX8_readLine_15 rfl (fun H locs hM => ?_)
    obtain ⟨g63, hm⟩ := g_t hm
    exact r_zret G hr hk hM g63 hm dX8_readLine_18
theorem gX8_readLine {v0 : Nat} {σ : mSt} {out : Int × mSt} (hm : mX8_readLine v0 σ = some out) : isC v0 7 := (g_t hm).1
set_option maxRecDepth 100000 in
set_option maxHeartbeats 4000000 in
theorem wX8_readText_B75 (l : Launch) (E : mE) (out : Int × mSt) {p : Program} {e : Env} {s : State} {m : MethodId} {args : Array Value} {below : List Frame} {meth : Method} {c : Code} (G : CallFix p m c cX8_readText 6 s args mTs RX8) (hr : meth.sig.returnType = (some .int)) (hk : meth.locks = false) (v0 : Nat) (v1 : Nat) (v2 : Int) (v3 : Nat) (g0 : isC v0 7) : ∀ (σ : mSt) (H : Heap) (locs : List Loc) (ls : Array Slot), mX8_readText_B75 v0 v1 v2 v3 σ = some out → mM (mA E 276) E 276 σ s H locs → lv_has ls 6 [(0, .ref (eA E v0))] → mGo l p e 10 328 s m args below meth c E (some (vI out.1)) out.2 H locs (F0 m 75 ls []) := by
  intro σ H locs ls hm hM hl
  unfold mX8_readText_B75 at hm
  refine r_aload_n (np := 76) G hl 0 rfl dX8_readText_75 rfl rfl ?_
  refine r_getI (np := 79) G hM (shp_lt g0 (by decide)) g0 fdX8_2 lkX8_25 dX8_readText_76 rfl ?_
  exact r_iret G hr hk hM hm dX8_readText_79
set_option maxRecDepth 100000 in
set_option maxHeartbeats 4000000 in
theorem wX8_readText_B66 (l : Launch) (E : mE) (out : Int × mSt) {p : Program} {e : Env} {s : State} {m : MethodId} {args : Array Value} {below : List Frame} {meth : Method} {c : Code} (G : CallFix p m c cX8_readText 6 s args mTs RX8) (hr : meth.sig.returnType = (some .int)) (hk : meth.locks = false) (v0 : Nat) (v1 : Nat) (v2 : Int) (v3 : Nat) (g0 : isC v0 7) (c32 : Int → Int → mSt → Option (Int × mSt)) (x75 : mSt → Option (Int × mSt)) (hc32 : ∀ (v4 : Int) (v5 : Int) (σ : mSt) (H : Heap) (locs : List Loc) (ls : Array Slot), c32 v4 v5 σ = some out → mM (mA E 276) E 276 σ s H locs → lv_has ls 6 [(0, .ref (eA E v0)), (4, vI v4), (5, vI v5)] → mGo l p e 10 328 s m args below meth c E (some (vI out.1)) out.2 H locs (F0 m 32 ls [])) (hx75 : ∀ (σ : mSt) (H : Heap) (locs : List Loc) (ls : Array Slot), x75 σ = some out → mM (mA E 276) E 276 σ s H locs → lv_has ls 6 [(0, .ref (eA E v0))] → mGo l p e 10 328 s m args below meth c E (some (vI out.1)) out.2 H locs (F0 m 75 ls [])) : ∀ (v5 : Int) (σ : mSt) (H : Heap) (locs : List Loc) (ls : Array Slot), mX8_readText_B66 v0 v1 v2 v3 c32 x75 v5 σ = some out → mM (mA E 276) E 276 σ s H locs → lv_has ls 6 [(0, .ref (eA E v0)), (5, vI v5)] → mGo l p e 10 328 s m args below meth c E (some (vI out.1)) out.2 H locs (F0 m 66 ls []) := by
  intro v5 σ H locs ls hm hM hl
  unfold mX8_readText_B66 at hm
  refine r_iconst (np := 67) G 0 dX8_readText_66 rfl ?_
  refine r_istore (np := 69) G hl rfl [(4, vI 0), (0, .ref (eA E v0)), (5, vI v5)] dX8_readText_67 rfl (by decide) rfl (fun ls hl => ?_)
  obtain ⟨a1, e2, hm⟩ := bnd_t hm
  refine r_iinc (np := 72) G hl 2 rfl e2 [(5, vI a1), (4, vI 0), (0, .ref (eA E v0))] dX8_readText_69 rfl (by decide) rfl (fun ls hl => ?_)
  refine r_goto (np := 32) G dX8_readText_72 (by decide) ?_
  exact hc32 0 a1 _ _ _ _ hm hM (lv_sub hl [2, 1, 0] rfl)
set_option maxRecDepth 100000 in
set_option maxHeartbeats 4000000 in
theorem wX8_readText_L32 (l : Launch) (E : mE) (out : Int × mSt) {p : Program} {e : Env} {s : State} {m : MethodId} {args : Array Value} {below : List Frame} {meth : Method} {c : Code} (G : CallFix p m c cX8_readText 6 s args mTs RX8) (hr : meth.sig.returnType = (some .int)) (hk : meth.locks = false) (v0 : Nat) (v1 : Nat) (v2 : Int) (v3 : Nat) (g0 : isC v0 7) (x75 : mSt → Option (Int × mSt)) (hx75 : ∀ (σ : mSt) (H : Heap) (locs : List Loc) (ls : Array Slot), x75 σ = some out → mM (mA E 276) E 276 σ s H locs → lv_has ls 6 [(0, .ref (eA E v0))] → mGo l p e 10 328 s m args below meth c E (some (vI out.1)) out.2 H locs (F0 m 75 ls [])) : ∀ (n : Nat) (v4 : Int) (v5 : Int) (σ : mSt) (H : Heap) (locs : List Loc) (ls : Array Slot), mX8_readText_L32 v0 v1 v2 v3 x75 n v4 v5 σ = some out → mM (mA E 276) E 276 σ s H locs → lv_has ls 6 [(0, .ref (eA E v0)), (4, vI v4), (5, vI v5)] → mGo l p e 10 328 s m args below meth c E (some (vI out.1)) out.2 H locs (F0 m 32 ls []) := by
  intro n
  induction n with
  | zero =>
    intro v4 v5 σ H locs ls hm hM hl
    exact absurd hm (by rw [mX8_readText_L32.eq_1]; exact fun h => nomatch h)
  | succ n ih =>
    intro v4 v5 σ H locs ls hm hM hl
    rw [mX8_readText_L32.eq_2] at hm
    refine r_iload (np := 34) G hl 2 rfl dX8_readText_32 rfl ?_
    refine r_bipush (np := 36) G 8 dX8_readText_34 (by decide) rfl ?_
    refine r_icmp_gt (np := 39) (tgt := 75) G rfl (wIk 8 rfl) dX8_readText_36 (by decide) rfl (fun h3 => ?_) (fun h3 => ?_)
    · have hm := b_t h3 hm
      exact hx75 _ _ _ _ hm hM (lv_sub hl [0] rfl)
    · have hm := b_f h3 hm
      refine r_iload (np := 41) G hl 1 rfl dX8_readText_39 rfl ?_
      refine r_if_eq (np := 44) (tgt := 75) G rfl dX8_readText_41 (by decide) rfl (fun h4 => ?_) (fun h4 => ?_)
      · have hm := b_t h4 hm
        exact hx75 _ _ _ _ hm hM (lv_sub hl [0] rfl)
      · have hm := b_f h4 hm
        refine r_aload_n (np := 45) G hl 0 rfl dX8_readText_44 rfl rfl ?_
        obtain ⟨b5, s6, e7, hm⟩ := call_t hm
        refine m_callVI (np := 48) G hM hl.1 [] (qX8_readLine l E σ v0 _ e7) myX8_readLine (shp_lt (gX8_readLine e7) (by decide)) (gX8_readLine e7) rfl (by decide) lkX8_40 ⟨Nat.le_of_ble_eq_true rfl, Nat.le_of_ble_eq_true rfl⟩ ⟨Nat.le_of_ble_eq_true rfl, Nat.le_of_ble_eq_true rfl⟩ [] rfl (Nat.le_of_ble_eq_true rfl) dX8_readText_45 rfl (fun H locs hM => ?_)
        refine r_if_eq (np := 51) (tgt := 66) G rfl dX8_readText_48 (by decide) rfl (fun h8 => ?_) (fun h8 => ?_)
        · have hm := b_t h8 hm
          exact wX8_readText_B66 l E out G hr hk v0 v1 v2 v3 g0 (mX8_readText_L32 v0 v1 v2 v3 x75 n) x75 ih hx75 v5 _ _ _ _ hm hM (lv_sub hl [0, 2] rfl)
        · have hm := b_f h8 hm
          refine r_aload_n (np := 52) G hl 0 rfl dX8_readText_51 rfl rfl ?_
          obtain ⟨r9, e10, hm⟩ := ref_t hm
          refine r_getR (np := 55) G hM (shp_lt g0 (by decide)) g0 e10 fdX8_0 lkX8_12 dX8_readText_52 rfl ?_
          refine r_iconst (np := 56) G 0 dX8_readText_55 rfl ?_
          obtain ⟨b11, s12, e13, hm⟩ := call_t hm
          refine m_callVI (np := 59) G hM hl.1 [vI 0] (qX10_is l E s6 r9 0 _ e13) myX10_is (shp_lt (gX10_is e13) (by decide)) (gX10_is e13) rfl (by decide) lkX8_44 ⟨Nat.le_of_ble_eq_true rfl, Nat.le_of_ble_eq_true rfl⟩ ⟨Nat.le_of_ble_eq_true rfl, Nat.le_of_ble_eq_true rfl⟩ [] rfl (Nat.le_of_ble_eq_true rfl) dX8_readText_56 rfl (fun H locs hM => ?_)
          refine r_if_ne (np := 62) (tgt := 66) G rfl dX8_readText_59 (by decide) rfl (fun h14 => ?_) (fun h14 => ?_)
          · have hm := b_f h14 hm
            exact wX8_readText_B66 l E out G hr hk v0 v1 v2 v3 g0 (mX8_readText_L32 v0 v1 v2 v3 x75 n) x75 ih hx75 v5 _ _ _ _ hm hM (lv_sub hl [0, 2] rfl)
          · have hm := b_t h14 hm
            refine r_iconst (np := 63) G 1 dX8_readText_62 rfl ?_
            refine r_goto (np := 67) G dX8_readText_63 (by decide) ?_
            refine r_istore (np := 69) G hl rfl [(4, vI 1), (0, .ref (eA E v0)), (5, vI v5)] dX8_readText_67 rfl (by decide) rfl (fun ls hl => ?_)
            obtain ⟨a15, e16, hm⟩ := bnd_t hm
            refine r_iinc (np := 72) G hl 2 rfl e16 [(5, vI a15), (4, vI 1), (0, .ref (eA E v0))] dX8_readText_69 rfl (by decide) rfl (fun ls hl => ?_)
            refine r_goto (np := 32) G dX8_readText_72 (by decide) ?_
            exact ih 1 a15 _ _ _ _ hm hM (lv_sub hl [2, 1, 0] rfl)
set_option maxRecDepth 100000 in
set_option maxHeartbeats 4000000 in
theorem qX8_readText (l : Launch) (E : mE) (σ : mSt) (v0 : Nat) (v1 : Nat) (v2 : Int) (v3 : Nat) (out : Int × mSt) (hm : mX8_readText v0 v1 v2 v3 σ = some out) : mMet l yX8_readText cX8_readText 6 (some .int) 10 328 E 276 [.ref (eA E v0), .ref (eA E v1), vI v2, .ref (eA E v3)] σ (some (vI out.1)) out.2 := by
  unfold mX8_readText at hm
  obtain ⟨g0, hm⟩ := g_t hm
  refine m_entry (by decide +kernel) (Nat.le_of_ble_eq_true rfl) (fun p e s m args below meth c G hr hk hM ls hl => ?_)
  have G : CallFix p m c cX8_readText 6 s args mTs RX8 := G
  have hl : lv_has ls 6 [(0, .ref (eA E v0)), (1, .ref (eA E v1)), (2, vI v2), (3, .ref (eA E v3))] := hl
  refine r_aload_n (np := 1) G hl 0 rfl dX8_readText_0 rfl rfl ?_
  refine r_aload_n (np := 2) G hl 3 rfl dX8_readText_1 rfl rfl ?_
  obtain ⟨g17, hm⟩ := g_t hm
  obtain ⟨s18, e19, hm⟩ := bnd_t hm
  refine r_putR (np := 5) G hM (shp_lt g0 (by decide)) g0 ptX8_1 rfl lkX8_21 g17 (fun _ => rfl) (fun _ => rfl) s18 e19 dX8_readText_2 rfl (fun H locs hM => ?_)
  refine r_aload_n (np := 6) G hl 0 rfl dX8_readText_5 rfl rfl ?_
  obtain ⟨r20, e21, hm⟩ := ref_t hm
  refine r_getR (np := 9) G hM (shp_lt g0 (by decide)) g0 e21 fdX8_1 lkX8_21 dX8_readText_6 rfl ?_
  obtain ⟨b22, s23, e24, hm⟩ := call_t hm
  refine m_callVV (np := 12) G hM hl.1 [] (qX0_clear l E s18 r20 _ e24) myX0_clear (shp_lt (gX0_clear e24) (by decide)) (gX0_clear e24) rfl (by decide) lkX8_33 ⟨Nat.le_of_ble_eq_true rfl, Nat.le_of_ble_eq_true rfl⟩ ⟨Nat.le_of_ble_eq_true rfl, Nat.le_of_ble_eq_true rfl⟩ [] rfl (Nat.le_of_ble_eq_true rfl) dX8_readText_9 rfl (fun H locs hM => ?_)
  refine r_aload_n (np := 13) G hl 0 rfl dX8_readText_12 rfl rfl ?_
  refine r_iconst (np := 14) G 0 dX8_readText_13 rfl ?_
  obtain ⟨s25, e26, hm⟩ := bnd_t hm
  refine r_putI (np := 17) G hM (shp_lt g0 (by decide)) g0 ptX8_2 rfl lkX8_25 s25 e26 dX8_readText_14 rfl (fun H locs hM => ?_)
  refine r_aload_n (np := 18) G hl 0 rfl dX8_readText_17 rfl rfl ?_
  obtain ⟨r27, e28, hm⟩ := ref_t hm
  refine r_getR (np := 21) G hM (shp_lt g0 (by decide)) g0 e28 fdX8_0 lkX8_12 dX8_readText_18 rfl ?_
  refine r_aload_n (np := 22) G hl 1 rfl dX8_readText_21 rfl rfl ?_
  refine r_iload_n (np := 23) G hl 2 rfl dX8_readText_22 rfl rfl ?_
  obtain ⟨b29, s30, e31, hm⟩ := call_t hm
  refine m_callVV (np := 26) G hM hl.1 [.ref (eA E v1), vI v2] (qX10_begin l E s25 r27 v1 v2 _ e31) myX10_begin (shp_lt (gX10_begin e31) (by decide)) (gX10_begin e31) rfl (by decide) lkX8_36 ⟨Nat.le_of_ble_eq_true rfl, Nat.le_of_ble_eq_true rfl⟩ ⟨Nat.le_of_ble_eq_true rfl, Nat.le_of_ble_eq_true rfl⟩ [] rfl (Nat.le_of_ble_eq_true rfl) dX8_readText_23 rfl (fun H locs hM => ?_)
  refine r_iconst (np := 27) G 1 dX8_readText_26 rfl ?_
  refine r_istore (np := 29) G hl rfl [(4, vI 1), (0, .ref (eA E v0)), (1, .ref (eA E v1)), (2, vI v2), (3, .ref (eA E v3))] dX8_readText_27 rfl (by decide) rfl (fun ls hl => ?_)
  refine r_iconst (np := 30) G 0 dX8_readText_29 rfl ?_
  refine r_istore (np := 32) G hl rfl [(5, vI 0), (4, vI 1), (0, .ref (eA E v0)), (1, .ref (eA E v1)), (2, vI v2), (3, .ref (eA E v3))] dX8_readText_30 rfl (by decide) rfl (fun ls hl => ?_)
  exact wX8_readText_L32 l E out G hr hk v0 v1 v2 v3 g0 (fun zσ => mX8_readText_B75 v0 v1 v2 v3 zσ) (fun zσ zH zl zs zm zM zv => wX8_readText_B75 l E out G hr hk v0 v1 v2 v3 g0 zσ zH zl zs zm zM zv) mF 1 0 _ _ _ _ hm hM (lv_sub hl [2, 1, 0] rfl)
theorem gX8_readText {v0 : Nat} {v1 : Nat} {v2 : Int} {v3 : Nat} {σ : mSt} {out : Int × mSt} (hm : mX8_readText v0 v1 v2 v3 σ = some out) : isC v0 7 := (g_t hm).1
set_option maxRecDepth 100000 in
set_option maxHeartbeats 4000000 in
theorem qX11_text (l : Launch) (E : mE) (σ : mSt) (v0 : Nat) (v1 : Int) (out : Int × mSt) (hm : mX11_text v0 v1 σ = some out) : mMet l yX11_text cX11_text 4 (some .int) 11 353 E 276 [.ref (eA E v0), vI v1] σ (some (vI out.1)) out.2 := by
  unfold mX11_text at hm
  obtain ⟨g0, hm⟩ := g_t hm
  refine m_entry (by decide +kernel) (Nat.le_of_ble_eq_true rfl) (fun p e s m args below meth c G hr hk hM ls hl => ?_)
  have G : CallFix p m c cX11_text 4 s args mTs RX11 := G
  have hl : lv_has ls 4 [(0, .ref (eA E v0)), (1, vI v1)] := hl
  refine r_iload_n (np := 1) G hl 1 rfl dX11_text_0 rfl rfl ?_
  refine r_if_lt (np := 4) (tgt := 12) G rfl dX11_text_1 (by decide) rfl (fun h1 => ?_) (fun h1 => ?_)
  · have hm := b_t h1 hm
    refine r_iconst (np := 13) G (-1) dX11_text_12 rfl ?_
    exact r_iret G hr hk hM hm dX11_text_13
  · have hm := b_f h1 hm
    refine r_iload_n (np := 5) G hl 1 rfl dX11_text_4 rfl rfl ?_
    refine r_aload_n (np := 6) G hl 0 rfl dX11_text_5 rfl rfl ?_
    refine r_getI (np := 9) G hM (shp_lt g0 (by decide)) g0 fdX11_1 lkX11_13 dX11_text_6 rfl ?_
    refine r_icmp_le (np := 12) (tgt := 14) G rfl rfl dX11_text_9 (by decide) rfl (fun h2 => ?_) (fun h2 => ?_)
    · have hm := b_t h2 hm
      refine r_aload_n (np := 15) G hl 0 rfl dX11_text_14 rfl rfl ?_
      obtain ⟨r3, e4, hm⟩ := ref_t hm
      refine r_getR (np := 18) G hM (shp_lt g0 (by decide)) g0 e4 fdX11_2 lkX11_20 dX11_text_15 rfl ?_
      refine r_aload_n (np := 19) G hl 0 rfl dX11_text_18 rfl rfl ?_
      obtain ⟨r5, e6, hm⟩ := ref_t hm
      refine r_getR (np := 22) G hM (shp_lt g0 (by decide)) g0 e6 fdX11_0 lkX11_9 dX11_text_19 rfl ?_
      refine r_iload_n (np := 23) G hl 1 rfl dX11_text_22 rfl rfl ?_
      refine r_aload_n (np := 24) G hl 0 rfl dX11_text_23 rfl rfl ?_
      obtain ⟨r7, e8, hm⟩ := ref_t hm
      refine r_getR (np := 27) G hM (shp_lt g0 (by decide)) g0 e8 fdX11_4 lkX11_31 dX11_text_24 rfl ?_
      obtain ⟨b9, s10, e11, hm⟩ := call_t hm
      refine m_callVI (np := 30) G hM hl.1 [.ref (eA E r5), vI v1, .ref (eA E r7)] (qX8_readText l E σ r3 r5 v1 r7 _ e11) myX8_readText (shp_lt (gX8_readText e11) (by decide)) (gX8_readText e11) rfl (by decide) lkX11_84 ⟨Nat.le_of_ble_eq_true rfl, Nat.le_of_ble_eq_true rfl⟩ ⟨Nat.le_of_ble_eq_true rfl, Nat.le_of_ble_eq_true rfl⟩ [] rfl (Nat.le_of_ble_eq_true rfl) dX11_text_27 rfl (fun H locs hM => ?_)
      refine r_istore_n (np := 31) G hl rfl [(2, vI b9), (0, .ref (eA E v0)), (1, vI v1)] dX11_text_30 rfl rfl (by decide) rfl (fun ls hl => ?_)
      refine r_aload_n (np := 32) G hl 1 rfl dX11_text_31 rfl rfl ?_
      refine r_iconst (np := 33) G 0 dX11_text_32 rfl ?_
      obtain ⟨s12, e13, hm⟩ := bnd_t hm
      refine r_putI (np := 36) G hM (shp_lt g0 (by decide)) g0 ptX11_1 rfl lkX11_13 s12 e13 dX11_text_33 rfl (fun H locs hM => ?_)
      refine r_iload_n (np := 37) G hl 0 rfl dX11_text_36 rfl rfl ?_
      refine r_if_eq (np := 40) (tgt := 45) G rfl dX11_text_37 (by decide) rfl (fun h14 => ?_) (fun h14 => ?_)
      · have hm := b_t h14 hm
        refine r_aload_n (np := 46) G hl 1 rfl dX11_text_45 rfl rfl ?_
        obtain ⟨r15, e16, hm⟩ := ref_t hm
        refine r_getR (np := 49) G hM (shp_lt g0 (by decide)) g0 e16 fdX11_3 lkX11_27 dX11_text_46 rfl ?_
        refine r_astore_n (np := 50) G hl rfl [(3, .ref (eA E r15)), (2, vI b9), (0, .ref (eA E v0)), (1, vI v1)] dX11_text_49 rfl rfl (by decide) rfl (fun ls hl => ?_)
        refine r_aload_n (np := 51) G hl 2 rfl dX11_text_50 rfl rfl ?_
        refine r_aload_n (np := 52) G hl 2 rfl dX11_text_51 rfl rfl ?_
        obtain ⟨r17, e18, hm⟩ := ref_t hm
        refine r_getR (np := 55) G hM (shp_lt g0 (by decide)) g0 e18 fdX11_4 lkX11_31 dX11_text_52 rfl ?_
        obtain ⟨g19, hm⟩ := g_t hm
        obtain ⟨s20, e21, hm⟩ := bnd_t hm
        refine r_putR (np := 58) G hM (shp_lt g0 (by decide)) g0 ptX11_3 rfl lkX11_27 g19 (fun _ => rfl) (fun _ => rfl) s20 e21 dX11_text_55 rfl (fun H locs hM => ?_)
        refine r_aload_n (np := 59) G hl 2 rfl dX11_text_58 rfl rfl ?_
        refine r_aload_n (np := 60) G hl 0 rfl dX11_text_59 rfl rfl ?_
        obtain ⟨g22, hm⟩ := g_t hm
        obtain ⟨s23, e24, hm⟩ := bnd_t hm
        refine r_putR (np := 63) G hM (shp_lt g0 (by decide)) g0 ptX11_4 rfl lkX11_31 g22 (fun _ => rfl) (fun _ => rfl) s23 e24 dX11_text_60 rfl (fun H locs hM => ?_)
        refine r_aload_n (np := 64) G hl 2 rfl dX11_text_63 rfl rfl ?_
        obtain ⟨b25, s26, e27, hm⟩ := call_t hm
        refine m_callVV (np := 67) G hM hl.1 [] (qX11_beginAnew l E s23 v0 _ e27) myX11_beginAnew (shp_lt (gX11_beginAnew e27) (by decide)) (gX11_beginAnew e27) rfl (by decide) lkX11_88 ⟨Nat.le_of_ble_eq_true rfl, Nat.le_of_ble_eq_true rfl⟩ ⟨Nat.le_of_ble_eq_true rfl, Nat.le_of_ble_eq_true rfl⟩ [] rfl (Nat.le_of_ble_eq_true rfl) dX11_text_64 rfl (fun H locs hM => ?_)
        refine r_aload_n (np := 68) G hl 2 rfl dX11_text_67 rfl rfl ?_
        obtain ⟨r28, e29, hm⟩ := ref_t hm
        refine r_getR (np := 71) G hM (shp_lt g0 (by decide)) g0 e29 fdX11_3 lkX11_27 dX11_text_68 rfl ?_
        obtain ⟨b30, s31, e32, hm⟩ := call_t hm
        refine m_callVI (np := 74) G hM hl.1 [] (qX0_size l E s26 r28 _ e32) myX0_size (shp_lt (gX0_size e32) (by decide)) (gX0_size e32) rfl (by decide) lkX11_91 ⟨Nat.le_of_ble_eq_true rfl, Nat.le_of_ble_eq_true rfl⟩ ⟨Nat.le_of_ble_eq_true rfl, Nat.le_of_ble_eq_true rfl⟩ [] rfl (Nat.le_of_ble_eq_true rfl) dX11_text_71 rfl (fun H locs hM => ?_)
        exact r_iret G hr hk hM hm dX11_text_74
      · have hm := b_f h14 hm
        refine r_bipush (np := 42) G (-2) dX11_text_40 (by decide) rfl ?_
        refine r_iload_n (np := 43) G hl 0 rfl dX11_text_42 rfl rfl ?_
        refine r_isub (np := 44) G dX11_text_43 rfl ?_
        exact r_iret G hr hk hM hm dX11_text_44
    · have hm := b_f h2 hm
      refine r_iconst (np := 13) G (-1) dX11_text_12 rfl ?_
      exact r_iret G hr hk hM hm dX11_text_13
theorem gX11_text {v0 : Nat} {v1 : Int} {σ : mSt} {out : Int × mSt} (hm : mX11_text v0 v1 σ = some out) : isC v0 10 := (g_t hm).1
set_option maxRecDepth 100000 in
set_option maxHeartbeats 4000000 in
theorem wX12_spelled_B33 (l : Launch) (E : mE) (out : Int × mSt) {p : Program} {e : Env} {s : State} {m : MethodId} {args : Array Value} {below : List Frame} {meth : Method} {c : Code} (G : CallFix p m c cX12_spelled 4 s args mTs RX12) (hr : meth.sig.returnType = (some .long)) (hk : meth.locks = false) (v0 : Nat) : ∀ (v1 : Int) (σ : mSt) (H : Heap) (locs : List Loc) (ls : Array Slot), mX12_spelled_B33 v0 v1 σ = some out → mM (mA E 276) E 276 σ s H locs → lv_has ls 4 [(1, vL v1)] → mGo l p e 5 221 s m args below meth c E (some (vL out.1)) out.2 H locs (F0 m 33 ls []) := by
  intro v1 σ H locs ls hm hM hl
  unfold mX12_spelled_B33 at hm
  refine r_lload_n (np := 34) G hl 0 rfl dX12_spelled_33 rfl rfl ?_
  exact r_lret G hr hk hM hm dX12_spelled_34
set_option maxRecDepth 100000 in
set_option maxHeartbeats 4000000 in
theorem wX12_spelled_L4 (l : Launch) (E : mE) (out : Int × mSt) {p : Program} {e : Env} {s : State} {m : MethodId} {args : Array Value} {below : List Frame} {meth : Method} {c : Code} (G : CallFix p m c cX12_spelled 4 s args mTs RX12) (hr : meth.sig.returnType = (some .long)) (hk : meth.locks = false) (v0 : Nat) (x33 : Int → mSt → Option (Int × mSt)) (hx33 : ∀ (v1 : Int) (σ : mSt) (H : Heap) (locs : List Loc) (ls : Array Slot), x33 v1 σ = some out → mM (mA E 276) E 276 σ s H locs → lv_has ls 4 [(1, vL v1)] → mGo l p e 5 221 s m args below meth c E (some (vL out.1)) out.2 H locs (F0 m 33 ls [])) : ∀ (n : Nat) (v1 : Int) (v3 : Int) (σ : mSt) (H : Heap) (locs : List Loc) (ls : Array Slot), mX12_spelled_L4 v0 x33 n v1 v3 σ = some out → mM (mA E 276) E 276 σ s H locs → lv_has ls 4 [(0, .ref (eK E v0)), (1, vL v1), (3, vI v3)] → mGo l p e 5 221 s m args below meth c E (some (vL out.1)) out.2 H locs (F0 m 4 ls []) := by
  intro n
  induction n with
  | zero =>
    intro v1 v3 σ H locs ls hm hM hl
    exact absurd hm (by rw [mX12_spelled_L4.eq_1]; exact fun h => nomatch h)
  | succ n ih =>
    intro v1 v3 σ H locs ls hm hM hl
    rw [mX12_spelled_L4.eq_2] at hm
    refine r_iload_n (np := 5) G hl 2 rfl dX12_spelled_4 rfl rfl ?_
    refine r_aload_n (np := 6) G hl 0 rfl dX12_spelled_5 rfl rfl ?_
    obtain ⟨g1, hm⟩ := g_t hm
    refine r_strlen (np := 9) G hM g1 hl.1 lkX12_134 ⟨Nat.le_of_ble_eq_true rfl, Nat.le_of_ble_eq_true rfl⟩ ⟨Nat.le_of_ble_eq_true rfl, Nat.le_of_ble_eq_true rfl⟩ [vI v3] (Nat.le_of_ble_eq_true rfl) dX12_spelled_6 rfl (fun H locs hM => ?_)
    refine r_icmp_ge (np := 12) (tgt := 33) G rfl rfl dX12_spelled_9 (by decide) rfl (fun h2 => ?_) (fun h2 => ?_)
    · have hm := b_t h2 hm
      exact hx33 v1 _ _ _ _ hm hM (lv_sub hl [1] rfl)
    · have hm := b_f h2 hm
      refine r_lload_n (np := 13) G hl 1 rfl dX12_spelled_12 rfl rfl ?_
      refine r_iconst (np := 14) G 5 dX12_spelled_13 rfl ?_
      refine r_lshl (np := 15) G dX12_spelled_14 rfl ?_
      refine r_aload_n (np := 16) G hl 0 rfl dX12_spelled_15 rfl rfl ?_
      refine r_iload_n (np := 17) G hl 2 rfl dX12_spelled_16 rfl rfl ?_
      obtain ⟨g3, hm⟩ := g_t hm
      refine r_strat (np := 20) G hM g3 hl.1 lkX12_140 ⟨Nat.le_of_ble_eq_true rfl, Nat.le_of_ble_eq_true rfl⟩ ⟨Nat.le_of_ble_eq_true rfl, Nat.le_of_ble_eq_true rfl⟩ [vL (oShlL v1 5)] (Nat.le_of_ble_eq_true rfl) dX12_spelled_17 rfl (fun H locs hM => ?_)
      refine r_i2l (np := 21) G rfl dX12_spelled_20 rfl ?_
      refine r_ldc2 (np := 24) G 96 dX12_spelled_21 lkX12_117 rfl rfl ?_
      refine r_lsub (np := 25) G dX12_spelled_24 rfl ?_
      refine r_lor (np := 26) G dX12_spelled_25 rfl ?_
      obtain ⟨a4, e5, hm⟩ := bnd_t hm
      refine r_lstore_n (np := 27) G hl e5 [(1, vL a4), (0, .ref (eK E v0)), (3, vI v3)] dX12_spelled_26 rfl rfl (by decide) rfl (fun ls hl => ?_)
      obtain ⟨a6, e7, hm⟩ := bnd_t hm
      refine r_iinc (np := 30) G hl 2 rfl e7 [(3, vI a6), (1, vL a4), (0, .ref (eK E v0))] dX12_spelled_27 rfl (by decide) rfl (fun ls hl => ?_)
      refine r_goto (np := 4) G dX12_spelled_30 (by decide) ?_
      exact ih a4 a6 _ _ _ _ hm hM (lv_sub hl [2, 1, 0] rfl)
set_option maxRecDepth 100000 in
set_option maxHeartbeats 4000000 in
theorem qX12_spelled (l : Launch) (E : mE) (σ : mSt) (v0 : Nat) (out : Int × mSt) (hm : mX12_spelled v0 σ = some out) : mMet l yX12_spelled cX12_spelled 4 (some .long) 5 221 E 276 [.ref (eK E v0)] σ (some (vL out.1)) out.2 := by
  unfold mX12_spelled at hm
  refine m_entry (by decide +kernel) (Nat.le_of_ble_eq_true rfl) (fun p e s m args below meth c G hr hk hM ls hl => ?_)
  have G : CallFix p m c cX12_spelled 4 s args mTs RX12 := G
  have hl : lv_has ls 4 [(0, .ref (eK E v0))] := hl
  refine r_lconst (np := 1) G 0 dX12_spelled_0 rfl rfl ?_
  refine r_lstore_n (np := 2) G hl rfl [(1, vL 0), (0, .ref (eK E v0))] dX12_spelled_1 rfl rfl (by decide) rfl (fun ls hl => ?_)
  refine r_iconst (np := 3) G 0 dX12_spelled_2 rfl ?_
  refine r_istore_n (np := 4) G hl rfl [(3, vI 0), (1, vL 0), (0, .ref (eK E v0))] dX12_spelled_3 rfl rfl (by decide) rfl (fun ls hl => ?_)
  exact wX12_spelled_L4 l E out G hr hk v0 (fun z1 zσ => mX12_spelled_B33 v0 z1 zσ) (fun z1 zσ zH zl zs zm zM zv => wX12_spelled_B33 l E out G hr hk v0 z1 zσ zH zl zs zm zM zv) mF 0 0 _ _ _ _ hm hM (lv_sub hl [2, 1, 0] rfl)
set_option maxRecDepth 100000 in
set_option maxHeartbeats 4000000 in
theorem wX12_is_B24 (l : Launch) (E : mE) (out : Int × mSt) {p : Program} {e : Env} {s : State} {m : MethodId} {args : Array Value} {below : List Frame} {meth : Method} {c : Code} (G : CallFix p m c cX12_is 2 s args mTs RX12) (hr : meth.sig.returnType = (some .boolean)) (hk : meth.locks = false) (v0 : Nat) (v1 : Nat) (g0 : isC v0 11) : ∀ (σ : mSt) (H : Heap) (locs : List Loc) (ls : Array Slot), mX12_is_B24 v0 v1 σ = some out → mM (mA E 276) E 276 σ s H locs → lv_has ls 2 [] → mGo l p e 6 244 s m args below meth c E (some (vI out.1)) out.2 H locs (F0 m 24 ls []) := by
  intro σ H locs ls hm hM hl
  unfold mX12_is_B24 at hm
  refine r_iconst (np := 25) G 0 dX12_is_24 rfl ?_
  exact r_zret G hr hk hM (Or.inl rfl) hm dX12_is_25
set_option maxRecDepth 100000 in
set_option maxHeartbeats 4000000 in
theorem qX12_is (l : Launch) (E : mE) (σ : mSt) (v0 : Nat) (v1 : Nat) (out : Int × mSt) (hm : mX12_is v0 v1 σ = some out) : mMet l yX12_is cX12_is 2 (some .boolean) 6 244 E 276 [.ref (eA E v0), .ref (eK E v1)] σ (some (vI out.1)) out.2 := by
  unfold mX12_is at hm
  obtain ⟨g0, hm⟩ := g_t hm
  refine m_entry (by decide +kernel) (Nat.le_of_ble_eq_true rfl) (fun p e s m args below meth c G hr hk hM ls hl => ?_)
  have G : CallFix p m c cX12_is 2 s args mTs RX12 := G
  have hl : lv_has ls 2 [(0, .ref (eA E v0)), (1, .ref (eK E v1))] := hl
  refine r_aload_n (np := 1) G hl 0 rfl dX12_is_0 rfl rfl ?_
  refine r_getI (np := 4) G hM (shp_lt g0 (by decide)) g0 fdX12_6 lkX12_99 dX12_is_1 rfl ?_
  refine r_iconst (np := 5) G 1 dX12_is_4 rfl ?_
  refine r_icmp_ne (np := 8) (tgt := 24) G rfl (wIk 1 rfl) dX12_is_5 (by decide) rfl (fun h1 => ?_) (fun h1 => ?_)
  · have hm := b_f h1 hm
    exact wX12_is_B24 l E out G hr hk v0 v1 g0 _ _ _ _ hm hM (lv_sub hl [] rfl)
  · have hm := b_t h1 hm
    refine r_aload_n (np := 9) G hl 0 rfl dX12_is_8 rfl rfl ?_
    refine r_getL (np := 12) G hM (shp_lt g0 (by decide)) g0 fdX12_8 lkX12_105 dX12_is_9 rfl ?_
    refine r_aload_n (np := 13) G hl 1 rfl dX12_is_12 rfl rfl ?_
    obtain ⟨b2, s3, e4, hm⟩ := call_t hm
    refine m_callSL (np := 16) G hM hl.1 [.ref (eK E v1)] (qX12_spelled l E σ v1 _ e4) myX12_spelled lkX12_144 ⟨Nat.le_of_ble_eq_true rfl, Nat.le_of_ble_eq_true rfl⟩ ⟨Nat.le_of_ble_eq_true rfl, Nat.le_of_ble_eq_true rfl⟩ [vL (σ v0 8)] rfl (Nat.le_of_ble_eq_true rfl) dX12_is_13 rfl (fun H locs hM => ?_)
    refine r_lcmp_ne (np := 20) (tgt := 24) G rfl rfl dX12_is_16 dX12_is_17 (by decide) rfl (fun h5 => ?_) (fun h5 => ?_)
    · have hm := b_f h5 hm
      exact wX12_is_B24 l E out G hr hk v0 v1 g0 _ _ _ _ hm hM (lv_sub hl [] rfl)
    · have hm := b_t h5 hm
      refine r_iconst (np := 21) G 1 dX12_is_20 rfl ?_
      refine r_goto (np := 25) G dX12_is_21 (by decide) ?_
      exact r_zret G hr hk hM (Or.inr rfl) hm dX12_is_25
theorem gX12_is {v0 : Nat} {v1 : Nat} {σ : mSt} {out : Int × mSt} (hm : mX12_is v0 v1 σ = some out) : isC v0 11 := (g_t hm).1
set_option maxRecDepth 100000 in
set_option maxHeartbeats 4000000 in
theorem wX12_isName_B39 (l : Launch) (E : mE) (out : Int × mSt) {p : Program} {e : Env} {s : State} {m : MethodId} {args : Array Value} {below : List Frame} {meth : Method} {c : Code} (G : CallFix p m c cX12_isName 1 s args mTs RX12) (hr : meth.sig.returnType = (some .boolean)) (hk : meth.locks = false) (v0 : Nat) (g0 : isC v0 11) : ∀ (σ : mSt) (H : Heap) (locs : List Loc) (ls : Array Slot), mX12_isName_B39 v0 σ = some out → mM (mA E 276) E 276 σ s H locs → lv_has ls 1 [] → mGo l p e 7 265 s m args below meth c E (some (vI out.1)) out.2 H locs (F0 m 39 ls []) := by
  intro σ H locs ls hm hM hl
  unfold mX12_isName_B39 at hm
  refine r_iconst (np := 40) G 0 dX12_isName_39 rfl ?_
  exact r_zret G hr hk hM (Or.inl rfl) hm dX12_isName_40
set_option maxRecDepth 100000 in
set_option maxHeartbeats 4000000 in
theorem qX12_isName (l : Launch) (E : mE) (σ : mSt) (v0 : Nat) (out : Int × mSt) (hm : mX12_isName v0 σ = some out) : mMet l yX12_isName cX12_isName 1 (some .boolean) 7 265 E 276 [.ref (eA E v0)] σ (some (vI out.1)) out.2 := by
  unfold mX12_isName at hm
  obtain ⟨g0, hm⟩ := g_t hm
  refine m_entry (by decide +kernel) (Nat.le_of_ble_eq_true rfl) (fun p e s m args below meth c G hr hk hM ls hl => ?_)
  have G : CallFix p m c cX12_isName 1 s args mTs RX12 := G
  have hl : lv_has ls 1 [(0, .ref (eA E v0))] := hl
  refine r_aload_n (np := 1) G hl 0 rfl dX12_isName_0 rfl rfl ?_
  refine r_getI (np := 4) G hM (shp_lt g0 (by decide)) g0 fdX12_6 lkX12_99 dX12_isName_1 rfl ?_
  refine r_iconst (np := 5) G 1 dX12_isName_4 rfl ?_
  refine r_icmp_ne (np := 8) (tgt := 39) G rfl (wIk 1 rfl) dX12_isName_5 (by decide) rfl (fun h1 => ?_) (fun h1 => ?_)
  · have hm := b_f h1 hm
    exact wX12_isName_B39 l E out G hr hk v0 g0 _ _ _ _ hm hM (lv_sub hl [] rfl)
  · have hm := b_t h1 hm
    refine r_aload_n (np := 9) G hl 0 rfl dX12_isName_8 rfl rfl ?_
    refine r_ldcSm (np := 11) G hM 0 (by decide) dX12_isName_9 rfl ?_
    obtain ⟨b2, s3, e4, hm⟩ := call_t hm
    refine m_callVI (np := 14) G hM hl.1 [.ref (eK E 0)] (qX12_is l E σ v0 0 _ e4) myX12_is (shp_lt (gX12_is e4) (by decide)) (gX12_is e4) rfl (by decide) lkX12_150 ⟨Nat.le_of_ble_eq_true rfl, Nat.le_of_ble_eq_true rfl⟩ ⟨Nat.le_of_ble_eq_true rfl, Nat.le_of_ble_eq_true rfl⟩ [] rfl (Nat.le_of_ble_eq_true rfl) dX12_isName_11 rfl (fun H locs hM => ?_)
    refine r_if_ne (np := 17) (tgt := 39) G rfl dX12_isName_14 (by decide) rfl (fun h5 => ?_) (fun h5 => ?_)
    · have hm := b_f h5 hm
      exact wX12_isName_B39 l E out G hr hk v0 g0 _ _ _ _ hm hM (lv_sub hl [] rfl)
    · have hm := b_t h5 hm
      refine r_aload_n (np := 18) G hl 0 rfl dX12_isName_17 rfl rfl ?_
      refine r_ldcSm (np := 20) G hM 1 (by decide) dX12_isName_18 rfl ?_
      obtain ⟨b6, s7, e8, hm⟩ := call_t hm
      refine m_callVI (np := 23) G hM hl.1 [.ref (eK E 1)] (qX12_is l E s3 v0 1 _ e8) myX12_is (shp_lt (gX12_is e8) (by decide)) (gX12_is e8) rfl (by decide) lkX12_150 ⟨Nat.le_of_ble_eq_true rfl, Nat.le_of_ble_eq_true rfl⟩ ⟨Nat.le_of_ble_eq_true rfl, Nat.le_of_ble_eq_true rfl⟩ [] rfl (Nat.le_of_ble_eq_true rfl) dX12_isName_20 rfl (fun H locs hM => ?_)
      refine r_if_ne (np := 26) (tgt := 39) G rfl dX12_isName_23 (by decide) rfl (fun h9 => ?_) (fun h9 => ?_)
      · have hm := b_f h9 hm
        exact wX12_isName_B39 l E out G hr hk v0 g0 _ _ _ _ hm hM (lv_sub hl [] rfl)
      · have hm := b_t h9 hm
        refine r_aload_n (np := 27) G hl 0 rfl dX12_isName_26 rfl rfl ?_
        refine r_ldcSm (np := 29) G hM 2 (by decide) dX12_isName_27 rfl ?_
        obtain ⟨b10, s11, e12, hm⟩ := call_t hm
        refine m_callVI (np := 32) G hM hl.1 [.ref (eK E 2)] (qX12_is l E s7 v0 2 _ e12) myX12_is (shp_lt (gX12_is e12) (by decide)) (gX12_is e12) rfl (by decide) lkX12_150 ⟨Nat.le_of_ble_eq_true rfl, Nat.le_of_ble_eq_true rfl⟩ ⟨Nat.le_of_ble_eq_true rfl, Nat.le_of_ble_eq_true rfl⟩ [] rfl (Nat.le_of_ble_eq_true rfl) dX12_isName_29 rfl (fun H locs hM => ?_)
        refine r_if_ne (np := 35) (tgt := 39) G rfl dX12_isName_32 (by decide) rfl (fun h13 => ?_) (fun h13 => ?_)
        · have hm := b_f h13 hm
          exact wX12_isName_B39 l E out G hr hk v0 g0 _ _ _ _ hm hM (lv_sub hl [] rfl)
        · have hm := b_t h13 hm
          refine r_iconst (np := 36) G 1 dX12_isName_35 rfl ?_
          refine r_goto (np := 40) G dX12_isName_36 (by decide) ?_
          exact r_zret G hr hk hM (Or.inr rfl) hm dX12_isName_40
theorem gX12_isName {v0 : Nat} {σ : mSt} {out : Int × mSt} (hm : mX12_isName v0 σ = some out) : isC v0 11 := (g_t hm).1
set_option maxRecDepth 100000 in
set_option maxHeartbeats 4000000 in
theorem wX12_newName_B33 (l : Launch) (E : mE) (out : Int × mSt) {p : Program} {e : Env} {s : State} {m : MethodId} {args : Array Value} {below : List Frame} {meth : Method} {c : Code} (G : CallFix p m c cX12_newName 1 s args mTs RX12) (hr : meth.sig.returnType = (some .boolean)) (hk : meth.locks = false) (v0 : Nat) (g0 : isC v0 11) : ∀ (t0 : Nat) (t1 : Int) (σ : mSt) (H : Heap) (locs : List Loc) (ls : Array Slot), mX12_newName_B33 v0 t0 t1 σ = some out → mM (mA E 276) E 276 σ s H locs → lv_has ls 1 [(0, .ref (eA E v0))] → mGo l p e 8 285 s m args below meth c E (some (vI out.1)) out.2 H locs (F0 m 33 ls [vI t1, .ref (eA E t0)]) := by
  intro t0 t1 σ H locs ls hm hM hl
  unfold mX12_newName_B33 at hm
  refine r_iconst (np := 34) G 2 dX12_newName_33 rfl ?_
  obtain ⟨b1, s2, e3, hm⟩ := call_t hm
  refine m_callVI (np := 37) G hM hl.1 [vI t1, vI 2] (qX12_must l E σ t0 t1 2 _ e3) myX12_must (shp_lt (gX12_must e3) (by decide)) (gX12_must e3) rfl (by decide) lkX12_171 ⟨Nat.le_of_ble_eq_true rfl, Nat.le_of_ble_eq_true rfl⟩ ⟨Nat.le_of_ble_eq_true rfl, Nat.le_of_ble_eq_true rfl⟩ [] rfl (Nat.le_of_ble_eq_true rfl) dX12_newName_34 rfl (fun H locs hM => ?_)
  refine r_if_ne (np := 40) (tgt := 42) G rfl dX12_newName_37 (by decide) rfl (fun h4 => ?_) (fun h4 => ?_)
  · have hm := b_f h4 hm
    refine r_aload_n (np := 43) G hl 0 rfl dX12_newName_42 rfl rfl ?_
    obtain ⟨r5, e6, hm⟩ := ref_t hm
    refine r_getR (np := 46) G hM (shp_lt g0 (by decide)) g0 e6 fdX12_13 lkX12_17 dX12_newName_43 rfl ?_
    refine r_aload_n (np := 47) G hl 0 rfl dX12_newName_46 rfl rfl ?_
    refine r_aload_n (np := 48) G hl 0 rfl dX12_newName_47 rfl rfl ?_
    obtain ⟨r7, e8, hm⟩ := ref_t hm
    refine r_getR (np := 51) G hM (shp_lt g0 (by decide)) g0 e8 fdX12_12 lkX12_13 dX12_newName_48 rfl ?_
    refine r_aload_n (np := 52) G hl 0 rfl dX12_newName_51 rfl rfl ?_
    refine r_getI (np := 55) G hM (shp_lt g0 (by decide)) g0 fdX12_11 lkX12_158 dX12_newName_52 rfl ?_
    obtain ⟨g9, hm⟩ := g_t hm
    refine r_iaload (np := 56) G hM g9 rfl dX12_newName_55 rfl ?_
    obtain ⟨b10, s11, e12, hm⟩ := call_t hm
    refine m_callVI (np := 59) G hM hl.1 [vI (s2 r7 (wI (s2 v0 11)).toNat)] (qX12_at l E s2 v0 (s2 r7 (wI (s2 v0 11)).toNat) _ e12) myX12_at (shp_lt (gX12_at e12) (by decide)) (gX12_at e12) rfl (by decide) lkX12_161 ⟨Nat.le_of_ble_eq_true rfl, Nat.le_of_ble_eq_true rfl⟩ ⟨Nat.le_of_ble_eq_true rfl, Nat.le_of_ble_eq_true rfl⟩ [.ref (eA E r5)] rfl (Nat.le_of_ble_eq_true rfl) dX12_newName_56 rfl (fun H locs hM => ?_)
    refine r_aload_n (np := 60) G hl 0 rfl dX12_newName_59 rfl rfl ?_
    refine r_getL (np := 63) G hM (shp_lt g0 (by decide)) g0 fdX12_8 lkX12_105 dX12_newName_60 rfl ?_
    obtain ⟨g13, hm⟩ := g_t hm
    obtain ⟨s14, e15, hm⟩ := bnd_t hm
    refine r_lastore (np := 64) G hM g13 rfl s14 e15 dX12_newName_63 rfl (fun H locs hM => ?_)
    refine r_aload_n (np := 65) G hl 0 rfl dX12_newName_64 rfl rfl ?_
    obtain ⟨b16, s17, e18, hm⟩ := call_t hm
    refine m_callVV (np := 68) G hM hl.1 [] (qX12_steps l E s14 v0 _ e18) myX12_steps (shp_lt (gX12_steps e18) (by decide)) (gX12_steps e18) rfl (by decide) lkX12_168 ⟨Nat.le_of_ble_eq_true rfl, Nat.le_of_ble_eq_true rfl⟩ ⟨Nat.le_of_ble_eq_true rfl, Nat.le_of_ble_eq_true rfl⟩ [] rfl (Nat.le_of_ble_eq_true rfl) dX12_newName_65 rfl (fun H locs hM => ?_)
    refine r_iconst (np := 69) G 1 dX12_newName_68 rfl ?_
    exact r_zret G hr hk hM (Or.inr rfl) hm dX12_newName_69
  · have hm := b_t h4 hm
    refine r_iconst (np := 41) G 0 dX12_newName_40 rfl ?_
    exact r_zret G hr hk hM (Or.inl rfl) hm dX12_newName_41
set_option maxRecDepth 100000 in
set_option maxHeartbeats 4000000 in
theorem qX12_newName (l : Launch) (E : mE) (σ : mSt) (v0 : Nat) (out : Int × mSt) (hm : mX12_newName v0 σ = some out) : mMet l yX12_newName cX12_newName 1 (some .boolean) 8 285 E 276 [.ref (eA E v0)] σ (some (vI out.1)) out.2 := by
  unfold mX12_newName at hm
  obtain ⟨g0, hm⟩ := g_t hm
  refine m_entry (by decide +kernel) (Nat.le_of_ble_eq_true rfl) (fun p e s m args below meth c G hr hk hM ls hl => ?_)
  have G : CallFix p m c cX12_newName 1 s args mTs RX12 := G
  have hl : lv_has ls 1 [(0, .ref (eA E v0))] := hl
  refine r_aload_n (np := 1) G hl 0 rfl dX12_newName_0 rfl rfl ?_
  obtain ⟨b19, s20, e21, hm⟩ := call_t hm
  refine m_callVV (np := 4) G hM hl.1 [] (qX12_steps l E σ v0 _ e21) myX12_steps (shp_lt (gX12_steps e21) (by decide)) (gX12_steps e21) rfl (by decide) lkX12_168 ⟨Nat.le_of_ble_eq_true rfl, Nat.le_of_ble_eq_true rfl⟩ ⟨Nat.le_of_ble_eq_true rfl, Nat.le_of_ble_eq_true rfl⟩ [] rfl (Nat.le_of_ble_eq_true rfl) dX12_newName_1 rfl (fun H locs hM => ?_)
  refine r_aload_n (np := 5) G hl 0 rfl dX12_newName_4 rfl rfl ?_
  refine r_aload_n (np := 6) G hl 0 rfl dX12_newName_5 rfl rfl ?_
  obtain ⟨b22, s23, e24, hm⟩ := call_t hm
  refine m_callVI (np := 9) G hM hl.1 [] (qX12_isName l E s20 v0 _ e24) myX12_isName (shp_lt (gX12_isName e24) (by decide)) (gX12_isName e24) rfl (by decide) lkX12_187 ⟨Nat.le_of_ble_eq_true rfl, Nat.le_of_ble_eq_true rfl⟩ ⟨Nat.le_of_ble_eq_true rfl, Nat.le_of_ble_eq_true rfl⟩ [.ref (eA E v0)] rfl (Nat.le_of_ble_eq_true rfl) dX12_newName_6 rfl (fun H locs hM => ?_)
  refine r_iconst (np := 10) G 1 dX12_newName_9 rfl ?_
  obtain ⟨b25, s26, e27, hm⟩ := call_t hm
  refine m_callVI (np := 13) G hM hl.1 [vI b22, vI 1] (qX12_must l E s23 v0 b22 1 _ e27) myX12_must (shp_lt (gX12_must e27) (by decide)) (gX12_must e27) rfl (by decide) lkX12_171 ⟨Nat.le_of_ble_eq_true rfl, Nat.le_of_ble_eq_true rfl⟩ ⟨Nat.le_of_ble_eq_true rfl, Nat.le_of_ble_eq_true rfl⟩ [] rfl (Nat.le_of_ble_eq_true rfl) dX12_newName_10 rfl (fun H locs hM => ?_)
  refine r_if_eq (np := 16) (tgt := 40) G rfl dX12_newName_13 (by decide) rfl (fun h28 => ?_) (fun h28 => ?_)
  · have hm := b_t h28 hm
    refine r_iconst (np := 41) G 0 dX12_newName_40 rfl ?_
    exact r_zret G hr hk hM (Or.inl rfl) hm dX12_newName_41
  · have hm := b_f h28 hm
    refine r_aload_n (np := 17) G hl 0 rfl dX12_newName_16 rfl rfl ?_
    refine r_aload_n (np := 18) G hl 0 rfl dX12_newName_17 rfl rfl ?_
    refine r_aload_n (np := 19) G hl 0 rfl dX12_newName_18 rfl rfl ?_
    refine r_getL (np := 22) G hM (shp_lt g0 (by decide)) g0 fdX12_8 lkX12_105 dX12_newName_19 rfl ?_
    obtain ⟨b29, s30, e31, hm⟩ := call_t hm
    refine m_callVI (np := 25) G hM hl.1 [vL (s26 v0 8)] (qX12_named l E s26 v0 (s26 v0 8) _ e31) myX12_named (shp_lt (gX12_named e31) (by decide)) (gX12_named e31) rfl (by decide) lkX12_191 ⟨Nat.le_of_ble_eq_true rfl, Nat.le_of_ble_eq_true rfl⟩ ⟨Nat.le_of_ble_eq_true rfl, Nat.le_of_ble_eq_true rfl⟩ [.ref (eA E v0)] rfl (Nat.le_of_ble_eq_true rfl) dX12_newName_22 rfl (fun H locs hM => ?_)
    refine r_if_ge (np := 28) (tgt := 32) G rfl dX12_newName_25 (by decide) rfl (fun h32 => ?_) (fun h32 => ?_)
    · have hm := b_t h32 hm
      refine r_iconst (np := 33) G 0 dX12_newName_32 rfl ?_
      exact wX12_newName_B33 l E out G hr hk v0 g0 v0 0 _ _ _ _ hm hM (lv_sub hl [0] rfl)
    · have hm := b_f h32 hm
      refine r_iconst (np := 29) G 1 dX12_newName_28 rfl ?_
      refine r_goto (np := 33) G dX12_newName_29 (by decide) ?_
      exact wX12_newName_B33 l E out G hr hk v0 g0 v0 1 _ _ _ _ hm hM (lv_sub hl [0] rfl)
theorem gX12_newName {v0 : Nat} {σ : mSt} {out : Int × mSt} (hm : mX12_newName v0 σ = some out) : isC v0 11 := (g_t hm).1
set_option maxRecDepth 100000 in
set_option maxHeartbeats 4000000 in
theorem wX12_sumLine_B175 (l : Launch) (E : mE) (out : Int × mSt) {p : Program} {e : Env} {s : State} {m : MethodId} {args : Array Value} {below : List Frame} {meth : Method} {c : Code} (G : CallFix p m c cX12_sumLine 3 s args mTs RX12) (hr : meth.sig.returnType = (some .boolean)) (hk : meth.locks = false) (v0 : Nat) (v1 : Int) (g0 : isC v0 11) : ∀ (v2 : Int) (σ : mSt) (H : Heap) (locs : List Loc) (ls : Array Slot), mX12_sumLine_B175 v0 v1 v2 σ = some out → mM (mA E 276) E 276 σ s H locs → lv_has ls 3 [(0, .ref (eA E v0)), (1, vI v1), (2, vI v2)] → mGo l p e 8 285 s m args below meth c E (some (vI out.1)) out.2 H locs (F0 m 175 ls []) := by
  intro v2 σ H locs ls hm hM hl
  unfold mX12_sumLine_B175 at hm
  refine r_aload_n (np := 176) G hl 0 rfl dX12_sumLine_175 rfl rfl ?_
  obtain ⟨r1, e2, hm⟩ := ref_t hm
  refine r_getR (np := 179) G hM (shp_lt g0 (by decide)) g0 e2 fdX12_15 lkX12_24 dX12_sumLine_176 rfl ?_
  refine r_aload_n (np := 180) G hl 0 rfl dX12_sumLine_179 rfl rfl ?_
  refine r_iload_n (np := 181) G hl 1 rfl dX12_sumLine_180 rfl rfl ?_
  obtain ⟨b3, s4, e5, hm⟩ := call_t hm
  refine m_callVI (np := 184) G hM hl.1 [vI v1] (qX12_at l E σ v0 v1 _ e5) myX12_at (shp_lt (gX12_at e5) (by decide)) (gX12_at e5) rfl (by decide) lkX12_161 ⟨Nat.le_of_ble_eq_true rfl, Nat.le_of_ble_eq_true rfl⟩ ⟨Nat.le_of_ble_eq_true rfl, Nat.le_of_ble_eq_true rfl⟩ [.ref (eA E r1)] rfl (Nat.le_of_ble_eq_true rfl) dX12_sumLine_181 rfl (fun H locs hM => ?_)
  refine r_iload_n (np := 185) G hl 2 rfl dX12_sumLine_184 rfl rfl ?_
  obtain ⟨g6, hm⟩ := g_t hm
  obtain ⟨s7, e8, hm⟩ := bnd_t hm
  refine r_iastore (np := 186) G hM g6 rfl s7 e8 dX12_sumLine_185 rfl (fun H locs hM => ?_)
  refine r_aload_n (np := 187) G hl 0 rfl dX12_sumLine_186 rfl rfl ?_
  obtain ⟨r9, e10, hm⟩ := ref_t hm
  refine r_getR (np := 190) G hM (shp_lt g0 (by decide)) g0 e10 fdX12_16 lkX12_27 dX12_sumLine_187 rfl ?_
  refine r_aload_n (np := 191) G hl 0 rfl dX12_sumLine_190 rfl rfl ?_
  refine r_iload_n (np := 192) G hl 1 rfl dX12_sumLine_191 rfl rfl ?_
  obtain ⟨b11, s12, e13, hm⟩ := call_t hm
  refine m_callVI (np := 195) G hM hl.1 [vI v1] (qX12_at l E s7 v0 v1 _ e13) myX12_at (shp_lt (gX12_at e13) (by decide)) (gX12_at e13) rfl (by decide) lkX12_161 ⟨Nat.le_of_ble_eq_true rfl, Nat.le_of_ble_eq_true rfl⟩ ⟨Nat.le_of_ble_eq_true rfl, Nat.le_of_ble_eq_true rfl⟩ [.ref (eA E r9)] rfl (Nat.le_of_ble_eq_true rfl) dX12_sumLine_192 rfl (fun H locs hM => ?_)
  refine r_iconst (np := 196) G 0 dX12_sumLine_195 rfl ?_
  obtain ⟨g14, hm⟩ := g_t hm
  obtain ⟨s15, e16, hm⟩ := bnd_t hm
  refine r_iastore (np := 197) G hM g14 rfl s15 e16 dX12_sumLine_196 rfl (fun H locs hM => ?_)
  refine r_iconst (np := 198) G 1 dX12_sumLine_197 rfl ?_
  exact r_zret G hr hk hM (Or.inr rfl) hm dX12_sumLine_198
set_option maxRecDepth 100000 in
set_option maxHeartbeats 4000000 in
theorem wX12_sumLine_B134 (l : Launch) (E : mE) (out : Int × mSt) {p : Program} {e : Env} {s : State} {m : MethodId} {args : Array Value} {below : List Frame} {meth : Method} {c : Code} (G : CallFix p m c cX12_sumLine 3 s args mTs RX12) (hr : meth.sig.returnType = (some .boolean)) (hk : meth.locks = false) (v0 : Nat) (v1 : Int) (g0 : isC v0 11) (c35 : Int → mSt → Option (Int × mSt)) (x175 : Int → mSt → Option (Int × mSt)) (hc35 : ∀ (v2 : Int) (σ : mSt) (H : Heap) (locs : List Loc) (ls : Array Slot), c35 v2 σ = some out → mM (mA E 276) E 276 σ s H locs → lv_has ls 3 [(0, .ref (eA E v0)), (1, vI v1), (2, vI v2)] → mGo l p e 8 285 s m args below meth c E (some (vI out.1)) out.2 H locs (F0 m 35 ls [])) (hx175 : ∀ (v2 : Int) (σ : mSt) (H : Heap) (locs : List Loc) (ls : Array Slot), x175 v2 σ = some out → mM (mA E 276) E 276 σ s H locs → lv_has ls 3 [(0, .ref (eA E v0)), (1, vI v1), (2, vI v2)] → mGo l p e 8 285 s m args below meth c E (some (vI out.1)) out.2 H locs (F0 m 175 ls [])) : ∀ (v2 : Int) (t0 : Nat) (t1 : Int) (σ : mSt) (H : Heap) (locs : List Loc) (ls : Array Slot), mX12_sumLine_B134 v0 v1 c35 x175 v2 t0 t1 σ = some out → mM (mA E 276) E 276 σ s H locs → lv_has ls 3 [(0, .ref (eA E v0)), (1, vI v1), (2, vI v2)] → mGo l p e 8 285 s m args below meth c E (some (vI out.1)) out.2 H locs (F0 m 134 ls [vI t1, .ref (eA E t0)]) := by
  intro v2 t0 t1 σ H locs ls hm hM hl
  unfold mX12_sumLine_B134 at hm
  refine r_iconst (np := 135) G 3 dX12_sumLine_134 rfl ?_
  obtain ⟨b17, s18, e19, hm⟩ := call_t hm
  refine m_callVI (np := 138) G hM hl.1 [vI t1, vI 3] (qX12_must l E σ t0 t1 3 _ e19) myX12_must (shp_lt (gX12_must e19) (by decide)) (gX12_must e19) rfl (by decide) lkX12_171 ⟨Nat.le_of_ble_eq_true rfl, Nat.le_of_ble_eq_true rfl⟩ ⟨Nat.le_of_ble_eq_true rfl, Nat.le_of_ble_eq_true rfl⟩ [] rfl (Nat.le_of_ble_eq_true rfl) dX12_sumLine_135 rfl (fun H locs hM => ?_)
  refine r_if_ne (np := 141) (tgt := 143) G rfl dX12_sumLine_138 (by decide) rfl (fun h20 => ?_) (fun h20 => ?_)
  · have hm := b_f h20 hm
    refine r_aload_n (np := 144) G hl 0 rfl dX12_sumLine_143 rfl rfl ?_
    obtain ⟨r21, e22, hm⟩ := ref_t hm
    refine r_getR (np := 147) G hM (shp_lt g0 (by decide)) g0 e22 fdX12_18 lkX12_33 dX12_sumLine_144 rfl ?_
    refine r_iconst (np := 148) G 4 dX12_sumLine_147 rfl ?_
    refine r_aload_n (np := 149) G hl 0 rfl dX12_sumLine_148 rfl rfl ?_
    refine r_iload_n (np := 150) G hl 1 rfl dX12_sumLine_149 rfl rfl ?_
    obtain ⟨b23, s24, e25, hm⟩ := call_t hm
    refine m_callVI (np := 153) G hM hl.1 [vI v1] (qX12_at l E s18 v0 v1 _ e25) myX12_at (shp_lt (gX12_at e25) (by decide)) (gX12_at e25) rfl (by decide) lkX12_161 ⟨Nat.le_of_ble_eq_true rfl, Nat.le_of_ble_eq_true rfl⟩ ⟨Nat.le_of_ble_eq_true rfl, Nat.le_of_ble_eq_true rfl⟩ [vI 4, .ref (eA E r21)] rfl (Nat.le_of_ble_eq_true rfl) dX12_sumLine_150 rfl (fun H locs hM => ?_)
    refine r_imul (np := 154) G dX12_sumLine_153 rfl ?_
    refine r_iload_n (np := 155) G hl 2 rfl dX12_sumLine_154 rfl rfl ?_
    refine r_iadd (np := 156) G dX12_sumLine_155 rfl ?_
    refine r_aload_n (np := 157) G hl 0 rfl dX12_sumLine_156 rfl rfl ?_
    refine r_aload_n (np := 158) G hl 0 rfl dX12_sumLine_157 rfl rfl ?_
    refine r_getL (np := 161) G hM (shp_lt g0 (by decide)) g0 fdX12_8 lkX12_105 dX12_sumLine_158 rfl ?_
    obtain ⟨b26, s27, e28, hm⟩ := call_t hm
    refine m_callVI (np := 164) G hM hl.1 [vL (s24 v0 8)] (qX12_named l E s24 v0 (s24 v0 8) _ e28) myX12_named (shp_lt (gX12_named e28) (by decide)) (gX12_named e28) rfl (by decide) lkX12_191 ⟨Nat.le_of_ble_eq_true rfl, Nat.le_of_ble_eq_true rfl⟩ ⟨Nat.le_of_ble_eq_true rfl, Nat.le_of_ble_eq_true rfl⟩ [vI ((4 * b23) + v2), .ref (eA E r21)] rfl (Nat.le_of_ble_eq_true rfl) dX12_sumLine_161 rfl (fun H locs hM => ?_)
    obtain ⟨g29, hm⟩ := g_t hm
    obtain ⟨s30, e31, hm⟩ := bnd_t hm
    refine r_iastore (np := 165) G hM g29 rfl s30 e31 dX12_sumLine_164 rfl (fun H locs hM => ?_)
    refine r_aload_n (np := 166) G hl 0 rfl dX12_sumLine_165 rfl rfl ?_
    obtain ⟨b32, s33, e34, hm⟩ := call_t hm
    refine m_callVV (np := 169) G hM hl.1 [] (qX12_steps l E s30 v0 _ e34) myX12_steps (shp_lt (gX12_steps e34) (by decide)) (gX12_steps e34) rfl (by decide) lkX12_168 ⟨Nat.le_of_ble_eq_true rfl, Nat.le_of_ble_eq_true rfl⟩ ⟨Nat.le_of_ble_eq_true rfl, Nat.le_of_ble_eq_true rfl⟩ [] rfl (Nat.le_of_ble_eq_true rfl) dX12_sumLine_166 rfl (fun H locs hM => ?_)
    obtain ⟨a35, e36, hm⟩ := bnd_t hm
    refine r_iinc (np := 172) G hl 2 rfl e36 [(2, vI a35), (0, .ref (eA E v0)), (1, vI v1)] dX12_sumLine_169 rfl (by decide) rfl (fun ls hl => ?_)
    refine r_goto (np := 35) G dX12_sumLine_172 (by decide) ?_
    exact hc35 a35 _ _ _ _ hm hM (lv_sub hl [1, 2, 0] rfl)
  · have hm := b_t h20 hm
    refine r_iconst (np := 142) G 0 dX12_sumLine_141 rfl ?_
    exact r_zret G hr hk hM (Or.inl rfl) hm dX12_sumLine_142
set_option maxRecDepth 100000 in
set_option maxHeartbeats 4000000 in
theorem wX12_sumLine_B100 (l : Launch) (E : mE) (out : Int × mSt) {p : Program} {e : Env} {s : State} {m : MethodId} {args : Array Value} {below : List Frame} {meth : Method} {c : Code} (G : CallFix p m c cX12_sumLine 3 s args mTs RX12) (hr : meth.sig.returnType = (some .boolean)) (hk : meth.locks = false) (v0 : Nat) (v1 : Int) (g0 : isC v0 11) (c35 : Int → mSt → Option (Int × mSt)) (x175 : Int → mSt → Option (Int × mSt)) (hc35 : ∀ (v2 : Int) (σ : mSt) (H : Heap) (locs : List Loc) (ls : Array Slot), c35 v2 σ = some out → mM (mA E 276) E 276 σ s H locs → lv_has ls 3 [(0, .ref (eA E v0)), (1, vI v1), (2, vI v2)] → mGo l p e 8 285 s m args below meth c E (some (vI out.1)) out.2 H locs (F0 m 35 ls [])) (hx175 : ∀ (v2 : Int) (σ : mSt) (H : Heap) (locs : List Loc) (ls : Array Slot), x175 v2 σ = some out → mM (mA E 276) E 276 σ s H locs → lv_has ls 3 [(0, .ref (eA E v0)), (1, vI v1), (2, vI v2)] → mGo l p e 8 285 s m args below meth c E (some (vI out.1)) out.2 H locs (F0 m 175 ls [])) : ∀ (v2 : Int) (t0 : Nat) (t1 : Int) (t2 : Int) (σ : mSt) (H : Heap) (locs : List Loc) (ls : Array Slot), mX12_sumLine_B100 v0 v1 c35 x175 v2 t0 t1 t2 σ = some out → mM (mA E 276) E 276 σ s H locs → lv_has ls 3 [(0, .ref (eA E v0)), (1, vI v1), (2, vI v2)] → mGo l p e 8 285 s m args below meth c E (some (vI out.1)) out.2 H locs (F0 m 100 ls [vI t2, vI t1, .ref (eA E t0)]) := by
  intro v2 t0 t1 t2 σ H locs ls hm hM hl
  unfold mX12_sumLine_B100 at hm
  obtain ⟨g37, hm⟩ := g_t hm
  obtain ⟨s38, e39, hm⟩ := bnd_t hm
  refine r_iastore (np := 101) G hM g37 rfl s38 e39 dX12_sumLine_100 rfl (fun H locs hM => ?_)
  refine r_aload_n (np := 102) G hl 0 rfl dX12_sumLine_101 rfl rfl ?_
  obtain ⟨b40, s41, e42, hm⟩ := call_t hm
  refine m_callVV (np := 105) G hM hl.1 [] (qX12_steps l E s38 v0 _ e42) myX12_steps (shp_lt (gX12_steps e42) (by decide)) (gX12_steps e42) rfl (by decide) lkX12_168 ⟨Nat.le_of_ble_eq_true rfl, Nat.le_of_ble_eq_true rfl⟩ ⟨Nat.le_of_ble_eq_true rfl, Nat.le_of_ble_eq_true rfl⟩ [] rfl (Nat.le_of_ble_eq_true rfl) dX12_sumLine_102 rfl (fun H locs hM => ?_)
  refine r_aload_n (np := 106) G hl 0 rfl dX12_sumLine_105 rfl rfl ?_
  refine r_aload_n (np := 107) G hl 0 rfl dX12_sumLine_106 rfl rfl ?_
  obtain ⟨b43, s44, e45, hm⟩ := call_t hm
  refine m_callVI (np := 110) G hM hl.1 [] (qX12_isName l E s41 v0 _ e45) myX12_isName (shp_lt (gX12_isName e45) (by decide)) (gX12_isName e45) rfl (by decide) lkX12_187 ⟨Nat.le_of_ble_eq_true rfl, Nat.le_of_ble_eq_true rfl⟩ ⟨Nat.le_of_ble_eq_true rfl, Nat.le_of_ble_eq_true rfl⟩ [.ref (eA E v0)] rfl (Nat.le_of_ble_eq_true rfl) dX12_sumLine_107 rfl (fun H locs hM => ?_)
  refine r_iconst (np := 111) G 1 dX12_sumLine_110 rfl ?_
  obtain ⟨b46, s47, e48, hm⟩ := call_t hm
  refine m_callVI (np := 114) G hM hl.1 [vI b43, vI 1] (qX12_must l E s44 v0 b43 1 _ e48) myX12_must (shp_lt (gX12_must e48) (by decide)) (gX12_must e48) rfl (by decide) lkX12_171 ⟨Nat.le_of_ble_eq_true rfl, Nat.le_of_ble_eq_true rfl⟩ ⟨Nat.le_of_ble_eq_true rfl, Nat.le_of_ble_eq_true rfl⟩ [] rfl (Nat.le_of_ble_eq_true rfl) dX12_sumLine_111 rfl (fun H locs hM => ?_)
  refine r_if_eq (np := 117) (tgt := 141) G rfl dX12_sumLine_114 (by decide) rfl (fun h49 => ?_) (fun h49 => ?_)
  · have hm := b_t h49 hm
    refine r_iconst (np := 142) G 0 dX12_sumLine_141 rfl ?_
    exact r_zret G hr hk hM (Or.inl rfl) hm dX12_sumLine_142
  · have hm := b_f h49 hm
    refine r_aload_n (np := 118) G hl 0 rfl dX12_sumLine_117 rfl rfl ?_
    refine r_aload_n (np := 119) G hl 0 rfl dX12_sumLine_118 rfl rfl ?_
    refine r_aload_n (np := 120) G hl 0 rfl dX12_sumLine_119 rfl rfl ?_
    refine r_getL (np := 123) G hM (shp_lt g0 (by decide)) g0 fdX12_8 lkX12_105 dX12_sumLine_120 rfl ?_
    obtain ⟨b50, s51, e52, hm⟩ := call_t hm
    refine m_callVI (np := 126) G hM hl.1 [vL (s47 v0 8)] (qX12_named l E s47 v0 (s47 v0 8) _ e52) myX12_named (shp_lt (gX12_named e52) (by decide)) (gX12_named e52) rfl (by decide) lkX12_191 ⟨Nat.le_of_ble_eq_true rfl, Nat.le_of_ble_eq_true rfl⟩ ⟨Nat.le_of_ble_eq_true rfl, Nat.le_of_ble_eq_true rfl⟩ [.ref (eA E v0)] rfl (Nat.le_of_ble_eq_true rfl) dX12_sumLine_123 rfl (fun H locs hM => ?_)
    refine r_if_lt (np := 129) (tgt := 133) G rfl dX12_sumLine_126 (by decide) rfl (fun h53 => ?_) (fun h53 => ?_)
    · have hm := b_t h53 hm
      refine r_iconst (np := 134) G 0 dX12_sumLine_133 rfl ?_
      exact wX12_sumLine_B134 l E out G hr hk v0 v1 g0 c35 x175 hc35 hx175 v2 v0 0 _ _ _ _ hm hM (lv_sub hl [0, 1, 2] rfl)
    · have hm := b_f h53 hm
      refine r_iconst (np := 130) G 1 dX12_sumLine_129 rfl ?_
      refine r_goto (np := 134) G dX12_sumLine_130 (by decide) ?_
      exact wX12_sumLine_B134 l E out G hr hk v0 v1 g0 c35 x175 hc35 hx175 v2 v0 1 _ _ _ _ hm hM (lv_sub hl [0, 1, 2] rfl)
set_option maxRecDepth 100000 in
set_option maxHeartbeats 4000000 in
theorem wX12_sumLine_B64 (l : Launch) (E : mE) (out : Int × mSt) {p : Program} {e : Env} {s : State} {m : MethodId} {args : Array Value} {below : List Frame} {meth : Method} {c : Code} (G : CallFix p m c cX12_sumLine 3 s args mTs RX12) (hr : meth.sig.returnType = (some .boolean)) (hk : meth.locks = false) (v0 : Nat) (v1 : Int) (g0 : isC v0 11) (c35 : Int → mSt → Option (Int × mSt)) (x175 : Int → mSt → Option (Int × mSt)) (hc35 : ∀ (v2 : Int) (σ : mSt) (H : Heap) (locs : List Loc) (ls : Array Slot), c35 v2 σ = some out → mM (mA E 276) E 276 σ s H locs → lv_has ls 3 [(0, .ref (eA E v0)), (1, vI v1), (2, vI v2)] → mGo l p e 8 285 s m args below meth c E (some (vI out.1)) out.2 H locs (F0 m 35 ls [])) (hx175 : ∀ (v2 : Int) (σ : mSt) (H : Heap) (locs : List Loc) (ls : Array Slot), x175 v2 σ = some out → mM (mA E 276) E 276 σ s H locs → lv_has ls 3 [(0, .ref (eA E v0)), (1, vI v1), (2, vI v2)] → mGo l p e 8 285 s m args below meth c E (some (vI out.1)) out.2 H locs (F0 m 175 ls [])) : ∀ (v2 : Int) (t0 : Nat) (t1 : Int) (σ : mSt) (H : Heap) (locs : List Loc) (ls : Array Slot), mX12_sumLine_B64 v0 v1 c35 x175 v2 t0 t1 σ = some out → mM (mA E 276) E 276 σ s H locs → lv_has ls 3 [(0, .ref (eA E v0)), (1, vI v1), (2, vI v2)] → mGo l p e 8 285 s m args below meth c E (some (vI out.1)) out.2 H locs (F0 m 64 ls [vI t1, .ref (eA E t0)]) := by
  intro v2 t0 t1 σ H locs ls hm hM hl
  unfold mX12_sumLine_B64 at hm
  refine r_iconst (np := 65) G 5 dX12_sumLine_64 rfl ?_
  obtain ⟨b54, s55, e56, hm⟩ := call_t hm
  refine m_callVI (np := 68) G hM hl.1 [vI t1, vI 5] (qX12_must l E σ t0 t1 5 _ e56) myX12_must (shp_lt (gX12_must e56) (by decide)) (gX12_must e56) rfl (by decide) lkX12_171 ⟨Nat.le_of_ble_eq_true rfl, Nat.le_of_ble_eq_true rfl⟩ ⟨Nat.le_of_ble_eq_true rfl, Nat.le_of_ble_eq_true rfl⟩ [] rfl (Nat.le_of_ble_eq_true rfl) dX12_sumLine_65 rfl (fun H locs hM => ?_)
  refine r_if_ne (np := 71) (tgt := 73) G rfl dX12_sumLine_68 (by decide) rfl (fun h57 => ?_) (fun h57 => ?_)
  · have hm := b_f h57 hm
    refine r_aload_n (np := 74) G hl 0 rfl dX12_sumLine_73 rfl rfl ?_
    obtain ⟨r58, e59, hm⟩ := ref_t hm
    refine r_getR (np := 77) G hM (shp_lt g0 (by decide)) g0 e59 fdX12_17 lkX12_30 dX12_sumLine_74 rfl ?_
    refine r_iconst (np := 78) G 4 dX12_sumLine_77 rfl ?_
    refine r_aload_n (np := 79) G hl 0 rfl dX12_sumLine_78 rfl rfl ?_
    refine r_iload_n (np := 80) G hl 1 rfl dX12_sumLine_79 rfl rfl ?_
    obtain ⟨b60, s61, e62, hm⟩ := call_t hm
    refine m_callVI (np := 83) G hM hl.1 [vI v1] (qX12_at l E s55 v0 v1 _ e62) myX12_at (shp_lt (gX12_at e62) (by decide)) (gX12_at e62) rfl (by decide) lkX12_161 ⟨Nat.le_of_ble_eq_true rfl, Nat.le_of_ble_eq_true rfl⟩ ⟨Nat.le_of_ble_eq_true rfl, Nat.le_of_ble_eq_true rfl⟩ [vI 4, .ref (eA E r58)] rfl (Nat.le_of_ble_eq_true rfl) dX12_sumLine_80 rfl (fun H locs hM => ?_)
    refine r_imul (np := 84) G dX12_sumLine_83 rfl ?_
    refine r_iload_n (np := 85) G hl 2 rfl dX12_sumLine_84 rfl rfl ?_
    refine r_iadd (np := 86) G dX12_sumLine_85 rfl ?_
    refine r_aload_n (np := 87) G hl 0 rfl dX12_sumLine_86 rfl rfl ?_
    refine r_bipush (np := 89) G 43 dX12_sumLine_87 (by decide) rfl ?_
    obtain ⟨b63, s64, e65, hm⟩ := call_t hm
    refine m_callVI (np := 92) G hM hl.1 [vI 43] (qX12_isSign l E s61 v0 43 _ e65) myX12_isSign (shp_lt (gX12_isSign e65) (by decide)) (gX12_isSign e65) rfl (by decide) lkX12_164 ⟨Nat.le_of_ble_eq_true rfl, Nat.le_of_ble_eq_true rfl⟩ ⟨Nat.le_of_ble_eq_true rfl, Nat.le_of_ble_eq_true rfl⟩ [vI ((4 * b60) + v2), .ref (eA E r58)] rfl (Nat.le_of_ble_eq_true rfl) dX12_sumLine_89 rfl (fun H locs hM => ?_)
    refine r_if_eq (np := 95) (tgt := 99) G rfl dX12_sumLine_92 (by decide) rfl (fun h66 => ?_) (fun h66 => ?_)
    · have hm := b_t h66 hm
      refine r_iconst (np := 100) G (-1) dX12_sumLine_99 rfl ?_
      exact wX12_sumLine_B100 l E out G hr hk v0 v1 g0 c35 x175 hc35 hx175 v2 r58 ((4 * b60) + v2) (-1) _ _ _ _ hm hM (lv_sub hl [0, 1, 2] rfl)
    · have hm := b_f h66 hm
      refine r_iconst (np := 96) G 1 dX12_sumLine_95 rfl ?_
      refine r_goto (np := 100) G dX12_sumLine_96 (by decide) ?_
      exact wX12_sumLine_B100 l E out G hr hk v0 v1 g0 c35 x175 hc35 hx175 v2 r58 ((4 * b60) + v2) 1 _ _ _ _ hm hM (lv_sub hl [0, 1, 2] rfl)
  · have hm := b_t h57 hm
    refine r_iconst (np := 72) G 0 dX12_sumLine_71 rfl ?_
    exact r_zret G hr hk hM (Or.inl rfl) hm dX12_sumLine_72
set_option maxRecDepth 100000 in
set_option maxHeartbeats 4000000 in
theorem wX12_sumLine_B53 (l : Launch) (E : mE) (out : Int × mSt) {p : Program} {e : Env} {s : State} {m : MethodId} {args : Array Value} {below : List Frame} {meth : Method} {c : Code} (G : CallFix p m c cX12_sumLine 3 s args mTs RX12) (hr : meth.sig.returnType = (some .boolean)) (hk : meth.locks = false) (v0 : Nat) (v1 : Int) (g0 : isC v0 11) (c35 : Int → mSt → Option (Int × mSt)) (x175 : Int → mSt → Option (Int × mSt)) (hc35 : ∀ (v2 : Int) (σ : mSt) (H : Heap) (locs : List Loc) (ls : Array Slot), c35 v2 σ = some out → mM (mA E 276) E 276 σ s H locs → lv_has ls 3 [(0, .ref (eA E v0)), (1, vI v1), (2, vI v2)] → mGo l p e 8 285 s m args below meth c E (some (vI out.1)) out.2 H locs (F0 m 35 ls [])) (hx175 : ∀ (v2 : Int) (σ : mSt) (H : Heap) (locs : List Loc) (ls : Array Slot), x175 v2 σ = some out → mM (mA E 276) E 276 σ s H locs → lv_has ls 3 [(0, .ref (eA E v0)), (1, vI v1), (2, vI v2)] → mGo l p e 8 285 s m args below meth c E (some (vI out.1)) out.2 H locs (F0 m 175 ls [])) : ∀ (v2 : Int) (σ : mSt) (H : Heap) (locs : List Loc) (ls : Array Slot), mX12_sumLine_B53 v0 v1 c35 x175 v2 σ = some out → mM (mA E 276) E 276 σ s H locs → lv_has ls 3 [(0, .ref (eA E v0)), (1, vI v1), (2, vI v2)] → mGo l p e 8 285 s m args below meth c E (some (vI out.1)) out.2 H locs (F0 m 53 ls []) := by
  intro v2 σ H locs ls hm hM hl
  unfold mX12_sumLine_B53 at hm
  refine r_aload_n (np := 54) G hl 0 rfl dX12_sumLine_53 rfl rfl ?_
  refine r_iload_n (np := 55) G hl 2 rfl dX12_sumLine_54 rfl rfl ?_
  refine r_iconst (np := 56) G 4 dX12_sumLine_55 rfl ?_
  refine r_icmp_ge (np := 59) (tgt := 63) G rfl (wIk 4 rfl) dX12_sumLine_56 (by decide) rfl (fun h67 => ?_) (fun h67 => ?_)
  · have hm := b_t h67 hm
    refine r_iconst (np := 64) G 0 dX12_sumLine_63 rfl ?_
    exact wX12_sumLine_B64 l E out G hr hk v0 v1 g0 c35 x175 hc35 hx175 v2 v0 0 _ _ _ _ hm hM (lv_sub hl [0, 1, 2] rfl)
  · have hm := b_f h67 hm
    refine r_iconst (np := 60) G 1 dX12_sumLine_59 rfl ?_
    refine r_goto (np := 64) G dX12_sumLine_60 (by decide) ?_
    exact wX12_sumLine_B64 l E out G hr hk v0 v1 g0 c35 x175 hc35 hx175 v2 v0 1 _ _ _ _ hm hM (lv_sub hl [0, 1, 2] rfl)
set_option maxRecDepth 100000 in
set_option maxHeartbeats 4000000 in
theorem wX12_sumLine_L35 (l : Launch) (E : mE) (out : Int × mSt) {p : Program} {e : Env} {s : State} {m : MethodId} {args : Array Value} {below : List Frame} {meth : Method} {c : Code} (G : CallFix p m c cX12_sumLine 3 s args mTs RX12) (hr : meth.sig.returnType = (some .boolean)) (hk : meth.locks = false) (v0 : Nat) (v1 : Int) (g0 : isC v0 11) (x175 : Int → mSt → Option (Int × mSt)) (hx175 : ∀ (v2 : Int) (σ : mSt) (H : Heap) (locs : List Loc) (ls : Array Slot), x175 v2 σ = some out → mM (mA E 276) E 276 σ s H locs → lv_has ls 3 [(0, .ref (eA E v0)), (1, vI v1), (2, vI v2)] → mGo l p e 8 285 s m args below meth c E (some (vI out.1)) out.2 H locs (F0 m 175 ls [])) : ∀ (n : Nat) (v2 : Int) (σ : mSt) (H : Heap) (locs : List Loc) (ls : Array Slot), mX12_sumLine_L35 v0 v1 x175 n v2 σ = some out → mM (mA E 276) E 276 σ s H locs → lv_has ls 3 [(0, .ref (eA E v0)), (1, vI v1), (2, vI v2)] → mGo l p e 8 285 s m args below meth c E (some (vI out.1)) out.2 H locs (F0 m 35 ls []) := by
  intro n
  induction n with
  | zero =>
    intro v2 σ H locs ls hm hM hl
    exact absurd hm (by rw [mX12_sumLine_L35.eq_1]; exact fun h => nomatch h)
  | succ n ih =>
    intro v2 σ H locs ls hm hM hl
    rw [mX12_sumLine_L35.eq_2] at hm
    refine r_aload_n (np := 36) G hl 0 rfl dX12_sumLine_35 rfl rfl ?_
    refine r_bipush (np := 38) G 43 dX12_sumLine_36 (by decide) rfl ?_
    obtain ⟨b68, s69, e70, hm⟩ := call_t hm
    refine m_callVI (np := 41) G hM hl.1 [vI 43] (qX12_isSign l E σ v0 43 _ e70) myX12_isSign (shp_lt (gX12_isSign e70) (by decide)) (gX12_isSign e70) rfl (by decide) lkX12_164 ⟨Nat.le_of_ble_eq_true rfl, Nat.le_of_ble_eq_true rfl⟩ ⟨Nat.le_of_ble_eq_true rfl, Nat.le_of_ble_eq_true rfl⟩ [] rfl (Nat.le_of_ble_eq_true rfl) dX12_sumLine_38 rfl (fun H locs hM => ?_)
    refine r_if_ne (np := 44) (tgt := 53) G rfl dX12_sumLine_41 (by decide) rfl (fun h71 => ?_) (fun h71 => ?_)
    · have hm := b_f h71 hm
      exact wX12_sumLine_B53 l E out G hr hk v0 v1 g0 (mX12_sumLine_L35 v0 v1 x175 n) x175 ih hx175 v2 _ _ _ _ hm hM (lv_sub hl [0, 1, 2] rfl)
    · have hm := b_t h71 hm
      refine r_aload_n (np := 45) G hl 0 rfl dX12_sumLine_44 rfl rfl ?_
      refine r_bipush (np := 47) G 45 dX12_sumLine_45 (by decide) rfl ?_
      obtain ⟨b72, s73, e74, hm⟩ := call_t hm
      refine m_callVI (np := 50) G hM hl.1 [vI 45] (qX12_isSign l E s69 v0 45 _ e74) myX12_isSign (shp_lt (gX12_isSign e74) (by decide)) (gX12_isSign e74) rfl (by decide) lkX12_164 ⟨Nat.le_of_ble_eq_true rfl, Nat.le_of_ble_eq_true rfl⟩ ⟨Nat.le_of_ble_eq_true rfl, Nat.le_of_ble_eq_true rfl⟩ [] rfl (Nat.le_of_ble_eq_true rfl) dX12_sumLine_47 rfl (fun H locs hM => ?_)
      refine r_if_eq (np := 53) (tgt := 175) G rfl dX12_sumLine_50 (by decide) rfl (fun h75 => ?_) (fun h75 => ?_)
      · have hm := b_t h75 hm
        exact hx175 v2 _ _ _ _ hm hM (lv_sub hl [0, 1, 2] rfl)
      · have hm := b_f h75 hm
        exact wX12_sumLine_B53 l E out G hr hk v0 v1 g0 (mX12_sumLine_L35 v0 v1 x175 n) x175 ih hx175 v2 _ _ _ _ hm hM (lv_sub hl [0, 1, 2] rfl)
set_option maxRecDepth 100000 in
set_option maxHeartbeats 4000000 in
theorem wX12_sumLine_B26 (l : Launch) (E : mE) (out : Int × mSt) {p : Program} {e : Env} {s : State} {m : MethodId} {args : Array Value} {below : List Frame} {meth : Method} {c : Code} (G : CallFix p m c cX12_sumLine 3 s args mTs RX12) (hr : meth.sig.returnType = (some .boolean)) (hk : meth.locks = false) (v0 : Nat) (v1 : Int) (g0 : isC v0 11) : ∀ (v2 : Int) (t0 : Nat) (t1 : Int) (σ : mSt) (H : Heap) (locs : List Loc) (ls : Array Slot), mX12_sumLine_B26 v0 v1 v2 t0 t1 σ = some out → mM (mA E 276) E 276 σ s H locs → lv_has ls 3 [(0, .ref (eA E v0)), (1, vI v1), (2, vI v2)] → mGo l p e 8 285 s m args below meth c E (some (vI out.1)) out.2 H locs (F0 m 26 ls [vI t1, .ref (eA E t0)]) := by
  intro v2 t0 t1 σ H locs ls hm hM hl
  unfold mX12_sumLine_B26 at hm
  refine r_iconst (np := 27) G 1 dX12_sumLine_26 rfl ?_
  obtain ⟨b76, s77, e78, hm⟩ := call_t hm
  refine m_callVI (np := 30) G hM hl.1 [vI t1, vI 1] (qX12_must l E σ t0 t1 1 _ e78) myX12_must (shp_lt (gX12_must e78) (by decide)) (gX12_must e78) rfl (by decide) lkX12_171 ⟨Nat.le_of_ble_eq_true rfl, Nat.le_of_ble_eq_true rfl⟩ ⟨Nat.le_of_ble_eq_true rfl, Nat.le_of_ble_eq_true rfl⟩ [] rfl (Nat.le_of_ble_eq_true rfl) dX12_sumLine_27 rfl (fun H locs hM => ?_)
  refine r_if_ne (np := 33) (tgt := 35) G rfl dX12_sumLine_30 (by decide) rfl (fun h79 => ?_) (fun h79 => ?_)
  · have hm := b_f h79 hm
    exact wX12_sumLine_L35 l E out G hr hk v0 v1 g0 (fun z2 zσ => mX12_sumLine_B175 v0 v1 z2 zσ) (fun z2 zσ zH zl zs zm zM zv => wX12_sumLine_B175 l E out G hr hk v0 v1 g0 z2 zσ zH zl zs zm zM zv) mF v2 _ _ _ _ hm hM (lv_sub hl [0, 1, 2] rfl)
  · have hm := b_t h79 hm
    refine r_iconst (np := 34) G 0 dX12_sumLine_33 rfl ?_
    exact r_zret G hr hk hM (Or.inl rfl) hm dX12_sumLine_34
set_option maxRecDepth 100000 in
set_option maxHeartbeats 4000000 in
theorem wX12_sumLine_B21 (l : Launch) (E : mE) (out : Int × mSt) {p : Program} {e : Env} {s : State} {m : MethodId} {args : Array Value} {below : List Frame} {meth : Method} {c : Code} (G : CallFix p m c cX12_sumLine 3 s args mTs RX12) (hr : meth.sig.returnType = (some .boolean)) (hk : meth.locks = false) (v0 : Nat) (v1 : Int) (g0 : isC v0 11) : ∀ (v2 : Int) (t0 : Nat) (σ : mSt) (H : Heap) (locs : List Loc) (ls : Array Slot), mX12_sumLine_B21 v0 v1 v2 t0 σ = some out → mM (mA E 276) E 276 σ s H locs → lv_has ls 3 [(0, .ref (eA E v0)), (1, vI v1), (2, vI v2)] → mGo l p e 8 285 s m args below meth c E (some (vI out.1)) out.2 H locs (F0 m 21 ls [.ref (eA E t0)]) := by
  intro v2 t0 σ H locs ls hm hM hl
  unfold mX12_sumLine_B21 at hm
  refine r_iconst (np := 22) G 1 dX12_sumLine_21 rfl ?_
  refine r_goto (np := 26) G dX12_sumLine_22 (by decide) ?_
  exact wX12_sumLine_B26 l E out G hr hk v0 v1 g0 v2 t0 1 _ _ _ _ hm hM (lv_sub hl [0, 1, 2] rfl)
set_option maxRecDepth 100000 in
set_option maxHeartbeats 4000000 in
theorem qX12_sumLine (l : Launch) (E : mE) (σ : mSt) (v0 : Nat) (v1 : Int) (out : Int × mSt) (hm : mX12_sumLine v0 v1 σ = some out) : mMet l yX12_sumLine cX12_sumLine 3 (some .boolean) 8 285 E 276 [.ref (eA E v0), vI v1] σ (some (vI out.1)) out.2 := by
  unfold mX12_sumLine at hm
  obtain ⟨g0, hm⟩ := g_t hm
  refine m_entry (by decide +kernel) (Nat.le_of_ble_eq_true rfl) (fun p e s m args below meth c G hr hk hM ls hl => ?_)
  have G : CallFix p m c cX12_sumLine 3 s args mTs RX12 := G
  have hl : lv_has ls 3 [(0, .ref (eA E v0)), (1, vI v1)] := hl
  refine r_iconst (np := 1) G 0 dX12_sumLine_0 rfl ?_
  refine r_istore_n (np := 2) G hl rfl [(2, vI 0), (0, .ref (eA E v0)), (1, vI v1)] dX12_sumLine_1 rfl rfl (by decide) rfl (fun ls hl => ?_)
  refine r_aload_n (np := 3) G hl 1 rfl dX12_sumLine_2 rfl rfl ?_
  refine r_aload_n (np := 4) G hl 1 rfl dX12_sumLine_3 rfl rfl ?_
  refine r_bipush (np := 6) G 43 dX12_sumLine_4 (by decide) rfl ?_
  obtain ⟨b80, s81, e82, hm⟩ := call_t hm
  refine m_callVI (np := 9) G hM hl.1 [vI 43] (qX12_isSign l E σ v0 43 _ e82) myX12_isSign (shp_lt (gX12_isSign e82) (by decide)) (gX12_isSign e82) rfl (by decide) lkX12_164 ⟨Nat.le_of_ble_eq_true rfl, Nat.le_of_ble_eq_true rfl⟩ ⟨Nat.le_of_ble_eq_true rfl, Nat.le_of_ble_eq_true rfl⟩ [.ref (eA E v0)] rfl (Nat.le_of_ble_eq_true rfl) dX12_sumLine_6 rfl (fun H locs hM => ?_)
  refine r_if_ne (np := 12) (tgt := 21) G rfl dX12_sumLine_9 (by decide) rfl (fun h83 => ?_) (fun h83 => ?_)
  · have hm := b_f h83 hm
    exact wX12_sumLine_B21 l E out G hr hk v0 v1 g0 0 v0 _ _ _ _ hm hM (lv_sub hl [1, 2, 0] rfl)
  · have hm := b_t h83 hm
    refine r_aload_n (np := 13) G hl 1 rfl dX12_sumLine_12 rfl rfl ?_
    refine r_bipush (np := 15) G 45 dX12_sumLine_13 (by decide) rfl ?_
    obtain ⟨b84, s85, e86, hm⟩ := call_t hm
    refine m_callVI (np := 18) G hM hl.1 [vI 45] (qX12_isSign l E s81 v0 45 _ e86) myX12_isSign (shp_lt (gX12_isSign e86) (by decide)) (gX12_isSign e86) rfl (by decide) lkX12_164 ⟨Nat.le_of_ble_eq_true rfl, Nat.le_of_ble_eq_true rfl⟩ ⟨Nat.le_of_ble_eq_true rfl, Nat.le_of_ble_eq_true rfl⟩ [.ref (eA E v0)] rfl (Nat.le_of_ble_eq_true rfl) dX12_sumLine_15 rfl (fun H locs hM => ?_)
    refine r_if_eq (np := 21) (tgt := 25) G rfl dX12_sumLine_18 (by decide) rfl (fun h87 => ?_) (fun h87 => ?_)
    · have hm := b_t h87 hm
      refine r_iconst (np := 26) G 0 dX12_sumLine_25 rfl ?_
      exact wX12_sumLine_B26 l E out G hr hk v0 v1 g0 0 v0 0 _ _ _ _ hm hM (lv_sub hl [1, 2, 0] rfl)
    · have hm := b_f h87 hm
      exact wX12_sumLine_B21 l E out G hr hk v0 v1 g0 0 v0 _ _ _ _ hm hM (lv_sub hl [1, 2, 0] rfl)
theorem gX12_sumLine {v0 : Nat} {v1 : Int} {σ : mSt} {out : Int × mSt} (hm : mX12_sumLine v0 v1 σ = some out) : isC v0 11 := (g_t hm).1
set_option maxRecDepth 100000 in
set_option maxHeartbeats 4000000 in
theorem wX12_lineHere_B147 (l : Launch) (E : mE) (out : Int × mSt) {p : Program} {e : Env} {s : State} {m : MethodId} {args : Array Value} {below : List Frame} {meth : Method} {c : Code} (G : CallFix p m c cX12_lineHere 4 s args mTs RX12) (hr : meth.sig.returnType = (some .boolean)) (hk : meth.locks = false) (v0 : Nat) (g0 : isC v0 11) : ∀ (t0 : Int) (σ : mSt) (H : Heap) (locs : List Loc) (ls : Array Slot), mX12_lineHere_B147 v0 t0 σ = some out → mM (mA E 276) E 276 σ s H locs → lv_has ls 4 [(0, .ref (eA E v0))] → mGo l p e 9 307 s m args below meth c E (some (vI out.1)) out.2 H locs (F0 m 147 ls [vI t0]) := by
  intro t0 σ H locs ls hm hM hl
  unfold mX12_lineHere_B147 at hm
  refine r_istore_n (np := 148) G hl rfl [(3, vI t0), (0, .ref (eA E v0))] dX12_lineHere_147 rfl rfl (by decide) rfl (fun ls hl => ?_)
  refine r_iload_n (np := 149) G hl 0 rfl dX12_lineHere_148 rfl rfl ?_
  refine r_if_eq (np := 152) (tgt := 166) G rfl dX12_lineHere_149 (by decide) rfl (fun h1 => ?_) (fun h1 => ?_)
  · have hm := b_t h1 hm
    refine r_iconst (np := 167) G 0 dX12_lineHere_166 rfl ?_
    exact r_zret G hr hk hM (Or.inl rfl) hm dX12_lineHere_167
  · have hm := b_f h1 hm
    refine r_aload_n (np := 153) G hl 1 rfl dX12_lineHere_152 rfl rfl ?_
    refine r_aload_n (np := 154) G hl 1 rfl dX12_lineHere_153 rfl rfl ?_
    refine r_bipush (np := 156) G 59 dX12_lineHere_154 (by decide) rfl ?_
    obtain ⟨b2, s3, e4, hm⟩ := call_t hm
    refine m_callVI (np := 159) G hM hl.1 [vI 59] (qX12_isSign l E σ v0 59 _ e4) myX12_isSign (shp_lt (gX12_isSign e4) (by decide)) (gX12_isSign e4) rfl (by decide) lkX12_164 ⟨Nat.le_of_ble_eq_true rfl, Nat.le_of_ble_eq_true rfl⟩ ⟨Nat.le_of_ble_eq_true rfl, Nat.le_of_ble_eq_true rfl⟩ [.ref (eA E v0)] rfl (Nat.le_of_ble_eq_true rfl) dX12_lineHere_156 rfl (fun H locs hM => ?_)
    refine r_iconst (np := 160) G 1 dX12_lineHere_159 rfl ?_
    obtain ⟨b5, s6, e7, hm⟩ := call_t hm
    refine m_callVI (np := 163) G hM hl.1 [vI b2, vI 1] (qX12_must l E s3 v0 b2 1 _ e7) myX12_must (shp_lt (gX12_must e7) (by decide)) (gX12_must e7) rfl (by decide) lkX12_171 ⟨Nat.le_of_ble_eq_true rfl, Nat.le_of_ble_eq_true rfl⟩ ⟨Nat.le_of_ble_eq_true rfl, Nat.le_of_ble_eq_true rfl⟩ [] rfl (Nat.le_of_ble_eq_true rfl) dX12_lineHere_160 rfl (fun H locs hM => ?_)
    refine r_if_ne (np := 166) (tgt := 168) G rfl dX12_lineHere_163 (by decide) rfl (fun h8 => ?_) (fun h8 => ?_)
    · have hm := b_f h8 hm
      refine r_aload_n (np := 169) G hl 1 rfl dX12_lineHere_168 rfl rfl ?_
      obtain ⟨b9, s10, e11, hm⟩ := call_t hm
      refine m_callVV (np := 172) G hM hl.1 [] (qX12_steps l E s6 v0 _ e11) myX12_steps (shp_lt (gX12_steps e11) (by decide)) (gX12_steps e11) rfl (by decide) lkX12_168 ⟨Nat.le_of_ble_eq_true rfl, Nat.le_of_ble_eq_true rfl⟩ ⟨Nat.le_of_ble_eq_true rfl, Nat.le_of_ble_eq_true rfl⟩ [] rfl (Nat.le_of_ble_eq_true rfl) dX12_lineHere_169 rfl (fun H locs hM => ?_)
      refine r_aload_n (np := 173) G hl 1 rfl dX12_lineHere_172 rfl rfl ?_
      obtain ⟨r12, e13, hm⟩ := ref_t hm
      refine r_getR (np := 176) G hM (shp_lt g0 (by decide)) g0 e13 fdX12_12 lkX12_13 dX12_lineHere_173 rfl ?_
      refine r_aload_n (np := 177) G hl 1 rfl dX12_lineHere_176 rfl rfl ?_
      refine r_getI (np := 180) G hM (shp_lt g0 (by decide)) g0 fdX12_11 lkX12_158 dX12_lineHere_177 rfl ?_
      refine r_dup2 (np := 181) G dX12_lineHere_180 rfl rfl rfl ?_
      obtain ⟨g14, hm⟩ := g_t hm
      refine r_iaload (np := 182) G hM g14 rfl dX12_lineHere_181 rfl ?_
      refine r_iconst (np := 183) G 1 dX12_lineHere_182 rfl ?_
      refine r_iadd (np := 184) G dX12_lineHere_183 rfl ?_
      obtain ⟨s15, e16, hm⟩ := bnd_t hm
      refine r_iastore (np := 185) G hM g14 rfl s15 e16 dX12_lineHere_184 rfl (fun H locs hM => ?_)
      refine r_iconst (np := 186) G 1 dX12_lineHere_185 rfl ?_
      exact r_zret G hr hk hM (Or.inr rfl) hm dX12_lineHere_186
    · have hm := b_t h8 hm
      refine r_iconst (np := 167) G 0 dX12_lineHere_166 rfl ?_
      exact r_zret G hr hk hM (Or.inl rfl) hm dX12_lineHere_167
set_option maxRecDepth 100000 in
set_option maxHeartbeats 4000000 in
theorem wX12_lineHere_B78 (l : Launch) (E : mE) (out : Int × mSt) {p : Program} {e : Env} {s : State} {m : MethodId} {args : Array Value} {below : List Frame} {meth : Method} {c : Code} (G : CallFix p m c cX12_lineHere 4 s args mTs RX12) (hr : meth.sig.returnType = (some .boolean)) (hk : meth.locks = false) (v0 : Nat) (g0 : isC v0 11) : ∀ (v1 : Int) (t0 : Nat) (t1 : Int) (σ : mSt) (H : Heap) (locs : List Loc) (ls : Array Slot), mX12_lineHere_B78 v0 v1 t0 t1 σ = some out → mM (mA E 276) E 276 σ s H locs → lv_has ls 4 [(0, .ref (eA E v0)), (1, vI v1)] → mGo l p e 9 307 s m args below meth c E (some (vI out.1)) out.2 H locs (F0 m 78 ls [vI t1, .ref (eA E t0)]) := by
  intro v1 t0 t1 σ H locs ls hm hM hl
  unfold mX12_lineHere_B78 at hm
  refine r_iconst (np := 79) G 5 dX12_lineHere_78 rfl ?_
  obtain ⟨b17, s18, e19, hm⟩ := call_t hm
  refine m_callVI (np := 82) G hM hl.1 [vI t1, vI 5] (qX12_must l E σ t0 t1 5 _ e19) myX12_must (shp_lt (gX12_must e19) (by decide)) (gX12_must e19) rfl (by decide) lkX12_171 ⟨Nat.le_of_ble_eq_true rfl, Nat.le_of_ble_eq_true rfl⟩ ⟨Nat.le_of_ble_eq_true rfl, Nat.le_of_ble_eq_true rfl⟩ [] rfl (Nat.le_of_ble_eq_true rfl) dX12_lineHere_79 rfl (fun H locs hM => ?_)
  refine r_if_ne (np := 85) (tgt := 87) G rfl dX12_lineHere_82 (by decide) rfl (fun h20 => ?_) (fun h20 => ?_)
  · have hm := b_f h20 hm
    refine r_aload_n (np := 88) G hl 0 rfl dX12_lineHere_87 rfl rfl ?_
    obtain ⟨b21, s22, e23, hm⟩ := call_t hm
    refine m_callVI (np := 91) G hM hl.1 [] (qX12_newName l E s18 v0 _ e23) myX12_newName (shp_lt (gX12_newName e23) (by decide)) (gX12_newName e23) rfl (by decide) lkX12_198 ⟨Nat.le_of_ble_eq_true rfl, Nat.le_of_ble_eq_true rfl⟩ ⟨Nat.le_of_ble_eq_true rfl, Nat.le_of_ble_eq_true rfl⟩ [] rfl (Nat.le_of_ble_eq_true rfl) dX12_lineHere_88 rfl (fun H locs hM => ?_)
    refine r_if_ne (np := 94) (tgt := 96) G rfl dX12_lineHere_91 (by decide) rfl (fun h24 => ?_) (fun h24 => ?_)
    · have hm := b_f h24 hm
      refine r_aload_n (np := 97) G hl 0 rfl dX12_lineHere_96 rfl rfl ?_
      obtain ⟨r25, e26, hm⟩ := ref_t hm
      refine r_getR (np := 100) G hM (shp_lt g0 (by decide)) g0 e26 fdX12_12 lkX12_13 dX12_lineHere_97 rfl ?_
      refine r_aload_n (np := 101) G hl 0 rfl dX12_lineHere_100 rfl rfl ?_
      refine r_getI (np := 104) G hM (shp_lt g0 (by decide)) g0 fdX12_11 lkX12_158 dX12_lineHere_101 rfl ?_
      obtain ⟨g27, hm⟩ := g_t hm
      refine r_iaload (np := 105) G hM g27 rfl dX12_lineHere_104 rfl ?_
      obtain ⟨a28, e29, hm⟩ := bnd_t hm
      refine r_istore_n (np := 106) G hl e29 [(2, vI a28), (0, .ref (eA E v0)), (1, vI v1)] dX12_lineHere_105 rfl rfl (by decide) rfl (fun ls hl => ?_)
      refine r_aload_n (np := 107) G hl 1 rfl dX12_lineHere_106 rfl rfl ?_
      obtain ⟨r30, e31, hm⟩ := ref_t hm
      refine r_getR (np := 110) G hM (shp_lt g0 (by decide)) g0 e31 fdX12_14 lkX12_21 dX12_lineHere_107 rfl ?_
      refine r_aload_n (np := 111) G hl 1 rfl dX12_lineHere_110 rfl rfl ?_
      refine r_iload_n (np := 112) G hl 0 rfl dX12_lineHere_111 rfl rfl ?_
      obtain ⟨b32, s33, e34, hm⟩ := call_t hm
      refine m_callVI (np := 115) G hM hl.1 [vI a28] (qX12_at l E s22 v0 a28 _ e34) myX12_at (shp_lt (gX12_at e34) (by decide)) (gX12_at e34) rfl (by decide) lkX12_161 ⟨Nat.le_of_ble_eq_true rfl, Nat.le_of_ble_eq_true rfl⟩ ⟨Nat.le_of_ble_eq_true rfl, Nat.le_of_ble_eq_true rfl⟩ [.ref (eA E r30)] rfl (Nat.le_of_ble_eq_true rfl) dX12_lineHere_112 rfl (fun H locs hM => ?_)
      refine r_iload_n (np := 116) G hl 2 rfl dX12_lineHere_115 rfl rfl ?_
      obtain ⟨g35, hm⟩ := g_t hm
      obtain ⟨s36, e37, hm⟩ := bnd_t hm
      refine r_iastore (np := 117) G hM g35 rfl s36 e37 dX12_lineHere_116 rfl (fun H locs hM => ?_)
      refine r_iload_n (np := 118) G hl 2 rfl dX12_lineHere_117 rfl rfl ?_
      refine r_if_ne (np := 121) (tgt := 129) G rfl dX12_lineHere_118 (by decide) rfl (fun h38 => ?_) (fun h38 => ?_)
      · have hm := b_f h38 hm
        refine r_iload_n (np := 130) G hl 2 rfl dX12_lineHere_129 rfl rfl ?_
        refine r_iconst (np := 131) G 1 dX12_lineHere_130 rfl ?_
        refine r_icmp_ne (np := 134) (tgt := 142) G rfl (wIk 1 rfl) dX12_lineHere_131 (by decide) rfl (fun h39 => ?_) (fun h39 => ?_)
        · have hm := b_f h39 hm
          refine r_aload_n (np := 143) G hl 1 rfl dX12_lineHere_142 rfl rfl ?_
          refine r_iload_n (np := 144) G hl 0 rfl dX12_lineHere_143 rfl rfl ?_
          obtain ⟨b40, s41, e42, hm⟩ := call_t hm
          refine m_callVI (np := 147) G hM hl.1 [vI a28] (qX12_sumLine l E s36 v0 a28 _ e42) myX12_sumLine (shp_lt (gX12_sumLine e42) (by decide)) (gX12_sumLine e42) rfl (by decide) lkX12_207 ⟨Nat.le_of_ble_eq_true rfl, Nat.le_of_ble_eq_true rfl⟩ ⟨Nat.le_of_ble_eq_true rfl, Nat.le_of_ble_eq_true rfl⟩ [] rfl (Nat.le_of_ble_eq_true rfl) dX12_lineHere_144 rfl (fun H locs hM => ?_)
          exact wX12_lineHere_B147 l E out G hr hk v0 g0 b40 _ _ _ _ hm hM (lv_sub hl [1] rfl)
        · have hm := b_t h39 hm
          refine r_aload_n (np := 135) G hl 1 rfl dX12_lineHere_134 rfl rfl ?_
          refine r_iload_n (np := 136) G hl 0 rfl dX12_lineHere_135 rfl rfl ?_
          obtain ⟨b43, s44, e45, hm⟩ := call_t hm
          refine m_callVI (np := 139) G hM hl.1 [vI a28] (qX12_cyclicLine l E s36 v0 a28 _ e45) myX12_cyclicLine (shp_lt (gX12_cyclicLine e45) (by decide)) (gX12_cyclicLine e45) rfl (by decide) lkX12_204 ⟨Nat.le_of_ble_eq_true rfl, Nat.le_of_ble_eq_true rfl⟩ ⟨Nat.le_of_ble_eq_true rfl, Nat.le_of_ble_eq_true rfl⟩ [] rfl (Nat.le_of_ble_eq_true rfl) dX12_lineHere_136 rfl (fun H locs hM => ?_)
          refine r_goto (np := 147) G dX12_lineHere_139 (by decide) ?_
          exact wX12_lineHere_B147 l E out G hr hk v0 g0 b43 _ _ _ _ hm hM (lv_sub hl [1] rfl)
      · have hm := b_t h38 hm
        refine r_aload_n (np := 122) G hl 1 rfl dX12_lineHere_121 rfl rfl ?_
        refine r_iload_n (np := 123) G hl 0 rfl dX12_lineHere_122 rfl rfl ?_
        obtain ⟨b46, s47, e48, hm⟩ := call_t hm
        refine m_callVI (np := 126) G hM hl.1 [vI a28] (qX12_quaternionLine l E s36 v0 a28 _ e48) myX12_quaternionLine (shp_lt (gX12_quaternionLine e48) (by decide)) (gX12_quaternionLine e48) rfl (by decide) lkX12_201 ⟨Nat.le_of_ble_eq_true rfl, Nat.le_of_ble_eq_true rfl⟩ ⟨Nat.le_of_ble_eq_true rfl, Nat.le_of_ble_eq_true rfl⟩ [] rfl (Nat.le_of_ble_eq_true rfl) dX12_lineHere_123 rfl (fun H locs hM => ?_)
        refine r_goto (np := 147) G dX12_lineHere_126 (by decide) ?_
        exact wX12_lineHere_B147 l E out G hr hk v0 g0 b46 _ _ _ _ hm hM (lv_sub hl [1] rfl)
    · have hm := b_t h24 hm
      refine r_iconst (np := 95) G 0 dX12_lineHere_94 rfl ?_
      exact r_zret G hr hk hM (Or.inl rfl) hm dX12_lineHere_95
  · have hm := b_t h20 hm
    refine r_iconst (np := 86) G 0 dX12_lineHere_85 rfl ?_
    exact r_zret G hr hk hM (Or.inl rfl) hm dX12_lineHere_86
set_option maxRecDepth 100000 in
set_option maxHeartbeats 4000000 in
theorem wX12_lineHere_B51 (l : Launch) (E : mE) (out : Int × mSt) {p : Program} {e : Env} {s : State} {m : MethodId} {args : Array Value} {below : List Frame} {meth : Method} {c : Code} (G : CallFix p m c cX12_lineHere 4 s args mTs RX12) (hr : meth.sig.returnType = (some .boolean)) (hk : meth.locks = false) (v0 : Nat) (g0 : isC v0 11) : ∀ (v1 : Int) (t0 : Nat) (t1 : Int) (σ : mSt) (H : Heap) (locs : List Loc) (ls : Array Slot), mX12_lineHere_B51 v0 v1 t0 t1 σ = some out → mM (mA E 276) E 276 σ s H locs → lv_has ls 4 [(0, .ref (eA E v0)), (1, vI v1)] → mGo l p e 9 307 s m args below meth c E (some (vI out.1)) out.2 H locs (F0 m 51 ls [vI t1, .ref (eA E t0)]) := by
  intro v1 t0 t1 σ H locs ls hm hM hl
  unfold mX12_lineHere_B51 at hm
  refine r_iconst (np := 52) G 1 dX12_lineHere_51 rfl ?_
  obtain ⟨b49, s50, e51, hm⟩ := call_t hm
  refine m_callVI (np := 55) G hM hl.1 [vI t1, vI 1] (qX12_must l E σ t0 t1 1 _ e51) myX12_must (shp_lt (gX12_must e51) (by decide)) (gX12_must e51) rfl (by decide) lkX12_171 ⟨Nat.le_of_ble_eq_true rfl, Nat.le_of_ble_eq_true rfl⟩ ⟨Nat.le_of_ble_eq_true rfl, Nat.le_of_ble_eq_true rfl⟩ [] rfl (Nat.le_of_ble_eq_true rfl) dX12_lineHere_52 rfl (fun H locs hM => ?_)
  refine r_if_eq (np := 58) (tgt := 85) G rfl dX12_lineHere_55 (by decide) rfl (fun h52 => ?_) (fun h52 => ?_)
  · have hm := b_t h52 hm
    refine r_iconst (np := 86) G 0 dX12_lineHere_85 rfl ?_
    exact r_zret G hr hk hM (Or.inl rfl) hm dX12_lineHere_86
  · have hm := b_f h52 hm
    refine r_aload_n (np := 59) G hl 0 rfl dX12_lineHere_58 rfl rfl ?_
    refine r_aload_n (np := 60) G hl 0 rfl dX12_lineHere_59 rfl rfl ?_
    obtain ⟨r53, e54, hm⟩ := ref_t hm
    refine r_getR (np := 63) G hM (shp_lt g0 (by decide)) g0 e54 fdX12_12 lkX12_13 dX12_lineHere_60 rfl ?_
    refine r_aload_n (np := 64) G hl 0 rfl dX12_lineHere_63 rfl rfl ?_
    refine r_getI (np := 67) G hM (shp_lt g0 (by decide)) g0 fdX12_11 lkX12_158 dX12_lineHere_64 rfl ?_
    obtain ⟨g55, hm⟩ := g_t hm
    refine r_iaload (np := 68) G hM g55 rfl dX12_lineHere_67 rfl ?_
    refine r_bipush (np := 70) G 8 dX12_lineHere_68 (by decide) rfl ?_
    refine r_icmp_ge (np := 73) (tgt := 77) G rfl (wIk 8 rfl) dX12_lineHere_70 (by decide) rfl (fun h56 => ?_) (fun h56 => ?_)
    · have hm := b_t h56 hm
      refine r_iconst (np := 78) G 0 dX12_lineHere_77 rfl ?_
      exact wX12_lineHere_B78 l E out G hr hk v0 g0 v1 v0 0 _ _ _ _ hm hM (lv_sub hl [0, 1] rfl)
    · have hm := b_f h56 hm
      refine r_iconst (np := 74) G 1 dX12_lineHere_73 rfl ?_
      refine r_goto (np := 78) G dX12_lineHere_74 (by decide) ?_
      exact wX12_lineHere_B78 l E out G hr hk v0 g0 v1 v0 1 _ _ _ _ hm hM (lv_sub hl [0, 1] rfl)
set_option maxRecDepth 100000 in
set_option maxHeartbeats 4000000 in
theorem wX12_lineHere_B40 (l : Launch) (E : mE) (out : Int × mSt) {p : Program} {e : Env} {s : State} {m : MethodId} {args : Array Value} {below : List Frame} {meth : Method} {c : Code} (G : CallFix p m c cX12_lineHere 4 s args mTs RX12) (hr : meth.sig.returnType = (some .boolean)) (hk : meth.locks = false) (v0 : Nat) (g0 : isC v0 11) : ∀ (t0 : Int) (σ : mSt) (H : Heap) (locs : List Loc) (ls : Array Slot), mX12_lineHere_B40 v0 t0 σ = some out → mM (mA E 276) E 276 σ s H locs → lv_has ls 4 [(0, .ref (eA E v0))] → mGo l p e 9 307 s m args below meth c E (some (vI out.1)) out.2 H locs (F0 m 40 ls [vI t0]) := by
  intro t0 σ H locs ls hm hM hl
  unfold mX12_lineHere_B40 at hm
  refine r_istore_n (np := 41) G hl rfl [(1, vI t0), (0, .ref (eA E v0))] dX12_lineHere_40 rfl rfl (by decide) rfl (fun ls hl => ?_)
  refine r_aload_n (np := 42) G hl 1 rfl dX12_lineHere_41 rfl rfl ?_
  refine r_iload_n (np := 43) G hl 0 rfl dX12_lineHere_42 rfl rfl ?_
  refine r_if_lt (np := 46) (tgt := 50) G rfl dX12_lineHere_43 (by decide) rfl (fun h57 => ?_) (fun h57 => ?_)
  · have hm := b_t h57 hm
    refine r_iconst (np := 51) G 0 dX12_lineHere_50 rfl ?_
    exact wX12_lineHere_B51 l E out G hr hk v0 g0 t0 v0 0 _ _ _ _ hm hM (lv_sub hl [1, 0] rfl)
  · have hm := b_f h57 hm
    refine r_iconst (np := 47) G 1 dX12_lineHere_46 rfl ?_
    refine r_goto (np := 51) G dX12_lineHere_47 (by decide) ?_
    exact wX12_lineHere_B51 l E out G hr hk v0 g0 t0 v0 1 _ _ _ _ hm hM (lv_sub hl [1, 0] rfl)
set_option maxRecDepth 100000 in
set_option maxHeartbeats 4000000 in
theorem qX12_lineHere (l : Launch) (E : mE) (σ : mSt) (v0 : Nat) (out : Int × mSt) (hm : mX12_lineHere v0 σ = some out) : mMet l yX12_lineHere cX12_lineHere 4 (some .boolean) 9 307 E 276 [.ref (eA E v0)] σ (some (vI out.1)) out.2 := by
  unfold mX12_lineHere at hm
  obtain ⟨g0, hm⟩ := g_t hm
  refine m_entry (by decide +kernel) (Nat.le_of_ble_eq_true rfl) (fun p e s m args below meth c G hr hk hM ls hl => ?_)
  have G : CallFix p m c cX12_lineHere 4 s args mTs RX12 := G
  have hl : lv_has ls 4 [(0, .ref (eA E v0))] := hl
  refine r_aload_n (np := 1) G hl 0 rfl dX12_lineHere_0 rfl rfl ?_
  refine r_ldcSm (np := 3) G hM 0 (by decide) dX12_lineHere_1 rfl ?_
  obtain ⟨b58, s59, e60, hm⟩ := call_t hm
  refine m_callVI (np := 6) G hM hl.1 [.ref (eK E 0)] (qX12_is l E σ v0 0 _ e60) myX12_is (shp_lt (gX12_is e60) (by decide)) (gX12_is e60) rfl (by decide) lkX12_150 ⟨Nat.le_of_ble_eq_true rfl, Nat.le_of_ble_eq_true rfl⟩ ⟨Nat.le_of_ble_eq_true rfl, Nat.le_of_ble_eq_true rfl⟩ [] rfl (Nat.le_of_ble_eq_true rfl) dX12_lineHere_3 rfl (fun H locs hM => ?_)
  refine r_if_eq (np := 9) (tgt := 13) G rfl dX12_lineHere_6 (by decide) rfl (fun h61 => ?_) (fun h61 => ?_)
  · have hm := b_t h61 hm
    refine r_aload_n (np := 14) G hl 0 rfl dX12_lineHere_13 rfl rfl ?_
    refine r_ldcSm (np := 16) G hM 1 (by decide) dX12_lineHere_14 rfl ?_
    obtain ⟨b62, s63, e64, hm⟩ := call_t hm
    refine m_callVI (np := 19) G hM hl.1 [.ref (eK E 1)] (qX12_is l E s59 v0 1 _ e64) myX12_is (shp_lt (gX12_is e64) (by decide)) (gX12_is e64) rfl (by decide) lkX12_150 ⟨Nat.le_of_ble_eq_true rfl, Nat.le_of_ble_eq_true rfl⟩ ⟨Nat.le_of_ble_eq_true rfl, Nat.le_of_ble_eq_true rfl⟩ [] rfl (Nat.le_of_ble_eq_true rfl) dX12_lineHere_16 rfl (fun H locs hM => ?_)
    refine r_if_eq (np := 22) (tgt := 26) G rfl dX12_lineHere_19 (by decide) rfl (fun h65 => ?_) (fun h65 => ?_)
    · have hm := b_t h65 hm
      refine r_aload_n (np := 27) G hl 0 rfl dX12_lineHere_26 rfl rfl ?_
      refine r_ldcSm (np := 29) G hM 2 (by decide) dX12_lineHere_27 rfl ?_
      obtain ⟨b66, s67, e68, hm⟩ := call_t hm
      refine m_callVI (np := 32) G hM hl.1 [.ref (eK E 2)] (qX12_is l E s63 v0 2 _ e68) myX12_is (shp_lt (gX12_is e68) (by decide)) (gX12_is e68) rfl (by decide) lkX12_150 ⟨Nat.le_of_ble_eq_true rfl, Nat.le_of_ble_eq_true rfl⟩ ⟨Nat.le_of_ble_eq_true rfl, Nat.le_of_ble_eq_true rfl⟩ [] rfl (Nat.le_of_ble_eq_true rfl) dX12_lineHere_29 rfl (fun H locs hM => ?_)
      refine r_if_eq (np := 35) (tgt := 39) G rfl dX12_lineHere_32 (by decide) rfl (fun h69 => ?_) (fun h69 => ?_)
      · have hm := b_t h69 hm
        refine r_iconst (np := 40) G (-1) dX12_lineHere_39 rfl ?_
        exact wX12_lineHere_B40 l E out G hr hk v0 g0 (-1) _ _ _ _ hm hM (lv_sub hl [0] rfl)
      · have hm := b_f h69 hm
        refine r_iconst (np := 36) G 2 dX12_lineHere_35 rfl ?_
        refine r_goto (np := 40) G dX12_lineHere_36 (by decide) ?_
        exact wX12_lineHere_B40 l E out G hr hk v0 g0 2 _ _ _ _ hm hM (lv_sub hl [0] rfl)
    · have hm := b_f h65 hm
      refine r_iconst (np := 23) G 1 dX12_lineHere_22 rfl ?_
      refine r_goto (np := 40) G dX12_lineHere_23 (by decide) ?_
      exact wX12_lineHere_B40 l E out G hr hk v0 g0 1 _ _ _ _ hm hM (lv_sub hl [0] rfl)
  · have hm := b_f h61 hm
    refine r_iconst (np := 10) G 0 dX12_lineHere_9 rfl ?_
    refine r_goto (np := 40) G dX12_lineHere_10 (by decide) ?_
    exact wX12_lineHere_B40 l E out G hr hk v0 g0 0 _ _ _ _ hm hM (lv_sub hl [0] rfl)
theorem gX12_lineHere {v0 : Nat} {σ : mSt} {out : Int × mSt} (hm : mX12_lineHere v0 σ = some out) : isC v0 11 := (g_t hm).1
set_option maxRecDepth 100000 in
set_option maxHeartbeats 4000000 in
theorem wX12_text_B264 (l : Launch) (E : mE) (out : Int × mSt) {p : Program} {e : Env} {s : State} {m : MethodId} {args : Array Value} {below : List Frame} {meth : Method} {c : Code} (G : CallFix p m c cX12_text 4 s args mTs RX12) (hr : meth.sig.returnType = (some .int)) (hk : meth.locks = false) (v0 : Nat) (v1 : Int) (g0 : isC v0 11) : ∀ (σ : mSt) (H : Heap) (locs : List Loc) (ls : Array Slot), mX12_text_B264 v0 v1 σ = some out → mM (mA E 276) E 276 σ s H locs → lv_has ls 4 [(0, .ref (eA E v0))] → mGo l p e 10 330 s m args below meth c E (some (vI out.1)) out.2 H locs (F0 m 264 ls []) := by
  intro σ H locs ls hm hM hl
  unfold mX12_text_B264 at hm
  refine r_aload_n (np := 265) G hl 0 rfl dX12_text_264 rfl rfl ?_
  obtain ⟨r1, e2, hm⟩ := ref_t hm
  refine r_getR (np := 268) G hM (shp_lt g0 (by decide)) g0 e2 fdX12_12 lkX12_13 dX12_text_265 rfl ?_
  refine r_iconst (np := 269) G 0 dX12_text_268 rfl ?_
  obtain ⟨g3, hm⟩ := g_t hm
  refine r_iaload (np := 270) G hM g3 rfl dX12_text_269 rfl ?_
  exact r_iret G hr hk hM hm dX12_text_270
set_option maxRecDepth 100000 in
set_option maxHeartbeats 4000000 in
theorem wX12_text_L243 (l : Launch) (E : mE) (out : Int × mSt) {p : Program} {e : Env} {s : State} {m : MethodId} {args : Array Value} {below : List Frame} {meth : Method} {c : Code} (G : CallFix p m c cX12_text 4 s args mTs RX12) (hr : meth.sig.returnType = (some .int)) (hk : meth.locks = false) (v0 : Nat) (v1 : Int) (g0 : isC v0 11) (x264 : mSt → Option (Int × mSt)) (hx264 : ∀ (σ : mSt) (H : Heap) (locs : List Loc) (ls : Array Slot), x264 σ = some out → mM (mA E 276) E 276 σ s H locs → lv_has ls 4 [(0, .ref (eA E v0))] → mGo l p e 10 330 s m args below meth c E (some (vI out.1)) out.2 H locs (F0 m 264 ls [])) : ∀ (n : Nat) (v3 : Int) (σ : mSt) (H : Heap) (locs : List Loc) (ls : Array Slot), mX12_text_L243 v0 v1 x264 n v3 σ = some out → mM (mA E 276) E 276 σ s H locs → lv_has ls 4 [(0, .ref (eA E v0)), (3, vI v3)] → mGo l p e 10 330 s m args below meth c E (some (vI out.1)) out.2 H locs (F0 m 243 ls []) := by
  intro n
  induction n with
  | zero =>
    intro v3 σ H locs ls hm hM hl
    exact absurd hm (by rw [mX12_text_L243.eq_1]; exact fun h => nomatch h)
  | succ n ih =>
    intro v3 σ H locs ls hm hM hl
    rw [mX12_text_L243.eq_2] at hm
    refine r_iload_n (np := 244) G hl 1 rfl dX12_text_243 rfl rfl ?_
    refine r_aload_n (np := 245) G hl 0 rfl dX12_text_244 rfl rfl ?_
    obtain ⟨r4, e5, hm⟩ := ref_t hm
    refine r_getR (np := 248) G hM (shp_lt g0 (by decide)) g0 e5 fdX12_12 lkX12_13 dX12_text_245 rfl ?_
    refine r_iconst (np := 249) G 0 dX12_text_248 rfl ?_
    obtain ⟨g6, hm⟩ := g_t hm
    refine r_iaload (np := 250) G hM g6 rfl dX12_text_249 rfl ?_
    refine r_icmp_ge (np := 253) (tgt := 264) G rfl rfl dX12_text_250 (by decide) rfl (fun h7 => ?_) (fun h7 => ?_)
    · have hm := b_t h7 hm
      exact hx264 _ _ _ _ hm hM (lv_sub hl [0] rfl)
    · have hm := b_f h7 hm
      refine r_aload_n (np := 254) G hl 0 rfl dX12_text_253 rfl rfl ?_
      refine r_iload_n (np := 255) G hl 1 rfl dX12_text_254 rfl rfl ?_
      obtain ⟨b8, s9, e10, hm⟩ := call_t hm
      refine m_callVV (np := 258) G hM hl.1 [vI v3] (qX12_laysPlain l E σ v0 v3 _ e10) myX12_laysPlain (shp_lt (gX12_laysPlain e10) (by decide)) (gX12_laysPlain e10) rfl (by decide) lkX12_216 ⟨Nat.le_of_ble_eq_true rfl, Nat.le_of_ble_eq_true rfl⟩ ⟨Nat.le_of_ble_eq_true rfl, Nat.le_of_ble_eq_true rfl⟩ [] rfl (Nat.le_of_ble_eq_true rfl) dX12_text_255 rfl (fun H locs hM => ?_)
      obtain ⟨a11, e12, hm⟩ := bnd_t hm
      refine r_iinc (np := 261) G hl 1 rfl e12 [(3, vI a11), (0, .ref (eA E v0))] dX12_text_258 rfl (by decide) rfl (fun ls hl => ?_)
      refine r_goto (np := 243) G dX12_text_261 (by decide) ?_
      exact ih a11 _ _ _ _ hm hM (lv_sub hl [1, 0] rfl)
set_option maxRecDepth 100000 in
set_option maxHeartbeats 4000000 in
theorem wX12_text_B236 (l : Launch) (E : mE) (out : Int × mSt) {p : Program} {e : Env} {s : State} {m : MethodId} {args : Array Value} {below : List Frame} {meth : Method} {c : Code} (G : CallFix p m c cX12_text 4 s args mTs RX12) (hr : meth.sig.returnType = (some .int)) (hk : meth.locks = false) (v0 : Nat) (v1 : Int) (g0 : isC v0 11) : ∀ (σ : mSt) (H : Heap) (locs : List Loc) (ls : Array Slot), mX12_text_B236 v0 v1 σ = some out → mM (mA E 276) E 276 σ s H locs → lv_has ls 4 [(0, .ref (eA E v0))] → mGo l p e 10 330 s m args below meth c E (some (vI out.1)) out.2 H locs (F0 m 236 ls []) := by
  intro σ H locs ls hm hM hl
  unfold mX12_text_B236 at hm
  refine r_aload_n (np := 237) G hl 0 rfl dX12_text_236 rfl rfl ?_
  refine r_iconst (np := 238) G 0 dX12_text_237 rfl ?_
  obtain ⟨s13, e14, hm⟩ := bnd_t hm
  refine r_putI (np := 241) G hM (shp_lt g0 (by decide)) g0 ptX12_21 rfl lkX12_213 s13 e14 dX12_text_238 rfl (fun H locs hM => ?_)
  refine r_iconst (np := 242) G 0 dX12_text_241 rfl ?_
  refine r_istore_n (np := 243) G hl rfl [(3, vI 0), (0, .ref (eA E v0))] dX12_text_242 rfl rfl (by decide) rfl (fun ls hl => ?_)
  exact wX12_text_L243 l E out G hr hk v0 v1 g0 (fun zσ => mX12_text_B264 v0 v1 zσ) (fun zσ zH zl zs zm zM zv => wX12_text_B264 l E out G hr hk v0 v1 g0 zσ zH zl zs zm zM zv) mF 0 _ _ _ _ hm hM (lv_sub hl [1, 0] rfl)
set_option maxRecDepth 100000 in
set_option maxHeartbeats 4000000 in
theorem wX12_text_L194 (l : Launch) (E : mE) (out : Int × mSt) {p : Program} {e : Env} {s : State} {m : MethodId} {args : Array Value} {below : List Frame} {meth : Method} {c : Code} (G : CallFix p m c cX12_text 4 s args mTs RX12) (hr : meth.sig.returnType = (some .int)) (hk : meth.locks = false) (v0 : Nat) (v1 : Int) (g0 : isC v0 11) (x236 : mSt → Option (Int × mSt)) (hx236 : ∀ (σ : mSt) (H : Heap) (locs : List Loc) (ls : Array Slot), x236 σ = some out → mM (mA E 276) E 276 σ s H locs → lv_has ls 4 [(0, .ref (eA E v0))] → mGo l p e 10 330 s m args below meth c E (some (vI out.1)) out.2 H locs (F0 m 236 ls [])) : ∀ (n : Nat) (v3 : Int) (σ : mSt) (H : Heap) (locs : List Loc) (ls : Array Slot), mX12_text_L194 v0 v1 x236 n v3 σ = some out → mM (mA E 276) E 276 σ s H locs → lv_has ls 4 [(0, .ref (eA E v0)), (3, vI v3)] → mGo l p e 10 330 s m args below meth c E (some (vI out.1)) out.2 H locs (F0 m 194 ls []) := by
  intro n
  induction n with
  | zero =>
    intro v3 σ H locs ls hm hM hl
    exact absurd hm (by rw [mX12_text_L194.eq_1]; exact fun h => nomatch h)
  | succ n ih =>
    intro v3 σ H locs ls hm hM hl
    rw [mX12_text_L194.eq_2] at hm
    refine r_iload_n (np := 195) G hl 1 rfl dX12_text_194 rfl rfl ?_
    refine r_bipush (np := 197) G 32 dX12_text_195 (by decide) rfl ?_
    refine r_icmp_ge (np := 200) (tgt := 236) G rfl (wIk 32 rfl) dX12_text_197 (by decide) rfl (fun h15 => ?_) (fun h15 => ?_)
    · have hm := b_t h15 hm
      exact hx236 _ _ _ _ hm hM (lv_sub hl [0] rfl)
    · have hm := b_f h15 hm
      refine r_aload_n (np := 201) G hl 0 rfl dX12_text_200 rfl rfl ?_
      obtain ⟨r16, e17, hm⟩ := ref_t hm
      refine r_getR (np := 204) G hM (shp_lt g0 (by decide)) g0 e17 fdX12_17 lkX12_30 dX12_text_201 rfl ?_
      refine r_iload_n (np := 205) G hl 1 rfl dX12_text_204 rfl rfl ?_
      refine r_aload_n (np := 206) G hl 0 rfl dX12_text_205 rfl rfl ?_
      obtain ⟨r18, e19, hm⟩ := ref_t hm
      refine r_getR (np := 209) G hM (shp_lt g0 (by decide)) g0 e19 fdX12_17 lkX12_30 dX12_text_206 rfl ?_
      refine r_bipush (np := 211) G 32 dX12_text_209 (by decide) rfl ?_
      refine r_iload_n (np := 212) G hl 1 rfl dX12_text_211 rfl rfl ?_
      refine r_iadd (np := 213) G dX12_text_212 rfl ?_
      obtain ⟨g20, hm⟩ := g_t hm
      refine r_iaload (np := 214) G hM g20 rfl dX12_text_213 rfl ?_
      obtain ⟨g21, hm⟩ := g_t hm
      obtain ⟨s22, e23, hm⟩ := bnd_t hm
      refine r_iastore (np := 215) G hM g21 rfl s22 e23 dX12_text_214 rfl (fun H locs hM => ?_)
      refine r_aload_n (np := 216) G hl 0 rfl dX12_text_215 rfl rfl ?_
      obtain ⟨r24, e25, hm⟩ := ref_t hm
      refine r_getR (np := 219) G hM (shp_lt g0 (by decide)) g0 e25 fdX12_18 lkX12_33 dX12_text_216 rfl ?_
      refine r_iload_n (np := 220) G hl 1 rfl dX12_text_219 rfl rfl ?_
      refine r_aload_n (np := 221) G hl 0 rfl dX12_text_220 rfl rfl ?_
      obtain ⟨r26, e27, hm⟩ := ref_t hm
      refine r_getR (np := 224) G hM (shp_lt g0 (by decide)) g0 e27 fdX12_18 lkX12_33 dX12_text_221 rfl ?_
      refine r_bipush (np := 226) G 32 dX12_text_224 (by decide) rfl ?_
      refine r_iload_n (np := 227) G hl 1 rfl dX12_text_226 rfl rfl ?_
      refine r_iadd (np := 228) G dX12_text_227 rfl ?_
      obtain ⟨g28, hm⟩ := g_t hm
      refine r_iaload (np := 229) G hM g28 rfl dX12_text_228 rfl ?_
      obtain ⟨g29, hm⟩ := g_t hm
      obtain ⟨s30, e31, hm⟩ := bnd_t hm
      refine r_iastore (np := 230) G hM g29 rfl s30 e31 dX12_text_229 rfl (fun H locs hM => ?_)
      obtain ⟨a32, e33, hm⟩ := bnd_t hm
      refine r_iinc (np := 233) G hl 1 rfl e33 [(3, vI a32), (0, .ref (eA E v0))] dX12_text_230 rfl (by decide) rfl (fun ls hl => ?_)
      refine r_goto (np := 194) G dX12_text_233 (by decide) ?_
      exact ih a32 _ _ _ _ hm hM (lv_sub hl [1, 0] rfl)
set_option maxRecDepth 100000 in
set_option maxHeartbeats 4000000 in
theorem wX12_text_B192 (l : Launch) (E : mE) (out : Int × mSt) {p : Program} {e : Env} {s : State} {m : MethodId} {args : Array Value} {below : List Frame} {meth : Method} {c : Code} (G : CallFix p m c cX12_text 4 s args mTs RX12) (hr : meth.sig.returnType = (some .int)) (hk : meth.locks = false) (v0 : Nat) (v1 : Int) (g0 : isC v0 11) : ∀ (σ : mSt) (H : Heap) (locs : List Loc) (ls : Array Slot), mX12_text_B192 v0 v1 σ = some out → mM (mA E 276) E 276 σ s H locs → lv_has ls 4 [(0, .ref (eA E v0))] → mGo l p e 10 330 s m args below meth c E (some (vI out.1)) out.2 H locs (F0 m 192 ls []) := by
  intro σ H locs ls hm hM hl
  unfold mX12_text_B192 at hm
  refine r_iconst (np := 193) G 0 dX12_text_192 rfl ?_
  refine r_istore_n (np := 194) G hl rfl [(3, vI 0), (0, .ref (eA E v0))] dX12_text_193 rfl rfl (by decide) rfl (fun ls hl => ?_)
  exact wX12_text_L194 l E out G hr hk v0 v1 g0 (fun zσ => mX12_text_B236 v0 v1 zσ) (fun zσ zH zl zs zm zM zv => wX12_text_B236 l E out G hr hk v0 v1 g0 zσ zH zl zs zm zM zv) mF 0 _ _ _ _ hm hM (lv_sub hl [1, 0] rfl)
set_option maxRecDepth 100000 in
set_option maxHeartbeats 4000000 in
theorem wX12_text_L120 (l : Launch) (E : mE) (out : Int × mSt) {p : Program} {e : Env} {s : State} {m : MethodId} {args : Array Value} {below : List Frame} {meth : Method} {c : Code} (G : CallFix p m c cX12_text 4 s args mTs RX12) (hr : meth.sig.returnType = (some .int)) (hk : meth.locks = false) (v0 : Nat) (v1 : Int) (g0 : isC v0 11) (x192 : mSt → Option (Int × mSt)) (hx192 : ∀ (σ : mSt) (H : Heap) (locs : List Loc) (ls : Array Slot), x192 σ = some out → mM (mA E 276) E 276 σ s H locs → lv_has ls 4 [(0, .ref (eA E v0))] → mGo l p e 10 330 s m args below meth c E (some (vI out.1)) out.2 H locs (F0 m 192 ls [])) : ∀ (n : Nat) (v3 : Int) (σ : mSt) (H : Heap) (locs : List Loc) (ls : Array Slot), mX12_text_L120 v0 v1 x192 n v3 σ = some out → mM (mA E 276) E 276 σ s H locs → lv_has ls 4 [(0, .ref (eA E v0)), (3, vI v3)] → mGo l p e 10 330 s m args below meth c E (some (vI out.1)) out.2 H locs (F0 m 120 ls []) := by
  intro n
  induction n with
  | zero =>
    intro v3 σ H locs ls hm hM hl
    exact absurd hm (by rw [mX12_text_L120.eq_1]; exact fun h => nomatch h)
  | succ n ih =>
    intro v3 σ H locs ls hm hM hl
    rw [mX12_text_L120.eq_2] at hm
    refine r_iload_n (np := 121) G hl 1 rfl dX12_text_120 rfl rfl ?_
    refine r_bipush (np := 123) G 8 dX12_text_121 (by decide) rfl ?_
    refine r_icmp_ge (np := 126) (tgt := 192) G rfl (wIk 8 rfl) dX12_text_123 (by decide) rfl (fun h34 => ?_) (fun h34 => ?_)
    · have hm := b_t h34 hm
      exact hx192 _ _ _ _ hm hM (lv_sub hl [0] rfl)
    · have hm := b_f h34 hm
      refine r_aload_n (np := 127) G hl 0 rfl dX12_text_126 rfl rfl ?_
      obtain ⟨r35, e36, hm⟩ := ref_t hm
      refine r_getR (np := 130) G hM (shp_lt g0 (by decide)) g0 e36 fdX12_13 lkX12_17 dX12_text_127 rfl ?_
      refine r_iload_n (np := 131) G hl 1 rfl dX12_text_130 rfl rfl ?_
      refine r_aload_n (np := 132) G hl 0 rfl dX12_text_131 rfl rfl ?_
      obtain ⟨r37, e38, hm⟩ := ref_t hm
      refine r_getR (np := 135) G hM (shp_lt g0 (by decide)) g0 e38 fdX12_13 lkX12_17 dX12_text_132 rfl ?_
      refine r_bipush (np := 137) G 8 dX12_text_135 (by decide) rfl ?_
      refine r_iload_n (np := 138) G hl 1 rfl dX12_text_137 rfl rfl ?_
      refine r_iadd (np := 139) G dX12_text_138 rfl ?_
      obtain ⟨g39, hm⟩ := g_t hm
      refine r_laload (np := 140) G hM g39 rfl dX12_text_139 rfl ?_
      obtain ⟨g40, hm⟩ := g_t hm
      obtain ⟨s41, e42, hm⟩ := bnd_t hm
      refine r_lastore (np := 141) G hM g40 rfl s41 e42 dX12_text_140 rfl (fun H locs hM => ?_)
      refine r_aload_n (np := 142) G hl 0 rfl dX12_text_141 rfl rfl ?_
      obtain ⟨r43, e44, hm⟩ := ref_t hm
      refine r_getR (np := 145) G hM (shp_lt g0 (by decide)) g0 e44 fdX12_14 lkX12_21 dX12_text_142 rfl ?_
      refine r_iload_n (np := 146) G hl 1 rfl dX12_text_145 rfl rfl ?_
      refine r_aload_n (np := 147) G hl 0 rfl dX12_text_146 rfl rfl ?_
      obtain ⟨r45, e46, hm⟩ := ref_t hm
      refine r_getR (np := 150) G hM (shp_lt g0 (by decide)) g0 e46 fdX12_14 lkX12_21 dX12_text_147 rfl ?_
      refine r_bipush (np := 152) G 8 dX12_text_150 (by decide) rfl ?_
      refine r_iload_n (np := 153) G hl 1 rfl dX12_text_152 rfl rfl ?_
      refine r_iadd (np := 154) G dX12_text_153 rfl ?_
      obtain ⟨g47, hm⟩ := g_t hm
      refine r_iaload (np := 155) G hM g47 rfl dX12_text_154 rfl ?_
      obtain ⟨g48, hm⟩ := g_t hm
      obtain ⟨s49, e50, hm⟩ := bnd_t hm
      refine r_iastore (np := 156) G hM g48 rfl s49 e50 dX12_text_155 rfl (fun H locs hM => ?_)
      refine r_aload_n (np := 157) G hl 0 rfl dX12_text_156 rfl rfl ?_
      obtain ⟨r51, e52, hm⟩ := ref_t hm
      refine r_getR (np := 160) G hM (shp_lt g0 (by decide)) g0 e52 fdX12_15 lkX12_24 dX12_text_157 rfl ?_
      refine r_iload_n (np := 161) G hl 1 rfl dX12_text_160 rfl rfl ?_
      refine r_aload_n (np := 162) G hl 0 rfl dX12_text_161 rfl rfl ?_
      obtain ⟨r53, e54, hm⟩ := ref_t hm
      refine r_getR (np := 165) G hM (shp_lt g0 (by decide)) g0 e54 fdX12_15 lkX12_24 dX12_text_162 rfl ?_
      refine r_bipush (np := 167) G 8 dX12_text_165 (by decide) rfl ?_
      refine r_iload_n (np := 168) G hl 1 rfl dX12_text_167 rfl rfl ?_
      refine r_iadd (np := 169) G dX12_text_168 rfl ?_
      obtain ⟨g55, hm⟩ := g_t hm
      refine r_iaload (np := 170) G hM g55 rfl dX12_text_169 rfl ?_
      obtain ⟨g56, hm⟩ := g_t hm
      obtain ⟨s57, e58, hm⟩ := bnd_t hm
      refine r_iastore (np := 171) G hM g56 rfl s57 e58 dX12_text_170 rfl (fun H locs hM => ?_)
      refine r_aload_n (np := 172) G hl 0 rfl dX12_text_171 rfl rfl ?_
      obtain ⟨r59, e60, hm⟩ := ref_t hm
      refine r_getR (np := 175) G hM (shp_lt g0 (by decide)) g0 e60 fdX12_16 lkX12_27 dX12_text_172 rfl ?_
      refine r_iload_n (np := 176) G hl 1 rfl dX12_text_175 rfl rfl ?_
      refine r_aload_n (np := 177) G hl 0 rfl dX12_text_176 rfl rfl ?_
      obtain ⟨r61, e62, hm⟩ := ref_t hm
      refine r_getR (np := 180) G hM (shp_lt g0 (by decide)) g0 e62 fdX12_16 lkX12_27 dX12_text_177 rfl ?_
      refine r_bipush (np := 182) G 8 dX12_text_180 (by decide) rfl ?_
      refine r_iload_n (np := 183) G hl 1 rfl dX12_text_182 rfl rfl ?_
      refine r_iadd (np := 184) G dX12_text_183 rfl ?_
      obtain ⟨g63, hm⟩ := g_t hm
      refine r_iaload (np := 185) G hM g63 rfl dX12_text_184 rfl ?_
      obtain ⟨g64, hm⟩ := g_t hm
      obtain ⟨s65, e66, hm⟩ := bnd_t hm
      refine r_iastore (np := 186) G hM g64 rfl s65 e66 dX12_text_185 rfl (fun H locs hM => ?_)
      obtain ⟨a67, e68, hm⟩ := bnd_t hm
      refine r_iinc (np := 189) G hl 1 rfl e68 [(3, vI a67), (0, .ref (eA E v0))] dX12_text_186 rfl (by decide) rfl (fun ls hl => ?_)
      refine r_goto (np := 120) G dX12_text_189 (by decide) ?_
      exact ih a67 _ _ _ _ hm hM (lv_sub hl [1, 0] rfl)
set_option maxRecDepth 100000 in
set_option maxHeartbeats 4000000 in
theorem wX12_text_B81 (l : Launch) (E : mE) (out : Int × mSt) {p : Program} {e : Env} {s : State} {m : MethodId} {args : Array Value} {below : List Frame} {meth : Method} {c : Code} (G : CallFix p m c cX12_text 4 s args mTs RX12) (hr : meth.sig.returnType = (some .int)) (hk : meth.locks = false) (v0 : Nat) (v1 : Int) (g0 : isC v0 11) : ∀ (v2 : Int) (σ : mSt) (H : Heap) (locs : List Loc) (ls : Array Slot), mX12_text_B81 v0 v1 v2 σ = some out → mM (mA E 276) E 276 σ s H locs → lv_has ls 4 [(0, .ref (eA E v0)), (2, vI v2)] → mGo l p e 10 330 s m args below meth c E (some (vI out.1)) out.2 H locs (F0 m 81 ls []) := by
  intro v2 σ H locs ls hm hM hl
  unfold mX12_text_B81 at hm
  refine r_aload_n (np := 82) G hl 0 rfl dX12_text_81 rfl rfl ?_
  refine r_iconst (np := 83) G 0 dX12_text_82 rfl ?_
  obtain ⟨s69, e70, hm⟩ := bnd_t hm
  refine r_putI (np := 86) G hM (shp_lt g0 (by decide)) g0 ptX12_11 rfl lkX12_158 s69 e70 dX12_text_83 rfl (fun H locs hM => ?_)
  refine r_iload_n (np := 87) G hl 1 rfl dX12_text_86 rfl rfl ?_
  refine r_if_ne (np := 90) (tgt := 106) G rfl dX12_text_87 (by decide) rfl (fun h71 => ?_) (fun h71 => ?_)
  · have hm := b_f h71 hm
    refine r_aload_n (np := 107) G hl 0 rfl dX12_text_106 rfl rfl ?_
    obtain ⟨r72, e73, hm⟩ := ref_t hm
    refine r_getR (np := 110) G hM (shp_lt g0 (by decide)) g0 e73 fdX12_12 lkX12_13 dX12_text_107 rfl ?_
    refine r_iconst (np := 111) G 0 dX12_text_110 rfl ?_
    refine r_aload_n (np := 112) G hl 0 rfl dX12_text_111 rfl rfl ?_
    obtain ⟨r74, e75, hm⟩ := ref_t hm
    refine r_getR (np := 115) G hM (shp_lt g0 (by decide)) g0 e75 fdX12_12 lkX12_13 dX12_text_112 rfl ?_
    refine r_iconst (np := 116) G 1 dX12_text_115 rfl ?_
    obtain ⟨g76, hm⟩ := g_t hm
    refine r_iaload (np := 117) G hM g76 rfl dX12_text_116 rfl ?_
    obtain ⟨g77, hm⟩ := g_t hm
    obtain ⟨s78, e79, hm⟩ := bnd_t hm
    refine r_iastore (np := 118) G hM g77 rfl s78 e79 dX12_text_117 rfl (fun H locs hM => ?_)
    refine r_iconst (np := 119) G 0 dX12_text_118 rfl ?_
    refine r_istore_n (np := 120) G hl rfl [(3, vI 0), (0, .ref (eA E v0)), (2, vI v2)] dX12_text_119 rfl rfl (by decide) rfl (fun ls hl => ?_)
    exact wX12_text_L120 l E out G hr hk v0 v1 g0 (fun zσ => mX12_text_B192 v0 v1 zσ) (fun zσ zH zl zs zm zM zv => wX12_text_B192 l E out G hr hk v0 v1 g0 zσ zH zl zs zm zM zv) mF 0 _ _ _ _ hm hM (lv_sub hl [1, 0] rfl)
  · have hm := b_t h71 hm
    refine r_bipush (np := 92) G (-2) dX12_text_90 (by decide) rfl ?_
    refine r_bipush (np := 94) G 8 dX12_text_92 (by decide) rfl ?_
    refine r_aload_n (np := 95) G hl 0 rfl dX12_text_94 rfl rfl ?_
    refine r_getI (np := 98) G hM (shp_lt g0 (by decide)) g0 fdX12_10 lkX12_127 dX12_text_95 rfl ?_
    refine r_imul (np := 99) G dX12_text_98 rfl ?_
    refine r_aload_n (np := 100) G hl 0 rfl dX12_text_99 rfl rfl ?_
    refine r_getI (np := 103) G hM (shp_lt g0 (by decide)) g0 fdX12_9 lkX12_124 dX12_text_100 rfl ?_
    refine r_iadd (np := 104) G dX12_text_103 rfl ?_
    refine r_isub (np := 105) G dX12_text_104 rfl ?_
    exact r_iret G hr hk hM hm dX12_text_105
set_option maxRecDepth 100000 in
set_option maxHeartbeats 4000000 in
theorem wX12_text_L62 (l : Launch) (E : mE) (out : Int × mSt) {p : Program} {e : Env} {s : State} {m : MethodId} {args : Array Value} {below : List Frame} {meth : Method} {c : Code} (G : CallFix p m c cX12_text 4 s args mTs RX12) (hr : meth.sig.returnType = (some .int)) (hk : meth.locks = false) (v0 : Nat) (v1 : Int) (g0 : isC v0 11) (x81 : Int → mSt → Option (Int × mSt)) (hx81 : ∀ (v2 : Int) (σ : mSt) (H : Heap) (locs : List Loc) (ls : Array Slot), x81 v2 σ = some out → mM (mA E 276) E 276 σ s H locs → lv_has ls 4 [(0, .ref (eA E v0)), (2, vI v2)] → mGo l p e 10 330 s m args below meth c E (some (vI out.1)) out.2 H locs (F0 m 81 ls [])) : ∀ (n : Nat) (v2 : Int) (σ : mSt) (H : Heap) (locs : List Loc) (ls : Array Slot), mX12_text_L62 v0 v1 x81 n v2 σ = some out → mM (mA E 276) E 276 σ s H locs → lv_has ls 4 [(0, .ref (eA E v0)), (2, vI v2)] → mGo l p e 10 330 s m args below meth c E (some (vI out.1)) out.2 H locs (F0 m 62 ls []) := by
  intro n
  induction n with
  | zero =>
    intro v2 σ H locs ls hm hM hl
    exact absurd hm (by rw [mX12_text_L62.eq_1]; exact fun h => nomatch h)
  | succ n ih =>
    intro v2 σ H locs ls hm hM hl
    rw [mX12_text_L62.eq_2] at hm
    refine r_iload_n (np := 63) G hl 1 rfl dX12_text_62 rfl rfl ?_
    refine r_if_eq (np := 66) (tgt := 81) G rfl dX12_text_63 (by decide) rfl (fun h80 => ?_) (fun h80 => ?_)
    · have hm := b_t h80 hm
      exact hx81 v2 _ _ _ _ hm hM (lv_sub hl [0, 1] rfl)
    · have hm := b_f h80 hm
      refine r_aload_n (np := 67) G hl 0 rfl dX12_text_66 rfl rfl ?_
      refine r_getI (np := 70) G hM (shp_lt g0 (by decide)) g0 fdX12_6 lkX12_99 dX12_text_67 rfl ?_
      refine r_if_eq (np := 73) (tgt := 81) G rfl dX12_text_70 (by decide) rfl (fun h81 => ?_) (fun h81 => ?_)
      · have hm := b_t h81 hm
        exact hx81 v2 _ _ _ _ hm hM (lv_sub hl [0, 1] rfl)
      · have hm := b_f h81 hm
        refine r_aload_n (np := 74) G hl 0 rfl dX12_text_73 rfl rfl ?_
        obtain ⟨b82, s83, e84, hm⟩ := call_t hm
        refine m_callVI (np := 77) G hM hl.1 [] (qX12_lineHere l E σ v0 _ e84) myX12_lineHere (shp_lt (gX12_lineHere e84) (by decide)) (gX12_lineHere e84) rfl (by decide) lkX12_210 ⟨Nat.le_of_ble_eq_true rfl, Nat.le_of_ble_eq_true rfl⟩ ⟨Nat.le_of_ble_eq_true rfl, Nat.le_of_ble_eq_true rfl⟩ [] rfl (Nat.le_of_ble_eq_true rfl) dX12_text_74 rfl (fun H locs hM => ?_)
        refine r_istore_n (np := 78) G hl rfl [(2, vI b82), (0, .ref (eA E v0))] dX12_text_77 rfl rfl (by decide) rfl (fun ls hl => ?_)
        refine r_goto (np := 62) G dX12_text_78 (by decide) ?_
        exact ih b82 _ _ _ _ hm hM (lv_sub hl [1, 0] rfl)
set_option maxRecDepth 100000 in
set_option maxHeartbeats 4000000 in
theorem qX12_text (l : Launch) (E : mE) (σ : mSt) (v0 : Nat) (v1 : Int) (out : Int × mSt) (hm : mX12_text v0 v1 σ = some out) : mMet l yX12_text cX12_text 4 (some .int) 10 330 E 276 [.ref (eA E v0), vI v1] σ (some (vI out.1)) out.2 := by
  unfold mX12_text at hm
  obtain ⟨g0, hm⟩ := g_t hm
  refine m_entry (by decide +kernel) (Nat.le_of_ble_eq_true rfl) (fun p e s m args below meth c G hr hk hM ls hl => ?_)
  have G : CallFix p m c cX12_text 4 s args mTs RX12 := G
  have hl : lv_has ls 4 [(0, .ref (eA E v0)), (1, vI v1)] := hl
  refine r_aload_n (np := 1) G hl 0 rfl dX12_text_0 rfl rfl ?_
  refine r_iconst (np := 2) G 0 dX12_text_1 rfl ?_
  obtain ⟨s85, e86, hm⟩ := bnd_t hm
  refine r_putI (np := 5) G hM (shp_lt g0 (by decide)) g0 ptX12_0 rfl lkX12_75 s85 e86 dX12_text_2 rfl (fun H locs hM => ?_)
  refine r_iload_n (np := 6) G hl 1 rfl dX12_text_5 rfl rfl ?_
  refine r_i2l (np := 7) G rfl dX12_text_6 rfl ?_
  refine r_lconst (np := 8) G 0 dX12_text_7 rfl rfl ?_
  refine r_aload_n (np := 9) G hl 0 rfl dX12_text_8 rfl rfl ?_
  refine r_getI (np := 12) G hM (shp_lt g0 (by decide)) g0 fdX12_2 lkX12_79 dX12_text_9 rfl ?_
  refine r_i2l (np := 13) G rfl dX12_text_12 rfl ?_
  obtain ⟨b87, s88, e89, hm⟩ := call_t hm
  refine m_callSI (np := 16) G hM hl.1 [vL (wI v1), vL 0, vL (wI (s85 v0 2))] (qX12_within l E s85 (wI v1) 0 (wI (s85 v0 2)) _ e89) myX12_within lkX12_113 ⟨Nat.le_of_ble_eq_true rfl, Nat.le_of_ble_eq_true rfl⟩ ⟨Nat.le_of_ble_eq_true rfl, Nat.le_of_ble_eq_true rfl⟩ [] rfl (Nat.le_of_ble_eq_true rfl) dX12_text_13 rfl (fun H locs hM => ?_)
  refine r_if_ne (np := 19) (tgt := 21) G rfl dX12_text_16 (by decide) rfl (fun h90 => ?_) (fun h90 => ?_)
  · have hm := b_f h90 hm
    refine r_aload_n (np := 22) G hl 0 rfl dX12_text_21 rfl rfl ?_
    refine r_iconst (np := 23) G 0 dX12_text_22 rfl ?_
    obtain ⟨s91, e92, hm⟩ := bnd_t hm
    refine r_putI (np := 26) G hM (shp_lt g0 (by decide)) g0 ptX12_2 rfl lkX12_79 s91 e92 dX12_text_23 rfl (fun H locs hM => ?_)
    refine r_aload_n (np := 27) G hl 0 rfl dX12_text_26 rfl rfl ?_
    refine r_iload_n (np := 28) G hl 1 rfl dX12_text_27 rfl rfl ?_
    obtain ⟨s93, e94, hm⟩ := bnd_t hm
    refine r_putI (np := 31) G hM (shp_lt g0 (by decide)) g0 ptX12_3 rfl lkX12_86 s93 e94 dX12_text_28 rfl (fun H locs hM => ?_)
    refine r_aload_n (np := 32) G hl 0 rfl dX12_text_31 rfl rfl ?_
    refine r_iconst (np := 33) G 0 dX12_text_32 rfl ?_
    obtain ⟨s95, e96, hm⟩ := bnd_t hm
    refine r_putI (np := 36) G hM (shp_lt g0 (by decide)) g0 ptX12_5 rfl lkX12_89 s95 e96 dX12_text_33 rfl (fun H locs hM => ?_)
    refine r_aload_n (np := 37) G hl 0 rfl dX12_text_36 rfl rfl ?_
    refine r_iconst (np := 38) G 0 dX12_text_37 rfl ?_
    obtain ⟨s97, e98, hm⟩ := bnd_t hm
    refine r_putI (np := 41) G hM (shp_lt g0 (by decide)) g0 ptX12_9 rfl lkX12_124 s97 e98 dX12_text_38 rfl (fun H locs hM => ?_)
    refine r_aload_n (np := 42) G hl 0 rfl dX12_text_41 rfl rfl ?_
    refine r_iconst (np := 43) G 1 dX12_text_42 rfl ?_
    obtain ⟨s99, e100, hm⟩ := bnd_t hm
    refine r_putI (np := 46) G hM (shp_lt g0 (by decide)) g0 ptX12_11 rfl lkX12_158 s99 e100 dX12_text_43 rfl (fun H locs hM => ?_)
    refine r_aload_n (np := 47) G hl 0 rfl dX12_text_46 rfl rfl ?_
    obtain ⟨r101, e102, hm⟩ := ref_t hm
    refine r_getR (np := 50) G hM (shp_lt g0 (by decide)) g0 e102 fdX12_12 lkX12_13 dX12_text_47 rfl ?_
    refine r_iconst (np := 51) G 1 dX12_text_50 rfl ?_
    refine r_iconst (np := 52) G 0 dX12_text_51 rfl ?_
    obtain ⟨g103, hm⟩ := g_t hm
    obtain ⟨s104, e105, hm⟩ := bnd_t hm
    refine r_iastore (np := 53) G hM g103 rfl s104 e105 dX12_text_52 rfl (fun H locs hM => ?_)
    refine r_aload_n (np := 54) G hl 0 rfl dX12_text_53 rfl rfl ?_
    obtain ⟨b106, s107, e108, hm⟩ := call_t hm
    refine m_callVV (np := 57) G hM hl.1 [] (qX12_steps l E s104 v0 _ e108) myX12_steps (shp_lt (gX12_steps e108) (by decide)) (gX12_steps e108) rfl (by decide) lkX12_168 ⟨Nat.le_of_ble_eq_true rfl, Nat.le_of_ble_eq_true rfl⟩ ⟨Nat.le_of_ble_eq_true rfl, Nat.le_of_ble_eq_true rfl⟩ [] rfl (Nat.le_of_ble_eq_true rfl) dX12_text_54 rfl (fun H locs hM => ?_)
    refine r_aload_n (np := 58) G hl 0 rfl dX12_text_57 rfl rfl ?_
    obtain ⟨b109, s110, e111, hm⟩ := call_t hm
    refine m_callVI (np := 61) G hM hl.1 [] (qX12_lineHere l E s107 v0 _ e111) myX12_lineHere (shp_lt (gX12_lineHere e111) (by decide)) (gX12_lineHere e111) rfl (by decide) lkX12_210 ⟨Nat.le_of_ble_eq_true rfl, Nat.le_of_ble_eq_true rfl⟩ ⟨Nat.le_of_ble_eq_true rfl, Nat.le_of_ble_eq_true rfl⟩ [] rfl (Nat.le_of_ble_eq_true rfl) dX12_text_58 rfl (fun H locs hM => ?_)
    refine r_istore_n (np := 62) G hl rfl [(2, vI b109), (0, .ref (eA E v0)), (1, vI v1)] dX12_text_61 rfl rfl (by decide) rfl (fun ls hl => ?_)
    exact wX12_text_L62 l E out G hr hk v0 v1 g0 (fun z2 zσ => mX12_text_B81 v0 v1 z2 zσ) (fun z2 zσ zH zl zs zm zM zv => wX12_text_B81 l E out G hr hk v0 v1 g0 z2 zσ zH zl zs zm zM zv) mF b109 _ _ _ _ hm hM (lv_sub hl [1, 0] rfl)
  · have hm := b_t h90 hm
    refine r_iconst (np := 20) G (-1) dX12_text_19 rfl ?_
    exact r_iret G hr hk hM hm dX12_text_20
theorem gX12_text {v0 : Nat} {v1 : Int} {σ : mSt} {out : Int × mSt} (hm : mX12_text v0 v1 σ = some out) : isC v0 11 := (g_t hm).1
