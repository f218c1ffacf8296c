theorem lkX12_384 : Cond.methodLink RX12 384 yX12_putsLeast ∈ mTs := mTs_in 1751 (by decide +kernel) (by decide +kernel)
theorem myX12_putsLeast : mYV yX12_putsLeast cX12_putsLeast 9 (some .boolean) 1 := ⟨⟨mTs_in 1754 (by decide +kernel) (by decide +kernel), mTs_in 127 (by decide +kernel) (by decide +kernel), ⟨by decide, by decide⟩, by decide +kernel⟩, mTs_in 1753 (by decide +kernel) (by decide +kernel), mTs_in 97 (by decide +kernel) (by decide +kernel)⟩
theorem lkX12_381 : Cond.methodLink RX12 381 yX12_isWhole ∈ mTs := mTs_in 1782 (by decide +kernel) (by decide +kernel)
theorem myX12_isWhole : mYV yX12_isWhole cX12_isWhole 13 (some .boolean) 2 := ⟨⟨mTs_in 1785 (by decide +kernel) (by decide +kernel), mTs_in 127 (by decide +kernel) (by decide +kernel), ⟨by decide, by decide⟩, by decide +kernel⟩, mTs_in 1784 (by decide +kernel) (by decide +kernel), mTs_in 103 (by decide +kernel) (by decide +kernel)⟩
theorem lkX12_391 : Cond.constantLong RX12 391 (4) ∈ mTs := mTs_in 1713 (by decide +kernel) (by decide +kernel)
theorem lkX12_393 : Cond.methodLink RX12 393 yX12_discOf ∈ mTs := mTs_in 1709 (by decide +kernel) (by decide +kernel)
theorem myX12_discOf : mYV yX12_discOf cX12_discOf 10 (some .int) 2 := ⟨⟨mTs_in 1712 (by decide +kernel) (by decide +kernel), mTs_in 127 (by decide +kernel) (by decide +kernel), ⟨by decide, by decide⟩, by decide +kernel⟩, mTs_in 1711 (by decide +kernel) (by decide +kernel), mTs_in 90 (by decide +kernel) (by decide +kernel)⟩
theorem lkX12_396 : Cond.methodLink RX12 396 yX12_dueOf ∈ mTs := mTs_in 1722 (by decide +kernel) (by decide +kernel)
theorem myX12_dueOf : mYV yX12_dueOf cX12_dueOf 4 (some .int) 1 := ⟨⟨mTs_in 1725 (by decide +kernel) (by decide +kernel), mTs_in 127 (by decide +kernel) (by decide +kernel), ⟨by decide, by decide⟩, by decide +kernel⟩, mTs_in 1724 (by decide +kernel) (by decide +kernel), mTs_in 92 (by decide +kernel) (by decide +kernel)⟩
theorem lkX12_399 : Cond.methodLink RX12 399 yX12_copies ∈ mTs := mTs_in 1747 (by decide +kernel) (by decide +kernel)
theorem myX12_copies : mYV yX12_copies cX12_copies 4 none 2 := ⟨⟨mTs_in 1750 (by decide +kernel) (by decide +kernel), mTs_in 127 (by decide +kernel) (by decide +kernel), ⟨by decide, by decide⟩, by decide +kernel⟩, mTs_in 1749 (by decide +kernel) (by decide +kernel), mTs_in 96 (by decide +kernel) (by decide +kernel)⟩
theorem lkX12_402 : Cond.methodLink RX12 402 yX12_closes ∈ mTs := mTs_in 1778 (by decide +kernel) (by decide +kernel)
theorem myX12_closes : mYV yX12_closes cX12_closes 7 (some .boolean) 1 := ⟨⟨mTs_in 1781 (by decide +kernel) (by decide +kernel), mTs_in 127 (by decide +kernel) (by decide +kernel), ⟨by decide, by decide⟩, by decide +kernel⟩, mTs_in 1780 (by decide +kernel) (by decide +kernel), mTs_in 102 (by decide +kernel) (by decide +kernel)⟩
theorem lkX12_405 : Cond.methodLink RX12 405 yX12_tries ∈ mTs := mTs_in 1743 (by decide +kernel) (by decide +kernel)
theorem myX12_tries : mYV yX12_tries cX12_tries 10 (some .boolean) 6 := ⟨⟨mTs_in 1746 (by decide +kernel) (by decide +kernel), mTs_in 127 (by decide +kernel) (by decide +kernel), ⟨by decide, by decide⟩, by decide +kernel⟩, mTs_in 1745 (by decide +kernel) (by decide +kernel), mTs_in 95 (by decide +kernel) (by decide +kernel)⟩
theorem lkX12_409 : Cond.methodLink RX12 409 yX12_lessens ∈ mTs := mTs_in 1790 (by decide +kernel) (by decide +kernel)
theorem myX12_lessens : mYV yX12_lessens cX12_lessens 5 none 1 := ⟨⟨mTs_in 1793 (by decide +kernel) (by decide +kernel), mTs_in 127 (by decide +kernel) (by decide +kernel), ⟨by decide, by decide⟩, by decide +kernel⟩, mTs_in 1792 (by decide +kernel) (by decide +kernel), mTs_in 105 (by decide +kernel) (by decide +kernel)⟩
theorem lkX12_412 : Cond.constantLong RX12 412 (60) ∈ mTs := mTs_in 1734 (by decide +kernel) (by decide +kernel)
theorem lkX12_414 : Cond.methodLink RX12 414 yX12_hasMore ∈ mTs := mTs_in 1735 (by decide +kernel) (by decide +kernel)
theorem myX12_hasMore : mYV yX12_hasMore cX12_hasMore 3 (some .boolean) 2 := ⟨⟨mTs_in 1738 (by decide +kernel) (by decide +kernel), mTs_in 127 (by decide +kernel) (by decide +kernel), ⟨by decide, by decide⟩, by decide +kernel⟩, mTs_in 1737 (by decide +kernel) (by decide +kernel), mTs_in 93 (by decide +kernel) (by decide +kernel)⟩
theorem lkX12_417 : Cond.methodLink RX12 417 yX12_enlargesAt ∈ mTs := mTs_in 1739 (by decide +kernel) (by decide +kernel)
theorem myX12_enlargesAt : mYV yX12_enlargesAt cX12_enlargesAt 4 (some .boolean) 2 := ⟨⟨mTs_in 1742 (by decide +kernel) (by decide +kernel), mTs_in 127 (by decide +kernel) (by decide +kernel), ⟨by decide, by decide⟩, by decide +kernel⟩, mTs_in 1741 (by decide +kernel) (by decide +kernel), mTs_in 94 (by decide +kernel) (by decide +kernel)⟩
theorem lkX12_216 : Cond.methodLink RX12 216 yX12_laysPlain ∈ mTs := mTs_in 1504 (by decide +kernel) (by decide +kernel)
theorem myX12_laysPlain : mYV yX12_laysPlain cX12_laysPlain 4 none 1 := ⟨⟨mTs_in 1507 (by decide +kernel) (by decide +kernel), mTs_in 127 (by decide +kernel) (by decide +kernel), ⟨by decide, by decide⟩, by decide +kernel⟩, mTs_in 1506 (by decide +kernel) (by decide +kernel), mTs_in 70 (by decide +kernel) (by decide +kernel)⟩
theorem lkX12_69 : Cond.fieldLink RX12 69 (TX12 33).1 (TX12 33).2.1 (TX12 33).2.2.1 ∈ mTs := mTs_in 1325 (by decide +kernel) (by decide +kernel)
theorem fdX12_33 : mFld 11 33 2 37 RX12 TX12 := ⟨rfl, inX12, by decide, rfl, by decide⟩
theorem lkX12_420 : Cond.methodLink RX12 420 yX12_holds ∈ mTs := mTs_in 1806 (by decide +kernel) (by decide +kernel)
theorem myX12_holds : mYV yX12_holds cX12_holds 9 (some .boolean) 2 := ⟨⟨mTs_in 1809 (by decide +kernel) (by decide +kernel), mTs_in 127 (by decide +kernel) (by decide +kernel), ⟨by decide, by decide⟩, by decide +kernel⟩, mTs_in 1808 (by decide +kernel) (by decide +kernel), mTs_in 106 (by decide +kernel) (by decide +kernel)⟩
theorem lkX12_423 : Cond.methodLink RX12 423 yX12_isInOrder ∈ mTs := mTs_in 1814 (by decide +kernel) (by decide +kernel)
theorem myX12_isInOrder : mYV yX12_isInOrder cX12_isInOrder 3 (some .boolean) 1 := ⟨⟨mTs_in 1817 (by decide +kernel) (by decide +kernel), mTs_in 127 (by decide +kernel) (by decide +kernel), ⟨by decide, by decide⟩, by decide +kernel⟩, mTs_in 1816 (by decide +kernel) (by decide +kernel), mTs_in 107 (by decide +kernel) (by decide +kernel)⟩
theorem lkX12_426 : Cond.constantLong RX12 426 (-100) ∈ mTs := mTs_in 1830 (by decide +kernel) (by decide +kernel)
theorem lkX12_428 : Cond.constantLong RX12 428 (100) ∈ mTs := mTs_in 1831 (by decide +kernel) (by decide +kernel)
theorem lkX12_430 : Cond.methodLink RX12 430 yX12_isSmall ∈ mTs := mTs_in 1826 (by decide +kernel) (by decide +kernel)
theorem myX12_isSmall : mYV yX12_isSmall cX12_isSmall 3 (some .boolean) 1 := ⟨⟨mTs_in 1829 (by decide +kernel) (by decide +kernel), mTs_in 127 (by decide +kernel) (by decide +kernel), ⟨by decide, by decide⟩, by decide +kernel⟩, mTs_in 1828 (by decide +kernel) (by decide +kernel), mTs_in 109 (by decide +kernel) (by decide +kernel)⟩
theorem lkX12_433 : Cond.fieldLink RX12 433 (TX12 34).1 (TX12 34).2.1 (TX12 34).2.2.1 ∈ mTs := mTs_in 1326 (by decide +kernel) (by decide +kernel)
theorem fdX12_34 : mFld 11 34 0 37 RX12 TX12 := ⟨rfl, inX12, by decide, rfl, by decide⟩
theorem ptX12_34 : mPut 11 34 0 37 RX12 TX12 tyX12 .boolean := ⟨fdX12_34, tyX12_ok, nmX12, (by decide +kernel), rfl⟩
theorem dX12_closes_0 : decode cX12_closes 0 = .ok (.iconst 1, 1) := by decide +kernel
theorem dX12_closes_1 : decode cX12_closes 1 = .ok (.istore_n 2, 1) := by decide +kernel
theorem dX12_closes_2 : decode cX12_closes 2 = .ok (.iload_n 2, 1) := by decide +kernel
theorem dX12_closes_3 : decode cX12_closes 3 = .ok (.ifCond .eq 144, 3) := by decide +kernel
theorem dX12_closes_6 : decode cX12_closes 6 = .ok (.aload_n 0, 1) := by decide +kernel
theorem dX12_closes_7 : decode cX12_closes 7 = .ok (.bipush 8, 2) := by decide +kernel
theorem dX12_closes_9 : decode cX12_closes 9 = .ok (.iload_n 1, 1) := by decide +kernel
theorem dX12_closes_10 : decode cX12_closes 10 = .ok (.invokevirtual 381, 3) := by decide +kernel
theorem dX12_closes_13 : decode cX12_closes 13 = .ok (.ifCond .ne 5, 3) := by decide +kernel
theorem dX12_closes_16 : decode cX12_closes 16 = .ok (.iconst 0, 1) := by decide +kernel
theorem dX12_closes_17 : decode cX12_closes 17 = .ok (.ireturn, 1) := by decide +kernel
theorem dX12_closes_18 : decode cX12_closes 18 = .ok (.iconst 0, 1) := by decide +kernel
theorem dX12_closes_19 : decode cX12_closes 19 = .ok (.istore_n 2, 1) := by decide +kernel
theorem dX12_closes_20 : decode cX12_closes 20 = .ok (.iconst 0, 1) := by decide +kernel
theorem dX12_closes_21 : decode cX12_closes 21 = .ok (.istore_n 3, 1) := by decide +kernel
theorem dX12_closes_22 : decode cX12_closes 22 = .ok (.iload_n 3, 1) := by decide +kernel
theorem dX12_closes_23 : decode cX12_closes 23 = .ok (.iconst 4, 1) := by decide +kernel
theorem dX12_closes_24 : decode cX12_closes 24 = .ok (.if_icmp .ge 120, 3) := by decide +kernel
theorem dX12_closes_27 : decode cX12_closes 27 = .ok (.iload_n 2, 1) := by decide +kernel
theorem dX12_closes_28 : decode cX12_closes 28 = .ok (.ifCond .ne 116, 3) := by decide +kernel
theorem dX12_closes_31 : decode cX12_closes 31 = .ok (.iconst 0, 1) := by decide +kernel
theorem dX12_closes_32 : decode cX12_closes 32 = .ok (.istore 4, 2) := by decide +kernel
theorem dX12_closes_34 : decode cX12_closes 34 = .ok (.iload 4, 2) := by decide +kernel
theorem dX12_closes_36 : decode cX12_closes 36 = .ok (.iconst 4, 1) := by decide +kernel
theorem dX12_closes_37 : decode cX12_closes 37 = .ok (.if_icmp .ge 101, 3) := by decide +kernel
theorem dX12_closes_40 : decode cX12_closes 40 = .ok (.iload_n 2, 1) := by decide +kernel
theorem dX12_closes_41 : decode cX12_closes 41 = .ok (.ifCond .ne 97, 3) := by decide +kernel
theorem dX12_closes_44 : decode cX12_closes 44 = .ok (.aload_n 0, 1) := by decide +kernel
theorem dX12_closes_45 : decode cX12_closes 45 = .ok (.bipush 8, 2) := by decide +kernel
theorem dX12_closes_47 : decode cX12_closes 47 = .ok (.iload_n 3, 1) := by decide +kernel
theorem dX12_closes_48 : decode cX12_closes 48 = .ok (.iconst 0, 1) := by decide +kernel
theorem dX12_closes_49 : decode cX12_closes 49 = .ok (.invokevirtual 377, 3) := by decide +kernel
theorem dX12_closes_52 : decode cX12_closes 52 = .ok (.aload_n 0, 1) := by decide +kernel
theorem dX12_closes_53 : decode cX12_closes 53 = .ok (.bipush 8, 2) := by decide +kernel
theorem dX12_closes_55 : decode cX12_closes 55 = .ok (.iload 4, 2) := by decide +kernel
theorem dX12_closes_57 : decode cX12_closes 57 = .ok (.iconst 1, 1) := by decide +kernel
theorem dX12_closes_58 : decode cX12_closes 58 = .ok (.invokevirtual 377, 3) := by decide +kernel
theorem dX12_closes_61 : decode cX12_closes 61 = .ok (.aload_n 0, 1) := by decide +kernel
theorem dX12_closes_62 : decode cX12_closes 62 = .ok (.aload_n 0, 1) := by decide +kernel
theorem dX12_closes_63 : decode cX12_closes 63 = .ok (.getfield 24, 3) := by decide +kernel
theorem dX12_closes_66 : decode cX12_closes 66 = .ok (.iload_n 1, 1) := by decide +kernel
theorem dX12_closes_67 : decode cX12_closes 67 = .ok (.iaload, 1) := by decide +kernel
theorem dX12_closes_68 : decode cX12_closes 68 = .ok (.i2l, 1) := by decide +kernel
theorem dX12_closes_69 : decode cX12_closes 69 = .ok (.aload_n 0, 1) := by decide +kernel
theorem dX12_closes_70 : decode cX12_closes 70 = .ok (.getfield 27, 3) := by decide +kernel
theorem dX12_closes_73 : decode cX12_closes 73 = .ok (.iload_n 1, 1) := by decide +kernel
theorem dX12_closes_74 : decode cX12_closes 74 = .ok (.iaload, 1) := by decide +kernel
theorem dX12_closes_75 : decode cX12_closes 75 = .ok (.i2l, 1) := by decide +kernel
theorem dX12_closes_76 : decode cX12_closes 76 = .ok (.invokevirtual 318, 3) := by decide +kernel
theorem dX12_closes_79 : decode cX12_closes 79 = .ok (.iconst 0, 1) := by decide +kernel
theorem dX12_closes_80 : decode cX12_closes 80 = .ok (.istore 5, 2) := by decide +kernel
theorem dX12_closes_82 : decode cX12_closes 82 = .ok (.iload 5, 2) := by decide +kernel
theorem dX12_closes_84 : decode cX12_closes 84 = .ok (.iconst 4, 1) := by decide +kernel
theorem dX12_closes_85 : decode cX12_closes 85 = .ok (.if_icmp .ge 23, 3) := by decide +kernel
theorem dX12_closes_88 : decode cX12_closes 88 = .ok (.aload_n 0, 1) := by decide +kernel
theorem dX12_closes_89 : decode cX12_closes 89 = .ok (.getfield 66, 3) := by decide +kernel
theorem dX12_closes_92 : decode cX12_closes 92 = .ok (.iload 5, 2) := by decide +kernel
theorem dX12_closes_94 : decode cX12_closes 94 = .ok (.aload_n 0, 1) := by decide +kernel
theorem dX12_closes_95 : decode cX12_closes 95 = .ok (.getfield 51, 3) := by decide +kernel
theorem dX12_closes_98 : decode cX12_closes 98 = .ok (.iload 5, 2) := by decide +kernel
theorem dX12_closes_100 : decode cX12_closes 100 = .ok (.laload, 1) := by decide +kernel
theorem dX12_closes_101 : decode cX12_closes 101 = .ok (.lastore, 1) := by decide +kernel
theorem dX12_closes_102 : decode cX12_closes 102 = .ok (.iinc 5 1, 3) := by decide +kernel
theorem dX12_closes_105 : decode cX12_closes 105 = .ok (.goto (-23), 3) := by decide +kernel
theorem dX12_closes_108 : decode cX12_closes 108 = .ok (.aload_n 0, 1) := by decide +kernel
theorem dX12_closes_109 : decode cX12_closes 109 = .ok (.getfield 60, 3) := by decide +kernel
theorem dX12_closes_112 : decode cX12_closes 112 = .ok (.bipush 8, 2) := by decide +kernel
theorem dX12_closes_114 : decode cX12_closes 114 = .ok (.laload, 1) := by decide +kernel
theorem dX12_closes_115 : decode cX12_closes 115 = .ok (.aload_n 0, 1) := by decide +kernel
theorem dX12_closes_116 : decode cX12_closes 116 = .ok (.getfield 60, 3) := by decide +kernel
theorem dX12_closes_119 : decode cX12_closes 119 = .ok (.bipush 8, 2) := by decide +kernel
theorem dX12_closes_121 : decode cX12_closes 121 = .ok (.laload, 1) := by decide +kernel
theorem dX12_closes_122 : decode cX12_closes 122 = .ok (.lmul, 1) := by decide +kernel
theorem dX12_closes_123 : decode cX12_closes 123 = .ok (.lstore 5, 2) := by decide +kernel
theorem dX12_closes_125 : decode cX12_closes 125 = .ok (.aload_n 0, 1) := by decide +kernel
theorem dX12_closes_126 : decode cX12_closes 126 = .ok (.lload 5, 2) := by decide +kernel
theorem dX12_closes_128 : decode cX12_closes 128 = .ok (.invokevirtual 384, 3) := by decide +kernel
theorem dX12_closes_131 : decode cX12_closes 131 = .ok (.istore_n 2, 1) := by decide +kernel
theorem dX12_closes_132 : decode cX12_closes 132 = .ok (.iinc 4 1, 3) := by decide +kernel
theorem dX12_closes_135 : decode cX12_closes 135 = .ok (.goto (-101), 3) := by decide +kernel
theorem dX12_closes_138 : decode cX12_closes 138 = .ok (.iinc 3 1, 3) := by decide +kernel
theorem dX12_closes_141 : decode cX12_closes 141 = .ok (.goto (-119), 3) := by decide +kernel
theorem dX12_closes_144 : decode cX12_closes 144 = .ok (.goto (-142), 3) := by decide +kernel
theorem dX12_closes_147 : decode cX12_closes 147 = .ok (.iconst 1, 1) := by decide +kernel
theorem dX12_closes_148 : decode cX12_closes 148 = .ok (.ireturn, 1) := by decide +kernel
theorem dX12_discOf_0 : decode cX12_discOf 0 = .ok (.ldc2_w 391, 3) := by decide +kernel
theorem dX12_discOf_3 : decode cX12_discOf 3 = .ok (.aload_n 0, 1) := by decide +kernel
theorem dX12_discOf_4 : decode cX12_discOf 4 = .ok (.getfield 24, 3) := by decide +kernel
theorem dX12_discOf_7 : decode cX12_discOf 7 = .ok (.iload_n 2, 1) := by decide +kernel
theorem dX12_discOf_8 : decode cX12_discOf 8 = .ok (.iaload, 1) := by decide +kernel
theorem dX12_discOf_9 : decode cX12_discOf 9 = .ok (.i2l, 1) := by decide +kernel
theorem dX12_discOf_10 : decode cX12_discOf 10 = .ok (.lmul, 1) := by decide +kernel
theorem dX12_discOf_11 : decode cX12_discOf 11 = .ok (.aload_n 0, 1) := by decide +kernel
theorem dX12_discOf_12 : decode cX12_discOf 12 = .ok (.getfield 27, 3) := by decide +kernel
theorem dX12_discOf_15 : decode cX12_discOf 15 = .ok (.iload_n 2, 1) := by decide +kernel
theorem dX12_discOf_16 : decode cX12_discOf 16 = .ok (.iaload, 1) := by decide +kernel
theorem dX12_discOf_17 : decode cX12_discOf 17 = .ok (.i2l, 1) := by decide +kernel
theorem dX12_discOf_18 : decode cX12_discOf 18 = .ok (.lmul, 1) := by decide +kernel
theorem dX12_discOf_19 : decode cX12_discOf 19 = .ok (.lstore_n 3, 1) := by decide +kernel
theorem dX12_discOf_20 : decode cX12_discOf 20 = .ok (.lload_n 3, 1) := by decide +kernel
theorem dX12_discOf_21 : decode cX12_discOf 21 = .ok (.lconst 0, 1) := by decide +kernel
theorem dX12_discOf_22 : decode cX12_discOf 22 = .ok (.lcmp, 1) := by decide +kernel
theorem dX12_discOf_23 : decode cX12_discOf 23 = .ok (.ifCond .ge 8, 3) := by decide +kernel
theorem dX12_discOf_26 : decode cX12_discOf 26 = .ok (.lload_n 3, 1) := by decide +kernel
theorem dX12_discOf_27 : decode cX12_discOf 27 = .ok (.lneg, 1) := by decide +kernel
theorem dX12_discOf_28 : decode cX12_discOf 28 = .ok (.goto 4, 3) := by decide +kernel
theorem dX12_discOf_31 : decode cX12_discOf 31 = .ok (.lload_n 3, 1) := by decide +kernel
theorem dX12_discOf_32 : decode cX12_discOf 32 = .ok (.lstore_n 3, 1) := by decide +kernel
theorem dX12_discOf_33 : decode cX12_discOf 33 = .ok (.lconst 1, 1) := by decide +kernel
theorem dX12_discOf_34 : decode cX12_discOf 34 = .ok (.lstore 5, 2) := by decide +kernel
theorem dX12_discOf_36 : decode cX12_discOf 36 = .ok (.iconst 0, 1) := by decide +kernel
theorem dX12_discOf_37 : decode cX12_discOf 37 = .ok (.istore 7, 2) := by decide +kernel
theorem dX12_discOf_39 : decode cX12_discOf 39 = .ok (.iload 7, 2) := by decide +kernel
theorem dX12_discOf_41 : decode cX12_discOf 41 = .ok (.iconst 4, 1) := by decide +kernel
theorem dX12_discOf_42 : decode cX12_discOf 42 = .ok (.if_icmp .ge 52, 3) := by decide +kernel
theorem dX12_discOf_45 : decode cX12_discOf 45 = .ok (.lload_n 3, 1) := by decide +kernel
theorem dX12_discOf_46 : decode cX12_discOf 46 = .ok (.aload_n 0, 1) := by decide +kernel
theorem dX12_discOf_47 : decode cX12_discOf 47 = .ok (.iload_n 1, 1) := by decide +kernel
theorem dX12_discOf_48 : decode cX12_discOf 48 = .ok (.iload 7, 2) := by decide +kernel
theorem dX12_discOf_50 : decode cX12_discOf 50 = .ok (.iload 7, 2) := by decide +kernel
theorem dX12_discOf_52 : decode cX12_discOf 52 = .ok (.invokevirtual 355, 3) := by decide +kernel
theorem dX12_discOf_55 : decode cX12_discOf 55 = .ok (.lmul, 1) := by decide +kernel
theorem dX12_discOf_56 : decode cX12_discOf 56 = .ok (.lstore_n 3, 1) := by decide +kernel
theorem dX12_discOf_57 : decode cX12_discOf 57 = .ok (.lload 5, 2) := by decide +kernel
theorem dX12_discOf_59 : decode cX12_discOf 59 = .ok (.aload_n 0, 1) := by decide +kernel
theorem dX12_discOf_60 : decode cX12_discOf 60 = .ok (.getfield 60, 3) := by decide +kernel
theorem dX12_discOf_63 : decode cX12_discOf 63 = .ok (.iload_n 1, 1) := by decide +kernel
theorem dX12_discOf_64 : decode cX12_discOf 64 = .ok (.laload, 1) := by decide +kernel
theorem dX12_discOf_65 : decode cX12_discOf 65 = .ok (.lmul, 1) := by decide +kernel
theorem dX12_discOf_66 : decode cX12_discOf 66 = .ok (.lstore 5, 2) := by decide +kernel
theorem dX12_discOf_68 : decode cX12_discOf 68 = .ok (.lload_n 3, 1) := by decide +kernel
theorem dX12_discOf_69 : decode cX12_discOf 69 = .ok (.lload 5, 2) := by decide +kernel
theorem dX12_discOf_71 : decode cX12_discOf 71 = .ok (.invokestatic 280, 3) := by decide +kernel
theorem dX12_discOf_74 : decode cX12_discOf 74 = .ok (.lstore 8, 2) := by decide +kernel
theorem dX12_discOf_76 : decode cX12_discOf 76 = .ok (.lload_n 3, 1) := by decide +kernel
theorem dX12_discOf_77 : decode cX12_discOf 77 = .ok (.lload 8, 2) := by decide +kernel
theorem dX12_discOf_79 : decode cX12_discOf 79 = .ok (.ldiv, 1) := by decide +kernel
theorem dX12_discOf_80 : decode cX12_discOf 80 = .ok (.lstore_n 3, 1) := by decide +kernel
theorem dX12_discOf_81 : decode cX12_discOf 81 = .ok (.lload 5, 2) := by decide +kernel
theorem dX12_discOf_83 : decode cX12_discOf 83 = .ok (.lload 8, 2) := by decide +kernel
theorem dX12_discOf_85 : decode cX12_discOf 85 = .ok (.ldiv, 1) := by decide +kernel
theorem dX12_discOf_86 : decode cX12_discOf 86 = .ok (.lstore 5, 2) := by decide +kernel
theorem dX12_discOf_88 : decode cX12_discOf 88 = .ok (.iinc 7 1, 3) := by decide +kernel
theorem dX12_discOf_91 : decode cX12_discOf 91 = .ok (.goto (-52), 3) := by decide +kernel
theorem dX12_discOf_94 : decode cX12_discOf 94 = .ok (.lload_n 3, 1) := by decide +kernel
theorem dX12_discOf_95 : decode cX12_discOf 95 = .ok (.lload 5, 2) := by decide +kernel
theorem dX12_discOf_97 : decode cX12_discOf 97 = .ok (.ldiv, 1) := by decide +kernel
theorem dX12_discOf_98 : decode cX12_discOf 98 = .ok (.l2i, 1) := by decide +kernel
theorem dX12_discOf_99 : decode cX12_discOf 99 = .ok (.ireturn, 1) := by decide +kernel
theorem dX12_dueOf_0 : decode cX12_dueOf 0 = .ok (.iconst 1, 1) := by decide +kernel
theorem dX12_dueOf_1 : decode cX12_dueOf 1 = .ok (.istore_n 2, 1) := by decide +kernel
theorem dX12_dueOf_2 : decode cX12_dueOf 2 = .ok (.aload_n 0, 1) := by decide +kernel
theorem dX12_dueOf_3 : decode cX12_dueOf 3 = .ok (.iload_n 1, 1) := by decide +kernel
theorem dX12_dueOf_4 : decode cX12_dueOf 4 = .ok (.iconst 0, 1) := by decide +kernel
theorem dX12_dueOf_5 : decode cX12_dueOf 5 = .ok (.invokevirtual 268, 3) := by decide +kernel
theorem dX12_dueOf_8 : decode cX12_dueOf 8 = .ok (.istore_n 3, 1) := by decide +kernel
theorem dX12_dueOf_9 : decode cX12_dueOf 9 = .ok (.iload_n 3, 1) := by decide +kernel
theorem dX12_dueOf_10 : decode cX12_dueOf 10 = .ok (.ifCond .lt 17, 3) := by decide +kernel
theorem dX12_dueOf_13 : decode cX12_dueOf 13 = .ok (.iload_n 2, 1) := by decide +kernel
theorem dX12_dueOf_14 : decode cX12_dueOf 14 = .ok (.iload_n 3, 1) := by decide +kernel
theorem dX12_dueOf_15 : decode cX12_dueOf 15 = .ok (.imul, 1) := by decide +kernel
theorem dX12_dueOf_16 : decode cX12_dueOf 16 = .ok (.istore_n 2, 1) := by decide +kernel
theorem dX12_dueOf_17 : decode cX12_dueOf 17 = .ok (.aload_n 0, 1) := by decide +kernel
theorem dX12_dueOf_18 : decode cX12_dueOf 18 = .ok (.iload_n 1, 1) := by decide +kernel
theorem dX12_dueOf_19 : decode cX12_dueOf 19 = .ok (.iload_n 3, 1) := by decide +kernel
theorem dX12_dueOf_20 : decode cX12_dueOf 20 = .ok (.invokevirtual 268, 3) := by decide +kernel
theorem dX12_dueOf_23 : decode cX12_dueOf 23 = .ok (.istore_n 3, 1) := by decide +kernel
theorem dX12_dueOf_24 : decode cX12_dueOf 24 = .ok (.goto (-15), 3) := by decide +kernel
theorem dX12_dueOf_27 : decode cX12_dueOf 27 = .ok (.iload_n 2, 1) := by decide +kernel
theorem dX12_dueOf_28 : decode cX12_dueOf 28 = .ok (.ireturn, 1) := by decide +kernel
theorem dX12_disc_0 : decode cX12_disc 0 = .ok (.aload_n 0, 1) := by decide +kernel
theorem dX12_disc_1 : decode cX12_disc 1 = .ok (.iconst 0, 1) := by decide +kernel
theorem dX12_disc_2 : decode cX12_disc 2 = .ok (.putfield 75, 3) := by decide +kernel
theorem dX12_disc_5 : decode cX12_disc 5 = .ok (.aload_n 0, 1) := by decide +kernel
theorem dX12_disc_6 : decode cX12_disc 6 = .ok (.iload_n 1, 1) := by decide +kernel
theorem dX12_disc_7 : decode cX12_disc 7 = .ok (.invokevirtual 288, 3) := by decide +kernel
theorem dX12_disc_10 : decode cX12_disc 10 = .ok (.ifCond .eq 12, 3) := by decide +kernel
theorem dX12_disc_13 : decode cX12_disc 13 = .ok (.aload_n 0, 1) := by decide +kernel
theorem dX12_disc_14 : decode cX12_disc 14 = .ok (.iload_n 1, 1) := by decide +kernel
theorem dX12_disc_15 : decode cX12_disc 15 = .ok (.iload_n 1, 1) := by decide +kernel
theorem dX12_disc_16 : decode cX12_disc 16 = .ok (.invokevirtual 393, 3) := by decide +kernel
theorem dX12_disc_19 : decode cX12_disc 19 = .ok (.goto 4, 3) := by decide +kernel
theorem dX12_disc_22 : decode cX12_disc 22 = .ok (.iconst (-1), 1) := by decide +kernel
theorem dX12_disc_23 : decode cX12_disc 23 = .ok (.ireturn, 1) := by decide +kernel
theorem dX12_due_0 : decode cX12_due 0 = .ok (.aload_n 0, 1) := by decide +kernel
theorem dX12_due_1 : decode cX12_due 1 = .ok (.iconst 0, 1) := by decide +kernel
theorem dX12_due_2 : decode cX12_due 2 = .ok (.putfield 75, 3) := by decide +kernel
theorem dX12_due_5 : decode cX12_due 5 = .ok (.aload_n 0, 1) := by decide +kernel
theorem dX12_due_6 : decode cX12_due 6 = .ok (.iload_n 1, 1) := by decide +kernel
theorem dX12_due_7 : decode cX12_due 7 = .ok (.invokevirtual 288, 3) := by decide +kernel
theorem dX12_due_10 : decode cX12_due 10 = .ok (.ifCond .eq 11, 3) := by decide +kernel
theorem dX12_due_13 : decode cX12_due 13 = .ok (.aload_n 0, 1) := by decide +kernel
theorem dX12_due_14 : decode cX12_due 14 = .ok (.iload_n 1, 1) := by decide +kernel
theorem dX12_due_15 : decode cX12_due 15 = .ok (.invokevirtual 396, 3) := by decide +kernel
theorem dX12_due_18 : decode cX12_due 18 = .ok (.goto 4, 3) := by decide +kernel
theorem dX12_due_21 : decode cX12_due 21 = .ok (.iconst (-1), 1) := by decide +kernel
theorem dX12_due_22 : decode cX12_due 22 = .ok (.ireturn, 1) := by decide +kernel
theorem dX12_row_0 : decode cX12_row 0 = .ok (.aload_n 0, 1) := by decide +kernel
theorem dX12_row_1 : decode cX12_row 1 = .ok (.iload_n 1, 1) := by decide +kernel
theorem dX12_row_2 : decode cX12_row 2 = .ok (.invokevirtual 288, 3) := by decide +kernel
theorem dX12_row_5 : decode cX12_row 5 = .ok (.ifCond .eq 36, 3) := by decide +kernel
theorem dX12_row_8 : decode cX12_row 8 = .ok (.iload_n 2, 1) := by decide +kernel
theorem dX12_row_9 : decode cX12_row 9 = .ok (.iconst 4, 1) := by decide +kernel
theorem dX12_row_10 : decode cX12_row 10 = .ok (.if_icmp .eq 27, 3) := by decide +kernel
theorem dX12_row_13 : decode cX12_row 13 = .ok (.iload_n 2, 1) := by decide +kernel
theorem dX12_row_14 : decode cX12_row 14 = .ok (.i2l, 1) := by decide +kernel
theorem dX12_row_15 : decode cX12_row 15 = .ok (.lconst 0, 1) := by decide +kernel
theorem dX12_row_16 : decode cX12_row 16 = .ok (.ldc2_w 224, 3) := by decide +kernel
theorem dX12_row_19 : decode cX12_row 19 = .ok (.invokestatic 113, 3) := by decide +kernel
theorem dX12_row_22 : decode cX12_row 22 = .ok (.ifCond .eq 19, 3) := by decide +kernel
theorem dX12_row_25 : decode cX12_row 25 = .ok (.iload_n 3, 1) := by decide +kernel
theorem dX12_row_26 : decode cX12_row 26 = .ok (.i2l, 1) := by decide +kernel
theorem dX12_row_27 : decode cX12_row 27 = .ok (.lconst 0, 1) := by decide +kernel
theorem dX12_row_28 : decode cX12_row 28 = .ok (.ldc2_w 224, 3) := by decide +kernel
theorem dX12_row_31 : decode cX12_row 31 = .ok (.invokestatic 113, 3) := by decide +kernel
theorem dX12_row_34 : decode cX12_row 34 = .ok (.ifCond .eq 7, 3) := by decide +kernel
theorem dX12_row_37 : decode cX12_row 37 = .ok (.iconst 1, 1) := by decide +kernel
theorem dX12_row_38 : decode cX12_row 38 = .ok (.goto 4, 3) := by decide +kernel
theorem dX12_row_41 : decode cX12_row 41 = .ok (.iconst 0, 1) := by decide +kernel
theorem dX12_row_42 : decode cX12_row 42 = .ok (.istore 4, 2) := by decide +kernel
theorem dX12_row_44 : decode cX12_row 44 = .ok (.aload_n 0, 1) := by decide +kernel
theorem dX12_row_45 : decode cX12_row 45 = .ok (.iload 4, 2) := by decide +kernel
theorem dX12_row_47 : decode cX12_row 47 = .ok (.ifCond .eq 7, 3) := by decide +kernel
theorem dX12_row_50 : decode cX12_row 50 = .ok (.iconst 0, 1) := by decide +kernel
theorem dX12_row_51 : decode cX12_row 51 = .ok (.goto 4, 3) := by decide +kernel
theorem dX12_row_54 : decode cX12_row 54 = .ok (.iconst 1, 1) := by decide +kernel
theorem dX12_row_55 : decode cX12_row 55 = .ok (.putfield 75, 3) := by decide +kernel
theorem dX12_row_58 : decode cX12_row 58 = .ok (.iload 4, 2) := by decide +kernel
theorem dX12_row_60 : decode cX12_row 60 = .ok (.ifCond .ne 5, 3) := by decide +kernel
theorem dX12_row_63 : decode cX12_row 63 = .ok (.iconst 0, 1) := by decide +kernel
theorem dX12_row_64 : decode cX12_row 64 = .ok (.ireturn, 1) := by decide +kernel
theorem dX12_row_65 : decode cX12_row 65 = .ok (.iload_n 2, 1) := by decide +kernel
theorem dX12_row_66 : decode cX12_row 66 = .ok (.iconst 4, 1) := by decide +kernel
theorem dX12_row_67 : decode cX12_row 67 = .ok (.if_icmp .ne 12, 3) := by decide +kernel
theorem dX12_row_70 : decode cX12_row 70 = .ok (.aload_n 0, 1) := by decide +kernel
theorem dX12_row_71 : decode cX12_row 71 = .ok (.getfield 60, 3) := by decide +kernel
theorem dX12_row_74 : decode cX12_row 74 = .ok (.iload_n 1, 1) := by decide +kernel
theorem dX12_row_75 : decode cX12_row 75 = .ok (.laload, 1) := by decide +kernel
theorem dX12_row_76 : decode cX12_row 76 = .ok (.goto 10, 3) := by decide +kernel
theorem dX12_row_79 : decode cX12_row 79 = .ok (.aload_n 0, 1) := by decide +kernel
theorem dX12_row_80 : decode cX12_row 80 = .ok (.iload_n 1, 1) := by decide +kernel
theorem dX12_row_81 : decode cX12_row 81 = .ok (.iload_n 2, 1) := by decide +kernel
theorem dX12_row_82 : decode cX12_row 82 = .ok (.iload_n 3, 1) := by decide +kernel
theorem dX12_row_83 : decode cX12_row 83 = .ok (.invokevirtual 355, 3) := by decide +kernel
theorem dX12_row_86 : decode cX12_row 86 = .ok (.l2i, 1) := by decide +kernel
theorem dX12_row_87 : decode cX12_row 87 = .ok (.ireturn, 1) := by decide +kernel
theorem dX12_tries_0 : decode cX12_tries 0 = .ok (.iconst 0, 1) := by decide +kernel
theorem dX12_tries_1 : decode cX12_tries 1 = .ok (.istore 7, 2) := by decide +kernel
theorem dX12_tries_3 : decode cX12_tries 3 = .ok (.iload 7, 2) := by decide +kernel
theorem dX12_tries_5 : decode cX12_tries 5 = .ok (.iconst 4, 1) := by decide +kernel
theorem dX12_tries_6 : decode cX12_tries 6 = .ok (.if_icmp .ge 66, 3) := by decide +kernel
theorem dX12_tries_9 : decode cX12_tries 9 = .ok (.aload_n 0, 1) := by decide +kernel
theorem dX12_tries_10 : decode cX12_tries 10 = .ok (.getfield 66, 3) := by decide +kernel
theorem dX12_tries_13 : decode cX12_tries 13 = .ok (.iload 7, 2) := by decide +kernel
theorem dX12_tries_15 : decode cX12_tries 15 = .ok (.iload_n 3, 1) := by decide +kernel
theorem dX12_tries_16 : decode cX12_tries 16 = .ok (.i2l, 1) := by decide +kernel
theorem dX12_tries_17 : decode cX12_tries 17 = .ok (.aload_n 0, 1) := by decide +kernel
theorem dX12_tries_18 : decode cX12_tries 18 = .ok (.iload_n 1, 1) := by decide +kernel
theorem dX12_tries_19 : decode cX12_tries 19 = .ok (.iconst 0, 1) := by decide +kernel
theorem dX12_tries_20 : decode cX12_tries 20 = .ok (.iload 7, 2) := by decide +kernel
theorem dX12_tries_22 : decode cX12_tries 22 = .ok (.invokevirtual 355, 3) := by decide +kernel
theorem dX12_tries_25 : decode cX12_tries 25 = .ok (.lmul, 1) := by decide +kernel
theorem dX12_tries_26 : decode cX12_tries 26 = .ok (.iload 4, 2) := by decide +kernel
theorem dX12_tries_28 : decode cX12_tries 28 = .ok (.i2l, 1) := by decide +kernel
theorem dX12_tries_29 : decode cX12_tries 29 = .ok (.aload_n 0, 1) := by decide +kernel
theorem dX12_tries_30 : decode cX12_tries 30 = .ok (.iload_n 1, 1) := by decide +kernel
theorem dX12_tries_31 : decode cX12_tries 31 = .ok (.iconst 1, 1) := by decide +kernel
theorem dX12_tries_32 : decode cX12_tries 32 = .ok (.iload 7, 2) := by decide +kernel
theorem dX12_tries_34 : decode cX12_tries 34 = .ok (.invokevirtual 355, 3) := by decide +kernel
theorem dX12_tries_37 : decode cX12_tries 37 = .ok (.lmul, 1) := by decide +kernel
theorem dX12_tries_38 : decode cX12_tries 38 = .ok (.ladd, 1) := by decide +kernel
theorem dX12_tries_39 : decode cX12_tries 39 = .ok (.iload 5, 2) := by decide +kernel
theorem dX12_tries_41 : decode cX12_tries 41 = .ok (.i2l, 1) := by decide +kernel
theorem dX12_tries_42 : decode cX12_tries 42 = .ok (.aload_n 0, 1) := by decide +kernel
theorem dX12_tries_43 : decode cX12_tries 43 = .ok (.iload_n 1, 1) := by decide +kernel
theorem dX12_tries_44 : decode cX12_tries 44 = .ok (.iconst 2, 1) := by decide +kernel
theorem dX12_tries_45 : decode cX12_tries 45 = .ok (.iload 7, 2) := by decide +kernel
theorem dX12_tries_47 : decode cX12_tries 47 = .ok (.invokevirtual 355, 3) := by decide +kernel
theorem dX12_tries_50 : decode cX12_tries 50 = .ok (.lmul, 1) := by decide +kernel
theorem dX12_tries_51 : decode cX12_tries 51 = .ok (.ladd, 1) := by decide +kernel
theorem dX12_tries_52 : decode cX12_tries 52 = .ok (.iload 6, 2) := by decide +kernel
theorem dX12_tries_54 : decode cX12_tries 54 = .ok (.i2l, 1) := by decide +kernel
theorem dX12_tries_55 : decode cX12_tries 55 = .ok (.aload_n 0, 1) := by decide +kernel
theorem dX12_tries_56 : decode cX12_tries 56 = .ok (.iload_n 1, 1) := by decide +kernel
theorem dX12_tries_57 : decode cX12_tries 57 = .ok (.iconst 3, 1) := by decide +kernel
theorem dX12_tries_58 : decode cX12_tries 58 = .ok (.iload 7, 2) := by decide +kernel
theorem dX12_tries_60 : decode cX12_tries 60 = .ok (.invokevirtual 355, 3) := by decide +kernel
theorem dX12_tries_63 : decode cX12_tries 63 = .ok (.lmul, 1) := by decide +kernel
theorem dX12_tries_64 : decode cX12_tries 64 = .ok (.ladd, 1) := by decide +kernel
theorem dX12_tries_65 : decode cX12_tries 65 = .ok (.lastore, 1) := by decide +kernel
theorem dX12_tries_66 : decode cX12_tries 66 = .ok (.iinc 7 1, 3) := by decide +kernel
theorem dX12_tries_69 : decode cX12_tries 69 = .ok (.goto (-66), 3) := by decide +kernel
theorem dX12_tries_72 : decode cX12_tries 72 = .ok (.aload_n 0, 1) := by decide +kernel
theorem dX12_tries_73 : decode cX12_tries 73 = .ok (.getfield 60, 3) := by decide +kernel
theorem dX12_tries_76 : decode cX12_tries 76 = .ok (.iload_n 1, 1) := by decide +kernel
theorem dX12_tries_77 : decode cX12_tries 77 = .ok (.laload, 1) := by decide +kernel
theorem dX12_tries_78 : decode cX12_tries 78 = .ok (.iload_n 2, 1) := by decide +kernel
theorem dX12_tries_79 : decode cX12_tries 79 = .ok (.i2l, 1) := by decide +kernel
theorem dX12_tries_80 : decode cX12_tries 80 = .ok (.lmul, 1) := by decide +kernel
theorem dX12_tries_81 : decode cX12_tries 81 = .ok (.lstore 7, 2) := by decide +kernel
theorem dX12_tries_83 : decode cX12_tries 83 = .ok (.ldc2_w 264, 3) := by decide +kernel
theorem dX12_tries_86 : decode cX12_tries 86 = .ok (.aload_n 0, 1) := by decide +kernel
theorem dX12_tries_87 : decode cX12_tries 87 = .ok (.getfield 66, 3) := by decide +kernel
theorem dX12_tries_90 : decode cX12_tries 90 = .ok (.iconst 0, 1) := by decide +kernel
theorem dX12_tries_91 : decode cX12_tries 91 = .ok (.laload, 1) := by decide +kernel
theorem dX12_tries_92 : decode cX12_tries 92 = .ok (.lmul, 1) := by decide +kernel
theorem dX12_tries_93 : decode cX12_tries 93 = .ok (.lload 7, 2) := by decide +kernel
theorem dX12_tries_95 : decode cX12_tries 95 = .ok (.lrem, 1) := by decide +kernel
theorem dX12_tries_96 : decode cX12_tries 96 = .ok (.lconst 0, 1) := by decide +kernel
theorem dX12_tries_97 : decode cX12_tries 97 = .ok (.lcmp, 1) := by decide +kernel
theorem dX12_tries_98 : decode cX12_tries 98 = .ok (.ifCond .ne 56, 3) := by decide +kernel
theorem dX12_tries_101 : decode cX12_tries 101 = .ok (.aload_n 0, 1) := by decide +kernel
theorem dX12_tries_102 : decode cX12_tries 102 = .ok (.aload_n 0, 1) := by decide +kernel
theorem dX12_tries_103 : decode cX12_tries 103 = .ok (.getfield 66, 3) := by decide +kernel
theorem dX12_tries_106 : decode cX12_tries 106 = .ok (.iconst 0, 1) := by decide +kernel
theorem dX12_tries_107 : decode cX12_tries 107 = .ok (.laload, 1) := by decide +kernel
theorem dX12_tries_108 : decode cX12_tries 108 = .ok (.aload_n 0, 1) := by decide +kernel
theorem dX12_tries_109 : decode cX12_tries 109 = .ok (.getfield 66, 3) := by decide +kernel
theorem dX12_tries_112 : decode cX12_tries 112 = .ok (.iconst 1, 1) := by decide +kernel
theorem dX12_tries_113 : decode cX12_tries 113 = .ok (.laload, 1) := by decide +kernel
theorem dX12_tries_114 : decode cX12_tries 114 = .ok (.aload_n 0, 1) := by decide +kernel
theorem dX12_tries_115 : decode cX12_tries 115 = .ok (.getfield 66, 3) := by decide +kernel
theorem dX12_tries_118 : decode cX12_tries 118 = .ok (.iconst 2, 1) := by decide +kernel
theorem dX12_tries_119 : decode cX12_tries 119 = .ok (.laload, 1) := by decide +kernel
theorem dX12_tries_120 : decode cX12_tries 120 = .ok (.aload_n 0, 1) := by decide +kernel
theorem dX12_tries_121 : decode cX12_tries 121 = .ok (.getfield 66, 3) := by decide +kernel
theorem dX12_tries_124 : decode cX12_tries 124 = .ok (.iconst 3, 1) := by decide +kernel
theorem dX12_tries_125 : decode cX12_tries 125 = .ok (.laload, 1) := by decide +kernel
theorem dX12_tries_126 : decode cX12_tries 126 = .ok (.aload_n 0, 1) := by decide +kernel
theorem dX12_tries_127 : decode cX12_tries 127 = .ok (.getfield 24, 3) := by decide +kernel
theorem dX12_tries_130 : decode cX12_tries 130 = .ok (.iload_n 1, 1) := by decide +kernel
theorem dX12_tries_131 : decode cX12_tries 131 = .ok (.iaload, 1) := by decide +kernel
theorem dX12_tries_132 : decode cX12_tries 132 = .ok (.i2l, 1) := by decide +kernel
theorem dX12_tries_133 : decode cX12_tries 133 = .ok (.aload_n 0, 1) := by decide +kernel
theorem dX12_tries_134 : decode cX12_tries 134 = .ok (.getfield 27, 3) := by decide +kernel
theorem dX12_tries_137 : decode cX12_tries 137 = .ok (.iload_n 1, 1) := by decide +kernel
theorem dX12_tries_138 : decode cX12_tries 138 = .ok (.iaload, 1) := by decide +kernel
theorem dX12_tries_139 : decode cX12_tries 139 = .ok (.i2l, 1) := by decide +kernel
theorem dX12_tries_140 : decode cX12_tries 140 = .ok (.invokevirtual 326, 3) := by decide +kernel
theorem dX12_tries_143 : decode cX12_tries 143 = .ok (.lload 7, 2) := by decide +kernel
theorem dX12_tries_145 : decode cX12_tries 145 = .ok (.lload 7, 2) := by decide +kernel
theorem dX12_tries_147 : decode cX12_tries 147 = .ok (.lmul, 1) := by decide +kernel
theorem dX12_tries_148 : decode cX12_tries 148 = .ok (.lrem, 1) := by decide +kernel
theorem dX12_tries_149 : decode cX12_tries 149 = .ok (.lconst 0, 1) := by decide +kernel
theorem dX12_tries_150 : decode cX12_tries 150 = .ok (.lcmp, 1) := by decide +kernel
theorem dX12_tries_151 : decode cX12_tries 151 = .ok (.ifCond .eq 5, 3) := by decide +kernel
theorem dX12_tries_154 : decode cX12_tries 154 = .ok (.iconst 0, 1) := by decide +kernel
theorem dX12_tries_155 : decode cX12_tries 155 = .ok (.ireturn, 1) := by decide +kernel
theorem dX12_tries_156 : decode cX12_tries 156 = .ok (.aload_n 0, 1) := by decide +kernel
theorem dX12_tries_157 : decode cX12_tries 157 = .ok (.iload_n 1, 1) := by decide +kernel
theorem dX12_tries_158 : decode cX12_tries 158 = .ok (.bipush 8, 2) := by decide +kernel
theorem dX12_tries_160 : decode cX12_tries 160 = .ok (.invokevirtual 399, 3) := by decide +kernel
theorem dX12_tries_163 : decode cX12_tries 163 = .ok (.aload_n 0, 1) := by decide +kernel
theorem dX12_tries_164 : decode cX12_tries 164 = .ok (.lload 7, 2) := by decide +kernel
theorem dX12_tries_166 : decode cX12_tries 166 = .ok (.invokevirtual 384, 3) := by decide +kernel
theorem dX12_tries_169 : decode cX12_tries 169 = .ok (.istore 9, 2) := by decide +kernel
theorem dX12_tries_171 : decode cX12_tries 171 = .ok (.iload 9, 2) := by decide +kernel
theorem dX12_tries_173 : decode cX12_tries 173 = .ok (.ifCond .eq 15, 3) := by decide +kernel
theorem dX12_tries_176 : decode cX12_tries 176 = .ok (.aload_n 0, 1) := by decide +kernel
theorem dX12_tries_177 : decode cX12_tries 177 = .ok (.iload_n 1, 1) := by decide +kernel
theorem dX12_tries_178 : decode cX12_tries 178 = .ok (.invokevirtual 402, 3) := by decide +kernel
theorem dX12_tries_181 : decode cX12_tries 181 = .ok (.ifCond .eq 7, 3) := by decide +kernel
theorem dX12_tries_184 : decode cX12_tries 184 = .ok (.iconst 1, 1) := by decide +kernel
theorem dX12_tries_185 : decode cX12_tries 185 = .ok (.goto 4, 3) := by decide +kernel
theorem dX12_tries_188 : decode cX12_tries 188 = .ok (.iconst 0, 1) := by decide +kernel
theorem dX12_tries_189 : decode cX12_tries 189 = .ok (.ireturn, 1) := by decide +kernel
theorem dX12_enlargesAt_0 : decode cX12_enlargesAt 0 = .ok (.iconst 1, 1) := by decide +kernel
theorem dX12_enlargesAt_1 : decode cX12_enlargesAt 1 = .ok (.istore_n 3, 1) := by decide +kernel
theorem dX12_enlargesAt_2 : decode cX12_enlargesAt 2 = .ok (.iload_n 3, 1) := by decide +kernel
theorem dX12_enlargesAt_3 : decode cX12_enlargesAt 3 = .ok (.iload_n 2, 1) := by decide +kernel
theorem dX12_enlargesAt_4 : decode cX12_enlargesAt 4 = .ok (.iload_n 2, 1) := by decide +kernel
theorem dX12_enlargesAt_5 : decode cX12_enlargesAt 5 = .ok (.imul, 1) := by decide +kernel
theorem dX12_enlargesAt_6 : decode cX12_enlargesAt 6 = .ok (.iload_n 2, 1) := by decide +kernel
theorem dX12_enlargesAt_7 : decode cX12_enlargesAt 7 = .ok (.imul, 1) := by decide +kernel
theorem dX12_enlargesAt_8 : decode cX12_enlargesAt 8 = .ok (.iload_n 2, 1) := by decide +kernel
theorem dX12_enlargesAt_9 : decode cX12_enlargesAt 9 = .ok (.imul, 1) := by decide +kernel
theorem dX12_enlargesAt_10 : decode cX12_enlargesAt 10 = .ok (.if_icmp .ge 58, 3) := by decide +kernel
theorem dX12_enlargesAt_13 : decode cX12_enlargesAt 13 = .ok (.aload_n 0, 1) := by decide +kernel
theorem dX12_enlargesAt_14 : decode cX12_enlargesAt 14 = .ok (.iload_n 1, 1) := by decide +kernel
theorem dX12_enlargesAt_15 : decode cX12_enlargesAt 15 = .ok (.iload_n 2, 1) := by decide +kernel
theorem dX12_enlargesAt_16 : decode cX12_enlargesAt 16 = .ok (.iload_n 3, 1) := by decide +kernel
theorem dX12_enlargesAt_17 : decode cX12_enlargesAt 17 = .ok (.iload_n 2, 1) := by decide +kernel
theorem dX12_enlargesAt_18 : decode cX12_enlargesAt 18 = .ok (.iload_n 2, 1) := by decide +kernel
theorem dX12_enlargesAt_19 : decode cX12_enlargesAt 19 = .ok (.imul, 1) := by decide +kernel
theorem dX12_enlargesAt_20 : decode cX12_enlargesAt 20 = .ok (.iload_n 2, 1) := by decide +kernel
theorem dX12_enlargesAt_21 : decode cX12_enlargesAt 21 = .ok (.imul, 1) := by decide +kernel
theorem dX12_enlargesAt_22 : decode cX12_enlargesAt 22 = .ok (.idiv, 1) := by decide +kernel
theorem dX12_enlargesAt_23 : decode cX12_enlargesAt 23 = .ok (.iload_n 3, 1) := by decide +kernel
theorem dX12_enlargesAt_24 : decode cX12_enlargesAt 24 = .ok (.iload_n 2, 1) := by decide +kernel
theorem dX12_enlargesAt_25 : decode cX12_enlargesAt 25 = .ok (.iload_n 2, 1) := by decide +kernel
theorem dX12_enlargesAt_26 : decode cX12_enlargesAt 26 = .ok (.imul, 1) := by decide +kernel
theorem dX12_enlargesAt_27 : decode cX12_enlargesAt 27 = .ok (.idiv, 1) := by decide +kernel
theorem dX12_enlargesAt_28 : decode cX12_enlargesAt 28 = .ok (.iload_n 2, 1) := by decide +kernel
theorem dX12_enlargesAt_29 : decode cX12_enlargesAt 29 = .ok (.irem, 1) := by decide +kernel
theorem dX12_enlargesAt_30 : decode cX12_enlargesAt 30 = .ok (.iload_n 3, 1) := by decide +kernel
theorem dX12_enlargesAt_31 : decode cX12_enlargesAt 31 = .ok (.iload_n 2, 1) := by decide +kernel
theorem dX12_enlargesAt_32 : decode cX12_enlargesAt 32 = .ok (.idiv, 1) := by decide +kernel
theorem dX12_enlargesAt_33 : decode cX12_enlargesAt 33 = .ok (.iload_n 2, 1) := by decide +kernel
theorem dX12_enlargesAt_34 : decode cX12_enlargesAt 34 = .ok (.irem, 1) := by decide +kernel
theorem dX12_enlargesAt_35 : decode cX12_enlargesAt 35 = .ok (.iload_n 3, 1) := by decide +kernel
theorem dX12_enlargesAt_36 : decode cX12_enlargesAt 36 = .ok (.iload_n 2, 1) := by decide +kernel
theorem dX12_enlargesAt_37 : decode cX12_enlargesAt 37 = .ok (.irem, 1) := by decide +kernel
theorem dX12_enlargesAt_38 : decode cX12_enlargesAt 38 = .ok (.invokevirtual 405, 3) := by decide +kernel
theorem dX12_enlargesAt_41 : decode cX12_enlargesAt 41 = .ok (.ifCond .ne 6, 3) := by decide +kernel
theorem dX12_enlargesAt_44 : decode cX12_enlargesAt 44 = .ok (.goto 18, 3) := by decide +kernel
theorem dX12_enlargesAt_47 : decode cX12_enlargesAt 47 = .ok (.aload_n 0, 1) := by decide +kernel
theorem dX12_enlargesAt_48 : decode cX12_enlargesAt 48 = .ok (.bipush 8, 2) := by decide +kernel
theorem dX12_enlargesAt_50 : decode cX12_enlargesAt 50 = .ok (.invokevirtual 409, 3) := by decide +kernel
theorem dX12_enlargesAt_53 : decode cX12_enlargesAt 53 = .ok (.aload_n 0, 1) := by decide +kernel
theorem dX12_enlargesAt_54 : decode cX12_enlargesAt 54 = .ok (.bipush 8, 2) := by decide +kernel
theorem dX12_enlargesAt_56 : decode cX12_enlargesAt 56 = .ok (.iload_n 1, 1) := by decide +kernel
theorem dX12_enlargesAt_57 : decode cX12_enlargesAt 57 = .ok (.invokevirtual 399, 3) := by decide +kernel
theorem dX12_enlargesAt_60 : decode cX12_enlargesAt 60 = .ok (.iconst 1, 1) := by decide +kernel
theorem dX12_enlargesAt_61 : decode cX12_enlargesAt 61 = .ok (.ireturn, 1) := by decide +kernel
theorem dX12_enlargesAt_62 : decode cX12_enlargesAt 62 = .ok (.iinc 3 1, 3) := by decide +kernel
theorem dX12_enlargesAt_65 : decode cX12_enlargesAt 65 = .ok (.goto (-63), 3) := by decide +kernel
theorem dX12_enlargesAt_68 : decode cX12_enlargesAt 68 = .ok (.iconst 0, 1) := by decide +kernel
theorem dX12_enlargesAt_69 : decode cX12_enlargesAt 69 = .ok (.ireturn, 1) := by decide +kernel
theorem dX12_hasMore_0 : decode cX12_hasMore 0 = .ok (.aload_n 0, 1) := by decide +kernel
theorem dX12_hasMore_1 : decode cX12_hasMore 1 = .ok (.iload_n 1, 1) := by decide +kernel
theorem dX12_hasMore_2 : decode cX12_hasMore 2 = .ok (.iload_n 1, 1) := by decide +kernel
theorem dX12_hasMore_3 : decode cX12_hasMore 3 = .ok (.invokevirtual 393, 3) := by decide +kernel
theorem dX12_hasMore_6 : decode cX12_hasMore 6 = .ok (.iload_n 2, 1) := by decide +kernel
theorem dX12_hasMore_7 : decode cX12_hasMore 7 = .ok (.invokestatic 232, 3) := by decide +kernel
theorem dX12_hasMore_10 : decode cX12_hasMore 10 = .ok (.aload_n 0, 1) := by decide +kernel
theorem dX12_hasMore_11 : decode cX12_hasMore 11 = .ok (.iload_n 1, 1) := by decide +kernel
theorem dX12_hasMore_12 : decode cX12_hasMore 12 = .ok (.invokevirtual 396, 3) := by decide +kernel
theorem dX12_hasMore_15 : decode cX12_hasMore 15 = .ok (.iload_n 2, 1) := by decide +kernel
theorem dX12_hasMore_16 : decode cX12_hasMore 16 = .ok (.invokestatic 232, 3) := by decide +kernel
theorem dX12_hasMore_19 : decode cX12_hasMore 19 = .ok (.if_icmp .le 7, 3) := by decide +kernel
theorem dX12_hasMore_22 : decode cX12_hasMore 22 = .ok (.iconst 1, 1) := by decide +kernel
theorem dX12_hasMore_23 : decode cX12_hasMore 23 = .ok (.goto 4, 3) := by decide +kernel
theorem dX12_hasMore_26 : decode cX12_hasMore 26 = .ok (.iconst 0, 1) := by decide +kernel
theorem dX12_hasMore_27 : decode cX12_hasMore 27 = .ok (.ireturn, 1) := by decide +kernel
theorem dX12_enlarge_0 : decode cX12_enlarge 0 = .ok (.aload_n 0, 1) := by decide +kernel
theorem dX12_enlarge_1 : decode cX12_enlarge 1 = .ok (.iconst 0, 1) := by decide +kernel
theorem dX12_enlarge_2 : decode cX12_enlarge 2 = .ok (.putfield 75, 3) := by decide +kernel
theorem dX12_enlarge_5 : decode cX12_enlarge 5 = .ok (.aload_n 0, 1) := by decide +kernel
theorem dX12_enlarge_6 : decode cX12_enlarge 6 = .ok (.iload_n 1, 1) := by decide +kernel
theorem dX12_enlarge_7 : decode cX12_enlarge 7 = .ok (.invokevirtual 288, 3) := by decide +kernel
theorem dX12_enlarge_10 : decode cX12_enlarge 10 = .ok (.ifCond .eq 24, 3) := by decide +kernel
theorem dX12_enlarge_13 : decode cX12_enlarge 13 = .ok (.iload_n 2, 1) := by decide +kernel
theorem dX12_enlarge_14 : decode cX12_enlarge 14 = .ok (.i2l, 1) := by decide +kernel
theorem dX12_enlarge_15 : decode cX12_enlarge 15 = .ok (.ldc2_w 264, 3) := by decide +kernel
theorem dX12_enlarge_18 : decode cX12_enlarge 18 = .ok (.ldc2_w 412, 3) := by decide +kernel
theorem dX12_enlarge_21 : decode cX12_enlarge 21 = .ok (.invokestatic 113, 3) := by decide +kernel
theorem dX12_enlarge_24 : decode cX12_enlarge 24 = .ok (.ifCond .eq 10, 3) := by decide +kernel
theorem dX12_enlarge_27 : decode cX12_enlarge 27 = .ok (.iload_n 2, 1) := by decide +kernel
theorem dX12_enlarge_28 : decode cX12_enlarge 28 = .ok (.invokestatic 248, 3) := by decide +kernel
theorem dX12_enlarge_31 : decode cX12_enlarge 31 = .ok (.ifCond .ne 5, 3) := by decide +kernel
theorem dX12_enlarge_34 : decode cX12_enlarge 34 = .ok (.iconst (-1), 1) := by decide +kernel
theorem dX12_enlarge_35 : decode cX12_enlarge 35 = .ok (.ireturn, 1) := by decide +kernel
theorem dX12_enlarge_36 : decode cX12_enlarge 36 = .ok (.aload_n 0, 1) := by decide +kernel
theorem dX12_enlarge_37 : decode cX12_enlarge 37 = .ok (.iload_n 1, 1) := by decide +kernel
theorem dX12_enlarge_38 : decode cX12_enlarge 38 = .ok (.iload_n 2, 1) := by decide +kernel
theorem dX12_enlarge_39 : decode cX12_enlarge 39 = .ok (.invokevirtual 414, 3) := by decide +kernel
theorem dX12_enlarge_42 : decode cX12_enlarge 42 = .ok (.ifCond .ne 5, 3) := by decide +kernel
theorem dX12_enlarge_45 : decode cX12_enlarge 45 = .ok (.iconst 0, 1) := by decide +kernel
theorem dX12_enlarge_46 : decode cX12_enlarge 46 = .ok (.ireturn, 1) := by decide +kernel
theorem dX12_enlarge_47 : decode cX12_enlarge 47 = .ok (.aload_n 0, 1) := by decide +kernel
theorem dX12_enlarge_48 : decode cX12_enlarge 48 = .ok (.iload_n 1, 1) := by decide +kernel
theorem dX12_enlarge_49 : decode cX12_enlarge 49 = .ok (.iload_n 1, 1) := by decide +kernel
theorem dX12_enlarge_50 : decode cX12_enlarge 50 = .ok (.invokevirtual 393, 3) := by decide +kernel
theorem dX12_enlarge_53 : decode cX12_enlarge 53 = .ok (.istore_n 3, 1) := by decide +kernel
theorem dX12_enlarge_54 : decode cX12_enlarge 54 = .ok (.aload_n 0, 1) := by decide +kernel
theorem dX12_enlarge_55 : decode cX12_enlarge 55 = .ok (.iload_n 1, 1) := by decide +kernel
theorem dX12_enlarge_56 : decode cX12_enlarge 56 = .ok (.iload_n 2, 1) := by decide +kernel
theorem dX12_enlarge_57 : decode cX12_enlarge 57 = .ok (.invokevirtual 417, 3) := by decide +kernel
theorem dX12_enlarge_60 : decode cX12_enlarge 60 = .ok (.ifCond .eq 14, 3) := by decide +kernel
theorem dX12_enlarge_63 : decode cX12_enlarge 63 = .ok (.iload_n 3, 1) := by decide +kernel
theorem dX12_enlarge_64 : decode cX12_enlarge 64 = .ok (.aload_n 0, 1) := by decide +kernel
theorem dX12_enlarge_65 : decode cX12_enlarge 65 = .ok (.iload_n 1, 1) := by decide +kernel
theorem dX12_enlarge_66 : decode cX12_enlarge 66 = .ok (.iload_n 1, 1) := by decide +kernel
theorem dX12_enlarge_67 : decode cX12_enlarge 67 = .ok (.invokevirtual 393, 3) := by decide +kernel
theorem dX12_enlarge_70 : decode cX12_enlarge 70 = .ok (.idiv, 1) := by decide +kernel
theorem dX12_enlarge_71 : decode cX12_enlarge 71 = .ok (.goto 4, 3) := by decide +kernel
theorem dX12_enlarge_74 : decode cX12_enlarge 74 = .ok (.iconst 0, 1) := by decide +kernel
theorem dX12_enlarge_75 : decode cX12_enlarge 75 = .ok (.ireturn, 1) := by decide +kernel
theorem dX12_greatest_0 : decode cX12_greatest 0 = .ok (.aload_n 0, 1) := by decide +kernel
theorem dX12_greatest_1 : decode cX12_greatest 1 = .ok (.iconst 0, 1) := by decide +kernel
theorem dX12_greatest_2 : decode cX12_greatest 2 = .ok (.putfield 75, 3) := by decide +kernel
theorem dX12_greatest_5 : decode cX12_greatest 5 = .ok (.aload_n 0, 1) := by decide +kernel
theorem dX12_greatest_6 : decode cX12_greatest 6 = .ok (.iload_n 1, 1) := by decide +kernel
theorem dX12_greatest_7 : decode cX12_greatest 7 = .ok (.invokevirtual 288, 3) := by decide +kernel
theorem dX12_greatest_10 : decode cX12_greatest 10 = .ok (.ifCond .ne 5, 3) := by decide +kernel
theorem dX12_greatest_13 : decode cX12_greatest 13 = .ok (.iconst (-1), 1) := by decide +kernel
theorem dX12_greatest_14 : decode cX12_greatest 14 = .ok (.ireturn, 1) := by decide +kernel
theorem dX12_greatest_15 : decode cX12_greatest 15 = .ok (.iconst 0, 1) := by decide +kernel
theorem dX12_greatest_16 : decode cX12_greatest 16 = .ok (.istore_n 2, 1) := by decide +kernel
theorem dX12_greatest_17 : decode cX12_greatest 17 = .ok (.iconst 2, 1) := by decide +kernel
theorem dX12_greatest_18 : decode cX12_greatest 18 = .ok (.istore_n 3, 1) := by decide +kernel
theorem dX12_greatest_19 : decode cX12_greatest 19 = .ok (.iload_n 3, 1) := by decide +kernel
theorem dX12_greatest_20 : decode cX12_greatest 20 = .ok (.bipush 60, 2) := by decide +kernel
theorem dX12_greatest_22 : decode cX12_greatest 22 = .ok (.if_icmp .gt 40, 3) := by decide +kernel
theorem dX12_greatest_25 : decode cX12_greatest 25 = .ok (.iload_n 3, 1) := by decide +kernel
theorem dX12_greatest_26 : decode cX12_greatest 26 = .ok (.invokestatic 248, 3) := by decide +kernel
theorem dX12_greatest_29 : decode cX12_greatest 29 = .ok (.ifCond .eq 27, 3) := by decide +kernel
theorem dX12_greatest_32 : decode cX12_greatest 32 = .ok (.aload_n 0, 1) := by decide +kernel
theorem dX12_greatest_33 : decode cX12_greatest 33 = .ok (.iload_n 1, 1) := by decide +kernel
theorem dX12_greatest_34 : decode cX12_greatest 34 = .ok (.iload_n 3, 1) := by decide +kernel
theorem dX12_greatest_35 : decode cX12_greatest 35 = .ok (.invokevirtual 414, 3) := by decide +kernel
theorem dX12_greatest_38 : decode cX12_greatest 38 = .ok (.ifCond .eq 18, 3) := by decide +kernel
theorem dX12_greatest_41 : decode cX12_greatest 41 = .ok (.aload_n 0, 1) := by decide +kernel
theorem dX12_greatest_42 : decode cX12_greatest 42 = .ok (.iload_n 1, 1) := by decide +kernel
theorem dX12_greatest_43 : decode cX12_greatest 43 = .ok (.iload_n 3, 1) := by decide +kernel
theorem dX12_greatest_44 : decode cX12_greatest 44 = .ok (.invokevirtual 417, 3) := by decide +kernel
theorem dX12_greatest_47 : decode cX12_greatest 47 = .ok (.ifCond .eq 9, 3) := by decide +kernel
theorem dX12_greatest_50 : decode cX12_greatest 50 = .ok (.iinc 2 1, 3) := by decide +kernel
theorem dX12_greatest_53 : decode cX12_greatest 53 = .ok (.goto (-34), 3) := by decide +kernel
theorem dX12_greatest_56 : decode cX12_greatest 56 = .ok (.iinc 3 1, 3) := by decide +kernel
theorem dX12_greatest_59 : decode cX12_greatest 59 = .ok (.goto (-40), 3) := by decide +kernel
theorem dX12_greatest_62 : decode cX12_greatest 62 = .ok (.iload_n 2, 1) := by decide +kernel
theorem dX12_greatest_63 : decode cX12_greatest 63 = .ok (.ireturn, 1) := by decide +kernel
theorem dX12_plain_0 : decode cX12_plain 0 = .ok (.aload_n 0, 1) := by decide +kernel
theorem dX12_plain_1 : decode cX12_plain 1 = .ok (.iconst 0, 1) := by decide +kernel
theorem dX12_plain_2 : decode cX12_plain 2 = .ok (.putfield 75, 3) := by decide +kernel
theorem dX12_plain_5 : decode cX12_plain 5 = .ok (.aload_n 0, 1) := by decide +kernel
theorem dX12_plain_6 : decode cX12_plain 6 = .ok (.iload_n 1, 1) := by decide +kernel
theorem dX12_plain_7 : decode cX12_plain 7 = .ok (.invokevirtual 288, 3) := by decide +kernel
theorem dX12_plain_10 : decode cX12_plain 10 = .ok (.ifCond .ne 5, 3) := by decide +kernel
theorem dX12_plain_13 : decode cX12_plain 13 = .ok (.iconst 0, 1) := by decide +kernel
theorem dX12_plain_14 : decode cX12_plain 14 = .ok (.ireturn, 1) := by decide +kernel
theorem dX12_plain_15 : decode cX12_plain 15 = .ok (.aload_n 0, 1) := by decide +kernel
theorem dX12_plain_16 : decode cX12_plain 16 = .ok (.iload_n 1, 1) := by decide +kernel
theorem dX12_plain_17 : decode cX12_plain 17 = .ok (.invokevirtual 216, 3) := by decide +kernel
theorem dX12_plain_20 : decode cX12_plain 20 = .ok (.iconst 1, 1) := by decide +kernel
theorem dX12_plain_21 : decode cX12_plain 21 = .ok (.ireturn, 1) := by decide +kernel
theorem dX12_holds_0 : decode cX12_holds 0 = .ok (.iconst 0, 1) := by decide +kernel
theorem dX12_holds_1 : decode cX12_holds 1 = .ok (.istore 4, 2) := by decide +kernel
theorem dX12_holds_3 : decode cX12_holds 3 = .ok (.iload 4, 2) := by decide +kernel
theorem dX12_holds_5 : decode cX12_holds 5 = .ok (.iconst 4, 1) := by decide +kernel
theorem dX12_holds_6 : decode cX12_holds 6 = .ok (.if_icmp .ge 61, 3) := by decide +kernel
theorem dX12_holds_9 : decode cX12_holds 9 = .ok (.aload_n 0, 1) := by decide +kernel
theorem dX12_holds_10 : decode cX12_holds 10 = .ok (.getfield 60, 3) := by decide +kernel
theorem dX12_holds_13 : decode cX12_holds 13 = .ok (.iload_n 1, 1) := by decide +kernel
theorem dX12_holds_14 : decode cX12_holds 14 = .ok (.laload, 1) := by decide +kernel
theorem dX12_holds_15 : decode cX12_holds 15 = .ok (.lload_n 2, 1) := by decide +kernel
theorem dX12_holds_16 : decode cX12_holds 16 = .ok (.invokestatic 280, 3) := by decide +kernel
theorem dX12_holds_19 : decode cX12_holds 19 = .ok (.lstore 5, 2) := by decide +kernel
theorem dX12_holds_21 : decode cX12_holds 21 = .ok (.lload_n 2, 1) := by decide +kernel
theorem dX12_holds_22 : decode cX12_holds 22 = .ok (.lload 5, 2) := by decide +kernel
theorem dX12_holds_24 : decode cX12_holds 24 = .ok (.ldiv, 1) := by decide +kernel
theorem dX12_holds_25 : decode cX12_holds 25 = .ok (.lstore 7, 2) := by decide +kernel
theorem dX12_holds_27 : decode cX12_holds 27 = .ok (.aload_n 0, 1) := by decide +kernel
theorem dX12_holds_28 : decode cX12_holds 28 = .ok (.getfield 66, 3) := by decide +kernel
theorem dX12_holds_31 : decode cX12_holds 31 = .ok (.iload 4, 2) := by decide +kernel
theorem dX12_holds_33 : decode cX12_holds 33 = .ok (.laload, 1) := by decide +kernel
theorem dX12_holds_34 : decode cX12_holds 34 = .ok (.lload 7, 2) := by decide +kernel
theorem dX12_holds_36 : decode cX12_holds 36 = .ok (.lrem, 1) := by decide +kernel
theorem dX12_holds_37 : decode cX12_holds 37 = .ok (.lconst 0, 1) := by decide +kernel
theorem dX12_holds_38 : decode cX12_holds 38 = .ok (.lcmp, 1) := by decide +kernel
theorem dX12_holds_39 : decode cX12_holds 39 = .ok (.ifCond .eq 5, 3) := by decide +kernel
theorem dX12_holds_42 : decode cX12_holds 42 = .ok (.iconst 0, 1) := by decide +kernel
theorem dX12_holds_43 : decode cX12_holds 43 = .ok (.ireturn, 1) := by decide +kernel
theorem dX12_holds_44 : decode cX12_holds 44 = .ok (.aload_n 0, 1) := by decide +kernel
theorem dX12_holds_45 : decode cX12_holds 45 = .ok (.getfield 66, 3) := by decide +kernel
theorem dX12_holds_48 : decode cX12_holds 48 = .ok (.iload 4, 2) := by decide +kernel
theorem dX12_holds_50 : decode cX12_holds 50 = .ok (.aload_n 0, 1) := by decide +kernel
theorem dX12_holds_51 : decode cX12_holds 51 = .ok (.getfield 66, 3) := by decide +kernel
theorem dX12_holds_54 : decode cX12_holds 54 = .ok (.iload 4, 2) := by decide +kernel
theorem dX12_holds_56 : decode cX12_holds 56 = .ok (.laload, 1) := by decide +kernel
theorem dX12_holds_57 : decode cX12_holds 57 = .ok (.lload 7, 2) := by decide +kernel
theorem dX12_holds_59 : decode cX12_holds 59 = .ok (.ldiv, 1) := by decide +kernel
theorem dX12_holds_60 : decode cX12_holds 60 = .ok (.lastore, 1) := by decide +kernel
theorem dX12_holds_61 : decode cX12_holds 61 = .ok (.iinc 4 1, 3) := by decide +kernel
theorem dX12_holds_64 : decode cX12_holds 64 = .ok (.goto (-61), 3) := by decide +kernel
theorem dX12_holds_67 : decode cX12_holds 67 = .ok (.aload_n 0, 1) := by decide +kernel
theorem dX12_holds_68 : decode cX12_holds 68 = .ok (.getfield 60, 3) := by decide +kernel
theorem dX12_holds_71 : decode cX12_holds 71 = .ok (.iload_n 1, 1) := by decide +kernel
theorem dX12_holds_72 : decode cX12_holds 72 = .ok (.laload, 1) := by decide +kernel
theorem dX12_holds_73 : decode cX12_holds 73 = .ok (.aload_n 0, 1) := by decide +kernel
theorem dX12_holds_74 : decode cX12_holds 74 = .ok (.getfield 60, 3) := by decide +kernel
theorem dX12_holds_77 : decode cX12_holds 77 = .ok (.iload_n 1, 1) := by decide +kernel
theorem dX12_holds_78 : decode cX12_holds 78 = .ok (.laload, 1) := by decide +kernel
theorem dX12_holds_79 : decode cX12_holds 79 = .ok (.lload_n 2, 1) := by decide +kernel
theorem dX12_holds_80 : decode cX12_holds 80 = .ok (.invokestatic 280, 3) := by decide +kernel
theorem dX12_holds_83 : decode cX12_holds 83 = .ok (.ldiv, 1) := by decide +kernel
theorem dX12_holds_84 : decode cX12_holds 84 = .ok (.lstore 4, 2) := by decide +kernel
theorem dX12_holds_86 : decode cX12_holds 86 = .ok (.iconst 0, 1) := by decide +kernel
theorem dX12_holds_87 : decode cX12_holds 87 = .ok (.istore 6, 2) := by decide +kernel
theorem dX12_holds_89 : decode cX12_holds 89 = .ok (.iload 6, 2) := by decide +kernel
theorem dX12_holds_91 : decode cX12_holds 91 = .ok (.iconst 4, 1) := by decide +kernel
theorem dX12_holds_92 : decode cX12_holds 92 = .ok (.if_icmp .ge 21, 3) := by decide +kernel
theorem dX12_holds_95 : decode cX12_holds 95 = .ok (.aload_n 0, 1) := by decide +kernel
theorem dX12_holds_96 : decode cX12_holds 96 = .ok (.getfield 66, 3) := by decide +kernel
theorem dX12_holds_99 : decode cX12_holds 99 = .ok (.iload 6, 2) := by decide +kernel
theorem dX12_holds_101 : decode cX12_holds 101 = .ok (.dup2, 1) := by decide +kernel
theorem dX12_holds_102 : decode cX12_holds 102 = .ok (.laload, 1) := by decide +kernel
theorem dX12_holds_103 : decode cX12_holds 103 = .ok (.lload 4, 2) := by decide +kernel
theorem dX12_holds_105 : decode cX12_holds 105 = .ok (.lmul, 1) := by decide +kernel
theorem dX12_holds_106 : decode cX12_holds 106 = .ok (.lastore, 1) := by decide +kernel
theorem dX12_holds_107 : decode cX12_holds 107 = .ok (.iinc 6 1, 3) := by decide +kernel
theorem dX12_holds_110 : decode cX12_holds 110 = .ok (.goto (-21), 3) := by decide +kernel
theorem dX12_holds_113 : decode cX12_holds 113 = .ok (.iconst 0, 1) := by decide +kernel
theorem dX12_holds_114 : decode cX12_holds 114 = .ok (.istore 6, 2) := by decide +kernel
theorem dX12_holds_116 : decode cX12_holds 116 = .ok (.iload 6, 2) := by decide +kernel
theorem dX12_holds_118 : decode cX12_holds 118 = .ok (.iconst 4, 1) := by decide +kernel
theorem dX12_holds_119 : decode cX12_holds 119 = .ok (.if_icmp .ge 100, 3) := by decide +kernel
theorem dX12_holds_122 : decode cX12_holds 122 = .ok (.aload_n 0, 1) := by decide +kernel
theorem dX12_holds_123 : decode cX12_holds 123 = .ok (.getfield 66, 3) := by decide +kernel
theorem dX12_holds_126 : decode cX12_holds 126 = .ok (.iload 6, 2) := by decide +kernel
theorem dX12_holds_128 : decode cX12_holds 128 = .ok (.laload, 1) := by decide +kernel
theorem dX12_holds_129 : decode cX12_holds 129 = .ok (.aload_n 0, 1) := by decide +kernel
theorem dX12_holds_130 : decode cX12_holds 130 = .ok (.iload_n 1, 1) := by decide +kernel
theorem dX12_holds_131 : decode cX12_holds 131 = .ok (.iload 6, 2) := by decide +kernel
theorem dX12_holds_133 : decode cX12_holds 133 = .ok (.iload 6, 2) := by decide +kernel
theorem dX12_holds_135 : decode cX12_holds 135 = .ok (.invokevirtual 355, 3) := by decide +kernel
theorem dX12_holds_138 : decode cX12_holds 138 = .ok (.lrem, 1) := by decide +kernel
theorem dX12_holds_139 : decode cX12_holds 139 = .ok (.lconst 0, 1) := by decide +kernel
theorem dX12_holds_140 : decode cX12_holds 140 = .ok (.lcmp, 1) := by decide +kernel
theorem dX12_holds_141 : decode cX12_holds 141 = .ok (.ifCond .eq 5, 3) := by decide +kernel
theorem dX12_holds_144 : decode cX12_holds 144 = .ok (.iconst 0, 1) := by decide +kernel
theorem dX12_holds_145 : decode cX12_holds 145 = .ok (.ireturn, 1) := by decide +kernel
theorem dX12_holds_146 : decode cX12_holds 146 = .ok (.aload_n 0, 1) := by decide +kernel
theorem dX12_holds_147 : decode cX12_holds 147 = .ok (.getfield 69, 3) := by decide +kernel
theorem dX12_holds_150 : decode cX12_holds 150 = .ok (.iload 6, 2) := by decide +kernel
theorem dX12_holds_152 : decode cX12_holds 152 = .ok (.aload_n 0, 1) := by decide +kernel
theorem dX12_holds_153 : decode cX12_holds 153 = .ok (.getfield 66, 3) := by decide +kernel
theorem dX12_holds_156 : decode cX12_holds 156 = .ok (.iload 6, 2) := by decide +kernel
theorem dX12_holds_158 : decode cX12_holds 158 = .ok (.laload, 1) := by decide +kernel
theorem dX12_holds_159 : decode cX12_holds 159 = .ok (.aload_n 0, 1) := by decide +kernel
theorem dX12_holds_160 : decode cX12_holds 160 = .ok (.iload_n 1, 1) := by decide +kernel
theorem dX12_holds_161 : decode cX12_holds 161 = .ok (.iload 6, 2) := by decide +kernel
theorem dX12_holds_163 : decode cX12_holds 163 = .ok (.iload 6, 2) := by decide +kernel
theorem dX12_holds_165 : decode cX12_holds 165 = .ok (.invokevirtual 355, 3) := by decide +kernel
theorem dX12_holds_168 : decode cX12_holds 168 = .ok (.ldiv, 1) := by decide +kernel
theorem dX12_holds_169 : decode cX12_holds 169 = .ok (.lastore, 1) := by decide +kernel
theorem dX12_holds_170 : decode cX12_holds 170 = .ok (.iload 6, 2) := by decide +kernel
theorem dX12_holds_172 : decode cX12_holds 172 = .ok (.istore 7, 2) := by decide +kernel
theorem dX12_holds_174 : decode cX12_holds 174 = .ok (.iload 7, 2) := by decide +kernel
theorem dX12_holds_176 : decode cX12_holds 176 = .ok (.iconst 4, 1) := by decide +kernel
theorem dX12_holds_177 : decode cX12_holds 177 = .ok (.if_icmp .ge 36, 3) := by decide +kernel
theorem dX12_holds_180 : decode cX12_holds 180 = .ok (.aload_n 0, 1) := by decide +kernel
theorem dX12_holds_181 : decode cX12_holds 181 = .ok (.getfield 66, 3) := by decide +kernel
theorem dX12_holds_184 : decode cX12_holds 184 = .ok (.iload 7, 2) := by decide +kernel
theorem dX12_holds_186 : decode cX12_holds 186 = .ok (.dup2, 1) := by decide +kernel
theorem dX12_holds_187 : decode cX12_holds 187 = .ok (.laload, 1) := by decide +kernel
theorem dX12_holds_188 : decode cX12_holds 188 = .ok (.aload_n 0, 1) := by decide +kernel
theorem dX12_holds_189 : decode cX12_holds 189 = .ok (.getfield 69, 3) := by decide +kernel
theorem dX12_holds_192 : decode cX12_holds 192 = .ok (.iload 6, 2) := by decide +kernel
theorem dX12_holds_194 : decode cX12_holds 194 = .ok (.laload, 1) := by decide +kernel
theorem dX12_holds_195 : decode cX12_holds 195 = .ok (.aload_n 0, 1) := by decide +kernel
theorem dX12_holds_196 : decode cX12_holds 196 = .ok (.iload_n 1, 1) := by decide +kernel
theorem dX12_holds_197 : decode cX12_holds 197 = .ok (.iload 6, 2) := by decide +kernel
theorem dX12_holds_199 : decode cX12_holds 199 = .ok (.iload 7, 2) := by decide +kernel
theorem dX12_holds_201 : decode cX12_holds 201 = .ok (.invokevirtual 355, 3) := by decide +kernel
theorem dX12_holds_204 : decode cX12_holds 204 = .ok (.lmul, 1) := by decide +kernel
theorem dX12_holds_205 : decode cX12_holds 205 = .ok (.lsub, 1) := by decide +kernel
theorem dX12_holds_206 : decode cX12_holds 206 = .ok (.lastore, 1) := by decide +kernel
theorem dX12_holds_207 : decode cX12_holds 207 = .ok (.iinc 7 1, 3) := by decide +kernel
theorem dX12_holds_210 : decode cX12_holds 210 = .ok (.goto (-36), 3) := by decide +kernel
theorem dX12_holds_213 : decode cX12_holds 213 = .ok (.iinc 6 1, 3) := by decide +kernel
theorem dX12_holds_216 : decode cX12_holds 216 = .ok (.goto (-100), 3) := by decide +kernel
theorem dX12_holds_219 : decode cX12_holds 219 = .ok (.iconst 1, 1) := by decide +kernel
theorem dX12_holds_220 : decode cX12_holds 220 = .ok (.ireturn, 1) := by decide +kernel
theorem dX12_table_0 : decode cX12_table 0 = .ok (.aload_n 0, 1) := by decide +kernel
theorem dX12_table_1 : decode cX12_table 1 = .ok (.iload_n 1, 1) := by decide +kernel
theorem dX12_table_2 : decode cX12_table 2 = .ok (.invokevirtual 288, 3) := by decide +kernel
theorem dX12_table_5 : decode cX12_table 5 = .ok (.ifCond .eq 44, 3) := by decide +kernel
theorem dX12_table_8 : decode cX12_table 8 = .ok (.iload_n 2, 1) := by decide +kernel
theorem dX12_table_9 : decode cX12_table 9 = .ok (.i2l, 1) := by decide +kernel
theorem dX12_table_10 : decode cX12_table 10 = .ok (.lconst 0, 1) := by decide +kernel
theorem dX12_table_11 : decode cX12_table 11 = .ok (.ldc2_w 224, 3) := by decide +kernel
theorem dX12_table_14 : decode cX12_table 14 = .ok (.invokestatic 113, 3) := by decide +kernel
theorem dX12_table_17 : decode cX12_table 17 = .ok (.ifCond .eq 32, 3) := by decide +kernel
theorem dX12_table_20 : decode cX12_table 20 = .ok (.iload_n 3, 1) := by decide +kernel
theorem dX12_table_21 : decode cX12_table 21 = .ok (.i2l, 1) := by decide +kernel
theorem dX12_table_22 : decode cX12_table 22 = .ok (.lconst 0, 1) := by decide +kernel
theorem dX12_table_23 : decode cX12_table 23 = .ok (.ldc2_w 224, 3) := by decide +kernel
theorem dX12_table_26 : decode cX12_table 26 = .ok (.invokestatic 113, 3) := by decide +kernel
theorem dX12_table_29 : decode cX12_table 29 = .ok (.ifCond .eq 20, 3) := by decide +kernel
theorem dX12_table_32 : decode cX12_table 32 = .ok (.iload 4, 2) := by decide +kernel
theorem dX12_table_34 : decode cX12_table 34 = .ok (.i2l, 1) := by decide +kernel
theorem dX12_table_35 : decode cX12_table 35 = .ok (.lconst 0, 1) := by decide +kernel
theorem dX12_table_36 : decode cX12_table 36 = .ok (.ldc2_w 224, 3) := by decide +kernel
theorem dX12_table_39 : decode cX12_table 39 = .ok (.invokestatic 113, 3) := by decide +kernel
theorem dX12_table_42 : decode cX12_table 42 = .ok (.ifCond .eq 7, 3) := by decide +kernel
theorem dX12_table_45 : decode cX12_table 45 = .ok (.iconst 1, 1) := by decide +kernel
theorem dX12_table_46 : decode cX12_table 46 = .ok (.goto 4, 3) := by decide +kernel
theorem dX12_table_49 : decode cX12_table 49 = .ok (.iconst 0, 1) := by decide +kernel
theorem dX12_table_50 : decode cX12_table 50 = .ok (.istore 5, 2) := by decide +kernel
theorem dX12_table_52 : decode cX12_table 52 = .ok (.aload_n 0, 1) := by decide +kernel
theorem dX12_table_53 : decode cX12_table 53 = .ok (.iload 5, 2) := by decide +kernel
theorem dX12_table_55 : decode cX12_table 55 = .ok (.ifCond .eq 7, 3) := by decide +kernel
theorem dX12_table_58 : decode cX12_table 58 = .ok (.iconst 0, 1) := by decide +kernel
theorem dX12_table_59 : decode cX12_table 59 = .ok (.goto 4, 3) := by decide +kernel
theorem dX12_table_62 : decode cX12_table 62 = .ok (.iconst 1, 1) := by decide +kernel
theorem dX12_table_63 : decode cX12_table 63 = .ok (.putfield 75, 3) := by decide +kernel
theorem dX12_table_66 : decode cX12_table 66 = .ok (.iload 5, 2) := by decide +kernel
theorem dX12_table_68 : decode cX12_table 68 = .ok (.ifCond .ne 5, 3) := by decide +kernel
theorem dX12_table_71 : decode cX12_table 71 = .ok (.iconst 0, 1) := by decide +kernel
theorem dX12_table_72 : decode cX12_table 72 = .ok (.ireturn, 1) := by decide +kernel
theorem dX12_table_73 : decode cX12_table 73 = .ok (.aload_n 0, 1) := by decide +kernel
theorem dX12_table_74 : decode cX12_table 74 = .ok (.iload_n 1, 1) := by decide +kernel
theorem dX12_table_75 : decode cX12_table 75 = .ok (.iload_n 2, 1) := by decide +kernel
theorem dX12_table_76 : decode cX12_table 76 = .ok (.iconst 0, 1) := by decide +kernel
theorem dX12_table_77 : decode cX12_table 77 = .ok (.invokevirtual 377, 3) := by decide +kernel
theorem dX12_table_80 : decode cX12_table 80 = .ok (.aload_n 0, 1) := by decide +kernel
theorem dX12_table_81 : decode cX12_table 81 = .ok (.iload_n 1, 1) := by decide +kernel
theorem dX12_table_82 : decode cX12_table 82 = .ok (.iload_n 3, 1) := by decide +kernel
theorem dX12_table_83 : decode cX12_table 83 = .ok (.iconst 1, 1) := by decide +kernel
theorem dX12_table_84 : decode cX12_table 84 = .ok (.invokevirtual 377, 3) := by decide +kernel
theorem dX12_table_87 : decode cX12_table 87 = .ok (.aload_n 0, 1) := by decide +kernel
theorem dX12_table_88 : decode cX12_table 88 = .ok (.aload_n 0, 1) := by decide +kernel
theorem dX12_table_89 : decode cX12_table 89 = .ok (.getfield 24, 3) := by decide +kernel
theorem dX12_table_92 : decode cX12_table 92 = .ok (.iload_n 1, 1) := by decide +kernel
theorem dX12_table_93 : decode cX12_table 93 = .ok (.iaload, 1) := by decide +kernel
theorem dX12_table_94 : decode cX12_table 94 = .ok (.i2l, 1) := by decide +kernel
theorem dX12_table_95 : decode cX12_table 95 = .ok (.aload_n 0, 1) := by decide +kernel
theorem dX12_table_96 : decode cX12_table 96 = .ok (.getfield 27, 3) := by decide +kernel
theorem dX12_table_99 : decode cX12_table 99 = .ok (.iload_n 1, 1) := by decide +kernel
theorem dX12_table_100 : decode cX12_table 100 = .ok (.iaload, 1) := by decide +kernel
theorem dX12_table_101 : decode cX12_table 101 = .ok (.i2l, 1) := by decide +kernel
theorem dX12_table_102 : decode cX12_table 102 = .ok (.invokevirtual 318, 3) := by decide +kernel
theorem dX12_table_105 : decode cX12_table 105 = .ok (.iconst 0, 1) := by decide +kernel
theorem dX12_table_106 : decode cX12_table 106 = .ok (.istore 6, 2) := by decide +kernel
theorem dX12_table_108 : decode cX12_table 108 = .ok (.iload 6, 2) := by decide +kernel
theorem dX12_table_110 : decode cX12_table 110 = .ok (.iconst 4, 1) := by decide +kernel
theorem dX12_table_111 : decode cX12_table 111 = .ok (.if_icmp .ge 23, 3) := by decide +kernel
theorem dX12_table_114 : decode cX12_table 114 = .ok (.aload_n 0, 1) := by decide +kernel
theorem dX12_table_115 : decode cX12_table 115 = .ok (.getfield 66, 3) := by decide +kernel
theorem dX12_table_118 : decode cX12_table 118 = .ok (.iload 6, 2) := by decide +kernel
theorem dX12_table_120 : decode cX12_table 120 = .ok (.aload_n 0, 1) := by decide +kernel
theorem dX12_table_121 : decode cX12_table 121 = .ok (.getfield 51, 3) := by decide +kernel
theorem dX12_table_124 : decode cX12_table 124 = .ok (.iload 6, 2) := by decide +kernel
theorem dX12_table_126 : decode cX12_table 126 = .ok (.laload, 1) := by decide +kernel
theorem dX12_table_127 : decode cX12_table 127 = .ok (.lastore, 1) := by decide +kernel
theorem dX12_table_128 : decode cX12_table 128 = .ok (.iinc 6 1, 3) := by decide +kernel
theorem dX12_table_131 : decode cX12_table 131 = .ok (.goto (-23), 3) := by decide +kernel
theorem dX12_table_134 : decode cX12_table 134 = .ok (.aload_n 0, 1) := by decide +kernel
theorem dX12_table_135 : decode cX12_table 135 = .ok (.iload_n 1, 1) := by decide +kernel
theorem dX12_table_136 : decode cX12_table 136 = .ok (.aload_n 0, 1) := by decide +kernel
theorem dX12_table_137 : decode cX12_table 137 = .ok (.getfield 60, 3) := by decide +kernel
theorem dX12_table_140 : decode cX12_table 140 = .ok (.iload_n 1, 1) := by decide +kernel
theorem dX12_table_141 : decode cX12_table 141 = .ok (.laload, 1) := by decide +kernel
theorem dX12_table_142 : decode cX12_table 142 = .ok (.aload_n 0, 1) := by decide +kernel
theorem dX12_table_143 : decode cX12_table 143 = .ok (.getfield 60, 3) := by decide +kernel
theorem dX12_table_146 : decode cX12_table 146 = .ok (.iload_n 1, 1) := by decide +kernel
theorem dX12_table_147 : decode cX12_table 147 = .ok (.laload, 1) := by decide +kernel
theorem dX12_table_148 : decode cX12_table 148 = .ok (.lmul, 1) := by decide +kernel
theorem dX12_table_149 : decode cX12_table 149 = .ok (.invokevirtual 420, 3) := by decide +kernel
theorem dX12_table_152 : decode cX12_table 152 = .ok (.ifCond .eq 14, 3) := by decide +kernel
theorem dX12_table_155 : decode cX12_table 155 = .ok (.aload_n 0, 1) := by decide +kernel
theorem dX12_table_156 : decode cX12_table 156 = .ok (.getfield 69, 3) := by decide +kernel
theorem dX12_table_159 : decode cX12_table 159 = .ok (.iload 4, 2) := by decide +kernel
theorem dX12_table_161 : decode cX12_table 161 = .ok (.laload, 1) := by decide +kernel
theorem dX12_table_162 : decode cX12_table 162 = .ok (.l2i, 1) := by decide +kernel
theorem dX12_table_163 : decode cX12_table 163 = .ok (.goto 4, 3) := by decide +kernel
theorem dX12_table_166 : decode cX12_table 166 = .ok (.iconst 0, 1) := by decide +kernel
theorem dX12_table_167 : decode cX12_table 167 = .ok (.ireturn, 1) := by decide +kernel
theorem dX12_isInOrder_0 : decode cX12_isInOrder 0 = .ok (.iconst 0, 1) := by decide +kernel
theorem dX12_isInOrder_1 : decode cX12_isInOrder 1 = .ok (.istore_n 2, 1) := by decide +kernel
theorem dX12_isInOrder_2 : decode cX12_isInOrder 2 = .ok (.iload_n 2, 1) := by decide +kernel
theorem dX12_isInOrder_3 : decode cX12_isInOrder 3 = .ok (.iconst 4, 1) := by decide +kernel
theorem dX12_isInOrder_4 : decode cX12_isInOrder 4 = .ok (.if_icmp .ge 21, 3) := by decide +kernel
theorem dX12_isInOrder_7 : decode cX12_isInOrder 7 = .ok (.aload_n 0, 1) := by decide +kernel
theorem dX12_isInOrder_8 : decode cX12_isInOrder 8 = .ok (.getfield 66, 3) := by decide +kernel
theorem dX12_isInOrder_11 : decode cX12_isInOrder 11 = .ok (.iload_n 2, 1) := by decide +kernel
theorem dX12_isInOrder_12 : decode cX12_isInOrder 12 = .ok (.aload_n 0, 1) := by decide +kernel
theorem dX12_isInOrder_13 : decode cX12_isInOrder 13 = .ok (.iload_n 1, 1) := by decide +kernel
theorem dX12_isInOrder_14 : decode cX12_isInOrder 14 = .ok (.iload_n 2, 1) := by decide +kernel
theorem dX12_isInOrder_15 : decode cX12_isInOrder 15 = .ok (.invokevirtual 294, 3) := by decide +kernel
theorem dX12_isInOrder_18 : decode cX12_isInOrder 18 = .ok (.lastore, 1) := by decide +kernel
theorem dX12_isInOrder_19 : decode cX12_isInOrder 19 = .ok (.iinc 2 1, 3) := by decide +kernel
theorem dX12_isInOrder_22 : decode cX12_isInOrder 22 = .ok (.goto (-20), 3) := by decide +kernel
theorem dX12_isInOrder_25 : decode cX12_isInOrder 25 = .ok (.aload_n 0, 1) := by decide +kernel
theorem dX12_isInOrder_26 : decode cX12_isInOrder 26 = .ok (.aload_n 0, 1) := by decide +kernel
theorem dX12_isInOrder_27 : decode cX12_isInOrder 27 = .ok (.getfield 36, 3) := by decide +kernel
theorem dX12_isInOrder_30 : decode cX12_isInOrder 30 = .ok (.iload_n 1, 1) := by decide +kernel
theorem dX12_isInOrder_31 : decode cX12_isInOrder 31 = .ok (.iaload, 1) := by decide +kernel
theorem dX12_isInOrder_32 : decode cX12_isInOrder 32 = .ok (.aload_n 0, 1) := by decide +kernel
theorem dX12_isInOrder_33 : decode cX12_isInOrder 33 = .ok (.iload_n 1, 1) := by decide +kernel
theorem dX12_isInOrder_34 : decode cX12_isInOrder 34 = .ok (.iconst 4, 1) := by decide +kernel
theorem dX12_isInOrder_35 : decode cX12_isInOrder 35 = .ok (.invokevirtual 294, 3) := by decide +kernel
theorem dX12_isInOrder_38 : decode cX12_isInOrder 38 = .ok (.invokevirtual 420, 3) := by decide +kernel
theorem dX12_isInOrder_41 : decode cX12_isInOrder 41 = .ok (.ireturn, 1) := by decide +kernel
theorem dX12_isIn_0 : decode cX12_isIn 0 = .ok (.aload_n 0, 1) := by decide +kernel
theorem dX12_isIn_1 : decode cX12_isIn 1 = .ok (.iconst 0, 1) := by decide +kernel
theorem dX12_isIn_2 : decode cX12_isIn 2 = .ok (.putfield 75, 3) := by decide +kernel
theorem dX12_isIn_5 : decode cX12_isIn 5 = .ok (.aload_n 0, 1) := by decide +kernel
theorem dX12_isIn_6 : decode cX12_isIn 6 = .ok (.iload_n 1, 1) := by decide +kernel
theorem dX12_isIn_7 : decode cX12_isIn 7 = .ok (.invokevirtual 297, 3) := by decide +kernel
theorem dX12_isIn_10 : decode cX12_isIn 10 = .ok (.ifCond .eq 19, 3) := by decide +kernel
theorem dX12_isIn_13 : decode cX12_isIn 13 = .ok (.aload_n 0, 1) := by decide +kernel
theorem dX12_isIn_14 : decode cX12_isIn 14 = .ok (.iload_n 1, 1) := by decide +kernel
theorem dX12_isIn_15 : decode cX12_isIn 15 = .ok (.invokevirtual 423, 3) := by decide +kernel
theorem dX12_isIn_18 : decode cX12_isIn 18 = .ok (.ifCond .eq 7, 3) := by decide +kernel
theorem dX12_isIn_21 : decode cX12_isIn 21 = .ok (.iconst 1, 1) := by decide +kernel
theorem dX12_isIn_22 : decode cX12_isIn 22 = .ok (.goto 8, 3) := by decide +kernel
theorem dX12_isIn_25 : decode cX12_isIn 25 = .ok (.iconst 0, 1) := by decide +kernel
theorem dX12_isIn_26 : decode cX12_isIn 26 = .ok (.goto 4, 3) := by decide +kernel
theorem dX12_isIn_29 : decode cX12_isIn 29 = .ok (.iconst (-1), 1) := by decide +kernel
theorem dX12_isIn_30 : decode cX12_isIn 30 = .ok (.ireturn, 1) := by decide +kernel
theorem dX12_isSmall_0 : decode cX12_isSmall 0 = .ok (.iconst 0, 1) := by decide +kernel
theorem dX12_isSmall_1 : decode cX12_isSmall 1 = .ok (.istore_n 2, 1) := by decide +kernel
theorem dX12_isSmall_2 : decode cX12_isSmall 2 = .ok (.iload_n 2, 1) := by decide +kernel
theorem dX12_isSmall_3 : decode cX12_isSmall 3 = .ok (.iconst 5, 1) := by decide +kernel
theorem dX12_isSmall_4 : decode cX12_isSmall 4 = .ok (.if_icmp .ge 29, 3) := by decide +kernel
theorem dX12_isSmall_7 : decode cX12_isSmall 7 = .ok (.aload_n 0, 1) := by decide +kernel
theorem dX12_isSmall_8 : decode cX12_isSmall 8 = .ok (.iload_n 1, 1) := by decide +kernel
theorem dX12_isSmall_9 : decode cX12_isSmall 9 = .ok (.iload_n 2, 1) := by decide +kernel
theorem dX12_isSmall_10 : decode cX12_isSmall 10 = .ok (.invokevirtual 294, 3) := by decide +kernel
theorem dX12_isSmall_13 : decode cX12_isSmall 13 = .ok (.ldc2_w 426, 3) := by decide +kernel
theorem dX12_isSmall_16 : decode cX12_isSmall 16 = .ok (.ldc2_w 428, 3) := by decide +kernel
theorem dX12_isSmall_19 : decode cX12_isSmall 19 = .ok (.invokestatic 113, 3) := by decide +kernel
theorem dX12_isSmall_22 : decode cX12_isSmall 22 = .ok (.ifCond .ne 5, 3) := by decide +kernel
theorem dX12_isSmall_25 : decode cX12_isSmall 25 = .ok (.iconst 0, 1) := by decide +kernel
theorem dX12_isSmall_26 : decode cX12_isSmall 26 = .ok (.ireturn, 1) := by decide +kernel
theorem dX12_isSmall_27 : decode cX12_isSmall 27 = .ok (.iinc 2 1, 3) := by decide +kernel
theorem dX12_isSmall_30 : decode cX12_isSmall 30 = .ok (.goto (-28), 3) := by decide +kernel
theorem dX12_isSmall_33 : decode cX12_isSmall 33 = .ok (.iconst 1, 1) := by decide +kernel
theorem dX12_isSmall_34 : decode cX12_isSmall 34 = .ok (.ireturn, 1) := by decide +kernel
theorem dX12_refusal_0 : decode cX12_refusal 0 = .ok (.aload_n 0, 1) := by decide +kernel
theorem dX12_refusal_1 : decode cX12_refusal 1 = .ok (.iload_n 1, 1) := by decide +kernel
theorem dX12_refusal_2 : decode cX12_refusal 2 = .ok (.invokevirtual 297, 3) := by decide +kernel
theorem dX12_refusal_5 : decode cX12_refusal 5 = .ok (.ifCond .eq 31, 3) := by decide +kernel
theorem dX12_refusal_8 : decode cX12_refusal 8 = .ok (.iload_n 2, 1) := by decide +kernel
theorem dX12_refusal_9 : decode cX12_refusal 9 = .ok (.iconst (-1), 1) := by decide +kernel
theorem dX12_refusal_10 : decode cX12_refusal 10 = .ok (.if_icmp .eq 28, 3) := by decide +kernel
theorem dX12_refusal_13 : decode cX12_refusal 13 = .ok (.aload_n 0, 1) := by decide +kernel
theorem dX12_refusal_14 : decode cX12_refusal 14 = .ok (.iload_n 2, 1) := by decide +kernel
theorem dX12_refusal_15 : decode cX12_refusal 15 = .ok (.invokevirtual 297, 3) := by decide +kernel
theorem dX12_refusal_18 : decode cX12_refusal 18 = .ok (.ifCond .eq 18, 3) := by decide +kernel
theorem dX12_refusal_21 : decode cX12_refusal 21 = .ok (.aload_n 0, 1) := by decide +kernel
theorem dX12_refusal_22 : decode cX12_refusal 22 = .ok (.getfield 36, 3) := by decide +kernel
theorem dX12_refusal_25 : decode cX12_refusal 25 = .ok (.iload_n 2, 1) := by decide +kernel
theorem dX12_refusal_26 : decode cX12_refusal 26 = .ok (.iaload, 1) := by decide +kernel
theorem dX12_refusal_27 : decode cX12_refusal 27 = .ok (.aload_n 0, 1) := by decide +kernel
theorem dX12_refusal_28 : decode cX12_refusal 28 = .ok (.getfield 36, 3) := by decide +kernel
theorem dX12_refusal_31 : decode cX12_refusal 31 = .ok (.iload_n 1, 1) := by decide +kernel
theorem dX12_refusal_32 : decode cX12_refusal 32 = .ok (.iaload, 1) := by decide +kernel
theorem dX12_refusal_33 : decode cX12_refusal 33 = .ok (.if_icmp .eq 5, 3) := by decide +kernel
theorem dX12_refusal_36 : decode cX12_refusal 36 = .ok (.iconst (-1), 1) := by decide +kernel
theorem dX12_refusal_37 : decode cX12_refusal 37 = .ok (.ireturn, 1) := by decide +kernel
theorem dX12_refusal_38 : decode cX12_refusal 38 = .ok (.aload_n 0, 1) := by decide +kernel
theorem dX12_refusal_39 : decode cX12_refusal 39 = .ok (.iload_n 1, 1) := by decide +kernel
theorem dX12_refusal_40 : decode cX12_refusal 40 = .ok (.invokevirtual 423, 3) := by decide +kernel
theorem dX12_refusal_43 : decode cX12_refusal 43 = .ok (.ifCond .eq 16, 3) := by decide +kernel
theorem dX12_refusal_46 : decode cX12_refusal 46 = .ok (.iload_n 2, 1) := by decide +kernel
theorem dX12_refusal_47 : decode cX12_refusal 47 = .ok (.iconst (-1), 1) := by decide +kernel
theorem dX12_refusal_48 : decode cX12_refusal 48 = .ok (.if_icmp .eq 14, 3) := by decide +kernel
theorem dX12_refusal_51 : decode cX12_refusal 51 = .ok (.aload_n 0, 1) := by decide +kernel
theorem dX12_refusal_52 : decode cX12_refusal 52 = .ok (.iload_n 2, 1) := by decide +kernel
theorem dX12_refusal_53 : decode cX12_refusal 53 = .ok (.invokevirtual 423, 3) := by decide +kernel
theorem dX12_refusal_56 : decode cX12_refusal 56 = .ok (.ifCond .ne 6, 3) := by decide +kernel
theorem dX12_refusal_59 : decode cX12_refusal 59 = .ok (.bipush (-2), 2) := by decide +kernel
theorem dX12_refusal_61 : decode cX12_refusal 61 = .ok (.ireturn, 1) := by decide +kernel
theorem dX12_refusal_62 : decode cX12_refusal 62 = .ok (.aload_n 0, 1) := by decide +kernel
theorem dX12_refusal_63 : decode cX12_refusal 63 = .ok (.iload_n 1, 1) := by decide +kernel
theorem dX12_refusal_64 : decode cX12_refusal 64 = .ok (.invokevirtual 330, 3) := by decide +kernel
theorem dX12_refusal_67 : decode cX12_refusal 67 = .ok (.lconst 0, 1) := by decide +kernel
theorem dX12_refusal_68 : decode cX12_refusal 68 = .ok (.lcmp, 1) := by decide +kernel
theorem dX12_refusal_69 : decode cX12_refusal 69 = .ok (.ifCond .eq 24, 3) := by decide +kernel
theorem dX12_refusal_72 : decode cX12_refusal 72 = .ok (.aload_n 0, 1) := by decide +kernel
theorem dX12_refusal_73 : decode cX12_refusal 73 = .ok (.iload_n 1, 1) := by decide +kernel
theorem dX12_refusal_74 : decode cX12_refusal 74 = .ok (.invokevirtual 430, 3) := by decide +kernel
theorem dX12_refusal_77 : decode cX12_refusal 77 = .ok (.ifCond .eq 16, 3) := by decide +kernel
theorem dX12_refusal_80 : decode cX12_refusal 80 = .ok (.iload_n 2, 1) := by decide +kernel
theorem dX12_refusal_81 : decode cX12_refusal 81 = .ok (.iconst (-1), 1) := by decide +kernel
theorem dX12_refusal_82 : decode cX12_refusal 82 = .ok (.if_icmp .eq 16, 3) := by decide +kernel
theorem dX12_refusal_85 : decode cX12_refusal 85 = .ok (.aload_n 0, 1) := by decide +kernel
theorem dX12_refusal_86 : decode cX12_refusal 86 = .ok (.iload_n 2, 1) := by decide +kernel
theorem dX12_refusal_87 : decode cX12_refusal 87 = .ok (.invokevirtual 430, 3) := by decide +kernel
theorem dX12_refusal_90 : decode cX12_refusal 90 = .ok (.ifCond .ne 8, 3) := by decide +kernel
theorem dX12_refusal_93 : decode cX12_refusal 93 = .ok (.bipush (-3), 2) := by decide +kernel
theorem dX12_refusal_95 : decode cX12_refusal 95 = .ok (.goto 4, 3) := by decide +kernel
theorem dX12_refusal_98 : decode cX12_refusal 98 = .ok (.iconst 0, 1) := by decide +kernel
theorem dX12_refusal_99 : decode cX12_refusal 99 = .ok (.ireturn, 1) := by decide +kernel
theorem dX12_putsProducts_0 : decode cX12_putsProducts 0 = .ok (.iconst 0, 1) := by decide +kernel
theorem dX12_putsProducts_1 : decode cX12_putsProducts 1 = .ok (.istore_n 3, 1) := by decide +kernel
theorem dX12_putsProducts_2 : decode cX12_putsProducts 2 = .ok (.iload_n 3, 1) := by decide +kernel
theorem dX12_putsProducts_3 : decode cX12_putsProducts 3 = .ok (.iconst 4, 1) := by decide +kernel
theorem dX12_putsProducts_4 : decode cX12_putsProducts 4 = .ok (.if_icmp .ge 154, 3) := by decide +kernel
theorem dX12_putsProducts_7 : decode cX12_putsProducts 7 = .ok (.aload_n 0, 1) := by decide +kernel
theorem dX12_putsProducts_8 : decode cX12_putsProducts 8 = .ok (.iload_n 1, 1) := by decide +kernel
theorem dX12_putsProducts_9 : decode cX12_putsProducts 9 = .ok (.iload_n 3, 1) := by decide +kernel
theorem dX12_putsProducts_10 : decode cX12_putsProducts 10 = .ok (.iconst 0, 1) := by decide +kernel
theorem dX12_putsProducts_11 : decode cX12_putsProducts 11 = .ok (.invokevirtual 377, 3) := by decide +kernel
theorem dX12_putsProducts_14 : decode cX12_putsProducts 14 = .ok (.aload_n 0, 1) := by decide +kernel
theorem dX12_putsProducts_15 : decode cX12_putsProducts 15 = .ok (.iload_n 2, 1) := by decide +kernel
theorem dX12_putsProducts_16 : decode cX12_putsProducts 16 = .ok (.invokevirtual 315, 3) := by decide +kernel
theorem dX12_putsProducts_19 : decode cX12_putsProducts 19 = .ok (.aload_n 0, 1) := by decide +kernel
theorem dX12_putsProducts_20 : decode cX12_putsProducts 20 = .ok (.aload_n 0, 1) := by decide +kernel
theorem dX12_putsProducts_21 : decode cX12_putsProducts 21 = .ok (.getfield 24, 3) := by decide +kernel
theorem dX12_putsProducts_24 : decode cX12_putsProducts 24 = .ok (.iload_n 1, 1) := by decide +kernel
theorem dX12_putsProducts_25 : decode cX12_putsProducts 25 = .ok (.iaload, 1) := by decide +kernel
theorem dX12_putsProducts_26 : decode cX12_putsProducts 26 = .ok (.i2l, 1) := by decide +kernel
theorem dX12_putsProducts_27 : decode cX12_putsProducts 27 = .ok (.aload_n 0, 1) := by decide +kernel
theorem dX12_putsProducts_28 : decode cX12_putsProducts 28 = .ok (.getfield 27, 3) := by decide +kernel
theorem dX12_putsProducts_31 : decode cX12_putsProducts 31 = .ok (.iload_n 1, 1) := by decide +kernel
theorem dX12_putsProducts_32 : decode cX12_putsProducts 32 = .ok (.iaload, 1) := by decide +kernel
theorem dX12_putsProducts_33 : decode cX12_putsProducts 33 = .ok (.i2l, 1) := by decide +kernel
theorem dX12_putsProducts_34 : decode cX12_putsProducts 34 = .ok (.invokevirtual 318, 3) := by decide +kernel
theorem dX12_putsProducts_37 : decode cX12_putsProducts 37 = .ok (.aload_n 0, 1) := by decide +kernel
theorem dX12_putsProducts_38 : decode cX12_putsProducts 38 = .ok (.getfield 60, 3) := by decide +kernel
theorem dX12_putsProducts_41 : decode cX12_putsProducts 41 = .ok (.iload_n 1, 1) := by decide +kernel
theorem dX12_putsProducts_42 : decode cX12_putsProducts 42 = .ok (.laload, 1) := by decide +kernel
theorem dX12_putsProducts_43 : decode cX12_putsProducts 43 = .ok (.aload_n 0, 1) := by decide +kernel
theorem dX12_putsProducts_44 : decode cX12_putsProducts 44 = .ok (.iload_n 2, 1) := by decide +kernel
theorem dX12_putsProducts_45 : decode cX12_putsProducts 45 = .ok (.iconst 4, 1) := by decide +kernel
theorem dX12_putsProducts_46 : decode cX12_putsProducts 46 = .ok (.invokevirtual 294, 3) := by decide +kernel
theorem dX12_putsProducts_49 : decode cX12_putsProducts 49 = .ok (.lmul, 1) := by decide +kernel
theorem dX12_putsProducts_50 : decode cX12_putsProducts 50 = .ok (.lstore 4, 2) := by decide +kernel
theorem dX12_putsProducts_52 : decode cX12_putsProducts 52 = .ok (.aload_n 0, 1) := by decide +kernel
theorem dX12_putsProducts_53 : decode cX12_putsProducts 53 = .ok (.getfield 60, 3) := by decide +kernel
theorem dX12_putsProducts_56 : decode cX12_putsProducts 56 = .ok (.bipush 9, 2) := by decide +kernel
theorem dX12_putsProducts_58 : decode cX12_putsProducts 58 = .ok (.laload, 1) := by decide +kernel
theorem dX12_putsProducts_59 : decode cX12_putsProducts 59 = .ok (.aload_n 0, 1) := by decide +kernel
theorem dX12_putsProducts_60 : decode cX12_putsProducts 60 = .ok (.getfield 60, 3) := by decide +kernel
theorem dX12_putsProducts_63 : decode cX12_putsProducts 63 = .ok (.bipush 9, 2) := by decide +kernel
theorem dX12_putsProducts_65 : decode cX12_putsProducts 65 = .ok (.laload, 1) := by decide +kernel
theorem dX12_putsProducts_66 : decode cX12_putsProducts 66 = .ok (.lload 4, 2) := by decide +kernel
theorem dX12_putsProducts_68 : decode cX12_putsProducts 68 = .ok (.invokestatic 280, 3) := by decide +kernel
theorem dX12_putsProducts_71 : decode cX12_putsProducts 71 = .ok (.ldiv, 1) := by decide +kernel
theorem dX12_putsProducts_72 : decode cX12_putsProducts 72 = .ok (.lload 4, 2) := by decide +kernel
theorem dX12_putsProducts_74 : decode cX12_putsProducts 74 = .ok (.lmul, 1) := by decide +kernel
theorem dX12_putsProducts_75 : decode cX12_putsProducts 75 = .ok (.lstore 6, 2) := by decide +kernel
theorem dX12_putsProducts_77 : decode cX12_putsProducts 77 = .ok (.lload 6, 2) := by decide +kernel
theorem dX12_putsProducts_79 : decode cX12_putsProducts 79 = .ok (.aload_n 0, 1) := by decide +kernel
theorem dX12_putsProducts_80 : decode cX12_putsProducts 80 = .ok (.getfield 60, 3) := by decide +kernel
theorem dX12_putsProducts_83 : decode cX12_putsProducts 83 = .ok (.bipush 9, 2) := by decide +kernel
theorem dX12_putsProducts_85 : decode cX12_putsProducts 85 = .ok (.laload, 1) := by decide +kernel
theorem dX12_putsProducts_86 : decode cX12_putsProducts 86 = .ok (.lcmp, 1) := by decide +kernel
theorem dX12_putsProducts_87 : decode cX12_putsProducts 87 = .ok (.ifCond .eq 19, 3) := by decide +kernel
theorem dX12_putsProducts_90 : decode cX12_putsProducts 90 = .ok (.aload_n 0, 1) := by decide +kernel
theorem dX12_putsProducts_91 : decode cX12_putsProducts 91 = .ok (.bipush 9, 2) := by decide +kernel
theorem dX12_putsProducts_93 : decode cX12_putsProducts 93 = .ok (.lload 6, 2) := by decide +kernel
theorem dX12_putsProducts_95 : decode cX12_putsProducts 95 = .ok (.aload_n 0, 1) := by decide +kernel
theorem dX12_putsProducts_96 : decode cX12_putsProducts 96 = .ok (.getfield 60, 3) := by decide +kernel
theorem dX12_putsProducts_99 : decode cX12_putsProducts 99 = .ok (.bipush 9, 2) := by decide +kernel
theorem dX12_putsProducts_101 : decode cX12_putsProducts 101 = .ok (.laload, 1) := by decide +kernel
theorem dX12_putsProducts_102 : decode cX12_putsProducts 102 = .ok (.ldiv, 1) := by decide +kernel
theorem dX12_putsProducts_103 : decode cX12_putsProducts 103 = .ok (.invokevirtual 367, 3) := by decide +kernel
theorem dX12_putsProducts_106 : decode cX12_putsProducts 106 = .ok (.iconst 0, 1) := by decide +kernel
theorem dX12_putsProducts_107 : decode cX12_putsProducts 107 = .ok (.istore 8, 2) := by decide +kernel
theorem dX12_putsProducts_109 : decode cX12_putsProducts 109 = .ok (.iload 8, 2) := by decide +kernel
theorem dX12_putsProducts_111 : decode cX12_putsProducts 111 = .ok (.iconst 4, 1) := by decide +kernel
theorem dX12_putsProducts_112 : decode cX12_putsProducts 112 = .ok (.if_icmp .ge 23, 3) := by decide +kernel
theorem dX12_putsProducts_115 : decode cX12_putsProducts 115 = .ok (.aload_n 0, 1) := by decide +kernel
theorem dX12_putsProducts_116 : decode cX12_putsProducts 116 = .ok (.getfield 66, 3) := by decide +kernel
theorem dX12_putsProducts_119 : decode cX12_putsProducts 119 = .ok (.iload 8, 2) := by decide +kernel
theorem dX12_putsProducts_121 : decode cX12_putsProducts 121 = .ok (.aload_n 0, 1) := by decide +kernel
theorem dX12_putsProducts_122 : decode cX12_putsProducts 122 = .ok (.getfield 51, 3) := by decide +kernel
theorem dX12_putsProducts_125 : decode cX12_putsProducts 125 = .ok (.iload 8, 2) := by decide +kernel
theorem dX12_putsProducts_127 : decode cX12_putsProducts 127 = .ok (.laload, 1) := by decide +kernel
theorem dX12_putsProducts_128 : decode cX12_putsProducts 128 = .ok (.lastore, 1) := by decide +kernel
theorem dX12_putsProducts_129 : decode cX12_putsProducts 129 = .ok (.iinc 8 1, 3) := by decide +kernel
theorem dX12_putsProducts_132 : decode cX12_putsProducts 132 = .ok (.goto (-23), 3) := by decide +kernel
theorem dX12_putsProducts_135 : decode cX12_putsProducts 135 = .ok (.aload_n 0, 1) := by decide +kernel
theorem dX12_putsProducts_136 : decode cX12_putsProducts 136 = .ok (.dup, 1) := by decide +kernel
theorem dX12_putsProducts_137 : decode cX12_putsProducts 137 = .ok (.getfield 433, 3) := by decide +kernel
theorem dX12_putsProducts_140 : decode cX12_putsProducts 140 = .ok (.aload_n 0, 1) := by decide +kernel
theorem dX12_putsProducts_141 : decode cX12_putsProducts 141 = .ok (.bipush 9, 2) := by decide +kernel
theorem dX12_putsProducts_143 : decode cX12_putsProducts 143 = .ok (.lload 4, 2) := by decide +kernel
theorem dX12_putsProducts_145 : decode cX12_putsProducts 145 = .ok (.invokevirtual 388, 3) := by decide +kernel
theorem dX12_putsProducts_148 : decode cX12_putsProducts 148 = .ok (.ior, 1) := by decide +kernel
theorem dX12_putsProducts_149 : decode cX12_putsProducts 149 = .ok (.putfield 433, 3) := by decide +kernel
theorem dX12_putsProducts_152 : decode cX12_putsProducts 152 = .ok (.iinc 3 1, 3) := by decide +kernel
theorem dX12_putsProducts_155 : decode cX12_putsProducts 155 = .ok (.goto (-153), 3) := by decide +kernel
theorem dX12_putsProducts_158 : decode cX12_putsProducts 158 = .ok (.return_, 1) := by decide +kernel
def mX12_closes_B147 (v0 : Nat) (v1 : Int) (σ : mSt) : Option (Int × mSt) := some (1, σ)
def mX12_closes_B144 (v0 : Nat) (v1 : Int) (c2 : Int → mSt → Option (Int × mSt)) (x147 : mSt → Option (Int × mSt)) (v2 : Int) (σ : mSt) : Option (Int × mSt) := c2 v2 σ
def mX12_closes_B138 (v0 : Nat) (v1 : Int) (c22 : Int → Int → mSt → Option (Int × mSt)) (x144 : Int → mSt → Option (Int × mSt)) (v2 : Int) (v3 : Int) (σ : mSt) : Option (Int × mSt) := bnd (v3 + 1) fun a1 => c22 v2 a1 σ
def mX12_closes_B108 (v0 : Nat) (v1 : Int) (v3 : Int) (c34 : Int → Int → mSt → Option (Int × mSt)) (x138 : Int → mSt → Option (Int × mSt)) (v4 : Int) (σ : mSt) : Option (Int × mSt) := mRef (σ v0 30) fun r3 => mG (ixOK r3 21 8) <| mRef (σ v0 30) fun r6 => mG (ixOK r6 21 8) <| bnd ((σ r3 8) * (σ r6 8)) fun a9 => mCall (mX12_putsLeast v0 a9 σ) fun b11 s12 => bnd (v4 + 1) fun a14 => c34 b11 a14 s12
def mX12_closes_L82 (v0 : Nat) (v1 : Int) (v3 : Int) (v4 : Int) (x108 : mSt → Option (Int × mSt)) : Nat → Int → mSt → Option (Int × mSt)
  | 0, _, _ => none
  | n + 1, v5, σ => if 4 ≤ wI v5 then (x108 σ) else mRef (σ v0 32) fun r17 => mRef (σ v0 27) fun r19 => mG (ixOK r19 21 v5) <| mG (ixOK r17 21 v5) <| bnd (upS σ r17 (wI v5).toNat (σ r19 (wI v5).toNat)) fun s23 => bnd (v5 + 1) fun a25 => mX12_closes_L82 v0 v1 v3 v4 x108 n a25 s23
def mX12_closes_L34 (v0 : Nat) (v1 : Int) (v3 : Int) (x138 : Int → mSt → Option (Int × mSt)) : Nat → Int → Int → mSt → Option (Int × mSt)
  | 0, _, _, _ => none
  | n + 1, v2, v4, σ => if 4 ≤ wI v4 then (x138 v2 σ) else if wI v2 = 0 then (mCall (mX12_takesRow v0 8 v3 0 σ) fun b29 s30 => mCall (mX12_takesRow v0 8 v4 1 s30) fun b32 s33 => mRef (s33 v0 15) fun r35 => mG (ixOK r35 20 v1) <| mRef (s33 v0 16) fun r38 => mG (ixOK r38 20 v1) <| mCall (mX12_multiplies v0 (wI (s33 r35 (wI v1).toNat)) (wI (s33 r38 (wI v1).toNat)) s33) fun b41 s42 => mX12_closes_L82 v0 v1 v3 v4 (fun zσ => mX12_closes_B108 v0 v1 v3 (mX12_closes_L34 v0 v1 v3 x138 n) x138 v4 zσ) mF 0 s42) else x138 v2 σ
def mX12_closes_L22 (v0 : Nat) (v1 : Int) (x144 : Int → mSt → Option (Int × mSt)) : Nat → Int → Int → mSt → Option (Int × mSt)
  | 0, _, _, _ => none
  | n + 1, v2, v3, σ => if 4 ≤ wI v3 then (x144 v2 σ) else if wI v2 = 0 then (mX12_closes_L34 v0 v1 v3 (fun z2 zσ => mX12_closes_B138 v0 v1 (mX12_closes_L22 v0 v1 x144 n) x144 z2 v3 zσ) mF v2 0 σ) else x144 v2 σ
def mX12_closes_L2 (v0 : Nat) (v1 : Int) (x147 : mSt → Option (Int × mSt)) : Nat → Int → mSt → Option (Int × mSt)
  | 0, _, _ => none
  | n + 1, v2, σ => if wI v2 = 0 then (x147 σ) else mCall (mX12_isWhole v0 8 v1 σ) fun b47 s48 => if wI b47 = 0 then (some (0, s48)) else mX12_closes_L22 v0 v1 (fun z2 zσ => mX12_closes_B144 v0 v1 (mX12_closes_L2 v0 v1 x147 n) x147 z2 zσ) mF 0 0 s48
def mX12_closes (v0 : Nat) (v1 : Int) (σ : mSt) : Option (Int × mSt) := mG (isC v0 11) <| mX12_closes_L2 v0 v1 (fun zσ => mX12_closes_B147 v0 v1 zσ) mF 1 σ
def mX12_discOf_B94 (v0 : Nat) (v1 : Int) (v2 : Int) (v3 : Int) (v5 : Int) (σ : mSt) : Option (Int × mSt) := mG (wL v5 ≠ 0) <| some ((wL v3).tdiv (wL v5), σ)
def mX12_discOf_L39 (v0 : Nat) (v1 : Int) (v2 : Int) (x94 : Int → Int → mSt → Option (Int × mSt)) : Nat → Int → Int → Int → mSt → Option (Int × mSt)
  | 0, _, _, _, _ => none
  | n + 1, v3, v5, v7, σ => if 4 ≤ wI v7 then (x94 v3 v5 σ) else mCall (mX12_get v0 v1 v7 v7 σ) fun b3 s4 => bnd (v3 * b3) fun a6 => mRef (s4 v0 30) fun r8 => mG (ixOK r8 21 v1) <| bnd (v5 * (s4 r8 (wI v1).toNat)) fun a11 => mCall (mX12_common a6 a11 s4) fun b13 s14 => mG (wL b13 ≠ 0) <| bnd ((wL a6).tdiv (wL b13)) fun a17 => bnd ((wL a11).tdiv (wL b13)) fun a19 => bnd (v7 + 1) fun a21 => mX12_discOf_L39 v0 v1 v2 x94 n a17 a19 a21 s14
def mX12_discOf_B32 (v0 : Nat) (v1 : Int) (v2 : Int) (t0 : Int) (σ : mSt) : Option (Int × mSt) := mX12_discOf_L39 v0 v1 v2 (fun z3 z5 zσ => mX12_discOf_B94 v0 v1 v2 z3 z5 zσ) mF t0 1 0 σ
def mX12_discOf (v0 : Nat) (v1 : Int) (v2 : Int) (σ : mSt) : Option (Int × mSt) := mG (isC v0 11) <| mRef (σ v0 15) fun r23 => mG (ixOK r23 20 v2) <| mRef (σ v0 16) fun r26 => mG (ixOK r26 20 v2) <| bnd ((4 * (wI (σ r23 (wI v2).toNat))) * (wI (σ r26 (wI v2).toNat))) fun a29 => if 0 ≤ wL a29 then (mX12_discOf_B32 v0 v1 v2 a29 σ) else mX12_discOf_B32 v0 v1 v2 (-a29) σ
def mX12_dueOf_B27 (v0 : Nat) (v1 : Int) (v2 : Int) (σ : mSt) : Option (Int × mSt) := some (v2, σ)
def mX12_dueOf_L9 (v0 : Nat) (v1 : Int) (x27 : Int → mSt → Option (Int × mSt)) : Nat → Int → Int → mSt → Option (Int × mSt)
  | 0, _, _, _ => none
  | n + 1, v2, v3, σ => if wI v3 < 0 then (x27 v2 σ) else bnd (v2 * v3) fun a2 => mCall (mX12_placeBehind v0 v1 v3 σ) fun b4 s5 => mX12_dueOf_L9 v0 v1 x27 n a2 b4 s5
def mX12_dueOf (v0 : Nat) (v1 : Int) (σ : mSt) : Option (Int × mSt) := mG (isC v0 11) <| mCall (mX12_placeBehind v0 v1 0 σ) fun b7 s8 => mX12_dueOf_L9 v0 v1 (fun z2 zσ => mX12_dueOf_B27 v0 v1 z2 zσ) mF 1 b7 s8
def mX12_disc (v0 : Nat) (v1 : Int) (σ : mSt) : Option (Int × mSt) := mG (isC v0 11) <| bnd (upS σ v0 0 0) fun s1 => mCall (mX12_isQuaternion v0 v1 s1) fun b3 s4 => if wI b3 = 0 then (some ((-1), s4)) else mCall (mX12_discOf v0 v1 v1 s4) fun b7 s8 => some (b7, s8)
def mX12_due (v0 : Nat) (v1 : Int) (σ : mSt) : Option (Int × mSt) := mG (isC v0 11) <| bnd (upS σ v0 0 0) fun s1 => mCall (mX12_isQuaternion v0 v1 s1) fun b3 s4 => if wI b3 = 0 then (some ((-1), s4)) else mCall (mX12_dueOf v0 v1 s4) fun b7 s8 => some (b7, s8)
def mX12_row_B55 (v0 : Nat) (v1 : Int) (v2 : Int) (v3 : Int) (v4 : Int) (t0 : Nat) (t1 : Int) (σ : mSt) : Option (Int × mSt) := mG (isC t0 11) <| bnd (upS σ t0 0 t1) fun s2 => if wI v4 = 0 then (some (0, s2)) else if wI v2 = 4 then (mRef (s2 v0 30) fun r9 => mG (ixOK r9 21 v1) <| some (s2 r9 (wI v1).toNat, s2)) else mCall (mX12_get v0 v1 v2 v3 s2) fun b6 s7 => some (b6, s7)
def mX12_row_B42 (v0 : Nat) (v1 : Int) (v2 : Int) (v3 : Int) (t0 : Int) (σ : mSt) : Option (Int × mSt) := if wI t0 = 0 then (mX12_row_B55 v0 v1 v2 v3 t0 v0 1 σ) else mX12_row_B55 v0 v1 v2 v3 t0 v0 0 σ
def mX12_row_B41 (v0 : Nat) (v1 : Int) (v2 : Int) (v3 : Int) (σ : mSt) : Option (Int × mSt) := mX12_row_B42 v0 v1 v2 v3 0 σ
def mX12_row_B37 (v0 : Nat) (v1 : Int) (v2 : Int) (v3 : Int) (σ : mSt) : Option (Int × mSt) := mX12_row_B42 v0 v1 v2 v3 1 σ
def mX12_row (v0 : Nat) (v1 : Int) (v2 : Int) (v3 : Int) (σ : mSt) : Option (Int × mSt) := mG (isC v0 11) <| mCall (mX12_isQuaternion v0 v1 σ) fun b13 s14 => if wI b13 = 0 then (mX12_row_B41 v0 v1 v2 v3 s14) else if wI v2 = 4 then (mX12_row_B37 v0 v1 v2 v3 s14) else mCall (mX12_within (wI v2) 0 3 s14) fun b18 s19 => if wI b18 = 0 then (mX12_row_B41 v0 v1 v2 v3 s19) else mCall (mX12_within (wI v3) 0 3 s19) fun b22 s23 => if wI b22 = 0 then (mX12_row_B41 v0 v1 v2 v3 s23) else mX12_row_B37 v0 v1 v2 v3 s23
def mX12_tries_B188 (v0 : Nat) (v1 : Int) (v2 : Int) (v3 : Int) (v4 : Int) (v5 : Int) (v6 : Int) (σ : mSt) : Option (Int × mSt) := some (0, σ)
def mX12_tries_B72 (v0 : Nat) (v1 : Int) (v2 : Int) (v3 : Int) (v4 : Int) (v5 : Int) (v6 : Int) (σ : mSt) : Option (Int × mSt) := mRef (σ v0 30) fun r1 => mG (ixOK r1 21 v1) <| bnd ((σ r1 (wI v1).toNat) * (wI v2)) fun a4 => mRef (σ v0 32) fun r6 => mG (ixOK r6 21 0) <| mG (wL a4 ≠ 0) <| if wL ((wL (2 * (σ r6 0))).tmod (wL a4)) = 0 then (mRef (σ v0 32) fun r11 => mG (ixOK r11 21 0) <| mRef (σ v0 32) fun r14 => mG (ixOK r14 21 1) <| mRef (σ v0 32) fun r17 => mG (ixOK r17 21 2) <| mRef (σ v0 32) fun r20 => mG (ixOK r20 21 3) <| mRef (σ v0 15) fun r23 => mG (ixOK r23 20 v1) <| mRef (σ v0 16) fun r26 => mG (ixOK r26 20 v1) <| mCall (mX12_normOf v0 (σ r11 0) (σ r14 1) (σ r17 2) (σ r20 3) (wI (σ r23 (wI v1).toNat)) (wI (σ r26 (wI v1).toNat)) σ) fun b29 s30 => mG (wL (a4 * a4) ≠ 0) <| if wL ((wL b29).tmod (wL (a4 * a4))) = 0 then (mCall (mX12_copies v0 v1 8 s30) fun b34 s35 => mCall (mX12_putsLeast v0 a4 s35) fun b37 s38 => if wI b37 = 0 then (mX12_tries_B188 v0 v1 v2 v3 v4 v5 v6 s38) else mCall (mX12_closes v0 v1 s38) fun b41 s42 => if wI b41 = 0 then (mX12_tries_B188 v0 v1 v2 v3 v4 v5 v6 s42) else some (1, s42)) else some (0, s30)) else some (0, σ)
def mX12_tries_L3 (v0 : Nat) (v1 : Int) (v2 : Int) (v3 : Int) (v4 : Int) (v5 : Int) (v6 : Int) (x72 : mSt → Option (Int × mSt)) : Nat → Int → mSt → Option (Int × mSt)
  | 0, _, _ => none
  | n + 1, v7, σ => if 4 ≤ wI v7 then (x72 σ) else mRef (σ v0 32) fun r46 => mCall (mX12_get v0 v1 0 v7 σ) fun b48 s49 => mCall (mX12_get v0 v1 1 v7 s49) fun b51 s52 => mCall (mX12_get v0 v1 2 v7 s52) fun b54 s55 => mCall (mX12_get v0 v1 3 v7 s55) fun b57 s58 => mG (ixOK r46 21 v7) <| bnd (upS s58 r46 (wI v7).toNat (((((wI v3) * b48) + ((wI v4) * b51)) + ((wI v5) * b54)) + ((wI v6) * b57))) fun s61 => bnd (v7 + 1) fun a63 => mX12_tries_L3 v0 v1 v2 v3 v4 v5 v6 x72 n a63 s61
def mX12_tries (v0 : Nat) (v1 : Int) (v2 : Int) (v3 : Int) (v4 : Int) (v5 : Int) (v6 : Int) (σ : mSt) : Option (Int × mSt) := mG (isC v0 11) <| mX12_tries_L3 v0 v1 v2 v3 v4 v5 v6 (fun zσ => mX12_tries_B72 v0 v1 v2 v3 v4 v5 v6 zσ) mF 0 σ
def mX12_enlargesAt_B68 (v0 : Nat) (v1 : Int) (v2 : Int) (σ : mSt) : Option (Int × mSt) := some (0, σ)
def mX12_enlargesAt_L2 (v0 : Nat) (v1 : Int) (v2 : Int) (x68 : mSt → Option (Int × mSt)) : Nat → Int → mSt → Option (Int × mSt)
  | 0, _, _ => none
  | n + 1, v3, σ => if wI (((v2 * v2) * v2) * v2) ≤ wI v3 then (x68 σ) else mG (wI ((v2 * v2) * v2) ≠ 0) <| mG (wI (v2 * v2) ≠ 0) <| mG (wI v2 ≠ 0) <| mCall (mX12_tries v0 v1 v2 ((wI v3).tdiv (wI ((v2 * v2) * v2))) ((wI ((wI v3).tdiv (wI (v2 * v2)))).tmod (wI v2)) ((wI ((wI v3).tdiv (wI v2))).tmod (wI v2)) ((wI v3).tmod (wI v2)) σ) fun b5 s6 => if wI b5 = 0 then (bnd (v3 + 1) fun a15 => mX12_enlargesAt_L2 v0 v1 v2 x68 n a15 s6) else mCall (mX12_lessens v0 8 s6) fun b9 s10 => mCall (mX12_copies v0 8 v1 s10) fun b12 s13 => some (1, s13)
def mX12_enlargesAt (v0 : Nat) (v1 : Int) (v2 : Int) (σ : mSt) : Option (Int × mSt) := mG (isC v0 11) <| mX12_enlargesAt_L2 v0 v1 v2 (fun zσ => mX12_enlargesAt_B68 v0 v1 v2 zσ) mF 1 σ
def mX12_hasMore (v0 : Nat) (v1 : Int) (v2 : Int) (σ : mSt) : Option (Int × mSt) := mG (isC v0 11) <| mCall (mX12_discOf v0 v1 v1 σ) fun b1 s2 => mCall (mX12_often b1 v2 s2) fun b4 s5 => mCall (mX12_dueOf v0 v1 s5) fun b7 s8 => mCall (mX12_often b7 v2 s8) fun b10 s11 => if wI b4 ≤ wI b10 then (some (0, s11)) else some (1, s11)
def mX12_enlarge (v0 : Nat) (v1 : Int) (v2 : Int) (σ : mSt) : Option (Int × mSt) := mG (isC v0 11) <| bnd (upS σ v0 0 0) fun s1 => mCall (mX12_isQuaternion v0 v1 s1) fun b3 s4 => if wI b3 = 0 then (some ((-1), s4)) else mCall (mX12_within (wI v2) 2 60 s4) fun b7 s8 => if wI b7 = 0 then (some ((-1), s8)) else mCall (mX12_isPrime v2 s8) fun b11 s12 => if wI b11 = 0 then (some ((-1), s12)) else mCall (mX12_hasMore v0 v1 v2 s12) fun b15 s16 => if wI b15 = 0 then (some (0, s16)) else mCall (mX12_discOf v0 v1 v1 s16) fun b19 s20 => mCall (mX12_enlargesAt v0 v1 v2 s20) fun b22 s23 => if wI b22 = 0 then (some (0, s23)) else mCall (mX12_discOf v0 v1 v1 s23) fun b26 s27 => mG (wI b26 ≠ 0) <| some ((wI b19).tdiv (wI b26), s27)
def mX12_greatest_B62 (v0 : Nat) (v1 : Int) (v2 : Int) (σ : mSt) : Option (Int × mSt) := some (v2, σ)
def mX12_greatest_L19 (v0 : Nat) (v1 : Int) (x62 : Int → mSt → Option (Int × mSt)) : Nat → Int → Int → mSt → Option (Int × mSt)
  | 0, _, _, _ => none
  | n + 1, v2, v3, σ => if 60 < wI v3 then (x62 v2 σ) else mCall (mX12_isPrime v3 σ) fun b2 s3 => if wI b2 = 0 then (bnd (v3 + 1) fun a6 => mX12_greatest_L19 v0 v1 x62 n v2 a6 s3) else mCall (mX12_hasMore v0 v1 v3 s3) fun b8 s9 => if wI b8 = 0 then (bnd (v3 + 1) fun a12 => mX12_greatest_L19 v0 v1 x62 n v2 a12 s9) else mCall (mX12_enlargesAt v0 v1 v3 s9) fun b14 s15 => if wI b14 = 0 then (bnd (v3 + 1) fun a18 => mX12_greatest_L19 v0 v1 x62 n v2 a18 s15) else bnd (v2 + 1) fun a20 => mX12_greatest_L19 v0 v1 x62 n a20 v3 s15
def mX12_greatest (v0 : Nat) (v1 : Int) (σ : mSt) : Option (Int × mSt) := mG (isC v0 11) <| bnd (upS σ v0 0 0) fun s22 => mCall (mX12_isQuaternion v0 v1 s22) fun b24 s25 => if wI b24 = 0 then (some ((-1), s25)) else mX12_greatest_L19 v0 v1 (fun z2 zσ => mX12_greatest_B62 v0 v1 z2 zσ) mF 0 2 s25
def mX12_plain (v0 : Nat) (v1 : Int) (σ : mSt) : Option (Int × mSt) := mG (isC v0 11) <| bnd (upS σ v0 0 0) fun s1 => mCall (mX12_isQuaternion v0 v1 s1) fun b3 s4 => if wI b3 = 0 then (some (0, s4)) else mCall (mX12_laysPlain v0 v1 s4) fun b7 s8 => some (1, s8)
def mX12_holds_B219 (v0 : Nat) (v1 : Int) (v2 : Int) (σ : mSt) : Option (Int × mSt) := some (1, σ)
def mX12_holds_B213 (v0 : Nat) (v1 : Int) (v2 : Int) (c116 : Int → mSt → Option (Int × mSt)) (x219 : mSt → Option (Int × mSt)) (v6 : Int) (σ : mSt) : Option (Int × mSt) := bnd (v6 + 1) fun a1 => c116 a1 σ
def mX12_holds_L174 (v0 : Nat) (v1 : Int) (v2 : Int) (v6 : Int) (x213 : mSt → Option (Int × mSt)) : Nat → Int → mSt → Option (Int × mSt)
  | 0, _, _ => none
  | n + 1, v7, σ => if 4 ≤ wI v7 then (x213 σ) else mRef (σ v0 32) fun r4 => mG (ixOK r4 21 v7) <| mRef (σ v0 33) fun r7 => mG (ixOK r7 21 v6) <| mCall (mX12_get v0 v1 v6 v7 σ) fun b10 s11 => bnd (upS s11 r4 (wI v7).toNat ((σ r4 (wI v7).toNat) - ((σ r7 (wI v6).toNat) * b10))) fun s13 => bnd (v7 + 1) fun a15 => mX12_holds_L174 v0 v1 v2 v6 x213 n a15 s13
def mX12_holds_L116 (v0 : Nat) (v1 : Int) (v2 : Int) (x219 : mSt → Option (Int × mSt)) : Nat → Int → mSt → Option (Int × mSt)
  | 0, _, _ => none
  | n + 1, v6, σ => if 4 ≤ wI v6 then (x219 σ) else mRef (σ v0 32) fun r18 => mG (ixOK r18 21 v6) <| mCall (mX12_get v0 v1 v6 v6 σ) fun b21 s22 => mG (wL b21 ≠ 0) <| if wL ((wL (σ r18 (wI v6).toNat)).tmod (wL b21)) = 0 then (mRef (s22 v0 33) fun r26 => mRef (s22 v0 32) fun r28 => mG (ixOK r28 21 v6) <| mCall (mX12_get v0 v1 v6 v6 s22) fun b31 s32 => mG (wL b31 ≠ 0) <| mG (ixOK r26 21 v6) <| bnd (upS s32 r26 (wI v6).toNat ((wL (s22 r28 (wI v6).toNat)).tdiv (wL b31))) fun s36 => mX12_holds_L174 v0 v1 v2 v6 (fun zσ => mX12_holds_B213 v0 v1 v2 (mX12_holds_L116 v0 v1 v2 x219 n) x219 v6 zσ) mF v6 s36) else some (0, s22)
def mX12_holds_B113 (v0 : Nat) (v1 : Int) (v2 : Int) (σ : mSt) : Option (Int × mSt) := mX12_holds_L116 v0 v1 v2 (fun zσ => mX12_holds_B219 v0 v1 v2 zσ) mF 0 σ
def mX12_holds_L89 (v0 : Nat) (v1 : Int) (v2 : Int) (v4 : Int) (x113 : mSt → Option (Int × mSt)) : Nat → Int → mSt → Option (Int × mSt)
  | 0, _, _ => none
  | n + 1, v6, σ => if 4 ≤ wI v6 then (x113 σ) else mRef (σ v0 32) fun r39 => mG (ixOK r39 21 v6) <| bnd (upS σ r39 (wI v6).toNat ((σ r39 (wI v6).toNat) * v4)) fun s42 => bnd (v6 + 1) fun a44 => mX12_holds_L89 v0 v1 v2 v4 x113 n a44 s42
def mX12_holds_B67 (v0 : Nat) (v1 : Int) (v2 : Int) (σ : mSt) : Option (Int × mSt) := mRef (σ v0 30) fun r46 => mG (ixOK r46 21 v1) <| mRef (σ v0 30) fun r49 => mG (ixOK r49 21 v1) <| mCall (mX12_common (σ r49 (wI v1).toNat) v2 σ) fun b52 s53 => mG (wL b52 ≠ 0) <| bnd ((wL (σ r46 (wI v1).toNat)).tdiv (wL b52)) fun a56 => mX12_holds_L89 v0 v1 v2 a56 (fun zσ => mX12_holds_B113 v0 v1 v2 zσ) mF 0 s53
def mX12_holds_L3 (v0 : Nat) (v1 : Int) (v2 : Int) (x67 : mSt → Option (Int × mSt)) : Nat → Int → mSt → Option (Int × mSt)
  | 0, _, _ => none
  | n + 1, v4, σ => if 4 ≤ wI v4 then (x67 σ) else mRef (σ v0 30) fun r59 => mG (ixOK r59 21 v1) <| mCall (mX12_common (σ r59 (wI v1).toNat) v2 σ) fun b62 s63 => mG (wL b62 ≠ 0) <| bnd ((wL v2).tdiv (wL b62)) fun a66 => mRef (s63 v0 32) fun r68 => mG (ixOK r68 21 v4) <| mG (wL a66 ≠ 0) <| if wL ((wL (s63 r68 (wI v4).toNat)).tmod (wL a66)) = 0 then (mRef (s63 v0 32) fun r73 => mRef (s63 v0 32) fun r75 => mG (ixOK r75 21 v4) <| mG (ixOK r73 21 v4) <| bnd (upS s63 r73 (wI v4).toNat ((wL (s63 r75 (wI v4).toNat)).tdiv (wL a66))) fun s79 => bnd (v4 + 1) fun a81 => mX12_holds_L3 v0 v1 v2 x67 n a81 s79) else some (0, s63)
def mX12_holds (v0 : Nat) (v1 : Int) (v2 : Int) (σ : mSt) : Option (Int × mSt) := mG (isC v0 11) <| mX12_holds_L3 v0 v1 v2 (fun zσ => mX12_holds_B67 v0 v1 v2 zσ) mF 0 σ
def mX12_table_B134 (v0 : Nat) (v1 : Int) (v2 : Int) (v3 : Int) (v4 : Int) (σ : mSt) : Option (Int × mSt) := mRef (σ v0 30) fun r1 => mG (ixOK r1 21 v1) <| mRef (σ v0 30) fun r4 => mG (ixOK r4 21 v1) <| mCall (mX12_holds v0 v1 ((σ r1 (wI v1).toNat) * (σ r4 (wI v1).toNat)) σ) fun b7 s8 => if wI b7 = 0 then (some (0, s8)) else mRef (s8 v0 33) fun r11 => mG (ixOK r11 21 v4) <| some (s8 r11 (wI v4).toNat, s8)
def mX12_table_L108 (v0 : Nat) (v1 : Int) (v2 : Int) (v3 : Int) (v4 : Int) (x134 : mSt → Option (Int × mSt)) : Nat → Int → mSt → Option (Int × mSt)
  | 0, _, _ => none
  | n + 1, v6, σ => if 4 ≤ wI v6 then (x134 σ) else mRef (σ v0 32) fun r15 => mRef (σ v0 27) fun r17 => mG (ixOK r17 21 v6) <| mG (ixOK r15 21 v6) <| bnd (upS σ r15 (wI v6).toNat (σ r17 (wI v6).toNat)) fun s21 => bnd (v6 + 1) fun a23 => mX12_table_L108 v0 v1 v2 v3 v4 x134 n a23 s21
def mX12_table_B63 (v0 : Nat) (v1 : Int) (v2 : Int) (v3 : Int) (v4 : Int) (v5 : Int) (t0 : Nat) (t1 : Int) (σ : mSt) : Option (Int × mSt) := mG (isC t0 11) <| bnd (upS σ t0 0 t1) fun s26 => if wI v5 = 0 then (some (0, s26)) else mCall (mX12_takesRow v0 v1 v2 0 s26) fun b29 s30 => mCall (mX12_takesRow v0 v1 v3 1 s30) fun b32 s33 => mRef (s33 v0 15) fun r35 => mG (ixOK r35 20 v1) <| mRef (s33 v0 16) fun r38 => mG (ixOK r38 20 v1) <| mCall (mX12_multiplies v0 (wI (s33 r35 (wI v1).toNat)) (wI (s33 r38 (wI v1).toNat)) s33) fun b41 s42 => mX12_table_L108 v0 v1 v2 v3 v4 (fun zσ => mX12_table_B134 v0 v1 v2 v3 v4 zσ) mF 0 s42
def mX12_table_B50 (v0 : Nat) (v1 : Int) (v2 : Int) (v3 : Int) (v4 : Int) (t0 : Int) (σ : mSt) : Option (Int × mSt) := if wI t0 = 0 then (mX12_table_B63 v0 v1 v2 v3 v4 t0 v0 1 σ) else mX12_table_B63 v0 v1 v2 v3 v4 t0 v0 0 σ
def mX12_table_B49 (v0 : Nat) (v1 : Int) (v2 : Int) (v3 : Int) (v4 : Int) (σ : mSt) : Option (Int × mSt) := mX12_table_B50 v0 v1 v2 v3 v4 0 σ
def mX12_table (v0 : Nat) (v1 : Int) (v2 : Int) (v3 : Int) (v4 : Int) (σ : mSt) : Option (Int × mSt) := mG (isC v0 11) <| mCall (mX12_isQuaternion v0 v1 σ) fun b45 s46 => if wI b45 = 0 then (mX12_table_B49 v0 v1 v2 v3 v4 s46) else mCall (mX12_within (wI v2) 0 3 s46) fun b49 s50 => if wI b49 = 0 then (mX12_table_B49 v0 v1 v2 v3 v4 s50) else mCall (mX12_within (wI v3) 0 3 s50) fun b53 s54 => if wI b53 = 0 then (mX12_table_B49 v0 v1 v2 v3 v4 s54) else mCall (mX12_within (wI v4) 0 3 s54) fun b57 s58 => if wI b57 = 0 then (mX12_table_B49 v0 v1 v2 v3 v4 s58) else mX12_table_B50 v0 v1 v2 v3 v4 1 s58
def mX12_isInOrder_B25 (v0 : Nat) (v1 : Int) (σ : mSt) : Option (Int × mSt) := mRef (σ v0 22) fun r1 => mG (ixOK r1 20 v1) <| mCall (mX12_part v0 v1 4 σ) fun b4 s5 => mCall (mX12_holds v0 (σ r1 (wI v1).toNat) b4 s5) fun b7 s8 => mG (b7 = 0 ∨ b7 = 1) <| some (b7, s8)
def mX12_isInOrder_L2 (v0 : Nat) (v1 : Int) (x25 : mSt → Option (Int × mSt)) : Nat → Int → mSt → Option (Int × mSt)
  | 0, _, _ => none
  | n + 1, v2, σ => if 4 ≤ wI v2 then (x25 σ) else mRef (σ v0 32) fun r12 => mCall (mX12_part v0 v1 v2 σ) fun b14 s15 => mG (ixOK r12 21 v2) <| bnd (upS s15 r12 (wI v2).toNat b14) fun s18 => bnd (v2 + 1) fun a20 => mX12_isInOrder_L2 v0 v1 x25 n a20 s18
def mX12_isInOrder (v0 : Nat) (v1 : Int) (σ : mSt) : Option (Int × mSt) := mG (isC v0 11) <| mX12_isInOrder_L2 v0 v1 (fun zσ => mX12_isInOrder_B25 v0 v1 zσ) mF 0 σ
def mX12_isIn (v0 : Nat) (v1 : Int) (σ : mSt) : Option (Int × mSt) := mG (isC v0 11) <| bnd (upS σ v0 0 0) fun s1 => mCall (mX12_isKept v0 v1 s1) fun b3 s4 => if wI b3 = 0 then (some ((-1), s4)) else mCall (mX12_isInOrder v0 v1 s4) fun b7 s8 => if wI b7 = 0 then (some (0, s8)) else some (1, s8)
def mX12_isSmall_B33 (v0 : Nat) (v1 : Int) (σ : mSt) : Option (Int × mSt) := some (1, σ)
def mX12_isSmall_L2 (v0 : Nat) (v1 : Int) (x33 : mSt → Option (Int × mSt)) : Nat → Int → mSt → Option (Int × mSt)
  | 0, _, _ => none
  | n + 1, v2, σ => if 5 ≤ wI v2 then (x33 σ) else mCall (mX12_part v0 v1 v2 σ) fun b2 s3 => mCall (mX12_within b2 (-100) 100 s3) fun b5 s6 => if wI b5 = 0 then (some (0, s6)) else bnd (v2 + 1) fun a9 => mX12_isSmall_L2 v0 v1 x33 n a9 s6
def mX12_isSmall (v0 : Nat) (v1 : Int) (σ : mSt) : Option (Int × mSt) := mG (isC v0 11) <| mX12_isSmall_L2 v0 v1 (fun zσ => mX12_isSmall_B33 v0 v1 zσ) mF 0 σ
def mX12_refusal_B98 (v0 : Nat) (v1 : Int) (v2 : Int) (σ : mSt) : Option (Int × mSt) := some (0, σ)
def mX12_refusal_B93 (v0 : Nat) (v1 : Int) (v2 : Int) (σ : mSt) : Option (Int × mSt) := some ((-3), σ)
def mX12_refusal_B62 (v0 : Nat) (v1 : Int) (v2 : Int) (σ : mSt) : Option (Int × mSt) := mCall (mX12_normAbove v0 v1 σ) fun b1 s2 => if wL b1 = 0 then (mX12_refusal_B93 v0 v1 v2 s2) else mCall (mX12_isSmall v0 v1 s2) fun b5 s6 => if wI b5 = 0 then (mX12_refusal_B93 v0 v1 v2 s6) else if wI v2 = (-1) then (mX12_refusal_B98 v0 v1 v2 s6) else mCall (mX12_isSmall v0 v2 s6) fun b10 s11 => if wI b10 = 0 then (mX12_refusal_B93 v0 v1 v2 s11) else mX12_refusal_B98 v0 v1 v2 s11
def mX12_refusal_B38 (v0 : Nat) (v1 : Int) (v2 : Int) (σ : mSt) : Option (Int × mSt) := mCall (mX12_isInOrder v0 v1 σ) fun b14 s15 => if wI b14 = 0 then (some ((-2), s15)) else if wI v2 = (-1) then (mX12_refusal_B62 v0 v1 v2 s15) else mCall (mX12_isInOrder v0 v2 s15) fun b19 s20 => if wI b19 = 0 then (some ((-2), s20)) else mX12_refusal_B62 v0 v1 v2 s20
def mX12_refusal (v0 : Nat) (v1 : Int) (v2 : Int) (σ : mSt) : Option (Int × mSt) := mG (isC v0 11) <| mCall (mX12_isKept v0 v1 σ) fun b23 s24 => if wI b23 = 0 then (some ((-1), s24)) else if wI v2 = (-1) then (mX12_refusal_B38 v0 v1 v2 s24) else mCall (mX12_isKept v0 v2 s24) fun b28 s29 => if wI b28 = 0 then (some ((-1), s29)) else mRef (s29 v0 22) fun r32 => mG (ixOK r32 20 v2) <| mRef (s29 v0 22) fun r35 => mG (ixOK r35 20 v1) <| if wI (s29 r32 (wI v2).toNat) = wI (s29 r35 (wI v1).toNat) then (mX12_refusal_B38 v0 v1 v2 s29) else some ((-1), s29)
def mX12_putsProducts_B158 (v0 : Nat) (v1 : Int) (v2 : Int) (σ : mSt) : Option (Int × mSt) := some (0, σ)
def mX12_putsProducts_B135 (v0 : Nat) (v1 : Int) (v2 : Int) (c2 : Int → mSt → Option (Int × mSt)) (x158 : mSt → Option (Int × mSt)) (v3 : Int) (v4 : Int) (σ : mSt) : Option (Int × mSt) := mCall (mX12_puts_ v0 9 v4 σ) fun b1 s2 => mG (oOr (σ v0 34) b1 = 0 ∨ oOr (σ v0 34) b1 = 1) <| bnd (upS s2 v0 34 (oOr (σ v0 34) b1)) fun s5 => bnd (v3 + 1) fun a7 => c2 a7 s5
def mX12_putsProducts_L109 (v0 : Nat) (v1 : Int) (v2 : Int) (v3 : Int) (v4 : Int) (x135 : mSt → Option (Int × mSt)) : Nat → Int → mSt → Option (Int × mSt)
  | 0, _, _ => none
  | n + 1, v8, σ => if 4 ≤ wI v8 then (x135 σ) else mRef (σ v0 32) fun r10 => mRef (σ v0 27) fun r12 => mG (ixOK r12 21 v8) <| mG (ixOK r10 21 v8) <| bnd (upS σ r10 (wI v8).toNat (σ r12 (wI v8).toNat)) fun s16 => bnd (v8 + 1) fun a18 => mX12_putsProducts_L109 v0 v1 v2 v3 v4 x135 n a18 s16
def mX12_putsProducts_B106 (v0 : Nat) (v1 : Int) (v2 : Int) (c2 : Int → mSt → Option (Int × mSt)) (x158 : mSt → Option (Int × mSt)) (v3 : Int) (v4 : Int) (σ : mSt) : Option (Int × mSt) := mX12_putsProducts_L109 v0 v1 v2 v3 v4 (fun zσ => mX12_putsProducts_B135 v0 v1 v2 c2 x158 v3 v4 zσ) mF 0 σ
def mX12_putsProducts_L2 (v0 : Nat) (v1 : Int) (v2 : Int) (x158 : mSt → Option (Int × mSt)) : Nat → Int → mSt → Option (Int × mSt)
  | 0, _, _ => none
  | n + 1, v3, σ => if 4 ≤ wI v3 then (x158 σ) else mCall (mX12_takesRow v0 v1 v3 0 σ) fun b21 s22 => mCall (mX12_takesOther v0 v2 s22) fun b24 s25 => mRef (s25 v0 15) fun r27 => mG (ixOK r27 20 v1) <| mRef (s25 v0 16) fun r30 => mG (ixOK r30 20 v1) <| mCall (mX12_multiplies v0 (wI (s25 r27 (wI v1).toNat)) (wI (s25 r30 (wI v1).toNat)) s25) fun b33 s34 => mRef (s34 v0 30) fun r36 => mG (ixOK r36 21 v1) <| mCall (mX12_part v0 v2 4 s34) fun b39 s40 => bnd ((s34 r36 (wI v1).toNat) * b39) fun a42 => mRef (s40 v0 30) fun r44 => mG (ixOK r44 21 9) <| mRef (s40 v0 30) fun r47 => mG (ixOK r47 21 9) <| mCall (mX12_common (s40 r47 9) a42 s40) fun b50 s51 => mG (wL b50 ≠ 0) <| bnd (((wL (s40 r44 9)).tdiv (wL b50)) * a42) fun a54 => mRef (s51 v0 30) fun r56 => mG (ixOK r56 21 9) <| if wL a54 = wL (s51 r56 9) then (mX12_putsProducts_B106 v0 v1 v2 (mX12_putsProducts_L2 v0 v1 v2 x158 n) x158 v3 a42 s51) else mRef (s51 v0 30) fun r60 => mG (ixOK r60 21 9) <| mG (wL (s51 r60 9) ≠ 0) <| mCall (mX12_scales v0 9 ((wL a54).tdiv (wL (s51 r60 9))) s51) fun b64 s65 => mX12_putsProducts_B106 v0 v1 v2 (mX12_putsProducts_L2 v0 v1 v2 x158 n) x158 v3 a42 s65
def mX12_putsProducts (v0 : Nat) (v1 : Int) (v2 : Int) (σ : mSt) : Option (Int × mSt) := mG (isC v0 11) <| mX12_putsProducts_L2 v0 v1 v2 (fun zσ => mX12_putsProducts_B158 v0 v1 v2 zσ) mF 0 σ
set_option maxRecDepth 100000 in
set_option maxHeartbeats 4000000 in
theorem wX12_closes_B147 (l : Launch) (E : mE) (out : Int × mSt) {p : Program} {e : Env} {s : State} {m : MethodId} {args : Array Value} {below : List Frame} {meth : Method} {c : Code} (G : CallFix p m c cX12_closes 7 s args mTs RX12) (hr : meth.sig.returnType = (some .boolean)) (hk : meth.locks = false) (v0 : Nat) (v1 : Int) (g0 : isC v0 11) : ∀ (σ : mSt) (H : Heap) (locs : List Loc) (ls : Array Slot), mX12_closes_B147 v0 v1 σ = some out → mM (mA E 276) E 276 σ s H locs → lv_has ls 7 [] → mGo l p e 5 140 s m args below meth c E (some (vI out.1)) out.2 H locs (F0 m 147 ls []) := by
  intro σ H locs ls hm hM hl
  unfold mX12_closes_B147 at hm
  refine r_iconst (np := 148) G 1 dX12_closes_147 rfl ?_
  exact r_zret G hr hk hM (Or.inr rfl) hm dX12_closes_148
set_option maxRecDepth 100000 in
set_option maxHeartbeats 4000000 in
theorem wX12_closes_B144 (l : Launch) (E : mE) (out : Int × mSt) {p : Program} {e : Env} {s : State} {m : MethodId} {args : Array Value} {below : List Frame} {meth : Method} {c : Code} (G : CallFix p m c cX12_closes 7 s args mTs RX12) (hr : meth.sig.returnType = (some .boolean)) (hk : meth.locks = false) (v0 : Nat) (v1 : Int) (g0 : isC v0 11) (c2 : Int → mSt → Option (Int × mSt)) (x147 : mSt → Option (Int × mSt)) (hc2 : ∀ (v2 : Int) (σ : mSt) (H : Heap) (locs : List Loc) (ls : Array Slot), c2 v2 σ = some out → mM (mA E 276) E 276 σ s H locs → lv_has ls 7 [(0, .ref (eA E v0)), (1, vI v1), (2, vI v2)] → mGo l p e 5 140 s m args below meth c E (some (vI out.1)) out.2 H locs (F0 m 2 ls [])) (hx147 : ∀ (σ : mSt) (H : Heap) (locs : List Loc) (ls : Array Slot), x147 σ = some out → mM (mA E 276) E 276 σ s H locs → lv_has ls 7 [] → mGo l p e 5 140 s m args below meth c E (some (vI out.1)) out.2 H locs (F0 m 147 ls [])) : ∀ (v2 : Int) (σ : mSt) (H : Heap) (locs : List Loc) (ls : Array Slot), mX12_closes_B144 v0 v1 c2 x147 v2 σ = some out → mM (mA E 276) E 276 σ s H locs → lv_has ls 7 [(0, .ref (eA E v0)), (1, vI v1), (2, vI v2)] → mGo l p e 5 140 s m args below meth c E (some (vI out.1)) out.2 H locs (F0 m 144 ls []) := by
  intro v2 σ H locs ls hm hM hl
  unfold mX12_closes_B144 at hm
  refine r_goto (np := 2) G dX12_closes_144 (by decide) ?_
  exact hc2 v2 _ _ _ _ hm hM (lv_sub hl [0, 1, 2] rfl)
set_option maxRecDepth 100000 in
set_option maxHeartbeats 4000000 in
theorem wX12_closes_B138 (l : Launch) (E : mE) (out : Int × mSt) {p : Program} {e : Env} {s : State} {m : MethodId} {args : Array Value} {below : List Frame} {meth : Method} {c : Code} (G : CallFix p m c cX12_closes 7 s args mTs RX12) (hr : meth.sig.returnType = (some .boolean)) (hk : meth.locks = false) (v0 : Nat) (v1 : Int) (g0 : isC v0 11) (c22 : Int → Int → mSt → Option (Int × mSt)) (x144 : Int → mSt → Option (Int × mSt)) (hc22 : ∀ (v2 : Int) (v3 : Int) (σ : mSt) (H : Heap) (locs : List Loc) (ls : Array Slot), c22 v2 v3 σ = some out → mM (mA E 276) E 276 σ s H locs → lv_has ls 7 [(0, .ref (eA E v0)), (1, vI v1), (2, vI v2), (3, vI v3)] → mGo l p e 5 140 s m args below meth c E (some (vI out.1)) out.2 H locs (F0 m 22 ls [])) (hx144 : ∀ (v2 : Int) (σ : mSt) (H : Heap) (locs : List Loc) (ls : Array Slot), x144 v2 σ = some out → mM (mA E 276) E 276 σ s H locs → lv_has ls 7 [(0, .ref (eA E v0)), (1, vI v1), (2, vI v2)] → mGo l p e 5 140 s m args below meth c E (some (vI out.1)) out.2 H locs (F0 m 144 ls [])) : ∀ (v2 : Int) (v3 : Int) (σ : mSt) (H : Heap) (locs : List Loc) (ls : Array Slot), mX12_closes_B138 v0 v1 c22 x144 v2 v3 σ = some out → mM (mA E 276) E 276 σ s H locs → lv_has ls 7 [(0, .ref (eA E v0)), (1, vI v1), (2, vI v2), (3, vI v3)] → mGo l p e 5 140 s m args below meth c E (some (vI out.1)) out.2 H locs (F0 m 138 ls []) := by
  intro v2 v3 σ H locs ls hm hM hl
  unfold mX12_closes_B138 at hm
  obtain ⟨a1, e2, hm⟩ := bnd_t hm
  refine r_iinc (np := 141) G hl 3 rfl e2 [(3, vI a1), (0, .ref (eA E v0)), (1, vI v1), (2, vI v2)] dX12_closes_138 rfl (by decide) rfl (fun ls hl => ?_)
  refine r_goto (np := 22) G dX12_closes_141 (by decide) ?_
  exact hc22 v2 a1 _ _ _ _ hm hM (lv_sub hl [1, 2, 3, 0] rfl)
set_option maxRecDepth 100000 in
set_option maxHeartbeats 4000000 in
theorem wX12_closes_B108 (l : Launch) (E : mE) (out : Int × mSt) {p : Program} {e : Env} {s : State} {m : MethodId} {args : Array Value} {below : List Frame} {meth : Method} {c : Code} (G : CallFix p m c cX12_closes 7 s args mTs RX12) (hr : meth.sig.returnType = (some .boolean)) (hk : meth.locks = false) (v0 : Nat) (v1 : Int) (v3 : Int) (g0 : isC v0 11) (c34 : Int → Int → mSt → Option (Int × mSt)) (x138 : Int → mSt → Option (Int × mSt)) (hc34 : ∀ (v2 : Int) (v4 : Int) (σ : mSt) (H : Heap) (locs : List Loc) (ls : Array Slot), c34 v2 v4 σ = some out → mM (mA E 276) E 276 σ s H locs → lv_has ls 7 [(0, .ref (eA E v0)), (1, vI v1), (2, vI v2), (3, vI v3), (4, vI v4)] → mGo l p e 5 140 s m args below meth c E (some (vI out.1)) out.2 H locs (F0 m 34 ls [])) (hx138 : ∀ (v2 : Int) (σ : mSt) (H : Heap) (locs : List Loc) (ls : Array Slot), x138 v2 σ = some out → mM (mA E 276) E 276 σ s H locs → lv_has ls 7 [(0, .ref (eA E v0)), (1, vI v1), (2, vI v2), (3, vI v3)] → mGo l p e 5 140 s m args below meth c E (some (vI out.1)) out.2 H locs (F0 m 138 ls [])) : ∀ (v4 : Int) (σ : mSt) (H : Heap) (locs : List Loc) (ls : Array Slot), mX12_closes_B108 v0 v1 v3 c34 x138 v4 σ = some out → mM (mA E 276) E 276 σ s H locs → lv_has ls 7 [(0, .ref (eA E v0)), (1, vI v1), (3, vI v3), (4, vI v4)] → mGo l p e 5 140 s m args below meth c E (some (vI out.1)) out.2 H locs (F0 m 108 ls []) := by
  intro v4 σ H locs ls hm hM hl
  unfold mX12_closes_B108 at hm
  refine r_aload_n (np := 109) G hl 0 rfl dX12_closes_108 rfl rfl ?_
  obtain ⟨r3, e4, hm⟩ := ref_t hm
  refine r_getR (np := 112) G hM (shp_lt g0 (by decide)) g0 e4 fdX12_30 lkX12_60 dX12_closes_109 rfl ?_
  refine r_bipush (np := 114) G 8 dX12_closes_112 (by decide) rfl ?_
  obtain ⟨g5, hm⟩ := g_t hm
  refine r_laload (np := 115) G hM g5 rfl dX12_closes_114 rfl ?_
  refine r_aload_n (np := 116) G hl 0 rfl dX12_closes_115 rfl rfl ?_
  obtain ⟨r6, e7, hm⟩ := ref_t hm
  refine r_getR (np := 119) G hM (shp_lt g0 (by decide)) g0 e7 fdX12_30 lkX12_60 dX12_closes_116 rfl ?_
  refine r_bipush (np := 121) G 8 dX12_closes_119 (by decide) rfl ?_
  obtain ⟨g8, hm⟩ := g_t hm
  refine r_laload (np := 122) G hM g8 rfl dX12_closes_121 rfl ?_
  refine r_lmul (np := 123) G dX12_closes_122 rfl ?_
  obtain ⟨a9, e10, hm⟩ := bnd_t hm
  refine r_lstore (np := 125) G hl e10 [(5, vL a9), (0, .ref (eA E v0)), (1, vI v1), (3, vI v3), (4, vI v4)] dX12_closes_123 rfl (by decide) rfl (fun ls hl => ?_)
  refine r_aload_n (np := 126) G hl 1 rfl dX12_closes_125 rfl rfl ?_
  refine r_lload (np := 128) G hl 0 rfl dX12_closes_126 rfl ?_
  obtain ⟨b11, s12, e13, hm⟩ := call_t hm
  refine m_callVI (np := 131) G hM hl.1 [vL a9] (qX12_putsLeast l E σ v0 a9 _ e13) myX12_putsLeast (shp_lt (gX12_putsLeast e13) (by decide)) (gX12_putsLeast e13) rfl (by decide) lkX12_384 ⟨Nat.le_of_ble_eq_true rfl, Nat.le_of_ble_eq_true rfl⟩ ⟨Nat.le_of_ble_eq_true rfl, Nat.le_of_ble_eq_true rfl⟩ [] rfl (Nat.le_of_ble_eq_true rfl) dX12_closes_128 rfl (fun H locs hM => ?_)
  refine r_istore_n (np := 132) G hl rfl [(2, vI b11), (5, vL a9), (0, .ref (eA E v0)), (1, vI v1), (3, vI v3), (4, vI v4)] dX12_closes_131 rfl rfl (by decide) rfl (fun ls hl => ?_)
  obtain ⟨a14, e15, hm⟩ := bnd_t hm
  refine r_iinc (np := 135) G hl 5 rfl e15 [(4, vI a14), (2, vI b11), (5, vL a9), (0, .ref (eA E v0)), (1, vI v1), (3, vI v3)] dX12_closes_132 rfl (by decide) rfl (fun ls hl => ?_)
  refine r_goto (np := 34) G dX12_closes_135 (by decide) ?_
  exact hc34 b11 a14 _ _ _ _ hm hM (lv_sub hl [3, 4, 1, 5, 0] rfl)
set_option maxRecDepth 100000 in
set_option maxHeartbeats 4000000 in
theorem wX12_closes_L82 (l : Launch) (E : mE) (out : Int × mSt) {p : Program} {e : Env} {s : State} {m : MethodId} {args : Array Value} {below : List Frame} {meth : Method} {c : Code} (G : CallFix p m c cX12_closes 7 s args mTs RX12) (hr : meth.sig.returnType = (some .boolean)) (hk : meth.locks = false) (v0 : Nat) (v1 : Int) (v3 : Int) (v4 : Int) (g0 : isC v0 11) (x108 : mSt → Option (Int × mSt)) (hx108 : ∀ (σ : mSt) (H : Heap) (locs : List Loc) (ls : Array Slot), x108 σ = some out → mM (mA E 276) E 276 σ s H locs → lv_has ls 7 [(0, .ref (eA E v0)), (1, vI v1), (3, vI v3), (4, vI v4)] → mGo l p e 5 140 s m args below meth c E (some (vI out.1)) out.2 H locs (F0 m 108 ls [])) : ∀ (n : Nat) (v5 : Int) (σ : mSt) (H : Heap) (locs : List Loc) (ls : Array Slot), mX12_closes_L82 v0 v1 v3 v4 x108 n v5 σ = some out → mM (mA E 276) E 276 σ s H locs → lv_has ls 7 [(0, .ref (eA E v0)), (1, vI v1), (3, vI v3), (4, vI v4), (5, vI v5)] → mGo l p e 5 140 s m args below meth c E (some (vI out.1)) out.2 H locs (F0 m 82 ls []) := by
  intro n
  induction n with
  | zero =>
    intro v5 σ H locs ls hm hM hl
    exact absurd hm (by rw [mX12_closes_L82.eq_1]; exact fun h => nomatch h)
  | succ n ih =>
    intro v5 σ H locs ls hm hM hl
    rw [mX12_closes_L82.eq_2] at hm
    refine r_iload (np := 84) G hl 4 rfl dX12_closes_82 rfl ?_
    refine r_iconst (np := 85) G 4 dX12_closes_84 rfl ?_
    refine r_icmp_ge (np := 88) (tgt := 108) G rfl (wIk 4 rfl) dX12_closes_85 (by decide) rfl (fun h16 => ?_) (fun h16 => ?_)
    · have hm := b_t h16 hm
      exact hx108 _ _ _ _ hm hM (lv_sub hl [0, 1, 2, 3] rfl)
    · have hm := b_f h16 hm
      refine r_aload_n (np := 89) G hl 0 rfl dX12_closes_88 rfl rfl ?_
      obtain ⟨r17, e18, hm⟩ := ref_t hm
      refine r_getR (np := 92) G hM (shp_lt g0 (by decide)) g0 e18 fdX12_32 lkX12_66 dX12_closes_89 rfl ?_
      refine r_iload (np := 94) G hl 4 rfl dX12_closes_92 rfl ?_
      refine r_aload_n (np := 95) G hl 0 rfl dX12_closes_94 rfl rfl ?_
      obtain ⟨r19, e20, hm⟩ := ref_t hm
      refine r_getR (np := 98) G hM (shp_lt g0 (by decide)) g0 e20 fdX12_27 lkX12_51 dX12_closes_95 rfl ?_
      refine r_iload (np := 100) G hl 4 rfl dX12_closes_98 rfl ?_
      obtain ⟨g21, hm⟩ := g_t hm
      refine r_laload (np := 101) G hM g21 rfl dX12_closes_100 rfl ?_
      obtain ⟨g22, hm⟩ := g_t hm
      obtain ⟨s23, e24, hm⟩ := bnd_t hm
      refine r_lastore (np := 102) G hM g22 rfl s23 e24 dX12_closes_101 rfl (fun H locs hM => ?_)
      obtain ⟨a25, e26, hm⟩ := bnd_t hm
      refine r_iinc (np := 105) G hl 4 rfl e26 [(5, vI a25), (0, .ref (eA E v0)), (1, vI v1), (3, vI v3), (4, vI v4)] dX12_closes_102 rfl (by decide) rfl (fun ls hl => ?_)
      refine r_goto (np := 82) G dX12_closes_105 (by decide) ?_
      exact ih a25 _ _ _ _ hm hM (lv_sub hl [1, 2, 3, 4, 0] rfl)
set_option maxRecDepth 100000 in
set_option maxHeartbeats 4000000 in
theorem wX12_closes_L34 (l : Launch) (E : mE) (out : Int × mSt) {p : Program} {e : Env} {s : State} {m : MethodId} {args : Array Value} {below : List Frame} {meth : Method} {c : Code} (G : CallFix p m c cX12_closes 7 s args mTs RX12) (hr : meth.sig.returnType = (some .boolean)) (hk : meth.locks = false) (v0 : Nat) (v1 : Int) (v3 : Int) (g0 : isC v0 11) (x138 : Int → mSt → Option (Int × mSt)) (hx138 : ∀ (v2 : Int) (σ : mSt) (H : Heap) (locs : List Loc) (ls : Array Slot), x138 v2 σ = some out → mM (mA E 276) E 276 σ s H locs → lv_has ls 7 [(0, .ref (eA E v0)), (1, vI v1), (2, vI v2), (3, vI v3)] → mGo l p e 5 140 s m args below meth c E (some (vI out.1)) out.2 H locs (F0 m 138 ls [])) : ∀ (n : Nat) (v2 : Int) (v4 : Int) (σ : mSt) (H : Heap) (locs : List Loc) (ls : Array Slot), mX12_closes_L34 v0 v1 v3 x138 n v2 v4 σ = some out → mM (mA E 276) E 276 σ s H locs → lv_has ls 7 [(0, .ref (eA E v0)), (1, vI v1), (2, vI v2), (3, vI v3), (4, vI v4)] → mGo l p e 5 140 s m args below meth c E (some (vI out.1)) out.2 H locs (F0 m 34 ls []) := by
  intro n
  induction n with
  | zero =>
    intro v2 v4 σ H locs ls hm hM hl
    exact absurd hm (by rw [mX12_closes_L34.eq_1]; exact fun h => nomatch h)
  | succ n ih =>
    intro v2 v4 σ H locs ls hm hM hl
    rw [mX12_closes_L34.eq_2] at hm
    refine r_iload (np := 36) G hl 4 rfl dX12_closes_34 rfl ?_
    refine r_iconst (np := 37) G 4 dX12_closes_36 rfl ?_
    refine r_icmp_ge (np := 40) (tgt := 138) G rfl (wIk 4 rfl) dX12_closes_37 (by decide) rfl (fun h27 => ?_) (fun h27 => ?_)
    · have hm := b_t h27 hm
      exact hx138 v2 _ _ _ _ hm hM (lv_sub hl [0, 1, 2, 3] rfl)
    · have hm := b_f h27 hm
      refine r_iload_n (np := 41) G hl 2 rfl dX12_closes_40 rfl rfl ?_
      refine r_if_ne (np := 44) (tgt := 138) G rfl dX12_closes_41 (by decide) rfl (fun h28 => ?_) (fun h28 => ?_)
      · have hm := b_f h28 hm
        exact hx138 v2 _ _ _ _ hm hM (lv_sub hl [0, 1, 2, 3] rfl)
      · have hm := b_t h28 hm
        refine r_aload_n (np := 45) G hl 0 rfl dX12_closes_44 rfl rfl ?_
        refine r_bipush (np := 47) G 8 dX12_closes_45 (by decide) rfl ?_
        refine r_iload_n (np := 48) G hl 3 rfl dX12_closes_47 rfl rfl ?_
        refine r_iconst (np := 49) G 0 dX12_closes_48 rfl ?_
        obtain ⟨b29, s30, e31, hm⟩ := call_t hm
        refine m_callVV (np := 52) G hM hl.1 [vI 8, vI v3, vI 0] (qX12_takesRow l E σ v0 8 v3 0 _ e31) myX12_takesRow (shp_lt (gX12_takesRow e31) (by decide)) (gX12_takesRow e31) rfl (by decide) lkX12_377 ⟨Nat.le_of_ble_eq_true rfl, Nat.le_of_ble_eq_true rfl⟩ ⟨Nat.le_of_ble_eq_true rfl, Nat.le_of_ble_eq_true rfl⟩ [] rfl (Nat.le_of_ble_eq_true rfl) dX12_closes_49 rfl (fun H locs hM => ?_)
        refine r_aload_n (np := 53) G hl 0 rfl dX12_closes_52 rfl rfl ?_
        refine r_bipush (np := 55) G 8 dX12_closes_53 (by decide) rfl ?_
        refine r_iload (np := 57) G hl 4 rfl dX12_closes_55 rfl ?_
        refine r_iconst (np := 58) G 1 dX12_closes_57 rfl ?_
        obtain ⟨b32, s33, e34, hm⟩ := call_t hm
        refine m_callVV (np := 61) G hM hl.1 [vI 8, vI v4, vI 1] (qX12_takesRow l E s30 v0 8 v4 1 _ e34) myX12_takesRow (shp_lt (gX12_takesRow e34) (by decide)) (gX12_takesRow e34) rfl (by decide) lkX12_377 ⟨Nat.le_of_ble_eq_true rfl, Nat.le_of_ble_eq_true rfl⟩ ⟨Nat.le_of_ble_eq_true rfl, Nat.le_of_ble_eq_true rfl⟩ [] rfl (Nat.le_of_ble_eq_true rfl) dX12_closes_58 rfl (fun H locs hM => ?_)
        refine r_aload_n (np := 62) G hl 0 rfl dX12_closes_61 rfl rfl ?_
        refine r_aload_n (np := 63) G hl 0 rfl dX12_closes_62 rfl rfl ?_
        obtain ⟨r35, e36, hm⟩ := ref_t hm
        refine r_getR (np := 66) G hM (shp_lt g0 (by decide)) g0 e36 fdX12_15 lkX12_24 dX12_closes_63 rfl ?_
        refine r_iload_n (np := 67) G hl 1 rfl dX12_closes_66 rfl rfl ?_
        obtain ⟨g37, hm⟩ := g_t hm
        refine r_iaload (np := 68) G hM g37 rfl dX12_closes_67 rfl ?_
        refine r_i2l (np := 69) G rfl dX12_closes_68 rfl ?_
        refine r_aload_n (np := 70) G hl 0 rfl dX12_closes_69 rfl rfl ?_
        obtain ⟨r38, e39, hm⟩ := ref_t hm
        refine r_getR (np := 73) G hM (shp_lt g0 (by decide)) g0 e39 fdX12_16 lkX12_27 dX12_closes_70 rfl ?_
        refine r_iload_n (np := 74) G hl 1 rfl dX12_closes_73 rfl rfl ?_
        obtain ⟨g40, hm⟩ := g_t hm
        refine r_iaload (np := 75) G hM g40 rfl dX12_closes_74 rfl ?_
        refine r_i2l (np := 76) G rfl dX12_closes_75 rfl ?_
        obtain ⟨b41, s42, e43, hm⟩ := call_t hm
        refine m_callVV (np := 79) G hM hl.1 [vL (wI (s33 r35 (wI v1).toNat)), vL (wI (s33 r38 (wI v1).toNat))] (qX12_multiplies l E s33 v0 (wI (s33 r35 (wI v1).toNat)) (wI (s33 r38 (wI v1).toNat)) _ e43) myX12_multiplies (shp_lt (gX12_multiplies e43) (by decide)) (gX12_multiplies e43) rfl (by decide) lkX12_318 ⟨Nat.le_of_ble_eq_true rfl, Nat.le_of_ble_eq_true rfl⟩ ⟨Nat.le_of_ble_eq_true rfl, Nat.le_of_ble_eq_true rfl⟩ [] rfl (Nat.le_of_ble_eq_true rfl) dX12_closes_76 rfl (fun H locs hM => ?_)
        refine r_iconst (np := 80) G 0 dX12_closes_79 rfl ?_
        refine r_istore (np := 82) G hl rfl [(5, vI 0), (0, .ref (eA E v0)), (1, vI v1), (2, vI v2), (3, vI v3), (4, vI v4)] dX12_closes_80 rfl (by decide) rfl (fun ls hl => ?_)
        exact wX12_closes_L82 l E out G hr hk v0 v1 v3 v4 g0 (fun zσ => mX12_closes_B108 v0 v1 v3 (mX12_closes_L34 v0 v1 v3 x138 n) x138 v4 zσ) (fun zσ zH zl zs zm zM zv => wX12_closes_B108 l E out G hr hk v0 v1 v3 g0 (mX12_closes_L34 v0 v1 v3 x138 n) x138 ih hx138 v4 zσ zH zl zs zm zM zv) mF 0 _ _ _ _ hm hM (lv_sub hl [1, 2, 4, 5, 0] rfl)
set_option maxRecDepth 100000 in
set_option maxHeartbeats 4000000 in
theorem wX12_closes_L22 (l : Launch) (E : mE) (out : Int × mSt) {p : Program} {e : Env} {s : State} {m : MethodId} {args : Array Value} {below : List Frame} {meth : Method} {c : Code} (G : CallFix p m c cX12_closes 7 s args mTs RX12) (hr : meth.sig.returnType = (some .boolean)) (hk : meth.locks = false) (v0 : Nat) (v1 : Int) (g0 : isC v0 11) (x144 : Int → mSt → Option (Int × mSt)) (hx144 : ∀ (v2 : Int) (σ : mSt) (H : Heap) (locs : List Loc) (ls : Array Slot), x144 v2 σ = some out → mM (mA E 276) E 276 σ s H locs → lv_has ls 7 [(0, .ref (eA E v0)), (1, vI v1), (2, vI v2)] → mGo l p e 5 140 s m args below meth c E (some (vI out.1)) out.2 H locs (F0 m 144 ls [])) : ∀ (n : Nat) (v2 : Int) (v3 : Int) (σ : mSt) (H : Heap) (locs : List Loc) (ls : Array Slot), mX12_closes_L22 v0 v1 x144 n v2 v3 σ = some out → mM (mA E 276) E 276 σ s H locs → lv_has ls 7 [(0, .ref (eA E v0)), (1, vI v1), (2, vI v2), (3, vI v3)] → mGo l p e 5 140 s m args below meth c E (some (vI out.1)) out.2 H locs (F0 m 22 ls []) := by
  intro n
  induction n with
  | zero =>
    intro v2 v3 σ H locs ls hm hM hl
    exact absurd hm (by rw [mX12_closes_L22.eq_1]; exact fun h => nomatch h)
  | succ n ih =>
    intro v2 v3 σ H locs ls hm hM hl
    rw [mX12_closes_L22.eq_2] at hm
    refine r_iload_n (np := 23) G hl 3 rfl dX12_closes_22 rfl rfl ?_
    refine r_iconst (np := 24) G 4 dX12_closes_23 rfl ?_
    refine r_icmp_ge (np := 27) (tgt := 144) G rfl (wIk 4 rfl) dX12_closes_24 (by decide) rfl (fun h44 => ?_) (fun h44 => ?_)
    · have hm := b_t h44 hm
      exact hx144 v2 _ _ _ _ hm hM (lv_sub hl [0, 1, 2] rfl)
    · have hm := b_f h44 hm
      refine r_iload_n (np := 28) G hl 2 rfl dX12_closes_27 rfl rfl ?_
      refine r_if_ne (np := 31) (tgt := 144) G rfl dX12_closes_28 (by decide) rfl (fun h45 => ?_) (fun h45 => ?_)
      · have hm := b_f h45 hm
        exact hx144 v2 _ _ _ _ hm hM (lv_sub hl [0, 1, 2] rfl)
      · have hm := b_t h45 hm
        refine r_iconst (np := 32) G 0 dX12_closes_31 rfl ?_
        refine r_istore (np := 34) G hl rfl [(4, vI 0), (0, .ref (eA E v0)), (1, vI v1), (2, vI v2), (3, vI v3)] dX12_closes_32 rfl (by decide) rfl (fun ls hl => ?_)
        exact wX12_closes_L34 l E out G hr hk v0 v1 v3 g0 (fun z2 zσ => mX12_closes_B138 v0 v1 (mX12_closes_L22 v0 v1 x144 n) x144 z2 v3 zσ) (fun z2 zσ zH zl zs zm zM zv => wX12_closes_B138 l E out G hr hk v0 v1 g0 (mX12_closes_L22 v0 v1 x144 n) x144 ih hx144 z2 v3 zσ zH zl zs zm zM zv) mF v2 0 _ _ _ _ hm hM (lv_sub hl [1, 2, 3, 4, 0] rfl)
set_option maxRecDepth 100000 in
set_option maxHeartbeats 4000000 in
theorem wX12_closes_L2 (l : Launch) (E : mE) (out : Int × mSt) {p : Program} {e : Env} {s : State} {m : MethodId} {args : Array Value} {below : List Frame} {meth : Method} {c : Code} (G : CallFix p m c cX12_closes 7 s args mTs RX12) (hr : meth.sig.returnType = (some .boolean)) (hk : meth.locks = false) (v0 : Nat) (v1 : Int) (g0 : isC v0 11) (x147 : mSt → Option (Int × mSt)) (hx147 : ∀ (σ : mSt) (H : Heap) (locs : List Loc) (ls : Array Slot), x147 σ = some out → mM (mA E 276) E 276 σ s H locs → lv_has ls 7 [] → mGo l p e 5 140 s m args below meth c E (some (vI out.1)) out.2 H locs (F0 m 147 ls [])) : ∀ (n : Nat) (v2 : Int) (σ : mSt) (H : Heap) (locs : List Loc) (ls : Array Slot), mX12_closes_L2 v0 v1 x147 n v2 σ = some out → mM (mA E 276) E 276 σ s H locs → lv_has ls 7 [(0, .ref (eA E v0)), (1, vI v1), (2, vI v2)] → mGo l p e 5 140 s m args below meth c E (some (vI out.1)) out.2 H locs (F0 m 2 ls []) := by
  intro n
  induction n with
  | zero =>
    intro v2 σ H locs ls hm hM hl
    exact absurd hm (by rw [mX12_closes_L2.eq_1]; exact fun h => nomatch h)
  | succ n ih =>
    intro v2 σ H locs ls hm hM hl
    rw [mX12_closes_L2.eq_2] at hm
    refine r_iload_n (np := 3) G hl 2 rfl dX12_closes_2 rfl rfl ?_
    refine r_if_eq (np := 6) (tgt := 147) G rfl dX12_closes_3 (by decide) rfl (fun h46 => ?_) (fun h46 => ?_)
    · have hm := b_t h46 hm
      exact hx147 _ _ _ _ hm hM (lv_sub hl [] rfl)
    · have hm := b_f h46 hm
      refine r_aload_n (np := 7) G hl 0 rfl dX12_closes_6 rfl rfl ?_
      refine r_bipush (np := 9) G 8 dX12_closes_7 (by decide) rfl ?_
      refine r_iload_n (np := 10) G hl 1 rfl dX12_closes_9 rfl rfl ?_
      obtain ⟨b47, s48, e49, hm⟩ := call_t hm
      refine m_callVI (np := 13) G hM hl.1 [vI 8, vI v1] (qX12_isWhole l E σ v0 8 v1 _ e49) myX12_isWhole (shp_lt (gX12_isWhole e49) (by decide)) (gX12_isWhole e49) rfl (by decide) lkX12_381 ⟨Nat.le_of_ble_eq_true rfl, Nat.le_of_ble_eq_true rfl⟩ ⟨Nat.le_of_ble_eq_true rfl, Nat.le_of_ble_eq_true rfl⟩ [] rfl (Nat.le_of_ble_eq_true rfl) dX12_closes_10 rfl (fun H locs hM => ?_)
      refine r_if_ne (np := 16) (tgt := 18) G rfl dX12_closes_13 (by decide) rfl (fun h50 => ?_) (fun h50 => ?_)
      · have hm := b_f h50 hm
        refine r_iconst (np := 19) G 0 dX12_closes_18 rfl ?_
        refine r_istore_n (np := 20) G hl rfl [(2, vI 0), (0, .ref (eA E v0)), (1, vI v1)] dX12_closes_19 rfl rfl (by decide) rfl (fun ls hl => ?_)
        refine r_iconst (np := 21) G 0 dX12_closes_20 rfl ?_
        refine r_istore_n (np := 22) G hl rfl [(3, vI 0), (2, vI 0), (0, .ref (eA E v0)), (1, vI v1)] dX12_closes_21 rfl rfl (by decide) rfl (fun ls hl => ?_)
        exact wX12_closes_L22 l E out G hr hk v0 v1 g0 (fun z2 zσ => mX12_closes_B144 v0 v1 (mX12_closes_L2 v0 v1 x147 n) x147 z2 zσ) (fun z2 zσ zH zl zs zm zM zv => wX12_closes_B144 l E out G hr hk v0 v1 g0 (mX12_closes_L2 v0 v1 x147 n) x147 ih hx147 z2 zσ zH zl zs zm zM zv) mF 0 0 _ _ _ _ hm hM (lv_sub hl [2, 3, 1, 0] rfl)
      · have hm := b_t h50 hm
        refine r_iconst (np := 17) G 0 dX12_closes_16 rfl ?_
        exact r_zret G hr hk hM (Or.inl rfl) hm dX12_closes_17
set_option maxRecDepth 100000 in
set_option maxHeartbeats 4000000 in
theorem qX12_closes (l : Launch) (E : mE) (σ : mSt) (v0 : Nat) (v1 : Int) (out : Int × mSt) (hm : mX12_closes v0 v1 σ = some out) : mMet l yX12_closes cX12_closes 7 (some .boolean) 5 140 E 276 [.ref (eA E v0), vI v1] σ (some (vI out.1)) out.2 := by
  unfold mX12_closes at hm
  obtain ⟨g0, hm⟩ := g_t hm
  refine m_entry (by decide +kernel) (Nat.le_of_ble_eq_true rfl) (fun p e s m args below meth c G hr hk hM ls hl => ?_)
  have G : CallFix p m c cX12_closes 7 s args mTs RX12 := G
  have hl : lv_has ls 7 [(0, .ref (eA E v0)), (1, vI v1)] := hl
  refine r_iconst (np := 1) G 1 dX12_closes_0 rfl ?_
  refine r_istore_n (np := 2) G hl rfl [(2, vI 1), (0, .ref (eA E v0)), (1, vI v1)] dX12_closes_1 rfl rfl (by decide) rfl (fun ls hl => ?_)
  exact wX12_closes_L2 l E out G hr hk v0 v1 g0 (fun zσ => mX12_closes_B147 v0 v1 zσ) (fun zσ zH zl zs zm zM zv => wX12_closes_B147 l E out G hr hk v0 v1 g0 zσ zH zl zs zm zM zv) mF 1 _ _ _ _ hm hM (lv_sub hl [1, 2, 0] rfl)
theorem gX12_closes {v0 : Nat} {v1 : Int} {σ : mSt} {out : Int × mSt} (hm : mX12_closes v0 v1 σ = some out) : isC v0 11 := (g_t hm).1
set_option maxRecDepth 100000 in
set_option maxHeartbeats 4000000 in
theorem wX12_discOf_B94 (l : Launch) (E : mE) (out : Int × mSt) {p : Program} {e : Env} {s : State} {m : MethodId} {args : Array Value} {below : List Frame} {meth : Method} {c : Code} (G : CallFix p m c cX12_discOf 10 s args mTs RX12) (hr : meth.sig.returnType = (some .int)) (hk : meth.locks = false) (v0 : Nat) (v1 : Int) (v2 : Int) (g0 : isC v0 11) : ∀ (v3 : Int) (v5 : Int) (σ : mSt) (H : Heap) (locs : List Loc) (ls : Array Slot), mX12_discOf_B94 v0 v1 v2 v3 v5 σ = some out → mM (mA E 276) E 276 σ s H locs → lv_has ls 10 [(3, vL v3), (5, vL v5)] → mGo l p e 1 29 s m args below meth c E (some (vI out.1)) out.2 H locs (F0 m 94 ls []) := by
  intro v3 v5 σ H locs ls hm hM hl
  unfold mX12_discOf_B94 at hm
  refine r_lload_n (np := 95) G hl 0 rfl dX12_discOf_94 rfl rfl ?_
  refine r_lload (np := 97) G hl 1 rfl dX12_discOf_95 rfl ?_
  obtain ⟨g1, hm⟩ := g_t hm
  refine r_ldiv (np := 98) G g1 dX12_discOf_97 rfl ?_
  refine r_l2i (np := 99) G dX12_discOf_98 rfl ?_
  exact r_iret G hr hk hM hm dX12_discOf_99
set_option maxRecDepth 100000 in
set_option maxHeartbeats 4000000 in
theorem wX12_discOf_L39 (l : Launch) (E : mE) (out : Int × mSt) {p : Program} {e : Env} {s : State} {m : MethodId} {args : Array Value} {below : List Frame} {meth : Method} {c : Code} (G : CallFix p m c cX12_discOf 10 s args mTs RX12) (hr : meth.sig.returnType = (some .int)) (hk : meth.locks = false) (v0 : Nat) (v1 : Int) (v2 : Int) (g0 : isC v0 11) (x94 : Int → Int → mSt → Option (Int × mSt)) (hx94 : ∀ (v3 : Int) (v5 : Int) (σ : mSt) (H : Heap) (locs : List Loc) (ls : Array Slot), x94 v3 v5 σ = some out → mM (mA E 276) E 276 σ s H locs → lv_has ls 10 [(3, vL v3), (5, vL v5)] → mGo l p e 1 29 s m args below meth c E (some (vI out.1)) out.2 H locs (F0 m 94 ls [])) : ∀ (n : Nat) (v3 : Int) (v5 : Int) (v7 : Int) (σ : mSt) (H : Heap) (locs : List Loc) (ls : Array Slot), mX12_discOf_L39 v0 v1 v2 x94 n v3 v5 v7 σ = some out → mM (mA E 276) E 276 σ s H locs → lv_has ls 10 [(0, .ref (eA E v0)), (1, vI v1), (3, vL v3), (5, vL v5), (7, vI v7)] → mGo l p e 1 29 s m args below meth c E (some (vI out.1)) out.2 H locs (F0 m 39 ls []) := by
  intro n
  induction n with
  | zero =>
    intro v3 v5 v7 σ H locs ls hm hM hl
    exact absurd hm (by rw [mX12_discOf_L39.eq_1]; exact fun h => nomatch h)
  | succ n ih =>
    intro v3 v5 v7 σ H locs ls hm hM hl
    rw [mX12_discOf_L39.eq_2] at hm
    refine r_iload (np := 41) G hl 4 rfl dX12_discOf_39 rfl ?_
    refine r_iconst (np := 42) G 4 dX12_discOf_41 rfl ?_
    refine r_icmp_ge (np := 45) (tgt := 94) G rfl (wIk 4 rfl) dX12_discOf_42 (by decide) rfl (fun h2 => ?_) (fun h2 => ?_)
    · have hm := b_t h2 hm
      exact hx94 v3 v5 _ _ _ _ hm hM (lv_sub hl [2, 3] rfl)
    · have hm := b_f h2 hm
      refine r_lload_n (np := 46) G hl 2 rfl dX12_discOf_45 rfl rfl ?_
      refine r_aload_n (np := 47) G hl 0 rfl dX12_discOf_46 rfl rfl ?_
      refine r_iload_n (np := 48) G hl 1 rfl dX12_discOf_47 rfl rfl ?_
      refine r_iload (np := 50) G hl 4 rfl dX12_discOf_48 rfl ?_
      refine r_iload (np := 52) G hl 4 rfl dX12_discOf_50 rfl ?_
      obtain ⟨b3, s4, e5, hm⟩ := call_t hm
      refine m_callVL (np := 55) G hM hl.1 [vI v1, vI v7, vI v7] (qX12_get l E σ v0 v1 v7 v7 _ e5) myX12_get (shp_lt (gX12_get e5) (by decide)) (gX12_get e5) rfl (by decide) lkX12_355 ⟨Nat.le_of_ble_eq_true rfl, Nat.le_of_ble_eq_true rfl⟩ ⟨Nat.le_of_ble_eq_true rfl, Nat.le_of_ble_eq_true rfl⟩ [vL v3] rfl (Nat.le_of_ble_eq_true rfl) dX12_discOf_52 rfl (fun H locs hM => ?_)
      refine r_lmul (np := 56) G dX12_discOf_55 rfl ?_
      obtain ⟨a6, e7, hm⟩ := bnd_t hm
      refine r_lstore_n (np := 57) G hl e7 [(3, vL a6), (0, .ref (eA E v0)), (1, vI v1), (5, vL v5), (7, vI v7)] dX12_discOf_56 rfl rfl (by decide) rfl (fun ls hl => ?_)
      refine r_lload (np := 59) G hl 3 rfl dX12_discOf_57 rfl ?_
      refine r_aload_n (np := 60) G hl 1 rfl dX12_discOf_59 rfl rfl ?_
      obtain ⟨r8, e9, hm⟩ := ref_t hm
      refine r_getR (np := 63) G hM (shp_lt g0 (by decide)) g0 e9 fdX12_30 lkX12_60 dX12_discOf_60 rfl ?_
      refine r_iload_n (np := 64) G hl 2 rfl dX12_discOf_63 rfl rfl ?_
      obtain ⟨g10, hm⟩ := g_t hm
      refine r_laload (np := 65) G hM g10 rfl dX12_discOf_64 rfl ?_
      refine r_lmul (np := 66) G dX12_discOf_65 rfl ?_
      obtain ⟨a11, e12, hm⟩ := bnd_t hm
      refine r_lstore (np := 68) G hl e12 [(5, vL a11), (3, vL a6), (0, .ref (eA E v0)), (1, vI v1), (7, vI v7)] dX12_discOf_66 rfl (by decide) rfl (fun ls hl => ?_)
      refine r_lload_n (np := 69) G hl 1 rfl dX12_discOf_68 rfl rfl ?_
      refine r_lload (np := 71) G hl 0 rfl dX12_discOf_69 rfl ?_
      obtain ⟨b13, s14, e15, hm⟩ := call_t hm
      refine m_callSL (np := 74) G hM hl.1 [vL a6, vL a11] (qX12_common l E s4 a6 a11 _ e15) myX12_common lkX12_280 ⟨Nat.le_of_ble_eq_true rfl, Nat.le_of_ble_eq_true rfl⟩ ⟨Nat.le_of_ble_eq_true rfl, Nat.le_of_ble_eq_true rfl⟩ [] rfl (Nat.le_of_ble_eq_true rfl) dX12_discOf_71 rfl (fun H locs hM => ?_)
      refine r_lstore (np := 76) G hl rfl [(8, vL b13), (5, vL a11), (3, vL a6), (0, .ref (eA E v0)), (1, vI v1), (7, vI v7)] dX12_discOf_74 rfl (by decide) rfl (fun ls hl => ?_)
      refine r_lload_n (np := 77) G hl 2 rfl dX12_discOf_76 rfl rfl ?_
      refine r_lload (np := 79) G hl 0 rfl dX12_discOf_77 rfl ?_
      obtain ⟨g16, hm⟩ := g_t hm
      refine r_ldiv (np := 80) G g16 dX12_discOf_79 rfl ?_
      obtain ⟨a17, e18, hm⟩ := bnd_t hm
      refine r_lstore_n (np := 81) G hl e18 [(3, vL a17), (8, vL b13), (5, vL a11), (0, .ref (eA E v0)), (1, vI v1), (7, vI v7)] dX12_discOf_80 rfl rfl (by decide) rfl (fun ls hl => ?_)
      refine r_lload (np := 83) G hl 2 rfl dX12_discOf_81 rfl ?_
      refine r_lload (np := 85) G hl 1 rfl dX12_discOf_83 rfl ?_
      refine r_ldiv (np := 86) G g16 dX12_discOf_85 rfl ?_
      obtain ⟨a19, e20, hm⟩ := bnd_t hm
      refine r_lstore (np := 88) G hl e20 [(5, vL a19), (3, vL a17), (8, vL b13), (0, .ref (eA E v0)), (1, vI v1), (7, vI v7)] dX12_discOf_86 rfl (by decide) rfl (fun ls hl => ?_)
      obtain ⟨a21, e22, hm⟩ := bnd_t hm
      refine r_iinc (np := 91) G hl 5 rfl e22 [(7, vI a21), (5, vL a19), (3, vL a17), (8, vL b13), (0, .ref (eA E v0)), (1, vI v1)] dX12_discOf_88 rfl (by decide) rfl (fun ls hl => ?_)
      refine r_goto (np := 39) G dX12_discOf_91 (by decide) ?_
      exact ih a17 a19 a21 _ _ _ _ hm hM (lv_sub hl [4, 5, 2, 1, 0] rfl)
set_option maxRecDepth 100000 in
set_option maxHeartbeats 4000000 in
theorem wX12_discOf_B32 (l : Launch) (E : mE) (out : Int × mSt) {p : Program} {e : Env} {s : State} {m : MethodId} {args : Array Value} {below : List Frame} {meth : Method} {c : Code} (G : CallFix p m c cX12_discOf 10 s args mTs RX12) (hr : meth.sig.returnType = (some .int)) (hk : meth.locks = false) (v0 : Nat) (v1 : Int) (v2 : Int) (g0 : isC v0 11) : ∀ (t0 : Int) (σ : mSt) (H : Heap) (locs : List Loc) (ls : Array Slot), mX12_discOf_B32 v0 v1 v2 t0 σ = some out → mM (mA E 276) E 276 σ s H locs → lv_has ls 10 [(0, .ref (eA E v0)), (1, vI v1)] → mGo l p e 1 29 s m args below meth c E (some (vI out.1)) out.2 H locs (F0 m 32 ls [vL t0]) := by
  intro t0 σ H locs ls hm hM hl
  unfold mX12_discOf_B32 at hm
  refine r_lstore_n (np := 33) G hl rfl [(3, vL t0), (0, .ref (eA E v0)), (1, vI v1)] dX12_discOf_32 rfl rfl (by decide) rfl (fun ls hl => ?_)
  refine r_lconst (np := 34) G 1 dX12_discOf_33 rfl rfl ?_
  refine r_lstore (np := 36) G hl rfl [(5, vL 1), (3, vL t0), (0, .ref (eA E v0)), (1, vI v1)] dX12_discOf_34 rfl (by decide) rfl (fun ls hl => ?_)
  refine r_iconst (np := 37) G 0 dX12_discOf_36 rfl ?_
  refine r_istore (np := 39) G hl rfl [(7, vI 0), (5, vL 1), (3, vL t0), (0, .ref (eA E v0)), (1, vI v1)] dX12_discOf_37 rfl (by decide) rfl (fun ls hl => ?_)
  exact wX12_discOf_L39 l E out G hr hk v0 v1 v2 g0 (fun z3 z5 zσ => mX12_discOf_B94 v0 v1 v2 z3 z5 zσ) (fun z3 z5 zσ zH zl zs zm zM zv => wX12_discOf_B94 l E out G hr hk v0 v1 v2 g0 z3 z5 zσ zH zl zs zm zM zv) mF t0 1 0 _ _ _ _ hm hM (lv_sub hl [3, 4, 2, 1, 0] rfl)
set_option maxRecDepth 100000 in
set_option maxHeartbeats 4000000 in
theorem qX12_discOf (l : Launch) (E : mE) (σ : mSt) (v0 : Nat) (v1 : Int) (v2 : Int) (out : Int × mSt) (hm : mX12_discOf v0 v1 v2 σ = some out) : mMet l yX12_discOf cX12_discOf 10 (some .int) 1 29 E 276 [.ref (eA E v0), vI v1, vI v2] σ (some (vI out.1)) out.2 := by
  unfold mX12_discOf at hm
  obtain ⟨g0, hm⟩ := g_t hm
  refine m_entry (by decide +kernel) (Nat.le_of_ble_eq_true rfl) (fun p e s m args below meth c G hr hk hM ls hl => ?_)
  have G : CallFix p m c cX12_discOf 10 s args mTs RX12 := G
  have hl : lv_has ls 10 [(0, .ref (eA E v0)), (1, vI v1), (2, vI v2)] := hl
  refine r_ldc2 (np := 3) G 4 dX12_discOf_0 lkX12_391 rfl rfl ?_
  refine r_aload_n (np := 4) G hl 0 rfl dX12_discOf_3 rfl rfl ?_
  obtain ⟨r23, e24, hm⟩ := ref_t hm
  refine r_getR (np := 7) G hM (shp_lt g0 (by decide)) g0 e24 fdX12_15 lkX12_24 dX12_discOf_4 rfl ?_
  refine r_iload_n (np := 8) G hl 2 rfl dX12_discOf_7 rfl rfl ?_
  obtain ⟨g25, hm⟩ := g_t hm
  refine r_iaload (np := 9) G hM g25 rfl dX12_discOf_8 rfl ?_
  refine r_i2l (np := 10) G rfl dX12_discOf_9 rfl ?_
  refine r_lmul (np := 11) G dX12_discOf_10 rfl ?_
  refine r_aload_n (np := 12) G hl 0 rfl dX12_discOf_11 rfl rfl ?_
  obtain ⟨r26, e27, hm⟩ := ref_t hm
  refine r_getR (np := 15) G hM (shp_lt g0 (by decide)) g0 e27 fdX12_16 lkX12_27 dX12_discOf_12 rfl ?_
  refine r_iload_n (np := 16) G hl 2 rfl dX12_discOf_15 rfl rfl ?_
  obtain ⟨g28, hm⟩ := g_t hm
  refine r_iaload (np := 17) G hM g28 rfl dX12_discOf_16 rfl ?_
  refine r_i2l (np := 18) G rfl dX12_discOf_17 rfl ?_
  refine r_lmul (np := 19) G dX12_discOf_18 rfl ?_
  obtain ⟨a29, e30, hm⟩ := bnd_t hm
  refine r_lstore_n (np := 20) G hl e30 [(3, vL a29), (0, .ref (eA E v0)), (1, vI v1), (2, vI v2)] dX12_discOf_19 rfl rfl (by decide) rfl (fun ls hl => ?_)
  refine r_lload_n (np := 21) G hl 0 rfl dX12_discOf_20 rfl rfl ?_
  refine r_lconst (np := 22) G 0 dX12_discOf_21 rfl rfl ?_
  refine r_lcmp_ge (np := 26) (tgt := 31) G rfl (wLk 0 rfl) dX12_discOf_22 dX12_discOf_23 (by decide) rfl (fun h31 => ?_) (fun h31 => ?_)
  · have hm := b_t h31 hm
    refine r_lload_n (np := 32) G hl 0 rfl dX12_discOf_31 rfl rfl ?_
    exact wX12_discOf_B32 l E out G hr hk v0 v1 v2 g0 a29 _ _ _ _ hm hM (lv_sub hl [1, 2] rfl)
  · have hm := b_f h31 hm
    refine r_lload_n (np := 27) G hl 0 rfl dX12_discOf_26 rfl rfl ?_
    refine r_lneg (np := 28) G dX12_discOf_27 rfl ?_
    refine r_goto (np := 32) G dX12_discOf_28 (by decide) ?_
    exact wX12_discOf_B32 l E out G hr hk v0 v1 v2 g0 (-a29) _ _ _ _ hm hM (lv_sub hl [1, 2] rfl)
theorem gX12_discOf {v0 : Nat} {v1 : Int} {v2 : Int} {σ : mSt} {out : Int × mSt} (hm : mX12_discOf v0 v1 v2 σ = some out) : isC v0 11 := (g_t hm).1
set_option maxRecDepth 100000 in
set_option maxHeartbeats 4000000 in
theorem wX12_dueOf_B27 (l : Launch) (E : mE) (out : Int × mSt) {p : Program} {e : Env} {s : State} {m : MethodId} {args : Array Value} {below : List Frame} {meth : Method} {c : Code} (G : CallFix p m c cX12_dueOf 4 s args mTs RX12) (hr : meth.sig.returnType = (some .int)) (hk : meth.locks = false) (v0 : Nat) (v1 : Int) (g0 : isC v0 11) : ∀ (v2 : Int) (σ : mSt) (H : Heap) (locs : List Loc) (ls : Array Slot), mX12_dueOf_B27 v0 v1 v2 σ = some out → mM (mA E 276) E 276 σ s H locs → lv_has ls 4 [(2, vI v2)] → mGo l p e 16 390 s m args below meth c E (some (vI out.1)) out.2 H locs (F0 m 27 ls []) := by
  intro v2 σ H locs ls hm hM hl
  unfold mX12_dueOf_B27 at hm
  refine r_iload_n (np := 28) G hl 0 rfl dX12_dueOf_27 rfl rfl ?_
  exact r_iret G hr hk hM hm dX12_dueOf_28
set_option maxRecDepth 100000 in
set_option maxHeartbeats 4000000 in
theorem wX12_dueOf_L9 (l : Launch) (E : mE) (out : Int × mSt) {p : Program} {e : Env} {s : State} {m : MethodId} {args : Array Value} {below : List Frame} {meth : Method} {c : Code} (G : CallFix p m c cX12_dueOf 4 s args mTs RX12) (hr : meth.sig.returnType = (some .int)) (hk : meth.locks = false) (v0 : Nat) (v1 : Int) (g0 : isC v0 11) (x27 : Int → mSt → Option (Int × mSt)) (hx27 : ∀ (v2 : Int) (σ : mSt) (H : Heap) (locs : List Loc) (ls : Array Slot), x27 v2 σ = some out → mM (mA E 276) E 276 σ s H locs → lv_has ls 4 [(2, vI v2)] → mGo l p e 16 390 s m args below meth c E (some (vI out.1)) out.2 H locs (F0 m 27 ls [])) : ∀ (n : Nat) (v2 : Int) (v3 : Int) (σ : mSt) (H : Heap) (locs : List Loc) (ls : Array Slot), mX12_dueOf_L9 v0 v1 x27 n v2 v3 σ = some out → mM (mA E 276) E 276 σ s H locs → lv_has ls 4 [(0, .ref (eA E v0)), (1, vI v1), (2, vI v2), (3, vI v3)] → mGo l p e 16 390 s m args below meth c E (some (vI out.1)) out.2 H locs (F0 m 9 ls []) := by
  intro n
  induction n with
  | zero =>
    intro v2 v3 σ H locs ls hm hM hl
    exact absurd hm (by rw [mX12_dueOf_L9.eq_1]; exact fun h => nomatch h)
  | succ n ih =>
    intro v2 v3 σ H locs ls hm hM hl
    rw [mX12_dueOf_L9.eq_2] at hm
    refine r_iload_n (np := 10) G hl 3 rfl dX12_dueOf_9 rfl rfl ?_
    refine r_if_lt (np := 13) (tgt := 27) G rfl dX12_dueOf_10 (by decide) rfl (fun h1 => ?_) (fun h1 => ?_)
    · have hm := b_t h1 hm
      exact hx27 v2 _ _ _ _ hm hM (lv_sub hl [2] rfl)
    · have hm := b_f h1 hm
      refine r_iload_n (np := 14) G hl 2 rfl dX12_dueOf_13 rfl rfl ?_
      refine r_iload_n (np := 15) G hl 3 rfl dX12_dueOf_14 rfl rfl ?_
      refine r_imul (np := 16) G dX12_dueOf_15 rfl ?_
      obtain ⟨a2, e3, hm⟩ := bnd_t hm
      refine r_istore_n (np := 17) G hl e3 [(2, vI a2), (0, .ref (eA E v0)), (1, vI v1), (3, vI v3)] dX12_dueOf_16 rfl rfl (by decide) rfl (fun ls hl => ?_)
      refine r_aload_n (np := 18) G hl 1 rfl dX12_dueOf_17 rfl rfl ?_
      refine r_iload_n (np := 19) G hl 2 rfl dX12_dueOf_18 rfl rfl ?_
      refine r_iload_n (np := 20) G hl 3 rfl dX12_dueOf_19 rfl rfl ?_
      obtain ⟨b4, s5, e6, hm⟩ := call_t hm
      refine m_callVI (np := 23) G hM hl.1 [vI v1, vI v3] (qX12_placeBehind l E σ v0 v1 v3 _ e6) myX12_placeBehind (shp_lt (gX12_placeBehind e6) (by decide)) (gX12_placeBehind e6) rfl (by decide) lkX12_268 ⟨Nat.le_of_ble_eq_true rfl, Nat.le_of_ble_eq_true rfl⟩ ⟨Nat.le_of_ble_eq_true rfl, Nat.le_of_ble_eq_true rfl⟩ [] rfl (Nat.le_of_ble_eq_true rfl) dX12_dueOf_20 rfl (fun H locs hM => ?_)
      refine r_istore_n (np := 24) G hl rfl [(3, vI b4), (2, vI a2), (0, .ref (eA E v0)), (1, vI v1)] dX12_dueOf_23 rfl rfl (by decide) rfl (fun ls hl => ?_)
      refine r_goto (np := 9) G dX12_dueOf_24 (by decide) ?_
      exact ih a2 b4 _ _ _ _ hm hM (lv_sub hl [2, 3, 1, 0] rfl)
set_option maxRecDepth 100000 in
set_option maxHeartbeats 4000000 in
theorem qX12_dueOf (l : Launch) (E : mE) (σ : mSt) (v0 : Nat) (v1 : Int) (out : Int × mSt) (hm : mX12_dueOf v0 v1 σ = some out) : mMet l yX12_dueOf cX12_dueOf 4 (some .int) 16 390 E 276 [.ref (eA E v0), vI v1] σ (some (vI out.1)) out.2 := by
  unfold mX12_dueOf at hm
  obtain ⟨g0, hm⟩ := g_t hm
  refine m_entry (by decide +kernel) (Nat.le_of_ble_eq_true rfl) (fun p e s m args below meth c G hr hk hM ls hl => ?_)
  have G : CallFix p m c cX12_dueOf 4 s args mTs RX12 := G
  have hl : lv_has ls 4 [(0, .ref (eA E v0)), (1, vI v1)] := hl
  refine r_iconst (np := 1) G 1 dX12_dueOf_0 rfl ?_
  refine r_istore_n (np := 2) G hl rfl [(2, vI 1), (0, .ref (eA E v0)), (1, vI v1)] dX12_dueOf_1 rfl rfl (by decide) rfl (fun ls hl => ?_)
  refine r_aload_n (np := 3) G hl 1 rfl dX12_dueOf_2 rfl rfl ?_
  refine r_iload_n (np := 4) G hl 2 rfl dX12_dueOf_3 rfl rfl ?_
  refine r_iconst (np := 5) G 0 dX12_dueOf_4 rfl ?_
  obtain ⟨b7, s8, e9, hm⟩ := call_t hm
  refine m_callVI (np := 8) G hM hl.1 [vI v1, vI 0] (qX12_placeBehind l E σ v0 v1 0 _ e9) myX12_placeBehind (shp_lt (gX12_placeBehind e9) (by decide)) (gX12_placeBehind e9) rfl (by decide) lkX12_268 ⟨Nat.le_of_ble_eq_true rfl, Nat.le_of_ble_eq_true rfl⟩ ⟨Nat.le_of_ble_eq_true rfl, Nat.le_of_ble_eq_true rfl⟩ [] rfl (Nat.le_of_ble_eq_true rfl) dX12_dueOf_5 rfl (fun H locs hM => ?_)
  refine r_istore_n (np := 9) G hl rfl [(3, vI b7), (2, vI 1), (0, .ref (eA E v0)), (1, vI v1)] dX12_dueOf_8 rfl rfl (by decide) rfl (fun ls hl => ?_)
  exact wX12_dueOf_L9 l E out G hr hk v0 v1 g0 (fun z2 zσ => mX12_dueOf_B27 v0 v1 z2 zσ) (fun z2 zσ zH zl zs zm zM zv => wX12_dueOf_B27 l E out G hr hk v0 v1 g0 z2 zσ zH zl zs zm zM zv) mF 1 b7 _ _ _ _ hm hM (lv_sub hl [2, 3, 1, 0] rfl)
theorem gX12_dueOf {v0 : Nat} {v1 : Int} {σ : mSt} {out : Int × mSt} (hm : mX12_dueOf v0 v1 σ = some out) : isC v0 11 := (g_t hm).1
set_option maxRecDepth 100000 in
set_option maxHeartbeats 4000000 in
theorem qX12_disc (l : Launch) (E : mE) (σ : mSt) (v0 : Nat) (v1 : Int) (out : Int × mSt) (hm : mX12_disc v0 v1 σ = some out) : mMet l yX12_disc cX12_disc 2 (some .int) 3 67 E 276 [.ref (eA E v0), vI v1] σ (some (vI out.1)) out.2 := by
  unfold mX12_disc at hm
  obtain ⟨g0, hm⟩ := g_t hm
  refine m_entry (by decide +kernel) (Nat.le_of_ble_eq_true rfl) (fun p e s m args below meth c G hr hk hM ls hl => ?_)
  have G : CallFix p m c cX12_disc 2 s args mTs RX12 := G
  have hl : lv_has ls 2 [(0, .ref (eA E v0)), (1, vI v1)] := hl
  refine r_aload_n (np := 1) G hl 0 rfl dX12_disc_0 rfl rfl ?_
  refine r_iconst (np := 2) G 0 dX12_disc_1 rfl ?_
  obtain ⟨s1, e2, hm⟩ := bnd_t hm
  refine r_putI (np := 5) G hM (shp_lt g0 (by decide)) g0 ptX12_0 rfl lkX12_75 s1 e2 dX12_disc_2 rfl (fun H locs hM => ?_)
  refine r_aload_n (np := 6) G hl 0 rfl dX12_disc_5 rfl rfl ?_
  refine r_iload_n (np := 7) G hl 1 rfl dX12_disc_6 rfl rfl ?_
  obtain ⟨b3, s4, e5, hm⟩ := call_t hm
  refine m_callVI (np := 10) G hM hl.1 [vI v1] (qX12_isQuaternion l E s1 v0 v1 _ e5) myX12_isQuaternion (shp_lt (gX12_isQuaternion e5) (by decide)) (gX12_isQuaternion e5) rfl (by decide) lkX12_288 ⟨Nat.le_of_ble_eq_true rfl, Nat.le_of_ble_eq_true rfl⟩ ⟨Nat.le_of_ble_eq_true rfl, Nat.le_of_ble_eq_true rfl⟩ [] rfl (Nat.le_of_ble_eq_true rfl) dX12_disc_7 rfl (fun H locs hM => ?_)
  refine r_if_eq (np := 13) (tgt := 22) G rfl dX12_disc_10 (by decide) rfl (fun h6 => ?_) (fun h6 => ?_)
  · have hm := b_t h6 hm
    refine r_iconst (np := 23) G (-1) dX12_disc_22 rfl ?_
    exact r_iret G hr hk hM hm dX12_disc_23
  · have hm := b_f h6 hm
    refine r_aload_n (np := 14) G hl 0 rfl dX12_disc_13 rfl rfl ?_
    refine r_iload_n (np := 15) G hl 1 rfl dX12_disc_14 rfl rfl ?_
    refine r_iload_n (np := 16) G hl 1 rfl dX12_disc_15 rfl rfl ?_
    obtain ⟨b7, s8, e9, hm⟩ := call_t hm
    refine m_callVI (np := 19) G hM hl.1 [vI v1, vI v1] (qX12_discOf l E s4 v0 v1 v1 _ e9) myX12_discOf (shp_lt (gX12_discOf e9) (by decide)) (gX12_discOf e9) rfl (by decide) lkX12_393 ⟨Nat.le_of_ble_eq_true rfl, Nat.le_of_ble_eq_true rfl⟩ ⟨Nat.le_of_ble_eq_true rfl, Nat.le_of_ble_eq_true rfl⟩ [] rfl (Nat.le_of_ble_eq_true rfl) dX12_disc_16 rfl (fun H locs hM => ?_)
    refine r_goto (np := 23) G dX12_disc_19 (by decide) ?_
    exact r_iret G hr hk hM hm dX12_disc_23
theorem gX12_disc {v0 : Nat} {v1 : Int} {σ : mSt} {out : Int × mSt} (hm : mX12_disc v0 v1 σ = some out) : isC v0 11 := (g_t hm).1
set_option maxRecDepth 100000 in
set_option maxHeartbeats 4000000 in
theorem qX12_due (l : Launch) (E : mE) (σ : mSt) (v0 : Nat) (v1 : Int) (out : Int × mSt) (hm : mX12_due v0 v1 σ = some out) : mMet l yX12_due cX12_due 2 (some .int) 17 413 E 276 [.ref (eA E v0), vI v1] σ (some (vI out.1)) out.2 := by
  unfold mX12_due at hm
  obtain ⟨g0, hm⟩ := g_t hm
  refine m_entry (by decide +kernel) (Nat.le_of_ble_eq_true rfl) (fun p e s m args below meth c G hr hk hM ls hl => ?_)
  have G : CallFix p m c cX12_due 2 s args mTs RX12 := G
  have hl : lv_has ls 2 [(0, .ref (eA E v0)), (1, vI v1)] := hl
  refine r_aload_n (np := 1) G hl 0 rfl dX12_due_0 rfl rfl ?_
  refine r_iconst (np := 2) G 0 dX12_due_1 rfl ?_
  obtain ⟨s1, e2, hm⟩ := bnd_t hm
  refine r_putI (np := 5) G hM (shp_lt g0 (by decide)) g0 ptX12_0 rfl lkX12_75 s1 e2 dX12_due_2 rfl (fun H locs hM => ?_)
  refine r_aload_n (np := 6) G hl 0 rfl dX12_due_5 rfl rfl ?_
  refine r_iload_n (np := 7) G hl 1 rfl dX12_due_6 rfl rfl ?_
  obtain ⟨b3, s4, e5, hm⟩ := call_t hm
  refine m_callVI (np := 10) G hM hl.1 [vI v1] (qX12_isQuaternion l E s1 v0 v1 _ e5) myX12_isQuaternion (shp_lt (gX12_isQuaternion e5) (by decide)) (gX12_isQuaternion e5) rfl (by decide) lkX12_288 ⟨Nat.le_of_ble_eq_true rfl, Nat.le_of_ble_eq_true rfl⟩ ⟨Nat.le_of_ble_eq_true rfl, Nat.le_of_ble_eq_true rfl⟩ [] rfl (Nat.le_of_ble_eq_true rfl) dX12_due_7 rfl (fun H locs hM => ?_)
  refine r_if_eq (np := 13) (tgt := 21) G rfl dX12_due_10 (by decide) rfl (fun h6 => ?_) (fun h6 => ?_)
  · have hm := b_t h6 hm
    refine r_iconst (np := 22) G (-1) dX12_due_21 rfl ?_
    exact r_iret G hr hk hM hm dX12_due_22
  · have hm := b_f h6 hm
    refine r_aload_n (np := 14) G hl 0 rfl dX12_due_13 rfl rfl ?_
    refine r_iload_n (np := 15) G hl 1 rfl dX12_due_14 rfl rfl ?_
    obtain ⟨b7, s8, e9, hm⟩ := call_t hm
    refine m_callVI (np := 18) G hM hl.1 [vI v1] (qX12_dueOf l E s4 v0 v1 _ e9) myX12_dueOf (shp_lt (gX12_dueOf e9) (by decide)) (gX12_dueOf e9) rfl (by decide) lkX12_396 ⟨Nat.le_of_ble_eq_true rfl, Nat.le_of_ble_eq_true rfl⟩ ⟨Nat.le_of_ble_eq_true rfl, Nat.le_of_ble_eq_true rfl⟩ [] rfl (Nat.le_of_ble_eq_true rfl) dX12_due_15 rfl (fun H locs hM => ?_)
    refine r_goto (np := 22) G dX12_due_18 (by decide) ?_
    exact r_iret G hr hk hM hm dX12_due_22
theorem gX12_due {v0 : Nat} {v1 : Int} {σ : mSt} {out : Int × mSt} (hm : mX12_due v0 v1 σ = some out) : isC v0 11 := (g_t hm).1
set_option maxRecDepth 100000 in
set_option maxHeartbeats 4000000 in
theorem wX12_row_B55 (l : Launch) (E : mE) (out : Int × mSt) {p : Program} {e : Env} {s : State} {m : MethodId} {args : Array Value} {below : List Frame} {meth : Method} {c : Code} (G : CallFix p m c cX12_row 5 s args mTs RX12) (hr : meth.sig.returnType = (some .int)) (hk : meth.locks = false) (v0 : Nat) (v1 : Int) (v2 : Int) (v3 : Int) (g0 : isC v0 11) : ∀ (v4 : Int) (t0 : Nat) (t1 : Int) (σ : mSt) (H : Heap) (locs : List Loc) (ls : Array Slot), mX12_row_B55 v0 v1 v2 v3 v4 t0 t1 σ = some out → mM (mA E 276) E 276 σ s H locs → lv_has ls 5 [(0, .ref (eA E v0)), (1, vI v1), (2, vI v2), (3, vI v3), (4, vI v4)] → mGo l p e 3 67 s m args below meth c E (some (vI out.1)) out.2 H locs (F0 m 55 ls [vI t1, .ref (eA E t0)]) := by
  intro v4 t0 t1 σ H locs ls hm hM hl
  unfold mX12_row_B55 at hm
  obtain ⟨g1, hm⟩ := g_t hm
  obtain ⟨s2, e3, hm⟩ := bnd_t hm
  refine r_putI (np := 58) G hM (shp_lt g1 (by decide)) g1 ptX12_0 rfl lkX12_75 s2 e3 dX12_row_55 rfl (fun H locs hM => ?_)
  refine r_iload (np := 60) G hl 4 rfl dX12_row_58 rfl ?_
  refine r_if_ne (np := 63) (tgt := 65) G rfl dX12_row_60 (by decide) rfl (fun h4 => ?_) (fun h4 => ?_)
  · have hm := b_f h4 hm
    refine r_iload_n (np := 66) G hl 2 rfl dX12_row_65 rfl rfl ?_
    refine r_iconst (np := 67) G 4 dX12_row_66 rfl ?_
    refine r_icmp_ne (np := 70) (tgt := 79) G rfl (wIk 4 rfl) dX12_row_67 (by decide) rfl (fun h5 => ?_) (fun h5 => ?_)
    · have hm := b_f h5 hm
      refine r_aload_n (np := 80) G hl 0 rfl dX12_row_79 rfl rfl ?_
      refine r_iload_n (np := 81) G hl 1 rfl dX12_row_80 rfl rfl ?_
      refine r_iload_n (np := 82) G hl 2 rfl dX12_row_81 rfl rfl ?_
      refine r_iload_n (np := 83) G hl 3 rfl dX12_row_82 rfl rfl ?_
      obtain ⟨b6, s7, e8, hm⟩ := call_t hm
      refine m_callVL (np := 86) G hM hl.1 [vI v1, vI v2, vI v3] (qX12_get l E s2 v0 v1 v2 v3 _ e8) myX12_get (shp_lt (gX12_get e8) (by decide)) (gX12_get e8) rfl (by decide) lkX12_355 ⟨Nat.le_of_ble_eq_true rfl, Nat.le_of_ble_eq_true rfl⟩ ⟨Nat.le_of_ble_eq_true rfl, Nat.le_of_ble_eq_true rfl⟩ [] rfl (Nat.le_of_ble_eq_true rfl) dX12_row_83 rfl (fun H locs hM => ?_)
      refine r_l2i (np := 87) G dX12_row_86 rfl ?_
      exact r_iret G hr hk hM hm dX12_row_87
    · have hm := b_t h5 hm
      refine r_aload_n (np := 71) G hl 0 rfl dX12_row_70 rfl rfl ?_
      obtain ⟨r9, e10, hm⟩ := ref_t hm
      refine r_getR (np := 74) G hM (shp_lt g0 (by decide)) g0 e10 fdX12_30 lkX12_60 dX12_row_71 rfl ?_
      refine r_iload_n (np := 75) G hl 1 rfl dX12_row_74 rfl rfl ?_
      obtain ⟨g11, hm⟩ := g_t hm
      refine r_laload (np := 76) G hM g11 rfl dX12_row_75 rfl ?_
      refine r_goto (np := 86) G dX12_row_76 (by decide) ?_
      refine r_l2i (np := 87) G dX12_row_86 rfl ?_
      exact r_iret G hr hk hM hm dX12_row_87
  · have hm := b_t h4 hm
    refine r_iconst (np := 64) G 0 dX12_row_63 rfl ?_
    exact r_iret G hr hk hM hm dX12_row_64
set_option maxRecDepth 100000 in
set_option maxHeartbeats 4000000 in
theorem wX12_row_B42 (l : Launch) (E : mE) (out : Int × mSt) {p : Program} {e : Env} {s : State} {m : MethodId} {args : Array Value} {below : List Frame} {meth : Method} {c : Code} (G : CallFix p m c cX12_row 5 s args mTs RX12) (hr : meth.sig.returnType = (some .int)) (hk : meth.locks = false) (v0 : Nat) (v1 : Int) (v2 : Int) (v3 : Int) (g0 : isC v0 11) : ∀ (t0 : Int) (σ : mSt) (H : Heap) (locs : List Loc) (ls : Array Slot), mX12_row_B42 v0 v1 v2 v3 t0 σ = some out → mM (mA E 276) E 276 σ s H locs → lv_has ls 5 [(0, .ref (eA E v0)), (1, vI v1), (2, vI v2), (3, vI v3)] → mGo l p e 3 67 s m args below meth c E (some (vI out.1)) out.2 H locs (F0 m 42 ls [vI t0]) := by
  intro t0 σ H locs ls hm hM hl
  unfold mX12_row_B42 at hm
  refine r_istore (np := 44) G hl rfl [(4, vI t0), (0, .ref (eA E v0)), (1, vI v1), (2, vI v2), (3, vI v3)] dX12_row_42 rfl (by decide) rfl (fun ls hl => ?_)
  refine r_aload_n (np := 45) G hl 1 rfl dX12_row_44 rfl rfl ?_
  refine r_iload (np := 47) G hl 0 rfl dX12_row_45 rfl ?_
  refine r_if_eq (np := 50) (tgt := 54) G rfl dX12_row_47 (by decide) rfl (fun h12 => ?_) (fun h12 => ?_)
  · have hm := b_t h12 hm
    refine r_iconst (np := 55) G 1 dX12_row_54 rfl ?_
    exact wX12_row_B55 l E out G hr hk v0 v1 v2 v3 g0 t0 v0 1 _ _ _ _ hm hM (lv_sub hl [1, 2, 3, 4, 0] rfl)
  · have hm := b_f h12 hm
    refine r_iconst (np := 51) G 0 dX12_row_50 rfl ?_
    refine r_goto (np := 55) G dX12_row_51 (by decide) ?_
    exact wX12_row_B55 l E out G hr hk v0 v1 v2 v3 g0 t0 v0 0 _ _ _ _ hm hM (lv_sub hl [1, 2, 3, 4, 0] rfl)
set_option maxRecDepth 100000 in
set_option maxHeartbeats 4000000 in
theorem wX12_row_B41 (l : Launch) (E : mE) (out : Int × mSt) {p : Program} {e : Env} {s : State} {m : MethodId} {args : Array Value} {below : List Frame} {meth : Method} {c : Code} (G : CallFix p m c cX12_row 5 s args mTs RX12) (hr : meth.sig.returnType = (some .int)) (hk : meth.locks = false) (v0 : Nat) (v1 : Int) (v2 : Int) (v3 : Int) (g0 : isC v0 11) : ∀ (σ : mSt) (H : Heap) (locs : List Loc) (ls : Array Slot), mX12_row_B41 v0 v1 v2 v3 σ = some out → mM (mA E 276) E 276 σ s H locs → lv_has ls 5 [(0, .ref (eA E v0)), (1, vI v1), (2, vI v2), (3, vI v3)] → mGo l p e 3 67 s m args below meth c E (some (vI out.1)) out.2 H locs (F0 m 41 ls []) := by
  intro σ H locs ls hm hM hl
  unfold mX12_row_B41 at hm
  refine r_iconst (np := 42) G 0 dX12_row_41 rfl ?_
  exact wX12_row_B42 l E out G hr hk v0 v1 v2 v3 g0 0 _ _ _ _ hm hM (lv_sub hl [0, 1, 2, 3] rfl)
set_option maxRecDepth 100000 in
set_option maxHeartbeats 4000000 in
theorem wX12_row_B37 (l : Launch) (E : mE) (out : Int × mSt) {p : Program} {e : Env} {s : State} {m : MethodId} {args : Array Value} {below : List Frame} {meth : Method} {c : Code} (G : CallFix p m c cX12_row 5 s args mTs RX12) (hr : meth.sig.returnType = (some .int)) (hk : meth.locks = false) (v0 : Nat) (v1 : Int) (v2 : Int) (v3 : Int) (g0 : isC v0 11) : ∀ (σ : mSt) (H : Heap) (locs : List Loc) (ls : Array Slot), mX12_row_B37 v0 v1 v2 v3 σ = some out → mM (mA E 276) E 276 σ s H locs → lv_has ls 5 [(0, .ref (eA E v0)), (1, vI v1), (2, vI v2), (3, vI v3)] → mGo l p e 3 67 s m args below meth c E (some (vI out.1)) out.2 H locs (F0 m 37 ls []) := by
  intro σ H locs ls hm hM hl
  unfold mX12_row_B37 at hm
  refine r_iconst (np := 38) G 1 dX12_row_37 rfl ?_
  refine r_goto (np := 42) G dX12_row_38 (by decide) ?_
  exact wX12_row_B42 l E out G hr hk v0 v1 v2 v3 g0 1 _ _ _ _ hm hM (lv_sub hl [0, 1, 2, 3] rfl)
set_option maxRecDepth 100000 in
set_option maxHeartbeats 4000000 in
theorem qX12_row (l : Launch) (E : mE) (σ : mSt) (v0 : Nat) (v1 : Int) (v2 : Int) (v3 : Int) (out : Int × mSt) (hm : mX12_row v0 v1 v2 v3 σ = some out) : mMet l yX12_row cX12_row 5 (some .int) 3 67 E 276 [.ref (eA E v0), vI v1, vI v2, vI v3] σ (some (vI out.1)) out.2 := by
  unfold mX12_row at hm
  obtain ⟨g0, hm⟩ := g_t hm
  refine m_entry (by decide +kernel) (Nat.le_of_ble_eq_true rfl) (fun p e s m args below meth c G hr hk hM ls hl => ?_)
  have G : CallFix p m c cX12_row 5 s args mTs RX12 := G
  have hl : lv_has ls 5 [(0, .ref (eA E v0)), (1, vI v1), (2, vI v2), (3, vI v3)] := hl
  refine r_aload_n (np := 1) G hl 0 rfl dX12_row_0 rfl rfl ?_
  refine r_iload_n (np := 2) G hl 1 rfl dX12_row_1 rfl rfl ?_
  obtain ⟨b13, s14, e15, hm⟩ := call_t hm
  refine m_callVI (np := 5) G hM hl.1 [vI v1] (qX12_isQuaternion l E σ v0 v1 _ e15) myX12_isQuaternion (shp_lt (gX12_isQuaternion e15) (by decide)) (gX12_isQuaternion e15) rfl (by decide) lkX12_288 ⟨Nat.le_of_ble_eq_true rfl, Nat.le_of_ble_eq_true rfl⟩ ⟨Nat.le_of_ble_eq_true rfl, Nat.le_of_ble_eq_true rfl⟩ [] rfl (Nat.le_of_ble_eq_true rfl) dX12_row_2 rfl (fun H locs hM => ?_)
  refine r_if_eq (np := 8) (tgt := 41) G rfl dX12_row_5 (by decide) rfl (fun h16 => ?_) (fun h16 => ?_)
  · have hm := b_t h16 hm
    exact wX12_row_B41 l E out G hr hk v0 v1 v2 v3 g0 _ _ _ _ hm hM (lv_sub hl [0, 1, 2, 3] rfl)
  · have hm := b_f h16 hm
    refine r_iload_n (np := 9) G hl 2 rfl dX12_row_8 rfl rfl ?_
    refine r_iconst (np := 10) G 4 dX12_row_9 rfl ?_
    refine r_icmp_eq (np := 13) (tgt := 37) G rfl (wIk 4 rfl) dX12_row_10 (by decide) rfl (fun h17 => ?_) (fun h17 => ?_)
    · have hm := b_t h17 hm
      exact wX12_row_B37 l E out G hr hk v0 v1 v2 v3 g0 _ _ _ _ hm hM (lv_sub hl [0, 1, 2, 3] rfl)
    · have hm := b_f h17 hm
      refine r_iload_n (np := 14) G hl 2 rfl dX12_row_13 rfl rfl ?_
      refine r_i2l (np := 15) G rfl dX12_row_14 rfl ?_
      refine r_lconst (np := 16) G 0 dX12_row_15 rfl rfl ?_
      refine r_ldc2 (np := 19) G 3 dX12_row_16 lkX12_224 rfl rfl ?_
      obtain ⟨b18, s19, e20, hm⟩ := call_t hm
      refine m_callSI (np := 22) G hM hl.1 [vL (wI v2), vL 0, vL 3] (qX12_within l E s14 (wI v2) 0 3 _ e20) myX12_within lkX12_113 ⟨Nat.le_of_ble_eq_true rfl, Nat.le_of_ble_eq_true rfl⟩ ⟨Nat.le_of_ble_eq_true rfl, Nat.le_of_ble_eq_true rfl⟩ [] rfl (Nat.le_of_ble_eq_true rfl) dX12_row_19 rfl (fun H locs hM => ?_)
      refine r_if_eq (np := 25) (tgt := 41) G rfl dX12_row_22 (by decide) rfl (fun h21 => ?_) (fun h21 => ?_)
      · have hm := b_t h21 hm
        exact wX12_row_B41 l E out G hr hk v0 v1 v2 v3 g0 _ _ _ _ hm hM (lv_sub hl [0, 1, 2, 3] rfl)
      · have hm := b_f h21 hm
        refine r_iload_n (np := 26) G hl 3 rfl dX12_row_25 rfl rfl ?_
        refine r_i2l (np := 27) G rfl dX12_row_26 rfl ?_
        refine r_lconst (np := 28) G 0 dX12_row_27 rfl rfl ?_
        refine r_ldc2 (np := 31) G 3 dX12_row_28 lkX12_224 rfl rfl ?_
        obtain ⟨b22, s23, e24, hm⟩ := call_t hm
        refine m_callSI (np := 34) G hM hl.1 [vL (wI v3), vL 0, vL 3] (qX12_within l E s19 (wI v3) 0 3 _ e24) myX12_within lkX12_113 ⟨Nat.le_of_ble_eq_true rfl, Nat.le_of_ble_eq_true rfl⟩ ⟨Nat.le_of_ble_eq_true rfl, Nat.le_of_ble_eq_true rfl⟩ [] rfl (Nat.le_of_ble_eq_true rfl) dX12_row_31 rfl (fun H locs hM => ?_)
        refine r_if_eq (np := 37) (tgt := 41) G rfl dX12_row_34 (by decide) rfl (fun h25 => ?_) (fun h25 => ?_)
        · have hm := b_t h25 hm
          exact wX12_row_B41 l E out G hr hk v0 v1 v2 v3 g0 _ _ _ _ hm hM (lv_sub hl [0, 1, 2, 3] rfl)
        · have hm := b_f h25 hm
          exact wX12_row_B37 l E out G hr hk v0 v1 v2 v3 g0 _ _ _ _ hm hM (lv_sub hl [0, 1, 2, 3] rfl)
theorem gX12_row {v0 : Nat} {v1 : Int} {v2 : Int} {v3 : Int} {σ : mSt} {out : Int × mSt} (hm : mX12_row v0 v1 v2 v3 σ = some out) : isC v0 11 := (g_t hm).1
set_option maxRecDepth 100000 in
set_option maxHeartbeats 4000000 in
theorem wX12_tries_B188 (l : Launch) (E : mE) (out : Int × mSt) {p : Program} {e : Env} {s : State} {m : MethodId} {args : Array Value} {below : List Frame} {meth : Method} {c : Code} (G : CallFix p m c cX12_tries 10 s args mTs RX12) (hr : meth.sig.returnType = (some .boolean)) (hk : meth.locks = false) (v0 : Nat) (v1 : Int) (v2 : Int) (v3 : Int) (v4 : Int) (v5 : Int) (v6 : Int) (g0 : isC v0 11) : ∀ (σ : mSt) (H : Heap) (locs : List Loc) (ls : Array Slot), mX12_tries_B188 v0 v1 v2 v3 v4 v5 v6 σ = some out → mM (mA E 276) E 276 σ s H locs → lv_has ls 10 [] → mGo l p e 6 166 s m args below meth c E (some (vI out.1)) out.2 H locs (F0 m 188 ls []) := by
  intro σ H locs ls hm hM hl
  unfold mX12_tries_B188 at hm
  refine r_iconst (np := 189) G 0 dX12_tries_188 rfl ?_
  exact r_zret G hr hk hM (Or.inl rfl) hm dX12_tries_189
set_option maxRecDepth 100000 in
set_option maxHeartbeats 4000000 in
theorem wX12_tries_B72 (l : Launch) (E : mE) (out : Int × mSt) {p : Program} {e : Env} {s : State} {m : MethodId} {args : Array Value} {below : List Frame} {meth : Method} {c : Code} (G : CallFix p m c cX12_tries 10 s args mTs RX12) (hr : meth.sig.returnType = (some .boolean)) (hk : meth.locks = false) (v0 : Nat) (v1 : Int) (v2 : Int) (v3 : Int) (v4 : Int) (v5 : Int) (v6 : Int) (g0 : isC v0 11) : ∀ (σ : mSt) (H : Heap) (locs : List Loc) (ls : Array Slot), mX12_tries_B72 v0 v1 v2 v3 v4 v5 v6 σ = some out → mM (mA E 276) E 276 σ s H locs → lv_has ls 10 [(0, .ref (eA E v0)), (1, vI v1), (2, vI v2)] → mGo l p e 6 166 s m args below meth c E (some (vI out.1)) out.2 H locs (F0 m 72 ls []) := by
  intro σ H locs ls hm hM hl
  unfold mX12_tries_B72 at hm
  refine r_aload_n (np := 73) G hl 0 rfl dX12_tries_72 rfl rfl ?_
  obtain ⟨r1, e2, hm⟩ := ref_t hm
  refine r_getR (np := 76) G hM (shp_lt g0 (by decide)) g0 e2 fdX12_30 lkX12_60 dX12_tries_73 rfl ?_
  refine r_iload_n (np := 77) G hl 1 rfl dX12_tries_76 rfl rfl ?_
  obtain ⟨g3, hm⟩ := g_t hm
  refine r_laload (np := 78) G hM g3 rfl dX12_tries_77 rfl ?_
  refine r_iload_n (np := 79) G hl 2 rfl dX12_tries_78 rfl rfl ?_
  refine r_i2l (np := 80) G rfl dX12_tries_79 rfl ?_
  refine r_lmul (np := 81) G dX12_tries_80 rfl ?_
  obtain ⟨a4, e5, hm⟩ := bnd_t hm
  refine r_lstore (np := 83) G hl e5 [(7, vL a4), (0, .ref (eA E v0)), (1, vI v1), (2, vI v2)] dX12_tries_81 rfl (by decide) rfl (fun ls hl => ?_)
  refine r_ldc2 (np := 86) G 2 dX12_tries_83 lkX12_264 rfl rfl ?_
  refine r_aload_n (np := 87) G hl 1 rfl dX12_tries_86 rfl rfl ?_
  obtain ⟨r6, e7, hm⟩ := ref_t hm
  refine r_getR (np := 90) G hM (shp_lt g0 (by decide)) g0 e7 fdX12_32 lkX12_66 dX12_tries_87 rfl ?_
  refine r_iconst (np := 91) G 0 dX12_tries_90 rfl ?_
  obtain ⟨g8, hm⟩ := g_t hm
  refine r_laload (np := 92) G hM g8 rfl dX12_tries_91 rfl ?_
  refine r_lmul (np := 93) G dX12_tries_92 rfl ?_
  refine r_lload (np := 95) G hl 0 rfl dX12_tries_93 rfl ?_
  obtain ⟨g9, hm⟩ := g_t hm
  refine r_lrem (np := 96) G g9 dX12_tries_95 rfl ?_
  refine r_lconst (np := 97) G 0 dX12_tries_96 rfl rfl ?_
  refine r_lcmp_ne (np := 101) (tgt := 154) G rfl (wLk 0 rfl) dX12_tries_97 dX12_tries_98 (by decide) rfl (fun h10 => ?_) (fun h10 => ?_)
  · have hm := b_f h10 hm
    refine r_iconst (np := 155) G 0 dX12_tries_154 rfl ?_
    exact r_zret G hr hk hM (Or.inl rfl) hm dX12_tries_155
  · have hm := b_t h10 hm
    refine r_aload_n (np := 102) G hl 1 rfl dX12_tries_101 rfl rfl ?_
    refine r_aload_n (np := 103) G hl 1 rfl dX12_tries_102 rfl rfl ?_
    obtain ⟨r11, e12, hm⟩ := ref_t hm
    refine r_getR (np := 106) G hM (shp_lt g0 (by decide)) g0 e12 fdX12_32 lkX12_66 dX12_tries_103 rfl ?_
    refine r_iconst (np := 107) G 0 dX12_tries_106 rfl ?_
    obtain ⟨g13, hm⟩ := g_t hm
    refine r_laload (np := 108) G hM g13 rfl dX12_tries_107 rfl ?_
    refine r_aload_n (np := 109) G hl 1 rfl dX12_tries_108 rfl rfl ?_
    obtain ⟨r14, e15, hm⟩ := ref_t hm
    refine r_getR (np := 112) G hM (shp_lt g0 (by decide)) g0 e15 fdX12_32 lkX12_66 dX12_tries_109 rfl ?_
    refine r_iconst (np := 113) G 1 dX12_tries_112 rfl ?_
    obtain ⟨g16, hm⟩ := g_t hm
    refine r_laload (np := 114) G hM g16 rfl dX12_tries_113 rfl ?_
    refine r_aload_n (np := 115) G hl 1 rfl dX12_tries_114 rfl rfl ?_
    obtain ⟨r17, e18, hm⟩ := ref_t hm
    refine r_getR (np := 118) G hM (shp_lt g0 (by decide)) g0 e18 fdX12_32 lkX12_66 dX12_tries_115 rfl ?_
    refine r_iconst (np := 119) G 2 dX12_tries_118 rfl ?_
    obtain ⟨g19, hm⟩ := g_t hm
    refine r_laload (np := 120) G hM g19 rfl dX12_tries_119 rfl ?_
    refine r_aload_n (np := 121) G hl 1 rfl dX12_tries_120 rfl rfl ?_
    obtain ⟨r20, e21, hm⟩ := ref_t hm
    refine r_getR (np := 124) G hM (shp_lt g0 (by decide)) g0 e21 fdX12_32 lkX12_66 dX12_tries_121 rfl ?_
    refine r_iconst (np := 125) G 3 dX12_tries_124 rfl ?_
    obtain ⟨g22, hm⟩ := g_t hm
    refine r_laload (np := 126) G hM g22 rfl dX12_tries_125 rfl ?_
    refine r_aload_n (np := 127) G hl 1 rfl dX12_tries_126 rfl rfl ?_
    obtain ⟨r23, e24, hm⟩ := ref_t hm
    refine r_getR (np := 130) G hM (shp_lt g0 (by decide)) g0 e24 fdX12_15 lkX12_24 dX12_tries_127 rfl ?_
    refine r_iload_n (np := 131) G hl 2 rfl dX12_tries_130 rfl rfl ?_
    obtain ⟨g25, hm⟩ := g_t hm
    refine r_iaload (np := 132) G hM g25 rfl dX12_tries_131 rfl ?_
    refine r_i2l (np := 133) G rfl dX12_tries_132 rfl ?_
    refine r_aload_n (np := 134) G hl 1 rfl dX12_tries_133 rfl rfl ?_
    obtain ⟨r26, e27, hm⟩ := ref_t hm
    refine r_getR (np := 137) G hM (shp_lt g0 (by decide)) g0 e27 fdX12_16 lkX12_27 dX12_tries_134 rfl ?_
    refine r_iload_n (np := 138) G hl 2 rfl dX12_tries_137 rfl rfl ?_
    obtain ⟨g28, hm⟩ := g_t hm
    refine r_iaload (np := 139) G hM g28 rfl dX12_tries_138 rfl ?_
    refine r_i2l (np := 140) G rfl dX12_tries_139 rfl ?_
    obtain ⟨b29, s30, e31, hm⟩ := call_t hm
    refine m_callVL (np := 143) G hM hl.1 [vL (σ r11 0), vL (σ r14 1), vL (σ r17 2), vL (σ r20 3), vL (wI (σ r23 (wI v1).toNat)), vL (wI (σ r26 (wI v1).toNat))] (qX12_normOf l E σ v0 (σ r11 0) (σ r14 1) (σ r17 2) (σ r20 3) (wI (σ r23 (wI v1).toNat)) (wI (σ r26 (wI v1).toNat)) _ e31) myX12_normOf (shp_lt (gX12_normOf e31) (by decide)) (gX12_normOf e31) rfl (by decide) lkX12_326 ⟨Nat.le_of_ble_eq_true rfl, Nat.le_of_ble_eq_true rfl⟩ ⟨Nat.le_of_ble_eq_true rfl, Nat.le_of_ble_eq_true rfl⟩ [] rfl (Nat.le_of_ble_eq_true rfl) dX12_tries_140 rfl (fun H locs hM => ?_)
    refine r_lload (np := 145) G hl 0 rfl dX12_tries_143 rfl ?_
    refine r_lload (np := 147) G hl 0 rfl dX12_tries_145 rfl ?_
    refine r_lmul (np := 148) G dX12_tries_147 rfl ?_
    obtain ⟨g32, hm⟩ := g_t hm
    refine r_lrem (np := 149) G g32 dX12_tries_148 rfl ?_
    refine r_lconst (np := 150) G 0 dX12_tries_149 rfl rfl ?_
    refine r_lcmp_eq (np := 154) (tgt := 156) G rfl (wLk 0 rfl) dX12_tries_150 dX12_tries_151 (by decide) rfl (fun h33 => ?_) (fun h33 => ?_)
    · have hm := b_t h33 hm
      refine r_aload_n (np := 157) G hl 1 rfl dX12_tries_156 rfl rfl ?_
      refine r_iload_n (np := 158) G hl 2 rfl dX12_tries_157 rfl rfl ?_
      refine r_bipush (np := 160) G 8 dX12_tries_158 (by decide) rfl ?_
      obtain ⟨b34, s35, e36, hm⟩ := call_t hm
      refine m_callVV (np := 163) G hM hl.1 [vI v1, vI 8] (qX12_copies l E s30 v0 v1 8 _ e36) myX12_copies (shp_lt (gX12_copies e36) (by decide)) (gX12_copies e36) rfl (by decide) lkX12_399 ⟨Nat.le_of_ble_eq_true rfl, Nat.le_of_ble_eq_true rfl⟩ ⟨Nat.le_of_ble_eq_true rfl, Nat.le_of_ble_eq_true rfl⟩ [] rfl (Nat.le_of_ble_eq_true rfl) dX12_tries_160 rfl (fun H locs hM => ?_)
      refine r_aload_n (np := 164) G hl 1 rfl dX12_tries_163 rfl rfl ?_
      refine r_lload (np := 166) G hl 0 rfl dX12_tries_164 rfl ?_
      obtain ⟨b37, s38, e39, hm⟩ := call_t hm
      refine m_callVI (np := 169) G hM hl.1 [vL a4] (qX12_putsLeast l E s35 v0 a4 _ e39) myX12_putsLeast (shp_lt (gX12_putsLeast e39) (by decide)) (gX12_putsLeast e39) rfl (by decide) lkX12_384 ⟨Nat.le_of_ble_eq_true rfl, Nat.le_of_ble_eq_true rfl⟩ ⟨Nat.le_of_ble_eq_true rfl, Nat.le_of_ble_eq_true rfl⟩ [] rfl (Nat.le_of_ble_eq_true rfl) dX12_tries_166 rfl (fun H locs hM => ?_)
      refine r_istore (np := 171) G hl rfl [(9, vI b37), (7, vL a4), (0, .ref (eA E v0)), (1, vI v1), (2, vI v2)] dX12_tries_169 rfl (by decide) rfl (fun ls hl => ?_)
      refine r_iload (np := 173) G hl 0 rfl dX12_tries_171 rfl ?_
      refine r_if_eq (np := 176) (tgt := 188) G rfl dX12_tries_173 (by decide) rfl (fun h40 => ?_) (fun h40 => ?_)
      · have hm := b_t h40 hm
        exact wX12_tries_B188 l E out G hr hk v0 v1 v2 v3 v4 v5 v6 g0 _ _ _ _ hm hM (lv_sub hl [] rfl)
      · have hm := b_f h40 hm
        refine r_aload_n (np := 177) G hl 2 rfl dX12_tries_176 rfl rfl ?_
        refine r_iload_n (np := 178) G hl 3 rfl dX12_tries_177 rfl rfl ?_
        obtain ⟨b41, s42, e43, hm⟩ := call_t hm
        refine m_callVI (np := 181) G hM hl.1 [vI v1] (qX12_closes l E s38 v0 v1 _ e43) myX12_closes (shp_lt (gX12_closes e43) (by decide)) (gX12_closes e43) rfl (by decide) lkX12_402 ⟨Nat.le_of_ble_eq_true rfl, Nat.le_of_ble_eq_true rfl⟩ ⟨Nat.le_of_ble_eq_true rfl, Nat.le_of_ble_eq_true rfl⟩ [] rfl (Nat.le_of_ble_eq_true rfl) dX12_tries_178 rfl (fun H locs hM => ?_)
        refine r_if_eq (np := 184) (tgt := 188) G rfl dX12_tries_181 (by decide) rfl (fun h44 => ?_) (fun h44 => ?_)
        · have hm := b_t h44 hm
          exact wX12_tries_B188 l E out G hr hk v0 v1 v2 v3 v4 v5 v6 g0 _ _ _ _ hm hM (lv_sub hl [] rfl)
        · have hm := b_f h44 hm
          refine r_iconst (np := 185) G 1 dX12_tries_184 rfl ?_
          refine r_goto (np := 189) G dX12_tries_185 (by decide) ?_
          exact r_zret G hr hk hM (Or.inr rfl) hm dX12_tries_189
    · have hm := b_f h33 hm
      refine r_iconst (np := 155) G 0 dX12_tries_154 rfl ?_
      exact r_zret G hr hk hM (Or.inl rfl) hm dX12_tries_155
set_option maxRecDepth 100000 in
set_option maxHeartbeats 4000000 in
theorem wX12_tries_L3 (l : Launch) (E : mE) (out : Int × mSt) {p : Program} {e : Env} {s : State} {m : MethodId} {args : Array Value} {below : List Frame} {meth : Method} {c : Code} (G : CallFix p m c cX12_tries 10 s args mTs RX12) (hr : meth.sig.returnType = (some .boolean)) (hk : meth.locks = false) (v0 : Nat) (v1 : Int) (v2 : Int) (v3 : Int) (v4 : Int) (v5 : Int) (v6 : Int) (g0 : isC v0 11) (x72 : mSt → Option (Int × mSt)) (hx72 : ∀ (σ : mSt) (H : Heap) (locs : List Loc) (ls : Array Slot), x72 σ = some out → mM (mA E 276) E 276 σ s H locs → lv_has ls 10 [(0, .ref (eA E v0)), (1, vI v1), (2, vI v2)] → mGo l p e 6 166 s m args below meth c E (some (vI out.1)) out.2 H locs (F0 m 72 ls [])) : ∀ (n : Nat) (v7 : Int) (σ : mSt) (H : Heap) (locs : List Loc) (ls : Array Slot), mX12_tries_L3 v0 v1 v2 v3 v4 v5 v6 x72 n v7 σ = some out → mM (mA E 276) E 276 σ s H locs → lv_has ls 10 [(0, .ref (eA E v0)), (1, vI v1), (2, vI v2), (3, vI v3), (4, vI v4), (5, vI v5), (6, vI v6), (7, vI v7)] → mGo l p e 6 166 s m args below meth c E (some (vI out.1)) out.2 H locs (F0 m 3 ls []) := by
  intro n
  induction n with
  | zero =>
    intro v7 σ H locs ls hm hM hl
    exact absurd hm (by rw [mX12_tries_L3.eq_1]; exact fun h => nomatch h)
  | succ n ih =>
    intro v7 σ H locs ls hm hM hl
    rw [mX12_tries_L3.eq_2] at hm
    refine r_iload (np := 5) G hl 7 rfl dX12_tries_3 rfl ?_
    refine r_iconst (np := 6) G 4 dX12_tries_5 rfl ?_
    refine r_icmp_ge (np := 9) (tgt := 72) G rfl (wIk 4 rfl) dX12_tries_6 (by decide) rfl (fun h45 => ?_) (fun h45 => ?_)
    · have hm := b_t h45 hm
      exact hx72 _ _ _ _ hm hM (lv_sub hl [0, 1, 2] rfl)
    · have hm := b_f h45 hm
      refine r_aload_n (np := 10) G hl 0 rfl dX12_tries_9 rfl rfl ?_
      obtain ⟨r46, e47, hm⟩ := ref_t hm
      refine r_getR (np := 13) G hM (shp_lt g0 (by decide)) g0 e47 fdX12_32 lkX12_66 dX12_tries_10 rfl ?_
      refine r_iload (np := 15) G hl 7 rfl dX12_tries_13 rfl ?_
      refine r_iload_n (np := 16) G hl 3 rfl dX12_tries_15 rfl rfl ?_
      refine r_i2l (np := 17) G rfl dX12_tries_16 rfl ?_
      refine r_aload_n (np := 18) G hl 0 rfl dX12_tries_17 rfl rfl ?_
      refine r_iload_n (np := 19) G hl 1 rfl dX12_tries_18 rfl rfl ?_
      refine r_iconst (np := 20) G 0 dX12_tries_19 rfl ?_
      refine r_iload (np := 22) G hl 7 rfl dX12_tries_20 rfl ?_
      obtain ⟨b48, s49, e50, hm⟩ := call_t hm
      refine m_callVL (np := 25) G hM hl.1 [vI v1, vI 0, vI v7] (qX12_get l E σ v0 v1 0 v7 _ e50) myX12_get (shp_lt (gX12_get e50) (by decide)) (gX12_get e50) rfl (by decide) lkX12_355 ⟨Nat.le_of_ble_eq_true rfl, Nat.le_of_ble_eq_true rfl⟩ ⟨Nat.le_of_ble_eq_true rfl, Nat.le_of_ble_eq_true rfl⟩ [vL (wI v3), vI v7, .ref (eA E r46)] rfl (Nat.le_of_ble_eq_true rfl) dX12_tries_22 rfl (fun H locs hM => ?_)
      refine r_lmul (np := 26) G dX12_tries_25 rfl ?_
      refine r_iload (np := 28) G hl 4 rfl dX12_tries_26 rfl ?_
      refine r_i2l (np := 29) G rfl dX12_tries_28 rfl ?_
      refine r_aload_n (np := 30) G hl 0 rfl dX12_tries_29 rfl rfl ?_
      refine r_iload_n (np := 31) G hl 1 rfl dX12_tries_30 rfl rfl ?_
      refine r_iconst (np := 32) G 1 dX12_tries_31 rfl ?_
      refine r_iload (np := 34) G hl 7 rfl dX12_tries_32 rfl ?_
      obtain ⟨b51, s52, e53, hm⟩ := call_t hm
      refine m_callVL (np := 37) G hM hl.1 [vI v1, vI 1, vI v7] (qX12_get l E s49 v0 v1 1 v7 _ e53) myX12_get (shp_lt (gX12_get e53) (by decide)) (gX12_get e53) rfl (by decide) lkX12_355 ⟨Nat.le_of_ble_eq_true rfl, Nat.le_of_ble_eq_true rfl⟩ ⟨Nat.le_of_ble_eq_true rfl, Nat.le_of_ble_eq_true rfl⟩ [vL (wI v4), vL ((wI v3) * b48), vI v7, .ref (eA E r46)] rfl (Nat.le_of_ble_eq_true rfl) dX12_tries_34 rfl (fun H locs hM => ?_)
      refine r_lmul (np := 38) G dX12_tries_37 rfl ?_
      refine r_ladd (np := 39) G dX12_tries_38 rfl ?_
      refine r_iload (np := 41) G hl 5 rfl dX12_tries_39 rfl ?_
      refine r_i2l (np := 42) G rfl dX12_tries_41 rfl ?_
      refine r_aload_n (np := 43) G hl 0 rfl dX12_tries_42 rfl rfl ?_
      refine r_iload_n (np := 44) G hl 1 rfl dX12_tries_43 rfl rfl ?_
      refine r_iconst (np := 45) G 2 dX12_tries_44 rfl ?_
      refine r_iload (np := 47) G hl 7 rfl dX12_tries_45 rfl ?_
      obtain ⟨b54, s55, e56, hm⟩ := call_t hm
      refine m_callVL (np := 50) G hM hl.1 [vI v1, vI 2, vI v7] (qX12_get l E s52 v0 v1 2 v7 _ e56) myX12_get (shp_lt (gX12_get e56) (by decide)) (gX12_get e56) rfl (by decide) lkX12_355 ⟨Nat.le_of_ble_eq_true rfl, Nat.le_of_ble_eq_true rfl⟩ ⟨Nat.le_of_ble_eq_true rfl, Nat.le_of_ble_eq_true rfl⟩ [vL (wI v5), vL (((wI v3) * b48) + ((wI v4) * b51)), vI v7, .ref (eA E r46)] rfl (Nat.le_of_ble_eq_true rfl) dX12_tries_47 rfl (fun H locs hM => ?_)
      refine r_lmul (np := 51) G dX12_tries_50 rfl ?_
      refine r_ladd (np := 52) G dX12_tries_51 rfl ?_
      refine r_iload (np := 54) G hl 6 rfl dX12_tries_52 rfl ?_
      refine r_i2l (np := 55) G rfl dX12_tries_54 rfl ?_
      refine r_aload_n (np := 56) G hl 0 rfl dX12_tries_55 rfl rfl ?_
      refine r_iload_n (np := 57) G hl 1 rfl dX12_tries_56 rfl rfl ?_
      refine r_iconst (np := 58) G 3 dX12_tries_57 rfl ?_
      refine r_iload (np := 60) G hl 7 rfl dX12_tries_58 rfl ?_
      obtain ⟨b57, s58, e59, hm⟩ := call_t hm
      refine m_callVL (np := 63) G hM hl.1 [vI v1, vI 3, vI v7] (qX12_get l E s55 v0 v1 3 v7 _ e59) myX12_get (shp_lt (gX12_get e59) (by decide)) (gX12_get e59) rfl (by decide) lkX12_355 ⟨Nat.le_of_ble_eq_true rfl, Nat.le_of_ble_eq_true rfl⟩ ⟨Nat.le_of_ble_eq_true rfl, Nat.le_of_ble_eq_true rfl⟩ [vL (wI v6), vL ((((wI v3) * b48) + ((wI v4) * b51)) + ((wI v5) * b54)), vI v7, .ref (eA E r46)] rfl (Nat.le_of_ble_eq_true rfl) dX12_tries_60 rfl (fun H locs hM => ?_)
      refine r_lmul (np := 64) G dX12_tries_63 rfl ?_
      refine r_ladd (np := 65) G dX12_tries_64 rfl ?_
      obtain ⟨g60, hm⟩ := g_t hm
      obtain ⟨s61, e62, hm⟩ := bnd_t hm
      refine r_lastore (np := 66) G hM g60 rfl s61 e62 dX12_tries_65 rfl (fun H locs hM => ?_)
      obtain ⟨a63, e64, hm⟩ := bnd_t hm
      refine r_iinc (np := 69) G hl 7 rfl e64 [(7, vI a63), (0, .ref (eA E v0)), (1, vI v1), (2, vI v2), (3, vI v3), (4, vI v4), (5, vI v5), (6, vI v6)] dX12_tries_66 rfl (by decide) rfl (fun ls hl => ?_)
      refine r_goto (np := 3) G dX12_tries_69 (by decide) ?_
      exact ih a63 _ _ _ _ hm hM (lv_sub hl [1, 2, 3, 4, 5, 6, 7, 0] rfl)
set_option maxRecDepth 100000 in
set_option maxHeartbeats 4000000 in
theorem qX12_tries (l : Launch) (E : mE) (σ : mSt) (v0 : Nat) (v1 : Int) (v2 : Int) (v3 : Int) (v4 : Int) (v5 : Int) (v6 : Int) (out : Int × mSt) (hm : mX12_tries v0 v1 v2 v3 v4 v5 v6 σ = some out) : mMet l yX12_tries cX12_tries 10 (some .boolean) 6 166 E 276 [.ref (eA E v0), vI v1, vI v2, vI v3, vI v4, vI v5, vI v6] σ (some (vI out.1)) out.2 := by
  unfold mX12_tries at hm
  obtain ⟨g0, hm⟩ := g_t hm
  refine m_entry (by decide +kernel) (Nat.le_of_ble_eq_true rfl) (fun p e s m args below meth c G hr hk hM ls hl => ?_)
  have G : CallFix p m c cX12_tries 10 s args mTs RX12 := G
  have hl : lv_has ls 10 [(0, .ref (eA E v0)), (1, vI v1), (2, vI v2), (3, vI v3), (4, vI v4), (5, vI v5), (6, vI v6)] := hl
  refine r_iconst (np := 1) G 0 dX12_tries_0 rfl ?_
  refine r_istore (np := 3) G hl rfl [(7, vI 0), (0, .ref (eA E v0)), (1, vI v1), (2, vI v2), (3, vI v3), (4, vI v4), (5, vI v5), (6, vI v6)] dX12_tries_1 rfl (by decide) rfl (fun ls hl => ?_)
  exact wX12_tries_L3 l E out G hr hk v0 v1 v2 v3 v4 v5 v6 g0 (fun zσ => mX12_tries_B72 v0 v1 v2 v3 v4 v5 v6 zσ) (fun zσ zH zl zs zm zM zv => wX12_tries_B72 l E out G hr hk v0 v1 v2 v3 v4 v5 v6 g0 zσ zH zl zs zm zM zv) mF 0 _ _ _ _ hm hM (lv_sub hl [1, 2, 3, 4, 5, 6, 7, 0] rfl)
theorem gX12_tries {v0 : Nat} {v1 : Int} {v2 : Int} {v3 : Int} {v4 : Int} {v5 : Int} {v6 : Int} {σ : mSt} {out : Int × mSt} (hm : mX12_tries v0 v1 v2 v3 v4 v5 v6 σ = some out) : isC v0 11 := (g_t hm).1
set_option maxRecDepth 100000 in
set_option maxHeartbeats 4000000 in
theorem wX12_enlargesAt_B68 (l : Launch) (E : mE) (out : Int × mSt) {p : Program} {e : Env} {s : State} {m : MethodId} {args : Array Value} {below : List Frame} {meth : Method} {c : Code} (G : CallFix p m c cX12_enlargesAt 4 s args mTs RX12) (hr : meth.sig.returnType = (some .boolean)) (hk : meth.locks = false) (v0 : Nat) (v1 : Int) (v2 : Int) (g0 : isC v0 11) : ∀ (σ : mSt) (H : Heap) (locs : List Loc) (ls : Array Slot), mX12_enlargesAt_B68 v0 v1 v2 σ = some out → mM (mA E 276) E 276 σ s H locs → lv_has ls 4 [] → mGo l p e 7 195 s m args below meth c E (some (vI out.1)) out.2 H locs (F0 m 68 ls []) := by
  intro σ H locs ls hm hM hl
  unfold mX12_enlargesAt_B68 at hm
  refine r_iconst (np := 69) G 0 dX12_enlargesAt_68 rfl ?_
  exact r_zret G hr hk hM (Or.inl rfl) hm dX12_enlargesAt_69
set_option maxRecDepth 100000 in
set_option maxHeartbeats 4000000 in
theorem wX12_enlargesAt_L2 (l : Launch) (E : mE) (out : Int × mSt) {p : Program} {e : Env} {s : State} {m : MethodId} {args : Array Value} {below : List Frame} {meth : Method} {c : Code} (G : CallFix p m c cX12_enlargesAt 4 s args mTs RX12) (hr : meth.sig.returnType = (some .boolean)) (hk : meth.locks = false) (v0 : Nat) (v1 : Int) (v2 : Int) (g0 : isC v0 11) (x68 : mSt → Option (Int × mSt)) (hx68 : ∀ (σ : mSt) (H : Heap) (locs : List Loc) (ls : Array Slot), x68 σ = some out → mM (mA E 276) E 276 σ s H locs → lv_has ls 4 [] → mGo l p e 7 195 s m args below meth c E (some (vI out.1)) out.2 H locs (F0 m 68 ls [])) : ∀ (n : Nat) (v3 : Int) (σ : mSt) (H : Heap) (locs : List Loc) (ls : Array Slot), mX12_enlargesAt_L2 v0 v1 v2 x68 n v3 σ = some out → mM (mA E 276) E 276 σ s H locs → lv_has ls 4 [(0, .ref (eA E v0)), (1, vI v1), (2, vI v2), (3, vI v3)] → mGo l p e 7 195 s m args below meth c E (some (vI out.1)) out.2 H locs (F0 m 2 ls []) := by
  intro n
  induction n with
  | zero =>
    intro v3 σ H locs ls hm hM hl
    exact absurd hm (by rw [mX12_enlargesAt_L2.eq_1]; exact fun h => nomatch h)
  | succ n ih =>
    intro v3 σ H locs ls hm hM hl
    rw [mX12_enlargesAt_L2.eq_2] at hm
    refine r_iload_n (np := 3) G hl 3 rfl dX12_enlargesAt_2 rfl rfl ?_
    refine r_iload_n (np := 4) G hl 2 rfl dX12_enlargesAt_3 rfl rfl ?_
    refine r_iload_n (np := 5) G hl 2 rfl dX12_enlargesAt_4 rfl rfl ?_
    refine r_imul (np := 6) G dX12_enlargesAt_5 rfl ?_
    refine r_iload_n (np := 7) G hl 2 rfl dX12_enlargesAt_6 rfl rfl ?_
    refine r_imul (np := 8) G dX12_enlargesAt_7 rfl ?_
    refine r_iload_n (np := 9) G hl 2 rfl dX12_enlargesAt_8 rfl rfl ?_
    refine r_imul (np := 10) G dX12_enlargesAt_9 rfl ?_
    refine r_icmp_ge (np := 13) (tgt := 68) G rfl rfl dX12_enlargesAt_10 (by decide) rfl (fun h1 => ?_) (fun h1 => ?_)
    · have hm := b_t h1 hm
      exact hx68 _ _ _ _ hm hM (lv_sub hl [] rfl)
    · have hm := b_f h1 hm
      refine r_aload_n (np := 14) G hl 0 rfl dX12_enlargesAt_13 rfl rfl ?_
      refine r_iload_n (np := 15) G hl 1 rfl dX12_enlargesAt_14 rfl rfl ?_
      refine r_iload_n (np := 16) G hl 2 rfl dX12_enlargesAt_15 rfl rfl ?_
      refine r_iload_n (np := 17) G hl 3 rfl dX12_enlargesAt_16 rfl rfl ?_
      refine r_iload_n (np := 18) G hl 2 rfl dX12_enlargesAt_17 rfl rfl ?_
      refine r_iload_n (np := 19) G hl 2 rfl dX12_enlargesAt_18 rfl rfl ?_
      refine r_imul (np := 20) G dX12_enlargesAt_19 rfl ?_
      refine r_iload_n (np := 21) G hl 2 rfl dX12_enlargesAt_20 rfl rfl ?_
      refine r_imul (np := 22) G dX12_enlargesAt_21 rfl ?_
      obtain ⟨g2, hm⟩ := g_t hm
      refine r_idiv (np := 23) G g2 dX12_enlargesAt_22 rfl ?_
      refine r_iload_n (np := 24) G hl 3 rfl dX12_enlargesAt_23 rfl rfl ?_
      refine r_iload_n (np := 25) G hl 2 rfl dX12_enlargesAt_24 rfl rfl ?_
      refine r_iload_n (np := 26) G hl 2 rfl dX12_enlargesAt_25 rfl rfl ?_
      refine r_imul (np := 27) G dX12_enlargesAt_26 rfl ?_
      obtain ⟨g3, hm⟩ := g_t hm
      refine r_idiv (np := 28) G g3 dX12_enlargesAt_27 rfl ?_
      refine r_iload_n (np := 29) G hl 2 rfl dX12_enlargesAt_28 rfl rfl ?_
      obtain ⟨g4, hm⟩ := g_t hm
      refine r_irem (np := 30) G g4 dX12_enlargesAt_29 rfl ?_
      refine r_iload_n (np := 31) G hl 3 rfl dX12_enlargesAt_30 rfl rfl ?_
      refine r_iload_n (np := 32) G hl 2 rfl dX12_enlargesAt_31 rfl rfl ?_
      refine r_idiv (np := 33) G g4 dX12_enlargesAt_32 rfl ?_
      refine r_iload_n (np := 34) G hl 2 rfl dX12_enlargesAt_33 rfl rfl ?_
      refine r_irem (np := 35) G g4 dX12_enlargesAt_34 rfl ?_
      refine r_iload_n (np := 36) G hl 3 rfl dX12_enlargesAt_35 rfl rfl ?_
      refine r_iload_n (np := 37) G hl 2 rfl dX12_enlargesAt_36 rfl rfl ?_
      refine r_irem (np := 38) G g4 dX12_enlargesAt_37 rfl ?_
      obtain ⟨b5, s6, e7, hm⟩ := call_t hm
      refine m_callVI (np := 41) G hM hl.1 [vI v1, vI v2, vI ((wI v3).tdiv (wI ((v2 * v2) * v2))), vI ((wI ((wI v3).tdiv (wI (v2 * v2)))).tmod (wI v2)), vI ((wI ((wI v3).tdiv (wI v2))).tmod (wI v2)), vI ((wI v3).tmod (wI v2))] (qX12_tries l E σ v0 v1 v2 ((wI v3).tdiv (wI ((v2 * v2) * v2))) ((wI ((wI v3).tdiv (wI (v2 * v2)))).tmod (wI v2)) ((wI ((wI v3).tdiv (wI v2))).tmod (wI v2)) ((wI v3).tmod (wI v2)) _ e7) myX12_tries (shp_lt (gX12_tries e7) (by decide)) (gX12_tries e7) rfl (by decide) lkX12_405 ⟨Nat.le_of_ble_eq_true rfl, Nat.le_of_ble_eq_true rfl⟩ ⟨Nat.le_of_ble_eq_true rfl, Nat.le_of_ble_eq_true rfl⟩ [] rfl (Nat.le_of_ble_eq_true rfl) dX12_enlargesAt_38 rfl (fun H locs hM => ?_)
      refine r_if_ne (np := 44) (tgt := 47) G rfl dX12_enlargesAt_41 (by decide) rfl (fun h8 => ?_) (fun h8 => ?_)
      · have hm := b_f h8 hm
        refine r_aload_n (np := 48) G hl 0 rfl dX12_enlargesAt_47 rfl rfl ?_
        refine r_bipush (np := 50) G 8 dX12_enlargesAt_48 (by decide) rfl ?_
        obtain ⟨b9, s10, e11, hm⟩ := call_t hm
        refine m_callVV (np := 53) G hM hl.1 [vI 8] (qX12_lessens l E s6 v0 8 _ e11) myX12_lessens (shp_lt (gX12_lessens e11) (by decide)) (gX12_lessens e11) rfl (by decide) lkX12_409 ⟨Nat.le_of_ble_eq_true rfl, Nat.le_of_ble_eq_true rfl⟩ ⟨Nat.le_of_ble_eq_true rfl, Nat.le_of_ble_eq_true rfl⟩ [] rfl (Nat.le_of_ble_eq_true rfl) dX12_enlargesAt_50 rfl (fun H locs hM => ?_)
        refine r_aload_n (np := 54) G hl 0 rfl dX12_enlargesAt_53 rfl rfl ?_
        refine r_bipush (np := 56) G 8 dX12_enlargesAt_54 (by decide) rfl ?_
        refine r_iload_n (np := 57) G hl 1 rfl dX12_enlargesAt_56 rfl rfl ?_
        obtain ⟨b12, s13, e14, hm⟩ := call_t hm
        refine m_callVV (np := 60) G hM hl.1 [vI 8, vI v1] (qX12_copies l E s10 v0 8 v1 _ e14) myX12_copies (shp_lt (gX12_copies e14) (by decide)) (gX12_copies e14) rfl (by decide) lkX12_399 ⟨Nat.le_of_ble_eq_true rfl, Nat.le_of_ble_eq_true rfl⟩ ⟨Nat.le_of_ble_eq_true rfl, Nat.le_of_ble_eq_true rfl⟩ [] rfl (Nat.le_of_ble_eq_true rfl) dX12_enlargesAt_57 rfl (fun H locs hM => ?_)
        refine r_iconst (np := 61) G 1 dX12_enlargesAt_60 rfl ?_
        exact r_zret G hr hk hM (Or.inr rfl) hm dX12_enlargesAt_61
      · have hm := b_t h8 hm
        refine r_goto (np := 62) G dX12_enlargesAt_44 (by decide) ?_
        obtain ⟨a15, e16, hm⟩ := bnd_t hm
        refine r_iinc (np := 65) G hl 3 rfl e16 [(3, vI a15), (0, .ref (eA E v0)), (1, vI v1), (2, vI v2)] dX12_enlargesAt_62 rfl (by decide) rfl (fun ls hl => ?_)
        refine r_goto (np := 2) G dX12_enlargesAt_65 (by decide) ?_
        exact ih a15 _ _ _ _ hm hM (lv_sub hl [1, 2, 3, 0] rfl)
set_option maxRecDepth 100000 in
set_option maxHeartbeats 4000000 in
theorem qX12_enlargesAt (l : Launch) (E : mE) (σ : mSt) (v0 : Nat) (v1 : Int) (v2 : Int) (out : Int × mSt) (hm : mX12_enlargesAt v0 v1 v2 σ = some out) : mMet l yX12_enlargesAt cX12_enlargesAt 4 (some .boolean) 7 195 E 276 [.ref (eA E v0), vI v1, vI v2] σ (some (vI out.1)) out.2 := by
  unfold mX12_enlargesAt at hm
  obtain ⟨g0, hm⟩ := g_t hm
  refine m_entry (by decide +kernel) (Nat.le_of_ble_eq_true rfl) (fun p e s m args below meth c G hr hk hM ls hl => ?_)
  have G : CallFix p m c cX12_enlargesAt 4 s args mTs RX12 := G
  have hl : lv_has ls 4 [(0, .ref (eA E v0)), (1, vI v1), (2, vI v2)] := hl
  refine r_iconst (np := 1) G 1 dX12_enlargesAt_0 rfl ?_
  refine r_istore_n (np := 2) G hl rfl [(3, vI 1), (0, .ref (eA E v0)), (1, vI v1), (2, vI v2)] dX12_enlargesAt_1 rfl rfl (by decide) rfl (fun ls hl => ?_)
  exact wX12_enlargesAt_L2 l E out G hr hk v0 v1 v2 g0 (fun zσ => mX12_enlargesAt_B68 v0 v1 v2 zσ) (fun zσ zH zl zs zm zM zv => wX12_enlargesAt_B68 l E out G hr hk v0 v1 v2 g0 zσ zH zl zs zm zM zv) mF 1 _ _ _ _ hm hM (lv_sub hl [1, 2, 3, 0] rfl)
theorem gX12_enlargesAt {v0 : Nat} {v1 : Int} {v2 : Int} {σ : mSt} {out : Int × mSt} (hm : mX12_enlargesAt v0 v1 v2 σ = some out) : isC v0 11 := (g_t hm).1
set_option maxRecDepth 100000 in
set_option maxHeartbeats 4000000 in
theorem qX12_hasMore (l : Launch) (E : mE) (σ : mSt) (v0 : Nat) (v1 : Int) (v2 : Int) (out : Int × mSt) (hm : mX12_hasMore v0 v1 v2 σ = some out) : mMet l yX12_hasMore cX12_hasMore 3 (some .boolean) 17 413 E 276 [.ref (eA E v0), vI v1, vI v2] σ (some (vI out.1)) out.2 := by
  unfold mX12_hasMore at hm
  obtain ⟨g0, hm⟩ := g_t hm
  refine m_entry (by decide +kernel) (Nat.le_of_ble_eq_true rfl) (fun p e s m args below meth c G hr hk hM ls hl => ?_)
  have G : CallFix p m c cX12_hasMore 3 s args mTs RX12 := G
  have hl : lv_has ls 3 [(0, .ref (eA E v0)), (1, vI v1), (2, vI v2)] := hl
  refine r_aload_n (np := 1) G hl 0 rfl dX12_hasMore_0 rfl rfl ?_
  refine r_iload_n (np := 2) G hl 1 rfl dX12_hasMore_1 rfl rfl ?_
  refine r_iload_n (np := 3) G hl 1 rfl dX12_hasMore_2 rfl rfl ?_
  obtain ⟨b1, s2, e3, hm⟩ := call_t hm
  refine m_callVI (np := 6) G hM hl.1 [vI v1, vI v1] (qX12_discOf l E σ v0 v1 v1 _ e3) myX12_discOf (shp_lt (gX12_discOf e3) (by decide)) (gX12_discOf e3) rfl (by decide) lkX12_393 ⟨Nat.le_of_ble_eq_true rfl, Nat.le_of_ble_eq_true rfl⟩ ⟨Nat.le_of_ble_eq_true rfl, Nat.le_of_ble_eq_true rfl⟩ [] rfl (Nat.le_of_ble_eq_true rfl) dX12_hasMore_3 rfl (fun H locs hM => ?_)
  refine r_iload_n (np := 7) G hl 2 rfl dX12_hasMore_6 rfl rfl ?_
  obtain ⟨b4, s5, e6, hm⟩ := call_t hm
  refine m_callSI (np := 10) G hM hl.1 [vI b1, vI v2] (qX12_often l E s2 b1 v2 _ e6) myX12_often lkX12_232 ⟨Nat.le_of_ble_eq_true rfl, Nat.le_of_ble_eq_true rfl⟩ ⟨Nat.le_of_ble_eq_true rfl, Nat.le_of_ble_eq_true rfl⟩ [] rfl (Nat.le_of_ble_eq_true rfl) dX12_hasMore_7 rfl (fun H locs hM => ?_)
  refine r_aload_n (np := 11) G hl 0 rfl dX12_hasMore_10 rfl rfl ?_
  refine r_iload_n (np := 12) G hl 1 rfl dX12_hasMore_11 rfl rfl ?_
  obtain ⟨b7, s8, e9, hm⟩ := call_t hm
  refine m_callVI (np := 15) G hM hl.1 [vI v1] (qX12_dueOf l E s5 v0 v1 _ e9) myX12_dueOf (shp_lt (gX12_dueOf e9) (by decide)) (gX12_dueOf e9) rfl (by decide) lkX12_396 ⟨Nat.le_of_ble_eq_true rfl, Nat.le_of_ble_eq_true rfl⟩ ⟨Nat.le_of_ble_eq_true rfl, Nat.le_of_ble_eq_true rfl⟩ [vI b4] rfl (Nat.le_of_ble_eq_true rfl) dX12_hasMore_12 rfl (fun H locs hM => ?_)
  refine r_iload_n (np := 16) G hl 2 rfl dX12_hasMore_15 rfl rfl ?_
  obtain ⟨b10, s11, e12, hm⟩ := call_t hm
  refine m_callSI (np := 19) G hM hl.1 [vI b7, vI v2] (qX12_often l E s8 b7 v2 _ e12) myX12_often lkX12_232 ⟨Nat.le_of_ble_eq_true rfl, Nat.le_of_ble_eq_true rfl⟩ ⟨Nat.le_of_ble_eq_true rfl, Nat.le_of_ble_eq_true rfl⟩ [vI b4] rfl (Nat.le_of_ble_eq_true rfl) dX12_hasMore_16 rfl (fun H locs hM => ?_)
  refine r_icmp_le (np := 22) (tgt := 26) G rfl rfl dX12_hasMore_19 (by decide) rfl (fun h13 => ?_) (fun h13 => ?_)
  · have hm := b_t h13 hm
    refine r_iconst (np := 27) G 0 dX12_hasMore_26 rfl ?_
    exact r_zret G hr hk hM (Or.inl rfl) hm dX12_hasMore_27
  · have hm := b_f h13 hm
    refine r_iconst (np := 23) G 1 dX12_hasMore_22 rfl ?_
    refine r_goto (np := 27) G dX12_hasMore_23 (by decide) ?_
    exact r_zret G hr hk hM (Or.inr rfl) hm dX12_hasMore_27
theorem gX12_hasMore {v0 : Nat} {v1 : Int} {v2 : Int} {σ : mSt} {out : Int × mSt} (hm : mX12_hasMore v0 v1 v2 σ = some out) : isC v0 11 := (g_t hm).1
set_option maxRecDepth 100000 in
set_option maxHeartbeats 4000000 in
theorem qX12_enlarge (l : Launch) (E : mE) (σ : mSt) (v0 : Nat) (v1 : Int) (v2 : Int) (out : Int × mSt) (hm : mX12_enlarge v0 v1 v2 σ = some out) : mMet l yX12_enlarge cX12_enlarge 4 (some .int) 18 435 E 276 [.ref (eA E v0), vI v1, vI v2] σ (some (vI out.1)) out.2 := by
  unfold mX12_enlarge at hm
  obtain ⟨g0, hm⟩ := g_t hm
  refine m_entry (by decide +kernel) (Nat.le_of_ble_eq_true rfl) (fun p e s m args below meth c G hr hk hM ls hl => ?_)
  have G : CallFix p m c cX12_enlarge 4 s args mTs RX12 := G
  have hl : lv_has ls 4 [(0, .ref (eA E v0)), (1, vI v1), (2, vI v2)] := hl
  refine r_aload_n (np := 1) G hl 0 rfl dX12_enlarge_0 rfl rfl ?_
  refine r_iconst (np := 2) G 0 dX12_enlarge_1 rfl ?_
  obtain ⟨s1, e2, hm⟩ := bnd_t hm
  refine r_putI (np := 5) G hM (shp_lt g0 (by decide)) g0 ptX12_0 rfl lkX12_75 s1 e2 dX12_enlarge_2 rfl (fun H locs hM => ?_)
  refine r_aload_n (np := 6) G hl 0 rfl dX12_enlarge_5 rfl rfl ?_
  refine r_iload_n (np := 7) G hl 1 rfl dX12_enlarge_6 rfl rfl ?_
  obtain ⟨b3, s4, e5, hm⟩ := call_t hm
  refine m_callVI (np := 10) G hM hl.1 [vI v1] (qX12_isQuaternion l E s1 v0 v1 _ e5) myX12_isQuaternion (shp_lt (gX12_isQuaternion e5) (by decide)) (gX12_isQuaternion e5) rfl (by decide) lkX12_288 ⟨Nat.le_of_ble_eq_true rfl, Nat.le_of_ble_eq_true rfl⟩ ⟨Nat.le_of_ble_eq_true rfl, Nat.le_of_ble_eq_true rfl⟩ [] rfl (Nat.le_of_ble_eq_true rfl) dX12_enlarge_7 rfl (fun H locs hM => ?_)
  refine r_if_eq (np := 13) (tgt := 34) G rfl dX12_enlarge_10 (by decide) rfl (fun h6 => ?_) (fun h6 => ?_)
  · have hm := b_t h6 hm
    refine r_iconst (np := 35) G (-1) dX12_enlarge_34 rfl ?_
    exact r_iret G hr hk hM hm dX12_enlarge_35
  · have hm := b_f h6 hm
    refine r_iload_n (np := 14) G hl 2 rfl dX12_enlarge_13 rfl rfl ?_
    refine r_i2l (np := 15) G rfl dX12_enlarge_14 rfl ?_
    refine r_ldc2 (np := 18) G 2 dX12_enlarge_15 lkX12_264 rfl rfl ?_
    refine r_ldc2 (np := 21) G 60 dX12_enlarge_18 lkX12_412 rfl rfl ?_
    obtain ⟨b7, s8, e9, hm⟩ := call_t hm
    refine m_callSI (np := 24) G hM hl.1 [vL (wI v2), vL 2, vL 60] (qX12_within l E s4 (wI v2) 2 60 _ e9) myX12_within lkX12_113 ⟨Nat.le_of_ble_eq_true rfl, Nat.le_of_ble_eq_true rfl⟩ ⟨Nat.le_of_ble_eq_true rfl, Nat.le_of_ble_eq_true rfl⟩ [] rfl (Nat.le_of_ble_eq_true rfl) dX12_enlarge_21 rfl (fun H locs hM => ?_)
    refine r_if_eq (np := 27) (tgt := 34) G rfl dX12_enlarge_24 (by decide) rfl (fun h10 => ?_) (fun h10 => ?_)
    · have hm := b_t h10 hm
      refine r_iconst (np := 35) G (-1) dX12_enlarge_34 rfl ?_
      exact r_iret G hr hk hM hm dX12_enlarge_35
    · have hm := b_f h10 hm
      refine r_iload_n (np := 28) G hl 2 rfl dX12_enlarge_27 rfl rfl ?_
      obtain ⟨b11, s12, e13, hm⟩ := call_t hm
      refine m_callSI (np := 31) G hM hl.1 [vI v2] (qX12_isPrime l E s8 v2 _ e13) myX12_isPrime lkX12_248 ⟨Nat.le_of_ble_eq_true rfl, Nat.le_of_ble_eq_true rfl⟩ ⟨Nat.le_of_ble_eq_true rfl, Nat.le_of_ble_eq_true rfl⟩ [] rfl (Nat.le_of_ble_eq_true rfl) dX12_enlarge_28 rfl (fun H locs hM => ?_)
      refine r_if_ne (np := 34) (tgt := 36) G rfl dX12_enlarge_31 (by decide) rfl (fun h14 => ?_) (fun h14 => ?_)
      · have hm := b_f h14 hm
        refine r_aload_n (np := 37) G hl 0 rfl dX12_enlarge_36 rfl rfl ?_
        refine r_iload_n (np := 38) G hl 1 rfl dX12_enlarge_37 rfl rfl ?_
        refine r_iload_n (np := 39) G hl 2 rfl dX12_enlarge_38 rfl rfl ?_
        obtain ⟨b15, s16, e17, hm⟩ := call_t hm
        refine m_callVI (np := 42) G hM hl.1 [vI v1, vI v2] (qX12_hasMore l E s12 v0 v1 v2 _ e17) myX12_hasMore (shp_lt (gX12_hasMore e17) (by decide)) (gX12_hasMore e17) rfl (by decide) lkX12_414 ⟨Nat.le_of_ble_eq_true rfl, Nat.le_of_ble_eq_true rfl⟩ ⟨Nat.le_of_ble_eq_true rfl, Nat.le_of_ble_eq_true rfl⟩ [] rfl (Nat.le_of_ble_eq_true rfl) dX12_enlarge_39 rfl (fun H locs hM => ?_)
        refine r_if_ne (np := 45) (tgt := 47) G rfl dX12_enlarge_42 (by decide) rfl (fun h18 => ?_) (fun h18 => ?_)
        · have hm := b_f h18 hm
          refine r_aload_n (np := 48) G hl 0 rfl dX12_enlarge_47 rfl rfl ?_
          refine r_iload_n (np := 49) G hl 1 rfl dX12_enlarge_48 rfl rfl ?_
          refine r_iload_n (np := 50) G hl 1 rfl dX12_enlarge_49 rfl rfl ?_
          obtain ⟨b19, s20, e21, hm⟩ := call_t hm
          refine m_callVI (np := 53) G hM hl.1 [vI v1, vI v1] (qX12_discOf l E s16 v0 v1 v1 _ e21) myX12_discOf (shp_lt (gX12_discOf e21) (by decide)) (gX12_discOf e21) rfl (by decide) lkX12_393 ⟨Nat.le_of_ble_eq_true rfl, Nat.le_of_ble_eq_true rfl⟩ ⟨Nat.le_of_ble_eq_true rfl, Nat.le_of_ble_eq_true rfl⟩ [] rfl (Nat.le_of_ble_eq_true rfl) dX12_enlarge_50 rfl (fun H locs hM => ?_)
          refine r_istore_n (np := 54) G hl rfl [(3, vI b19), (0, .ref (eA E v0)), (1, vI v1), (2, vI v2)] dX12_enlarge_53 rfl rfl (by decide) rfl (fun ls hl => ?_)
          refine r_aload_n (np := 55) G hl 1 rfl dX12_enlarge_54 rfl rfl ?_
          refine r_iload_n (np := 56) G hl 2 rfl dX12_enlarge_55 rfl rfl ?_
          refine r_iload_n (np := 57) G hl 3 rfl dX12_enlarge_56 rfl rfl ?_
          obtain ⟨b22, s23, e24, hm⟩ := call_t hm
          refine m_callVI (np := 60) G hM hl.1 [vI v1, vI v2] (qX12_enlargesAt l E s20 v0 v1 v2 _ e24) myX12_enlargesAt (shp_lt (gX12_enlargesAt e24) (by decide)) (gX12_enlargesAt e24) rfl (by decide) lkX12_417 ⟨Nat.le_of_ble_eq_true rfl, Nat.le_of_ble_eq_true rfl⟩ ⟨Nat.le_of_ble_eq_true rfl, Nat.le_of_ble_eq_true rfl⟩ [] rfl (Nat.le_of_ble_eq_true rfl) dX12_enlarge_57 rfl (fun H locs hM => ?_)
          refine r_if_eq (np := 63) (tgt := 74) G rfl dX12_enlarge_60 (by decide) rfl (fun h25 => ?_) (fun h25 => ?_)
          · have hm := b_t h25 hm
            refine r_iconst (np := 75) G 0 dX12_enlarge_74 rfl ?_
            exact r_iret G hr hk hM hm dX12_enlarge_75
          · have hm := b_f h25 hm
            refine r_iload_n (np := 64) G hl 0 rfl dX12_enlarge_63 rfl rfl ?_
            refine r_aload_n (np := 65) G hl 1 rfl dX12_enlarge_64 rfl rfl ?_
            refine r_iload_n (np := 66) G hl 2 rfl dX12_enlarge_65 rfl rfl ?_
            refine r_iload_n (np := 67) G hl 2 rfl dX12_enlarge_66 rfl rfl ?_
            obtain ⟨b26, s27, e28, hm⟩ := call_t hm
            refine m_callVI (np := 70) G hM hl.1 [vI v1, vI v1] (qX12_discOf l E s23 v0 v1 v1 _ e28) myX12_discOf (shp_lt (gX12_discOf e28) (by decide)) (gX12_discOf e28) rfl (by decide) lkX12_393 ⟨Nat.le_of_ble_eq_true rfl, Nat.le_of_ble_eq_true rfl⟩ ⟨Nat.le_of_ble_eq_true rfl, Nat.le_of_ble_eq_true rfl⟩ [vI b19] rfl (Nat.le_of_ble_eq_true rfl) dX12_enlarge_67 rfl (fun H locs hM => ?_)
            obtain ⟨g29, hm⟩ := g_t hm
            refine r_idiv (np := 71) G g29 dX12_enlarge_70 rfl ?_
            refine r_goto (np := 75) G dX12_enlarge_71 (by decide) ?_
            exact r_iret G hr hk hM hm dX12_enlarge_75
        · have hm := b_t h18 hm
          refine r_iconst (np := 46) G 0 dX12_enlarge_45 rfl ?_
          exact r_iret G hr hk hM hm dX12_enlarge_46
      · have hm := b_t h14 hm
        refine r_iconst (np := 35) G (-1) dX12_enlarge_34 rfl ?_
        exact r_iret G hr hk hM hm dX12_enlarge_35
theorem gX12_enlarge {v0 : Nat} {v1 : Int} {v2 : Int} {σ : mSt} {out : Int × mSt} (hm : mX12_enlarge v0 v1 v2 σ = some out) : isC v0 11 := (g_t hm).1
set_option maxRecDepth 100000 in
set_option maxHeartbeats 4000000 in
theorem wX12_greatest_B62 (l : Launch) (E : mE) (out : Int × mSt) {p : Program} {e : Env} {s : State} {m : MethodId} {args : Array Value} {below : List Frame} {meth : Method} {c : Code} (G : CallFix p m c cX12_greatest 4 s args mTs RX12) (hr : meth.sig.returnType = (some .int)) (hk : meth.locks = false) (v0 : Nat) (v1 : Int) (g0 : isC v0 11) : ∀ (v2 : Int) (σ : mSt) (H : Heap) (locs : List Loc) (ls : Array Slot), mX12_greatest_B62 v0 v1 v2 σ = some out → mM (mA E 276) E 276 σ s H locs → lv_has ls 4 [(2, vI v2)] → mGo l p e 18 435 s m args below meth c E (some (vI out.1)) out.2 H locs (F0 m 62 ls []) := by
  intro v2 σ H locs ls hm hM hl
  unfold mX12_greatest_B62 at hm
  refine r_iload_n (np := 63) G hl 0 rfl dX12_greatest_62 rfl rfl ?_
  exact r_iret G hr hk hM hm dX12_greatest_63
set_option maxRecDepth 100000 in
set_option maxHeartbeats 4000000 in
theorem wX12_greatest_L19 (l : Launch) (E : mE) (out : Int × mSt) {p : Program} {e : Env} {s : State} {m : MethodId} {args : Array Value} {below : List Frame} {meth : Method} {c : Code} (G : CallFix p m c cX12_greatest 4 s args mTs RX12) (hr : meth.sig.returnType = (some .int)) (hk : meth.locks = false) (v0 : Nat) (v1 : Int) (g0 : isC v0 11) (x62 : Int → mSt → Option (Int × mSt)) (hx62 : ∀ (v2 : Int) (σ : mSt) (H : Heap) (locs : List Loc) (ls : Array Slot), x62 v2 σ = some out → mM (mA E 276) E 276 σ s H locs → lv_has ls 4 [(2, vI v2)] → mGo l p e 18 435 s m args below meth c E (some (vI out.1)) out.2 H locs (F0 m 62 ls [])) : ∀ (n : Nat) (v2 : Int) (v3 : Int) (σ : mSt) (H : Heap) (locs : List Loc) (ls : Array Slot), mX12_greatest_L19 v0 v1 x62 n v2 v3 σ = some out → mM (mA E 276) E 276 σ s H locs → lv_has ls 4 [(0, .ref (eA E v0)), (1, vI v1), (2, vI v2), (3, vI v3)] → mGo l p e 18 435 s m args below meth c E (some (vI out.1)) out.2 H locs (F0 m 19 ls []) := by
  intro n
  induction n with
  | zero =>
    intro v2 v3 σ H locs ls hm hM hl
    exact absurd hm (by rw [mX12_greatest_L19.eq_1]; exact fun h => nomatch h)
  | succ n ih =>
    intro v2 v3 σ H locs ls hm hM hl
    rw [mX12_greatest_L19.eq_2] at hm
    refine r_iload_n (np := 20) G hl 3 rfl dX12_greatest_19 rfl rfl ?_
    refine r_bipush (np := 22) G 60 dX12_greatest_20 (by decide) rfl ?_
    refine r_icmp_gt (np := 25) (tgt := 62) G rfl (wIk 60 rfl) dX12_greatest_22 (by decide) rfl (fun h1 => ?_) (fun h1 => ?_)
    · have hm := b_t h1 hm
      exact hx62 v2 _ _ _ _ hm hM (lv_sub hl [2] rfl)
    · have hm := b_f h1 hm
      refine r_iload_n (np := 26) G hl 3 rfl dX12_greatest_25 rfl rfl ?_
      obtain ⟨b2, s3, e4, hm⟩ := call_t hm
      refine m_callSI (np := 29) G hM hl.1 [vI v3] (qX12_isPrime l E σ v3 _ e4) myX12_isPrime lkX12_248 ⟨Nat.le_of_ble_eq_true rfl, Nat.le_of_ble_eq_true rfl⟩ ⟨Nat.le_of_ble_eq_true rfl, Nat.le_of_ble_eq_true rfl⟩ [] rfl (Nat.le_of_ble_eq_true rfl) dX12_greatest_26 rfl (fun H locs hM => ?_)
      refine r_if_eq (np := 32) (tgt := 56) G rfl dX12_greatest_29 (by decide) rfl (fun h5 => ?_) (fun h5 => ?_)
      · have hm := b_t h5 hm
        obtain ⟨a6, e7, hm⟩ := bnd_t hm
        refine r_iinc (np := 59) G hl 3 rfl e7 [(3, vI a6), (0, .ref (eA E v0)), (1, vI v1), (2, vI v2)] dX12_greatest_56 rfl (by decide) rfl (fun ls hl => ?_)
        refine r_goto (np := 19) G dX12_greatest_59 (by decide) ?_
        exact ih v2 a6 _ _ _ _ hm hM (lv_sub hl [1, 2, 3, 0] rfl)
      · have hm := b_f h5 hm
        refine r_aload_n (np := 33) G hl 0 rfl dX12_greatest_32 rfl rfl ?_
        refine r_iload_n (np := 34) G hl 1 rfl dX12_greatest_33 rfl rfl ?_
        refine r_iload_n (np := 35) G hl 3 rfl dX12_greatest_34 rfl rfl ?_
        obtain ⟨b8, s9, e10, hm⟩ := call_t hm
        refine m_callVI (np := 38) G hM hl.1 [vI v1, vI v3] (qX12_hasMore l E s3 v0 v1 v3 _ e10) myX12_hasMore (shp_lt (gX12_hasMore e10) (by decide)) (gX12_hasMore e10) rfl (by decide) lkX12_414 ⟨Nat.le_of_ble_eq_true rfl, Nat.le_of_ble_eq_true rfl⟩ ⟨Nat.le_of_ble_eq_true rfl, Nat.le_of_ble_eq_true rfl⟩ [] rfl (Nat.le_of_ble_eq_true rfl) dX12_greatest_35 rfl (fun H locs hM => ?_)
        refine r_if_eq (np := 41) (tgt := 56) G rfl dX12_greatest_38 (by decide) rfl (fun h11 => ?_) (fun h11 => ?_)
        · have hm := b_t h11 hm
          obtain ⟨a12, e13, hm⟩ := bnd_t hm
          refine r_iinc (np := 59) G hl 3 rfl e13 [(3, vI a12), (0, .ref (eA E v0)), (1, vI v1), (2, vI v2)] dX12_greatest_56 rfl (by decide) rfl (fun ls hl => ?_)
          refine r_goto (np := 19) G dX12_greatest_59 (by decide) ?_
          exact ih v2 a12 _ _ _ _ hm hM (lv_sub hl [1, 2, 3, 0] rfl)
        · have hm := b_f h11 hm
          refine r_aload_n (np := 42) G hl 0 rfl dX12_greatest_41 rfl rfl ?_
          refine r_iload_n (np := 43) G hl 1 rfl dX12_greatest_42 rfl rfl ?_
          refine r_iload_n (np := 44) G hl 3 rfl dX12_greatest_43 rfl rfl ?_
          obtain ⟨b14, s15, e16, hm⟩ := call_t hm
          refine m_callVI (np := 47) G hM hl.1 [vI v1, vI v3] (qX12_enlargesAt l E s9 v0 v1 v3 _ e16) myX12_enlargesAt (shp_lt (gX12_enlargesAt e16) (by decide)) (gX12_enlargesAt e16) rfl (by decide) lkX12_417 ⟨Nat.le_of_ble_eq_true rfl, Nat.le_of_ble_eq_true rfl⟩ ⟨Nat.le_of_ble_eq_true rfl, Nat.le_of_ble_eq_true rfl⟩ [] rfl (Nat.le_of_ble_eq_true rfl) dX12_greatest_44 rfl (fun H locs hM => ?_)
          refine r_if_eq (np := 50) (tgt := 56) G rfl dX12_greatest_47 (by decide) rfl (fun h17 => ?_) (fun h17 => ?_)
          · have hm := b_t h17 hm
            obtain ⟨a18, e19, hm⟩ := bnd_t hm
            refine r_iinc (np := 59) G hl 3 rfl e19 [(3, vI a18), (0, .ref (eA E v0)), (1, vI v1), (2, vI v2)] dX12_greatest_56 rfl (by decide) rfl (fun ls hl => ?_)
            refine r_goto (np := 19) G dX12_greatest_59 (by decide) ?_
            exact ih v2 a18 _ _ _ _ hm hM (lv_sub hl [1, 2, 3, 0] rfl)
          · have hm := b_f h17 hm
            obtain ⟨a20, e21, hm⟩ := bnd_t hm
            refine r_iinc (np := 53) G hl 2 rfl e21 [(2, vI a20), (0, .ref (eA E v0)), (1, vI v1), (3, vI v3)] dX12_greatest_50 rfl (by decide) rfl (fun ls hl => ?_)
            refine r_goto (np := 19) G dX12_greatest_53 (by decide) ?_
            exact ih a20 v3 _ _ _ _ hm hM (lv_sub hl [1, 2, 0, 3] rfl)
set_option maxRecDepth 100000 in
set_option maxHeartbeats 4000000 in
theorem qX12_greatest (l : Launch) (E : mE) (σ : mSt) (v0 : Nat) (v1 : Int) (out : Int × mSt) (hm : mX12_greatest v0 v1 σ = some out) : mMet l yX12_greatest cX12_greatest 4 (some .int) 18 435 E 276 [.ref (eA E v0), vI v1] σ (some (vI out.1)) out.2 := by
  unfold mX12_greatest at hm
  obtain ⟨g0, hm⟩ := g_t hm
  refine m_entry (by decide +kernel) (Nat.le_of_ble_eq_true rfl) (fun p e s m args below meth c G hr hk hM ls hl => ?_)
  have G : CallFix p m c cX12_greatest 4 s args mTs RX12 := G
  have hl : lv_has ls 4 [(0, .ref (eA E v0)), (1, vI v1)] := hl
  refine r_aload_n (np := 1) G hl 0 rfl dX12_greatest_0 rfl rfl ?_
  refine r_iconst (np := 2) G 0 dX12_greatest_1 rfl ?_
  obtain ⟨s22, e23, hm⟩ := bnd_t hm
  refine r_putI (np := 5) G hM (shp_lt g0 (by decide)) g0 ptX12_0 rfl lkX12_75 s22 e23 dX12_greatest_2 rfl (fun H locs hM => ?_)
  refine r_aload_n (np := 6) G hl 0 rfl dX12_greatest_5 rfl rfl ?_
  refine r_iload_n (np := 7) G hl 1 rfl dX12_greatest_6 rfl rfl ?_
  obtain ⟨b24, s25, e26, hm⟩ := call_t hm
  refine m_callVI (np := 10) G hM hl.1 [vI v1] (qX12_isQuaternion l E s22 v0 v1 _ e26) myX12_isQuaternion (shp_lt (gX12_isQuaternion e26) (by decide)) (gX12_isQuaternion e26) rfl (by decide) lkX12_288 ⟨Nat.le_of_ble_eq_true rfl, Nat.le_of_ble_eq_true rfl⟩ ⟨Nat.le_of_ble_eq_true rfl, Nat.le_of_ble_eq_true rfl⟩ [] rfl (Nat.le_of_ble_eq_true rfl) dX12_greatest_7 rfl (fun H locs hM => ?_)
  refine r_if_ne (np := 13) (tgt := 15) G rfl dX12_greatest_10 (by decide) rfl (fun h27 => ?_) (fun h27 => ?_)
  · have hm := b_f h27 hm
    refine r_iconst (np := 16) G 0 dX12_greatest_15 rfl ?_
    refine r_istore_n (np := 17) G hl rfl [(2, vI 0), (0, .ref (eA E v0)), (1, vI v1)] dX12_greatest_16 rfl rfl (by decide) rfl (fun ls hl => ?_)
    refine r_iconst (np := 18) G 2 dX12_greatest_17 rfl ?_
    refine r_istore_n (np := 19) G hl rfl [(3, vI 2), (2, vI 0), (0, .ref (eA E v0)), (1, vI v1)] dX12_greatest_18 rfl rfl (by decide) rfl (fun ls hl => ?_)
    exact wX12_greatest_L19 l E out G hr hk v0 v1 g0 (fun z2 zσ => mX12_greatest_B62 v0 v1 z2 zσ) (fun z2 zσ zH zl zs zm zM zv => wX12_greatest_B62 l E out G hr hk v0 v1 g0 z2 zσ zH zl zs zm zM zv) mF 0 2 _ _ _ _ hm hM (lv_sub hl [2, 3, 1, 0] rfl)
  · have hm := b_t h27 hm
    refine r_iconst (np := 14) G (-1) dX12_greatest_13 rfl ?_
    exact r_iret G hr hk hM hm dX12_greatest_14
theorem gX12_greatest {v0 : Nat} {v1 : Int} {σ : mSt} {out : Int × mSt} (hm : mX12_greatest v0 v1 σ = some out) : isC v0 11 := (g_t hm).1
set_option maxRecDepth 100000 in
set_option maxHeartbeats 4000000 in
theorem qX12_plain (l : Launch) (E : mE) (σ : mSt) (v0 : Nat) (v1 : Int) (out : Int × mSt) (hm : mX12_plain v0 v1 σ = some out) : mMet l yX12_plain cX12_plain 2 (some .boolean) 3 67 E 276 [.ref (eA E v0), vI v1] σ (some (vI out.1)) out.2 := by
  unfold mX12_plain at hm
  obtain ⟨g0, hm⟩ := g_t hm
  refine m_entry (by decide +kernel) (Nat.le_of_ble_eq_true rfl) (fun p e s m args below meth c G hr hk hM ls hl => ?_)
  have G : CallFix p m c cX12_plain 2 s args mTs RX12 := G
  have hl : lv_has ls 2 [(0, .ref (eA E v0)), (1, vI v1)] := hl
  refine r_aload_n (np := 1) G hl 0 rfl dX12_plain_0 rfl rfl ?_
  refine r_iconst (np := 2) G 0 dX12_plain_1 rfl ?_
  obtain ⟨s1, e2, hm⟩ := bnd_t hm
  refine r_putI (np := 5) G hM (shp_lt g0 (by decide)) g0 ptX12_0 rfl lkX12_75 s1 e2 dX12_plain_2 rfl (fun H locs hM => ?_)
  refine r_aload_n (np := 6) G hl 0 rfl dX12_plain_5 rfl rfl ?_
  refine r_iload_n (np := 7) G hl 1 rfl dX12_plain_6 rfl rfl ?_
  obtain ⟨b3, s4, e5, hm⟩ := call_t hm
  refine m_callVI (np := 10) G hM hl.1 [vI v1] (qX12_isQuaternion l E s1 v0 v1 _ e5) myX12_isQuaternion (shp_lt (gX12_isQuaternion e5) (by decide)) (gX12_isQuaternion e5) rfl (by decide) lkX12_288 ⟨Nat.le_of_ble_eq_true rfl, Nat.le_of_ble_eq_true rfl⟩ ⟨Nat.le_of_ble_eq_true rfl, Nat.le_of_ble_eq_true rfl⟩ [] rfl (Nat.le_of_ble_eq_true rfl) dX12_plain_7 rfl (fun H locs hM => ?_)
  refine r_if_ne (np := 13) (tgt := 15) G rfl dX12_plain_10 (by decide) rfl (fun h6 => ?_) (fun h6 => ?_)
  · have hm := b_f h6 hm
    refine r_aload_n (np := 16) G hl 0 rfl dX12_plain_15 rfl rfl ?_
    refine r_iload_n (np := 17) G hl 1 rfl dX12_plain_16 rfl rfl ?_
    obtain ⟨b7, s8, e9, hm⟩ := call_t hm
    refine m_callVV (np := 20) G hM hl.1 [vI v1] (qX12_laysPlain l E s4 v0 v1 _ e9) myX12_laysPlain (shp_lt (gX12_laysPlain e9) (by decide)) (gX12_laysPlain e9) rfl (by decide) lkX12_216 ⟨Nat.le_of_ble_eq_true rfl, Nat.le_of_ble_eq_true rfl⟩ ⟨Nat.le_of_ble_eq_true rfl, Nat.le_of_ble_eq_true rfl⟩ [] rfl (Nat.le_of_ble_eq_true rfl) dX12_plain_17 rfl (fun H locs hM => ?_)
    refine r_iconst (np := 21) G 1 dX12_plain_20 rfl ?_
    exact r_zret G hr hk hM (Or.inr rfl) hm dX12_plain_21
  · have hm := b_t h6 hm
    refine r_iconst (np := 14) G 0 dX12_plain_13 rfl ?_
    exact r_zret G hr hk hM (Or.inl rfl) hm dX12_plain_14
theorem gX12_plain {v0 : Nat} {v1 : Int} {σ : mSt} {out : Int × mSt} (hm : mX12_plain v0 v1 σ = some out) : isC v0 11 := (g_t hm).1
set_option maxRecDepth 100000 in
set_option maxHeartbeats 4000000 in
theorem wX12_holds_B219 (l : Launch) (E : mE) (out : Int × mSt) {p : Program} {e : Env} {s : State} {m : MethodId} {args : Array Value} {below : List Frame} {meth : Method} {c : Code} (G : CallFix p m c cX12_holds 9 s args mTs RX12) (hr : meth.sig.returnType = (some .boolean)) (hk : meth.locks = false) (v0 : Nat) (v1 : Int) (v2 : Int) (g0 : isC v0 11) : ∀ (σ : mSt) (H : Heap) (locs : List Loc) (ls : Array Slot), mX12_holds_B219 v0 v1 v2 σ = some out → mM (mA E 276) E 276 σ s H locs → lv_has ls 9 [] → mGo l p e 1 29 s m args below meth c E (some (vI out.1)) out.2 H locs (F0 m 219 ls []) := by
  intro σ H locs ls hm hM hl
  unfold mX12_holds_B219 at hm
  refine r_iconst (np := 220) G 1 dX12_holds_219 rfl ?_
  exact r_zret G hr hk hM (Or.inr rfl) hm dX12_holds_220
set_option maxRecDepth 100000 in
set_option maxHeartbeats 4000000 in
theorem wX12_holds_B213 (l : Launch) (E : mE) (out : Int × mSt) {p : Program} {e : Env} {s : State} {m : MethodId} {args : Array Value} {below : List Frame} {meth : Method} {c : Code} (G : CallFix p m c cX12_holds 9 s args mTs RX12) (hr : meth.sig.returnType = (some .boolean)) (hk : meth.locks = false) (v0 : Nat) (v1 : Int) (v2 : Int) (g0 : isC v0 11) (c116 : Int → mSt → Option (Int × mSt)) (x219 : mSt → Option (Int × mSt)) (hc116 : ∀ (v6 : Int) (σ : mSt) (H : Heap) (locs : List Loc) (ls : Array Slot), c116 v6 σ = some out → mM (mA E 276) E 276 σ s H locs → lv_has ls 9 [(0, .ref (eA E v0)), (1, vI v1), (6, vI v6)] → mGo l p e 1 29 s m args below meth c E (some (vI out.1)) out.2 H locs (F0 m 116 ls [])) (hx219 : ∀ (σ : mSt) (H : Heap) (locs : List Loc) (ls : Array Slot), x219 σ = some out → mM (mA E 276) E 276 σ s H locs → lv_has ls 9 [] → mGo l p e 1 29 s m args below meth c E (some (vI out.1)) out.2 H locs (F0 m 219 ls [])) : ∀ (v6 : Int) (σ : mSt) (H : Heap) (locs : List Loc) (ls : Array Slot), mX12_holds_B213 v0 v1 v2 c116 x219 v6 σ = some out → mM (mA E 276) E 276 σ s H locs → lv_has ls 9 [(0, .ref (eA E v0)), (1, vI v1), (6, vI v6)] → mGo l p e 1 29 s m args below meth c E (some (vI out.1)) out.2 H locs (F0 m 213 ls []) := by
  intro v6 σ H locs ls hm hM hl
  unfold mX12_holds_B213 at hm
  obtain ⟨a1, e2, hm⟩ := bnd_t hm
  refine r_iinc (np := 216) G hl 2 rfl e2 [(6, vI a1), (0, .ref (eA E v0)), (1, vI v1)] dX12_holds_213 rfl (by decide) rfl (fun ls hl => ?_)
  refine r_goto (np := 116) G dX12_holds_216 (by decide) ?_
  exact hc116 a1 _ _ _ _ hm hM (lv_sub hl [1, 2, 0] rfl)
set_option maxRecDepth 100000 in
set_option maxHeartbeats 4000000 in
theorem wX12_holds_L174 (l : Launch) (E : mE) (out : Int × mSt) {p : Program} {e : Env} {s : State} {m : MethodId} {args : Array Value} {below : List Frame} {meth : Method} {c : Code} (G : CallFix p m c cX12_holds 9 s args mTs RX12) (hr : meth.sig.returnType = (some .boolean)) (hk : meth.locks = false) (v0 : Nat) (v1 : Int) (v2 : Int) (v6 : Int) (g0 : isC v0 11) (x213 : mSt → Option (Int × mSt)) (hx213 : ∀ (σ : mSt) (H : Heap) (locs : List Loc) (ls : Array Slot), x213 σ = some out → mM (mA E 276) E 276 σ s H locs → lv_has ls 9 [(0, .ref (eA E v0)), (1, vI v1), (6, vI v6)] → mGo l p e 1 29 s m args below meth c E (some (vI out.1)) out.2 H locs (F0 m 213 ls [])) : ∀ (n : Nat) (v7 : Int) (σ : mSt) (H : Heap) (locs : List Loc) (ls : Array Slot), mX12_holds_L174 v0 v1 v2 v6 x213 n v7 σ = some out → mM (mA E 276) E 276 σ s H locs → lv_has ls 9 [(0, .ref (eA E v0)), (1, vI v1), (6, vI v6), (7, vI v7)] → mGo l p e 1 29 s m args below meth c E (some (vI out.1)) out.2 H locs (F0 m 174 ls []) := by
  intro n
  induction n with
  | zero =>
    intro v7 σ H locs ls hm hM hl
    exact absurd hm (by rw [mX12_holds_L174.eq_1]; exact fun h => nomatch h)
  | succ n ih =>
    intro v7 σ H locs ls hm hM hl
    rw [mX12_holds_L174.eq_2] at hm
    refine r_iload (np := 176) G hl 3 rfl dX12_holds_174 rfl ?_
    refine r_iconst (np := 177) G 4 dX12_holds_176 rfl ?_
    refine r_icmp_ge (np := 180) (tgt := 213) G rfl (wIk 4 rfl) dX12_holds_177 (by decide) rfl (fun h3 => ?_) (fun h3 => ?_)
    · have hm := b_t h3 hm
      exact hx213 _ _ _ _ hm hM (lv_sub hl [0, 1, 2] rfl)
    · have hm := b_f h3 hm
      refine r_aload_n (np := 181) G hl 0 rfl dX12_holds_180 rfl rfl ?_
      obtain ⟨r4, e5, hm⟩ := ref_t hm
      refine r_getR (np := 184) G hM (shp_lt g0 (by decide)) g0 e5 fdX12_32 lkX12_66 dX12_holds_181 rfl ?_
      refine r_iload (np := 186) G hl 3 rfl dX12_holds_184 rfl ?_
      refine r_dup2 (np := 187) G dX12_holds_186 rfl rfl rfl ?_
      obtain ⟨g6, hm⟩ := g_t hm
      refine r_laload (np := 188) G hM g6 rfl dX12_holds_187 rfl ?_
      refine r_aload_n (np := 189) G hl 0 rfl dX12_holds_188 rfl rfl ?_
      obtain ⟨r7, e8, hm⟩ := ref_t hm
      refine r_getR (np := 192) G hM (shp_lt g0 (by decide)) g0 e8 fdX12_33 lkX12_69 dX12_holds_189 rfl ?_
      refine r_iload (np := 194) G hl 2 rfl dX12_holds_192 rfl ?_
      obtain ⟨g9, hm⟩ := g_t hm
      refine r_laload (np := 195) G hM g9 rfl dX12_holds_194 rfl ?_
      refine r_aload_n (np := 196) G hl 0 rfl dX12_holds_195 rfl rfl ?_
      refine r_iload_n (np := 197) G hl 1 rfl dX12_holds_196 rfl rfl ?_
      refine r_iload (np := 199) G hl 2 rfl dX12_holds_197 rfl ?_
      refine r_iload (np := 201) G hl 3 rfl dX12_holds_199 rfl ?_
      obtain ⟨b10, s11, e12, hm⟩ := call_t hm
      refine m_callVL (np := 204) G hM hl.1 [vI v1, vI v6, vI v7] (qX12_get l E σ v0 v1 v6 v7 _ e12) myX12_get (shp_lt (gX12_get e12) (by decide)) (gX12_get e12) rfl (by decide) lkX12_355 ⟨Nat.le_of_ble_eq_true rfl, Nat.le_of_ble_eq_true rfl⟩ ⟨Nat.le_of_ble_eq_true rfl, Nat.le_of_ble_eq_true rfl⟩ [vL (σ r7 (wI v6).toNat), vL (σ r4 (wI v7).toNat), vI v7, .ref (eA E r4)] rfl (Nat.le_of_ble_eq_true rfl) dX12_holds_201 rfl (fun H locs hM => ?_)
      refine r_lmul (np := 205) G dX12_holds_204 rfl ?_
      refine r_lsub (np := 206) G dX12_holds_205 rfl ?_
      obtain ⟨s13, e14, hm⟩ := bnd_t hm
      refine r_lastore (np := 207) G hM g6 rfl s13 e14 dX12_holds_206 rfl (fun H locs hM => ?_)
      obtain ⟨a15, e16, hm⟩ := bnd_t hm
      refine r_iinc (np := 210) G hl 3 rfl e16 [(7, vI a15), (0, .ref (eA E v0)), (1, vI v1), (6, vI v6)] dX12_holds_207 rfl (by decide) rfl (fun ls hl => ?_)
      refine r_goto (np := 174) G dX12_holds_210 (by decide) ?_
      exact ih a15 _ _ _ _ hm hM (lv_sub hl [1, 2, 3, 0] rfl)
set_option maxRecDepth 100000 in
set_option maxHeartbeats 4000000 in
theorem wX12_holds_L116 (l : Launch) (E : mE) (out : Int × mSt) {p : Program} {e : Env} {s : State} {m : MethodId} {args : Array Value} {below : List Frame} {meth : Method} {c : Code} (G : CallFix p m c cX12_holds 9 s args mTs RX12) (hr : meth.sig.returnType = (some .boolean)) (hk : meth.locks = false) (v0 : Nat) (v1 : Int) (v2 : Int) (g0 : isC v0 11) (x219 : mSt → Option (Int × mSt)) (hx219 : ∀ (σ : mSt) (H : Heap) (locs : List Loc) (ls : Array Slot), x219 σ = some out → mM (mA E 276) E 276 σ s H locs → lv_has ls 9 [] → mGo l p e 1 29 s m args below meth c E (some (vI out.1)) out.2 H locs (F0 m 219 ls [])) : ∀ (n : Nat) (v6 : Int) (σ : mSt) (H : Heap) (locs : List Loc) (ls : Array Slot), mX12_holds_L116 v0 v1 v2 x219 n v6 σ = some out → mM (mA E 276) E 276 σ s H locs → lv_has ls 9 [(0, .ref (eA E v0)), (1, vI v1), (6, vI v6)] → mGo l p e 1 29 s m args below meth c E (some (vI out.1)) out.2 H locs (F0 m 116 ls []) := by
  intro n
  induction n with
  | zero =>
    intro v6 σ H locs ls hm hM hl
    exact absurd hm (by rw [mX12_holds_L116.eq_1]; exact fun h => nomatch h)
  | succ n ih =>
    intro v6 σ H locs ls hm hM hl
    rw [mX12_holds_L116.eq_2] at hm
    refine r_iload (np := 118) G hl 2 rfl dX12_holds_116 rfl ?_
    refine r_iconst (np := 119) G 4 dX12_holds_118 rfl ?_
    refine r_icmp_ge (np := 122) (tgt := 219) G rfl (wIk 4 rfl) dX12_holds_119 (by decide) rfl (fun h17 => ?_) (fun h17 => ?_)
    · have hm := b_t h17 hm
      exact hx219 _ _ _ _ hm hM (lv_sub hl [] rfl)
    · have hm := b_f h17 hm
      refine r_aload_n (np := 123) G hl 0 rfl dX12_holds_122 rfl rfl ?_
      obtain ⟨r18, e19, hm⟩ := ref_t hm
      refine r_getR (np := 126) G hM (shp_lt g0 (by decide)) g0 e19 fdX12_32 lkX12_66 dX12_holds_123 rfl ?_
      refine r_iload (np := 128) G hl 2 rfl dX12_holds_126 rfl ?_
      obtain ⟨g20, hm⟩ := g_t hm
      refine r_laload (np := 129) G hM g20 rfl dX12_holds_128 rfl ?_
      refine r_aload_n (np := 130) G hl 0 rfl dX12_holds_129 rfl rfl ?_
      refine r_iload_n (np := 131) G hl 1 rfl dX12_holds_130 rfl rfl ?_
      refine r_iload (np := 133) G hl 2 rfl dX12_holds_131 rfl ?_
      refine r_iload (np := 135) G hl 2 rfl dX12_holds_133 rfl ?_
      obtain ⟨b21, s22, e23, hm⟩ := call_t hm
      refine m_callVL (np := 138) G hM hl.1 [vI v1, vI v6, vI v6] (qX12_get l E σ v0 v1 v6 v6 _ e23) myX12_get (shp_lt (gX12_get e23) (by decide)) (gX12_get e23) rfl (by decide) lkX12_355 ⟨Nat.le_of_ble_eq_true rfl, Nat.le_of_ble_eq_true rfl⟩ ⟨Nat.le_of_ble_eq_true rfl, Nat.le_of_ble_eq_true rfl⟩ [vL (σ r18 (wI v6).toNat)] rfl (Nat.le_of_ble_eq_true rfl) dX12_holds_135 rfl (fun H locs hM => ?_)
      obtain ⟨g24, hm⟩ := g_t hm
      refine r_lrem (np := 139) G g24 dX12_holds_138 rfl ?_
      refine r_lconst (np := 140) G 0 dX12_holds_139 rfl rfl ?_
      refine r_lcmp_eq (np := 144) (tgt := 146) G rfl (wLk 0 rfl) dX12_holds_140 dX12_holds_141 (by decide) rfl (fun h25 => ?_) (fun h25 => ?_)
      · have hm := b_t h25 hm
        refine r_aload_n (np := 147) G hl 0 rfl dX12_holds_146 rfl rfl ?_
        obtain ⟨r26, e27, hm⟩ := ref_t hm
        refine r_getR (np := 150) G hM (shp_lt g0 (by decide)) g0 e27 fdX12_33 lkX12_69 dX12_holds_147 rfl ?_
        refine r_iload (np := 152) G hl 2 rfl dX12_holds_150 rfl ?_
        refine r_aload_n (np := 153) G hl 0 rfl dX12_holds_152 rfl rfl ?_
        obtain ⟨r28, e29, hm⟩ := ref_t hm
        refine r_getR (np := 156) G hM (shp_lt g0 (by decide)) g0 e29 fdX12_32 lkX12_66 dX12_holds_153 rfl ?_
        refine r_iload (np := 158) G hl 2 rfl dX12_holds_156 rfl ?_
        obtain ⟨g30, hm⟩ := g_t hm
        refine r_laload (np := 159) G hM g30 rfl dX12_holds_158 rfl ?_
        refine r_aload_n (np := 160) G hl 0 rfl dX12_holds_159 rfl rfl ?_
        refine r_iload_n (np := 161) G hl 1 rfl dX12_holds_160 rfl rfl ?_
        refine r_iload (np := 163) G hl 2 rfl dX12_holds_161 rfl ?_
        refine r_iload (np := 165) G hl 2 rfl dX12_holds_163 rfl ?_
        obtain ⟨b31, s32, e33, hm⟩ := call_t hm
        refine m_callVL (np := 168) G hM hl.1 [vI v1, vI v6, vI v6] (qX12_get l E s22 v0 v1 v6 v6 _ e33) myX12_get (shp_lt (gX12_get e33) (by decide)) (gX12_get e33) rfl (by decide) lkX12_355 ⟨Nat.le_of_ble_eq_true rfl, Nat.le_of_ble_eq_true rfl⟩ ⟨Nat.le_of_ble_eq_true rfl, Nat.le_of_ble_eq_true rfl⟩ [vL (s22 r28 (wI v6).toNat), vI v6, .ref (eA E r26)] rfl (Nat.le_of_ble_eq_true rfl) dX12_holds_165 rfl (fun H locs hM => ?_)
        obtain ⟨g34, hm⟩ := g_t hm
        refine r_ldiv (np := 169) G g34 dX12_holds_168 rfl ?_
        obtain ⟨g35, hm⟩ := g_t hm
        obtain ⟨s36, e37, hm⟩ := bnd_t hm
        refine r_lastore (np := 170) G hM g35 rfl s36 e37 dX12_holds_169 rfl (fun H locs hM => ?_)
        refine r_iload (np := 172) G hl 2 rfl dX12_holds_170 rfl ?_
        refine r_istore (np := 174) G hl rfl [(7, vI v6), (0, .ref (eA E v0)), (1, vI v1), (6, vI v6)] dX12_holds_172 rfl (by decide) rfl (fun ls hl => ?_)
        exact wX12_holds_L174 l E out G hr hk v0 v1 v2 v6 g0 (fun zσ => mX12_holds_B213 v0 v1 v2 (mX12_holds_L116 v0 v1 v2 x219 n) x219 v6 zσ) (fun zσ zH zl zs zm zM zv => wX12_holds_B213 l E out G hr hk v0 v1 v2 g0 (mX12_holds_L116 v0 v1 v2 x219 n) x219 ih hx219 v6 zσ zH zl zs zm zM zv) mF v6 _ _ _ _ hm hM (lv_sub hl [1, 2, 3, 0] rfl)
      · have hm := b_f h25 hm
        refine r_iconst (np := 145) G 0 dX12_holds_144 rfl ?_
        exact r_zret G hr hk hM (Or.inl rfl) hm dX12_holds_145
set_option maxRecDepth 100000 in
set_option maxHeartbeats 4000000 in
theorem wX12_holds_B113 (l : Launch) (E : mE) (out : Int × mSt) {p : Program} {e : Env} {s : State} {m : MethodId} {args : Array Value} {below : List Frame} {meth : Method} {c : Code} (G : CallFix p m c cX12_holds 9 s args mTs RX12) (hr : meth.sig.returnType = (some .boolean)) (hk : meth.locks = false) (v0 : Nat) (v1 : Int) (v2 : Int) (g0 : isC v0 11) : ∀ (σ : mSt) (H : Heap) (locs : List Loc) (ls : Array Slot), mX12_holds_B113 v0 v1 v2 σ = some out → mM (mA E 276) E 276 σ s H locs → lv_has ls 9 [(0, .ref (eA E v0)), (1, vI v1)] → mGo l p e 1 29 s m args below meth c E (some (vI out.1)) out.2 H locs (F0 m 113 ls []) := by
  intro σ H locs ls hm hM hl
  unfold mX12_holds_B113 at hm
  refine r_iconst (np := 114) G 0 dX12_holds_113 rfl ?_
  refine r_istore (np := 116) G hl rfl [(6, vI 0), (0, .ref (eA E v0)), (1, vI v1)] dX12_holds_114 rfl (by decide) rfl (fun ls hl => ?_)
  exact wX12_holds_L116 l E out G hr hk v0 v1 v2 g0 (fun zσ => mX12_holds_B219 v0 v1 v2 zσ) (fun zσ zH zl zs zm zM zv => wX12_holds_B219 l E out G hr hk v0 v1 v2 g0 zσ zH zl zs zm zM zv) mF 0 _ _ _ _ hm hM (lv_sub hl [1, 2, 0] rfl)
set_option maxRecDepth 100000 in
set_option maxHeartbeats 4000000 in
theorem wX12_holds_L89 (l : Launch) (E : mE) (out : Int × mSt) {p : Program} {e : Env} {s : State} {m : MethodId} {args : Array Value} {below : List Frame} {meth : Method} {c : Code} (G : CallFix p m c cX12_holds 9 s args mTs RX12) (hr : meth.sig.returnType = (some .boolean)) (hk : meth.locks = false) (v0 : Nat) (v1 : Int) (v2 : Int) (v4 : Int) (g0 : isC v0 11) (x113 : mSt → Option (Int × mSt)) (hx113 : ∀ (σ : mSt) (H : Heap) (locs : List Loc) (ls : Array Slot), x113 σ = some out → mM (mA E 276) E 276 σ s H locs → lv_has ls 9 [(0, .ref (eA E v0)), (1, vI v1)] → mGo l p e 1 29 s m args below meth c E (some (vI out.1)) out.2 H locs (F0 m 113 ls [])) : ∀ (n : Nat) (v6 : Int) (σ : mSt) (H : Heap) (locs : List Loc) (ls : Array Slot), mX12_holds_L89 v0 v1 v2 v4 x113 n v6 σ = some out → mM (mA E 276) E 276 σ s H locs → lv_has ls 9 [(0, .ref (eA E v0)), (1, vI v1), (4, vL v4), (6, vI v6)] → mGo l p e 1 29 s m args below meth c E (some (vI out.1)) out.2 H locs (F0 m 89 ls []) := by
  intro n
  induction n with
  | zero =>
    intro v6 σ H locs ls hm hM hl
    exact absurd hm (by rw [mX12_holds_L89.eq_1]; exact fun h => nomatch h)
  | succ n ih =>
    intro v6 σ H locs ls hm hM hl
    rw [mX12_holds_L89.eq_2] at hm
    refine r_iload (np := 91) G hl 3 rfl dX12_holds_89 rfl ?_
    refine r_iconst (np := 92) G 4 dX12_holds_91 rfl ?_
    refine r_icmp_ge (np := 95) (tgt := 113) G rfl (wIk 4 rfl) dX12_holds_92 (by decide) rfl (fun h38 => ?_) (fun h38 => ?_)
    · have hm := b_t h38 hm
      exact hx113 _ _ _ _ hm hM (lv_sub hl [0, 1] rfl)
    · have hm := b_f h38 hm
      refine r_aload_n (np := 96) G hl 0 rfl dX12_holds_95 rfl rfl ?_
      obtain ⟨r39, e40, hm⟩ := ref_t hm
      refine r_getR (np := 99) G hM (shp_lt g0 (by decide)) g0 e40 fdX12_32 lkX12_66 dX12_holds_96 rfl ?_
      refine r_iload (np := 101) G hl 3 rfl dX12_holds_99 rfl ?_
      refine r_dup2 (np := 102) G dX12_holds_101 rfl rfl rfl ?_
      obtain ⟨g41, hm⟩ := g_t hm
      refine r_laload (np := 103) G hM g41 rfl dX12_holds_102 rfl ?_
      refine r_lload (np := 105) G hl 2 rfl dX12_holds_103 rfl ?_
      refine r_lmul (np := 106) G dX12_holds_105 rfl ?_
      obtain ⟨s42, e43, hm⟩ := bnd_t hm
      refine r_lastore (np := 107) G hM g41 rfl s42 e43 dX12_holds_106 rfl (fun H locs hM => ?_)
      obtain ⟨a44, e45, hm⟩ := bnd_t hm
      refine r_iinc (np := 110) G hl 3 rfl e45 [(6, vI a44), (0, .ref (eA E v0)), (1, vI v1), (4, vL v4)] dX12_holds_107 rfl (by decide) rfl (fun ls hl => ?_)
      refine r_goto (np := 89) G dX12_holds_110 (by decide) ?_
      exact ih a44 _ _ _ _ hm hM (lv_sub hl [1, 2, 3, 0] rfl)
set_option maxRecDepth 100000 in
set_option maxHeartbeats 4000000 in
theorem wX12_holds_B67 (l : Launch) (E : mE) (out : Int × mSt) {p : Program} {e : Env} {s : State} {m : MethodId} {args : Array Value} {below : List Frame} {meth : Method} {c : Code} (G : CallFix p m c cX12_holds 9 s args mTs RX12) (hr : meth.sig.returnType = (some .boolean)) (hk : meth.locks = false) (v0 : Nat) (v1 : Int) (v2 : Int) (g0 : isC v0 11) : ∀ (σ : mSt) (H : Heap) (locs : List Loc) (ls : Array Slot), mX12_holds_B67 v0 v1 v2 σ = some out → mM (mA E 276) E 276 σ s H locs → lv_has ls 9 [(0, .ref (eA E v0)), (1, vI v1), (2, vL v2)] → mGo l p e 1 29 s m args below meth c E (some (vI out.1)) out.2 H locs (F0 m 67 ls []) := by
  intro σ H locs ls hm hM hl
  unfold mX12_holds_B67 at hm
  refine r_aload_n (np := 68) G hl 0 rfl dX12_holds_67 rfl rfl ?_
  obtain ⟨r46, e47, hm⟩ := ref_t hm
  refine r_getR (np := 71) G hM (shp_lt g0 (by decide)) g0 e47 fdX12_30 lkX12_60 dX12_holds_68 rfl ?_
  refine r_iload_n (np := 72) G hl 1 rfl dX12_holds_71 rfl rfl ?_
  obtain ⟨g48, hm⟩ := g_t hm
  refine r_laload (np := 73) G hM g48 rfl dX12_holds_72 rfl ?_
  refine r_aload_n (np := 74) G hl 0 rfl dX12_holds_73 rfl rfl ?_
  obtain ⟨r49, e50, hm⟩ := ref_t hm
  refine r_getR (np := 77) G hM (shp_lt g0 (by decide)) g0 e50 fdX12_30 lkX12_60 dX12_holds_74 rfl ?_
  refine r_iload_n (np := 78) G hl 1 rfl dX12_holds_77 rfl rfl ?_
  obtain ⟨g51, hm⟩ := g_t hm
  refine r_laload (np := 79) G hM g51 rfl dX12_holds_78 rfl ?_
  refine r_lload_n (np := 80) G hl 2 rfl dX12_holds_79 rfl rfl ?_
  obtain ⟨b52, s53, e54, hm⟩ := call_t hm
  refine m_callSL (np := 83) G hM hl.1 [vL (σ r49 (wI v1).toNat), vL v2] (qX12_common l E σ (σ r49 (wI v1).toNat) v2 _ e54) myX12_common lkX12_280 ⟨Nat.le_of_ble_eq_true rfl, Nat.le_of_ble_eq_true rfl⟩ ⟨Nat.le_of_ble_eq_true rfl, Nat.le_of_ble_eq_true rfl⟩ [vL (σ r46 (wI v1).toNat)] rfl (Nat.le_of_ble_eq_true rfl) dX12_holds_80 rfl (fun H locs hM => ?_)
  obtain ⟨g55, hm⟩ := g_t hm
  refine r_ldiv (np := 84) G g55 dX12_holds_83 rfl ?_
  obtain ⟨a56, e57, hm⟩ := bnd_t hm
  refine r_lstore (np := 86) G hl e57 [(4, vL a56), (0, .ref (eA E v0)), (1, vI v1), (2, vL v2)] dX12_holds_84 rfl (by decide) rfl (fun ls hl => ?_)
  refine r_iconst (np := 87) G 0 dX12_holds_86 rfl ?_
  refine r_istore (np := 89) G hl rfl [(6, vI 0), (4, vL a56), (0, .ref (eA E v0)), (1, vI v1), (2, vL v2)] dX12_holds_87 rfl (by decide) rfl (fun ls hl => ?_)
  exact wX12_holds_L89 l E out G hr hk v0 v1 v2 a56 g0 (fun zσ => mX12_holds_B113 v0 v1 v2 zσ) (fun zσ zH zl zs zm zM zv => wX12_holds_B113 l E out G hr hk v0 v1 v2 g0 zσ zH zl zs zm zM zv) mF 0 _ _ _ _ hm hM (lv_sub hl [2, 3, 1, 0] rfl)
set_option maxRecDepth 100000 in
set_option maxHeartbeats 4000000 in
theorem wX12_holds_L3 (l : Launch) (E : mE) (out : Int × mSt) {p : Program} {e : Env} {s : State} {m : MethodId} {args : Array Value} {below : List Frame} {meth : Method} {c : Code} (G : CallFix p m c cX12_holds 9 s args mTs RX12) (hr : meth.sig.returnType = (some .boolean)) (hk : meth.locks = false) (v0 : Nat) (v1 : Int) (v2 : Int) (g0 : isC v0 11) (x67 : mSt → Option (Int × mSt)) (hx67 : ∀ (σ : mSt) (H : Heap) (locs : List Loc) (ls : Array Slot), x67 σ = some out → mM (mA E 276) E 276 σ s H locs → lv_has ls 9 [(0, .ref (eA E v0)), (1, vI v1), (2, vL v2)] → mGo l p e 1 29 s m args below meth c E (some (vI out.1)) out.2 H locs (F0 m 67 ls [])) : ∀ (n : Nat) (v4 : Int) (σ : mSt) (H : Heap) (locs : List Loc) (ls : Array Slot), mX12_holds_L3 v0 v1 v2 x67 n v4 σ = some out → mM (mA E 276) E 276 σ s H locs → lv_has ls 9 [(0, .ref (eA E v0)), (1, vI v1), (2, vL v2), (4, vI v4)] → mGo l p e 1 29 s m args below meth c E (some (vI out.1)) out.2 H locs (F0 m 3 ls []) := by
  intro n
  induction n with
  | zero =>
    intro v4 σ H locs ls hm hM hl
    exact absurd hm (by rw [mX12_holds_L3.eq_1]; exact fun h => nomatch h)
  | succ n ih =>
    intro v4 σ H locs ls hm hM hl
    rw [mX12_holds_L3.eq_2] at hm
    refine r_iload (np := 5) G hl 3 rfl dX12_holds_3 rfl ?_
    refine r_iconst (np := 6) G 4 dX12_holds_5 rfl ?_
    refine r_icmp_ge (np := 9) (tgt := 67) G rfl (wIk 4 rfl) dX12_holds_6 (by decide) rfl (fun h58 => ?_) (fun h58 => ?_)
    · have hm := b_t h58 hm
      exact hx67 _ _ _ _ hm hM (lv_sub hl [0, 1, 2] rfl)
    · have hm := b_f h58 hm
      refine r_aload_n (np := 10) G hl 0 rfl dX12_holds_9 rfl rfl ?_
      obtain ⟨r59, e60, hm⟩ := ref_t hm
      refine r_getR (np := 13) G hM (shp_lt g0 (by decide)) g0 e60 fdX12_30 lkX12_60 dX12_holds_10 rfl ?_
      refine r_iload_n (np := 14) G hl 1 rfl dX12_holds_13 rfl rfl ?_
      obtain ⟨g61, hm⟩ := g_t hm
      refine r_laload (np := 15) G hM g61 rfl dX12_holds_14 rfl ?_
      refine r_lload_n (np := 16) G hl 2 rfl dX12_holds_15 rfl rfl ?_
      obtain ⟨b62, s63, e64, hm⟩ := call_t hm
      refine m_callSL (np := 19) G hM hl.1 [vL (σ r59 (wI v1).toNat), vL v2] (qX12_common l E σ (σ r59 (wI v1).toNat) v2 _ e64) myX12_common lkX12_280 ⟨Nat.le_of_ble_eq_true rfl, Nat.le_of_ble_eq_true rfl⟩ ⟨Nat.le_of_ble_eq_true rfl, Nat.le_of_ble_eq_true rfl⟩ [] rfl (Nat.le_of_ble_eq_true rfl) dX12_holds_16 rfl (fun H locs hM => ?_)
      refine r_lstore (np := 21) G hl rfl [(5, vL b62), (0, .ref (eA E v0)), (1, vI v1), (2, vL v2), (4, vI v4)] dX12_holds_19 rfl (by decide) rfl (fun ls hl => ?_)
      refine r_lload_n (np := 22) G hl 3 rfl dX12_holds_21 rfl rfl ?_
      refine r_lload (np := 24) G hl 0 rfl dX12_holds_22 rfl ?_
      obtain ⟨g65, hm⟩ := g_t hm
      refine r_ldiv (np := 25) G g65 dX12_holds_24 rfl ?_
      obtain ⟨a66, e67, hm⟩ := bnd_t hm
      refine r_lstore (np := 27) G hl e67 [(7, vL a66), (5, vL b62), (0, .ref (eA E v0)), (1, vI v1), (2, vL v2), (4, vI v4)] dX12_holds_25 rfl (by decide) rfl (fun ls hl => ?_)
      refine r_aload_n (np := 28) G hl 2 rfl dX12_holds_27 rfl rfl ?_
      obtain ⟨r68, e69, hm⟩ := ref_t hm
      refine r_getR (np := 31) G hM (shp_lt g0 (by decide)) g0 e69 fdX12_32 lkX12_66 dX12_holds_28 rfl ?_
      refine r_iload (np := 33) G hl 5 rfl dX12_holds_31 rfl ?_
      obtain ⟨g70, hm⟩ := g_t hm
      refine r_laload (np := 34) G hM g70 rfl dX12_holds_33 rfl ?_
      refine r_lload (np := 36) G hl 0 rfl dX12_holds_34 rfl ?_
      obtain ⟨g71, hm⟩ := g_t hm
      refine r_lrem (np := 37) G g71 dX12_holds_36 rfl ?_
      refine r_lconst (np := 38) G 0 dX12_holds_37 rfl rfl ?_
      refine r_lcmp_eq (np := 42) (tgt := 44) G rfl (wLk 0 rfl) dX12_holds_38 dX12_holds_39 (by decide) rfl (fun h72 => ?_) (fun h72 => ?_)
      · have hm := b_t h72 hm
        refine r_aload_n (np := 45) G hl 2 rfl dX12_holds_44 rfl rfl ?_
        obtain ⟨r73, e74, hm⟩ := ref_t hm
        refine r_getR (np := 48) G hM (shp_lt g0 (by decide)) g0 e74 fdX12_32 lkX12_66 dX12_holds_45 rfl ?_
        refine r_iload (np := 50) G hl 5 rfl dX12_holds_48 rfl ?_
        refine r_aload_n (np := 51) G hl 2 rfl dX12_holds_50 rfl rfl ?_
        obtain ⟨r75, e76, hm⟩ := ref_t hm
        refine r_getR (np := 54) G hM (shp_lt g0 (by decide)) g0 e76 fdX12_32 lkX12_66 dX12_holds_51 rfl ?_
        refine r_iload (np := 56) G hl 5 rfl dX12_holds_54 rfl ?_
        obtain ⟨g77, hm⟩ := g_t hm
        refine r_laload (np := 57) G hM g77 rfl dX12_holds_56 rfl ?_
        refine r_lload (np := 59) G hl 0 rfl dX12_holds_57 rfl ?_
        refine r_ldiv (np := 60) G g71 dX12_holds_59 rfl ?_
        obtain ⟨g78, hm⟩ := g_t hm
        obtain ⟨s79, e80, hm⟩ := bnd_t hm
        refine r_lastore (np := 61) G hM g78 rfl s79 e80 dX12_holds_60 rfl (fun H locs hM => ?_)
        obtain ⟨a81, e82, hm⟩ := bnd_t hm
        refine r_iinc (np := 64) G hl 5 rfl e82 [(4, vI a81), (7, vL a66), (5, vL b62), (0, .ref (eA E v0)), (1, vI v1), (2, vL v2)] dX12_holds_61 rfl (by decide) rfl (fun ls hl => ?_)
        refine r_goto (np := 3) G dX12_holds_64 (by decide) ?_
        exact ih a81 _ _ _ _ hm hM (lv_sub hl [3, 4, 5, 0] rfl)
      · have hm := b_f h72 hm
        refine r_iconst (np := 43) G 0 dX12_holds_42 rfl ?_
        exact r_zret G hr hk hM (Or.inl rfl) hm dX12_holds_43
set_option maxRecDepth 100000 in
set_option maxHeartbeats 4000000 in
theorem qX12_holds (l : Launch) (E : mE) (σ : mSt) (v0 : Nat) (v1 : Int) (v2 : Int) (out : Int × mSt) (hm : mX12_holds v0 v1 v2 σ = some out) : mMet l yX12_holds cX12_holds 9 (some .boolean) 1 29 E 276 [.ref (eA E v0), vI v1, vL v2] σ (some (vI out.1)) out.2 := by
  unfold mX12_holds at hm
  obtain ⟨g0, hm⟩ := g_t hm
  refine m_entry (by decide +kernel) (Nat.le_of_ble_eq_true rfl) (fun p e s m args below meth c G hr hk hM ls hl => ?_)
  have G : CallFix p m c cX12_holds 9 s args mTs RX12 := G
  have hl : lv_has ls 9 [(0, .ref (eA E v0)), (1, vI v1), (2, vL v2)] := hl
  refine r_iconst (np := 1) G 0 dX12_holds_0 rfl ?_
  refine r_istore (np := 3) G hl rfl [(4, vI 0), (0, .ref (eA E v0)), (1, vI v1), (2, vL v2)] dX12_holds_1 rfl (by decide) rfl (fun ls hl => ?_)
  exact wX12_holds_L3 l E out G hr hk v0 v1 v2 g0 (fun zσ => mX12_holds_B67 v0 v1 v2 zσ) (fun zσ zH zl zs zm zM zv => wX12_holds_B67 l E out G hr hk v0 v1 v2 g0 zσ zH zl zs zm zM zv) mF 0 _ _ _ _ hm hM (lv_sub hl [1, 2, 3, 0] rfl)
theorem gX12_holds {v0 : Nat} {v1 : Int} {v2 : Int} {σ : mSt} {out : Int × mSt} (hm : mX12_holds v0 v1 v2 σ = some out) : isC v0 11 := (g_t hm).1
set_option maxRecDepth 100000 in
set_option maxHeartbeats 4000000 in
theorem wX12_table_B134 (l : Launch) (E : mE) (out : Int × mSt) {p : Program} {e : Env} {s : State} {m : MethodId} {args : Array Value} {below : List Frame} {meth : Method} {c : Code} (G : CallFix p m c cX12_table 7 s args mTs RX12) (hr : meth.sig.returnType = (some .int)) (hk : meth.locks = false) (v0 : Nat) (v1 : Int) (v2 : Int) (v3 : Int) (v4 : Int) (g0 : isC v0 11) : ∀ (σ : mSt) (H : Heap) (locs : List Loc) (ls : Array Slot), mX12_table_B134 v0 v1 v2 v3 v4 σ = some out → mM (mA E 276) E 276 σ s H locs → lv_has ls 7 [(0, .ref (eA E v0)), (1, vI v1), (4, vI v4)] → mGo l p e 3 67 s m args below meth c E (some (vI out.1)) out.2 H locs (F0 m 134 ls []) := by
  intro σ H locs ls hm hM hl
  unfold mX12_table_B134 at hm
  refine r_aload_n (np := 135) G hl 0 rfl dX12_table_134 rfl rfl ?_
  refine r_iload_n (np := 136) G hl 1 rfl dX12_table_135 rfl rfl ?_
  refine r_aload_n (np := 137) G hl 0 rfl dX12_table_136 rfl rfl ?_
  obtain ⟨r1, e2, hm⟩ := ref_t hm
  refine r_getR (np := 140) G hM (shp_lt g0 (by decide)) g0 e2 fdX12_30 lkX12_60 dX12_table_137 rfl ?_
  refine r_iload_n (np := 141) G hl 1 rfl dX12_table_140 rfl rfl ?_
  obtain ⟨g3, hm⟩ := g_t hm
  refine r_laload (np := 142) G hM g3 rfl dX12_table_141 rfl ?_
  refine r_aload_n (np := 143) G hl 0 rfl dX12_table_142 rfl rfl ?_
  obtain ⟨r4, e5, hm⟩ := ref_t hm
  refine r_getR (np := 146) G hM (shp_lt g0 (by decide)) g0 e5 fdX12_30 lkX12_60 dX12_table_143 rfl ?_
  refine r_iload_n (np := 147) G hl 1 rfl dX12_table_146 rfl rfl ?_
  obtain ⟨g6, hm⟩ := g_t hm
  refine r_laload (np := 148) G hM g6 rfl dX12_table_147 rfl ?_
  refine r_lmul (np := 149) G dX12_table_148 rfl ?_
  obtain ⟨b7, s8, e9, hm⟩ := call_t hm
  refine m_callVI (np := 152) G hM hl.1 [vI v1, vL ((σ r1 (wI v1).toNat) * (σ r4 (wI v1).toNat))] (qX12_holds l E σ v0 v1 ((σ r1 (wI v1).toNat) * (σ r4 (wI v1).toNat)) _ e9) myX12_holds (shp_lt (gX12_holds e9) (by decide)) (gX12_holds e9) rfl (by decide) lkX12_420 ⟨Nat.le_of_ble_eq_true rfl, Nat.le_of_ble_eq_true rfl⟩ ⟨Nat.le_of_ble_eq_true rfl, Nat.le_of_ble_eq_true rfl⟩ [] rfl (Nat.le_of_ble_eq_true rfl) dX12_table_149 rfl (fun H locs hM => ?_)
  refine r_if_eq (np := 155) (tgt := 166) G rfl dX12_table_152 (by decide) rfl (fun h10 => ?_) (fun h10 => ?_)
  · have hm := b_t h10 hm
    refine r_iconst (np := 167) G 0 dX12_table_166 rfl ?_
    exact r_iret G hr hk hM hm dX12_table_167
  · have hm := b_f h10 hm
    refine r_aload_n (np := 156) G hl 0 rfl dX12_table_155 rfl rfl ?_
    obtain ⟨r11, e12, hm⟩ := ref_t hm
    refine r_getR (np := 159) G hM (shp_lt g0 (by decide)) g0 e12 fdX12_33 lkX12_69 dX12_table_156 rfl ?_
    refine r_iload (np := 161) G hl 2 rfl dX12_table_159 rfl ?_
    obtain ⟨g13, hm⟩ := g_t hm
    refine r_laload (np := 162) G hM g13 rfl dX12_table_161 rfl ?_
    refine r_l2i (np := 163) G dX12_table_162 rfl ?_
    refine r_goto (np := 167) G dX12_table_163 (by decide) ?_
    exact r_iret G hr hk hM hm dX12_table_167
set_option maxRecDepth 100000 in
set_option maxHeartbeats 4000000 in
theorem wX12_table_L108 (l : Launch) (E : mE) (out : Int × mSt) {p : Program} {e : Env} {s : State} {m : MethodId} {args : Array Value} {below : List Frame} {meth : Method} {c : Code} (G : CallFix p m c cX12_table 7 s args mTs RX12) (hr : meth.sig.returnType = (some .int)) (hk : meth.locks = false) (v0 : Nat) (v1 : Int) (v2 : Int) (v3 : Int) (v4 : Int) (g0 : isC v0 11) (x134 : mSt → Option (Int × mSt)) (hx134 : ∀ (σ : mSt) (H : Heap) (locs : List Loc) (ls : Array Slot), x134 σ = some out → mM (mA E 276) E 276 σ s H locs → lv_has ls 7 [(0, .ref (eA E v0)), (1, vI v1), (4, vI v4)] → mGo l p e 3 67 s m args below meth c E (some (vI out.1)) out.2 H locs (F0 m 134 ls [])) : ∀ (n : Nat) (v6 : Int) (σ : mSt) (H : Heap) (locs : List Loc) (ls : Array Slot), mX12_table_L108 v0 v1 v2 v3 v4 x134 n v6 σ = some out → mM (mA E 276) E 276 σ s H locs → lv_has ls 7 [(0, .ref (eA E v0)), (1, vI v1), (4, vI v4), (6, vI v6)] → mGo l p e 3 67 s m args below meth c E (some (vI out.1)) out.2 H locs (F0 m 108 ls []) := by
  intro n
  induction n with
  | zero =>
    intro v6 σ H locs ls hm hM hl
    exact absurd hm (by rw [mX12_table_L108.eq_1]; exact fun h => nomatch h)
  | succ n ih =>
    intro v6 σ H locs ls hm hM hl
    rw [mX12_table_L108.eq_2] at hm
    refine r_iload (np := 110) G hl 3 rfl dX12_table_108 rfl ?_
    refine r_iconst (np := 111) G 4 dX12_table_110 rfl ?_
    refine r_icmp_ge (np := 114) (tgt := 134) G rfl (wIk 4 rfl) dX12_table_111 (by decide) rfl (fun h14 => ?_) (fun h14 => ?_)
    · have hm := b_t h14 hm
      exact hx134 _ _ _ _ hm hM (lv_sub hl [0, 1, 2] rfl)
    · have hm := b_f h14 hm
      refine r_aload_n (np := 115) G hl 0 rfl dX12_table_114 rfl rfl ?_
      obtain ⟨r15, e16, hm⟩ := ref_t hm
      refine r_getR (np := 118) G hM (shp_lt g0 (by decide)) g0 e16 fdX12_32 lkX12_66 dX12_table_115 rfl ?_
      refine r_iload (np := 120) G hl 3 rfl dX12_table_118 rfl ?_
      refine r_aload_n (np := 121) G hl 0 rfl dX12_table_120 rfl rfl ?_
      obtain ⟨r17, e18, hm⟩ := ref_t hm
      refine r_getR (np := 124) G hM (shp_lt g0 (by decide)) g0 e18 fdX12_27 lkX12_51 dX12_table_121 rfl ?_
      refine r_iload (np := 126) G hl 3 rfl dX12_table_124 rfl ?_
      obtain ⟨g19, hm⟩ := g_t hm
      refine r_laload (np := 127) G hM g19 rfl dX12_table_126 rfl ?_
      obtain ⟨g20, hm⟩ := g_t hm
      obtain ⟨s21, e22, hm⟩ := bnd_t hm
      refine r_lastore (np := 128) G hM g20 rfl s21 e22 dX12_table_127 rfl (fun H locs hM => ?_)
      obtain ⟨a23, e24, hm⟩ := bnd_t hm
      refine r_iinc (np := 131) G hl 3 rfl e24 [(6, vI a23), (0, .ref (eA E v0)), (1, vI v1), (4, vI v4)] dX12_table_128 rfl (by decide) rfl (fun ls hl => ?_)
      refine r_goto (np := 108) G dX12_table_131 (by decide) ?_
      exact ih a23 _ _ _ _ hm hM (lv_sub hl [1, 2, 3, 0] rfl)
set_option maxRecDepth 100000 in
set_option maxHeartbeats 4000000 in
theorem wX12_table_B63 (l : Launch) (E : mE) (out : Int × mSt) {p : Program} {e : Env} {s : State} {m : MethodId} {args : Array Value} {below : List Frame} {meth : Method} {c : Code} (G : CallFix p m c cX12_table 7 s args mTs RX12) (hr : meth.sig.returnType = (some .int)) (hk : meth.locks = false) (v0 : Nat) (v1 : Int) (v2 : Int) (v3 : Int) (v4 : Int) (g0 : isC v0 11) : ∀ (v5 : Int) (t0 : Nat) (t1 : Int) (σ : mSt) (H : Heap) (locs : List Loc) (ls : Array Slot), mX12_table_B63 v0 v1 v2 v3 v4 v5 t0 t1 σ = some out → mM (mA E 276) E 276 σ s H locs → lv_has ls 7 [(0, .ref (eA E v0)), (1, vI v1), (2, vI v2), (3, vI v3), (4, vI v4), (5, vI v5)] → mGo l p e 3 67 s m args below meth c E (some (vI out.1)) out.2 H locs (F0 m 63 ls [vI t1, .ref (eA E t0)]) := by
  intro v5 t0 t1 σ H locs ls hm hM hl
  unfold mX12_table_B63 at hm
  obtain ⟨g25, hm⟩ := g_t hm
  obtain ⟨s26, e27, hm⟩ := bnd_t hm
  refine r_putI (np := 66) G hM (shp_lt g25 (by decide)) g25 ptX12_0 rfl lkX12_75 s26 e27 dX12_table_63 rfl (fun H locs hM => ?_)
  refine r_iload (np := 68) G hl 5 rfl dX12_table_66 rfl ?_
  refine r_if_ne (np := 71) (tgt := 73) G rfl dX12_table_68 (by decide) rfl (fun h28 => ?_) (fun h28 => ?_)
  · have hm := b_f h28 hm
    refine r_aload_n (np := 74) G hl 0 rfl dX12_table_73 rfl rfl ?_
    refine r_iload_n (np := 75) G hl 1 rfl dX12_table_74 rfl rfl ?_
    refine r_iload_n (np := 76) G hl 2 rfl dX12_table_75 rfl rfl ?_
    refine r_iconst (np := 77) G 0 dX12_table_76 rfl ?_
    obtain ⟨b29, s30, e31, hm⟩ := call_t hm
    refine m_callVV (np := 80) G hM hl.1 [vI v1, vI v2, vI 0] (qX12_takesRow l E s26 v0 v1 v2 0 _ e31) myX12_takesRow (shp_lt (gX12_takesRow e31) (by decide)) (gX12_takesRow e31) rfl (by decide) lkX12_377 ⟨Nat.le_of_ble_eq_true rfl, Nat.le_of_ble_eq_true rfl⟩ ⟨Nat.le_of_ble_eq_true rfl, Nat.le_of_ble_eq_true rfl⟩ [] rfl (Nat.le_of_ble_eq_true rfl) dX12_table_77 rfl (fun H locs hM => ?_)
    refine r_aload_n (np := 81) G hl 0 rfl dX12_table_80 rfl rfl ?_
    refine r_iload_n (np := 82) G hl 1 rfl dX12_table_81 rfl rfl ?_
    refine r_iload_n (np := 83) G hl 3 rfl dX12_table_82 rfl rfl ?_
    refine r_iconst (np := 84) G 1 dX12_table_83 rfl ?_
    obtain ⟨b32, s33, e34, hm⟩ := call_t hm
    refine m_callVV (np := 87) G hM hl.1 [vI v1, vI v3, vI 1] (qX12_takesRow l E s30 v0 v1 v3 1 _ e34) myX12_takesRow (shp_lt (gX12_takesRow e34) (by decide)) (gX12_takesRow e34) rfl (by decide) lkX12_377 ⟨Nat.le_of_ble_eq_true rfl, Nat.le_of_ble_eq_true rfl⟩ ⟨Nat.le_of_ble_eq_true rfl, Nat.le_of_ble_eq_true rfl⟩ [] rfl (Nat.le_of_ble_eq_true rfl) dX12_table_84 rfl (fun H locs hM => ?_)
    refine r_aload_n (np := 88) G hl 0 rfl dX12_table_87 rfl rfl ?_
    refine r_aload_n (np := 89) G hl 0 rfl dX12_table_88 rfl rfl ?_
    obtain ⟨r35, e36, hm⟩ := ref_t hm
    refine r_getR (np := 92) G hM (shp_lt g0 (by decide)) g0 e36 fdX12_15 lkX12_24 dX12_table_89 rfl ?_
    refine r_iload_n (np := 93) G hl 1 rfl dX12_table_92 rfl rfl ?_
    obtain ⟨g37, hm⟩ := g_t hm
    refine r_iaload (np := 94) G hM g37 rfl dX12_table_93 rfl ?_
    refine r_i2l (np := 95) G rfl dX12_table_94 rfl ?_
    refine r_aload_n (np := 96) G hl 0 rfl dX12_table_95 rfl rfl ?_
    obtain ⟨r38, e39, hm⟩ := ref_t hm
    refine r_getR (np := 99) G hM (shp_lt g0 (by decide)) g0 e39 fdX12_16 lkX12_27 dX12_table_96 rfl ?_
    refine r_iload_n (np := 100) G hl 1 rfl dX12_table_99 rfl rfl ?_
    obtain ⟨g40, hm⟩ := g_t hm
    refine r_iaload (np := 101) G hM g40 rfl dX12_table_100 rfl ?_
    refine r_i2l (np := 102) G rfl dX12_table_101 rfl ?_
    obtain ⟨b41, s42, e43, hm⟩ := call_t hm
    refine m_callVV (np := 105) G hM hl.1 [vL (wI (s33 r35 (wI v1).toNat)), vL (wI (s33 r38 (wI v1).toNat))] (qX12_multiplies l E s33 v0 (wI (s33 r35 (wI v1).toNat)) (wI (s33 r38 (wI v1).toNat)) _ e43) myX12_multiplies (shp_lt (gX12_multiplies e43) (by decide)) (gX12_multiplies e43) rfl (by decide) lkX12_318 ⟨Nat.le_of_ble_eq_true rfl, Nat.le_of_ble_eq_true rfl⟩ ⟨Nat.le_of_ble_eq_true rfl, Nat.le_of_ble_eq_true rfl⟩ [] rfl (Nat.le_of_ble_eq_true rfl) dX12_table_102 rfl (fun H locs hM => ?_)
    refine r_iconst (np := 106) G 0 dX12_table_105 rfl ?_
    refine r_istore (np := 108) G hl rfl [(6, vI 0), (0, .ref (eA E v0)), (1, vI v1), (2, vI v2), (3, vI v3), (4, vI v4), (5, vI v5)] dX12_table_106 rfl (by decide) rfl (fun ls hl => ?_)
    exact wX12_table_L108 l E out G hr hk v0 v1 v2 v3 v4 g0 (fun zσ => mX12_table_B134 v0 v1 v2 v3 v4 zσ) (fun zσ zH zl zs zm zM zv => wX12_table_B134 l E out G hr hk v0 v1 v2 v3 v4 g0 zσ zH zl zs zm zM zv) mF 0 _ _ _ _ hm hM (lv_sub hl [1, 2, 5, 0] rfl)
  · have hm := b_t h28 hm
    refine r_iconst (np := 72) G 0 dX12_table_71 rfl ?_
    exact r_iret G hr hk hM hm dX12_table_72
set_option maxRecDepth 100000 in
set_option maxHeartbeats 4000000 in
theorem wX12_table_B50 (l : Launch) (E : mE) (out : Int × mSt) {p : Program} {e : Env} {s : State} {m : MethodId} {args : Array Value} {below : List Frame} {meth : Method} {c : Code} (G : CallFix p m c cX12_table 7 s args mTs RX12) (hr : meth.sig.returnType = (some .int)) (hk : meth.locks = false) (v0 : Nat) (v1 : Int) (v2 : Int) (v3 : Int) (v4 : Int) (g0 : isC v0 11) : ∀ (t0 : Int) (σ : mSt) (H : Heap) (locs : List Loc) (ls : Array Slot), mX12_table_B50 v0 v1 v2 v3 v4 t0 σ = some out → mM (mA E 276) E 276 σ s H locs → lv_has ls 7 [(0, .ref (eA E v0)), (1, vI v1), (2, vI v2), (3, vI v3), (4, vI v4)] → mGo l p e 3 67 s m args below meth c E (some (vI out.1)) out.2 H locs (F0 m 50 ls [vI t0]) := by
  intro t0 σ H locs ls hm hM hl
  unfold mX12_table_B50 at hm
  refine r_istore (np := 52) G hl rfl [(5, vI t0), (0, .ref (eA E v0)), (1, vI v1), (2, vI v2), (3, vI v3), (4, vI v4)] dX12_table_50 rfl (by decide) rfl (fun ls hl => ?_)
  refine r_aload_n (np := 53) G hl 1 rfl dX12_table_52 rfl rfl ?_
  refine r_iload (np := 55) G hl 0 rfl dX12_table_53 rfl ?_
  refine r_if_eq (np := 58) (tgt := 62) G rfl dX12_table_55 (by decide) rfl (fun h44 => ?_) (fun h44 => ?_)
  · have hm := b_t h44 hm
    refine r_iconst (np := 63) G 1 dX12_table_62 rfl ?_
    exact wX12_table_B63 l E out G hr hk v0 v1 v2 v3 v4 g0 t0 v0 1 _ _ _ _ hm hM (lv_sub hl [1, 2, 3, 4, 5, 0] rfl)
  · have hm := b_f h44 hm
    refine r_iconst (np := 59) G 0 dX12_table_58 rfl ?_
    refine r_goto (np := 63) G dX12_table_59 (by decide) ?_
    exact wX12_table_B63 l E out G hr hk v0 v1 v2 v3 v4 g0 t0 v0 0 _ _ _ _ hm hM (lv_sub hl [1, 2, 3, 4, 5, 0] rfl)
set_option maxRecDepth 100000 in
set_option maxHeartbeats 4000000 in
theorem wX12_table_B49 (l : Launch) (E : mE) (out : Int × mSt) {p : Program} {e : Env} {s : State} {m : MethodId} {args : Array Value} {below : List Frame} {meth : Method} {c : Code} (G : CallFix p m c cX12_table 7 s args mTs RX12) (hr : meth.sig.returnType = (some .int)) (hk : meth.locks = false) (v0 : Nat) (v1 : Int) (v2 : Int) (v3 : Int) (v4 : Int) (g0 : isC v0 11) : ∀ (σ : mSt) (H : Heap) (locs : List Loc) (ls : Array Slot), mX12_table_B49 v0 v1 v2 v3 v4 σ = some out → mM (mA E 276) E 276 σ s H locs → lv_has ls 7 [(0, .ref (eA E v0)), (1, vI v1), (2, vI v2), (3, vI v3), (4, vI v4)] → mGo l p e 3 67 s m args below meth c E (some (vI out.1)) out.2 H locs (F0 m 49 ls []) := by
  intro σ H locs ls hm hM hl
  unfold mX12_table_B49 at hm
  refine r_iconst (np := 50) G 0 dX12_table_49 rfl ?_
  exact wX12_table_B50 l E out G hr hk v0 v1 v2 v3 v4 g0 0 _ _ _ _ hm hM (lv_sub hl [0, 1, 2, 3, 4] rfl)
set_option maxRecDepth 100000 in
set_option maxHeartbeats 4000000 in
theorem qX12_table (l : Launch) (E : mE) (σ : mSt) (v0 : Nat) (v1 : Int) (v2 : Int) (v3 : Int) (v4 : Int) (out : Int × mSt) (hm : mX12_table v0 v1 v2 v3 v4 σ = some out) : mMet l yX12_table cX12_table 7 (some .int) 3 67 E 276 [.ref (eA E v0), vI v1, vI v2, vI v3, vI v4] σ (some (vI out.1)) out.2 := by
  unfold mX12_table at hm
  obtain ⟨g0, hm⟩ := g_t hm
  refine m_entry (by decide +kernel) (Nat.le_of_ble_eq_true rfl) (fun p e s m args below meth c G hr hk hM ls hl => ?_)
  have G : CallFix p m c cX12_table 7 s args mTs RX12 := G
  have hl : lv_has ls 7 [(0, .ref (eA E v0)), (1, vI v1), (2, vI v2), (3, vI v3), (4, vI v4)] := hl
  refine r_aload_n (np := 1) G hl 0 rfl dX12_table_0 rfl rfl ?_
  refine r_iload_n (np := 2) G hl 1 rfl dX12_table_1 rfl rfl ?_
  obtain ⟨b45, s46, e47, hm⟩ := call_t hm
  refine m_callVI (np := 5) G hM hl.1 [vI v1] (qX12_isQuaternion l E σ v0 v1 _ e47) myX12_isQuaternion (shp_lt (gX12_isQuaternion e47) (by decide)) (gX12_isQuaternion e47) rfl (by decide) lkX12_288 ⟨Nat.le_of_ble_eq_true rfl, Nat.le_of_ble_eq_true rfl⟩ ⟨Nat.le_of_ble_eq_true rfl, Nat.le_of_ble_eq_true rfl⟩ [] rfl (Nat.le_of_ble_eq_true rfl) dX12_table_2 rfl (fun H locs hM => ?_)
  refine r_if_eq (np := 8) (tgt := 49) G rfl dX12_table_5 (by decide) rfl (fun h48 => ?_) (fun h48 => ?_)
  · have hm := b_t h48 hm
    exact wX12_table_B49 l E out G hr hk v0 v1 v2 v3 v4 g0 _ _ _ _ hm hM (lv_sub hl [0, 1, 2, 3, 4] rfl)
  · have hm := b_f h48 hm
    refine r_iload_n (np := 9) G hl 2 rfl dX12_table_8 rfl rfl ?_
    refine r_i2l (np := 10) G rfl dX12_table_9 rfl ?_
    refine r_lconst (np := 11) G 0 dX12_table_10 rfl rfl ?_
    refine r_ldc2 (np := 14) G 3 dX12_table_11 lkX12_224 rfl rfl ?_
    obtain ⟨b49, s50, e51, hm⟩ := call_t hm
    refine m_callSI (np := 17) G hM hl.1 [vL (wI v2), vL 0, vL 3] (qX12_within l E s46 (wI v2) 0 3 _ e51) myX12_within lkX12_113 ⟨Nat.le_of_ble_eq_true rfl, Nat.le_of_ble_eq_true rfl⟩ ⟨Nat.le_of_ble_eq_true rfl, Nat.le_of_ble_eq_true rfl⟩ [] rfl (Nat.le_of_ble_eq_true rfl) dX12_table_14 rfl (fun H locs hM => ?_)
    refine r_if_eq (np := 20) (tgt := 49) G rfl dX12_table_17 (by decide) rfl (fun h52 => ?_) (fun h52 => ?_)
    · have hm := b_t h52 hm
      exact wX12_table_B49 l E out G hr hk v0 v1 v2 v3 v4 g0 _ _ _ _ hm hM (lv_sub hl [0, 1, 2, 3, 4] rfl)
    · have hm := b_f h52 hm
      refine r_iload_n (np := 21) G hl 3 rfl dX12_table_20 rfl rfl ?_
      refine r_i2l (np := 22) G rfl dX12_table_21 rfl ?_
      refine r_lconst (np := 23) G 0 dX12_table_22 rfl rfl ?_
      refine r_ldc2 (np := 26) G 3 dX12_table_23 lkX12_224 rfl rfl ?_
      obtain ⟨b53, s54, e55, hm⟩ := call_t hm
      refine m_callSI (np := 29) G hM hl.1 [vL (wI v3), vL 0, vL 3] (qX12_within l E s50 (wI v3) 0 3 _ e55) myX12_within lkX12_113 ⟨Nat.le_of_ble_eq_true rfl, Nat.le_of_ble_eq_true rfl⟩ ⟨Nat.le_of_ble_eq_true rfl, Nat.le_of_ble_eq_true rfl⟩ [] rfl (Nat.le_of_ble_eq_true rfl) dX12_table_26 rfl (fun H locs hM => ?_)
      refine r_if_eq (np := 32) (tgt := 49) G rfl dX12_table_29 (by decide) rfl (fun h56 => ?_) (fun h56 => ?_)
      · have hm := b_t h56 hm
        exact wX12_table_B49 l E out G hr hk v0 v1 v2 v3 v4 g0 _ _ _ _ hm hM (lv_sub hl [0, 1, 2, 3, 4] rfl)
      · have hm := b_f h56 hm
        refine r_iload (np := 34) G hl 4 rfl dX12_table_32 rfl ?_
        refine r_i2l (np := 35) G rfl dX12_table_34 rfl ?_
        refine r_lconst (np := 36) G 0 dX12_table_35 rfl rfl ?_
        refine r_ldc2 (np := 39) G 3 dX12_table_36 lkX12_224 rfl rfl ?_
        obtain ⟨b57, s58, e59, hm⟩ := call_t hm
        refine m_callSI (np := 42) G hM hl.1 [vL (wI v4), vL 0, vL 3] (qX12_within l E s54 (wI v4) 0 3 _ e59) myX12_within lkX12_113 ⟨Nat.le_of_ble_eq_true rfl, Nat.le_of_ble_eq_true rfl⟩ ⟨Nat.le_of_ble_eq_true rfl, Nat.le_of_ble_eq_true rfl⟩ [] rfl (Nat.le_of_ble_eq_true rfl) dX12_table_39 rfl (fun H locs hM => ?_)
        refine r_if_eq (np := 45) (tgt := 49) G rfl dX12_table_42 (by decide) rfl (fun h60 => ?_) (fun h60 => ?_)
        · have hm := b_t h60 hm
          exact wX12_table_B49 l E out G hr hk v0 v1 v2 v3 v4 g0 _ _ _ _ hm hM (lv_sub hl [0, 1, 2, 3, 4] rfl)
        · have hm := b_f h60 hm
          refine r_iconst (np := 46) G 1 dX12_table_45 rfl ?_
          refine r_goto (np := 50) G dX12_table_46 (by decide) ?_
          exact wX12_table_B50 l E out G hr hk v0 v1 v2 v3 v4 g0 1 _ _ _ _ hm hM (lv_sub hl [0, 1, 2, 3, 4] rfl)
theorem gX12_table {v0 : Nat} {v1 : Int} {v2 : Int} {v3 : Int} {v4 : Int} {σ : mSt} {out : Int × mSt} (hm : mX12_table v0 v1 v2 v3 v4 σ = some out) : isC v0 11 := (g_t hm).1
set_option maxRecDepth 100000 in
set_option maxHeartbeats 4000000 in
theorem wX12_isInOrder_B25 (l : Launch) (E : mE) (out : Int × mSt) {p : Program} {e : Env} {s : State} {m : MethodId} {args : Array Value} {below : List Frame} {meth : Method} {c : Code} (G : CallFix p m c cX12_isInOrder 3 s args mTs RX12) (hr : meth.sig.returnType = (some .boolean)) (hk : meth.locks = false) (v0 : Nat) (v1 : Int) (g0 : isC v0 11) : ∀ (σ : mSt) (H : Heap) (locs : List Loc) (ls : Array Slot), mX12_isInOrder_B25 v0 v1 σ = some out → mM (mA E 276) E 276 σ s H locs → lv_has ls 3 [(0, .ref (eA E v0)), (1, vI v1)] → mGo l p e 2 57 s m args below meth c E (some (vI out.1)) out.2 H locs (F0 m 25 ls []) := by
  intro σ H locs ls hm hM hl
  unfold mX12_isInOrder_B25 at hm
  refine r_aload_n (np := 26) G hl 0 rfl dX12_isInOrder_25 rfl rfl ?_
  refine r_aload_n (np := 27) G hl 0 rfl dX12_isInOrder_26 rfl rfl ?_
  obtain ⟨r1, e2, hm⟩ := ref_t hm
  refine r_getR (np := 30) G hM (shp_lt g0 (by decide)) g0 e2 fdX12_22 lkX12_36 dX12_isInOrder_27 rfl ?_
  refine r_iload_n (np := 31) G hl 1 rfl dX12_isInOrder_30 rfl rfl ?_
  obtain ⟨g3, hm⟩ := g_t hm
  refine r_iaload (np := 32) G hM g3 rfl dX12_isInOrder_31 rfl ?_
  refine r_aload_n (np := 33) G hl 0 rfl dX12_isInOrder_32 rfl rfl ?_
  refine r_iload_n (np := 34) G hl 1 rfl dX12_isInOrder_33 rfl rfl ?_
  refine r_iconst (np := 35) G 4 dX12_isInOrder_34 rfl ?_
  obtain ⟨b4, s5, e6, hm⟩ := call_t hm
  refine m_callVL (np := 38) G hM hl.1 [vI v1, vI 4] (qX12_part l E σ v0 v1 4 _ e6) myX12_part (shp_lt (gX12_part e6) (by decide)) (gX12_part e6) rfl (by decide) lkX12_294 ⟨Nat.le_of_ble_eq_true rfl, Nat.le_of_ble_eq_true rfl⟩ ⟨Nat.le_of_ble_eq_true rfl, Nat.le_of_ble_eq_true rfl⟩ [vI (σ r1 (wI v1).toNat), .ref (eA E v0)] rfl (Nat.le_of_ble_eq_true rfl) dX12_isInOrder_35 rfl (fun H locs hM => ?_)
  obtain ⟨b7, s8, e9, hm⟩ := call_t hm
  refine m_callVI (np := 41) G hM hl.1 [vI (σ r1 (wI v1).toNat), vL b4] (qX12_holds l E s5 v0 (σ r1 (wI v1).toNat) b4 _ e9) myX12_holds (shp_lt (gX12_holds e9) (by decide)) (gX12_holds e9) rfl (by decide) lkX12_420 ⟨Nat.le_of_ble_eq_true rfl, Nat.le_of_ble_eq_true rfl⟩ ⟨Nat.le_of_ble_eq_true rfl, Nat.le_of_ble_eq_true rfl⟩ [] rfl (Nat.le_of_ble_eq_true rfl) dX12_isInOrder_38 rfl (fun H locs hM => ?_)
  obtain ⟨g10, hm⟩ := g_t hm
  exact r_zret G hr hk hM g10 hm dX12_isInOrder_41
set_option maxRecDepth 100000 in
set_option maxHeartbeats 4000000 in
theorem wX12_isInOrder_L2 (l : Launch) (E : mE) (out : Int × mSt) {p : Program} {e : Env} {s : State} {m : MethodId} {args : Array Value} {below : List Frame} {meth : Method} {c : Code} (G : CallFix p m c cX12_isInOrder 3 s args mTs RX12) (hr : meth.sig.returnType = (some .boolean)) (hk : meth.locks = false) (v0 : Nat) (v1 : Int) (g0 : isC v0 11) (x25 : mSt → Option (Int × mSt)) (hx25 : ∀ (σ : mSt) (H : Heap) (locs : List Loc) (ls : Array Slot), x25 σ = some out → mM (mA E 276) E 276 σ s H locs → lv_has ls 3 [(0, .ref (eA E v0)), (1, vI v1)] → mGo l p e 2 57 s m args below meth c E (some (vI out.1)) out.2 H locs (F0 m 25 ls [])) : ∀ (n : Nat) (v2 : Int) (σ : mSt) (H : Heap) (locs : List Loc) (ls : Array Slot), mX12_isInOrder_L2 v0 v1 x25 n v2 σ = some out → mM (mA E 276) E 276 σ s H locs → lv_has ls 3 [(0, .ref (eA E v0)), (1, vI v1), (2, vI v2)] → mGo l p e 2 57 s m args below meth c E (some (vI out.1)) out.2 H locs (F0 m 2 ls []) := by
  intro n
  induction n with
  | zero =>
    intro v2 σ H locs ls hm hM hl
    exact absurd hm (by rw [mX12_isInOrder_L2.eq_1]; exact fun h => nomatch h)
  | succ n ih =>
    intro v2 σ H locs ls hm hM hl
    rw [mX12_isInOrder_L2.eq_2] at hm
    refine r_iload_n (np := 3) G hl 2 rfl dX12_isInOrder_2 rfl rfl ?_
    refine r_iconst (np := 4) G 4 dX12_isInOrder_3 rfl ?_
    refine r_icmp_ge (np := 7) (tgt := 25) G rfl (wIk 4 rfl) dX12_isInOrder_4 (by decide) rfl (fun h11 => ?_) (fun h11 => ?_)
    · have hm := b_t h11 hm
      exact hx25 _ _ _ _ hm hM (lv_sub hl [0, 1] rfl)
    · have hm := b_f h11 hm
      refine r_aload_n (np := 8) G hl 0 rfl dX12_isInOrder_7 rfl rfl ?_
      obtain ⟨r12, e13, hm⟩ := ref_t hm
      refine r_getR (np := 11) G hM (shp_lt g0 (by decide)) g0 e13 fdX12_32 lkX12_66 dX12_isInOrder_8 rfl ?_
      refine r_iload_n (np := 12) G hl 2 rfl dX12_isInOrder_11 rfl rfl ?_
      refine r_aload_n (np := 13) G hl 0 rfl dX12_isInOrder_12 rfl rfl ?_
      refine r_iload_n (np := 14) G hl 1 rfl dX12_isInOrder_13 rfl rfl ?_
      refine r_iload_n (np := 15) G hl 2 rfl dX12_isInOrder_14 rfl rfl ?_
      obtain ⟨b14, s15, e16, hm⟩ := call_t hm
      refine m_callVL (np := 18) G hM hl.1 [vI v1, vI v2] (qX12_part l E σ v0 v1 v2 _ e16) myX12_part (shp_lt (gX12_part e16) (by decide)) (gX12_part e16) rfl (by decide) lkX12_294 ⟨Nat.le_of_ble_eq_true rfl, Nat.le_of_ble_eq_true rfl⟩ ⟨Nat.le_of_ble_eq_true rfl, Nat.le_of_ble_eq_true rfl⟩ [vI v2, .ref (eA E r12)] rfl (Nat.le_of_ble_eq_true rfl) dX12_isInOrder_15 rfl (fun H locs hM => ?_)
      obtain ⟨g17, hm⟩ := g_t hm
      obtain ⟨s18, e19, hm⟩ := bnd_t hm
      refine r_lastore (np := 19) G hM g17 rfl s18 e19 dX12_isInOrder_18 rfl (fun H locs hM => ?_)
      obtain ⟨a20, e21, hm⟩ := bnd_t hm
      refine r_iinc (np := 22) G hl 2 rfl e21 [(2, vI a20), (0, .ref (eA E v0)), (1, vI v1)] dX12_isInOrder_19 rfl (by decide) rfl (fun ls hl => ?_)
      refine r_goto (np := 2) G dX12_isInOrder_22 (by decide) ?_
      exact ih a20 _ _ _ _ hm hM (lv_sub hl [1, 2, 0] rfl)
set_option maxRecDepth 100000 in
set_option maxHeartbeats 4000000 in
theorem qX12_isInOrder (l : Launch) (E : mE) (σ : mSt) (v0 : Nat) (v1 : Int) (out : Int × mSt) (hm : mX12_isInOrder v0 v1 σ = some out) : mMet l yX12_isInOrder cX12_isInOrder 3 (some .boolean) 2 57 E 276 [.ref (eA E v0), vI v1] σ (some (vI out.1)) out.2 := by
  unfold mX12_isInOrder at hm
  obtain ⟨g0, hm⟩ := g_t hm
  refine m_entry (by decide +kernel) (Nat.le_of_ble_eq_true rfl) (fun p e s m args below meth c G hr hk hM ls hl => ?_)
  have G : CallFix p m c cX12_isInOrder 3 s args mTs RX12 := G
  have hl : lv_has ls 3 [(0, .ref (eA E v0)), (1, vI v1)] := hl
  refine r_iconst (np := 1) G 0 dX12_isInOrder_0 rfl ?_
  refine r_istore_n (np := 2) G hl rfl [(2, vI 0), (0, .ref (eA E v0)), (1, vI v1)] dX12_isInOrder_1 rfl rfl (by decide) rfl (fun ls hl => ?_)
  exact wX12_isInOrder_L2 l E out G hr hk v0 v1 g0 (fun zσ => mX12_isInOrder_B25 v0 v1 zσ) (fun zσ zH zl zs zm zM zv => wX12_isInOrder_B25 l E out G hr hk v0 v1 g0 zσ zH zl zs zm zM zv) mF 0 _ _ _ _ hm hM (lv_sub hl [1, 2, 0] rfl)
theorem gX12_isInOrder {v0 : Nat} {v1 : Int} {σ : mSt} {out : Int × mSt} (hm : mX12_isInOrder v0 v1 σ = some out) : isC v0 11 := (g_t hm).1
set_option maxRecDepth 100000 in
set_option maxHeartbeats 4000000 in
theorem qX12_isIn (l : Launch) (E : mE) (σ : mSt) (v0 : Nat) (v1 : Int) (out : Int × mSt) (hm : mX12_isIn v0 v1 σ = some out) : mMet l yX12_isIn cX12_isIn 2 (some .int) 3 79 E 276 [.ref (eA E v0), vI v1] σ (some (vI out.1)) out.2 := by
  unfold mX12_isIn at hm
  obtain ⟨g0, hm⟩ := g_t hm
  refine m_entry (by decide +kernel) (Nat.le_of_ble_eq_true rfl) (fun p e s m args below meth c G hr hk hM ls hl => ?_)
  have G : CallFix p m c cX12_isIn 2 s args mTs RX12 := G
  have hl : lv_has ls 2 [(0, .ref (eA E v0)), (1, vI v1)] := hl
  refine r_aload_n (np := 1) G hl 0 rfl dX12_isIn_0 rfl rfl ?_
  refine r_iconst (np := 2) G 0 dX12_isIn_1 rfl ?_
  obtain ⟨s1, e2, hm⟩ := bnd_t hm
  refine r_putI (np := 5) G hM (shp_lt g0 (by decide)) g0 ptX12_0 rfl lkX12_75 s1 e2 dX12_isIn_2 rfl (fun H locs hM => ?_)
  refine r_aload_n (np := 6) G hl 0 rfl dX12_isIn_5 rfl rfl ?_
  refine r_iload_n (np := 7) G hl 1 rfl dX12_isIn_6 rfl rfl ?_
  obtain ⟨b3, s4, e5, hm⟩ := call_t hm
  refine m_callVI (np := 10) G hM hl.1 [vI v1] (qX12_isKept l E s1 v0 v1 _ e5) myX12_isKept (shp_lt (gX12_isKept e5) (by decide)) (gX12_isKept e5) rfl (by decide) lkX12_297 ⟨Nat.le_of_ble_eq_true rfl, Nat.le_of_ble_eq_true rfl⟩ ⟨Nat.le_of_ble_eq_true rfl, Nat.le_of_ble_eq_true rfl⟩ [] rfl (Nat.le_of_ble_eq_true rfl) dX12_isIn_7 rfl (fun H locs hM => ?_)
  refine r_if_eq (np := 13) (tgt := 29) G rfl dX12_isIn_10 (by decide) rfl (fun h6 => ?_) (fun h6 => ?_)
  · have hm := b_t h6 hm
    refine r_iconst (np := 30) G (-1) dX12_isIn_29 rfl ?_
    exact r_iret G hr hk hM hm dX12_isIn_30
  · have hm := b_f h6 hm
    refine r_aload_n (np := 14) G hl 0 rfl dX12_isIn_13 rfl rfl ?_
    refine r_iload_n (np := 15) G hl 1 rfl dX12_isIn_14 rfl rfl ?_
    obtain ⟨b7, s8, e9, hm⟩ := call_t hm
    refine m_callVI (np := 18) G hM hl.1 [vI v1] (qX12_isInOrder l E s4 v0 v1 _ e9) myX12_isInOrder (shp_lt (gX12_isInOrder e9) (by decide)) (gX12_isInOrder e9) rfl (by decide) lkX12_423 ⟨Nat.le_of_ble_eq_true rfl, Nat.le_of_ble_eq_true rfl⟩ ⟨Nat.le_of_ble_eq_true rfl, Nat.le_of_ble_eq_true rfl⟩ [] rfl (Nat.le_of_ble_eq_true rfl) dX12_isIn_15 rfl (fun H locs hM => ?_)
    refine r_if_eq (np := 21) (tgt := 25) G rfl dX12_isIn_18 (by decide) rfl (fun h10 => ?_) (fun h10 => ?_)
    · have hm := b_t h10 hm
      refine r_iconst (np := 26) G 0 dX12_isIn_25 rfl ?_
      refine r_goto (np := 30) G dX12_isIn_26 (by decide) ?_
      exact r_iret G hr hk hM hm dX12_isIn_30
    · have hm := b_f h10 hm
      refine r_iconst (np := 22) G 1 dX12_isIn_21 rfl ?_
      refine r_goto (np := 30) G dX12_isIn_22 (by decide) ?_
      exact r_iret G hr hk hM hm dX12_isIn_30
theorem gX12_isIn {v0 : Nat} {v1 : Int} {σ : mSt} {out : Int × mSt} (hm : mX12_isIn v0 v1 σ = some out) : isC v0 11 := (g_t hm).1
set_option maxRecDepth 100000 in
set_option maxHeartbeats 4000000 in
theorem wX12_isSmall_B33 (l : Launch) (E : mE) (out : Int × mSt) {p : Program} {e : Env} {s : State} {m : MethodId} {args : Array Value} {below : List Frame} {meth : Method} {c : Code} (G : CallFix p m c cX12_isSmall 3 s args mTs RX12) (hr : meth.sig.returnType = (some .boolean)) (hk : meth.locks = false) (v0 : Nat) (v1 : Int) (g0 : isC v0 11) : ∀ (σ : mSt) (H : Heap) (locs : List Loc) (ls : Array Slot), mX12_isSmall_B33 v0 v1 σ = some out → mM (mA E 276) E 276 σ s H locs → lv_has ls 3 [] → mGo l p e 1 25 s m args below meth c E (some (vI out.1)) out.2 H locs (F0 m 33 ls []) := by
  intro σ H locs ls hm hM hl
  unfold mX12_isSmall_B33 at hm
  refine r_iconst (np := 34) G 1 dX12_isSmall_33 rfl ?_
  exact r_zret G hr hk hM (Or.inr rfl) hm dX12_isSmall_34
set_option maxRecDepth 100000 in
set_option maxHeartbeats 4000000 in
theorem wX12_isSmall_L2 (l : Launch) (E : mE) (out : Int × mSt) {p : Program} {e : Env} {s : State} {m : MethodId} {args : Array Value} {below : List Frame} {meth : Method} {c : Code} (G : CallFix p m c cX12_isSmall 3 s args mTs RX12) (hr : meth.sig.returnType = (some .boolean)) (hk : meth.locks = false) (v0 : Nat) (v1 : Int) (g0 : isC v0 11) (x33 : mSt → Option (Int × mSt)) (hx33 : ∀ (σ : mSt) (H : Heap) (locs : List Loc) (ls : Array Slot), x33 σ = some out → mM (mA E 276) E 276 σ s H locs → lv_has ls 3 [] → mGo l p e 1 25 s m args below meth c E (some (vI out.1)) out.2 H locs (F0 m 33 ls [])) : ∀ (n : Nat) (v2 : Int) (σ : mSt) (H : Heap) (locs : List Loc) (ls : Array Slot), mX12_isSmall_L2 v0 v1 x33 n v2 σ = some out → mM (mA E 276) E 276 σ s H locs → lv_has ls 3 [(0, .ref (eA E v0)), (1, vI v1), (2, vI v2)] → mGo l p e 1 25 s m args below meth c E (some (vI out.1)) out.2 H locs (F0 m 2 ls []) := by
  intro n
  induction n with
  | zero =>
    intro v2 σ H locs ls hm hM hl
    exact absurd hm (by rw [mX12_isSmall_L2.eq_1]; exact fun h => nomatch h)
  | succ n ih =>
    intro v2 σ H locs ls hm hM hl
    rw [mX12_isSmall_L2.eq_2] at hm
    refine r_iload_n (np := 3) G hl 2 rfl dX12_isSmall_2 rfl rfl ?_
    refine r_iconst (np := 4) G 5 dX12_isSmall_3 rfl ?_
    refine r_icmp_ge (np := 7) (tgt := 33) G rfl (wIk 5 rfl) dX12_isSmall_4 (by decide) rfl (fun h1 => ?_) (fun h1 => ?_)
    · have hm := b_t h1 hm
      exact hx33 _ _ _ _ hm hM (lv_sub hl [] rfl)
    · have hm := b_f h1 hm
      refine r_aload_n (np := 8) G hl 0 rfl dX12_isSmall_7 rfl rfl ?_
      refine r_iload_n (np := 9) G hl 1 rfl dX12_isSmall_8 rfl rfl ?_
      refine r_iload_n (np := 10) G hl 2 rfl dX12_isSmall_9 rfl rfl ?_
      obtain ⟨b2, s3, e4, hm⟩ := call_t hm
      refine m_callVL (np := 13) G hM hl.1 [vI v1, vI v2] (qX12_part l E σ v0 v1 v2 _ e4) myX12_part (shp_lt (gX12_part e4) (by decide)) (gX12_part e4) rfl (by decide) lkX12_294 ⟨Nat.le_of_ble_eq_true rfl, Nat.le_of_ble_eq_true rfl⟩ ⟨Nat.le_of_ble_eq_true rfl, Nat.le_of_ble_eq_true rfl⟩ [] rfl (Nat.le_of_ble_eq_true rfl) dX12_isSmall_10 rfl (fun H locs hM => ?_)
      refine r_ldc2 (np := 16) G (-100) dX12_isSmall_13 lkX12_426 rfl rfl ?_
      refine r_ldc2 (np := 19) G 100 dX12_isSmall_16 lkX12_428 rfl rfl ?_
      obtain ⟨b5, s6, e7, hm⟩ := call_t hm
      refine m_callSI (np := 22) G hM hl.1 [vL b2, vL (-100), vL 100] (qX12_within l E s3 b2 (-100) 100 _ e7) myX12_within lkX12_113 ⟨Nat.le_of_ble_eq_true rfl, Nat.le_of_ble_eq_true rfl⟩ ⟨Nat.le_of_ble_eq_true rfl, Nat.le_of_ble_eq_true rfl⟩ [] rfl (Nat.le_of_ble_eq_true rfl) dX12_isSmall_19 rfl (fun H locs hM => ?_)
      refine r_if_ne (np := 25) (tgt := 27) G rfl dX12_isSmall_22 (by decide) rfl (fun h8 => ?_) (fun h8 => ?_)
      · have hm := b_f h8 hm
        obtain ⟨a9, e10, hm⟩ := bnd_t hm
        refine r_iinc (np := 30) G hl 2 rfl e10 [(2, vI a9), (0, .ref (eA E v0)), (1, vI v1)] dX12_isSmall_27 rfl (by decide) rfl (fun ls hl => ?_)
        refine r_goto (np := 2) G dX12_isSmall_30 (by decide) ?_
        exact ih a9 _ _ _ _ hm hM (lv_sub hl [1, 2, 0] rfl)
      · have hm := b_t h8 hm
        refine r_iconst (np := 26) G 0 dX12_isSmall_25 rfl ?_
        exact r_zret G hr hk hM (Or.inl rfl) hm dX12_isSmall_26
set_option maxRecDepth 100000 in
set_option maxHeartbeats 4000000 in
theorem qX12_isSmall (l : Launch) (E : mE) (σ : mSt) (v0 : Nat) (v1 : Int) (out : Int × mSt) (hm : mX12_isSmall v0 v1 σ = some out) : mMet l yX12_isSmall cX12_isSmall 3 (some .boolean) 1 25 E 276 [.ref (eA E v0), vI v1] σ (some (vI out.1)) out.2 := by
  unfold mX12_isSmall at hm
  obtain ⟨g0, hm⟩ := g_t hm
  refine m_entry (by decide +kernel) (Nat.le_of_ble_eq_true rfl) (fun p e s m args below meth c G hr hk hM ls hl => ?_)
  have G : CallFix p m c cX12_isSmall 3 s args mTs RX12 := G
  have hl : lv_has ls 3 [(0, .ref (eA E v0)), (1, vI v1)] := hl
  refine r_iconst (np := 1) G 0 dX12_isSmall_0 rfl ?_
  refine r_istore_n (np := 2) G hl rfl [(2, vI 0), (0, .ref (eA E v0)), (1, vI v1)] dX12_isSmall_1 rfl rfl (by decide) rfl (fun ls hl => ?_)
  exact wX12_isSmall_L2 l E out G hr hk v0 v1 g0 (fun zσ => mX12_isSmall_B33 v0 v1 zσ) (fun zσ zH zl zs zm zM zv => wX12_isSmall_B33 l E out G hr hk v0 v1 g0 zσ zH zl zs zm zM zv) mF 0 _ _ _ _ hm hM (lv_sub hl [1, 2, 0] rfl)
theorem gX12_isSmall {v0 : Nat} {v1 : Int} {σ : mSt} {out : Int × mSt} (hm : mX12_isSmall v0 v1 σ = some out) : isC v0 11 := (g_t hm).1
set_option maxRecDepth 100000 in
set_option maxHeartbeats 4000000 in
theorem wX12_refusal_B98 (l : Launch) (E : mE) (out : Int × mSt) {p : Program} {e : Env} {s : State} {m : MethodId} {args : Array Value} {below : List Frame} {meth : Method} {c : Code} (G : CallFix p m c cX12_refusal 3 s args mTs RX12) (hr : meth.sig.returnType = (some .int)) (hk : meth.locks = false) (v0 : Nat) (v1 : Int) (v2 : Int) (g0 : isC v0 11) : ∀ (σ : mSt) (H : Heap) (locs : List Loc) (ls : Array Slot), mX12_refusal_B98 v0 v1 v2 σ = some out → mM (mA E 276) E 276 σ s H locs → lv_has ls 3 [] → mGo l p e 3 79 s m args below meth c E (some (vI out.1)) out.2 H locs (F0 m 98 ls []) := by
  intro σ H locs ls hm hM hl
  unfold mX12_refusal_B98 at hm
  refine r_iconst (np := 99) G 0 dX12_refusal_98 rfl ?_
  exact r_iret G hr hk hM hm dX12_refusal_99
set_option maxRecDepth 100000 in
set_option maxHeartbeats 4000000 in
theorem wX12_refusal_B93 (l : Launch) (E : mE) (out : Int × mSt) {p : Program} {e : Env} {s : State} {m : MethodId} {args : Array Value} {below : List Frame} {meth : Method} {c : Code} (G : CallFix p m c cX12_refusal 3 s args mTs RX12) (hr : meth.sig.returnType = (some .int)) (hk : meth.locks = false) (v0 : Nat) (v1 : Int) (v2 : Int) (g0 : isC v0 11) : ∀ (σ : mSt) (H : Heap) (locs : List Loc) (ls : Array Slot), mX12_refusal_B93 v0 v1 v2 σ = some out → mM (mA E 276) E 276 σ s H locs → lv_has ls 3 [] → mGo l p e 3 79 s m args below meth c E (some (vI out.1)) out.2 H locs (F0 m 93 ls []) := by
  intro σ H locs ls hm hM hl
  unfold mX12_refusal_B93 at hm
  refine r_bipush (np := 95) G (-3) dX12_refusal_93 (by decide) rfl ?_
  refine r_goto (np := 99) G dX12_refusal_95 (by decide) ?_
  exact r_iret G hr hk hM hm dX12_refusal_99
set_option maxRecDepth 100000 in
set_option maxHeartbeats 4000000 in
theorem wX12_refusal_B62 (l : Launch) (E : mE) (out : Int × mSt) {p : Program} {e : Env} {s : State} {m : MethodId} {args : Array Value} {below : List Frame} {meth : Method} {c : Code} (G : CallFix p m c cX12_refusal 3 s args mTs RX12) (hr : meth.sig.returnType = (some .int)) (hk : meth.locks = false) (v0 : Nat) (v1 : Int) (v2 : Int) (g0 : isC v0 11) : ∀ (σ : mSt) (H : Heap) (locs : List Loc) (ls : Array Slot), mX12_refusal_B62 v0 v1 v2 σ = some out → mM (mA E 276) E 276 σ s H locs → lv_has ls 3 [(0, .ref (eA E v0)), (1, vI v1), (2, vI v2)] → mGo l p e 3 79 s m args below meth c E (some (vI out.1)) out.2 H locs (F0 m 62 ls []) := by
  intro σ H locs ls hm hM hl
  unfold mX12_refusal_B62 at hm
  refine r_aload_n (np := 63) G hl 0 rfl dX12_refusal_62 rfl rfl ?_
  refine r_iload_n (np := 64) G hl 1 rfl dX12_refusal_63 rfl rfl ?_
  obtain ⟨b1, s2, e3, hm⟩ := call_t hm
  refine m_callVL (np := 67) G hM hl.1 [vI v1] (qX12_normAbove l E σ v0 v1 _ e3) myX12_normAbove (shp_lt (gX12_normAbove e3) (by decide)) (gX12_normAbove e3) rfl (by decide) lkX12_330 ⟨Nat.le_of_ble_eq_true rfl, Nat.le_of_ble_eq_true rfl⟩ ⟨Nat.le_of_ble_eq_true rfl, Nat.le_of_ble_eq_true rfl⟩ [] rfl (Nat.le_of_ble_eq_true rfl) dX12_refusal_64 rfl (fun H locs hM => ?_)
  refine r_lconst (np := 68) G 0 dX12_refusal_67 rfl rfl ?_
  refine r_lcmp_eq (np := 72) (tgt := 93) G rfl (wLk 0 rfl) dX12_refusal_68 dX12_refusal_69 (by decide) rfl (fun h4 => ?_) (fun h4 => ?_)
  · have hm := b_t h4 hm
    exact wX12_refusal_B93 l E out G hr hk v0 v1 v2 g0 _ _ _ _ hm hM (lv_sub hl [] rfl)
  · have hm := b_f h4 hm
    refine r_aload_n (np := 73) G hl 0 rfl dX12_refusal_72 rfl rfl ?_
    refine r_iload_n (np := 74) G hl 1 rfl dX12_refusal_73 rfl rfl ?_
    obtain ⟨b5, s6, e7, hm⟩ := call_t hm
    refine m_callVI (np := 77) G hM hl.1 [vI v1] (qX12_isSmall l E s2 v0 v1 _ e7) myX12_isSmall (shp_lt (gX12_isSmall e7) (by decide)) (gX12_isSmall e7) rfl (by decide) lkX12_430 ⟨Nat.le_of_ble_eq_true rfl, Nat.le_of_ble_eq_true rfl⟩ ⟨Nat.le_of_ble_eq_true rfl, Nat.le_of_ble_eq_true rfl⟩ [] rfl (Nat.le_of_ble_eq_true rfl) dX12_refusal_74 rfl (fun H locs hM => ?_)
    refine r_if_eq (np := 80) (tgt := 93) G rfl dX12_refusal_77 (by decide) rfl (fun h8 => ?_) (fun h8 => ?_)
    · have hm := b_t h8 hm
      exact wX12_refusal_B93 l E out G hr hk v0 v1 v2 g0 _ _ _ _ hm hM (lv_sub hl [] rfl)
    · have hm := b_f h8 hm
      refine r_iload_n (np := 81) G hl 2 rfl dX12_refusal_80 rfl rfl ?_
      refine r_iconst (np := 82) G (-1) dX12_refusal_81 rfl ?_
      refine r_icmp_eq (np := 85) (tgt := 98) G rfl (wIk (-1) rfl) dX12_refusal_82 (by decide) rfl (fun h9 => ?_) (fun h9 => ?_)
      · have hm := b_t h9 hm
        exact wX12_refusal_B98 l E out G hr hk v0 v1 v2 g0 _ _ _ _ hm hM (lv_sub hl [] rfl)
      · have hm := b_f h9 hm
        refine r_aload_n (np := 86) G hl 0 rfl dX12_refusal_85 rfl rfl ?_
        refine r_iload_n (np := 87) G hl 2 rfl dX12_refusal_86 rfl rfl ?_
        obtain ⟨b10, s11, e12, hm⟩ := call_t hm
        refine m_callVI (np := 90) G hM hl.1 [vI v2] (qX12_isSmall l E s6 v0 v2 _ e12) myX12_isSmall (shp_lt (gX12_isSmall e12) (by decide)) (gX12_isSmall e12) rfl (by decide) lkX12_430 ⟨Nat.le_of_ble_eq_true rfl, Nat.le_of_ble_eq_true rfl⟩ ⟨Nat.le_of_ble_eq_true rfl, Nat.le_of_ble_eq_true rfl⟩ [] rfl (Nat.le_of_ble_eq_true rfl) dX12_refusal_87 rfl (fun H locs hM => ?_)
        refine r_if_ne (np := 93) (tgt := 98) G rfl dX12_refusal_90 (by decide) rfl (fun h13 => ?_) (fun h13 => ?_)
        · have hm := b_f h13 hm
          exact wX12_refusal_B98 l E out G hr hk v0 v1 v2 g0 _ _ _ _ hm hM (lv_sub hl [] rfl)
        · have hm := b_t h13 hm
          exact wX12_refusal_B93 l E out G hr hk v0 v1 v2 g0 _ _ _ _ hm hM (lv_sub hl [] rfl)
set_option maxRecDepth 100000 in
set_option maxHeartbeats 4000000 in
theorem wX12_refusal_B38 (l : Launch) (E : mE) (out : Int × mSt) {p : Program} {e : Env} {s : State} {m : MethodId} {args : Array Value} {below : List Frame} {meth : Method} {c : Code} (G : CallFix p m c cX12_refusal 3 s args mTs RX12) (hr : meth.sig.returnType = (some .int)) (hk : meth.locks = false) (v0 : Nat) (v1 : Int) (v2 : Int) (g0 : isC v0 11) : ∀ (σ : mSt) (H : Heap) (locs : List Loc) (ls : Array Slot), mX12_refusal_B38 v0 v1 v2 σ = some out → mM (mA E 276) E 276 σ s H locs → lv_has ls 3 [(0, .ref (eA E v0)), (1, vI v1), (2, vI v2)] → mGo l p e 3 79 s m args below meth c E (some (vI out.1)) out.2 H locs (F0 m 38 ls []) := by
  intro σ H locs ls hm hM hl
  unfold mX12_refusal_B38 at hm
  refine r_aload_n (np := 39) G hl 0 rfl dX12_refusal_38 rfl rfl ?_
  refine r_iload_n (np := 40) G hl 1 rfl dX12_refusal_39 rfl rfl ?_
  obtain ⟨b14, s15, e16, hm⟩ := call_t hm
  refine m_callVI (np := 43) G hM hl.1 [vI v1] (qX12_isInOrder l E σ v0 v1 _ e16) myX12_isInOrder (shp_lt (gX12_isInOrder e16) (by decide)) (gX12_isInOrder e16) rfl (by decide) lkX12_423 ⟨Nat.le_of_ble_eq_true rfl, Nat.le_of_ble_eq_true rfl⟩ ⟨Nat.le_of_ble_eq_true rfl, Nat.le_of_ble_eq_true rfl⟩ [] rfl (Nat.le_of_ble_eq_true rfl) dX12_refusal_40 rfl (fun H locs hM => ?_)
  refine r_if_eq (np := 46) (tgt := 59) G rfl dX12_refusal_43 (by decide) rfl (fun h17 => ?_) (fun h17 => ?_)
  · have hm := b_t h17 hm
    refine r_bipush (np := 61) G (-2) dX12_refusal_59 (by decide) rfl ?_
    exact r_iret G hr hk hM hm dX12_refusal_61
  · have hm := b_f h17 hm
    refine r_iload_n (np := 47) G hl 2 rfl dX12_refusal_46 rfl rfl ?_
    refine r_iconst (np := 48) G (-1) dX12_refusal_47 rfl ?_
    refine r_icmp_eq (np := 51) (tgt := 62) G rfl (wIk (-1) rfl) dX12_refusal_48 (by decide) rfl (fun h18 => ?_) (fun h18 => ?_)
    · have hm := b_t h18 hm
      exact wX12_refusal_B62 l E out G hr hk v0 v1 v2 g0 _ _ _ _ hm hM (lv_sub hl [0, 1, 2] rfl)
    · have hm := b_f h18 hm
      refine r_aload_n (np := 52) G hl 0 rfl dX12_refusal_51 rfl rfl ?_
      refine r_iload_n (np := 53) G hl 2 rfl dX12_refusal_52 rfl rfl ?_
      obtain ⟨b19, s20, e21, hm⟩ := call_t hm
      refine m_callVI (np := 56) G hM hl.1 [vI v2] (qX12_isInOrder l E s15 v0 v2 _ e21) myX12_isInOrder (shp_lt (gX12_isInOrder e21) (by decide)) (gX12_isInOrder e21) rfl (by decide) lkX12_423 ⟨Nat.le_of_ble_eq_true rfl, Nat.le_of_ble_eq_true rfl⟩ ⟨Nat.le_of_ble_eq_true rfl, Nat.le_of_ble_eq_true rfl⟩ [] rfl (Nat.le_of_ble_eq_true rfl) dX12_refusal_53 rfl (fun H locs hM => ?_)
      refine r_if_ne (np := 59) (tgt := 62) G rfl dX12_refusal_56 (by decide) rfl (fun h22 => ?_) (fun h22 => ?_)
      · have hm := b_f h22 hm
        exact wX12_refusal_B62 l E out G hr hk v0 v1 v2 g0 _ _ _ _ hm hM (lv_sub hl [0, 1, 2] rfl)
      · have hm := b_t h22 hm
        refine r_bipush (np := 61) G (-2) dX12_refusal_59 (by decide) rfl ?_
        exact r_iret G hr hk hM hm dX12_refusal_61
set_option maxRecDepth 100000 in
set_option maxHeartbeats 4000000 in
theorem qX12_refusal (l : Launch) (E : mE) (σ : mSt) (v0 : Nat) (v1 : Int) (v2 : Int) (out : Int × mSt) (hm : mX12_refusal v0 v1 v2 σ = some out) : mMet l yX12_refusal cX12_refusal 3 (some .int) 3 79 E 276 [.ref (eA E v0), vI v1, vI v2] σ (some (vI out.1)) out.2 := by
  unfold mX12_refusal at hm
  obtain ⟨g0, hm⟩ := g_t hm
  refine m_entry (by decide +kernel) (Nat.le_of_ble_eq_true rfl) (fun p e s m args below meth c G hr hk hM ls hl => ?_)
  have G : CallFix p m c cX12_refusal 3 s args mTs RX12 := G
  have hl : lv_has ls 3 [(0, .ref (eA E v0)), (1, vI v1), (2, vI v2)] := hl
  refine r_aload_n (np := 1) G hl 0 rfl dX12_refusal_0 rfl rfl ?_
  refine r_iload_n (np := 2) G hl 1 rfl dX12_refusal_1 rfl rfl ?_
  obtain ⟨b23, s24, e25, hm⟩ := call_t hm
  refine m_callVI (np := 5) G hM hl.1 [vI v1] (qX12_isKept l E σ v0 v1 _ e25) myX12_isKept (shp_lt (gX12_isKept e25) (by decide)) (gX12_isKept e25) rfl (by decide) lkX12_297 ⟨Nat.le_of_ble_eq_true rfl, Nat.le_of_ble_eq_true rfl⟩ ⟨Nat.le_of_ble_eq_true rfl, Nat.le_of_ble_eq_true rfl⟩ [] rfl (Nat.le_of_ble_eq_true rfl) dX12_refusal_2 rfl (fun H locs hM => ?_)
  refine r_if_eq (np := 8) (tgt := 36) G rfl dX12_refusal_5 (by decide) rfl (fun h26 => ?_) (fun h26 => ?_)
  · have hm := b_t h26 hm
    refine r_iconst (np := 37) G (-1) dX12_refusal_36 rfl ?_
    exact r_iret G hr hk hM hm dX12_refusal_37
  · have hm := b_f h26 hm
    refine r_iload_n (np := 9) G hl 2 rfl dX12_refusal_8 rfl rfl ?_
    refine r_iconst (np := 10) G (-1) dX12_refusal_9 rfl ?_
    refine r_icmp_eq (np := 13) (tgt := 38) G rfl (wIk (-1) rfl) dX12_refusal_10 (by decide) rfl (fun h27 => ?_) (fun h27 => ?_)
    · have hm := b_t h27 hm
      exact wX12_refusal_B38 l E out G hr hk v0 v1 v2 g0 _ _ _ _ hm hM (lv_sub hl [0, 1, 2] rfl)
    · have hm := b_f h27 hm
      refine r_aload_n (np := 14) G hl 0 rfl dX12_refusal_13 rfl rfl ?_
      refine r_iload_n (np := 15) G hl 2 rfl dX12_refusal_14 rfl rfl ?_
      obtain ⟨b28, s29, e30, hm⟩ := call_t hm
      refine m_callVI (np := 18) G hM hl.1 [vI v2] (qX12_isKept l E s24 v0 v2 _ e30) myX12_isKept (shp_lt (gX12_isKept e30) (by decide)) (gX12_isKept e30) rfl (by decide) lkX12_297 ⟨Nat.le_of_ble_eq_true rfl, Nat.le_of_ble_eq_true rfl⟩ ⟨Nat.le_of_ble_eq_true rfl, Nat.le_of_ble_eq_true rfl⟩ [] rfl (Nat.le_of_ble_eq_true rfl) dX12_refusal_15 rfl (fun H locs hM => ?_)
      refine r_if_eq (np := 21) (tgt := 36) G rfl dX12_refusal_18 (by decide) rfl (fun h31 => ?_) (fun h31 => ?_)
      · have hm := b_t h31 hm
        refine r_iconst (np := 37) G (-1) dX12_refusal_36 rfl ?_
        exact r_iret G hr hk hM hm dX12_refusal_37
      · have hm := b_f h31 hm
        refine r_aload_n (np := 22) G hl 0 rfl dX12_refusal_21 rfl rfl ?_
        obtain ⟨r32, e33, hm⟩ := ref_t hm
        refine r_getR (np := 25) G hM (shp_lt g0 (by decide)) g0 e33 fdX12_22 lkX12_36 dX12_refusal_22 rfl ?_
        refine r_iload_n (np := 26) G hl 2 rfl dX12_refusal_25 rfl rfl ?_
        obtain ⟨g34, hm⟩ := g_t hm
        refine r_iaload (np := 27) G hM g34 rfl dX12_refusal_26 rfl ?_
        refine r_aload_n (np := 28) G hl 0 rfl dX12_refusal_27 rfl rfl ?_
        obtain ⟨r35, e36, hm⟩ := ref_t hm
        refine r_getR (np := 31) G hM (shp_lt g0 (by decide)) g0 e36 fdX12_22 lkX12_36 dX12_refusal_28 rfl ?_
        refine r_iload_n (np := 32) G hl 1 rfl dX12_refusal_31 rfl rfl ?_
        obtain ⟨g37, hm⟩ := g_t hm
        refine r_iaload (np := 33) G hM g37 rfl dX12_refusal_32 rfl ?_
        refine r_icmp_eq (np := 36) (tgt := 38) G rfl rfl dX12_refusal_33 (by decide) rfl (fun h38 => ?_) (fun h38 => ?_)
        · have hm := b_t h38 hm
          exact wX12_refusal_B38 l E out G hr hk v0 v1 v2 g0 _ _ _ _ hm hM (lv_sub hl [0, 1, 2] rfl)
        · have hm := b_f h38 hm
          refine r_iconst (np := 37) G (-1) dX12_refusal_36 rfl ?_
          exact r_iret G hr hk hM hm dX12_refusal_37
theorem gX12_refusal {v0 : Nat} {v1 : Int} {v2 : Int} {σ : mSt} {out : Int × mSt} (hm : mX12_refusal v0 v1 v2 σ = some out) : isC v0 11 := (g_t hm).1
set_option maxRecDepth 100000 in
set_option maxHeartbeats 4000000 in
theorem wX12_putsProducts_B158 (l : Launch) (E : mE) (out : Int × mSt) {p : Program} {e : Env} {s : State} {m : MethodId} {args : Array Value} {below : List Frame} {meth : Method} {c : Code} (G : CallFix p m c cX12_putsProducts 9 s args mTs RX12) (hr : meth.sig.returnType = none) (hk : meth.locks = false) (v0 : Nat) (v1 : Int) (v2 : Int) (g0 : isC v0 11) : ∀ (σ : mSt) (H : Heap) (locs : List Loc) (ls : Array Slot), mX12_putsProducts_B158 v0 v1 v2 σ = some out → mM (mA E 276) E 276 σ s H locs → lv_has ls 9 [] → mGo l p e 4 112 s m args below meth c E none out.2 H locs (F0 m 158 ls []) := by
  intro σ H locs ls hm hM hl
  unfold mX12_putsProducts_B158 at hm
  exact r_vret G hr hk hM hm dX12_putsProducts_158
set_option maxRecDepth 100000 in
set_option maxHeartbeats 4000000 in
theorem wX12_putsProducts_B135 (l : Launch) (E : mE) (out : Int × mSt) {p : Program} {e : Env} {s : State} {m : MethodId} {args : Array Value} {below : List Frame} {meth : Method} {c : Code} (G : CallFix p m c cX12_putsProducts 9 s args mTs RX12) (hr : meth.sig.returnType = none) (hk : meth.locks = false) (v0 : Nat) (v1 : Int) (v2 : Int) (g0 : isC v0 11) (c2 : Int → mSt → Option (Int × mSt)) (x158 : mSt → Option (Int × mSt)) (hc2 : ∀ (v3 : Int) (σ : mSt) (H : Heap) (locs : List Loc) (ls : Array Slot), c2 v3 σ = some out → mM (mA E 276) E 276 σ s H locs → lv_has ls 9 [(0, .ref (eA E v0)), (1, vI v1), (2, vI v2), (3, vI v3)] → mGo l p e 4 112 s m args below meth c E none out.2 H locs (F0 m 2 ls [])) (hx158 : ∀ (σ : mSt) (H : Heap) (locs : List Loc) (ls : Array Slot), x158 σ = some out → mM (mA E 276) E 276 σ s H locs → lv_has ls 9 [] → mGo l p e 4 112 s m args below meth c E none out.2 H locs (F0 m 158 ls [])) : ∀ (v3 : Int) (v4 : Int) (σ : mSt) (H : Heap) (locs : List Loc) (ls : Array Slot), mX12_putsProducts_B135 v0 v1 v2 c2 x158 v3 v4 σ = some out → mM (mA E 276) E 276 σ s H locs → lv_has ls 9 [(0, .ref (eA E v0)), (1, vI v1), (2, vI v2), (3, vI v3), (4, vL v4)] → mGo l p e 4 112 s m args below meth c E none out.2 H locs (F0 m 135 ls []) := by
  intro v3 v4 σ H locs ls hm hM hl
  unfold mX12_putsProducts_B135 at hm
  refine r_aload_n (np := 136) G hl 0 rfl dX12_putsProducts_135 rfl rfl ?_
  refine r_dup (np := 137) G dX12_putsProducts_136 rfl rfl ?_
  refine r_getI (np := 140) G hM (shp_lt g0 (by decide)) g0 fdX12_34 lkX12_433 dX12_putsProducts_137 rfl ?_
  refine r_aload_n (np := 141) G hl 0 rfl dX12_putsProducts_140 rfl rfl ?_
  refine r_bipush (np := 143) G 9 dX12_putsProducts_141 (by decide) rfl ?_
  refine r_lload (np := 145) G hl 4 rfl dX12_putsProducts_143 rfl ?_
  obtain ⟨b1, s2, e3, hm⟩ := call_t hm
  refine m_callVI (np := 148) G hM hl.1 [vI 9, vL v4] (qX12_puts_ l E σ v0 9 v4 _ e3) myX12_puts_ (shp_lt (gX12_puts_ e3) (by decide)) (gX12_puts_ e3) rfl (by decide) lkX12_388 ⟨Nat.le_of_ble_eq_true rfl, Nat.le_of_ble_eq_true rfl⟩ ⟨Nat.le_of_ble_eq_true rfl, Nat.le_of_ble_eq_true rfl⟩ [vI (σ v0 34), .ref (eA E v0)] rfl (Nat.le_of_ble_eq_true rfl) dX12_putsProducts_145 rfl (fun H locs hM => ?_)
  refine r_ior (np := 149) G dX12_putsProducts_148 rfl ?_
  obtain ⟨g4, hm⟩ := g_t hm
  obtain ⟨s5, e6, hm⟩ := bnd_t hm
  refine r_putZ (np := 152) G hM (shp_lt g0 (by decide)) g0 ptX12_34 rfl lkX12_433 g4 s5 e6 dX12_putsProducts_149 rfl (fun H locs hM => ?_)
  obtain ⟨a7, e8, hm⟩ := bnd_t hm
  refine r_iinc (np := 155) G hl 3 rfl e8 [(3, vI a7), (0, .ref (eA E v0)), (1, vI v1), (2, vI v2), (4, vL v4)] dX12_putsProducts_152 rfl (by decide) rfl (fun ls hl => ?_)
  refine r_goto (np := 2) G dX12_putsProducts_155 (by decide) ?_
  exact hc2 a7 _ _ _ _ hm hM (lv_sub hl [1, 2, 3, 0] rfl)
set_option maxRecDepth 100000 in
set_option maxHeartbeats 4000000 in
theorem wX12_putsProducts_L109 (l : Launch) (E : mE) (out : Int × mSt) {p : Program} {e : Env} {s : State} {m : MethodId} {args : Array Value} {below : List Frame} {meth : Method} {c : Code} (G : CallFix p m c cX12_putsProducts 9 s args mTs RX12) (hr : meth.sig.returnType = none) (hk : meth.locks = false) (v0 : Nat) (v1 : Int) (v2 : Int) (v3 : Int) (v4 : Int) (g0 : isC v0 11) (x135 : mSt → Option (Int × mSt)) (hx135 : ∀ (σ : mSt) (H : Heap) (locs : List Loc) (ls : Array Slot), x135 σ = some out → mM (mA E 276) E 276 σ s H locs → lv_has ls 9 [(0, .ref (eA E v0)), (1, vI v1), (2, vI v2), (3, vI v3), (4, vL v4)] → mGo l p e 4 112 s m args below meth c E none out.2 H locs (F0 m 135 ls [])) : ∀ (n : Nat) (v8 : Int) (σ : mSt) (H : Heap) (locs : List Loc) (ls : Array Slot), mX12_putsProducts_L109 v0 v1 v2 v3 v4 x135 n v8 σ = some out → mM (mA E 276) E 276 σ s H locs → lv_has ls 9 [(0, .ref (eA E v0)), (1, vI v1), (2, vI v2), (3, vI v3), (4, vL v4), (8, vI v8)] → mGo l p e 4 112 s m args below meth c E none out.2 H locs (F0 m 109 ls []) := by
  intro n
  induction n with
  | zero =>
    intro v8 σ H locs ls hm hM hl
    exact absurd hm (by rw [mX12_putsProducts_L109.eq_1]; exact fun h => nomatch h)
  | succ n ih =>
    intro v8 σ H locs ls hm hM hl
    rw [mX12_putsProducts_L109.eq_2] at hm
    refine r_iload (np := 111) G hl 5 rfl dX12_putsProducts_109 rfl ?_
    refine r_iconst (np := 112) G 4 dX12_putsProducts_111 rfl ?_
    refine r_icmp_ge (np := 115) (tgt := 135) G rfl (wIk 4 rfl) dX12_putsProducts_112 (by decide) rfl (fun h9 => ?_) (fun h9 => ?_)
    · have hm := b_t h9 hm
      exact hx135 _ _ _ _ hm hM (lv_sub hl [0, 1, 2, 3, 4] rfl)
    · have hm := b_f h9 hm
      refine r_aload_n (np := 116) G hl 0 rfl dX12_putsProducts_115 rfl rfl ?_
      obtain ⟨r10, e11, hm⟩ := ref_t hm
      refine r_getR (np := 119) G hM (shp_lt g0 (by decide)) g0 e11 fdX12_32 lkX12_66 dX12_putsProducts_116 rfl ?_
      refine r_iload (np := 121) G hl 5 rfl dX12_putsProducts_119 rfl ?_
      refine r_aload_n (np := 122) G hl 0 rfl dX12_putsProducts_121 rfl rfl ?_
      obtain ⟨r12, e13, hm⟩ := ref_t hm
      refine r_getR (np := 125) G hM (shp_lt g0 (by decide)) g0 e13 fdX12_27 lkX12_51 dX12_putsProducts_122 rfl ?_
      refine r_iload (np := 127) G hl 5 rfl dX12_putsProducts_125 rfl ?_
      obtain ⟨g14, hm⟩ := g_t hm
      refine r_laload (np := 128) G hM g14 rfl dX12_putsProducts_127 rfl ?_
      obtain ⟨g15, hm⟩ := g_t hm
      obtain ⟨s16, e17, hm⟩ := bnd_t hm
      refine r_lastore (np := 129) G hM g15 rfl s16 e17 dX12_putsProducts_128 rfl (fun H locs hM => ?_)
      obtain ⟨a18, e19, hm⟩ := bnd_t hm
      refine r_iinc (np := 132) G hl 5 rfl e19 [(8, vI a18), (0, .ref (eA E v0)), (1, vI v1), (2, vI v2), (3, vI v3), (4, vL v4)] dX12_putsProducts_129 rfl (by decide) rfl (fun ls hl => ?_)
      refine r_goto (np := 109) G dX12_putsProducts_132 (by decide) ?_
      exact ih a18 _ _ _ _ hm hM (lv_sub hl [1, 2, 3, 4, 5, 0] rfl)
set_option maxRecDepth 100000 in
set_option maxHeartbeats 4000000 in
theorem wX12_putsProducts_B106 (l : Launch) (E : mE) (out : Int × mSt) {p : Program} {e : Env} {s : State} {m : MethodId} {args : Array Value} {below : List Frame} {meth : Method} {c : Code} (G : CallFix p m c cX12_putsProducts 9 s args mTs RX12) (hr : meth.sig.returnType = none) (hk : meth.locks = false) (v0 : Nat) (v1 : Int) (v2 : Int) (g0 : isC v0 11) (c2 : Int → mSt → Option (Int × mSt)) (x158 : mSt → Option (Int × mSt)) (hc2 : ∀ (v3 : Int) (σ : mSt) (H : Heap) (locs : List Loc) (ls : Array Slot), c2 v3 σ = some out → mM (mA E 276) E 276 σ s H locs → lv_has ls 9 [(0, .ref (eA E v0)), (1, vI v1), (2, vI v2), (3, vI v3)] → mGo l p e 4 112 s m args below meth c E none out.2 H locs (F0 m 2 ls [])) (hx158 : ∀ (σ : mSt) (H : Heap) (locs : List Loc) (ls : Array Slot), x158 σ = some out → mM (mA E 276) E 276 σ s H locs → lv_has ls 9 [] → mGo l p e 4 112 s m args below meth c E none out.2 H locs (F0 m 158 ls [])) : ∀ (v3 : Int) (v4 : Int) (σ : mSt) (H : Heap) (locs : List Loc) (ls : Array Slot), mX12_putsProducts_B106 v0 v1 v2 c2 x158 v3 v4 σ = some out → mM (mA E 276) E 276 σ s H locs → lv_has ls 9 [(0, .ref (eA E v0)), (1, vI v1), (2, vI v2), (3, vI v3), (4, vL v4)] → mGo l p e 4 112 s m args below meth c E none out.2 H locs (F0 m 106 ls []) := by
  intro v3 v4 σ H locs ls hm hM hl
  unfold mX12_putsProducts_B106 at hm
  refine r_iconst (np := 107) G 0 dX12_putsProducts_106 rfl ?_
  refine r_istore (np := 109) G hl rfl [(8, vI 0), (0, .ref (eA E v0)), (1, vI v1), (2, vI v2), (3, vI v3), (4, vL v4)] dX12_putsProducts_107 rfl (by decide) rfl (fun ls hl => ?_)
  exact wX12_putsProducts_L109 l E out G hr hk v0 v1 v2 v3 v4 g0 (fun zσ => mX12_putsProducts_B135 v0 v1 v2 c2 x158 v3 v4 zσ) (fun zσ zH zl zs zm zM zv => wX12_putsProducts_B135 l E out G hr hk v0 v1 v2 g0 c2 x158 hc2 hx158 v3 v4 zσ zH zl zs zm zM zv) mF 0 _ _ _ _ hm hM (lv_sub hl [1, 2, 3, 4, 5, 0] rfl)
set_option maxRecDepth 100000 in
set_option maxHeartbeats 4000000 in
theorem wX12_putsProducts_L2 (l : Launch) (E : mE) (out : Int × mSt) {p : Program} {e : Env} {s : State} {m : MethodId} {args : Array Value} {below : List Frame} {meth : Method} {c : Code} (G : CallFix p m c cX12_putsProducts 9 s args mTs RX12) (hr : meth.sig.returnType = none) (hk : meth.locks = false) (v0 : Nat) (v1 : Int) (v2 : Int) (g0 : isC v0 11) (x158 : mSt → Option (Int × mSt)) (hx158 : ∀ (σ : mSt) (H : Heap) (locs : List Loc) (ls : Array Slot), x158 σ = some out → mM (mA E 276) E 276 σ s H locs → lv_has ls 9 [] → mGo l p e 4 112 s m args below meth c E none out.2 H locs (F0 m 158 ls [])) : ∀ (n : Nat) (v3 : Int) (σ : mSt) (H : Heap) (locs : List Loc) (ls : Array Slot), mX12_putsProducts_L2 v0 v1 v2 x158 n v3 σ = some out → mM (mA E 276) E 276 σ s H locs → lv_has ls 9 [(0, .ref (eA E v0)), (1, vI v1), (2, vI v2), (3, vI v3)] → mGo l p e 4 112 s m args below meth c E none out.2 H locs (F0 m 2 ls []) := by
  intro n
  induction n with
  | zero =>
    intro v3 σ H locs ls hm hM hl
    exact absurd hm (by rw [mX12_putsProducts_L2.eq_1]; exact fun h => nomatch h)
  | succ n ih =>
    intro v3 σ H locs ls hm hM hl
    rw [mX12_putsProducts_L2.eq_2] at hm
    refine r_iload_n (np := 3) G hl 3 rfl dX12_putsProducts_2 rfl rfl ?_
    refine r_iconst (np := 4) G 4 dX12_putsProducts_3 rfl ?_
    refine r_icmp_ge (np := 7) (tgt := 158) G rfl (wIk 4 rfl) dX12_putsProducts_4 (by decide) rfl (fun h20 => ?_) (fun h20 => ?_)
    · have hm := b_t h20 hm
      exact hx158 _ _ _ _ hm hM (lv_sub hl [] rfl)
    · have hm := b_f h20 hm
      refine r_aload_n (np := 8) G hl 0 rfl dX12_putsProducts_7 rfl rfl ?_
      refine r_iload_n (np := 9) G hl 1 rfl dX12_putsProducts_8 rfl rfl ?_
      refine r_iload_n (np := 10) G hl 3 rfl dX12_putsProducts_9 rfl rfl ?_
      refine r_iconst (np := 11) G 0 dX12_putsProducts_10 rfl ?_
      obtain ⟨b21, s22, e23, hm⟩ := call_t hm
      refine m_callVV (np := 14) G hM hl.1 [vI v1, vI v3, vI 0] (qX12_takesRow l E σ v0 v1 v3 0 _ e23) myX12_takesRow (shp_lt (gX12_takesRow e23) (by decide)) (gX12_takesRow e23) rfl (by decide) lkX12_377 ⟨Nat.le_of_ble_eq_true rfl, Nat.le_of_ble_eq_true rfl⟩ ⟨Nat.le_of_ble_eq_true rfl, Nat.le_of_ble_eq_true rfl⟩ [] rfl (Nat.le_of_ble_eq_true rfl) dX12_putsProducts_11 rfl (fun H locs hM => ?_)
      refine r_aload_n (np := 15) G hl 0 rfl dX12_putsProducts_14 rfl rfl ?_
      refine r_iload_n (np := 16) G hl 2 rfl dX12_putsProducts_15 rfl rfl ?_
      obtain ⟨b24, s25, e26, hm⟩ := call_t hm
      refine m_callVV (np := 19) G hM hl.1 [vI v2] (qX12_takesOther l E s22 v0 v2 _ e26) myX12_takesOther (shp_lt (gX12_takesOther e26) (by decide)) (gX12_takesOther e26) rfl (by decide) lkX12_315 ⟨Nat.le_of_ble_eq_true rfl, Nat.le_of_ble_eq_true rfl⟩ ⟨Nat.le_of_ble_eq_true rfl, Nat.le_of_ble_eq_true rfl⟩ [] rfl (Nat.le_of_ble_eq_true rfl) dX12_putsProducts_16 rfl (fun H locs hM => ?_)
      refine r_aload_n (np := 20) G hl 0 rfl dX12_putsProducts_19 rfl rfl ?_
      refine r_aload_n (np := 21) G hl 0 rfl dX12_putsProducts_20 rfl rfl ?_
      obtain ⟨r27, e28, hm⟩ := ref_t hm
      refine r_getR (np := 24) G hM (shp_lt g0 (by decide)) g0 e28 fdX12_15 lkX12_24 dX12_putsProducts_21 rfl ?_
      refine r_iload_n (np := 25) G hl 1 rfl dX12_putsProducts_24 rfl rfl ?_
      obtain ⟨g29, hm⟩ := g_t hm
      refine r_iaload (np := 26) G hM g29 rfl dX12_putsProducts_25 rfl ?_
      refine r_i2l (np := 27) G rfl dX12_putsProducts_26 rfl ?_
      refine r_aload_n (np := 28) G hl 0 rfl dX12_putsProducts_27 rfl rfl ?_
      obtain ⟨r30, e31, hm⟩ := ref_t hm
      refine r_getR (np := 31) G hM (shp_lt g0 (by decide)) g0 e31 fdX12_16 lkX12_27 dX12_putsProducts_28 rfl ?_
      refine r_iload_n (np := 32) G hl 1 rfl dX12_putsProducts_31 rfl rfl ?_
      obtain ⟨g32, hm⟩ := g_t hm
      refine r_iaload (np := 33) G hM g32 rfl dX12_putsProducts_32 rfl ?_
      refine r_i2l (np := 34) G rfl dX12_putsProducts_33 rfl ?_
      obtain ⟨b33, s34, e35, hm⟩ := call_t hm
      refine m_callVV (np := 37) G hM hl.1 [vL (wI (s25 r27 (wI v1).toNat)), vL (wI (s25 r30 (wI v1).toNat))] (qX12_multiplies l E s25 v0 (wI (s25 r27 (wI v1).toNat)) (wI (s25 r30 (wI v1).toNat)) _ e35) myX12_multiplies (shp_lt (gX12_multiplies e35) (by decide)) (gX12_multiplies e35) rfl (by decide) lkX12_318 ⟨Nat.le_of_ble_eq_true rfl, Nat.le_of_ble_eq_true rfl⟩ ⟨Nat.le_of_ble_eq_true rfl, Nat.le_of_ble_eq_true rfl⟩ [] rfl (Nat.le_of_ble_eq_true rfl) dX12_putsProducts_34 rfl (fun H locs hM => ?_)
      refine r_aload_n (np := 38) G hl 0 rfl dX12_putsProducts_37 rfl rfl ?_
      obtain ⟨r36, e37, hm⟩ := ref_t hm
      refine r_getR (np := 41) G hM (shp_lt g0 (by decide)) g0 e37 fdX12_30 lkX12_60 dX12_putsProducts_38 rfl ?_
      refine r_iload_n (np := 42) G hl 1 rfl dX12_putsProducts_41 rfl rfl ?_
      obtain ⟨g38, hm⟩ := g_t hm
      refine r_laload (np := 43) G hM g38 rfl dX12_putsProducts_42 rfl ?_
      refine r_aload_n (np := 44) G hl 0 rfl dX12_putsProducts_43 rfl rfl ?_
      refine r_iload_n (np := 45) G hl 2 rfl dX12_putsProducts_44 rfl rfl ?_
      refine r_iconst (np := 46) G 4 dX12_putsProducts_45 rfl ?_
      obtain ⟨b39, s40, e41, hm⟩ := call_t hm
      refine m_callVL (np := 49) G hM hl.1 [vI v2, vI 4] (qX12_part l E s34 v0 v2 4 _ e41) myX12_part (shp_lt (gX12_part e41) (by decide)) (gX12_part e41) rfl (by decide) lkX12_294 ⟨Nat.le_of_ble_eq_true rfl, Nat.le_of_ble_eq_true rfl⟩ ⟨Nat.le_of_ble_eq_true rfl, Nat.le_of_ble_eq_true rfl⟩ [vL (s34 r36 (wI v1).toNat)] rfl (Nat.le_of_ble_eq_true rfl) dX12_putsProducts_46 rfl (fun H locs hM => ?_)
      refine r_lmul (np := 50) G dX12_putsProducts_49 rfl ?_
      obtain ⟨a42, e43, hm⟩ := bnd_t hm
      refine r_lstore (np := 52) G hl e43 [(4, vL a42), (0, .ref (eA E v0)), (1, vI v1), (2, vI v2), (3, vI v3)] dX12_putsProducts_50 rfl (by decide) rfl (fun ls hl => ?_)
      refine r_aload_n (np := 53) G hl 1 rfl dX12_putsProducts_52 rfl rfl ?_
      obtain ⟨r44, e45, hm⟩ := ref_t hm
      refine r_getR (np := 56) G hM (shp_lt g0 (by decide)) g0 e45 fdX12_30 lkX12_60 dX12_putsProducts_53 rfl ?_
      refine r_bipush (np := 58) G 9 dX12_putsProducts_56 (by decide) rfl ?_
      obtain ⟨g46, hm⟩ := g_t hm
      refine r_laload (np := 59) G hM g46 rfl dX12_putsProducts_58 rfl ?_
      refine r_aload_n (np := 60) G hl 1 rfl dX12_putsProducts_59 rfl rfl ?_
      obtain ⟨r47, e48, hm⟩ := ref_t hm
      refine r_getR (np := 63) G hM (shp_lt g0 (by decide)) g0 e48 fdX12_30 lkX12_60 dX12_putsProducts_60 rfl ?_
      refine r_bipush (np := 65) G 9 dX12_putsProducts_63 (by decide) rfl ?_
      obtain ⟨g49, hm⟩ := g_t hm
      refine r_laload (np := 66) G hM g49 rfl dX12_putsProducts_65 rfl ?_
      refine r_lload (np := 68) G hl 0 rfl dX12_putsProducts_66 rfl ?_
      obtain ⟨b50, s51, e52, hm⟩ := call_t hm
      refine m_callSL (np := 71) G hM hl.1 [vL (s40 r47 9), vL a42] (qX12_common l E s40 (s40 r47 9) a42 _ e52) myX12_common lkX12_280 ⟨Nat.le_of_ble_eq_true rfl, Nat.le_of_ble_eq_true rfl⟩ ⟨Nat.le_of_ble_eq_true rfl, Nat.le_of_ble_eq_true rfl⟩ [vL (s40 r44 9)] rfl (Nat.le_of_ble_eq_true rfl) dX12_putsProducts_68 rfl (fun H locs hM => ?_)
      obtain ⟨g53, hm⟩ := g_t hm
      refine r_ldiv (np := 72) G g53 dX12_putsProducts_71 rfl ?_
      refine r_lload (np := 74) G hl 0 rfl dX12_putsProducts_72 rfl ?_
      refine r_lmul (np := 75) G dX12_putsProducts_74 rfl ?_
      obtain ⟨a54, e55, hm⟩ := bnd_t hm
      refine r_lstore (np := 77) G hl e55 [(6, vL a54), (4, vL a42), (0, .ref (eA E v0)), (1, vI v1), (2, vI v2), (3, vI v3)] dX12_putsProducts_75 rfl (by decide) rfl (fun ls hl => ?_)
      refine r_lload (np := 79) G hl 0 rfl dX12_putsProducts_77 rfl ?_
      refine r_aload_n (np := 80) G hl 2 rfl dX12_putsProducts_79 rfl rfl ?_
      obtain ⟨r56, e57, hm⟩ := ref_t hm
      refine r_getR (np := 83) G hM (shp_lt g0 (by decide)) g0 e57 fdX12_30 lkX12_60 dX12_putsProducts_80 rfl ?_
      refine r_bipush (np := 85) G 9 dX12_putsProducts_83 (by decide) rfl ?_
      obtain ⟨g58, hm⟩ := g_t hm
      refine r_laload (np := 86) G hM g58 rfl dX12_putsProducts_85 rfl ?_
      refine r_lcmp_eq (np := 90) (tgt := 106) G rfl rfl dX12_putsProducts_86 dX12_putsProducts_87 (by decide) rfl (fun h59 => ?_) (fun h59 => ?_)
      · have hm := b_t h59 hm
        exact wX12_putsProducts_B106 l E out G hr hk v0 v1 v2 g0 (mX12_putsProducts_L2 v0 v1 v2 x158 n) x158 ih hx158 v3 a42 _ _ _ _ hm hM (lv_sub hl [2, 3, 4, 5, 1] rfl)
      · have hm := b_f h59 hm
        refine r_aload_n (np := 91) G hl 2 rfl dX12_putsProducts_90 rfl rfl ?_
        refine r_bipush (np := 93) G 9 dX12_putsProducts_91 (by decide) rfl ?_
        refine r_lload (np := 95) G hl 0 rfl dX12_putsProducts_93 rfl ?_
        refine r_aload_n (np := 96) G hl 2 rfl dX12_putsProducts_95 rfl rfl ?_
        obtain ⟨r60, e61, hm⟩ := ref_t hm
        refine r_getR (np := 99) G hM (shp_lt g0 (by decide)) g0 e61 fdX12_30 lkX12_60 dX12_putsProducts_96 rfl ?_
        refine r_bipush (np := 101) G 9 dX12_putsProducts_99 (by decide) rfl ?_
        obtain ⟨g62, hm⟩ := g_t hm
        refine r_laload (np := 102) G hM g62 rfl dX12_putsProducts_101 rfl ?_
        obtain ⟨g63, hm⟩ := g_t hm
        refine r_ldiv (np := 103) G g63 dX12_putsProducts_102 rfl ?_
        obtain ⟨b64, s65, e66, hm⟩ := call_t hm
        refine m_callVV (np := 106) G hM hl.1 [vI 9, vL ((wL a54).tdiv (wL (s51 r60 9)))] (qX12_scales l E s51 v0 9 ((wL a54).tdiv (wL (s51 r60 9))) _ e66) myX12_scales (shp_lt (gX12_scales e66) (by decide)) (gX12_scales e66) rfl (by decide) lkX12_367 ⟨Nat.le_of_ble_eq_true rfl, Nat.le_of_ble_eq_true rfl⟩ ⟨Nat.le_of_ble_eq_true rfl, Nat.le_of_ble_eq_true rfl⟩ [] rfl (Nat.le_of_ble_eq_true rfl) dX12_putsProducts_103 rfl (fun H locs hM => ?_)
        exact wX12_putsProducts_B106 l E out G hr hk v0 v1 v2 g0 (mX12_putsProducts_L2 v0 v1 v2 x158 n) x158 ih hx158 v3 a42 _ _ _ _ hm hM (lv_sub hl [2, 3, 4, 5, 1] rfl)
set_option maxRecDepth 100000 in
set_option maxHeartbeats 4000000 in
theorem qX12_putsProducts (l : Launch) (E : mE) (σ : mSt) (v0 : Nat) (v1 : Int) (v2 : Int) (out : Int × mSt) (hm : mX12_putsProducts v0 v1 v2 σ = some out) : mMet l yX12_putsProducts cX12_putsProducts 9 none 4 112 E 276 [.ref (eA E v0), vI v1, vI v2] σ none out.2 := by
  unfold mX12_putsProducts at hm
  obtain ⟨g0, hm⟩ := g_t hm
  refine m_entry (by decide +kernel) (Nat.le_of_ble_eq_true rfl) (fun p e s m args below meth c G hr hk hM ls hl => ?_)
  have G : CallFix p m c cX12_putsProducts 9 s args mTs RX12 := G
  have hl : lv_has ls 9 [(0, .ref (eA E v0)), (1, vI v1), (2, vI v2)] := hl
  refine r_iconst (np := 1) G 0 dX12_putsProducts_0 rfl ?_
  refine r_istore_n (np := 2) G hl rfl [(3, vI 0), (0, .ref (eA E v0)), (1, vI v1), (2, vI v2)] dX12_putsProducts_1 rfl rfl (by decide) rfl (fun ls hl => ?_)
  exact wX12_putsProducts_L2 l E out G hr hk v0 v1 v2 g0 (fun zσ => mX12_putsProducts_B158 v0 v1 v2 zσ) (fun zσ zH zl zs zm zM zv => wX12_putsProducts_B158 l E out G hr hk v0 v1 v2 g0 zσ zH zl zs zm zM zv) mF 0 _ _ _ _ hm hM (lv_sub hl [1, 2, 3, 0] rfl)
theorem gX12_putsProducts {v0 : Nat} {v1 : Int} {v2 : Int} {σ : mSt} {out : Int × mSt} (hm : mX12_putsProducts v0 v1 v2 σ = some out) : isC v0 11 := (g_t hm).1
