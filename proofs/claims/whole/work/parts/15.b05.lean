theorem lkX12_57 : Cond.fieldLink RX12 57 (TX12 29).1 (TX12 29).2.1 (TX12 29).2.2.1 ∈ mTs := mTs_in 1321 (by decide +kernel) (by decide +kernel)
theorem fdX12_29 : mFld 11 29 2 37 RX12 TX12 := ⟨rfl, inX12, by decide, rfl, by decide⟩
theorem lkX12_60 : Cond.fieldLink RX12 60 (TX12 30).1 (TX12 30).2.1 (TX12 30).2.2.1 ∈ mTs := mTs_in 1322 (by decide +kernel) (by decide +kernel)
theorem fdX12_30 : mFld 11 30 2 37 RX12 TX12 := ⟨rfl, inX12, by decide, rfl, by decide⟩
theorem lkX12_63 : Cond.fieldLink RX12 63 (TX12 31).1 (TX12 31).2.1 (TX12 31).2.2.1 ∈ mTs := mTs_in 1323 (by decide +kernel) (by decide +kernel)
theorem fdX12_31 : mFld 11 31 2 37 RX12 TX12 := ⟨rfl, inX12, by decide, rfl, by decide⟩
theorem lkX12_348 : Cond.methodLink RX12 348 yX12_set ∈ mTs := mTs_in 1508 (by decide +kernel) (by decide +kernel)
theorem myX12_set : mYV yX12_set cX12_set 6 none 4 := ⟨⟨mTs_in 1511 (by decide +kernel) (by decide +kernel), mTs_in 127 (by decide +kernel) (by decide +kernel), ⟨by decide, by decide⟩, by decide +kernel⟩, mTs_in 1510 (by decide +kernel) (by decide +kernel), mTs_in 71 (by decide +kernel) (by decide +kernel)⟩
theorem lkX12_219 : Cond.methodLink RX12 219 yX12_isAlgebra ∈ mTs := mTs_in 1516 (by decide +kernel) (by decide +kernel)
theorem myX12_isAlgebra : mYV yX12_isAlgebra cX12_isAlgebra 2 (some .boolean) 1 := ⟨⟨mTs_in 1519 (by decide +kernel) (by decide +kernel), mTs_in 127 (by decide +kernel) (by decide +kernel), ⟨by decide, by decide⟩, by decide +kernel⟩, mTs_in 1518 (by decide +kernel) (by decide +kernel), mTs_in 72 (by decide +kernel) (by decide +kernel)⟩
theorem lkX12_21 : Cond.fieldLink RX12 21 (TX12 14).1 (TX12 14).2.1 (TX12 14).2.2.1 ∈ mTs := mTs_in 1306 (by decide +kernel) (by decide +kernel)
theorem fdX12_14 : mFld 11 14 2 37 RX12 TX12 := ⟨rfl, inX12, by decide, rfl, by decide⟩
theorem lkX12_222 : Cond.constantLong RX12 222 (32) ∈ mTs := mTs_in 1524 (by decide +kernel) (by decide +kernel)
theorem lkX12_226 : Cond.methodLink RX12 226 yX12_firstLetter ∈ mTs := mTs_in 1521 (by decide +kernel) (by decide +kernel)
theorem myX12_firstLetter : mYS yX12_firstLetter cX12_firstLetter 4 (some .int) 1 := ⟨⟨mTs_in 1523 (by decide +kernel) (by decide +kernel), mTs_in 127 (by decide +kernel) (by decide +kernel), ⟨by decide, by decide⟩, by decide +kernel⟩, mTs_in 1522 (by decide +kernel) (by decide +kernel)⟩
theorem lkX12_224 : Cond.constantLong RX12 224 (3) ∈ mTs := mTs_in 1520 (by decide +kernel) (by decide +kernel)
theorem lkX12_229 : Cond.methodLink RX12 229 yX12_odd ∈ mTs := mTs_in 1550 (by decide +kernel) (by decide +kernel)
theorem myX12_odd : mYS yX12_odd cX12_odd 1 (some .int) 1 := ⟨⟨mTs_in 1552 (by decide +kernel) (by decide +kernel), mTs_in 127 (by decide +kernel) (by decide +kernel), ⟨by decide, by decide⟩, by decide +kernel⟩, mTs_in 1551 (by decide +kernel) (by decide +kernel)⟩
theorem lkX12_245 : Cond.methodLink RX12 245 yX12_legendre ∈ mTs := mTs_in 1556 (by decide +kernel) (by decide +kernel)
theorem myX12_legendre : mYS yX12_legendre cX12_legendre 4 (some .int) 2 := ⟨⟨mTs_in 1558 (by decide +kernel) (by decide +kernel), mTs_in 127 (by decide +kernel) (by decide +kernel), ⟨by decide, by decide⟩, by decide +kernel⟩, mTs_in 1557 (by decide +kernel) (by decide +kernel)⟩
theorem lkX12_232 : Cond.methodLink RX12 232 yX12_often ∈ mTs := mTs_in 1541 (by decide +kernel) (by decide +kernel)
theorem myX12_often : mYS yX12_often cX12_often 4 (some .int) 2 := ⟨⟨mTs_in 1543 (by decide +kernel) (by decide +kernel), mTs_in 127 (by decide +kernel) (by decide +kernel), ⟨by decide, by decide⟩, by decide +kernel⟩, mTs_in 1542 (by decide +kernel) (by decide +kernel)⟩
theorem lkX12_236 : Cond.methodLink RX12 236 yX12_without ∈ mTs := mTs_in 1544 (by decide +kernel) (by decide +kernel)
theorem myX12_without : mYS yX12_without cX12_without 3 (some .int) 2 := ⟨⟨mTs_in 1546 (by decide +kernel) (by decide +kernel), mTs_in 127 (by decide +kernel) (by decide +kernel), ⟨by decide, by decide⟩, by decide +kernel⟩, mTs_in 1545 (by decide +kernel) (by decide +kernel)⟩
theorem lkX12_239 : Cond.methodLink RX12 239 yX12_side ∈ mTs := mTs_in 1547 (by decide +kernel) (by decide +kernel)
theorem myX12_side : mYS yX12_side cX12_side 1 (some .int) 1 := ⟨⟨mTs_in 1549 (by decide +kernel) (by decide +kernel), mTs_in 127 (by decide +kernel) (by decide +kernel), ⟨by decide, by decide⟩, by decide +kernel⟩, mTs_in 1548 (by decide +kernel) (by decide +kernel)⟩
theorem lkX12_242 : Cond.methodLink RX12 242 yX12_width ∈ mTs := mTs_in 1553 (by decide +kernel) (by decide +kernel)
theorem myX12_width : mYS yX12_width cX12_width 1 (some .int) 1 := ⟨⟨mTs_in 1555 (by decide +kernel) (by decide +kernel), mTs_in 127 (by decide +kernel) (by decide +kernel), ⟨by decide, by decide⟩, by decide +kernel⟩, mTs_in 1554 (by decide +kernel) (by decide +kernel)⟩
theorem lkX12_248 : Cond.methodLink RX12 248 yX12_isPrime ∈ mTs := mTs_in 1531 (by decide +kernel) (by decide +kernel)
theorem myX12_isPrime : mYS yX12_isPrime cX12_isPrime 2 (some .boolean) 1 := ⟨⟨mTs_in 1533 (by decide +kernel) (by decide +kernel), mTs_in 127 (by decide +kernel) (by decide +kernel), ⟨by decide, by decide⟩, by decide +kernel⟩, mTs_in 1532 (by decide +kernel) (by decide +kernel)⟩
theorem lkX12_251 : Cond.methodLink RX12 251 yX12_cyclicAt ∈ mTs := mTs_in 1559 (by decide +kernel) (by decide +kernel)
theorem myX12_cyclicAt : mYS yX12_cyclicAt cX12_cyclicAt 7 (some .int) 3 := ⟨⟨mTs_in 1561 (by decide +kernel) (by decide +kernel), mTs_in 127 (by decide +kernel) (by decide +kernel), ⟨by decide, by decide⟩, by decide +kernel⟩, mTs_in 1560 (by decide +kernel) (by decide +kernel)⟩
theorem lkX12_255 : Cond.methodLink RX12 255 yX12_generator ∈ mTs := mTs_in 1562 (by decide +kernel) (by decide +kernel)
theorem myX12_generator : mYS yX12_generator cX12_generator 4 (some .int) 1 := ⟨⟨mTs_in 1564 (by decide +kernel) (by decide +kernel), mTs_in 127 (by decide +kernel) (by decide +kernel), ⟨by decide, by decide⟩, by decide +kernel⟩, mTs_in 1563 (by decide +kernel) (by decide +kernel)⟩
theorem lkX12_30 : Cond.fieldLink RX12 30 (TX12 17).1 (TX12 17).2.1 (TX12 17).2.2.1 ∈ mTs := mTs_in 1309 (by decide +kernel) (by decide +kernel)
theorem fdX12_17 : mFld 11 17 2 37 RX12 TX12 := ⟨rfl, inX12, by decide, rfl, by decide⟩
theorem lkX12_33 : Cond.fieldLink RX12 33 (TX12 18).1 (TX12 18).2.1 (TX12 18).2.2.1 ∈ mTs := mTs_in 1310 (by decide +kernel) (by decide +kernel)
theorem fdX12_18 : mFld 11 18 2 37 RX12 TX12 := ⟨rfl, inX12, by decide, rfl, by decide⟩
theorem lkX12_261 : Cond.methodLink RX12 261 yX12_localOf ∈ mTs := mTs_in 1534 (by decide +kernel) (by decide +kernel)
theorem myX12_localOf : mYV yX12_localOf cX12_localOf 5 (some .int) 2 := ⟨⟨mTs_in 1537 (by decide +kernel) (by decide +kernel), mTs_in 127 (by decide +kernel) (by decide +kernel), ⟨by decide, by decide⟩, by decide +kernel⟩, mTs_in 1536 (by decide +kernel) (by decide +kernel), mTs_in 73 (by decide +kernel) (by decide +kernel)⟩
theorem lkX12_258 : Cond.methodLink RX12 258 yX12_quaternionAt ∈ mTs := mTs_in 1538 (by decide +kernel) (by decide +kernel)
theorem myX12_quaternionAt : mYS yX12_quaternionAt cX12_quaternionAt 8 (some .int) 3 := ⟨⟨mTs_in 1540 (by decide +kernel) (by decide +kernel), mTs_in 127 (by decide +kernel) (by decide +kernel), ⟨by decide, by decide⟩, by decide +kernel⟩, mTs_in 1539 (by decide +kernel) (by decide +kernel)⟩
theorem lkX12_264 : Cond.constantLong RX12 264 (2) ∈ mTs := mTs_in 1529 (by decide +kernel) (by decide +kernel)
theorem lkX12_266 : Cond.constantLong RX12 266 (60000) ∈ mTs := mTs_in 1530 (by decide +kernel) (by decide +kernel)
theorem lkX12_268 : Cond.methodLink RX12 268 yX12_placeBehind ∈ mTs := mTs_in 1569 (by decide +kernel) (by decide +kernel)
theorem myX12_placeBehind : mYV yX12_placeBehind cX12_placeBehind 4 (some .int) 2 := ⟨⟨mTs_in 1572 (by decide +kernel) (by decide +kernel), mTs_in 127 (by decide +kernel) (by decide +kernel), ⟨by decide, by decide⟩, by decide +kernel⟩, mTs_in 1571 (by decide +kernel) (by decide +kernel), mTs_in 74 (by decide +kernel) (by decide +kernel)⟩
theorem lkX12_271 : Cond.methodLink RX12 271 yX12_indexOf ∈ mTs := mTs_in 1577 (by decide +kernel) (by decide +kernel)
theorem myX12_indexOf : mYV yX12_indexOf cX12_indexOf 6 (some .int) 1 := ⟨⟨mTs_in 1580 (by decide +kernel) (by decide +kernel), mTs_in 127 (by decide +kernel) (by decide +kernel), ⟨by decide, by decide⟩, by decide +kernel⟩, mTs_in 1579 (by decide +kernel) (by decide +kernel), mTs_in 75 (by decide +kernel) (by decide +kernel)⟩
theorem lkX12_274 : Cond.methodLink RX12 274 yX12_areAlike ∈ mTs := mTs_in 1585 (by decide +kernel) (by decide +kernel)
theorem myX12_areAlike : mYV yX12_areAlike cX12_areAlike 4 (some .boolean) 2 := ⟨⟨mTs_in 1588 (by decide +kernel) (by decide +kernel), mTs_in 127 (by decide +kernel) (by decide +kernel), ⟨by decide, by decide⟩, by decide +kernel⟩, mTs_in 1587 (by decide +kernel) (by decide +kernel), mTs_in 76 (by decide +kernel) (by decide +kernel)⟩
theorem lkX12_278 : Cond.constantLong RX12 278 (7) ∈ mTs := mTs_in 1597 (by decide +kernel) (by decide +kernel)
theorem lkX12_213 : Cond.fieldLink RX12 213 (TX12 21).1 (TX12 21).2.1 (TX12 21).2.2.1 ∈ mTs := mTs_in 1313 (by decide +kernel) (by decide +kernel)
theorem fdX12_21 : mFld 11 21 0 37 RX12 TX12 := ⟨rfl, inX12, by decide, rfl, by decide⟩
theorem lkX12_39 : Cond.fieldLink RX12 39 (TX12 23).1 (TX12 23).2.1 (TX12 23).2.2.1 ∈ mTs := mTs_in 1315 (by decide +kernel) (by decide +kernel)
theorem fdX12_23 : mFld 11 23 2 37 RX12 TX12 := ⟨rfl, inX12, by decide, rfl, by decide⟩
theorem dX12_cyclicLine_0 : decode cX12_cyclicLine 0 = .ok (.aload_n 0, 1) := by decide +kernel
theorem dX12_cyclicLine_1 : decode cX12_cyclicLine 1 = .ok (.aload_n 0, 1) := by decide +kernel
theorem dX12_cyclicLine_2 : decode cX12_cyclicLine 2 = .ok (.getfield 99, 3) := by decide +kernel
theorem dX12_cyclicLine_5 : decode cX12_cyclicLine 5 = .ok (.iconst 2, 1) := by decide +kernel
theorem dX12_cyclicLine_6 : decode cX12_cyclicLine 6 = .ok (.if_icmp .ne 7, 3) := by decide +kernel
theorem dX12_cyclicLine_9 : decode cX12_cyclicLine 9 = .ok (.iconst 1, 1) := by decide +kernel
theorem dX12_cyclicLine_10 : decode cX12_cyclicLine 10 = .ok (.goto 4, 3) := by decide +kernel
theorem dX12_cyclicLine_13 : decode cX12_cyclicLine 13 = .ok (.iconst 0, 1) := by decide +kernel
theorem dX12_cyclicLine_14 : decode cX12_cyclicLine 14 = .ok (.iconst 1, 1) := by decide +kernel
theorem dX12_cyclicLine_15 : decode cX12_cyclicLine 15 = .ok (.invokevirtual 171, 3) := by decide +kernel
theorem dX12_cyclicLine_18 : decode cX12_cyclicLine 18 = .ok (.ifCond .ne 5, 3) := by decide +kernel
theorem dX12_cyclicLine_21 : decode cX12_cyclicLine 21 = .ok (.iconst 0, 1) := by decide +kernel
theorem dX12_cyclicLine_22 : decode cX12_cyclicLine 22 = .ok (.ireturn, 1) := by decide +kernel
theorem dX12_cyclicLine_23 : decode cX12_cyclicLine 23 = .ok (.aload_n 0, 1) := by decide +kernel
theorem dX12_cyclicLine_24 : decode cX12_cyclicLine 24 = .ok (.getfield 102, 3) := by decide +kernel
theorem dX12_cyclicLine_27 : decode cX12_cyclicLine 27 = .ok (.bipush 7, 2) := by decide +kernel
theorem dX12_cyclicLine_29 : decode cX12_cyclicLine 29 = .ok (.if_icmp .eq 48, 3) := by decide +kernel
theorem dX12_cyclicLine_32 : decode cX12_cyclicLine 32 = .ok (.aload_n 0, 1) := by decide +kernel
theorem dX12_cyclicLine_33 : decode cX12_cyclicLine 33 = .ok (.getfield 102, 3) := by decide +kernel
theorem dX12_cyclicLine_36 : decode cX12_cyclicLine 36 = .ok (.bipush 13, 2) := by decide +kernel
theorem dX12_cyclicLine_38 : decode cX12_cyclicLine 38 = .ok (.if_icmp .eq 39, 3) := by decide +kernel
theorem dX12_cyclicLine_41 : decode cX12_cyclicLine 41 = .ok (.aload_n 0, 1) := by decide +kernel
theorem dX12_cyclicLine_42 : decode cX12_cyclicLine 42 = .ok (.getfield 102, 3) := by decide +kernel
theorem dX12_cyclicLine_45 : decode cX12_cyclicLine 45 = .ok (.bipush 19, 2) := by decide +kernel
theorem dX12_cyclicLine_47 : decode cX12_cyclicLine 47 = .ok (.if_icmp .eq 30, 3) := by decide +kernel
theorem dX12_cyclicLine_50 : decode cX12_cyclicLine 50 = .ok (.aload_n 0, 1) := by decide +kernel
theorem dX12_cyclicLine_51 : decode cX12_cyclicLine 51 = .ok (.getfield 102, 3) := by decide +kernel
theorem dX12_cyclicLine_54 : decode cX12_cyclicLine 54 = .ok (.bipush 31, 2) := by decide +kernel
theorem dX12_cyclicLine_56 : decode cX12_cyclicLine 56 = .ok (.if_icmp .eq 21, 3) := by decide +kernel
theorem dX12_cyclicLine_59 : decode cX12_cyclicLine 59 = .ok (.aload_n 0, 1) := by decide +kernel
theorem dX12_cyclicLine_60 : decode cX12_cyclicLine 60 = .ok (.getfield 102, 3) := by decide +kernel
theorem dX12_cyclicLine_63 : decode cX12_cyclicLine 63 = .ok (.bipush 37, 2) := by decide +kernel
theorem dX12_cyclicLine_65 : decode cX12_cyclicLine 65 = .ok (.if_icmp .eq 12, 3) := by decide +kernel
theorem dX12_cyclicLine_68 : decode cX12_cyclicLine 68 = .ok (.aload_n 0, 1) := by decide +kernel
theorem dX12_cyclicLine_69 : decode cX12_cyclicLine 69 = .ok (.getfield 102, 3) := by decide +kernel
theorem dX12_cyclicLine_72 : decode cX12_cyclicLine 72 = .ok (.bipush 43, 2) := by decide +kernel
theorem dX12_cyclicLine_74 : decode cX12_cyclicLine 74 = .ok (.if_icmp .ne 7, 3) := by decide +kernel
theorem dX12_cyclicLine_77 : decode cX12_cyclicLine 77 = .ok (.iconst 1, 1) := by decide +kernel
theorem dX12_cyclicLine_78 : decode cX12_cyclicLine 78 = .ok (.goto 4, 3) := by decide +kernel
theorem dX12_cyclicLine_81 : decode cX12_cyclicLine 81 = .ok (.iconst 0, 1) := by decide +kernel
theorem dX12_cyclicLine_82 : decode cX12_cyclicLine 82 = .ok (.istore_n 2, 1) := by decide +kernel
theorem dX12_cyclicLine_83 : decode cX12_cyclicLine 83 = .ok (.aload_n 0, 1) := by decide +kernel
theorem dX12_cyclicLine_84 : decode cX12_cyclicLine 84 = .ok (.iload_n 2, 1) := by decide +kernel
theorem dX12_cyclicLine_85 : decode cX12_cyclicLine 85 = .ok (.iconst 4, 1) := by decide +kernel
theorem dX12_cyclicLine_86 : decode cX12_cyclicLine 86 = .ok (.invokevirtual 171, 3) := by decide +kernel
theorem dX12_cyclicLine_89 : decode cX12_cyclicLine 89 = .ok (.ifCond .ne 5, 3) := by decide +kernel
theorem dX12_cyclicLine_92 : decode cX12_cyclicLine 92 = .ok (.iconst 0, 1) := by decide +kernel
theorem dX12_cyclicLine_93 : decode cX12_cyclicLine 93 = .ok (.ireturn, 1) := by decide +kernel
theorem dX12_cyclicLine_94 : decode cX12_cyclicLine 94 = .ok (.aload_n 0, 1) := by decide +kernel
theorem dX12_cyclicLine_95 : decode cX12_cyclicLine 95 = .ok (.getfield 24, 3) := by decide +kernel
theorem dX12_cyclicLine_98 : decode cX12_cyclicLine 98 = .ok (.aload_n 0, 1) := by decide +kernel
theorem dX12_cyclicLine_99 : decode cX12_cyclicLine 99 = .ok (.iload_n 1, 1) := by decide +kernel
theorem dX12_cyclicLine_100 : decode cX12_cyclicLine 100 = .ok (.invokevirtual 161, 3) := by decide +kernel
theorem dX12_cyclicLine_103 : decode cX12_cyclicLine 103 = .ok (.aload_n 0, 1) := by decide +kernel
theorem dX12_cyclicLine_104 : decode cX12_cyclicLine 104 = .ok (.getfield 102, 3) := by decide +kernel
theorem dX12_cyclicLine_107 : decode cX12_cyclicLine 107 = .ok (.iastore, 1) := by decide +kernel
theorem dX12_cyclicLine_108 : decode cX12_cyclicLine 108 = .ok (.aload_n 0, 1) := by decide +kernel
theorem dX12_cyclicLine_109 : decode cX12_cyclicLine 109 = .ok (.invokevirtual 168, 3) := by decide +kernel
theorem dX12_cyclicLine_112 : decode cX12_cyclicLine 112 = .ok (.aload_n 0, 1) := by decide +kernel
theorem dX12_cyclicLine_113 : decode cX12_cyclicLine 113 = .ok (.sipush 999, 3) := by decide +kernel
theorem dX12_cyclicLine_116 : decode cX12_cyclicLine 116 = .ok (.invokevirtual 181, 3) := by decide +kernel
theorem dX12_cyclicLine_119 : decode cX12_cyclicLine 119 = .ok (.ifCond .ne 5, 3) := by decide +kernel
theorem dX12_cyclicLine_122 : decode cX12_cyclicLine 122 = .ok (.iconst 0, 1) := by decide +kernel
theorem dX12_cyclicLine_123 : decode cX12_cyclicLine 123 = .ok (.ireturn, 1) := by decide +kernel
theorem dX12_cyclicLine_124 : decode cX12_cyclicLine 124 = .ok (.aload_n 0, 1) := by decide +kernel
theorem dX12_cyclicLine_125 : decode cX12_cyclicLine 125 = .ok (.getfield 27, 3) := by decide +kernel
theorem dX12_cyclicLine_128 : decode cX12_cyclicLine 128 = .ok (.aload_n 0, 1) := by decide +kernel
theorem dX12_cyclicLine_129 : decode cX12_cyclicLine 129 = .ok (.iload_n 1, 1) := by decide +kernel
theorem dX12_cyclicLine_130 : decode cX12_cyclicLine 130 = .ok (.invokevirtual 161, 3) := by decide +kernel
theorem dX12_cyclicLine_133 : decode cX12_cyclicLine 133 = .ok (.aload_n 0, 1) := by decide +kernel
theorem dX12_cyclicLine_134 : decode cX12_cyclicLine 134 = .ok (.getfield 175, 3) := by decide +kernel
theorem dX12_cyclicLine_137 : decode cX12_cyclicLine 137 = .ok (.iastore, 1) := by decide +kernel
theorem dX12_cyclicLine_138 : decode cX12_cyclicLine 138 = .ok (.aload_n 0, 1) := by decide +kernel
theorem dX12_cyclicLine_139 : decode cX12_cyclicLine 139 = .ok (.invokevirtual 168, 3) := by decide +kernel
theorem dX12_cyclicLine_142 : decode cX12_cyclicLine 142 = .ok (.iconst 1, 1) := by decide +kernel
theorem dX12_cyclicLine_143 : decode cX12_cyclicLine 143 = .ok (.ireturn, 1) := by decide +kernel
theorem dX12_set_0 : decode cX12_set 0 = .ok (.aload_n 0, 1) := by decide +kernel
theorem dX12_set_1 : decode cX12_set 1 = .ok (.getfield 57, 3) := by decide +kernel
theorem dX12_set_4 : decode cX12_set 4 = .ok (.bipush 16, 2) := by decide +kernel
theorem dX12_set_6 : decode cX12_set 6 = .ok (.iload_n 1, 1) := by decide +kernel
theorem dX12_set_7 : decode cX12_set 7 = .ok (.imul, 1) := by decide +kernel
theorem dX12_set_8 : decode cX12_set 8 = .ok (.iconst 4, 1) := by decide +kernel
theorem dX12_set_9 : decode cX12_set 9 = .ok (.iload_n 2, 1) := by decide +kernel
theorem dX12_set_10 : decode cX12_set 10 = .ok (.imul, 1) := by decide +kernel
theorem dX12_set_11 : decode cX12_set 11 = .ok (.iadd, 1) := by decide +kernel
theorem dX12_set_12 : decode cX12_set 12 = .ok (.iload_n 3, 1) := by decide +kernel
theorem dX12_set_13 : decode cX12_set 13 = .ok (.iadd, 1) := by decide +kernel
theorem dX12_set_14 : decode cX12_set 14 = .ok (.lload 4, 2) := by decide +kernel
theorem dX12_set_16 : decode cX12_set 16 = .ok (.lastore, 1) := by decide +kernel
theorem dX12_set_17 : decode cX12_set 17 = .ok (.return_, 1) := by decide +kernel
theorem dX12_laysPlain_0 : decode cX12_laysPlain 0 = .ok (.iconst 0, 1) := by decide +kernel
theorem dX12_laysPlain_1 : decode cX12_laysPlain 1 = .ok (.istore_n 2, 1) := by decide +kernel
theorem dX12_laysPlain_2 : decode cX12_laysPlain 2 = .ok (.iload_n 2, 1) := by decide +kernel
theorem dX12_laysPlain_3 : decode cX12_laysPlain 3 = .ok (.iconst 4, 1) := by decide +kernel
theorem dX12_laysPlain_4 : decode cX12_laysPlain 4 = .ok (.if_icmp .ge 39, 3) := by decide +kernel
theorem dX12_laysPlain_7 : decode cX12_laysPlain 7 = .ok (.iconst 0, 1) := by decide +kernel
theorem dX12_laysPlain_8 : decode cX12_laysPlain 8 = .ok (.istore_n 3, 1) := by decide +kernel
theorem dX12_laysPlain_9 : decode cX12_laysPlain 9 = .ok (.iload_n 3, 1) := by decide +kernel
theorem dX12_laysPlain_10 : decode cX12_laysPlain 10 = .ok (.iconst 4, 1) := by decide +kernel
theorem dX12_laysPlain_11 : decode cX12_laysPlain 11 = .ok (.if_icmp .ge 26, 3) := by decide +kernel
theorem dX12_laysPlain_14 : decode cX12_laysPlain 14 = .ok (.aload_n 0, 1) := by decide +kernel
theorem dX12_laysPlain_15 : decode cX12_laysPlain 15 = .ok (.iload_n 1, 1) := by decide +kernel
theorem dX12_laysPlain_16 : decode cX12_laysPlain 16 = .ok (.iload_n 2, 1) := by decide +kernel
theorem dX12_laysPlain_17 : decode cX12_laysPlain 17 = .ok (.iload_n 3, 1) := by decide +kernel
theorem dX12_laysPlain_18 : decode cX12_laysPlain 18 = .ok (.iload_n 2, 1) := by decide +kernel
theorem dX12_laysPlain_19 : decode cX12_laysPlain 19 = .ok (.iload_n 3, 1) := by decide +kernel
theorem dX12_laysPlain_20 : decode cX12_laysPlain 20 = .ok (.if_icmp .ne 7, 3) := by decide +kernel
theorem dX12_laysPlain_23 : decode cX12_laysPlain 23 = .ok (.lconst 1, 1) := by decide +kernel
theorem dX12_laysPlain_24 : decode cX12_laysPlain 24 = .ok (.goto 4, 3) := by decide +kernel
theorem dX12_laysPlain_27 : decode cX12_laysPlain 27 = .ok (.lconst 0, 1) := by decide +kernel
theorem dX12_laysPlain_28 : decode cX12_laysPlain 28 = .ok (.invokevirtual 348, 3) := by decide +kernel
theorem dX12_laysPlain_31 : decode cX12_laysPlain 31 = .ok (.iinc 3 1, 3) := by decide +kernel
theorem dX12_laysPlain_34 : decode cX12_laysPlain 34 = .ok (.goto (-25), 3) := by decide +kernel
theorem dX12_laysPlain_37 : decode cX12_laysPlain 37 = .ok (.iinc 2 1, 3) := by decide +kernel
theorem dX12_laysPlain_40 : decode cX12_laysPlain 40 = .ok (.goto (-38), 3) := by decide +kernel
theorem dX12_laysPlain_43 : decode cX12_laysPlain 43 = .ok (.aload_n 0, 1) := by decide +kernel
theorem dX12_laysPlain_44 : decode cX12_laysPlain 44 = .ok (.getfield 60, 3) := by decide +kernel
theorem dX12_laysPlain_47 : decode cX12_laysPlain 47 = .ok (.iload_n 1, 1) := by decide +kernel
theorem dX12_laysPlain_48 : decode cX12_laysPlain 48 = .ok (.lconst 1, 1) := by decide +kernel
theorem dX12_laysPlain_49 : decode cX12_laysPlain 49 = .ok (.lastore, 1) := by decide +kernel
theorem dX12_laysPlain_50 : decode cX12_laysPlain 50 = .ok (.aload_n 0, 1) := by decide +kernel
theorem dX12_laysPlain_51 : decode cX12_laysPlain 51 = .ok (.getfield 63, 3) := by decide +kernel
theorem dX12_laysPlain_54 : decode cX12_laysPlain 54 = .ok (.iload_n 1, 1) := by decide +kernel
theorem dX12_laysPlain_55 : decode cX12_laysPlain 55 = .ok (.lconst 1, 1) := by decide +kernel
theorem dX12_laysPlain_56 : decode cX12_laysPlain 56 = .ok (.lastore, 1) := by decide +kernel
theorem dX12_laysPlain_57 : decode cX12_laysPlain 57 = .ok (.return_, 1) := by decide +kernel
theorem dX12_isAlgebra_0 : decode cX12_isAlgebra 0 = .ok (.iload_n 1, 1) := by decide +kernel
theorem dX12_isAlgebra_1 : decode cX12_isAlgebra 1 = .ok (.i2l, 1) := by decide +kernel
theorem dX12_isAlgebra_2 : decode cX12_isAlgebra 2 = .ok (.lconst 0, 1) := by decide +kernel
theorem dX12_isAlgebra_3 : decode cX12_isAlgebra 3 = .ok (.aload_n 0, 1) := by decide +kernel
theorem dX12_isAlgebra_4 : decode cX12_isAlgebra 4 = .ok (.getfield 13, 3) := by decide +kernel
theorem dX12_isAlgebra_7 : decode cX12_isAlgebra 7 = .ok (.iconst 0, 1) := by decide +kernel
theorem dX12_isAlgebra_8 : decode cX12_isAlgebra 8 = .ok (.iaload, 1) := by decide +kernel
theorem dX12_isAlgebra_9 : decode cX12_isAlgebra 9 = .ok (.iconst 1, 1) := by decide +kernel
theorem dX12_isAlgebra_10 : decode cX12_isAlgebra 10 = .ok (.isub, 1) := by decide +kernel
theorem dX12_isAlgebra_11 : decode cX12_isAlgebra 11 = .ok (.i2l, 1) := by decide +kernel
theorem dX12_isAlgebra_12 : decode cX12_isAlgebra 12 = .ok (.invokestatic 113, 3) := by decide +kernel
theorem dX12_isAlgebra_15 : decode cX12_isAlgebra 15 = .ok (.ireturn, 1) := by decide +kernel
theorem dX12_isQuaternion_0 : decode cX12_isQuaternion 0 = .ok (.aload_n 0, 1) := by decide +kernel
theorem dX12_isQuaternion_1 : decode cX12_isQuaternion 1 = .ok (.iload_n 1, 1) := by decide +kernel
theorem dX12_isQuaternion_2 : decode cX12_isQuaternion 2 = .ok (.invokevirtual 219, 3) := by decide +kernel
theorem dX12_isQuaternion_5 : decode cX12_isQuaternion 5 = .ok (.ifCond .eq 16, 3) := by decide +kernel
theorem dX12_isQuaternion_8 : decode cX12_isQuaternion 8 = .ok (.aload_n 0, 1) := by decide +kernel
theorem dX12_isQuaternion_9 : decode cX12_isQuaternion 9 = .ok (.getfield 21, 3) := by decide +kernel
theorem dX12_isQuaternion_12 : decode cX12_isQuaternion 12 = .ok (.iload_n 1, 1) := by decide +kernel
theorem dX12_isQuaternion_13 : decode cX12_isQuaternion 13 = .ok (.iaload, 1) := by decide +kernel
theorem dX12_isQuaternion_14 : decode cX12_isQuaternion 14 = .ok (.ifCond .ne 7, 3) := by decide +kernel
theorem dX12_isQuaternion_17 : decode cX12_isQuaternion 17 = .ok (.iconst 1, 1) := by decide +kernel
theorem dX12_isQuaternion_18 : decode cX12_isQuaternion 18 = .ok (.goto 4, 3) := by decide +kernel
theorem dX12_isQuaternion_21 : decode cX12_isQuaternion 21 = .ok (.iconst 0, 1) := by decide +kernel
theorem dX12_isQuaternion_22 : decode cX12_isQuaternion 22 = .ok (.ireturn, 1) := by decide +kernel
theorem dX12_firstLetter_0 : decode cX12_firstLetter 0 = .ok (.lload_n 0, 1) := by decide +kernel
theorem dX12_firstLetter_1 : decode cX12_firstLetter 1 = .ok (.lstore_n 2, 1) := by decide +kernel
theorem dX12_firstLetter_2 : decode cX12_firstLetter 2 = .ok (.lload_n 2, 1) := by decide +kernel
theorem dX12_firstLetter_3 : decode cX12_firstLetter 3 = .ok (.ldc2_w 222, 3) := by decide +kernel
theorem dX12_firstLetter_6 : decode cX12_firstLetter 6 = .ok (.lcmp, 1) := by decide +kernel
theorem dX12_firstLetter_7 : decode cX12_firstLetter 7 = .ok (.ifCond .lt 10, 3) := by decide +kernel
theorem dX12_firstLetter_10 : decode cX12_firstLetter 10 = .ok (.lload_n 2, 1) := by decide +kernel
theorem dX12_firstLetter_11 : decode cX12_firstLetter 11 = .ok (.iconst 5, 1) := by decide +kernel
theorem dX12_firstLetter_12 : decode cX12_firstLetter 12 = .ok (.lshr, 1) := by decide +kernel
theorem dX12_firstLetter_13 : decode cX12_firstLetter 13 = .ok (.lstore_n 2, 1) := by decide +kernel
theorem dX12_firstLetter_14 : decode cX12_firstLetter 14 = .ok (.goto (-12), 3) := by decide +kernel
theorem dX12_firstLetter_17 : decode cX12_firstLetter 17 = .ok (.lload_n 2, 1) := by decide +kernel
theorem dX12_firstLetter_18 : decode cX12_firstLetter 18 = .ok (.l2i, 1) := by decide +kernel
theorem dX12_firstLetter_19 : decode cX12_firstLetter 19 = .ok (.iconst 1, 1) := by decide +kernel
theorem dX12_firstLetter_20 : decode cX12_firstLetter 20 = .ok (.isub, 1) := by decide +kernel
theorem dX12_firstLetter_21 : decode cX12_firstLetter 21 = .ok (.ireturn, 1) := by decide +kernel
theorem dX12_algebra_0 : decode cX12_algebra 0 = .ok (.aload_n 0, 1) := by decide +kernel
theorem dX12_algebra_1 : decode cX12_algebra 1 = .ok (.aload_n 0, 1) := by decide +kernel
theorem dX12_algebra_2 : decode cX12_algebra 2 = .ok (.iload_n 1, 1) := by decide +kernel
theorem dX12_algebra_3 : decode cX12_algebra 3 = .ok (.invokevirtual 219, 3) := by decide +kernel
theorem dX12_algebra_6 : decode cX12_algebra 6 = .ok (.ifCond .eq 19, 3) := by decide +kernel
theorem dX12_algebra_9 : decode cX12_algebra 9 = .ok (.iload_n 2, 1) := by decide +kernel
theorem dX12_algebra_10 : decode cX12_algebra 10 = .ok (.i2l, 1) := by decide +kernel
theorem dX12_algebra_11 : decode cX12_algebra 11 = .ok (.lconst 0, 1) := by decide +kernel
theorem dX12_algebra_12 : decode cX12_algebra 12 = .ok (.ldc2_w 224, 3) := by decide +kernel
theorem dX12_algebra_15 : decode cX12_algebra 15 = .ok (.invokestatic 113, 3) := by decide +kernel
theorem dX12_algebra_18 : decode cX12_algebra 18 = .ok (.ifCond .eq 7, 3) := by decide +kernel
theorem dX12_algebra_21 : decode cX12_algebra 21 = .ok (.iconst 0, 1) := by decide +kernel
theorem dX12_algebra_22 : decode cX12_algebra 22 = .ok (.goto 4, 3) := by decide +kernel
theorem dX12_algebra_25 : decode cX12_algebra 25 = .ok (.iconst 1, 1) := by decide +kernel
theorem dX12_algebra_26 : decode cX12_algebra 26 = .ok (.putfield 75, 3) := by decide +kernel
theorem dX12_algebra_29 : decode cX12_algebra 29 = .ok (.aload_n 0, 1) := by decide +kernel
theorem dX12_algebra_30 : decode cX12_algebra 30 = .ok (.getfield 75, 3) := by decide +kernel
theorem dX12_algebra_33 : decode cX12_algebra 33 = .ok (.iconst 1, 1) := by decide +kernel
theorem dX12_algebra_34 : decode cX12_algebra 34 = .ok (.if_icmp .ne 5, 3) := by decide +kernel
theorem dX12_algebra_37 : decode cX12_algebra 37 = .ok (.iconst 0, 1) := by decide +kernel
theorem dX12_algebra_38 : decode cX12_algebra 38 = .ok (.ireturn, 1) := by decide +kernel
theorem dX12_algebra_39 : decode cX12_algebra 39 = .ok (.iload_n 2, 1) := by decide +kernel
theorem dX12_algebra_40 : decode cX12_algebra 40 = .ok (.ifCond .ne 12, 3) := by decide +kernel
theorem dX12_algebra_43 : decode cX12_algebra 43 = .ok (.aload_n 0, 1) := by decide +kernel
theorem dX12_algebra_44 : decode cX12_algebra 44 = .ok (.getfield 21, 3) := by decide +kernel
theorem dX12_algebra_47 : decode cX12_algebra 47 = .ok (.iload_n 1, 1) := by decide +kernel
theorem dX12_algebra_48 : decode cX12_algebra 48 = .ok (.iaload, 1) := by decide +kernel
theorem dX12_algebra_49 : decode cX12_algebra 49 = .ok (.goto 40, 3) := by decide +kernel
theorem dX12_algebra_52 : decode cX12_algebra 52 = .ok (.iload_n 2, 1) := by decide +kernel
theorem dX12_algebra_53 : decode cX12_algebra 53 = .ok (.iconst 1, 1) := by decide +kernel
theorem dX12_algebra_54 : decode cX12_algebra 54 = .ok (.if_icmp .ne 12, 3) := by decide +kernel
theorem dX12_algebra_57 : decode cX12_algebra 57 = .ok (.aload_n 0, 1) := by decide +kernel
theorem dX12_algebra_58 : decode cX12_algebra 58 = .ok (.getfield 24, 3) := by decide +kernel
theorem dX12_algebra_61 : decode cX12_algebra 61 = .ok (.iload_n 1, 1) := by decide +kernel
theorem dX12_algebra_62 : decode cX12_algebra 62 = .ok (.iaload, 1) := by decide +kernel
theorem dX12_algebra_63 : decode cX12_algebra 63 = .ok (.goto 26, 3) := by decide +kernel
theorem dX12_algebra_66 : decode cX12_algebra 66 = .ok (.iload_n 2, 1) := by decide +kernel
theorem dX12_algebra_67 : decode cX12_algebra 67 = .ok (.iconst 2, 1) := by decide +kernel
theorem dX12_algebra_68 : decode cX12_algebra 68 = .ok (.if_icmp .ne 12, 3) := by decide +kernel
theorem dX12_algebra_71 : decode cX12_algebra 71 = .ok (.aload_n 0, 1) := by decide +kernel
theorem dX12_algebra_72 : decode cX12_algebra 72 = .ok (.getfield 27, 3) := by decide +kernel
theorem dX12_algebra_75 : decode cX12_algebra 75 = .ok (.iload_n 1, 1) := by decide +kernel
theorem dX12_algebra_76 : decode cX12_algebra 76 = .ok (.iaload, 1) := by decide +kernel
theorem dX12_algebra_77 : decode cX12_algebra 77 = .ok (.goto 12, 3) := by decide +kernel
theorem dX12_algebra_80 : decode cX12_algebra 80 = .ok (.aload_n 0, 1) := by decide +kernel
theorem dX12_algebra_81 : decode cX12_algebra 81 = .ok (.getfield 17, 3) := by decide +kernel
theorem dX12_algebra_84 : decode cX12_algebra 84 = .ok (.iload_n 1, 1) := by decide +kernel
theorem dX12_algebra_85 : decode cX12_algebra 85 = .ok (.laload, 1) := by decide +kernel
theorem dX12_algebra_86 : decode cX12_algebra 86 = .ok (.invokestatic 226, 3) := by decide +kernel
theorem dX12_algebra_89 : decode cX12_algebra 89 = .ok (.ireturn, 1) := by decide +kernel
theorem dX12_isPrime_0 : decode cX12_isPrime 0 = .ok (.iconst 2, 1) := by decide +kernel
theorem dX12_isPrime_1 : decode cX12_isPrime 1 = .ok (.istore_n 1, 1) := by decide +kernel
theorem dX12_isPrime_2 : decode cX12_isPrime 2 = .ok (.iload_n 1, 1) := by decide +kernel
theorem dX12_isPrime_3 : decode cX12_isPrime 3 = .ok (.iload_n 1, 1) := by decide +kernel
theorem dX12_isPrime_4 : decode cX12_isPrime 4 = .ok (.imul, 1) := by decide +kernel
theorem dX12_isPrime_5 : decode cX12_isPrime 5 = .ok (.iload_n 0, 1) := by decide +kernel
theorem dX12_isPrime_6 : decode cX12_isPrime 6 = .ok (.if_icmp .gt 17, 3) := by decide +kernel
theorem dX12_isPrime_9 : decode cX12_isPrime 9 = .ok (.iload_n 0, 1) := by decide +kernel
theorem dX12_isPrime_10 : decode cX12_isPrime 10 = .ok (.iload_n 1, 1) := by decide +kernel
theorem dX12_isPrime_11 : decode cX12_isPrime 11 = .ok (.irem, 1) := by decide +kernel
theorem dX12_isPrime_12 : decode cX12_isPrime 12 = .ok (.ifCond .ne 5, 3) := by decide +kernel
theorem dX12_isPrime_15 : decode cX12_isPrime 15 = .ok (.iconst 0, 1) := by decide +kernel
theorem dX12_isPrime_16 : decode cX12_isPrime 16 = .ok (.ireturn, 1) := by decide +kernel
theorem dX12_isPrime_17 : decode cX12_isPrime 17 = .ok (.iinc 1 1, 3) := by decide +kernel
theorem dX12_isPrime_20 : decode cX12_isPrime 20 = .ok (.goto (-18), 3) := by decide +kernel
theorem dX12_isPrime_23 : decode cX12_isPrime 23 = .ok (.iload_n 0, 1) := by decide +kernel
theorem dX12_isPrime_24 : decode cX12_isPrime 24 = .ok (.iconst 1, 1) := by decide +kernel
theorem dX12_isPrime_25 : decode cX12_isPrime 25 = .ok (.if_icmp .le 7, 3) := by decide +kernel
theorem dX12_isPrime_28 : decode cX12_isPrime 28 = .ok (.iconst 1, 1) := by decide +kernel
theorem dX12_isPrime_29 : decode cX12_isPrime 29 = .ok (.goto 4, 3) := by decide +kernel
theorem dX12_isPrime_32 : decode cX12_isPrime 32 = .ok (.iconst 0, 1) := by decide +kernel
theorem dX12_isPrime_33 : decode cX12_isPrime 33 = .ok (.ireturn, 1) := by decide +kernel
theorem dX12_often_0 : decode cX12_often 0 = .ok (.iconst 0, 1) := by decide +kernel
theorem dX12_often_1 : decode cX12_often 1 = .ok (.istore_n 2, 1) := by decide +kernel
theorem dX12_often_2 : decode cX12_often 2 = .ok (.iload_n 0, 1) := by decide +kernel
theorem dX12_often_3 : decode cX12_often 3 = .ok (.istore_n 3, 1) := by decide +kernel
theorem dX12_often_4 : decode cX12_often 4 = .ok (.iload_n 3, 1) := by decide +kernel
theorem dX12_often_5 : decode cX12_often 5 = .ok (.iload_n 1, 1) := by decide +kernel
theorem dX12_often_6 : decode cX12_often 6 = .ok (.irem, 1) := by decide +kernel
theorem dX12_often_7 : decode cX12_often 7 = .ok (.ifCond .ne 13, 3) := by decide +kernel
theorem dX12_often_10 : decode cX12_often 10 = .ok (.iinc 2 1, 3) := by decide +kernel
theorem dX12_often_13 : decode cX12_often 13 = .ok (.iload_n 3, 1) := by decide +kernel
theorem dX12_often_14 : decode cX12_often 14 = .ok (.iload_n 1, 1) := by decide +kernel
theorem dX12_often_15 : decode cX12_often 15 = .ok (.idiv, 1) := by decide +kernel
theorem dX12_often_16 : decode cX12_often 16 = .ok (.istore_n 3, 1) := by decide +kernel
theorem dX12_often_17 : decode cX12_often 17 = .ok (.goto (-13), 3) := by decide +kernel
theorem dX12_often_20 : decode cX12_often 20 = .ok (.iload_n 2, 1) := by decide +kernel
theorem dX12_often_21 : decode cX12_often 21 = .ok (.ireturn, 1) := by decide +kernel
theorem dX12_without_0 : decode cX12_without 0 = .ok (.iload_n 0, 1) := by decide +kernel
theorem dX12_without_1 : decode cX12_without 1 = .ok (.istore_n 2, 1) := by decide +kernel
theorem dX12_without_2 : decode cX12_without 2 = .ok (.iload_n 2, 1) := by decide +kernel
theorem dX12_without_3 : decode cX12_without 3 = .ok (.iload_n 1, 1) := by decide +kernel
theorem dX12_without_4 : decode cX12_without 4 = .ok (.irem, 1) := by decide +kernel
theorem dX12_without_5 : decode cX12_without 5 = .ok (.ifCond .ne 10, 3) := by decide +kernel
theorem dX12_without_8 : decode cX12_without 8 = .ok (.iload_n 2, 1) := by decide +kernel
theorem dX12_without_9 : decode cX12_without 9 = .ok (.iload_n 1, 1) := by decide +kernel
theorem dX12_without_10 : decode cX12_without 10 = .ok (.idiv, 1) := by decide +kernel
theorem dX12_without_11 : decode cX12_without 11 = .ok (.istore_n 2, 1) := by decide +kernel
theorem dX12_without_12 : decode cX12_without 12 = .ok (.goto (-10), 3) := by decide +kernel
theorem dX12_without_15 : decode cX12_without 15 = .ok (.iload_n 2, 1) := by decide +kernel
theorem dX12_without_16 : decode cX12_without 16 = .ok (.ireturn, 1) := by decide +kernel
theorem dX12_legendre_0 : decode cX12_legendre 0 = .ok (.iload_n 0, 1) := by decide +kernel
theorem dX12_legendre_1 : decode cX12_legendre 1 = .ok (.iload_n 1, 1) := by decide +kernel
theorem dX12_legendre_2 : decode cX12_legendre 2 = .ok (.irem, 1) := by decide +kernel
theorem dX12_legendre_3 : decode cX12_legendre 3 = .ok (.iload_n 1, 1) := by decide +kernel
theorem dX12_legendre_4 : decode cX12_legendre 4 = .ok (.iadd, 1) := by decide +kernel
theorem dX12_legendre_5 : decode cX12_legendre 5 = .ok (.iload_n 1, 1) := by decide +kernel
theorem dX12_legendre_6 : decode cX12_legendre 6 = .ok (.irem, 1) := by decide +kernel
theorem dX12_legendre_7 : decode cX12_legendre 7 = .ok (.istore_n 2, 1) := by decide +kernel
theorem dX12_legendre_8 : decode cX12_legendre 8 = .ok (.iconst 1, 1) := by decide +kernel
theorem dX12_legendre_9 : decode cX12_legendre 9 = .ok (.istore_n 3, 1) := by decide +kernel
theorem dX12_legendre_10 : decode cX12_legendre 10 = .ok (.iload_n 3, 1) := by decide +kernel
theorem dX12_legendre_11 : decode cX12_legendre 11 = .ok (.iload_n 1, 1) := by decide +kernel
theorem dX12_legendre_12 : decode cX12_legendre 12 = .ok (.if_icmp .ge 20, 3) := by decide +kernel
theorem dX12_legendre_15 : decode cX12_legendre 15 = .ok (.iload_n 3, 1) := by decide +kernel
theorem dX12_legendre_16 : decode cX12_legendre 16 = .ok (.iload_n 3, 1) := by decide +kernel
theorem dX12_legendre_17 : decode cX12_legendre 17 = .ok (.imul, 1) := by decide +kernel
theorem dX12_legendre_18 : decode cX12_legendre 18 = .ok (.iload_n 1, 1) := by decide +kernel
theorem dX12_legendre_19 : decode cX12_legendre 19 = .ok (.irem, 1) := by decide +kernel
theorem dX12_legendre_20 : decode cX12_legendre 20 = .ok (.iload_n 2, 1) := by decide +kernel
theorem dX12_legendre_21 : decode cX12_legendre 21 = .ok (.if_icmp .ne 5, 3) := by decide +kernel
theorem dX12_legendre_24 : decode cX12_legendre 24 = .ok (.iconst 1, 1) := by decide +kernel
theorem dX12_legendre_25 : decode cX12_legendre 25 = .ok (.ireturn, 1) := by decide +kernel
theorem dX12_legendre_26 : decode cX12_legendre 26 = .ok (.iinc 3 1, 3) := by decide +kernel
theorem dX12_legendre_29 : decode cX12_legendre 29 = .ok (.goto (-19), 3) := by decide +kernel
theorem dX12_legendre_32 : decode cX12_legendre 32 = .ok (.iconst (-1), 1) := by decide +kernel
theorem dX12_legendre_33 : decode cX12_legendre 33 = .ok (.ireturn, 1) := by decide +kernel
theorem dX12_odd_0 : decode cX12_odd 0 = .ok (.iload_n 0, 1) := by decide +kernel
theorem dX12_odd_1 : decode cX12_odd 1 = .ok (.iconst 2, 1) := by decide +kernel
theorem dX12_odd_2 : decode cX12_odd 2 = .ok (.irem, 1) := by decide +kernel
theorem dX12_odd_3 : decode cX12_odd 3 = .ok (.ifCond .ne 7, 3) := by decide +kernel
theorem dX12_odd_6 : decode cX12_odd 6 = .ok (.iconst 0, 1) := by decide +kernel
theorem dX12_odd_7 : decode cX12_odd 7 = .ok (.goto 4, 3) := by decide +kernel
theorem dX12_odd_10 : decode cX12_odd 10 = .ok (.iconst 1, 1) := by decide +kernel
theorem dX12_odd_11 : decode cX12_odd 11 = .ok (.ireturn, 1) := by decide +kernel
theorem dX12_side_0 : decode cX12_side 0 = .ok (.iload_n 0, 1) := by decide +kernel
theorem dX12_side_1 : decode cX12_side 1 = .ok (.iconst 1, 1) := by decide +kernel
theorem dX12_side_2 : decode cX12_side 2 = .ok (.isub, 1) := by decide +kernel
theorem dX12_side_3 : decode cX12_side 3 = .ok (.iconst 2, 1) := by decide +kernel
theorem dX12_side_4 : decode cX12_side 4 = .ok (.idiv, 1) := by decide +kernel
theorem dX12_side_5 : decode cX12_side 5 = .ok (.invokestatic 229, 3) := by decide +kernel
theorem dX12_side_8 : decode cX12_side 8 = .ok (.ireturn, 1) := by decide +kernel
theorem dX12_width_0 : decode cX12_width 0 = .ok (.iload_n 0, 1) := by decide +kernel
theorem dX12_width_1 : decode cX12_width 1 = .ok (.iload_n 0, 1) := by decide +kernel
theorem dX12_width_2 : decode cX12_width 2 = .ok (.imul, 1) := by decide +kernel
theorem dX12_width_3 : decode cX12_width 3 = .ok (.iconst 1, 1) := by decide +kernel
theorem dX12_width_4 : decode cX12_width 4 = .ok (.isub, 1) := by decide +kernel
theorem dX12_width_5 : decode cX12_width 5 = .ok (.bipush 8, 2) := by decide +kernel
theorem dX12_width_7 : decode cX12_width 7 = .ok (.idiv, 1) := by decide +kernel
theorem dX12_width_8 : decode cX12_width 8 = .ok (.invokestatic 229, 3) := by decide +kernel
theorem dX12_width_11 : decode cX12_width 11 = .ok (.ireturn, 1) := by decide +kernel
theorem dX12_quaternionAt_0 : decode cX12_quaternionAt 0 = .ok (.iload_n 2, 1) := by decide +kernel
theorem dX12_quaternionAt_1 : decode cX12_quaternionAt 1 = .ok (.ifCond .ne 17, 3) := by decide +kernel
theorem dX12_quaternionAt_4 : decode cX12_quaternionAt 4 = .ok (.iload_n 0, 1) := by decide +kernel
theorem dX12_quaternionAt_5 : decode cX12_quaternionAt 5 = .ok (.ifCond .ge 11, 3) := by decide +kernel
theorem dX12_quaternionAt_8 : decode cX12_quaternionAt 8 = .ok (.iload_n 1, 1) := by decide +kernel
theorem dX12_quaternionAt_9 : decode cX12_quaternionAt 9 = .ok (.ifCond .ge 7, 3) := by decide +kernel
theorem dX12_quaternionAt_12 : decode cX12_quaternionAt 12 = .ok (.iconst 3, 1) := by decide +kernel
theorem dX12_quaternionAt_13 : decode cX12_quaternionAt 13 = .ok (.goto 4, 3) := by decide +kernel
theorem dX12_quaternionAt_16 : decode cX12_quaternionAt 16 = .ok (.iconst 0, 1) := by decide +kernel
theorem dX12_quaternionAt_17 : decode cX12_quaternionAt 17 = .ok (.ireturn, 1) := by decide +kernel
theorem dX12_quaternionAt_18 : decode cX12_quaternionAt 18 = .ok (.iload_n 0, 1) := by decide +kernel
theorem dX12_quaternionAt_19 : decode cX12_quaternionAt 19 = .ok (.iload_n 2, 1) := by decide +kernel
theorem dX12_quaternionAt_20 : decode cX12_quaternionAt 20 = .ok (.invokestatic 232, 3) := by decide +kernel
theorem dX12_quaternionAt_23 : decode cX12_quaternionAt 23 = .ok (.istore_n 3, 1) := by decide +kernel
theorem dX12_quaternionAt_24 : decode cX12_quaternionAt 24 = .ok (.iload_n 1, 1) := by decide +kernel
theorem dX12_quaternionAt_25 : decode cX12_quaternionAt 25 = .ok (.iload_n 2, 1) := by decide +kernel
theorem dX12_quaternionAt_26 : decode cX12_quaternionAt 26 = .ok (.invokestatic 232, 3) := by decide +kernel
theorem dX12_quaternionAt_29 : decode cX12_quaternionAt 29 = .ok (.istore 4, 2) := by decide +kernel
theorem dX12_quaternionAt_31 : decode cX12_quaternionAt 31 = .ok (.iload_n 0, 1) := by decide +kernel
theorem dX12_quaternionAt_32 : decode cX12_quaternionAt 32 = .ok (.iload_n 2, 1) := by decide +kernel
theorem dX12_quaternionAt_33 : decode cX12_quaternionAt 33 = .ok (.invokestatic 236, 3) := by decide +kernel
theorem dX12_quaternionAt_36 : decode cX12_quaternionAt 36 = .ok (.istore 5, 2) := by decide +kernel
theorem dX12_quaternionAt_38 : decode cX12_quaternionAt 38 = .ok (.iload_n 1, 1) := by decide +kernel
theorem dX12_quaternionAt_39 : decode cX12_quaternionAt 39 = .ok (.iload_n 2, 1) := by decide +kernel
theorem dX12_quaternionAt_40 : decode cX12_quaternionAt 40 = .ok (.invokestatic 236, 3) := by decide +kernel
theorem dX12_quaternionAt_43 : decode cX12_quaternionAt 43 = .ok (.istore 6, 2) := by decide +kernel
theorem dX12_quaternionAt_45 : decode cX12_quaternionAt 45 = .ok (.iload_n 2, 1) := by decide +kernel
theorem dX12_quaternionAt_46 : decode cX12_quaternionAt 46 = .ok (.iconst 2, 1) := by decide +kernel
theorem dX12_quaternionAt_47 : decode cX12_quaternionAt 47 = .ok (.if_icmp .ne 44, 3) := by decide +kernel
theorem dX12_quaternionAt_50 : decode cX12_quaternionAt 50 = .ok (.iload 5, 2) := by decide +kernel
theorem dX12_quaternionAt_52 : decode cX12_quaternionAt 52 = .ok (.invokestatic 239, 3) := by decide +kernel
theorem dX12_quaternionAt_55 : decode cX12_quaternionAt 55 = .ok (.iload 6, 2) := by decide +kernel
theorem dX12_quaternionAt_57 : decode cX12_quaternionAt 57 = .ok (.invokestatic 239, 3) := by decide +kernel
theorem dX12_quaternionAt_60 : decode cX12_quaternionAt 60 = .ok (.imul, 1) := by decide +kernel
theorem dX12_quaternionAt_61 : decode cX12_quaternionAt 61 = .ok (.iload_n 3, 1) := by decide +kernel
theorem dX12_quaternionAt_62 : decode cX12_quaternionAt 62 = .ok (.iload 6, 2) := by decide +kernel
theorem dX12_quaternionAt_64 : decode cX12_quaternionAt 64 = .ok (.invokestatic 242, 3) := by decide +kernel
theorem dX12_quaternionAt_67 : decode cX12_quaternionAt 67 = .ok (.imul, 1) := by decide +kernel
theorem dX12_quaternionAt_68 : decode cX12_quaternionAt 68 = .ok (.iadd, 1) := by decide +kernel
theorem dX12_quaternionAt_69 : decode cX12_quaternionAt 69 = .ok (.iload 4, 2) := by decide +kernel
theorem dX12_quaternionAt_71 : decode cX12_quaternionAt 71 = .ok (.iload 5, 2) := by decide +kernel
theorem dX12_quaternionAt_73 : decode cX12_quaternionAt 73 = .ok (.invokestatic 242, 3) := by decide +kernel
theorem dX12_quaternionAt_76 : decode cX12_quaternionAt 76 = .ok (.imul, 1) := by decide +kernel
theorem dX12_quaternionAt_77 : decode cX12_quaternionAt 77 = .ok (.iadd, 1) := by decide +kernel
theorem dX12_quaternionAt_78 : decode cX12_quaternionAt 78 = .ok (.invokestatic 229, 3) := by decide +kernel
theorem dX12_quaternionAt_81 : decode cX12_quaternionAt 81 = .ok (.iconst 1, 1) := by decide +kernel
theorem dX12_quaternionAt_82 : decode cX12_quaternionAt 82 = .ok (.if_icmp .ne 7, 3) := by decide +kernel
theorem dX12_quaternionAt_85 : decode cX12_quaternionAt 85 = .ok (.iconst 3, 1) := by decide +kernel
theorem dX12_quaternionAt_86 : decode cX12_quaternionAt 86 = .ok (.goto 4, 3) := by decide +kernel
theorem dX12_quaternionAt_89 : decode cX12_quaternionAt 89 = .ok (.iconst 0, 1) := by decide +kernel
theorem dX12_quaternionAt_90 : decode cX12_quaternionAt 90 = .ok (.ireturn, 1) := by decide +kernel
theorem dX12_quaternionAt_91 : decode cX12_quaternionAt 91 = .ok (.iload_n 3, 1) := by decide +kernel
theorem dX12_quaternionAt_92 : decode cX12_quaternionAt 92 = .ok (.ifCond .ne 10, 3) := by decide +kernel
theorem dX12_quaternionAt_95 : decode cX12_quaternionAt 95 = .ok (.iload 4, 2) := by decide +kernel
theorem dX12_quaternionAt_97 : decode cX12_quaternionAt 97 = .ok (.ifCond .ne 5, 3) := by decide +kernel
theorem dX12_quaternionAt_100 : decode cX12_quaternionAt 100 = .ok (.iconst 0, 1) := by decide +kernel
theorem dX12_quaternionAt_101 : decode cX12_quaternionAt 101 = .ok (.ireturn, 1) := by decide +kernel
theorem dX12_quaternionAt_102 : decode cX12_quaternionAt 102 = .ok (.iload_n 3, 1) := by decide +kernel
theorem dX12_quaternionAt_103 : decode cX12_quaternionAt 103 = .ok (.invokestatic 229, 3) := by decide +kernel
theorem dX12_quaternionAt_106 : decode cX12_quaternionAt 106 = .ok (.iconst 1, 1) := by decide +kernel
theorem dX12_quaternionAt_107 : decode cX12_quaternionAt 107 = .ok (.if_icmp .ne 28, 3) := by decide +kernel
theorem dX12_quaternionAt_110 : decode cX12_quaternionAt 110 = .ok (.iload 4, 2) := by decide +kernel
theorem dX12_quaternionAt_112 : decode cX12_quaternionAt 112 = .ok (.invokestatic 229, 3) := by decide +kernel
theorem dX12_quaternionAt_115 : decode cX12_quaternionAt 115 = .ok (.iconst 1, 1) := by decide +kernel
theorem dX12_quaternionAt_116 : decode cX12_quaternionAt 116 = .ok (.if_icmp .ne 19, 3) := by decide +kernel
theorem dX12_quaternionAt_119 : decode cX12_quaternionAt 119 = .ok (.iload_n 2, 1) := by decide +kernel
theorem dX12_quaternionAt_120 : decode cX12_quaternionAt 120 = .ok (.iconst 1, 1) := by decide +kernel
theorem dX12_quaternionAt_121 : decode cX12_quaternionAt 121 = .ok (.isub, 1) := by decide +kernel
theorem dX12_quaternionAt_122 : decode cX12_quaternionAt 122 = .ok (.iconst 2, 1) := by decide +kernel
theorem dX12_quaternionAt_123 : decode cX12_quaternionAt 123 = .ok (.idiv, 1) := by decide +kernel
theorem dX12_quaternionAt_124 : decode cX12_quaternionAt 124 = .ok (.invokestatic 229, 3) := by decide +kernel
theorem dX12_quaternionAt_127 : decode cX12_quaternionAt 127 = .ok (.iconst 1, 1) := by decide +kernel
theorem dX12_quaternionAt_128 : decode cX12_quaternionAt 128 = .ok (.if_icmp .ne 7, 3) := by decide +kernel
theorem dX12_quaternionAt_131 : decode cX12_quaternionAt 131 = .ok (.iconst (-1), 1) := by decide +kernel
theorem dX12_quaternionAt_132 : decode cX12_quaternionAt 132 = .ok (.goto 4, 3) := by decide +kernel
theorem dX12_quaternionAt_135 : decode cX12_quaternionAt 135 = .ok (.iconst 1, 1) := by decide +kernel
theorem dX12_quaternionAt_136 : decode cX12_quaternionAt 136 = .ok (.istore 7, 2) := by decide +kernel
theorem dX12_quaternionAt_138 : decode cX12_quaternionAt 138 = .ok (.iload 4, 2) := by decide +kernel
theorem dX12_quaternionAt_140 : decode cX12_quaternionAt 140 = .ok (.invokestatic 229, 3) := by decide +kernel
theorem dX12_quaternionAt_143 : decode cX12_quaternionAt 143 = .ok (.iconst 1, 1) := by decide +kernel
theorem dX12_quaternionAt_144 : decode cX12_quaternionAt 144 = .ok (.if_icmp .ne 14, 3) := by decide +kernel
theorem dX12_quaternionAt_147 : decode cX12_quaternionAt 147 = .ok (.iload 7, 2) := by decide +kernel
theorem dX12_quaternionAt_149 : decode cX12_quaternionAt 149 = .ok (.iload 5, 2) := by decide +kernel
theorem dX12_quaternionAt_151 : decode cX12_quaternionAt 151 = .ok (.iload_n 2, 1) := by decide +kernel
theorem dX12_quaternionAt_152 : decode cX12_quaternionAt 152 = .ok (.invokestatic 245, 3) := by decide +kernel
theorem dX12_quaternionAt_155 : decode cX12_quaternionAt 155 = .ok (.imul, 1) := by decide +kernel
theorem dX12_quaternionAt_156 : decode cX12_quaternionAt 156 = .ok (.istore 7, 2) := by decide +kernel
theorem dX12_quaternionAt_158 : decode cX12_quaternionAt 158 = .ok (.iload_n 3, 1) := by decide +kernel
theorem dX12_quaternionAt_159 : decode cX12_quaternionAt 159 = .ok (.invokestatic 229, 3) := by decide +kernel
theorem dX12_quaternionAt_162 : decode cX12_quaternionAt 162 = .ok (.iconst 1, 1) := by decide +kernel
theorem dX12_quaternionAt_163 : decode cX12_quaternionAt 163 = .ok (.if_icmp .ne 14, 3) := by decide +kernel
theorem dX12_quaternionAt_166 : decode cX12_quaternionAt 166 = .ok (.iload 7, 2) := by decide +kernel
theorem dX12_quaternionAt_168 : decode cX12_quaternionAt 168 = .ok (.iload 6, 2) := by decide +kernel
theorem dX12_quaternionAt_170 : decode cX12_quaternionAt 170 = .ok (.iload_n 2, 1) := by decide +kernel
theorem dX12_quaternionAt_171 : decode cX12_quaternionAt 171 = .ok (.invokestatic 245, 3) := by decide +kernel
theorem dX12_quaternionAt_174 : decode cX12_quaternionAt 174 = .ok (.imul, 1) := by decide +kernel
theorem dX12_quaternionAt_175 : decode cX12_quaternionAt 175 = .ok (.istore 7, 2) := by decide +kernel
theorem dX12_quaternionAt_177 : decode cX12_quaternionAt 177 = .ok (.iload 7, 2) := by decide +kernel
theorem dX12_quaternionAt_179 : decode cX12_quaternionAt 179 = .ok (.ifCond .ge 7, 3) := by decide +kernel
theorem dX12_quaternionAt_182 : decode cX12_quaternionAt 182 = .ok (.iconst 3, 1) := by decide +kernel
theorem dX12_quaternionAt_183 : decode cX12_quaternionAt 183 = .ok (.goto 4, 3) := by decide +kernel
theorem dX12_quaternionAt_186 : decode cX12_quaternionAt 186 = .ok (.iconst 0, 1) := by decide +kernel
theorem dX12_quaternionAt_187 : decode cX12_quaternionAt 187 = .ok (.ireturn, 1) := by decide +kernel
theorem dX12_generator_0 : decode cX12_generator 0 = .ok (.iconst 2, 1) := by decide +kernel
theorem dX12_generator_1 : decode cX12_generator 1 = .ok (.istore_n 1, 1) := by decide +kernel
theorem dX12_generator_2 : decode cX12_generator 2 = .ok (.iload_n 1, 1) := by decide +kernel
theorem dX12_generator_3 : decode cX12_generator 3 = .ok (.iload_n 0, 1) := by decide +kernel
theorem dX12_generator_4 : decode cX12_generator 4 = .ok (.if_icmp .ge 39, 3) := by decide +kernel
theorem dX12_generator_7 : decode cX12_generator 7 = .ok (.iconst 1, 1) := by decide +kernel
theorem dX12_generator_8 : decode cX12_generator 8 = .ok (.istore_n 2, 1) := by decide +kernel
theorem dX12_generator_9 : decode cX12_generator 9 = .ok (.iload_n 1, 1) := by decide +kernel
theorem dX12_generator_10 : decode cX12_generator 10 = .ok (.istore_n 3, 1) := by decide +kernel
theorem dX12_generator_11 : decode cX12_generator 11 = .ok (.iload_n 3, 1) := by decide +kernel
theorem dX12_generator_12 : decode cX12_generator 12 = .ok (.iconst 1, 1) := by decide +kernel
theorem dX12_generator_13 : decode cX12_generator 13 = .ok (.if_icmp .eq 15, 3) := by decide +kernel
theorem dX12_generator_16 : decode cX12_generator 16 = .ok (.iinc 2 1, 3) := by decide +kernel
theorem dX12_generator_19 : decode cX12_generator 19 = .ok (.iload_n 3, 1) := by decide +kernel
theorem dX12_generator_20 : decode cX12_generator 20 = .ok (.iload_n 1, 1) := by decide +kernel
theorem dX12_generator_21 : decode cX12_generator 21 = .ok (.imul, 1) := by decide +kernel
theorem dX12_generator_22 : decode cX12_generator 22 = .ok (.iload_n 0, 1) := by decide +kernel
theorem dX12_generator_23 : decode cX12_generator 23 = .ok (.irem, 1) := by decide +kernel
theorem dX12_generator_24 : decode cX12_generator 24 = .ok (.istore_n 3, 1) := by decide +kernel
theorem dX12_generator_25 : decode cX12_generator 25 = .ok (.goto (-14), 3) := by decide +kernel
theorem dX12_generator_28 : decode cX12_generator 28 = .ok (.iload_n 2, 1) := by decide +kernel
theorem dX12_generator_29 : decode cX12_generator 29 = .ok (.iload_n 0, 1) := by decide +kernel
theorem dX12_generator_30 : decode cX12_generator 30 = .ok (.iconst 1, 1) := by decide +kernel
theorem dX12_generator_31 : decode cX12_generator 31 = .ok (.isub, 1) := by decide +kernel
theorem dX12_generator_32 : decode cX12_generator 32 = .ok (.if_icmp .ne 5, 3) := by decide +kernel
theorem dX12_generator_35 : decode cX12_generator 35 = .ok (.iload_n 1, 1) := by decide +kernel
theorem dX12_generator_36 : decode cX12_generator 36 = .ok (.ireturn, 1) := by decide +kernel
theorem dX12_generator_37 : decode cX12_generator 37 = .ok (.iinc 1 1, 3) := by decide +kernel
theorem dX12_generator_40 : decode cX12_generator 40 = .ok (.goto (-38), 3) := by decide +kernel
theorem dX12_generator_43 : decode cX12_generator 43 = .ok (.iconst (-1), 1) := by decide +kernel
theorem dX12_generator_44 : decode cX12_generator 44 = .ok (.ireturn, 1) := by decide +kernel
theorem dX12_cyclicAt_0 : decode cX12_cyclicAt 0 = .ok (.iload_n 2, 1) := by decide +kernel
theorem dX12_cyclicAt_1 : decode cX12_cyclicAt 1 = .ok (.ifCond .ne 5, 3) := by decide +kernel
theorem dX12_cyclicAt_4 : decode cX12_cyclicAt 4 = .ok (.iconst 0, 1) := by decide +kernel
theorem dX12_cyclicAt_5 : decode cX12_cyclicAt 5 = .ok (.ireturn, 1) := by decide +kernel
theorem dX12_cyclicAt_6 : decode cX12_cyclicAt 6 = .ok (.iload_n 2, 1) := by decide +kernel
theorem dX12_cyclicAt_7 : decode cX12_cyclicAt 7 = .ok (.iload_n 0, 1) := by decide +kernel
theorem dX12_cyclicAt_8 : decode cX12_cyclicAt 8 = .ok (.if_icmp .ne 64, 3) := by decide +kernel
theorem dX12_cyclicAt_11 : decode cX12_cyclicAt 11 = .ok (.iconst 0, 1) := by decide +kernel
theorem dX12_cyclicAt_12 : decode cX12_cyclicAt 12 = .ok (.istore_n 3, 1) := by decide +kernel
theorem dX12_cyclicAt_13 : decode cX12_cyclicAt 13 = .ok (.iconst 2, 1) := by decide +kernel
theorem dX12_cyclicAt_14 : decode cX12_cyclicAt 14 = .ok (.istore 4, 2) := by decide +kernel
theorem dX12_cyclicAt_16 : decode cX12_cyclicAt 16 = .ok (.iload 4, 2) := by decide +kernel
theorem dX12_cyclicAt_18 : decode cX12_cyclicAt 18 = .ok (.sipush 1000, 3) := by decide +kernel
theorem dX12_cyclicAt_21 : decode cX12_cyclicAt 21 = .ok (.if_icmp .ge 40, 3) := by decide +kernel
theorem dX12_cyclicAt_24 : decode cX12_cyclicAt 24 = .ok (.iload 4, 2) := by decide +kernel
theorem dX12_cyclicAt_26 : decode cX12_cyclicAt 26 = .ok (.iload_n 0, 1) := by decide +kernel
theorem dX12_cyclicAt_27 : decode cX12_cyclicAt 27 = .ok (.if_icmp .eq 28, 3) := by decide +kernel
theorem dX12_cyclicAt_30 : decode cX12_cyclicAt 30 = .ok (.iload_n 1, 1) := by decide +kernel
theorem dX12_cyclicAt_31 : decode cX12_cyclicAt 31 = .ok (.iload 4, 2) := by decide +kernel
theorem dX12_cyclicAt_33 : decode cX12_cyclicAt 33 = .ok (.irem, 1) := by decide +kernel
theorem dX12_cyclicAt_34 : decode cX12_cyclicAt 34 = .ok (.ifCond .ne 21, 3) := by decide +kernel
theorem dX12_cyclicAt_37 : decode cX12_cyclicAt 37 = .ok (.iload 4, 2) := by decide +kernel
theorem dX12_cyclicAt_39 : decode cX12_cyclicAt 39 = .ok (.invokestatic 248, 3) := by decide +kernel
theorem dX12_cyclicAt_42 : decode cX12_cyclicAt 42 = .ok (.ifCond .eq 13, 3) := by decide +kernel
theorem dX12_cyclicAt_45 : decode cX12_cyclicAt 45 = .ok (.iload_n 3, 1) := by decide +kernel
theorem dX12_cyclicAt_46 : decode cX12_cyclicAt 46 = .ok (.iload_n 0, 1) := by decide +kernel
theorem dX12_cyclicAt_47 : decode cX12_cyclicAt 47 = .ok (.iload_n 1, 1) := by decide +kernel
theorem dX12_cyclicAt_48 : decode cX12_cyclicAt 48 = .ok (.iload 4, 2) := by decide +kernel
theorem dX12_cyclicAt_50 : decode cX12_cyclicAt 50 = .ok (.invokestatic 251, 3) := by decide +kernel
theorem dX12_cyclicAt_53 : decode cX12_cyclicAt 53 = .ok (.iadd, 1) := by decide +kernel
theorem dX12_cyclicAt_54 : decode cX12_cyclicAt 54 = .ok (.istore_n 3, 1) := by decide +kernel
theorem dX12_cyclicAt_55 : decode cX12_cyclicAt 55 = .ok (.iinc 4 1, 3) := by decide +kernel
theorem dX12_cyclicAt_58 : decode cX12_cyclicAt 58 = .ok (.goto (-42), 3) := by decide +kernel
theorem dX12_cyclicAt_61 : decode cX12_cyclicAt 61 = .ok (.bipush 6, 2) := by decide +kernel
theorem dX12_cyclicAt_63 : decode cX12_cyclicAt 63 = .ok (.iload_n 3, 1) := by decide +kernel
theorem dX12_cyclicAt_64 : decode cX12_cyclicAt 64 = .ok (.bipush 6, 2) := by decide +kernel
theorem dX12_cyclicAt_66 : decode cX12_cyclicAt 66 = .ok (.irem, 1) := by decide +kernel
theorem dX12_cyclicAt_67 : decode cX12_cyclicAt 67 = .ok (.isub, 1) := by decide +kernel
theorem dX12_cyclicAt_68 : decode cX12_cyclicAt 68 = .ok (.bipush 6, 2) := by decide +kernel
theorem dX12_cyclicAt_70 : decode cX12_cyclicAt 70 = .ok (.irem, 1) := by decide +kernel
theorem dX12_cyclicAt_71 : decode cX12_cyclicAt 71 = .ok (.ireturn, 1) := by decide +kernel
theorem dX12_cyclicAt_72 : decode cX12_cyclicAt 72 = .ok (.iload_n 1, 1) := by decide +kernel
theorem dX12_cyclicAt_73 : decode cX12_cyclicAt 73 = .ok (.iload_n 2, 1) := by decide +kernel
theorem dX12_cyclicAt_74 : decode cX12_cyclicAt 74 = .ok (.invokestatic 232, 3) := by decide +kernel
theorem dX12_cyclicAt_77 : decode cX12_cyclicAt 77 = .ok (.istore_n 3, 1) := by decide +kernel
theorem dX12_cyclicAt_78 : decode cX12_cyclicAt 78 = .ok (.iload_n 3, 1) := by decide +kernel
theorem dX12_cyclicAt_79 : decode cX12_cyclicAt 79 = .ok (.ifCond .ne 5, 3) := by decide +kernel
theorem dX12_cyclicAt_82 : decode cX12_cyclicAt 82 = .ok (.iconst 0, 1) := by decide +kernel
theorem dX12_cyclicAt_83 : decode cX12_cyclicAt 83 = .ok (.ireturn, 1) := by decide +kernel
theorem dX12_cyclicAt_84 : decode cX12_cyclicAt 84 = .ok (.iload_n 0, 1) := by decide +kernel
theorem dX12_cyclicAt_85 : decode cX12_cyclicAt 85 = .ok (.invokestatic 255, 3) := by decide +kernel
theorem dX12_cyclicAt_88 : decode cX12_cyclicAt 88 = .ok (.istore 4, 2) := by decide +kernel
theorem dX12_cyclicAt_90 : decode cX12_cyclicAt 90 = .ok (.iconst 0, 1) := by decide +kernel
theorem dX12_cyclicAt_91 : decode cX12_cyclicAt 91 = .ok (.istore 5, 2) := by decide +kernel
theorem dX12_cyclicAt_93 : decode cX12_cyclicAt 93 = .ok (.iconst 1, 1) := by decide +kernel
theorem dX12_cyclicAt_94 : decode cX12_cyclicAt 94 = .ok (.istore 6, 2) := by decide +kernel
theorem dX12_cyclicAt_96 : decode cX12_cyclicAt 96 = .ok (.iload 6, 2) := by decide +kernel
theorem dX12_cyclicAt_98 : decode cX12_cyclicAt 98 = .ok (.iload_n 2, 1) := by decide +kernel
theorem dX12_cyclicAt_99 : decode cX12_cyclicAt 99 = .ok (.iload_n 0, 1) := by decide +kernel
theorem dX12_cyclicAt_100 : decode cX12_cyclicAt 100 = .ok (.irem, 1) := by decide +kernel
theorem dX12_cyclicAt_101 : decode cX12_cyclicAt 101 = .ok (.if_icmp .eq 18, 3) := by decide +kernel
theorem dX12_cyclicAt_104 : decode cX12_cyclicAt 104 = .ok (.iinc 5 1, 3) := by decide +kernel
theorem dX12_cyclicAt_107 : decode cX12_cyclicAt 107 = .ok (.iload 6, 2) := by decide +kernel
theorem dX12_cyclicAt_109 : decode cX12_cyclicAt 109 = .ok (.iload 4, 2) := by decide +kernel
theorem dX12_cyclicAt_111 : decode cX12_cyclicAt 111 = .ok (.imul, 1) := by decide +kernel
theorem dX12_cyclicAt_112 : decode cX12_cyclicAt 112 = .ok (.iload_n 0, 1) := by decide +kernel
theorem dX12_cyclicAt_113 : decode cX12_cyclicAt 113 = .ok (.irem, 1) := by decide +kernel
theorem dX12_cyclicAt_114 : decode cX12_cyclicAt 114 = .ok (.istore 6, 2) := by decide +kernel
theorem dX12_cyclicAt_116 : decode cX12_cyclicAt 116 = .ok (.goto (-20), 3) := by decide +kernel
theorem dX12_cyclicAt_119 : decode cX12_cyclicAt 119 = .ok (.iconst 2, 1) := by decide +kernel
theorem dX12_cyclicAt_120 : decode cX12_cyclicAt 120 = .ok (.iload_n 3, 1) := by decide +kernel
theorem dX12_cyclicAt_121 : decode cX12_cyclicAt 121 = .ok (.iload 5, 2) := by decide +kernel
theorem dX12_cyclicAt_123 : decode cX12_cyclicAt 123 = .ok (.imul, 1) := by decide +kernel
theorem dX12_cyclicAt_124 : decode cX12_cyclicAt 124 = .ok (.iconst 3, 1) := by decide +kernel
theorem dX12_cyclicAt_125 : decode cX12_cyclicAt 125 = .ok (.irem, 1) := by decide +kernel
theorem dX12_cyclicAt_126 : decode cX12_cyclicAt 126 = .ok (.imul, 1) := by decide +kernel
theorem dX12_cyclicAt_127 : decode cX12_cyclicAt 127 = .ok (.ireturn, 1) := by decide +kernel
theorem dX12_localOf_0 : decode cX12_localOf 0 = .ok (.aload_n 0, 1) := by decide +kernel
theorem dX12_localOf_1 : decode cX12_localOf 1 = .ok (.getfield 21, 3) := by decide +kernel
theorem dX12_localOf_4 : decode cX12_localOf 4 = .ok (.iload_n 1, 1) := by decide +kernel
theorem dX12_localOf_5 : decode cX12_localOf 5 = .ok (.iaload, 1) := by decide +kernel
theorem dX12_localOf_6 : decode cX12_localOf 6 = .ok (.ifCond .ne 20, 3) := by decide +kernel
theorem dX12_localOf_9 : decode cX12_localOf 9 = .ok (.aload_n 0, 1) := by decide +kernel
theorem dX12_localOf_10 : decode cX12_localOf 10 = .ok (.getfield 24, 3) := by decide +kernel
theorem dX12_localOf_13 : decode cX12_localOf 13 = .ok (.iload_n 1, 1) := by decide +kernel
theorem dX12_localOf_14 : decode cX12_localOf 14 = .ok (.iaload, 1) := by decide +kernel
theorem dX12_localOf_15 : decode cX12_localOf 15 = .ok (.aload_n 0, 1) := by decide +kernel
theorem dX12_localOf_16 : decode cX12_localOf 16 = .ok (.getfield 27, 3) := by decide +kernel
theorem dX12_localOf_19 : decode cX12_localOf 19 = .ok (.iload_n 1, 1) := by decide +kernel
theorem dX12_localOf_20 : decode cX12_localOf 20 = .ok (.iaload, 1) := by decide +kernel
theorem dX12_localOf_21 : decode cX12_localOf 21 = .ok (.iload_n 2, 1) := by decide +kernel
theorem dX12_localOf_22 : decode cX12_localOf 22 = .ok (.invokestatic 258, 3) := by decide +kernel
theorem dX12_localOf_25 : decode cX12_localOf 25 = .ok (.ireturn, 1) := by decide +kernel
theorem dX12_localOf_26 : decode cX12_localOf 26 = .ok (.aload_n 0, 1) := by decide +kernel
theorem dX12_localOf_27 : decode cX12_localOf 27 = .ok (.getfield 21, 3) := by decide +kernel
theorem dX12_localOf_30 : decode cX12_localOf 30 = .ok (.iload_n 1, 1) := by decide +kernel
theorem dX12_localOf_31 : decode cX12_localOf 31 = .ok (.iaload, 1) := by decide +kernel
theorem dX12_localOf_32 : decode cX12_localOf 32 = .ok (.iconst 1, 1) := by decide +kernel
theorem dX12_localOf_33 : decode cX12_localOf 33 = .ok (.if_icmp .ne 20, 3) := by decide +kernel
theorem dX12_localOf_36 : decode cX12_localOf 36 = .ok (.aload_n 0, 1) := by decide +kernel
theorem dX12_localOf_37 : decode cX12_localOf 37 = .ok (.getfield 24, 3) := by decide +kernel
theorem dX12_localOf_40 : decode cX12_localOf 40 = .ok (.iload_n 1, 1) := by decide +kernel
theorem dX12_localOf_41 : decode cX12_localOf 41 = .ok (.iaload, 1) := by decide +kernel
theorem dX12_localOf_42 : decode cX12_localOf 42 = .ok (.aload_n 0, 1) := by decide +kernel
theorem dX12_localOf_43 : decode cX12_localOf 43 = .ok (.getfield 27, 3) := by decide +kernel
theorem dX12_localOf_46 : decode cX12_localOf 46 = .ok (.iload_n 1, 1) := by decide +kernel
theorem dX12_localOf_47 : decode cX12_localOf 47 = .ok (.iaload, 1) := by decide +kernel
theorem dX12_localOf_48 : decode cX12_localOf 48 = .ok (.iload_n 2, 1) := by decide +kernel
theorem dX12_localOf_49 : decode cX12_localOf 49 = .ok (.invokestatic 251, 3) := by decide +kernel
theorem dX12_localOf_52 : decode cX12_localOf 52 = .ok (.ireturn, 1) := by decide +kernel
theorem dX12_localOf_53 : decode cX12_localOf 53 = .ok (.iconst 0, 1) := by decide +kernel
theorem dX12_localOf_54 : decode cX12_localOf 54 = .ok (.istore_n 3, 1) := by decide +kernel
theorem dX12_localOf_55 : decode cX12_localOf 55 = .ok (.iconst 0, 1) := by decide +kernel
theorem dX12_localOf_56 : decode cX12_localOf 56 = .ok (.istore 4, 2) := by decide +kernel
theorem dX12_localOf_58 : decode cX12_localOf 58 = .ok (.iload 4, 2) := by decide +kernel
theorem dX12_localOf_60 : decode cX12_localOf 60 = .ok (.aload_n 0, 1) := by decide +kernel
theorem dX12_localOf_61 : decode cX12_localOf 61 = .ok (.getfield 24, 3) := by decide +kernel
theorem dX12_localOf_64 : decode cX12_localOf 64 = .ok (.iload_n 1, 1) := by decide +kernel
theorem dX12_localOf_65 : decode cX12_localOf 65 = .ok (.iaload, 1) := by decide +kernel
theorem dX12_localOf_66 : decode cX12_localOf 66 = .ok (.if_icmp .ge 40, 3) := by decide +kernel
theorem dX12_localOf_69 : decode cX12_localOf 69 = .ok (.iload_n 3, 1) := by decide +kernel
theorem dX12_localOf_70 : decode cX12_localOf 70 = .ok (.aload_n 0, 1) := by decide +kernel
theorem dX12_localOf_71 : decode cX12_localOf 71 = .ok (.getfield 30, 3) := by decide +kernel
theorem dX12_localOf_74 : decode cX12_localOf 74 = .ok (.iconst 4, 1) := by decide +kernel
theorem dX12_localOf_75 : decode cX12_localOf 75 = .ok (.iload_n 1, 1) := by decide +kernel
theorem dX12_localOf_76 : decode cX12_localOf 76 = .ok (.imul, 1) := by decide +kernel
theorem dX12_localOf_77 : decode cX12_localOf 77 = .ok (.iload 4, 2) := by decide +kernel
theorem dX12_localOf_79 : decode cX12_localOf 79 = .ok (.iadd, 1) := by decide +kernel
theorem dX12_localOf_80 : decode cX12_localOf 80 = .ok (.iaload, 1) := by decide +kernel
theorem dX12_localOf_81 : decode cX12_localOf 81 = .ok (.aload_n 0, 1) := by decide +kernel
theorem dX12_localOf_82 : decode cX12_localOf 82 = .ok (.aload_n 0, 1) := by decide +kernel
theorem dX12_localOf_83 : decode cX12_localOf 83 = .ok (.getfield 33, 3) := by decide +kernel
theorem dX12_localOf_86 : decode cX12_localOf 86 = .ok (.iconst 4, 1) := by decide +kernel
theorem dX12_localOf_87 : decode cX12_localOf 87 = .ok (.iload_n 1, 1) := by decide +kernel
theorem dX12_localOf_88 : decode cX12_localOf 88 = .ok (.imul, 1) := by decide +kernel
theorem dX12_localOf_89 : decode cX12_localOf 89 = .ok (.iload 4, 2) := by decide +kernel
theorem dX12_localOf_91 : decode cX12_localOf 91 = .ok (.iadd, 1) := by decide +kernel
theorem dX12_localOf_92 : decode cX12_localOf 92 = .ok (.iaload, 1) := by decide +kernel
theorem dX12_localOf_93 : decode cX12_localOf 93 = .ok (.iload_n 2, 1) := by decide +kernel
theorem dX12_localOf_94 : decode cX12_localOf 94 = .ok (.invokevirtual 261, 3) := by decide +kernel
theorem dX12_localOf_97 : decode cX12_localOf 97 = .ok (.imul, 1) := by decide +kernel
theorem dX12_localOf_98 : decode cX12_localOf 98 = .ok (.iadd, 1) := by decide +kernel
theorem dX12_localOf_99 : decode cX12_localOf 99 = .ok (.istore_n 3, 1) := by decide +kernel
theorem dX12_localOf_100 : decode cX12_localOf 100 = .ok (.iinc 4 1, 3) := by decide +kernel
theorem dX12_localOf_103 : decode cX12_localOf 103 = .ok (.goto (-45), 3) := by decide +kernel
theorem dX12_localOf_106 : decode cX12_localOf 106 = .ok (.iload_n 3, 1) := by decide +kernel
theorem dX12_localOf_107 : decode cX12_localOf 107 = .ok (.bipush 6, 2) := by decide +kernel
theorem dX12_localOf_109 : decode cX12_localOf 109 = .ok (.irem, 1) := by decide +kernel
theorem dX12_localOf_110 : decode cX12_localOf 110 = .ok (.bipush 6, 2) := by decide +kernel
theorem dX12_localOf_112 : decode cX12_localOf 112 = .ok (.iadd, 1) := by decide +kernel
theorem dX12_localOf_113 : decode cX12_localOf 113 = .ok (.bipush 6, 2) := by decide +kernel
theorem dX12_localOf_115 : decode cX12_localOf 115 = .ok (.irem, 1) := by decide +kernel
theorem dX12_localOf_116 : decode cX12_localOf 116 = .ok (.ireturn, 1) := by decide +kernel
theorem dX12_local_0 : decode cX12_local 0 = .ok (.aload_n 0, 1) := by decide +kernel
theorem dX12_local_1 : decode cX12_local 1 = .ok (.iconst 0, 1) := by decide +kernel
theorem dX12_local_2 : decode cX12_local 2 = .ok (.putfield 75, 3) := by decide +kernel
theorem dX12_local_5 : decode cX12_local 5 = .ok (.aload_n 0, 1) := by decide +kernel
theorem dX12_local_6 : decode cX12_local 6 = .ok (.iload_n 1, 1) := by decide +kernel
theorem dX12_local_7 : decode cX12_local 7 = .ok (.invokevirtual 219, 3) := by decide +kernel
theorem dX12_local_10 : decode cX12_local 10 = .ok (.ifCond .eq 28, 3) := by decide +kernel
theorem dX12_local_13 : decode cX12_local 13 = .ok (.iload_n 2, 1) := by decide +kernel
theorem dX12_local_14 : decode cX12_local 14 = .ok (.ifCond .eq 26, 3) := by decide +kernel
theorem dX12_local_17 : decode cX12_local 17 = .ok (.iload_n 2, 1) := by decide +kernel
theorem dX12_local_18 : decode cX12_local 18 = .ok (.i2l, 1) := by decide +kernel
theorem dX12_local_19 : decode cX12_local 19 = .ok (.ldc2_w 264, 3) := by decide +kernel
theorem dX12_local_22 : decode cX12_local 22 = .ok (.ldc2_w 266, 3) := by decide +kernel
theorem dX12_local_25 : decode cX12_local 25 = .ok (.invokestatic 113, 3) := by decide +kernel
theorem dX12_local_28 : decode cX12_local 28 = .ok (.ifCond .eq 10, 3) := by decide +kernel
theorem dX12_local_31 : decode cX12_local 31 = .ok (.iload_n 2, 1) := by decide +kernel
theorem dX12_local_32 : decode cX12_local 32 = .ok (.invokestatic 248, 3) := by decide +kernel
theorem dX12_local_35 : decode cX12_local 35 = .ok (.ifCond .ne 5, 3) := by decide +kernel
theorem dX12_local_38 : decode cX12_local 38 = .ok (.iconst (-1), 1) := by decide +kernel
theorem dX12_local_39 : decode cX12_local 39 = .ok (.ireturn, 1) := by decide +kernel
theorem dX12_local_40 : decode cX12_local 40 = .ok (.iload_n 2, 1) := by decide +kernel
theorem dX12_local_41 : decode cX12_local 41 = .ok (.sipush 1000, 3) := by decide +kernel
theorem dX12_local_44 : decode cX12_local 44 = .ok (.if_icmp .ge 12, 3) := by decide +kernel
theorem dX12_local_47 : decode cX12_local 47 = .ok (.aload_n 0, 1) := by decide +kernel
theorem dX12_local_48 : decode cX12_local 48 = .ok (.iload_n 1, 1) := by decide +kernel
theorem dX12_local_49 : decode cX12_local 49 = .ok (.iload_n 2, 1) := by decide +kernel
theorem dX12_local_50 : decode cX12_local 50 = .ok (.invokevirtual 261, 3) := by decide +kernel
theorem dX12_local_53 : decode cX12_local 53 = .ok (.goto 4, 3) := by decide +kernel
theorem dX12_local_56 : decode cX12_local 56 = .ok (.iconst 0, 1) := by decide +kernel
theorem dX12_local_57 : decode cX12_local 57 = .ok (.ireturn, 1) := by decide +kernel
theorem dX12_placeBehind_0 : decode cX12_placeBehind 0 = .ok (.iload_n 2, 1) := by decide +kernel
theorem dX12_placeBehind_1 : decode cX12_placeBehind 1 = .ok (.iconst 1, 1) := by decide +kernel
theorem dX12_placeBehind_2 : decode cX12_placeBehind 2 = .ok (.iadd, 1) := by decide +kernel
theorem dX12_placeBehind_3 : decode cX12_placeBehind 3 = .ok (.istore_n 3, 1) := by decide +kernel
theorem dX12_placeBehind_4 : decode cX12_placeBehind 4 = .ok (.iload_n 3, 1) := by decide +kernel
theorem dX12_placeBehind_5 : decode cX12_placeBehind 5 = .ok (.sipush 1000, 3) := by decide +kernel
theorem dX12_placeBehind_8 : decode cX12_placeBehind 8 = .ok (.if_icmp .ge 31, 3) := by decide +kernel
theorem dX12_placeBehind_11 : decode cX12_placeBehind 11 = .ok (.iload_n 3, 1) := by decide +kernel
theorem dX12_placeBehind_12 : decode cX12_placeBehind 12 = .ok (.ifCond .eq 10, 3) := by decide +kernel
theorem dX12_placeBehind_15 : decode cX12_placeBehind 15 = .ok (.iload_n 3, 1) := by decide +kernel
theorem dX12_placeBehind_16 : decode cX12_placeBehind 16 = .ok (.invokestatic 248, 3) := by decide +kernel
theorem dX12_placeBehind_19 : decode cX12_placeBehind 19 = .ok (.ifCond .eq 14, 3) := by decide +kernel
theorem dX12_placeBehind_22 : decode cX12_placeBehind 22 = .ok (.aload_n 0, 1) := by decide +kernel
theorem dX12_placeBehind_23 : decode cX12_placeBehind 23 = .ok (.iload_n 1, 1) := by decide +kernel
theorem dX12_placeBehind_24 : decode cX12_placeBehind 24 = .ok (.iload_n 3, 1) := by decide +kernel
theorem dX12_placeBehind_25 : decode cX12_placeBehind 25 = .ok (.invokevirtual 261, 3) := by decide +kernel
theorem dX12_placeBehind_28 : decode cX12_placeBehind 28 = .ok (.ifCond .eq 5, 3) := by decide +kernel
theorem dX12_placeBehind_31 : decode cX12_placeBehind 31 = .ok (.iload_n 3, 1) := by decide +kernel
theorem dX12_placeBehind_32 : decode cX12_placeBehind 32 = .ok (.ireturn, 1) := by decide +kernel
theorem dX12_placeBehind_33 : decode cX12_placeBehind 33 = .ok (.iinc 3 1, 3) := by decide +kernel
theorem dX12_placeBehind_36 : decode cX12_placeBehind 36 = .ok (.goto (-32), 3) := by decide +kernel
theorem dX12_placeBehind_39 : decode cX12_placeBehind 39 = .ok (.iconst (-1), 1) := by decide +kernel
theorem dX12_placeBehind_40 : decode cX12_placeBehind 40 = .ok (.ireturn, 1) := by decide +kernel
theorem dX12_place_0 : decode cX12_place 0 = .ok (.aload_n 0, 1) := by decide +kernel
theorem dX12_place_1 : decode cX12_place 1 = .ok (.iconst 0, 1) := by decide +kernel
theorem dX12_place_2 : decode cX12_place 2 = .ok (.putfield 75, 3) := by decide +kernel
theorem dX12_place_5 : decode cX12_place 5 = .ok (.aload_n 0, 1) := by decide +kernel
theorem dX12_place_6 : decode cX12_place 6 = .ok (.iload_n 1, 1) := by decide +kernel
theorem dX12_place_7 : decode cX12_place 7 = .ok (.invokevirtual 219, 3) := by decide +kernel
theorem dX12_place_10 : decode cX12_place 10 = .ok (.ifCond .eq 8, 3) := by decide +kernel
theorem dX12_place_13 : decode cX12_place 13 = .ok (.iload_n 2, 1) := by decide +kernel
theorem dX12_place_14 : decode cX12_place 14 = .ok (.iconst (-1), 1) := by decide +kernel
theorem dX12_place_15 : decode cX12_place 15 = .ok (.if_icmp .ge 6, 3) := by decide +kernel
theorem dX12_place_18 : decode cX12_place 18 = .ok (.bipush (-2), 2) := by decide +kernel
theorem dX12_place_20 : decode cX12_place 20 = .ok (.ireturn, 1) := by decide +kernel
theorem dX12_place_21 : decode cX12_place 21 = .ok (.iconst 0, 1) := by decide +kernel
theorem dX12_place_22 : decode cX12_place 22 = .ok (.istore_n 3, 1) := by decide +kernel
theorem dX12_place_23 : decode cX12_place 23 = .ok (.aload_n 0, 1) := by decide +kernel
theorem dX12_place_24 : decode cX12_place 24 = .ok (.iload_n 1, 1) := by decide +kernel
theorem dX12_place_25 : decode cX12_place 25 = .ok (.iconst (-1), 1) := by decide +kernel
theorem dX12_place_26 : decode cX12_place 26 = .ok (.invokevirtual 268, 3) := by decide +kernel
theorem dX12_place_29 : decode cX12_place 29 = .ok (.istore 4, 2) := by decide +kernel
theorem dX12_place_31 : decode cX12_place 31 = .ok (.iload 4, 2) := by decide +kernel
theorem dX12_place_33 : decode cX12_place 33 = .ok (.ifCond .lt 26, 3) := by decide +kernel
theorem dX12_place_36 : decode cX12_place 36 = .ok (.iload_n 3, 1) := by decide +kernel
theorem dX12_place_37 : decode cX12_place 37 = .ok (.iload_n 2, 1) := by decide +kernel
theorem dX12_place_38 : decode cX12_place 38 = .ok (.if_icmp .ne 6, 3) := by decide +kernel
theorem dX12_place_41 : decode cX12_place 41 = .ok (.iload 4, 2) := by decide +kernel
theorem dX12_place_43 : decode cX12_place 43 = .ok (.ireturn, 1) := by decide +kernel
theorem dX12_place_44 : decode cX12_place 44 = .ok (.iinc 3 1, 3) := by decide +kernel
theorem dX12_place_47 : decode cX12_place 47 = .ok (.aload_n 0, 1) := by decide +kernel
theorem dX12_place_48 : decode cX12_place 48 = .ok (.iload_n 1, 1) := by decide +kernel
theorem dX12_place_49 : decode cX12_place 49 = .ok (.iload 4, 2) := by decide +kernel
theorem dX12_place_51 : decode cX12_place 51 = .ok (.invokevirtual 268, 3) := by decide +kernel
theorem dX12_place_54 : decode cX12_place 54 = .ok (.istore 4, 2) := by decide +kernel
theorem dX12_place_56 : decode cX12_place 56 = .ok (.goto (-25), 3) := by decide +kernel
theorem dX12_place_59 : decode cX12_place 59 = .ok (.iload_n 2, 1) := by decide +kernel
theorem dX12_place_60 : decode cX12_place 60 = .ok (.iconst (-1), 1) := by decide +kernel
theorem dX12_place_61 : decode cX12_place 61 = .ok (.if_icmp .ne 7, 3) := by decide +kernel
theorem dX12_place_64 : decode cX12_place 64 = .ok (.iload_n 3, 1) := by decide +kernel
theorem dX12_place_65 : decode cX12_place 65 = .ok (.goto 5, 3) := by decide +kernel
theorem dX12_place_68 : decode cX12_place 68 = .ok (.bipush (-2), 2) := by decide +kernel
theorem dX12_place_70 : decode cX12_place 70 = .ok (.ireturn, 1) := by decide +kernel
theorem dX12_indexOf_0 : decode cX12_indexOf 0 = .ok (.iconst 1, 1) := by decide +kernel
theorem dX12_indexOf_1 : decode cX12_indexOf 1 = .ok (.istore_n 2, 1) := by decide +kernel
theorem dX12_indexOf_2 : decode cX12_indexOf 2 = .ok (.aload_n 0, 1) := by decide +kernel
theorem dX12_indexOf_3 : decode cX12_indexOf 3 = .ok (.iload_n 1, 1) := by decide +kernel
theorem dX12_indexOf_4 : decode cX12_indexOf 4 = .ok (.iconst (-1), 1) := by decide +kernel
theorem dX12_indexOf_5 : decode cX12_indexOf 5 = .ok (.invokevirtual 268, 3) := by decide +kernel
theorem dX12_indexOf_8 : decode cX12_indexOf 8 = .ok (.istore_n 3, 1) := by decide +kernel
theorem dX12_indexOf_9 : decode cX12_indexOf 9 = .ok (.iload_n 3, 1) := by decide +kernel
theorem dX12_indexOf_10 : decode cX12_indexOf 10 = .ok (.ifCond .lt 66, 3) := by decide +kernel
theorem dX12_indexOf_13 : decode cX12_indexOf 13 = .ok (.aload_n 0, 1) := by decide +kernel
theorem dX12_indexOf_14 : decode cX12_indexOf 14 = .ok (.iload_n 1, 1) := by decide +kernel
theorem dX12_indexOf_15 : decode cX12_indexOf 15 = .ok (.iload_n 3, 1) := by decide +kernel
theorem dX12_indexOf_16 : decode cX12_indexOf 16 = .ok (.invokevirtual 261, 3) := by decide +kernel
theorem dX12_indexOf_19 : decode cX12_indexOf 19 = .ok (.istore 4, 2) := by decide +kernel
theorem dX12_indexOf_21 : decode cX12_indexOf 21 = .ok (.iload 4, 2) := by decide +kernel
theorem dX12_indexOf_23 : decode cX12_indexOf 23 = .ok (.iconst 3, 1) := by decide +kernel
theorem dX12_indexOf_24 : decode cX12_indexOf 24 = .ok (.if_icmp .ne 7, 3) := by decide +kernel
theorem dX12_indexOf_27 : decode cX12_indexOf 27 = .ok (.iconst 2, 1) := by decide +kernel
theorem dX12_indexOf_28 : decode cX12_indexOf 28 = .ok (.goto 17, 3) := by decide +kernel
theorem dX12_indexOf_31 : decode cX12_indexOf 31 = .ok (.iload 4, 2) := by decide +kernel
theorem dX12_indexOf_33 : decode cX12_indexOf 33 = .ok (.invokestatic 229, 3) := by decide +kernel
theorem dX12_indexOf_36 : decode cX12_indexOf 36 = .ok (.ifCond .ne 7, 3) := by decide +kernel
theorem dX12_indexOf_39 : decode cX12_indexOf 39 = .ok (.iconst 3, 1) := by decide +kernel
theorem dX12_indexOf_40 : decode cX12_indexOf 40 = .ok (.goto 5, 3) := by decide +kernel
theorem dX12_indexOf_43 : decode cX12_indexOf 43 = .ok (.bipush 6, 2) := by decide +kernel
theorem dX12_indexOf_45 : decode cX12_indexOf 45 = .ok (.istore 5, 2) := by decide +kernel
theorem dX12_indexOf_47 : decode cX12_indexOf 47 = .ok (.iload_n 2, 1) := by decide +kernel
theorem dX12_indexOf_48 : decode cX12_indexOf 48 = .ok (.iload 5, 2) := by decide +kernel
theorem dX12_indexOf_50 : decode cX12_indexOf 50 = .ok (.if_icmp .eq 8, 3) := by decide +kernel
theorem dX12_indexOf_53 : decode cX12_indexOf 53 = .ok (.iload_n 2, 1) := by decide +kernel
theorem dX12_indexOf_54 : decode cX12_indexOf 54 = .ok (.iconst 1, 1) := by decide +kernel
theorem dX12_indexOf_55 : decode cX12_indexOf 55 = .ok (.if_icmp .ne 8, 3) := by decide +kernel
theorem dX12_indexOf_58 : decode cX12_indexOf 58 = .ok (.iload 5, 2) := by decide +kernel
theorem dX12_indexOf_60 : decode cX12_indexOf 60 = .ok (.goto 5, 3) := by decide +kernel
theorem dX12_indexOf_63 : decode cX12_indexOf 63 = .ok (.bipush 6, 2) := by decide +kernel
theorem dX12_indexOf_65 : decode cX12_indexOf 65 = .ok (.istore_n 2, 1) := by decide +kernel
theorem dX12_indexOf_66 : decode cX12_indexOf 66 = .ok (.aload_n 0, 1) := by decide +kernel
theorem dX12_indexOf_67 : decode cX12_indexOf 67 = .ok (.iload_n 1, 1) := by decide +kernel
theorem dX12_indexOf_68 : decode cX12_indexOf 68 = .ok (.iload_n 3, 1) := by decide +kernel
theorem dX12_indexOf_69 : decode cX12_indexOf 69 = .ok (.invokevirtual 268, 3) := by decide +kernel
theorem dX12_indexOf_72 : decode cX12_indexOf 72 = .ok (.istore_n 3, 1) := by decide +kernel
theorem dX12_indexOf_73 : decode cX12_indexOf 73 = .ok (.goto (-64), 3) := by decide +kernel
theorem dX12_indexOf_76 : decode cX12_indexOf 76 = .ok (.iload_n 2, 1) := by decide +kernel
theorem dX12_indexOf_77 : decode cX12_indexOf 77 = .ok (.ireturn, 1) := by decide +kernel
theorem dX12_index_0 : decode cX12_index 0 = .ok (.aload_n 0, 1) := by decide +kernel
theorem dX12_index_1 : decode cX12_index 1 = .ok (.iconst 0, 1) := by decide +kernel
theorem dX12_index_2 : decode cX12_index 2 = .ok (.putfield 75, 3) := by decide +kernel
theorem dX12_index_5 : decode cX12_index 5 = .ok (.aload_n 0, 1) := by decide +kernel
theorem dX12_index_6 : decode cX12_index 6 = .ok (.iload_n 1, 1) := by decide +kernel
theorem dX12_index_7 : decode cX12_index 7 = .ok (.invokevirtual 219, 3) := by decide +kernel
theorem dX12_index_10 : decode cX12_index 10 = .ok (.ifCond .eq 11, 3) := by decide +kernel
theorem dX12_index_13 : decode cX12_index 13 = .ok (.aload_n 0, 1) := by decide +kernel
theorem dX12_index_14 : decode cX12_index 14 = .ok (.iload_n 1, 1) := by decide +kernel
theorem dX12_index_15 : decode cX12_index 15 = .ok (.invokevirtual 271, 3) := by decide +kernel
theorem dX12_index_18 : decode cX12_index 18 = .ok (.goto 4, 3) := by decide +kernel
theorem dX12_index_21 : decode cX12_index 21 = .ok (.iconst (-1), 1) := by decide +kernel
theorem dX12_index_22 : decode cX12_index 22 = .ok (.ireturn, 1) := by decide +kernel
theorem dX12_areAlike_0 : decode cX12_areAlike 0 = .ok (.iconst 0, 1) := by decide +kernel
theorem dX12_areAlike_1 : decode cX12_areAlike 1 = .ok (.istore_n 3, 1) := by decide +kernel
theorem dX12_areAlike_2 : decode cX12_areAlike 2 = .ok (.iload_n 3, 1) := by decide +kernel
theorem dX12_areAlike_3 : decode cX12_areAlike 3 = .ok (.sipush 1000, 3) := by decide +kernel
theorem dX12_areAlike_6 : decode cX12_areAlike 6 = .ok (.if_icmp .ge 37, 3) := by decide +kernel
theorem dX12_areAlike_9 : decode cX12_areAlike 9 = .ok (.iload_n 3, 1) := by decide +kernel
theorem dX12_areAlike_10 : decode cX12_areAlike 10 = .ok (.ifCond .eq 10, 3) := by decide +kernel
theorem dX12_areAlike_13 : decode cX12_areAlike 13 = .ok (.iload_n 3, 1) := by decide +kernel
theorem dX12_areAlike_14 : decode cX12_areAlike 14 = .ok (.invokestatic 248, 3) := by decide +kernel
theorem dX12_areAlike_17 : decode cX12_areAlike 17 = .ok (.ifCond .eq 20, 3) := by decide +kernel
theorem dX12_areAlike_20 : decode cX12_areAlike 20 = .ok (.aload_n 0, 1) := by decide +kernel
theorem dX12_areAlike_21 : decode cX12_areAlike 21 = .ok (.iload_n 1, 1) := by decide +kernel
theorem dX12_areAlike_22 : decode cX12_areAlike 22 = .ok (.iload_n 3, 1) := by decide +kernel
theorem dX12_areAlike_23 : decode cX12_areAlike 23 = .ok (.invokevirtual 261, 3) := by decide +kernel
theorem dX12_areAlike_26 : decode cX12_areAlike 26 = .ok (.aload_n 0, 1) := by decide +kernel
theorem dX12_areAlike_27 : decode cX12_areAlike 27 = .ok (.iload_n 2, 1) := by decide +kernel
theorem dX12_areAlike_28 : decode cX12_areAlike 28 = .ok (.iload_n 3, 1) := by decide +kernel
theorem dX12_areAlike_29 : decode cX12_areAlike 29 = .ok (.invokevirtual 261, 3) := by decide +kernel
theorem dX12_areAlike_32 : decode cX12_areAlike 32 = .ok (.if_icmp .eq 5, 3) := by decide +kernel
theorem dX12_areAlike_35 : decode cX12_areAlike 35 = .ok (.iconst 0, 1) := by decide +kernel
theorem dX12_areAlike_36 : decode cX12_areAlike 36 = .ok (.ireturn, 1) := by decide +kernel
theorem dX12_areAlike_37 : decode cX12_areAlike 37 = .ok (.iinc 3 1, 3) := by decide +kernel
theorem dX12_areAlike_40 : decode cX12_areAlike 40 = .ok (.goto (-38), 3) := by decide +kernel
theorem dX12_areAlike_43 : decode cX12_areAlike 43 = .ok (.iconst 1, 1) := by decide +kernel
theorem dX12_areAlike_44 : decode cX12_areAlike 44 = .ok (.ireturn, 1) := by decide +kernel
theorem dX12_alike_0 : decode cX12_alike 0 = .ok (.aload_n 0, 1) := by decide +kernel
theorem dX12_alike_1 : decode cX12_alike 1 = .ok (.iconst 0, 1) := by decide +kernel
theorem dX12_alike_2 : decode cX12_alike 2 = .ok (.putfield 75, 3) := by decide +kernel
theorem dX12_alike_5 : decode cX12_alike 5 = .ok (.aload_n 0, 1) := by decide +kernel
theorem dX12_alike_6 : decode cX12_alike 6 = .ok (.iload_n 1, 1) := by decide +kernel
theorem dX12_alike_7 : decode cX12_alike 7 = .ok (.invokevirtual 219, 3) := by decide +kernel
theorem dX12_alike_10 : decode cX12_alike 10 = .ok (.ifCond .eq 28, 3) := by decide +kernel
theorem dX12_alike_13 : decode cX12_alike 13 = .ok (.aload_n 0, 1) := by decide +kernel
theorem dX12_alike_14 : decode cX12_alike 14 = .ok (.iload_n 2, 1) := by decide +kernel
theorem dX12_alike_15 : decode cX12_alike 15 = .ok (.invokevirtual 219, 3) := by decide +kernel
theorem dX12_alike_18 : decode cX12_alike 18 = .ok (.ifCond .eq 20, 3) := by decide +kernel
theorem dX12_alike_21 : decode cX12_alike 21 = .ok (.aload_n 0, 1) := by decide +kernel
theorem dX12_alike_22 : decode cX12_alike 22 = .ok (.iload_n 1, 1) := by decide +kernel
theorem dX12_alike_23 : decode cX12_alike 23 = .ok (.iload_n 2, 1) := by decide +kernel
theorem dX12_alike_24 : decode cX12_alike 24 = .ok (.invokevirtual 274, 3) := by decide +kernel
theorem dX12_alike_27 : decode cX12_alike 27 = .ok (.ifCond .eq 7, 3) := by decide +kernel
theorem dX12_alike_30 : decode cX12_alike 30 = .ok (.iconst 1, 1) := by decide +kernel
theorem dX12_alike_31 : decode cX12_alike 31 = .ok (.goto 8, 3) := by decide +kernel
theorem dX12_alike_34 : decode cX12_alike 34 = .ok (.iconst 0, 1) := by decide +kernel
theorem dX12_alike_35 : decode cX12_alike 35 = .ok (.goto 4, 3) := by decide +kernel
theorem dX12_alike_38 : decode cX12_alike 38 = .ok (.iconst (-1), 1) := by decide +kernel
theorem dX12_alike_39 : decode cX12_alike 39 = .ok (.ireturn, 1) := by decide +kernel
theorem dX12_classes_0 : decode cX12_classes 0 = .ok (.aload_n 0, 1) := by decide +kernel
theorem dX12_classes_1 : decode cX12_classes 1 = .ok (.iconst 0, 1) := by decide +kernel
theorem dX12_classes_2 : decode cX12_classes 2 = .ok (.putfield 75, 3) := by decide +kernel
theorem dX12_classes_5 : decode cX12_classes 5 = .ok (.iconst 0, 1) := by decide +kernel
theorem dX12_classes_6 : decode cX12_classes 6 = .ok (.istore_n 1, 1) := by decide +kernel
theorem dX12_classes_7 : decode cX12_classes 7 = .ok (.iconst 0, 1) := by decide +kernel
theorem dX12_classes_8 : decode cX12_classes 8 = .ok (.istore_n 2, 1) := by decide +kernel
theorem dX12_classes_9 : decode cX12_classes 9 = .ok (.iload_n 2, 1) := by decide +kernel
theorem dX12_classes_10 : decode cX12_classes 10 = .ok (.aload_n 0, 1) := by decide +kernel
theorem dX12_classes_11 : decode cX12_classes 11 = .ok (.getfield 13, 3) := by decide +kernel
theorem dX12_classes_14 : decode cX12_classes 14 = .ok (.iconst 0, 1) := by decide +kernel
theorem dX12_classes_15 : decode cX12_classes 15 = .ok (.iaload, 1) := by decide +kernel
theorem dX12_classes_16 : decode cX12_classes 16 = .ok (.if_icmp .ge 58, 3) := by decide +kernel
theorem dX12_classes_19 : decode cX12_classes 19 = .ok (.iconst 1, 1) := by decide +kernel
theorem dX12_classes_20 : decode cX12_classes 20 = .ok (.istore_n 3, 1) := by decide +kernel
theorem dX12_classes_21 : decode cX12_classes 21 = .ok (.iconst 0, 1) := by decide +kernel
theorem dX12_classes_22 : decode cX12_classes 22 = .ok (.istore 4, 2) := by decide +kernel
theorem dX12_classes_24 : decode cX12_classes 24 = .ok (.iload 4, 2) := by decide +kernel
theorem dX12_classes_26 : decode cX12_classes 26 = .ok (.iload_n 2, 1) := by decide +kernel
theorem dX12_classes_27 : decode cX12_classes 27 = .ok (.if_icmp .ge 29, 3) := by decide +kernel
theorem dX12_classes_30 : decode cX12_classes 30 = .ok (.iload_n 3, 1) := by decide +kernel
theorem dX12_classes_31 : decode cX12_classes 31 = .ok (.ifCond .eq 25, 3) := by decide +kernel
theorem dX12_classes_34 : decode cX12_classes 34 = .ok (.aload_n 0, 1) := by decide +kernel
theorem dX12_classes_35 : decode cX12_classes 35 = .ok (.iload 4, 2) := by decide +kernel
theorem dX12_classes_37 : decode cX12_classes 37 = .ok (.iload_n 2, 1) := by decide +kernel
theorem dX12_classes_38 : decode cX12_classes 38 = .ok (.invokevirtual 274, 3) := by decide +kernel
theorem dX12_classes_41 : decode cX12_classes 41 = .ok (.ifCond .ne 7, 3) := by decide +kernel
theorem dX12_classes_44 : decode cX12_classes 44 = .ok (.iconst 1, 1) := by decide +kernel
theorem dX12_classes_45 : decode cX12_classes 45 = .ok (.goto 4, 3) := by decide +kernel
theorem dX12_classes_48 : decode cX12_classes 48 = .ok (.iconst 0, 1) := by decide +kernel
theorem dX12_classes_49 : decode cX12_classes 49 = .ok (.istore_n 3, 1) := by decide +kernel
theorem dX12_classes_50 : decode cX12_classes 50 = .ok (.iinc 4 1, 3) := by decide +kernel
theorem dX12_classes_53 : decode cX12_classes 53 = .ok (.goto (-29), 3) := by decide +kernel
theorem dX12_classes_56 : decode cX12_classes 56 = .ok (.iload_n 1, 1) := by decide +kernel
theorem dX12_classes_57 : decode cX12_classes 57 = .ok (.iload_n 3, 1) := by decide +kernel
theorem dX12_classes_58 : decode cX12_classes 58 = .ok (.ifCond .eq 7, 3) := by decide +kernel
theorem dX12_classes_61 : decode cX12_classes 61 = .ok (.iconst 1, 1) := by decide +kernel
theorem dX12_classes_62 : decode cX12_classes 62 = .ok (.goto 4, 3) := by decide +kernel
theorem dX12_classes_65 : decode cX12_classes 65 = .ok (.iconst 0, 1) := by decide +kernel
theorem dX12_classes_66 : decode cX12_classes 66 = .ok (.iadd, 1) := by decide +kernel
theorem dX12_classes_67 : decode cX12_classes 67 = .ok (.istore_n 1, 1) := by decide +kernel
theorem dX12_classes_68 : decode cX12_classes 68 = .ok (.iinc 2 1, 3) := by decide +kernel
theorem dX12_classes_71 : decode cX12_classes 71 = .ok (.goto (-62), 3) := by decide +kernel
theorem dX12_classes_74 : decode cX12_classes 74 = .ok (.iload_n 1, 1) := by decide +kernel
theorem dX12_classes_75 : decode cX12_classes 75 = .ok (.ireturn, 1) := by decide +kernel
theorem dX12_common_0 : decode cX12_common 0 = .ok (.lload_n 0, 1) := by decide +kernel
theorem dX12_common_1 : decode cX12_common 1 = .ok (.lconst 0, 1) := by decide +kernel
theorem dX12_common_2 : decode cX12_common 2 = .ok (.lcmp, 1) := by decide +kernel
theorem dX12_common_3 : decode cX12_common 3 = .ok (.ifCond .ge 8, 3) := by decide +kernel
theorem dX12_common_6 : decode cX12_common 6 = .ok (.lload_n 0, 1) := by decide +kernel
theorem dX12_common_7 : decode cX12_common 7 = .ok (.lneg, 1) := by decide +kernel
theorem dX12_common_8 : decode cX12_common 8 = .ok (.goto 4, 3) := by decide +kernel
theorem dX12_common_11 : decode cX12_common 11 = .ok (.lload_n 0, 1) := by decide +kernel
theorem dX12_common_12 : decode cX12_common 12 = .ok (.lstore 4, 2) := by decide +kernel
theorem dX12_common_14 : decode cX12_common 14 = .ok (.lload_n 2, 1) := by decide +kernel
theorem dX12_common_15 : decode cX12_common 15 = .ok (.lconst 0, 1) := by decide +kernel
theorem dX12_common_16 : decode cX12_common 16 = .ok (.lcmp, 1) := by decide +kernel
theorem dX12_common_17 : decode cX12_common 17 = .ok (.ifCond .ge 8, 3) := by decide +kernel
theorem dX12_common_20 : decode cX12_common 20 = .ok (.lload_n 2, 1) := by decide +kernel
theorem dX12_common_21 : decode cX12_common 21 = .ok (.lneg, 1) := by decide +kernel
theorem dX12_common_22 : decode cX12_common 22 = .ok (.goto 4, 3) := by decide +kernel
theorem dX12_common_25 : decode cX12_common 25 = .ok (.lload_n 2, 1) := by decide +kernel
theorem dX12_common_26 : decode cX12_common 26 = .ok (.lstore 6, 2) := by decide +kernel
theorem dX12_common_28 : decode cX12_common 28 = .ok (.lload 6, 2) := by decide +kernel
theorem dX12_common_30 : decode cX12_common 30 = .ok (.lconst 0, 1) := by decide +kernel
theorem dX12_common_31 : decode cX12_common 31 = .ok (.lcmp, 1) := by decide +kernel
theorem dX12_common_32 : decode cX12_common 32 = .ok (.ifCond .eq 21, 3) := by decide +kernel
theorem dX12_common_35 : decode cX12_common 35 = .ok (.lload 4, 2) := by decide +kernel
theorem dX12_common_37 : decode cX12_common 37 = .ok (.lload 6, 2) := by decide +kernel
theorem dX12_common_39 : decode cX12_common 39 = .ok (.lrem, 1) := by decide +kernel
theorem dX12_common_40 : decode cX12_common 40 = .ok (.lstore 8, 2) := by decide +kernel
theorem dX12_common_42 : decode cX12_common 42 = .ok (.lload 6, 2) := by decide +kernel
theorem dX12_common_44 : decode cX12_common 44 = .ok (.lstore 4, 2) := by decide +kernel
theorem dX12_common_46 : decode cX12_common 46 = .ok (.lload 8, 2) := by decide +kernel
theorem dX12_common_48 : decode cX12_common 48 = .ok (.lstore 6, 2) := by decide +kernel
theorem dX12_common_50 : decode cX12_common 50 = .ok (.goto (-22), 3) := by decide +kernel
theorem dX12_common_53 : decode cX12_common 53 = .ok (.lload 4, 2) := by decide +kernel
theorem dX12_common_55 : decode cX12_common 55 = .ok (.lreturn, 1) := by decide +kernel
theorem dX12_isKept_0 : decode cX12_isKept 0 = .ok (.iload_n 1, 1) := by decide +kernel
theorem dX12_isKept_1 : decode cX12_isKept 1 = .ok (.i2l, 1) := by decide +kernel
theorem dX12_isKept_2 : decode cX12_isKept 2 = .ok (.lconst 0, 1) := by decide +kernel
theorem dX12_isKept_3 : decode cX12_isKept 3 = .ok (.ldc2_w 278, 3) := by decide +kernel
theorem dX12_isKept_6 : decode cX12_isKept 6 = .ok (.invokestatic 113, 3) := by decide +kernel
theorem dX12_isKept_9 : decode cX12_isKept 9 = .ok (.ifCond .eq 19, 3) := by decide +kernel
theorem dX12_isKept_12 : decode cX12_isKept 12 = .ok (.aload_n 0, 1) := by decide +kernel
theorem dX12_isKept_13 : decode cX12_isKept 13 = .ok (.getfield 213, 3) := by decide +kernel
theorem dX12_isKept_16 : decode cX12_isKept 16 = .ok (.iload_n 1, 1) := by decide +kernel
theorem dX12_isKept_17 : decode cX12_isKept 17 = .ok (.ishr, 1) := by decide +kernel
theorem dX12_isKept_18 : decode cX12_isKept 18 = .ok (.iconst 1, 1) := by decide +kernel
theorem dX12_isKept_19 : decode cX12_isKept 19 = .ok (.iand, 1) := by decide +kernel
theorem dX12_isKept_20 : decode cX12_isKept 20 = .ok (.iconst 1, 1) := by decide +kernel
theorem dX12_isKept_21 : decode cX12_isKept 21 = .ok (.if_icmp .ne 7, 3) := by decide +kernel
theorem dX12_isKept_24 : decode cX12_isKept 24 = .ok (.iconst 1, 1) := by decide +kernel
theorem dX12_isKept_25 : decode cX12_isKept 25 = .ok (.goto 4, 3) := by decide +kernel
theorem dX12_isKept_28 : decode cX12_isKept 28 = .ok (.iconst 0, 1) := by decide +kernel
theorem dX12_isKept_29 : decode cX12_isKept 29 = .ok (.ireturn, 1) := by decide +kernel
theorem dX12_part_0 : decode cX12_part 0 = .ok (.aload_n 0, 1) := by decide +kernel
theorem dX12_part_1 : decode cX12_part 1 = .ok (.getfield 39, 3) := by decide +kernel
theorem dX12_part_4 : decode cX12_part 4 = .ok (.iconst 5, 1) := by decide +kernel
theorem dX12_part_5 : decode cX12_part 5 = .ok (.iload_n 1, 1) := by decide +kernel
theorem dX12_part_6 : decode cX12_part 6 = .ok (.imul, 1) := by decide +kernel
theorem dX12_part_7 : decode cX12_part 7 = .ok (.iload_n 2, 1) := by decide +kernel
theorem dX12_part_8 : decode cX12_part 8 = .ok (.iadd, 1) := by decide +kernel
theorem dX12_part_9 : decode cX12_part 9 = .ok (.laload, 1) := by decide +kernel
theorem dX12_part_10 : decode cX12_part 10 = .ok (.lreturn, 1) := by decide +kernel
def mX12_cyclicLine_B82 (v0 : Nat) (v1 : Int) (t0 : Int) (σ : mSt) : Option (Int × mSt) := mCall (mX12_must v0 t0 4 σ) fun b1 s2 => if wI b1 = 0 then (some (0, s2)) else mRef (s2 v0 15) fun r5 => mCall (mX12_at v0 v1 s2) fun b7 s8 => mG (ixOK r5 20 b7) <| bnd (upS s8 r5 (wI b7).toNat (s8 v0 7)) fun s11 => mCall (mX12_steps v0 s11) fun b13 s14 => mCall (mX12_takesWhole v0 999 s14) fun b16 s17 => if wI b16 = 0 then (some (0, s17)) else mRef (s17 v0 16) fun r20 => mCall (mX12_at v0 v1 s17) fun b22 s23 => mG (ixOK r20 20 b22) <| bnd (upS s23 r20 (wI b22).toNat (s23 v0 19)) fun s26 => mCall (mX12_steps v0 s26) fun b28 s29 => some (1, s29)
def mX12_cyclicLine_B77 (v0 : Nat) (v1 : Int) (σ : mSt) : Option (Int × mSt) := mX12_cyclicLine_B82 v0 v1 1 σ
def mX12_cyclicLine_B14 (v0 : Nat) (v1 : Int) (t0 : Nat) (t1 : Int) (σ : mSt) : Option (Int × mSt) := mCall (mX12_must t0 t1 1 σ) fun b31 s32 => if wI b31 = 0 then (some (0, s32)) else if wI (s32 v0 7) = 7 then (mX12_cyclicLine_B77 v0 v1 s32) else if wI (s32 v0 7) = 13 then (mX12_cyclicLine_B77 v0 v1 s32) else if wI (s32 v0 7) = 19 then (mX12_cyclicLine_B77 v0 v1 s32) else if wI (s32 v0 7) = 31 then (mX12_cyclicLine_B77 v0 v1 s32) else if wI (s32 v0 7) = 37 then (mX12_cyclicLine_B77 v0 v1 s32) else if wI (s32 v0 7) = 43 then (mX12_cyclicLine_B77 v0 v1 s32) else mX12_cyclicLine_B82 v0 v1 0 s32
def mX12_cyclicLine (v0 : Nat) (v1 : Int) (σ : mSt) : Option (Int × mSt) := mG (isC v0 11) <| if wI (σ v0 6) = 2 then (mX12_cyclicLine_B14 v0 v1 v0 1 σ) else mX12_cyclicLine_B14 v0 v1 v0 0 σ
def mX12_set (v0 : Nat) (v1 : Int) (v2 : Int) (v3 : Int) (v4 : Int) (σ : mSt) : Option (Int × mSt) := mG (isC v0 11) <| mRef (σ v0 29) fun r1 => mG (ixOK r1 21 (((16 * v1) + (4 * v2)) + v3)) <| bnd (upS σ r1 (wI (((16 * v1) + (4 * v2)) + v3)).toNat v4) fun s4 => some (0, s4)
def mX12_laysPlain_B43 (v0 : Nat) (v1 : Int) (σ : mSt) : Option (Int × mSt) := mRef (σ v0 30) fun r1 => mG (ixOK r1 21 v1) <| bnd (upS σ r1 (wI v1).toNat 1) fun s4 => mRef (s4 v0 31) fun r6 => mG (ixOK r6 21 v1) <| bnd (upS s4 r6 (wI v1).toNat 1) fun s9 => some (0, s9)
def mX12_laysPlain_B37 (v0 : Nat) (v1 : Int) (c2 : Int → mSt → Option (Int × mSt)) (x43 : mSt → Option (Int × mSt)) (v2 : Int) (σ : mSt) : Option (Int × mSt) := bnd (v2 + 1) fun a11 => c2 a11 σ
def mX12_laysPlain_B28 (v0 : Nat) (v1 : Int) (v2 : Int) (c9 : Int → mSt → Option (Int × mSt)) (x37 : mSt → Option (Int × mSt)) (v3 : Int) (t0 : Nat) (t1 : Int) (t2 : Int) (t3 : Int) (t4 : Int) (σ : mSt) : Option (Int × mSt) := mCall (mX12_set t0 t1 t2 t3 t4 σ) fun b13 s14 => bnd (v3 + 1) fun a16 => c9 a16 s14
def mX12_laysPlain_L9 (v0 : Nat) (v1 : Int) (v2 : Int) (x37 : mSt → Option (Int × mSt)) : Nat → Int → mSt → Option (Int × mSt)
  | 0, _, _ => none
  | n + 1, v3, σ => if 4 ≤ wI v3 then (x37 σ) else if wI v2 = wI v3 then (mX12_laysPlain_B28 v0 v1 v2 (mX12_laysPlain_L9 v0 v1 v2 x37 n) x37 v3 v0 v1 v2 v3 1 σ) else mX12_laysPlain_B28 v0 v1 v2 (mX12_laysPlain_L9 v0 v1 v2 x37 n) x37 v3 v0 v1 v2 v3 0 σ
def mX12_laysPlain_L2 (v0 : Nat) (v1 : Int) (x43 : mSt → Option (Int × mSt)) : Nat → Int → mSt → Option (Int × mSt)
  | 0, _, _ => none
  | n + 1, v2, σ => if 4 ≤ wI v2 then (x43 σ) else mX12_laysPlain_L9 v0 v1 v2 (fun zσ => mX12_laysPlain_B37 v0 v1 (mX12_laysPlain_L2 v0 v1 x43 n) x43 v2 zσ) mF 0 σ
def mX12_laysPlain (v0 : Nat) (v1 : Int) (σ : mSt) : Option (Int × mSt) := mG (isC v0 11) <| mX12_laysPlain_L2 v0 v1 (fun zσ => mX12_laysPlain_B43 v0 v1 zσ) mF 0 σ
def mX12_isAlgebra (v0 : Nat) (v1 : Int) (σ : mSt) : Option (Int × mSt) := mG (isC v0 11) <| mRef (σ v0 12) fun r1 => mG (ixOK r1 20 0) <| mCall (mX12_within (wI v1) 0 (wI ((σ r1 0) - 1)) σ) fun b4 s5 => mG (b4 = 0 ∨ b4 = 1) <| some (b4, s5)
def mX12_isQuaternion_B21 (v0 : Nat) (v1 : Int) (σ : mSt) : Option (Int × mSt) := some (0, σ)
def mX12_isQuaternion (v0 : Nat) (v1 : Int) (σ : mSt) : Option (Int × mSt) := mG (isC v0 11) <| mCall (mX12_isAlgebra v0 v1 σ) fun b1 s2 => if wI b1 = 0 then (mX12_isQuaternion_B21 v0 v1 s2) else mRef (s2 v0 14) fun r5 => mG (ixOK r5 20 v1) <| if wI (s2 r5 (wI v1).toNat) = 0 then (some (1, s2)) else mX12_isQuaternion_B21 v0 v1 s2
def mX12_firstLetter_B17 (v0 : Int) (v2 : Int) (σ : mSt) : Option (Int × mSt) := some (v2 - 1, σ)
def mX12_firstLetter_L2 (v0 : Int) (x17 : Int → mSt → Option (Int × mSt)) : Nat → Int → mSt → Option (Int × mSt)
  | 0, _, _ => none
  | n + 1, v2, σ => if wL v2 < 32 then (x17 v2 σ) else bnd (oShrL v2 5) fun a2 => mX12_firstLetter_L2 v0 x17 n a2 σ
def mX12_firstLetter (v0 : Int) (σ : mSt) : Option (Int × mSt) := mX12_firstLetter_L2 v0 (fun z2 zσ => mX12_firstLetter_B17 v0 z2 zσ) mF v0 σ
def mX12_algebra_B26 (v0 : Nat) (v1 : Int) (v2 : Int) (t0 : Nat) (t1 : Int) (σ : mSt) : Option (Int × mSt) := mG (isC t0 11) <| bnd (upS σ t0 0 t1) fun s2 => if wI (s2 v0 0) = 1 then (some (0, s2)) else if wI v2 = 0 then (mRef (s2 v0 14) fun r20 => mG (ixOK r20 20 v1) <| some (s2 r20 (wI v1).toNat, s2)) else if wI v2 = 1 then (mRef (s2 v0 15) fun r17 => mG (ixOK r17 20 v1) <| some (s2 r17 (wI v1).toNat, s2)) else if wI v2 = 2 then (mRef (s2 v0 16) fun r14 => mG (ixOK r14 20 v1) <| some (s2 r14 (wI v1).toNat, s2)) else mRef (s2 v0 13) fun r8 => mG (ixOK r8 21 v1) <| mCall (mX12_firstLetter (s2 r8 (wI v1).toNat) s2) fun b11 s12 => some (b11, s12)
def mX12_algebra_B25 (v0 : Nat) (v1 : Int) (v2 : Int) (t0 : Nat) (σ : mSt) : Option (Int × mSt) := mX12_algebra_B26 v0 v1 v2 t0 1 σ
def mX12_algebra (v0 : Nat) (v1 : Int) (v2 : Int) (σ : mSt) : Option (Int × mSt) := mG (isC v0 11) <| mCall (mX12_isAlgebra v0 v1 σ) fun b23 s24 => if wI b23 = 0 then (mX12_algebra_B25 v0 v1 v2 v0 s24) else mCall (mX12_within (wI v2) 0 3 s24) fun b27 s28 => if wI b27 = 0 then (mX12_algebra_B25 v0 v1 v2 v0 s28) else mX12_algebra_B26 v0 v1 v2 v0 0 s28
def mX12_isPrime_B23 (v0 : Int) (σ : mSt) : Option (Int × mSt) := if wI v0 ≤ 1 then (some (0, σ)) else some (1, σ)
def mX12_isPrime_L2 (v0 : Int) (x23 : mSt → Option (Int × mSt)) : Nat → Int → mSt → Option (Int × mSt)
  | 0, _, _ => none
  | n + 1, v1, σ => if wI v0 < wI (v1 * v1) then (x23 σ) else mG (wI v1 ≠ 0) <| if wI ((wI v0).tmod (wI v1)) = 0 then (some (0, σ)) else bnd (v1 + 1) fun a5 => mX12_isPrime_L2 v0 x23 n a5 σ
def mX12_isPrime (v0 : Int) (σ : mSt) : Option (Int × mSt) := mX12_isPrime_L2 v0 (fun zσ => mX12_isPrime_B23 v0 zσ) mF 2 σ
def mX12_often_B20 (v0 : Int) (v1 : Int) (v2 : Int) (σ : mSt) : Option (Int × mSt) := some (v2, σ)
def mX12_often_L4 (v0 : Int) (v1 : Int) (x20 : Int → mSt → Option (Int × mSt)) : Nat → Int → Int → mSt → Option (Int × mSt)
  | 0, _, _, _ => none
  | n + 1, v2, v3, σ => mG (wI v1 ≠ 0) <| if wI ((wI v3).tmod (wI v1)) = 0 then (bnd (v2 + 1) fun a3 => bnd ((wI v3).tdiv (wI v1)) fun a5 => mX12_often_L4 v0 v1 x20 n a3 a5 σ) else x20 v2 σ
def mX12_often (v0 : Int) (v1 : Int) (σ : mSt) : Option (Int × mSt) := mX12_often_L4 v0 v1 (fun z2 zσ => mX12_often_B20 v0 v1 z2 zσ) mF 0 v0 σ
def mX12_without_B15 (v0 : Int) (v1 : Int) (v2 : Int) (σ : mSt) : Option (Int × mSt) := some (v2, σ)
def mX12_without_L2 (v0 : Int) (v1 : Int) (x15 : Int → mSt → Option (Int × mSt)) : Nat → Int → mSt → Option (Int × mSt)
  | 0, _, _ => none
  | n + 1, v2, σ => mG (wI v1 ≠ 0) <| if wI ((wI v2).tmod (wI v1)) = 0 then (bnd ((wI v2).tdiv (wI v1)) fun a3 => mX12_without_L2 v0 v1 x15 n a3 σ) else x15 v2 σ
def mX12_without (v0 : Int) (v1 : Int) (σ : mSt) : Option (Int × mSt) := mX12_without_L2 v0 v1 (fun z2 zσ => mX12_without_B15 v0 v1 z2 zσ) mF v0 σ
def mX12_legendre_B32 (v0 : Int) (v1 : Int) (σ : mSt) : Option (Int × mSt) := some ((-1), σ)
def mX12_legendre_L10 (v0 : Int) (v1 : Int) (v2 : Int) (x32 : mSt → Option (Int × mSt)) : Nat → Int → mSt → Option (Int × mSt)
  | 0, _, _ => none
  | n + 1, v3, σ => if wI v1 ≤ wI v3 then (x32 σ) else mG (wI v1 ≠ 0) <| if wI ((wI (v3 * v3)).tmod (wI v1)) = wI v2 then (some (1, σ)) else bnd (v3 + 1) fun a4 => mX12_legendre_L10 v0 v1 v2 x32 n a4 σ
def mX12_legendre (v0 : Int) (v1 : Int) (σ : mSt) : Option (Int × mSt) := mG (wI v1 ≠ 0) <| bnd ((wI (((wI v0).tmod (wI v1)) + v1)).tmod (wI v1)) fun a7 => mX12_legendre_L10 v0 v1 a7 (fun zσ => mX12_legendre_B32 v0 v1 zσ) mF 1 σ
def mX12_odd (v0 : Int) (σ : mSt) : Option (Int × mSt) := mG (wI 2 ≠ 0) <| if wI ((wI v0).tmod (wI 2)) = 0 then (some (0, σ)) else some (1, σ)
def mX12_side (v0 : Int) (σ : mSt) : Option (Int × mSt) := mG (wI 2 ≠ 0) <| mCall (mX12_odd ((wI (v0 - 1)).tdiv (wI 2)) σ) fun b2 s3 => some (b2, s3)
def mX12_width (v0 : Int) (σ : mSt) : Option (Int × mSt) := mG (wI 8 ≠ 0) <| mCall (mX12_odd ((wI ((v0 * v0) - 1)).tdiv (wI 8)) σ) fun b2 s3 => some (b2, s3)
def mX12_quaternionAt_B177 (v0 : Int) (v1 : Int) (v2 : Int) (v7 : Int) (σ : mSt) : Option (Int × mSt) := if 0 ≤ wI v7 then (some (0, σ)) else some (3, σ)
def mX12_quaternionAt_B158 (v0 : Int) (v1 : Int) (v2 : Int) (v3 : Int) (v6 : Int) (v7 : Int) (σ : mSt) : Option (Int × mSt) := mCall (mX12_odd v3 σ) fun b2 s3 => if wI b2 = 1 then (mCall (mX12_legendre v6 v2 s3) fun b6 s7 => bnd (v7 * b6) fun a9 => mX12_quaternionAt_B177 v0 v1 v2 a9 s7) else mX12_quaternionAt_B177 v0 v1 v2 v7 s3
def mX12_quaternionAt_B136 (v0 : Int) (v1 : Int) (v2 : Int) (v3 : Int) (v4 : Int) (v5 : Int) (v6 : Int) (t0 : Int) (σ : mSt) : Option (Int × mSt) := mCall (mX12_odd v4 σ) fun b11 s12 => if wI b11 = 1 then (mCall (mX12_legendre v5 v2 s12) fun b15 s16 => bnd (t0 * b15) fun a18 => mX12_quaternionAt_B158 v0 v1 v2 v3 v6 a18 s16) else mX12_quaternionAt_B158 v0 v1 v2 v3 v6 t0 s12
def mX12_quaternionAt_B135 (v0 : Int) (v1 : Int) (v2 : Int) (v3 : Int) (v4 : Int) (v5 : Int) (v6 : Int) (σ : mSt) : Option (Int × mSt) := mX12_quaternionAt_B136 v0 v1 v2 v3 v4 v5 v6 1 σ
def mX12_quaternionAt_B102 (v0 : Int) (v1 : Int) (v2 : Int) (v3 : Int) (v4 : Int) (v5 : Int) (v6 : Int) (σ : mSt) : Option (Int × mSt) := mCall (mX12_odd v3 σ) fun b20 s21 => if wI b20 = 1 then (mCall (mX12_odd v4 s21) fun b24 s25 => if wI b24 = 1 then (mG (wI 2 ≠ 0) <| mCall (mX12_odd ((wI (v2 - 1)).tdiv (wI 2)) s25) fun b29 s30 => if wI b29 = 1 then (mX12_quaternionAt_B136 v0 v1 v2 v3 v4 v5 v6 (-1) s30) else mX12_quaternionAt_B135 v0 v1 v2 v3 v4 v5 v6 s30) else mX12_quaternionAt_B135 v0 v1 v2 v3 v4 v5 v6 s25) else mX12_quaternionAt_B135 v0 v1 v2 v3 v4 v5 v6 s21
def mX12_quaternionAt_B16 (v0 : Int) (v1 : Int) (v2 : Int) (σ : mSt) : Option (Int × mSt) := some (0, σ)
def mX12_quaternionAt (v0 : Int) (v1 : Int) (v2 : Int) (σ : mSt) : Option (Int × mSt) := if wI v2 = 0 then (if 0 ≤ wI v0 then (mX12_quaternionAt_B16 v0 v1 v2 σ) else if 0 ≤ wI v1 then (mX12_quaternionAt_B16 v0 v1 v2 σ) else some (3, σ)) else mCall (mX12_often v0 v2 σ) fun b34 s35 => mCall (mX12_often v1 v2 s35) fun b37 s38 => mCall (mX12_without v0 v2 s38) fun b40 s41 => mCall (mX12_without v1 v2 s41) fun b43 s44 => if wI v2 = 2 then (mCall (mX12_side b40 s44) fun b49 s50 => mCall (mX12_side b43 s50) fun b52 s53 => mCall (mX12_width b43 s53) fun b55 s56 => mCall (mX12_width b40 s56) fun b58 s59 => mCall (mX12_odd (((b49 * b52) + (b34 * b55)) + (b37 * b58)) s59) fun b61 s62 => if wI b61 = 1 then (some (3, s62)) else some (0, s62)) else if wI b34 = 0 then (if wI b37 = 0 then (some (0, s44)) else mX12_quaternionAt_B102 v0 v1 v2 b34 b37 b40 b43 s44) else mX12_quaternionAt_B102 v0 v1 v2 b34 b37 b40 b43 s44
def mX12_generator_B43 (v0 : Int) (σ : mSt) : Option (Int × mSt) := some ((-1), σ)
def mX12_generator_B28 (v0 : Int) (c2 : Int → mSt → Option (Int × mSt)) (x43 : mSt → Option (Int × mSt)) (v1 : Int) (v2 : Int) (σ : mSt) : Option (Int × mSt) := if wI v2 = wI (v0 - 1) then (some (v1, σ)) else bnd (v1 + 1) fun a2 => c2 a2 σ
def mX12_generator_L11 (v0 : Int) (v1 : Int) (x28 : Int → mSt → Option (Int × mSt)) : Nat → Int → Int → mSt → Option (Int × mSt)
  | 0, _, _, _ => none
  | n + 1, v2, v3, σ => if wI v3 = 1 then (x28 v2 σ) else bnd (v2 + 1) fun a5 => mG (wI v0 ≠ 0) <| bnd ((wI (v3 * v1)).tmod (wI v0)) fun a8 => mX12_generator_L11 v0 v1 x28 n a5 a8 σ
def mX12_generator_L2 (v0 : Int) (x43 : mSt → Option (Int × mSt)) : Nat → Int → mSt → Option (Int × mSt)
  | 0, _, _ => none
  | n + 1, v1, σ => if wI v0 ≤ wI v1 then (x43 σ) else mX12_generator_L11 v0 v1 (fun z2 zσ => mX12_generator_B28 v0 (mX12_generator_L2 v0 x43 n) x43 v1 z2 zσ) mF 1 v1 σ
def mX12_generator (v0 : Int) (σ : mSt) : Option (Int × mSt) := mX12_generator_L2 v0 (fun zσ => mX12_generator_B43 v0 zσ) mF 2 σ
def mX12_cyclicAt_B119 (rec : Int → Int → Int → mSt → Option (Int × mSt)) (v0 : Int) (v1 : Int) (v2 : Int) (v3 : Int) (v5 : Int) (σ : mSt) : Option (Int × mSt) := mG (wI 3 ≠ 0) <| some (2 * ((wI (v3 * v5)).tmod (wI 3)), σ)
def mX12_cyclicAt_L96 (rec : Int → Int → Int → mSt → Option (Int × mSt)) (v0 : Int) (v1 : Int) (v2 : Int) (v3 : Int) (v4 : Int) (x119 : Int → mSt → Option (Int × mSt)) : Nat → Int → Int → mSt → Option (Int × mSt)
  | 0, _, _, _ => none
  | n + 1, v5, v6, σ => mG (wI v0 ≠ 0) <| if wI v6 = wI ((wI v2).tmod (wI v0)) then (x119 v5 σ) else bnd (v5 + 1) fun a4 => bnd ((wI (v6 * v4)).tmod (wI v0)) fun a6 => mX12_cyclicAt_L96 rec v0 v1 v2 v3 v4 x119 n a4 a6 σ
def mX12_cyclicAt_B61 (rec : Int → Int → Int → mSt → Option (Int × mSt)) (v0 : Int) (v1 : Int) (v2 : Int) (v3 : Int) (σ : mSt) : Option (Int × mSt) := mG (wI 6 ≠ 0) <| some ((wI (6 - ((wI v3).tmod (wI 6)))).tmod (wI 6), σ)
def mX12_cyclicAt_L16 (rec : Int → Int → Int → mSt → Option (Int × mSt)) (v0 : Int) (v1 : Int) (v2 : Int) (x61 : Int → mSt → Option (Int × mSt)) : Nat → Int → Int → mSt → Option (Int × mSt)
  | 0, _, _, _ => none
  | n + 1, v3, v4, σ => if 1000 ≤ wI v4 then (x61 v3 σ) else if wI v4 = wI v0 then (bnd (v4 + 1) fun a11 => mX12_cyclicAt_L16 rec v0 v1 v2 x61 n v3 a11 σ) else mG (wI v4 ≠ 0) <| if wI ((wI v1).tmod (wI v4)) = 0 then (mCall (mX12_isPrime v4 σ) fun b17 s18 => if wI b17 = 0 then (bnd (v4 + 1) fun a21 => mX12_cyclicAt_L16 rec v0 v1 v2 x61 n v3 a21 s18) else mCall (rec v0 v1 v4 s18) fun b23 s24 => bnd (v3 + b23) fun a26 => bnd (v4 + 1) fun a28 => mX12_cyclicAt_L16 rec v0 v1 v2 x61 n a26 a28 s24) else bnd (v4 + 1) fun a15 => mX12_cyclicAt_L16 rec v0 v1 v2 x61 n v3 a15 σ
def mX12_cyclicAt_body (rec : Int → Int → Int → mSt → Option (Int × mSt)) (v0 : Int) (v1 : Int) (v2 : Int) (σ : mSt) : Option (Int × mSt) := if wI v2 = 0 then (some (0, σ)) else if wI v2 = wI v0 then (mX12_cyclicAt_L16 rec v0 v1 v2 (fun z3 zσ => mX12_cyclicAt_B61 rec v0 v1 v2 z3 zσ) mF 0 2 σ) else mCall (mX12_often v1 v2 σ) fun b32 s33 => if wI b32 = 0 then (some (0, s33)) else mCall (mX12_generator v0 s33) fun b36 s37 => mX12_cyclicAt_L96 rec v0 v1 v2 b32 b36 (fun z5 zσ => mX12_cyclicAt_B119 rec v0 v1 v2 b32 z5 zσ) mF 0 1 s37
def mX12_cyclicAt : Nat → Int → Int → Int → mSt → Option (Int × mSt)
  | 0, _, _, _, _ => none
  | d + 1, v0, v1, v2, σ => mX12_cyclicAt_body (mX12_cyclicAt d) v0 v1 v2 σ
def mX12_localOf_B106 (rec : Nat → Int → Int → mSt → Option (Int × mSt)) (v0 : Nat) (v1 : Int) (v2 : Int) (v3 : Int) (σ : mSt) : Option (Int × mSt) := mG (wI 6 ≠ 0) <| some ((wI (((wI v3).tmod (wI 6)) + 6)).tmod (wI 6), σ)
def mX12_localOf_L58 (rec : Nat → Int → Int → mSt → Option (Int × mSt)) (v0 : Nat) (v1 : Int) (v2 : Int) (x106 : Int → mSt → Option (Int × mSt)) : Nat → Int → Int → mSt → Option (Int × mSt)
  | 0, _, _, _ => none
  | n + 1, v3, v4, σ => mRef (σ v0 15) fun r2 => mG (ixOK r2 20 v1) <| if wI (σ r2 (wI v1).toNat) ≤ wI v4 then (x106 v3 σ) else mRef (σ v0 17) fun r6 => mG (ixOK r6 20 ((4 * v1) + v4)) <| mRef (σ v0 18) fun r9 => mG (ixOK r9 20 ((4 * v1) + v4)) <| mCall (rec v0 (σ r9 (wI ((4 * v1) + v4)).toNat) v2 σ) fun b12 s13 => bnd (v3 + ((σ r6 (wI ((4 * v1) + v4)).toNat) * b12)) fun a15 => bnd (v4 + 1) fun a17 => mX12_localOf_L58 rec v0 v1 v2 x106 n a15 a17 s13
def mX12_localOf_body (rec : Nat → Int → Int → mSt → Option (Int × mSt)) (v0 : Nat) (v1 : Int) (v2 : Int) (σ : mSt) : Option (Int × mSt) := mG (isC v0 11) <| mRef (σ v0 14) fun r19 => mG (ixOK r19 20 v1) <| if wI (σ r19 (wI v1).toNat) = 0 then (mRef (σ v0 15) fun r36 => mG (ixOK r36 20 v1) <| mRef (σ v0 16) fun r39 => mG (ixOK r39 20 v1) <| mCall (mX12_quaternionAt (σ r36 (wI v1).toNat) (σ r39 (wI v1).toNat) v2 σ) fun b42 s43 => some (b42, s43)) else mRef (σ v0 14) fun r23 => mG (ixOK r23 20 v1) <| if wI (σ r23 (wI v1).toNat) = 1 then (mRef (σ v0 15) fun r27 => mG (ixOK r27 20 v1) <| mRef (σ v0 16) fun r30 => mG (ixOK r30 20 v1) <| mCall (mX12_cyclicAt 3 (σ r27 (wI v1).toNat) (σ r30 (wI v1).toNat) v2 σ) fun b33 s34 => some (b33, s34)) else mX12_localOf_L58 rec v0 v1 v2 (fun z3 zσ => mX12_localOf_B106 rec v0 v1 v2 z3 zσ) mF 0 0 σ
def mX12_localOf : Nat → Nat → Int → Int → mSt → Option (Int × mSt)
  | 0, _, _, _, _ => none
  | d + 1, v0, v1, v2, σ => mX12_localOf_body (mX12_localOf d) v0 v1 v2 σ
def mX12_local_B40 (v0 : Nat) (v1 : Int) (v2 : Int) (σ : mSt) : Option (Int × mSt) := if 1000 ≤ wI v2 then (some (0, σ)) else mCall (mX12_localOf 9 v0 v1 v2 σ) fun b2 s3 => some (b2, s3)
def mX12_local (v0 : Nat) (v1 : Int) (v2 : Int) (σ : mSt) : Option (Int × mSt) := mG (isC v0 11) <| bnd (upS σ v0 0 0) fun s5 => mCall (mX12_isAlgebra v0 v1 s5) fun b7 s8 => if wI b7 = 0 then (some ((-1), s8)) else if wI v2 = 0 then (mX12_local_B40 v0 v1 v2 s8) else mCall (mX12_within (wI v2) 2 60000 s8) fun b12 s13 => if wI b12 = 0 then (some ((-1), s13)) else mCall (mX12_isPrime v2 s13) fun b16 s17 => if wI b16 = 0 then (some ((-1), s17)) else mX12_local_B40 v0 v1 v2 s17
def mX12_placeBehind_B39 (v0 : Nat) (v1 : Int) (v2 : Int) (σ : mSt) : Option (Int × mSt) := some ((-1), σ)
def mX12_placeBehind_B22 (v0 : Nat) (v1 : Int) (v2 : Int) (c4 : Int → mSt → Option (Int × mSt)) (x39 : mSt → Option (Int × mSt)) (v3 : Int) (σ : mSt) : Option (Int × mSt) := mCall (mX12_localOf 9 v0 v1 v3 σ) fun b1 s2 => if wI b1 = 0 then (bnd (v3 + 1) fun a5 => c4 a5 s2) else some (v3, s2)
def mX12_placeBehind_L4 (v0 : Nat) (v1 : Int) (v2 : Int) (x39 : mSt → Option (Int × mSt)) : Nat → Int → mSt → Option (Int × mSt)
  | 0, _, _ => none
  | n + 1, v3, σ => if 1000 ≤ wI v3 then (x39 σ) else if wI v3 = 0 then (mX12_placeBehind_B22 v0 v1 v2 (mX12_placeBehind_L4 v0 v1 v2 x39 n) x39 v3 σ) else mCall (mX12_isPrime v3 σ) fun b9 s10 => if wI b9 = 0 then (bnd (v3 + 1) fun a13 => mX12_placeBehind_L4 v0 v1 v2 x39 n a13 s10) else mX12_placeBehind_B22 v0 v1 v2 (mX12_placeBehind_L4 v0 v1 v2 x39 n) x39 v3 s10
def mX12_placeBehind (v0 : Nat) (v1 : Int) (v2 : Int) (σ : mSt) : Option (Int × mSt) := mG (isC v0 11) <| bnd (v2 + 1) fun a15 => mX12_placeBehind_L4 v0 v1 v2 (fun zσ => mX12_placeBehind_B39 v0 v1 v2 zσ) mF a15 σ
def mX12_place_B59 (v0 : Nat) (v1 : Int) (v2 : Int) (v3 : Int) (σ : mSt) : Option (Int × mSt) := if wI v2 = (-1) then (some (v3, σ)) else some ((-2), σ)
def mX12_place_L31 (v0 : Nat) (v1 : Int) (v2 : Int) (x59 : Int → mSt → Option (Int × mSt)) : Nat → Int → Int → mSt → Option (Int × mSt)
  | 0, _, _, _ => none
  | n + 1, v3, v4, σ => if wI v4 < 0 then (x59 v3 σ) else if wI v3 = wI v2 then (some (v4, σ)) else bnd (v3 + 1) fun a4 => mCall (mX12_placeBehind v0 v1 v4 σ) fun b6 s7 => mX12_place_L31 v0 v1 v2 x59 n a4 b6 s7
def mX12_place (v0 : Nat) (v1 : Int) (v2 : Int) (σ : mSt) : Option (Int × mSt) := mG (isC v0 11) <| bnd (upS σ v0 0 0) fun s9 => mCall (mX12_isAlgebra v0 v1 s9) fun b11 s12 => if wI b11 = 0 then (some ((-2), s12)) else if (-1) ≤ wI v2 then (mCall (mX12_placeBehind v0 v1 (-1) s12) fun b16 s17 => mX12_place_L31 v0 v1 v2 (fun z3 zσ => mX12_place_B59 v0 v1 v2 z3 zσ) mF 0 b16 s17) else some ((-2), s12)
def mX12_indexOf_B76 (v0 : Nat) (v1 : Int) (v2 : Int) (σ : mSt) : Option (Int × mSt) := some (v2, σ)
def mX12_indexOf_B65 (v0 : Nat) (v1 : Int) (c9 : Int → Int → mSt → Option (Int × mSt)) (x76 : Int → mSt → Option (Int × mSt)) (v3 : Int) (t0 : Int) (σ : mSt) : Option (Int × mSt) := mCall (mX12_placeBehind v0 v1 v3 σ) fun b1 s2 => c9 t0 b1 s2
def mX12_indexOf_B58 (v0 : Nat) (v1 : Int) (c9 : Int → Int → mSt → Option (Int × mSt)) (x76 : Int → mSt → Option (Int × mSt)) (v3 : Int) (v5 : Int) (σ : mSt) : Option (Int × mSt) := mX12_indexOf_B65 v0 v1 c9 x76 v3 v5 σ
def mX12_indexOf_B45 (v0 : Nat) (v1 : Int) (c9 : Int → Int → mSt → Option (Int × mSt)) (x76 : Int → mSt → Option (Int × mSt)) (v2 : Int) (v3 : Int) (t0 : Int) (σ : mSt) : Option (Int × mSt) := if wI v2 = wI t0 then (mX12_indexOf_B58 v0 v1 c9 x76 v3 t0 σ) else if wI v2 = 1 then (mX12_indexOf_B58 v0 v1 c9 x76 v3 t0 σ) else mX12_indexOf_B65 v0 v1 c9 x76 v3 6 σ
def mX12_indexOf_L9 (v0 : Nat) (v1 : Int) (x76 : Int → mSt → Option (Int × mSt)) : Nat → Int → Int → mSt → Option (Int × mSt)
  | 0, _, _, _ => none
  | n + 1, v2, v3, σ => if wI v3 < 0 then (x76 v2 σ) else mCall (mX12_localOf 9 v0 v1 v3 σ) fun b7 s8 => if wI b7 = 3 then (mX12_indexOf_B45 v0 v1 (mX12_indexOf_L9 v0 v1 x76 n) x76 v2 v3 2 s8) else mCall (mX12_odd b7 s8) fun b11 s12 => if wI b11 = 0 then (mX12_indexOf_B45 v0 v1 (mX12_indexOf_L9 v0 v1 x76 n) x76 v2 v3 3 s12) else mX12_indexOf_B45 v0 v1 (mX12_indexOf_L9 v0 v1 x76 n) x76 v2 v3 6 s12
def mX12_indexOf (v0 : Nat) (v1 : Int) (σ : mSt) : Option (Int × mSt) := mG (isC v0 11) <| mCall (mX12_placeBehind v0 v1 (-1) σ) fun b15 s16 => mX12_indexOf_L9 v0 v1 (fun z2 zσ => mX12_indexOf_B76 v0 v1 z2 zσ) mF 1 b15 s16
def mX12_index (v0 : Nat) (v1 : Int) (σ : mSt) : Option (Int × mSt) := mG (isC v0 11) <| bnd (upS σ v0 0 0) fun s1 => mCall (mX12_isAlgebra v0 v1 s1) fun b3 s4 => if wI b3 = 0 then (some ((-1), s4)) else mCall (mX12_indexOf v0 v1 s4) fun b7 s8 => some (b7, s8)
def mX12_areAlike_B43 (v0 : Nat) (v1 : Int) (v2 : Int) (σ : mSt) : Option (Int × mSt) := some (1, σ)
def mX12_areAlike_B20 (v0 : Nat) (v1 : Int) (v2 : Int) (c2 : Int → mSt → Option (Int × mSt)) (x43 : mSt → Option (Int × mSt)) (v3 : Int) (σ : mSt) : Option (Int × mSt) := mCall (mX12_localOf 9 v0 v1 v3 σ) fun b1 s2 => mCall (mX12_localOf 9 v0 v2 v3 s2) fun b4 s5 => if wI b1 = wI b4 then (bnd (v3 + 1) fun a8 => c2 a8 s5) else some (0, s5)
def mX12_areAlike_L2 (v0 : Nat) (v1 : Int) (v2 : Int) (x43 : mSt → Option (Int × mSt)) : Nat → Int → mSt → Option (Int × mSt)
  | 0, _, _ => none
  | n + 1, v3, σ => if 1000 ≤ wI v3 then (x43 σ) else if wI v3 = 0 then (mX12_areAlike_B20 v0 v1 v2 (mX12_areAlike_L2 v0 v1 v2 x43 n) x43 v3 σ) else mCall (mX12_isPrime v3 σ) fun b12 s13 => if wI b12 = 0 then (bnd (v3 + 1) fun a16 => mX12_areAlike_L2 v0 v1 v2 x43 n a16 s13) else mX12_areAlike_B20 v0 v1 v2 (mX12_areAlike_L2 v0 v1 v2 x43 n) x43 v3 s13
def mX12_areAlike (v0 : Nat) (v1 : Int) (v2 : Int) (σ : mSt) : Option (Int × mSt) := mG (isC v0 11) <| mX12_areAlike_L2 v0 v1 v2 (fun zσ => mX12_areAlike_B43 v0 v1 v2 zσ) mF 0 σ
def mX12_alike_B38 (v0 : Nat) (v1 : Int) (v2 : Int) (σ : mSt) : Option (Int × mSt) := some ((-1), σ)
def mX12_alike (v0 : Nat) (v1 : Int) (v2 : Int) (σ : mSt) : Option (Int × mSt) := mG (isC v0 11) <| bnd (upS σ v0 0 0) fun s1 => mCall (mX12_isAlgebra v0 v1 s1) fun b3 s4 => if wI b3 = 0 then (mX12_alike_B38 v0 v1 v2 s4) else mCall (mX12_isAlgebra v0 v2 s4) fun b7 s8 => if wI b7 = 0 then (mX12_alike_B38 v0 v1 v2 s8) else mCall (mX12_areAlike v0 v1 v2 s8) fun b11 s12 => if wI b11 = 0 then (some (0, s12)) else some (1, s12)
def mX12_classes_B74 (v0 : Nat) (v1 : Int) (σ : mSt) : Option (Int × mSt) := some (v1, σ)
def mX12_classes_B56 (v0 : Nat) (c9 : Int → Int → mSt → Option (Int × mSt)) (x74 : Int → mSt → Option (Int × mSt)) (v1 : Int) (v2 : Int) (v3 : Int) (σ : mSt) : Option (Int × mSt) := if wI v3 = 0 then (bnd (v1 + 0) fun a2 => bnd (v2 + 1) fun a4 => c9 a2 a4 σ) else bnd (v1 + 1) fun a6 => bnd (v2 + 1) fun a8 => c9 a6 a8 σ
def mX12_classes_L24 (v0 : Nat) (v1 : Int) (v2 : Int) (x56 : Int → mSt → Option (Int × mSt)) : Nat → Int → Int → mSt → Option (Int × mSt)
  | 0, _, _, _ => none
  | n + 1, v3, v4, σ => if wI v2 ≤ wI v4 then (x56 v3 σ) else if wI v3 = 0 then (x56 v3 σ) else mCall (mX12_areAlike v0 v4 v2 σ) fun b12 s13 => if wI b12 = 0 then (bnd (v4 + 1) fun a18 => mX12_classes_L24 v0 v1 v2 x56 n 1 a18 s13) else bnd (v4 + 1) fun a16 => mX12_classes_L24 v0 v1 v2 x56 n 0 a16 s13
def mX12_classes_L9 (v0 : Nat) (x74 : Int → mSt → Option (Int × mSt)) : Nat → Int → Int → mSt → Option (Int × mSt)
  | 0, _, _, _ => none
  | n + 1, v1, v2, σ => mRef (σ v0 12) fun r20 => mG (ixOK r20 20 0) <| if wI (σ r20 0) ≤ wI v2 then (x74 v1 σ) else mX12_classes_L24 v0 v1 v2 (fun z3 zσ => mX12_classes_B56 v0 (mX12_classes_L9 v0 x74 n) x74 v1 v2 z3 zσ) mF 1 0 σ
def mX12_classes (v0 : Nat) (σ : mSt) : Option (Int × mSt) := mG (isC v0 11) <| bnd (upS σ v0 0 0) fun s24 => mX12_classes_L9 v0 (fun z1 zσ => mX12_classes_B74 v0 z1 zσ) mF 0 0 s24
def mX12_common_B53 (v0 : Int) (v2 : Int) (v4 : Int) (σ : mSt) : Option (Int × mSt) := some (v4, σ)
def mX12_common_L28 (v0 : Int) (v2 : Int) (x53 : Int → mSt → Option (Int × mSt)) : Nat → Int → Int → mSt → Option (Int × mSt)
  | 0, _, _, _ => none
  | n + 1, v4, v6, σ => if wL v6 = 0 then (x53 v4 σ) else mG (wL v6 ≠ 0) <| bnd ((wL v4).tmod (wL v6)) fun a3 => mX12_common_L28 v0 v2 x53 n v6 a3 σ
def mX12_common_B26 (v0 : Int) (v2 : Int) (v4 : Int) (t0 : Int) (σ : mSt) : Option (Int × mSt) := mX12_common_L28 v0 v2 (fun z4 zσ => mX12_common_B53 v0 v2 z4 zσ) mF v4 t0 σ
def mX12_common_B12 (v0 : Int) (v2 : Int) (t0 : Int) (σ : mSt) : Option (Int × mSt) := if 0 ≤ wL v2 then (mX12_common_B26 v0 v2 t0 v2 σ) else mX12_common_B26 v0 v2 t0 (-v2) σ
def mX12_common (v0 : Int) (v2 : Int) (σ : mSt) : Option (Int × mSt) := if 0 ≤ wL v0 then (mX12_common_B12 v0 v2 v0 σ) else mX12_common_B12 v0 v2 (-v0) σ
def mX12_isKept_B28 (v0 : Nat) (v1 : Int) (σ : mSt) : Option (Int × mSt) := some (0, σ)
def mX12_isKept (v0 : Nat) (v1 : Int) (σ : mSt) : Option (Int × mSt) := mG (isC v0 11) <| mCall (mX12_within (wI v1) 0 7 σ) fun b1 s2 => if wI b1 = 0 then (mX12_isKept_B28 v0 v1 s2) else if wI (oAnd (oShr (s2 v0 21) v1) 1) = 1 then (some (1, s2)) else mX12_isKept_B28 v0 v1 s2
def mX12_part (v0 : Nat) (v1 : Int) (v2 : Int) (σ : mSt) : Option (Int × mSt) := mG (isC v0 11) <| mRef (σ v0 23) fun r1 => mG (ixOK r1 21 ((5 * v1) + v2)) <| some (σ r1 (wI ((5 * v1) + v2)).toNat, σ)
set_option maxRecDepth 100000 in
set_option maxHeartbeats 4000000 in
theorem wX12_cyclicLine_B82 (l : Launch) (E : mE) (out : Int × mSt) {p : Program} {e : Env} {s : State} {m : MethodId} {args : Array Value} {below : List Frame} {meth : Method} {c : Code} (G : CallFix p m c cX12_cyclicLine 3 s args mTs RX12) (hr : meth.sig.returnType = (some .boolean)) (hk : meth.locks = false) (v0 : Nat) (v1 : Int) (g0 : isC v0 11) : ∀ (t0 : Int) (σ : mSt) (H : Heap) (locs : List Loc) (ls : Array Slot), mX12_cyclicLine_B82 v0 v1 t0 σ = some out → mM (mA E 276) E 276 σ s H locs → lv_has ls 3 [(0, .ref (eA E v0)), (1, vI v1)] → mGo l p e 3 68 s m args below meth c E (some (vI out.1)) out.2 H locs (F0 m 82 ls [vI t0]) := by
  intro t0 σ H locs ls hm hM hl
  unfold mX12_cyclicLine_B82 at hm
  refine r_istore_n (np := 83) G hl rfl [(2, vI t0), (0, .ref (eA E v0)), (1, vI v1)] dX12_cyclicLine_82 rfl rfl (by decide) rfl (fun ls hl => ?_)
  refine r_aload_n (np := 84) G hl 1 rfl dX12_cyclicLine_83 rfl rfl ?_
  refine r_iload_n (np := 85) G hl 0 rfl dX12_cyclicLine_84 rfl rfl ?_
  refine r_iconst (np := 86) G 4 dX12_cyclicLine_85 rfl ?_
  obtain ⟨b1, s2, e3, hm⟩ := call_t hm
  refine m_callVI (np := 89) G hM hl.1 [vI t0, vI 4] (qX12_must l E σ v0 t0 4 _ e3) myX12_must (shp_lt (gX12_must e3) (by decide)) (gX12_must e3) rfl (by decide) lkX12_171 ⟨Nat.le_of_ble_eq_true rfl, Nat.le_of_ble_eq_true rfl⟩ ⟨Nat.le_of_ble_eq_true rfl, Nat.le_of_ble_eq_true rfl⟩ [] rfl (Nat.le_of_ble_eq_true rfl) dX12_cyclicLine_86 rfl (fun H locs hM => ?_)
  refine r_if_ne (np := 92) (tgt := 94) G rfl dX12_cyclicLine_89 (by decide) rfl (fun h4 => ?_) (fun h4 => ?_)
  · have hm := b_f h4 hm
    refine r_aload_n (np := 95) G hl 1 rfl dX12_cyclicLine_94 rfl rfl ?_
    obtain ⟨r5, e6, hm⟩ := ref_t hm
    refine r_getR (np := 98) G hM (shp_lt g0 (by decide)) g0 e6 fdX12_15 lkX12_24 dX12_cyclicLine_95 rfl ?_
    refine r_aload_n (np := 99) G hl 1 rfl dX12_cyclicLine_98 rfl rfl ?_
    refine r_iload_n (np := 100) G hl 2 rfl dX12_cyclicLine_99 rfl rfl ?_
    obtain ⟨b7, s8, e9, hm⟩ := call_t hm
    refine m_callVI (np := 103) G hM hl.1 [vI v1] (qX12_at l E s2 v0 v1 _ e9) myX12_at (shp_lt (gX12_at e9) (by decide)) (gX12_at e9) rfl (by decide) lkX12_161 ⟨Nat.le_of_ble_eq_true rfl, Nat.le_of_ble_eq_true rfl⟩ ⟨Nat.le_of_ble_eq_true rfl, Nat.le_of_ble_eq_true rfl⟩ [.ref (eA E r5)] rfl (Nat.le_of_ble_eq_true rfl) dX12_cyclicLine_100 rfl (fun H locs hM => ?_)
    refine r_aload_n (np := 104) G hl 1 rfl dX12_cyclicLine_103 rfl rfl ?_
    refine r_getI (np := 107) G hM (shp_lt g0 (by decide)) g0 fdX12_7 lkX12_102 dX12_cyclicLine_104 rfl ?_
    obtain ⟨g10, hm⟩ := g_t hm
    obtain ⟨s11, e12, hm⟩ := bnd_t hm
    refine r_iastore (np := 108) G hM g10 rfl s11 e12 dX12_cyclicLine_107 rfl (fun H locs hM => ?_)
    refine r_aload_n (np := 109) G hl 1 rfl dX12_cyclicLine_108 rfl rfl ?_
    obtain ⟨b13, s14, e15, hm⟩ := call_t hm
    refine m_callVV (np := 112) G hM hl.1 [] (qX12_steps l E s11 v0 _ e15) myX12_steps (shp_lt (gX12_steps e15) (by decide)) (gX12_steps e15) rfl (by decide) lkX12_168 ⟨Nat.le_of_ble_eq_true rfl, Nat.le_of_ble_eq_true rfl⟩ ⟨Nat.le_of_ble_eq_true rfl, Nat.le_of_ble_eq_true rfl⟩ [] rfl (Nat.le_of_ble_eq_true rfl) dX12_cyclicLine_109 rfl (fun H locs hM => ?_)
    refine r_aload_n (np := 113) G hl 1 rfl dX12_cyclicLine_112 rfl rfl ?_
    refine r_sipush (np := 116) G 999 dX12_cyclicLine_113 (by decide) rfl ?_
    obtain ⟨b16, s17, e18, hm⟩ := call_t hm
    refine m_callVI (np := 119) G hM hl.1 [vI 999] (qX12_takesWhole l E s14 v0 999 _ e18) myX12_takesWhole (shp_lt (gX12_takesWhole e18) (by decide)) (gX12_takesWhole e18) rfl (by decide) lkX12_181 ⟨Nat.le_of_ble_eq_true rfl, Nat.le_of_ble_eq_true rfl⟩ ⟨Nat.le_of_ble_eq_true rfl, Nat.le_of_ble_eq_true rfl⟩ [] rfl (Nat.le_of_ble_eq_true rfl) dX12_cyclicLine_116 rfl (fun H locs hM => ?_)
    refine r_if_ne (np := 122) (tgt := 124) G rfl dX12_cyclicLine_119 (by decide) rfl (fun h19 => ?_) (fun h19 => ?_)
    · have hm := b_f h19 hm
      refine r_aload_n (np := 125) G hl 1 rfl dX12_cyclicLine_124 rfl rfl ?_
      obtain ⟨r20, e21, hm⟩ := ref_t hm
      refine r_getR (np := 128) G hM (shp_lt g0 (by decide)) g0 e21 fdX12_16 lkX12_27 dX12_cyclicLine_125 rfl ?_
      refine r_aload_n (np := 129) G hl 1 rfl dX12_cyclicLine_128 rfl rfl ?_
      refine r_iload_n (np := 130) G hl 2 rfl dX12_cyclicLine_129 rfl rfl ?_
      obtain ⟨b22, s23, e24, hm⟩ := call_t hm
      refine m_callVI (np := 133) G hM hl.1 [vI v1] (qX12_at l E s17 v0 v1 _ e24) myX12_at (shp_lt (gX12_at e24) (by decide)) (gX12_at e24) rfl (by decide) lkX12_161 ⟨Nat.le_of_ble_eq_true rfl, Nat.le_of_ble_eq_true rfl⟩ ⟨Nat.le_of_ble_eq_true rfl, Nat.le_of_ble_eq_true rfl⟩ [.ref (eA E r20)] rfl (Nat.le_of_ble_eq_true rfl) dX12_cyclicLine_130 rfl (fun H locs hM => ?_)
      refine r_aload_n (np := 134) G hl 1 rfl dX12_cyclicLine_133 rfl rfl ?_
      refine r_getI (np := 137) G hM (shp_lt g0 (by decide)) g0 fdX12_19 lkX12_175 dX12_cyclicLine_134 rfl ?_
      obtain ⟨g25, hm⟩ := g_t hm
      obtain ⟨s26, e27, hm⟩ := bnd_t hm
      refine r_iastore (np := 138) G hM g25 rfl s26 e27 dX12_cyclicLine_137 rfl (fun H locs hM => ?_)
      refine r_aload_n (np := 139) G hl 1 rfl dX12_cyclicLine_138 rfl rfl ?_
      obtain ⟨b28, s29, e30, hm⟩ := call_t hm
      refine m_callVV (np := 142) G hM hl.1 [] (qX12_steps l E s26 v0 _ e30) myX12_steps (shp_lt (gX12_steps e30) (by decide)) (gX12_steps e30) rfl (by decide) lkX12_168 ⟨Nat.le_of_ble_eq_true rfl, Nat.le_of_ble_eq_true rfl⟩ ⟨Nat.le_of_ble_eq_true rfl, Nat.le_of_ble_eq_true rfl⟩ [] rfl (Nat.le_of_ble_eq_true rfl) dX12_cyclicLine_139 rfl (fun H locs hM => ?_)
      refine r_iconst (np := 143) G 1 dX12_cyclicLine_142 rfl ?_
      exact r_zret G hr hk hM (Or.inr rfl) hm dX12_cyclicLine_143
    · have hm := b_t h19 hm
      refine r_iconst (np := 123) G 0 dX12_cyclicLine_122 rfl ?_
      exact r_zret G hr hk hM (Or.inl rfl) hm dX12_cyclicLine_123
  · have hm := b_t h4 hm
    refine r_iconst (np := 93) G 0 dX12_cyclicLine_92 rfl ?_
    exact r_zret G hr hk hM (Or.inl rfl) hm dX12_cyclicLine_93
set_option maxRecDepth 100000 in
set_option maxHeartbeats 4000000 in
theorem wX12_cyclicLine_B77 (l : Launch) (E : mE) (out : Int × mSt) {p : Program} {e : Env} {s : State} {m : MethodId} {args : Array Value} {below : List Frame} {meth : Method} {c : Code} (G : CallFix p m c cX12_cyclicLine 3 s args mTs RX12) (hr : meth.sig.returnType = (some .boolean)) (hk : meth.locks = false) (v0 : Nat) (v1 : Int) (g0 : isC v0 11) : ∀ (σ : mSt) (H : Heap) (locs : List Loc) (ls : Array Slot), mX12_cyclicLine_B77 v0 v1 σ = some out → mM (mA E 276) E 276 σ s H locs → lv_has ls 3 [(0, .ref (eA E v0)), (1, vI v1)] → mGo l p e 3 68 s m args below meth c E (some (vI out.1)) out.2 H locs (F0 m 77 ls []) := by
  intro σ H locs ls hm hM hl
  unfold mX12_cyclicLine_B77 at hm
  refine r_iconst (np := 78) G 1 dX12_cyclicLine_77 rfl ?_
  refine r_goto (np := 82) G dX12_cyclicLine_78 (by decide) ?_
  exact wX12_cyclicLine_B82 l E out G hr hk v0 v1 g0 1 _ _ _ _ hm hM (lv_sub hl [0, 1] rfl)
set_option maxRecDepth 100000 in
set_option maxHeartbeats 4000000 in
theorem wX12_cyclicLine_B14 (l : Launch) (E : mE) (out : Int × mSt) {p : Program} {e : Env} {s : State} {m : MethodId} {args : Array Value} {below : List Frame} {meth : Method} {c : Code} (G : CallFix p m c cX12_cyclicLine 3 s args mTs RX12) (hr : meth.sig.returnType = (some .boolean)) (hk : meth.locks = false) (v0 : Nat) (v1 : Int) (g0 : isC v0 11) : ∀ (t0 : Nat) (t1 : Int) (σ : mSt) (H : Heap) (locs : List Loc) (ls : Array Slot), mX12_cyclicLine_B14 v0 v1 t0 t1 σ = some out → mM (mA E 276) E 276 σ s H locs → lv_has ls 3 [(0, .ref (eA E v0)), (1, vI v1)] → mGo l p e 3 68 s m args below meth c E (some (vI out.1)) out.2 H locs (F0 m 14 ls [vI t1, .ref (eA E t0)]) := by
  intro t0 t1 σ H locs ls hm hM hl
  unfold mX12_cyclicLine_B14 at hm
  refine r_iconst (np := 15) G 1 dX12_cyclicLine_14 rfl ?_
  obtain ⟨b31, s32, e33, hm⟩ := call_t hm
  refine m_callVI (np := 18) G hM hl.1 [vI t1, vI 1] (qX12_must l E σ t0 t1 1 _ e33) myX12_must (shp_lt (gX12_must e33) (by decide)) (gX12_must e33) rfl (by decide) lkX12_171 ⟨Nat.le_of_ble_eq_true rfl, Nat.le_of_ble_eq_true rfl⟩ ⟨Nat.le_of_ble_eq_true rfl, Nat.le_of_ble_eq_true rfl⟩ [] rfl (Nat.le_of_ble_eq_true rfl) dX12_cyclicLine_15 rfl (fun H locs hM => ?_)
  refine r_if_ne (np := 21) (tgt := 23) G rfl dX12_cyclicLine_18 (by decide) rfl (fun h34 => ?_) (fun h34 => ?_)
  · have hm := b_f h34 hm
    refine r_aload_n (np := 24) G hl 0 rfl dX12_cyclicLine_23 rfl rfl ?_
    refine r_getI (np := 27) G hM (shp_lt g0 (by decide)) g0 fdX12_7 lkX12_102 dX12_cyclicLine_24 rfl ?_
    refine r_bipush (np := 29) G 7 dX12_cyclicLine_27 (by decide) rfl ?_
    refine r_icmp_eq (np := 32) (tgt := 77) G rfl (wIk 7 rfl) dX12_cyclicLine_29 (by decide) rfl (fun h35 => ?_) (fun h35 => ?_)
    · have hm := b_t h35 hm
      exact wX12_cyclicLine_B77 l E out G hr hk v0 v1 g0 _ _ _ _ hm hM (lv_sub hl [0, 1] rfl)
    · have hm := b_f h35 hm
      refine r_aload_n (np := 33) G hl 0 rfl dX12_cyclicLine_32 rfl rfl ?_
      refine r_getI (np := 36) G hM (shp_lt g0 (by decide)) g0 fdX12_7 lkX12_102 dX12_cyclicLine_33 rfl ?_
      refine r_bipush (np := 38) G 13 dX12_cyclicLine_36 (by decide) rfl ?_
      refine r_icmp_eq (np := 41) (tgt := 77) G rfl (wIk 13 rfl) dX12_cyclicLine_38 (by decide) rfl (fun h36 => ?_) (fun h36 => ?_)
      · have hm := b_t h36 hm
        exact wX12_cyclicLine_B77 l E out G hr hk v0 v1 g0 _ _ _ _ hm hM (lv_sub hl [0, 1] rfl)
      · have hm := b_f h36 hm
        refine r_aload_n (np := 42) G hl 0 rfl dX12_cyclicLine_41 rfl rfl ?_
        refine r_getI (np := 45) G hM (shp_lt g0 (by decide)) g0 fdX12_7 lkX12_102 dX12_cyclicLine_42 rfl ?_
        refine r_bipush (np := 47) G 19 dX12_cyclicLine_45 (by decide) rfl ?_
        refine r_icmp_eq (np := 50) (tgt := 77) G rfl (wIk 19 rfl) dX12_cyclicLine_47 (by decide) rfl (fun h37 => ?_) (fun h37 => ?_)
        · have hm := b_t h37 hm
          exact wX12_cyclicLine_B77 l E out G hr hk v0 v1 g0 _ _ _ _ hm hM (lv_sub hl [0, 1] rfl)
        · have hm := b_f h37 hm
          refine r_aload_n (np := 51) G hl 0 rfl dX12_cyclicLine_50 rfl rfl ?_
          refine r_getI (np := 54) G hM (shp_lt g0 (by decide)) g0 fdX12_7 lkX12_102 dX12_cyclicLine_51 rfl ?_
          refine r_bipush (np := 56) G 31 dX12_cyclicLine_54 (by decide) rfl ?_
          refine r_icmp_eq (np := 59) (tgt := 77) G rfl (wIk 31 rfl) dX12_cyclicLine_56 (by decide) rfl (fun h38 => ?_) (fun h38 => ?_)
          · have hm := b_t h38 hm
            exact wX12_cyclicLine_B77 l E out G hr hk v0 v1 g0 _ _ _ _ hm hM (lv_sub hl [0, 1] rfl)
          · have hm := b_f h38 hm
            refine r_aload_n (np := 60) G hl 0 rfl dX12_cyclicLine_59 rfl rfl ?_
            refine r_getI (np := 63) G hM (shp_lt g0 (by decide)) g0 fdX12_7 lkX12_102 dX12_cyclicLine_60 rfl ?_
            refine r_bipush (np := 65) G 37 dX12_cyclicLine_63 (by decide) rfl ?_
            refine r_icmp_eq (np := 68) (tgt := 77) G rfl (wIk 37 rfl) dX12_cyclicLine_65 (by decide) rfl (fun h39 => ?_) (fun h39 => ?_)
            · have hm := b_t h39 hm
              exact wX12_cyclicLine_B77 l E out G hr hk v0 v1 g0 _ _ _ _ hm hM (lv_sub hl [0, 1] rfl)
            · have hm := b_f h39 hm
              refine r_aload_n (np := 69) G hl 0 rfl dX12_cyclicLine_68 rfl rfl ?_
              refine r_getI (np := 72) G hM (shp_lt g0 (by decide)) g0 fdX12_7 lkX12_102 dX12_cyclicLine_69 rfl ?_
              refine r_bipush (np := 74) G 43 dX12_cyclicLine_72 (by decide) rfl ?_
              refine r_icmp_ne (np := 77) (tgt := 81) G rfl (wIk 43 rfl) dX12_cyclicLine_74 (by decide) rfl (fun h40 => ?_) (fun h40 => ?_)
              · have hm := b_f h40 hm
                refine r_iconst (np := 82) G 0 dX12_cyclicLine_81 rfl ?_
                exact wX12_cyclicLine_B82 l E out G hr hk v0 v1 g0 0 _ _ _ _ hm hM (lv_sub hl [0, 1] rfl)
              · have hm := b_t h40 hm
                exact wX12_cyclicLine_B77 l E out G hr hk v0 v1 g0 _ _ _ _ hm hM (lv_sub hl [0, 1] rfl)
  · have hm := b_t h34 hm
    refine r_iconst (np := 22) G 0 dX12_cyclicLine_21 rfl ?_
    exact r_zret G hr hk hM (Or.inl rfl) hm dX12_cyclicLine_22
set_option maxRecDepth 100000 in
set_option maxHeartbeats 4000000 in
theorem qX12_cyclicLine (l : Launch) (E : mE) (σ : mSt) (v0 : Nat) (v1 : Int) (out : Int × mSt) (hm : mX12_cyclicLine v0 v1 σ = some out) : mMet l yX12_cyclicLine cX12_cyclicLine 3 (some .boolean) 3 68 E 276 [.ref (eA E v0), vI v1] σ (some (vI out.1)) out.2 := by
  unfold mX12_cyclicLine at hm
  obtain ⟨g0, hm⟩ := g_t hm
  refine m_entry (by decide +kernel) (Nat.le_of_ble_eq_true rfl) (fun p e s m args below meth c G hr hk hM ls hl => ?_)
  have G : CallFix p m c cX12_cyclicLine 3 s args mTs RX12 := G
  have hl : lv_has ls 3 [(0, .ref (eA E v0)), (1, vI v1)] := hl
  refine r_aload_n (np := 1) G hl 0 rfl dX12_cyclicLine_0 rfl rfl ?_
  refine r_aload_n (np := 2) G hl 0 rfl dX12_cyclicLine_1 rfl rfl ?_
  refine r_getI (np := 5) G hM (shp_lt g0 (by decide)) g0 fdX12_6 lkX12_99 dX12_cyclicLine_2 rfl ?_
  refine r_iconst (np := 6) G 2 dX12_cyclicLine_5 rfl ?_
  refine r_icmp_ne (np := 9) (tgt := 13) G rfl (wIk 2 rfl) dX12_cyclicLine_6 (by decide) rfl (fun h41 => ?_) (fun h41 => ?_)
  · have hm := b_f h41 hm
    refine r_iconst (np := 14) G 0 dX12_cyclicLine_13 rfl ?_
    exact wX12_cyclicLine_B14 l E out G hr hk v0 v1 g0 v0 0 _ _ _ _ hm hM (lv_sub hl [0, 1] rfl)
  · have hm := b_t h41 hm
    refine r_iconst (np := 10) G 1 dX12_cyclicLine_9 rfl ?_
    refine r_goto (np := 14) G dX12_cyclicLine_10 (by decide) ?_
    exact wX12_cyclicLine_B14 l E out G hr hk v0 v1 g0 v0 1 _ _ _ _ hm hM (lv_sub hl [0, 1] rfl)
theorem gX12_cyclicLine {v0 : Nat} {v1 : Int} {σ : mSt} {out : Int × mSt} (hm : mX12_cyclicLine v0 v1 σ = some out) : isC v0 11 := (g_t hm).1
set_option maxRecDepth 100000 in
set_option maxHeartbeats 4000000 in
theorem qX12_set (l : Launch) (E : mE) (σ : mSt) (v0 : Nat) (v1 : Int) (v2 : Int) (v3 : Int) (v4 : Int) (out : Int × mSt) (hm : mX12_set v0 v1 v2 v3 v4 σ = some out) : mMet l yX12_set cX12_set 6 none 0 0 E 276 [.ref (eA E v0), vI v1, vI v2, vI v3, vL v4] σ none out.2 := by
  unfold mX12_set at hm
  obtain ⟨g0, hm⟩ := g_t hm
  refine m_entry (by decide +kernel) (Nat.le_of_ble_eq_true rfl) (fun p e s m args below meth c G hr hk hM ls hl => ?_)
  have G : CallFix p m c cX12_set 6 s args mTs RX12 := G
  have hl : lv_has ls 6 [(0, .ref (eA E v0)), (1, vI v1), (2, vI v2), (3, vI v3), (4, vL v4)] := hl
  refine r_aload_n (np := 1) G hl 0 rfl dX12_set_0 rfl rfl ?_
  obtain ⟨r1, e2, hm⟩ := ref_t hm
  refine r_getR (np := 4) G hM (shp_lt g0 (by decide)) g0 e2 fdX12_29 lkX12_57 dX12_set_1 rfl ?_
  refine r_bipush (np := 6) G 16 dX12_set_4 (by decide) rfl ?_
  refine r_iload_n (np := 7) G hl 1 rfl dX12_set_6 rfl rfl ?_
  refine r_imul (np := 8) G dX12_set_7 rfl ?_
  refine r_iconst (np := 9) G 4 dX12_set_8 rfl ?_
  refine r_iload_n (np := 10) G hl 2 rfl dX12_set_9 rfl rfl ?_
  refine r_imul (np := 11) G dX12_set_10 rfl ?_
  refine r_iadd (np := 12) G dX12_set_11 rfl ?_
  refine r_iload_n (np := 13) G hl 3 rfl dX12_set_12 rfl rfl ?_
  refine r_iadd (np := 14) G dX12_set_13 rfl ?_
  refine r_lload (np := 16) G hl 4 rfl dX12_set_14 rfl ?_
  obtain ⟨g3, hm⟩ := g_t hm
  obtain ⟨s4, e5, hm⟩ := bnd_t hm
  refine r_lastore (np := 17) G hM g3 rfl s4 e5 dX12_set_16 rfl (fun H locs hM => ?_)
  exact r_vret G hr hk hM hm dX12_set_17
theorem gX12_set {v0 : Nat} {v1 : Int} {v2 : Int} {v3 : Int} {v4 : Int} {σ : mSt} {out : Int × mSt} (hm : mX12_set v0 v1 v2 v3 v4 σ = some out) : isC v0 11 := (g_t hm).1
set_option maxRecDepth 100000 in
set_option maxHeartbeats 4000000 in
theorem wX12_laysPlain_B43 (l : Launch) (E : mE) (out : Int × mSt) {p : Program} {e : Env} {s : State} {m : MethodId} {args : Array Value} {below : List Frame} {meth : Method} {c : Code} (G : CallFix p m c cX12_laysPlain 4 s args mTs RX12) (hr : meth.sig.returnType = none) (hk : meth.locks = false) (v0 : Nat) (v1 : Int) (g0 : isC v0 11) : ∀ (σ : mSt) (H : Heap) (locs : List Loc) (ls : Array Slot), mX12_laysPlain_B43 v0 v1 σ = some out → mM (mA E 276) E 276 σ s H locs → lv_has ls 4 [(0, .ref (eA E v0)), (1, vI v1)] → mGo l p e 1 25 s m args below meth c E none out.2 H locs (F0 m 43 ls []) := by
  intro σ H locs ls hm hM hl
  unfold mX12_laysPlain_B43 at hm
  refine r_aload_n (np := 44) G hl 0 rfl dX12_laysPlain_43 rfl rfl ?_
  obtain ⟨r1, e2, hm⟩ := ref_t hm
  refine r_getR (np := 47) G hM (shp_lt g0 (by decide)) g0 e2 fdX12_30 lkX12_60 dX12_laysPlain_44 rfl ?_
  refine r_iload_n (np := 48) G hl 1 rfl dX12_laysPlain_47 rfl rfl ?_
  refine r_lconst (np := 49) G 1 dX12_laysPlain_48 rfl rfl ?_
  obtain ⟨g3, hm⟩ := g_t hm
  obtain ⟨s4, e5, hm⟩ := bnd_t hm
  refine r_lastore (np := 50) G hM g3 rfl s4 e5 dX12_laysPlain_49 rfl (fun H locs hM => ?_)
  refine r_aload_n (np := 51) G hl 0 rfl dX12_laysPlain_50 rfl rfl ?_
  obtain ⟨r6, e7, hm⟩ := ref_t hm
  refine r_getR (np := 54) G hM (shp_lt g0 (by decide)) g0 e7 fdX12_31 lkX12_63 dX12_laysPlain_51 rfl ?_
  refine r_iload_n (np := 55) G hl 1 rfl dX12_laysPlain_54 rfl rfl ?_
  refine r_lconst (np := 56) G 1 dX12_laysPlain_55 rfl rfl ?_
  obtain ⟨g8, hm⟩ := g_t hm
  obtain ⟨s9, e10, hm⟩ := bnd_t hm
  refine r_lastore (np := 57) G hM g8 rfl s9 e10 dX12_laysPlain_56 rfl (fun H locs hM => ?_)
  exact r_vret G hr hk hM hm dX12_laysPlain_57
set_option maxRecDepth 100000 in
set_option maxHeartbeats 4000000 in
theorem wX12_laysPlain_B37 (l : Launch) (E : mE) (out : Int × mSt) {p : Program} {e : Env} {s : State} {m : MethodId} {args : Array Value} {below : List Frame} {meth : Method} {c : Code} (G : CallFix p m c cX12_laysPlain 4 s args mTs RX12) (hr : meth.sig.returnType = none) (hk : meth.locks = false) (v0 : Nat) (v1 : Int) (g0 : isC v0 11) (c2 : Int → mSt → Option (Int × mSt)) (x43 : mSt → Option (Int × mSt)) (hc2 : ∀ (v2 : Int) (σ : mSt) (H : Heap) (locs : List Loc) (ls : Array Slot), c2 v2 σ = some out → mM (mA E 276) E 276 σ s H locs → lv_has ls 4 [(0, .ref (eA E v0)), (1, vI v1), (2, vI v2)] → mGo l p e 1 25 s m args below meth c E none out.2 H locs (F0 m 2 ls [])) (hx43 : ∀ (σ : mSt) (H : Heap) (locs : List Loc) (ls : Array Slot), x43 σ = some out → mM (mA E 276) E 276 σ s H locs → lv_has ls 4 [(0, .ref (eA E v0)), (1, vI v1)] → mGo l p e 1 25 s m args below meth c E none out.2 H locs (F0 m 43 ls [])) : ∀ (v2 : Int) (σ : mSt) (H : Heap) (locs : List Loc) (ls : Array Slot), mX12_laysPlain_B37 v0 v1 c2 x43 v2 σ = some out → mM (mA E 276) E 276 σ s H locs → lv_has ls 4 [(0, .ref (eA E v0)), (1, vI v1), (2, vI v2)] → mGo l p e 1 25 s m args below meth c E none out.2 H locs (F0 m 37 ls []) := by
  intro v2 σ H locs ls hm hM hl
  unfold mX12_laysPlain_B37 at hm
  obtain ⟨a11, e12, hm⟩ := bnd_t hm
  refine r_iinc (np := 40) G hl 2 rfl e12 [(2, vI a11), (0, .ref (eA E v0)), (1, vI v1)] dX12_laysPlain_37 rfl (by decide) rfl (fun ls hl => ?_)
  refine r_goto (np := 2) G dX12_laysPlain_40 (by decide) ?_
  exact hc2 a11 _ _ _ _ hm hM (lv_sub hl [1, 2, 0] rfl)
set_option maxRecDepth 100000 in
set_option maxHeartbeats 4000000 in
theorem wX12_laysPlain_B28 (l : Launch) (E : mE) (out : Int × mSt) {p : Program} {e : Env} {s : State} {m : MethodId} {args : Array Value} {below : List Frame} {meth : Method} {c : Code} (G : CallFix p m c cX12_laysPlain 4 s args mTs RX12) (hr : meth.sig.returnType = none) (hk : meth.locks = false) (v0 : Nat) (v1 : Int) (v2 : Int) (g0 : isC v0 11) (c9 : Int → mSt → Option (Int × mSt)) (x37 : mSt → Option (Int × mSt)) (hc9 : ∀ (v3 : Int) (σ : mSt) (H : Heap) (locs : List Loc) (ls : Array Slot), c9 v3 σ = some out → mM (mA E 276) E 276 σ s H locs → lv_has ls 4 [(0, .ref (eA E v0)), (1, vI v1), (2, vI v2), (3, vI v3)] → mGo l p e 1 25 s m args below meth c E none out.2 H locs (F0 m 9 ls [])) (hx37 : ∀ (σ : mSt) (H : Heap) (locs : List Loc) (ls : Array Slot), x37 σ = some out → mM (mA E 276) E 276 σ s H locs → lv_has ls 4 [(0, .ref (eA E v0)), (1, vI v1), (2, vI v2)] → mGo l p e 1 25 s m args below meth c E none out.2 H locs (F0 m 37 ls [])) : ∀ (v3 : Int) (t0 : Nat) (t1 : Int) (t2 : Int) (t3 : Int) (t4 : Int) (σ : mSt) (H : Heap) (locs : List Loc) (ls : Array Slot), mX12_laysPlain_B28 v0 v1 v2 c9 x37 v3 t0 t1 t2 t3 t4 σ = some out → mM (mA E 276) E 276 σ s H locs → lv_has ls 4 [(0, .ref (eA E v0)), (1, vI v1), (2, vI v2), (3, vI v3)] → mGo l p e 1 25 s m args below meth c E none out.2 H locs (F0 m 28 ls [vL t4, vI t3, vI t2, vI t1, .ref (eA E t0)]) := by
  intro v3 t0 t1 t2 t3 t4 σ H locs ls hm hM hl
  unfold mX12_laysPlain_B28 at hm
  obtain ⟨b13, s14, e15, hm⟩ := call_t hm
  refine m_callVV (np := 31) G hM hl.1 [vI t1, vI t2, vI t3, vL t4] (qX12_set l E σ t0 t1 t2 t3 t4 _ e15) myX12_set (shp_lt (gX12_set e15) (by decide)) (gX12_set e15) rfl (by decide) lkX12_348 ⟨Nat.le_of_ble_eq_true rfl, Nat.le_of_ble_eq_true rfl⟩ ⟨Nat.le_of_ble_eq_true rfl, Nat.le_of_ble_eq_true rfl⟩ [] rfl (Nat.le_of_ble_eq_true rfl) dX12_laysPlain_28 rfl (fun H locs hM => ?_)
  obtain ⟨a16, e17, hm⟩ := bnd_t hm
  refine r_iinc (np := 34) G hl 3 rfl e17 [(3, vI a16), (0, .ref (eA E v0)), (1, vI v1), (2, vI v2)] dX12_laysPlain_31 rfl (by decide) rfl (fun ls hl => ?_)
  refine r_goto (np := 9) G dX12_laysPlain_34 (by decide) ?_
  exact hc9 a16 _ _ _ _ hm hM (lv_sub hl [1, 2, 3, 0] rfl)
set_option maxRecDepth 100000 in
set_option maxHeartbeats 4000000 in
theorem wX12_laysPlain_L9 (l : Launch) (E : mE) (out : Int × mSt) {p : Program} {e : Env} {s : State} {m : MethodId} {args : Array Value} {below : List Frame} {meth : Method} {c : Code} (G : CallFix p m c cX12_laysPlain 4 s args mTs RX12) (hr : meth.sig.returnType = none) (hk : meth.locks = false) (v0 : Nat) (v1 : Int) (v2 : Int) (g0 : isC v0 11) (x37 : mSt → Option (Int × mSt)) (hx37 : ∀ (σ : mSt) (H : Heap) (locs : List Loc) (ls : Array Slot), x37 σ = some out → mM (mA E 276) E 276 σ s H locs → lv_has ls 4 [(0, .ref (eA E v0)), (1, vI v1), (2, vI v2)] → mGo l p e 1 25 s m args below meth c E none out.2 H locs (F0 m 37 ls [])) : ∀ (n : Nat) (v3 : Int) (σ : mSt) (H : Heap) (locs : List Loc) (ls : Array Slot), mX12_laysPlain_L9 v0 v1 v2 x37 n v3 σ = some out → mM (mA E 276) E 276 σ s H locs → lv_has ls 4 [(0, .ref (eA E v0)), (1, vI v1), (2, vI v2), (3, vI v3)] → mGo l p e 1 25 s m args below meth c E none out.2 H locs (F0 m 9 ls []) := by
  intro n
  induction n with
  | zero =>
    intro v3 σ H locs ls hm hM hl
    exact absurd hm (by rw [mX12_laysPlain_L9.eq_1]; exact fun h => nomatch h)
  | succ n ih =>
    intro v3 σ H locs ls hm hM hl
    rw [mX12_laysPlain_L9.eq_2] at hm
    refine r_iload_n (np := 10) G hl 3 rfl dX12_laysPlain_9 rfl rfl ?_
    refine r_iconst (np := 11) G 4 dX12_laysPlain_10 rfl ?_
    refine r_icmp_ge (np := 14) (tgt := 37) G rfl (wIk 4 rfl) dX12_laysPlain_11 (by decide) rfl (fun h18 => ?_) (fun h18 => ?_)
    · have hm := b_t h18 hm
      exact hx37 _ _ _ _ hm hM (lv_sub hl [0, 1, 2] rfl)
    · have hm := b_f h18 hm
      refine r_aload_n (np := 15) G hl 0 rfl dX12_laysPlain_14 rfl rfl ?_
      refine r_iload_n (np := 16) G hl 1 rfl dX12_laysPlain_15 rfl rfl ?_
      refine r_iload_n (np := 17) G hl 2 rfl dX12_laysPlain_16 rfl rfl ?_
      refine r_iload_n (np := 18) G hl 3 rfl dX12_laysPlain_17 rfl rfl ?_
      refine r_iload_n (np := 19) G hl 2 rfl dX12_laysPlain_18 rfl rfl ?_
      refine r_iload_n (np := 20) G hl 3 rfl dX12_laysPlain_19 rfl rfl ?_
      refine r_icmp_ne (np := 23) (tgt := 27) G rfl rfl dX12_laysPlain_20 (by decide) rfl (fun h19 => ?_) (fun h19 => ?_)
      · have hm := b_f h19 hm
        refine r_lconst (np := 28) G 0 dX12_laysPlain_27 rfl rfl ?_
        exact wX12_laysPlain_B28 l E out G hr hk v0 v1 v2 g0 (mX12_laysPlain_L9 v0 v1 v2 x37 n) x37 ih hx37 v3 v0 v1 v2 v3 0 _ _ _ _ hm hM (lv_sub hl [0, 1, 2, 3] rfl)
      · have hm := b_t h19 hm
        refine r_lconst (np := 24) G 1 dX12_laysPlain_23 rfl rfl ?_
        refine r_goto (np := 28) G dX12_laysPlain_24 (by decide) ?_
        exact wX12_laysPlain_B28 l E out G hr hk v0 v1 v2 g0 (mX12_laysPlain_L9 v0 v1 v2 x37 n) x37 ih hx37 v3 v0 v1 v2 v3 1 _ _ _ _ hm hM (lv_sub hl [0, 1, 2, 3] rfl)
set_option maxRecDepth 100000 in
set_option maxHeartbeats 4000000 in
theorem wX12_laysPlain_L2 (l : Launch) (E : mE) (out : Int × mSt) {p : Program} {e : Env} {s : State} {m : MethodId} {args : Array Value} {below : List Frame} {meth : Method} {c : Code} (G : CallFix p m c cX12_laysPlain 4 s args mTs RX12) (hr : meth.sig.returnType = none) (hk : meth.locks = false) (v0 : Nat) (v1 : Int) (g0 : isC v0 11) (x43 : mSt → Option (Int × mSt)) (hx43 : ∀ (σ : mSt) (H : Heap) (locs : List Loc) (ls : Array Slot), x43 σ = some out → mM (mA E 276) E 276 σ s H locs → lv_has ls 4 [(0, .ref (eA E v0)), (1, vI v1)] → mGo l p e 1 25 s m args below meth c E none out.2 H locs (F0 m 43 ls [])) : ∀ (n : Nat) (v2 : Int) (σ : mSt) (H : Heap) (locs : List Loc) (ls : Array Slot), mX12_laysPlain_L2 v0 v1 x43 n v2 σ = some out → mM (mA E 276) E 276 σ s H locs → lv_has ls 4 [(0, .ref (eA E v0)), (1, vI v1), (2, vI v2)] → mGo l p e 1 25 s m args below meth c E none out.2 H locs (F0 m 2 ls []) := by
  intro n
  induction n with
  | zero =>
    intro v2 σ H locs ls hm hM hl
    exact absurd hm (by rw [mX12_laysPlain_L2.eq_1]; exact fun h => nomatch h)
  | succ n ih =>
    intro v2 σ H locs ls hm hM hl
    rw [mX12_laysPlain_L2.eq_2] at hm
    refine r_iload_n (np := 3) G hl 2 rfl dX12_laysPlain_2 rfl rfl ?_
    refine r_iconst (np := 4) G 4 dX12_laysPlain_3 rfl ?_
    refine r_icmp_ge (np := 7) (tgt := 43) G rfl (wIk 4 rfl) dX12_laysPlain_4 (by decide) rfl (fun h20 => ?_) (fun h20 => ?_)
    · have hm := b_t h20 hm
      exact hx43 _ _ _ _ hm hM (lv_sub hl [0, 1] rfl)
    · have hm := b_f h20 hm
      refine r_iconst (np := 8) G 0 dX12_laysPlain_7 rfl ?_
      refine r_istore_n (np := 9) G hl rfl [(3, vI 0), (0, .ref (eA E v0)), (1, vI v1), (2, vI v2)] dX12_laysPlain_8 rfl rfl (by decide) rfl (fun ls hl => ?_)
      exact wX12_laysPlain_L9 l E out G hr hk v0 v1 v2 g0 (fun zσ => mX12_laysPlain_B37 v0 v1 (mX12_laysPlain_L2 v0 v1 x43 n) x43 v2 zσ) (fun zσ zH zl zs zm zM zv => wX12_laysPlain_B37 l E out G hr hk v0 v1 g0 (mX12_laysPlain_L2 v0 v1 x43 n) x43 ih hx43 v2 zσ zH zl zs zm zM zv) mF 0 _ _ _ _ hm hM (lv_sub hl [1, 2, 3, 0] rfl)
set_option maxRecDepth 100000 in
set_option maxHeartbeats 4000000 in
theorem qX12_laysPlain (l : Launch) (E : mE) (σ : mSt) (v0 : Nat) (v1 : Int) (out : Int × mSt) (hm : mX12_laysPlain v0 v1 σ = some out) : mMet l yX12_laysPlain cX12_laysPlain 4 none 1 25 E 276 [.ref (eA E v0), vI v1] σ none out.2 := by
  unfold mX12_laysPlain at hm
  obtain ⟨g0, hm⟩ := g_t hm
  refine m_entry (by decide +kernel) (Nat.le_of_ble_eq_true rfl) (fun p e s m args below meth c G hr hk hM ls hl => ?_)
  have G : CallFix p m c cX12_laysPlain 4 s args mTs RX12 := G
  have hl : lv_has ls 4 [(0, .ref (eA E v0)), (1, vI v1)] := hl
  refine r_iconst (np := 1) G 0 dX12_laysPlain_0 rfl ?_
  refine r_istore_n (np := 2) G hl rfl [(2, vI 0), (0, .ref (eA E v0)), (1, vI v1)] dX12_laysPlain_1 rfl rfl (by decide) rfl (fun ls hl => ?_)
  exact wX12_laysPlain_L2 l E out G hr hk v0 v1 g0 (fun zσ => mX12_laysPlain_B43 v0 v1 zσ) (fun zσ zH zl zs zm zM zv => wX12_laysPlain_B43 l E out G hr hk v0 v1 g0 zσ zH zl zs zm zM zv) mF 0 _ _ _ _ hm hM (lv_sub hl [1, 2, 0] rfl)
theorem gX12_laysPlain {v0 : Nat} {v1 : Int} {σ : mSt} {out : Int × mSt} (hm : mX12_laysPlain v0 v1 σ = some out) : isC v0 11 := (g_t hm).1
set_option maxRecDepth 100000 in
set_option maxHeartbeats 4000000 in
theorem qX12_isAlgebra (l : Launch) (E : mE) (σ : mSt) (v0 : Nat) (v1 : Int) (out : Int × mSt) (hm : mX12_isAlgebra v0 v1 σ = some out) : mMet l yX12_isAlgebra cX12_isAlgebra 2 (some .boolean) 1 25 E 276 [.ref (eA E v0), vI v1] σ (some (vI out.1)) out.2 := by
  unfold mX12_isAlgebra at hm
  obtain ⟨g0, hm⟩ := g_t hm
  refine m_entry (by decide +kernel) (Nat.le_of_ble_eq_true rfl) (fun p e s m args below meth c G hr hk hM ls hl => ?_)
  have G : CallFix p m c cX12_isAlgebra 2 s args mTs RX12 := G
  have hl : lv_has ls 2 [(0, .ref (eA E v0)), (1, vI v1)] := hl
  refine r_iload_n (np := 1) G hl 1 rfl dX12_isAlgebra_0 rfl rfl ?_
  refine r_i2l (np := 2) G rfl dX12_isAlgebra_1 rfl ?_
  refine r_lconst (np := 3) G 0 dX12_isAlgebra_2 rfl rfl ?_
  refine r_aload_n (np := 4) G hl 0 rfl dX12_isAlgebra_3 rfl rfl ?_
  obtain ⟨r1, e2, hm⟩ := ref_t hm
  refine r_getR (np := 7) G hM (shp_lt g0 (by decide)) g0 e2 fdX12_12 lkX12_13 dX12_isAlgebra_4 rfl ?_
  refine r_iconst (np := 8) G 0 dX12_isAlgebra_7 rfl ?_
  obtain ⟨g3, hm⟩ := g_t hm
  refine r_iaload (np := 9) G hM g3 rfl dX12_isAlgebra_8 rfl ?_
  refine r_iconst (np := 10) G 1 dX12_isAlgebra_9 rfl ?_
  refine r_isub (np := 11) G dX12_isAlgebra_10 rfl ?_
  refine r_i2l (np := 12) G rfl dX12_isAlgebra_11 rfl ?_
  obtain ⟨b4, s5, e6, hm⟩ := call_t hm
  refine m_callSI (np := 15) G hM hl.1 [vL (wI v1), vL 0, vL (wI ((σ r1 0) - 1))] (qX12_within l E σ (wI v1) 0 (wI ((σ r1 0) - 1)) _ e6) myX12_within lkX12_113 ⟨Nat.le_of_ble_eq_true rfl, Nat.le_of_ble_eq_true rfl⟩ ⟨Nat.le_of_ble_eq_true rfl, Nat.le_of_ble_eq_true rfl⟩ [] rfl (Nat.le_of_ble_eq_true rfl) dX12_isAlgebra_12 rfl (fun H locs hM => ?_)
  obtain ⟨g7, hm⟩ := g_t hm
  exact r_zret G hr hk hM g7 hm dX12_isAlgebra_15
theorem gX12_isAlgebra {v0 : Nat} {v1 : Int} {σ : mSt} {out : Int × mSt} (hm : mX12_isAlgebra v0 v1 σ = some out) : isC v0 11 := (g_t hm).1
set_option maxRecDepth 100000 in
set_option maxHeartbeats 4000000 in
theorem wX12_isQuaternion_B21 (l : Launch) (E : mE) (out : Int × mSt) {p : Program} {e : Env} {s : State} {m : MethodId} {args : Array Value} {below : List Frame} {meth : Method} {c : Code} (G : CallFix p m c cX12_isQuaternion 2 s args mTs RX12) (hr : meth.sig.returnType = (some .boolean)) (hk : meth.locks = false) (v0 : Nat) (v1 : Int) (g0 : isC v0 11) : ∀ (σ : mSt) (H : Heap) (locs : List Loc) (ls : Array Slot), mX12_isQuaternion_B21 v0 v1 σ = some out → mM (mA E 276) E 276 σ s H locs → lv_has ls 2 [] → mGo l p e 2 46 s m args below meth c E (some (vI out.1)) out.2 H locs (F0 m 21 ls []) := by
  intro σ H locs ls hm hM hl
  unfold mX12_isQuaternion_B21 at hm
  refine r_iconst (np := 22) G 0 dX12_isQuaternion_21 rfl ?_
  exact r_zret G hr hk hM (Or.inl rfl) hm dX12_isQuaternion_22
set_option maxRecDepth 100000 in
set_option maxHeartbeats 4000000 in
theorem qX12_isQuaternion (l : Launch) (E : mE) (σ : mSt) (v0 : Nat) (v1 : Int) (out : Int × mSt) (hm : mX12_isQuaternion v0 v1 σ = some out) : mMet l yX12_isQuaternion cX12_isQuaternion 2 (some .boolean) 2 46 E 276 [.ref (eA E v0), vI v1] σ (some (vI out.1)) out.2 := by
  unfold mX12_isQuaternion at hm
  obtain ⟨g0, hm⟩ := g_t hm
  refine m_entry (by decide +kernel) (Nat.le_of_ble_eq_true rfl) (fun p e s m args below meth c G hr hk hM ls hl => ?_)
  have G : CallFix p m c cX12_isQuaternion 2 s args mTs RX12 := G
  have hl : lv_has ls 2 [(0, .ref (eA E v0)), (1, vI v1)] := hl
  refine r_aload_n (np := 1) G hl 0 rfl dX12_isQuaternion_0 rfl rfl ?_
  refine r_iload_n (np := 2) G hl 1 rfl dX12_isQuaternion_1 rfl rfl ?_
  obtain ⟨b1, s2, e3, hm⟩ := call_t hm
  refine m_callVI (np := 5) G hM hl.1 [vI v1] (qX12_isAlgebra l E σ v0 v1 _ e3) myX12_isAlgebra (shp_lt (gX12_isAlgebra e3) (by decide)) (gX12_isAlgebra e3) rfl (by decide) lkX12_219 ⟨Nat.le_of_ble_eq_true rfl, Nat.le_of_ble_eq_true rfl⟩ ⟨Nat.le_of_ble_eq_true rfl, Nat.le_of_ble_eq_true rfl⟩ [] rfl (Nat.le_of_ble_eq_true rfl) dX12_isQuaternion_2 rfl (fun H locs hM => ?_)
  refine r_if_eq (np := 8) (tgt := 21) G rfl dX12_isQuaternion_5 (by decide) rfl (fun h4 => ?_) (fun h4 => ?_)
  · have hm := b_t h4 hm
    exact wX12_isQuaternion_B21 l E out G hr hk v0 v1 g0 _ _ _ _ hm hM (lv_sub hl [] rfl)
  · have hm := b_f h4 hm
    refine r_aload_n (np := 9) G hl 0 rfl dX12_isQuaternion_8 rfl rfl ?_
    obtain ⟨r5, e6, hm⟩ := ref_t hm
    refine r_getR (np := 12) G hM (shp_lt g0 (by decide)) g0 e6 fdX12_14 lkX12_21 dX12_isQuaternion_9 rfl ?_
    refine r_iload_n (np := 13) G hl 1 rfl dX12_isQuaternion_12 rfl rfl ?_
    obtain ⟨g7, hm⟩ := g_t hm
    refine r_iaload (np := 14) G hM g7 rfl dX12_isQuaternion_13 rfl ?_
    refine r_if_ne (np := 17) (tgt := 21) G rfl dX12_isQuaternion_14 (by decide) rfl (fun h8 => ?_) (fun h8 => ?_)
    · have hm := b_f h8 hm
      exact wX12_isQuaternion_B21 l E out G hr hk v0 v1 g0 _ _ _ _ hm hM (lv_sub hl [] rfl)
    · have hm := b_t h8 hm
      refine r_iconst (np := 18) G 1 dX12_isQuaternion_17 rfl ?_
      refine r_goto (np := 22) G dX12_isQuaternion_18 (by decide) ?_
      exact r_zret G hr hk hM (Or.inr rfl) hm dX12_isQuaternion_22
theorem gX12_isQuaternion {v0 : Nat} {v1 : Int} {σ : mSt} {out : Int × mSt} (hm : mX12_isQuaternion v0 v1 σ = some out) : isC v0 11 := (g_t hm).1
set_option maxRecDepth 100000 in
set_option maxHeartbeats 4000000 in
theorem wX12_firstLetter_B17 (l : Launch) (E : mE) (out : Int × mSt) {p : Program} {e : Env} {s : State} {m : MethodId} {args : Array Value} {below : List Frame} {meth : Method} {c : Code} (G : CallFix p m c cX12_firstLetter 4 s args mTs RX12) (hr : meth.sig.returnType = (some .int)) (hk : meth.locks = false) (v0 : Int) : ∀ (v2 : Int) (σ : mSt) (H : Heap) (locs : List Loc) (ls : Array Slot), mX12_firstLetter_B17 v0 v2 σ = some out → mM (mA E 276) E 276 σ s H locs → lv_has ls 4 [(2, vL v2)] → mGo l p e 0 0 s m args below meth c E (some (vI out.1)) out.2 H locs (F0 m 17 ls []) := by
  intro v2 σ H locs ls hm hM hl
  unfold mX12_firstLetter_B17 at hm
  refine r_lload_n (np := 18) G hl 0 rfl dX12_firstLetter_17 rfl rfl ?_
  refine r_l2i (np := 19) G dX12_firstLetter_18 rfl ?_
  refine r_iconst (np := 20) G 1 dX12_firstLetter_19 rfl ?_
  refine r_isub (np := 21) G dX12_firstLetter_20 rfl ?_
  exact r_iret G hr hk hM hm dX12_firstLetter_21
set_option maxRecDepth 100000 in
set_option maxHeartbeats 4000000 in
theorem wX12_firstLetter_L2 (l : Launch) (E : mE) (out : Int × mSt) {p : Program} {e : Env} {s : State} {m : MethodId} {args : Array Value} {below : List Frame} {meth : Method} {c : Code} (G : CallFix p m c cX12_firstLetter 4 s args mTs RX12) (hr : meth.sig.returnType = (some .int)) (hk : meth.locks = false) (v0 : Int) (x17 : Int → mSt → Option (Int × mSt)) (hx17 : ∀ (v2 : Int) (σ : mSt) (H : Heap) (locs : List Loc) (ls : Array Slot), x17 v2 σ = some out → mM (mA E 276) E 276 σ s H locs → lv_has ls 4 [(2, vL v2)] → mGo l p e 0 0 s m args below meth c E (some (vI out.1)) out.2 H locs (F0 m 17 ls [])) : ∀ (n : Nat) (v2 : Int) (σ : mSt) (H : Heap) (locs : List Loc) (ls : Array Slot), mX12_firstLetter_L2 v0 x17 n v2 σ = some out → mM (mA E 276) E 276 σ s H locs → lv_has ls 4 [(2, vL v2)] → mGo l p e 0 0 s m args below meth c E (some (vI out.1)) out.2 H locs (F0 m 2 ls []) := by
  intro n
  induction n with
  | zero =>
    intro v2 σ H locs ls hm hM hl
    exact absurd hm (by rw [mX12_firstLetter_L2.eq_1]; exact fun h => nomatch h)
  | succ n ih =>
    intro v2 σ H locs ls hm hM hl
    rw [mX12_firstLetter_L2.eq_2] at hm
    refine r_lload_n (np := 3) G hl 0 rfl dX12_firstLetter_2 rfl rfl ?_
    refine r_ldc2 (np := 6) G 32 dX12_firstLetter_3 lkX12_222 rfl rfl ?_
    refine r_lcmp_lt (np := 10) (tgt := 17) G rfl (wLk 32 rfl) dX12_firstLetter_6 dX12_firstLetter_7 (by decide) rfl (fun h1 => ?_) (fun h1 => ?_)
    · have hm := b_t h1 hm
      exact hx17 v2 _ _ _ _ hm hM (lv_sub hl [0] rfl)
    · have hm := b_f h1 hm
      refine r_lload_n (np := 11) G hl 0 rfl dX12_firstLetter_10 rfl rfl ?_
      refine r_iconst (np := 12) G 5 dX12_firstLetter_11 rfl ?_
      refine r_lshr (np := 13) G dX12_firstLetter_12 rfl ?_
      obtain ⟨a2, e3, hm⟩ := bnd_t hm
      refine r_lstore_n (np := 14) G hl e3 [(2, vL a2)] dX12_firstLetter_13 rfl rfl (by decide) rfl (fun ls hl => ?_)
      refine r_goto (np := 2) G dX12_firstLetter_14 (by decide) ?_
      exact ih a2 _ _ _ _ hm hM (lv_sub hl [0] rfl)
set_option maxRecDepth 100000 in
set_option maxHeartbeats 4000000 in
theorem qX12_firstLetter (l : Launch) (E : mE) (σ : mSt) (v0 : Int) (out : Int × mSt) (hm : mX12_firstLetter v0 σ = some out) : mMet l yX12_firstLetter cX12_firstLetter 4 (some .int) 0 0 E 276 [vL v0] σ (some (vI out.1)) out.2 := by
  unfold mX12_firstLetter at hm
  refine m_entry (by decide +kernel) (Nat.le_of_ble_eq_true rfl) (fun p e s m args below meth c G hr hk hM ls hl => ?_)
  have G : CallFix p m c cX12_firstLetter 4 s args mTs RX12 := G
  have hl : lv_has ls 4 [(0, vL v0)] := hl
  refine r_lload_n (np := 1) G hl 0 rfl dX12_firstLetter_0 rfl rfl ?_
  refine r_lstore_n (np := 2) G hl rfl [(2, vL v0), (0, vL v0)] dX12_firstLetter_1 rfl rfl (by decide) rfl (fun ls hl => ?_)
  exact wX12_firstLetter_L2 l E out G hr hk v0 (fun z2 zσ => mX12_firstLetter_B17 v0 z2 zσ) (fun z2 zσ zH zl zs zm zM zv => wX12_firstLetter_B17 l E out G hr hk v0 z2 zσ zH zl zs zm zM zv) mF v0 _ _ _ _ hm hM (lv_sub hl [0] rfl)
set_option maxRecDepth 100000 in
set_option maxHeartbeats 4000000 in
theorem wX12_algebra_B26 (l : Launch) (E : mE) (out : Int × mSt) {p : Program} {e : Env} {s : State} {m : MethodId} {args : Array Value} {below : List Frame} {meth : Method} {c : Code} (G : CallFix p m c cX12_algebra 3 s args mTs RX12) (hr : meth.sig.returnType = (some .int)) (hk : meth.locks = false) (v0 : Nat) (v1 : Int) (v2 : Int) (g0 : isC v0 11) : ∀ (t0 : Nat) (t1 : Int) (σ : mSt) (H : Heap) (locs : List Loc) (ls : Array Slot), mX12_algebra_B26 v0 v1 v2 t0 t1 σ = some out → mM (mA E 276) E 276 σ s H locs → lv_has ls 3 [(0, .ref (eA E v0)), (1, vI v1), (2, vI v2)] → mGo l p e 2 46 s m args below meth c E (some (vI out.1)) out.2 H locs (F0 m 26 ls [vI t1, .ref (eA E t0)]) := by
  intro t0 t1 σ H locs ls hm hM hl
  unfold mX12_algebra_B26 at hm
  obtain ⟨g1, hm⟩ := g_t hm
  obtain ⟨s2, e3, hm⟩ := bnd_t hm
  refine r_putI (np := 29) G hM (shp_lt g1 (by decide)) g1 ptX12_0 rfl lkX12_75 s2 e3 dX12_algebra_26 rfl (fun H locs hM => ?_)
  refine r_aload_n (np := 30) G hl 0 rfl dX12_algebra_29 rfl rfl ?_
  refine r_getI (np := 33) G hM (shp_lt g0 (by decide)) g0 fdX12_0 lkX12_75 dX12_algebra_30 rfl ?_
  refine r_iconst (np := 34) G 1 dX12_algebra_33 rfl ?_
  refine r_icmp_ne (np := 37) (tgt := 39) G rfl (wIk 1 rfl) dX12_algebra_34 (by decide) rfl (fun h4 => ?_) (fun h4 => ?_)
  · have hm := b_f h4 hm
    refine r_iload_n (np := 40) G hl 2 rfl dX12_algebra_39 rfl rfl ?_
    refine r_if_ne (np := 43) (tgt := 52) G rfl dX12_algebra_40 (by decide) rfl (fun h5 => ?_) (fun h5 => ?_)
    · have hm := b_f h5 hm
      refine r_iload_n (np := 53) G hl 2 rfl dX12_algebra_52 rfl rfl ?_
      refine r_iconst (np := 54) G 1 dX12_algebra_53 rfl ?_
      refine r_icmp_ne (np := 57) (tgt := 66) G rfl (wIk 1 rfl) dX12_algebra_54 (by decide) rfl (fun h6 => ?_) (fun h6 => ?_)
      · have hm := b_f h6 hm
        refine r_iload_n (np := 67) G hl 2 rfl dX12_algebra_66 rfl rfl ?_
        refine r_iconst (np := 68) G 2 dX12_algebra_67 rfl ?_
        refine r_icmp_ne (np := 71) (tgt := 80) G rfl (wIk 2 rfl) dX12_algebra_68 (by decide) rfl (fun h7 => ?_) (fun h7 => ?_)
        · have hm := b_f h7 hm
          refine r_aload_n (np := 81) G hl 0 rfl dX12_algebra_80 rfl rfl ?_
          obtain ⟨r8, e9, hm⟩ := ref_t hm
          refine r_getR (np := 84) G hM (shp_lt g0 (by decide)) g0 e9 fdX12_13 lkX12_17 dX12_algebra_81 rfl ?_
          refine r_iload_n (np := 85) G hl 1 rfl dX12_algebra_84 rfl rfl ?_
          obtain ⟨g10, hm⟩ := g_t hm
          refine r_laload (np := 86) G hM g10 rfl dX12_algebra_85 rfl ?_
          obtain ⟨b11, s12, e13, hm⟩ := call_t hm
          refine m_callSI (np := 89) G hM hl.1 [vL (s2 r8 (wI v1).toNat)] (qX12_firstLetter l E s2 (s2 r8 (wI v1).toNat) _ e13) myX12_firstLetter lkX12_226 ⟨Nat.le_of_ble_eq_true rfl, Nat.le_of_ble_eq_true rfl⟩ ⟨Nat.le_of_ble_eq_true rfl, Nat.le_of_ble_eq_true rfl⟩ [] rfl (Nat.le_of_ble_eq_true rfl) dX12_algebra_86 rfl (fun H locs hM => ?_)
          exact r_iret G hr hk hM hm dX12_algebra_89
        · have hm := b_t h7 hm
          refine r_aload_n (np := 72) G hl 0 rfl dX12_algebra_71 rfl rfl ?_
          obtain ⟨r14, e15, hm⟩ := ref_t hm
          refine r_getR (np := 75) G hM (shp_lt g0 (by decide)) g0 e15 fdX12_16 lkX12_27 dX12_algebra_72 rfl ?_
          refine r_iload_n (np := 76) G hl 1 rfl dX12_algebra_75 rfl rfl ?_
          obtain ⟨g16, hm⟩ := g_t hm
          refine r_iaload (np := 77) G hM g16 rfl dX12_algebra_76 rfl ?_
          refine r_goto (np := 89) G dX12_algebra_77 (by decide) ?_
          exact r_iret G hr hk hM hm dX12_algebra_89
      · have hm := b_t h6 hm
        refine r_aload_n (np := 58) G hl 0 rfl dX12_algebra_57 rfl rfl ?_
        obtain ⟨r17, e18, hm⟩ := ref_t hm
        refine r_getR (np := 61) G hM (shp_lt g0 (by decide)) g0 e18 fdX12_15 lkX12_24 dX12_algebra_58 rfl ?_
        refine r_iload_n (np := 62) G hl 1 rfl dX12_algebra_61 rfl rfl ?_
        obtain ⟨g19, hm⟩ := g_t hm
        refine r_iaload (np := 63) G hM g19 rfl dX12_algebra_62 rfl ?_
        refine r_goto (np := 89) G dX12_algebra_63 (by decide) ?_
        exact r_iret G hr hk hM hm dX12_algebra_89
    · have hm := b_t h5 hm
      refine r_aload_n (np := 44) G hl 0 rfl dX12_algebra_43 rfl rfl ?_
      obtain ⟨r20, e21, hm⟩ := ref_t hm
      refine r_getR (np := 47) G hM (shp_lt g0 (by decide)) g0 e21 fdX12_14 lkX12_21 dX12_algebra_44 rfl ?_
      refine r_iload_n (np := 48) G hl 1 rfl dX12_algebra_47 rfl rfl ?_
      obtain ⟨g22, hm⟩ := g_t hm
      refine r_iaload (np := 49) G hM g22 rfl dX12_algebra_48 rfl ?_
      refine r_goto (np := 89) G dX12_algebra_49 (by decide) ?_
      exact r_iret G hr hk hM hm dX12_algebra_89
  · have hm := b_t h4 hm
    refine r_iconst (np := 38) G 0 dX12_algebra_37 rfl ?_
    exact r_iret G hr hk hM hm dX12_algebra_38
set_option maxRecDepth 100000 in
set_option maxHeartbeats 4000000 in
theorem wX12_algebra_B25 (l : Launch) (E : mE) (out : Int × mSt) {p : Program} {e : Env} {s : State} {m : MethodId} {args : Array Value} {below : List Frame} {meth : Method} {c : Code} (G : CallFix p m c cX12_algebra 3 s args mTs RX12) (hr : meth.sig.returnType = (some .int)) (hk : meth.locks = false) (v0 : Nat) (v1 : Int) (v2 : Int) (g0 : isC v0 11) : ∀ (t0 : Nat) (σ : mSt) (H : Heap) (locs : List Loc) (ls : Array Slot), mX12_algebra_B25 v0 v1 v2 t0 σ = some out → mM (mA E 276) E 276 σ s H locs → lv_has ls 3 [(0, .ref (eA E v0)), (1, vI v1), (2, vI v2)] → mGo l p e 2 46 s m args below meth c E (some (vI out.1)) out.2 H locs (F0 m 25 ls [.ref (eA E t0)]) := by
  intro t0 σ H locs ls hm hM hl
  unfold mX12_algebra_B25 at hm
  refine r_iconst (np := 26) G 1 dX12_algebra_25 rfl ?_
  exact wX12_algebra_B26 l E out G hr hk v0 v1 v2 g0 t0 1 _ _ _ _ hm hM (lv_sub hl [0, 1, 2] rfl)
set_option maxRecDepth 100000 in
set_option maxHeartbeats 4000000 in
theorem qX12_algebra (l : Launch) (E : mE) (σ : mSt) (v0 : Nat) (v1 : Int) (v2 : Int) (out : Int × mSt) (hm : mX12_algebra v0 v1 v2 σ = some out) : mMet l yX12_algebra cX12_algebra 3 (some .int) 2 46 E 276 [.ref (eA E v0), vI v1, vI v2] σ (some (vI out.1)) out.2 := by
  unfold mX12_algebra at hm
  obtain ⟨g0, hm⟩ := g_t hm
  refine m_entry (by decide +kernel) (Nat.le_of_ble_eq_true rfl) (fun p e s m args below meth c G hr hk hM ls hl => ?_)
  have G : CallFix p m c cX12_algebra 3 s args mTs RX12 := G
  have hl : lv_has ls 3 [(0, .ref (eA E v0)), (1, vI v1), (2, vI v2)] := hl
  refine r_aload_n (np := 1) G hl 0 rfl dX12_algebra_0 rfl rfl ?_
  refine r_aload_n (np := 2) G hl 0 rfl dX12_algebra_1 rfl rfl ?_
  refine r_iload_n (np := 3) G hl 1 rfl dX12_algebra_2 rfl rfl ?_
  obtain ⟨b23, s24, e25, hm⟩ := call_t hm
  refine m_callVI (np := 6) G hM hl.1 [vI v1] (qX12_isAlgebra l E σ v0 v1 _ e25) myX12_isAlgebra (shp_lt (gX12_isAlgebra e25) (by decide)) (gX12_isAlgebra e25) rfl (by decide) lkX12_219 ⟨Nat.le_of_ble_eq_true rfl, Nat.le_of_ble_eq_true rfl⟩ ⟨Nat.le_of_ble_eq_true rfl, Nat.le_of_ble_eq_true rfl⟩ [.ref (eA E v0)] rfl (Nat.le_of_ble_eq_true rfl) dX12_algebra_3 rfl (fun H locs hM => ?_)
  refine r_if_eq (np := 9) (tgt := 25) G rfl dX12_algebra_6 (by decide) rfl (fun h26 => ?_) (fun h26 => ?_)
  · have hm := b_t h26 hm
    exact wX12_algebra_B25 l E out G hr hk v0 v1 v2 g0 v0 _ _ _ _ hm hM (lv_sub hl [0, 1, 2] rfl)
  · have hm := b_f h26 hm
    refine r_iload_n (np := 10) G hl 2 rfl dX12_algebra_9 rfl rfl ?_
    refine r_i2l (np := 11) G rfl dX12_algebra_10 rfl ?_
    refine r_lconst (np := 12) G 0 dX12_algebra_11 rfl rfl ?_
    refine r_ldc2 (np := 15) G 3 dX12_algebra_12 lkX12_224 rfl rfl ?_
    obtain ⟨b27, s28, e29, hm⟩ := call_t hm
    refine m_callSI (np := 18) G hM hl.1 [vL (wI v2), vL 0, vL 3] (qX12_within l E s24 (wI v2) 0 3 _ e29) myX12_within lkX12_113 ⟨Nat.le_of_ble_eq_true rfl, Nat.le_of_ble_eq_true rfl⟩ ⟨Nat.le_of_ble_eq_true rfl, Nat.le_of_ble_eq_true rfl⟩ [.ref (eA E v0)] rfl (Nat.le_of_ble_eq_true rfl) dX12_algebra_15 rfl (fun H locs hM => ?_)
    refine r_if_eq (np := 21) (tgt := 25) G rfl dX12_algebra_18 (by decide) rfl (fun h30 => ?_) (fun h30 => ?_)
    · have hm := b_t h30 hm
      exact wX12_algebra_B25 l E out G hr hk v0 v1 v2 g0 v0 _ _ _ _ hm hM (lv_sub hl [0, 1, 2] rfl)
    · have hm := b_f h30 hm
      refine r_iconst (np := 22) G 0 dX12_algebra_21 rfl ?_
      refine r_goto (np := 26) G dX12_algebra_22 (by decide) ?_
      exact wX12_algebra_B26 l E out G hr hk v0 v1 v2 g0 v0 0 _ _ _ _ hm hM (lv_sub hl [0, 1, 2] rfl)
theorem gX12_algebra {v0 : Nat} {v1 : Int} {v2 : Int} {σ : mSt} {out : Int × mSt} (hm : mX12_algebra v0 v1 v2 σ = some out) : isC v0 11 := (g_t hm).1
set_option maxRecDepth 100000 in
set_option maxHeartbeats 4000000 in
theorem wX12_isPrime_B23 (l : Launch) (E : mE) (out : Int × mSt) {p : Program} {e : Env} {s : State} {m : MethodId} {args : Array Value} {below : List Frame} {meth : Method} {c : Code} (G : CallFix p m c cX12_isPrime 2 s args mTs RX12) (hr : meth.sig.returnType = (some .boolean)) (hk : meth.locks = false) (v0 : Int) : ∀ (σ : mSt) (H : Heap) (locs : List Loc) (ls : Array Slot), mX12_isPrime_B23 v0 σ = some out → mM (mA E 276) E 276 σ s H locs → lv_has ls 2 [(0, vI v0)] → mGo l p e 0 0 s m args below meth c E (some (vI out.1)) out.2 H locs (F0 m 23 ls []) := by
  intro σ H locs ls hm hM hl
  unfold mX12_isPrime_B23 at hm
  refine r_iload_n (np := 24) G hl 0 rfl dX12_isPrime_23 rfl rfl ?_
  refine r_iconst (np := 25) G 1 dX12_isPrime_24 rfl ?_
  refine r_icmp_le (np := 28) (tgt := 32) G rfl (wIk 1 rfl) dX12_isPrime_25 (by decide) rfl (fun h1 => ?_) (fun h1 => ?_)
  · have hm := b_t h1 hm
    refine r_iconst (np := 33) G 0 dX12_isPrime_32 rfl ?_
    exact r_zret G hr hk hM (Or.inl rfl) hm dX12_isPrime_33
  · have hm := b_f h1 hm
    refine r_iconst (np := 29) G 1 dX12_isPrime_28 rfl ?_
    refine r_goto (np := 33) G dX12_isPrime_29 (by decide) ?_
    exact r_zret G hr hk hM (Or.inr rfl) hm dX12_isPrime_33
set_option maxRecDepth 100000 in
set_option maxHeartbeats 4000000 in
theorem wX12_isPrime_L2 (l : Launch) (E : mE) (out : Int × mSt) {p : Program} {e : Env} {s : State} {m : MethodId} {args : Array Value} {below : List Frame} {meth : Method} {c : Code} (G : CallFix p m c cX12_isPrime 2 s args mTs RX12) (hr : meth.sig.returnType = (some .boolean)) (hk : meth.locks = false) (v0 : Int) (x23 : mSt → Option (Int × mSt)) (hx23 : ∀ (σ : mSt) (H : Heap) (locs : List Loc) (ls : Array Slot), x23 σ = some out → mM (mA E 276) E 276 σ s H locs → lv_has ls 2 [(0, vI v0)] → mGo l p e 0 0 s m args below meth c E (some (vI out.1)) out.2 H locs (F0 m 23 ls [])) : ∀ (n : Nat) (v1 : Int) (σ : mSt) (H : Heap) (locs : List Loc) (ls : Array Slot), mX12_isPrime_L2 v0 x23 n v1 σ = some out → mM (mA E 276) E 276 σ s H locs → lv_has ls 2 [(0, vI v0), (1, vI v1)] → mGo l p e 0 0 s m args below meth c E (some (vI out.1)) out.2 H locs (F0 m 2 ls []) := by
  intro n
  induction n with
  | zero =>
    intro v1 σ H locs ls hm hM hl
    exact absurd hm (by rw [mX12_isPrime_L2.eq_1]; exact fun h => nomatch h)
  | succ n ih =>
    intro v1 σ H locs ls hm hM hl
    rw [mX12_isPrime_L2.eq_2] at hm
    refine r_iload_n (np := 3) G hl 1 rfl dX12_isPrime_2 rfl rfl ?_
    refine r_iload_n (np := 4) G hl 1 rfl dX12_isPrime_3 rfl rfl ?_
    refine r_imul (np := 5) G dX12_isPrime_4 rfl ?_
    refine r_iload_n (np := 6) G hl 0 rfl dX12_isPrime_5 rfl rfl ?_
    refine r_icmp_gt (np := 9) (tgt := 23) G rfl rfl dX12_isPrime_6 (by decide) rfl (fun h2 => ?_) (fun h2 => ?_)
    · have hm := b_t h2 hm
      exact hx23 _ _ _ _ hm hM (lv_sub hl [0] rfl)
    · have hm := b_f h2 hm
      refine r_iload_n (np := 10) G hl 0 rfl dX12_isPrime_9 rfl rfl ?_
      refine r_iload_n (np := 11) G hl 1 rfl dX12_isPrime_10 rfl rfl ?_
      obtain ⟨g3, hm⟩ := g_t hm
      refine r_irem (np := 12) G g3 dX12_isPrime_11 rfl ?_
      refine r_if_ne (np := 15) (tgt := 17) G rfl dX12_isPrime_12 (by decide) rfl (fun h4 => ?_) (fun h4 => ?_)
      · have hm := b_f h4 hm
        obtain ⟨a5, e6, hm⟩ := bnd_t hm
        refine r_iinc (np := 20) G hl 1 rfl e6 [(1, vI a5), (0, vI v0)] dX12_isPrime_17 rfl (by decide) rfl (fun ls hl => ?_)
        refine r_goto (np := 2) G dX12_isPrime_20 (by decide) ?_
        exact ih a5 _ _ _ _ hm hM (lv_sub hl [1, 0] rfl)
      · have hm := b_t h4 hm
        refine r_iconst (np := 16) G 0 dX12_isPrime_15 rfl ?_
        exact r_zret G hr hk hM (Or.inl rfl) hm dX12_isPrime_16
set_option maxRecDepth 100000 in
set_option maxHeartbeats 4000000 in
theorem qX12_isPrime (l : Launch) (E : mE) (σ : mSt) (v0 : Int) (out : Int × mSt) (hm : mX12_isPrime v0 σ = some out) : mMet l yX12_isPrime cX12_isPrime 2 (some .boolean) 0 0 E 276 [vI v0] σ (some (vI out.1)) out.2 := by
  unfold mX12_isPrime at hm
  refine m_entry (by decide +kernel) (Nat.le_of_ble_eq_true rfl) (fun p e s m args below meth c G hr hk hM ls hl => ?_)
  have G : CallFix p m c cX12_isPrime 2 s args mTs RX12 := G
  have hl : lv_has ls 2 [(0, vI v0)] := hl
  refine r_iconst (np := 1) G 2 dX12_isPrime_0 rfl ?_
  refine r_istore_n (np := 2) G hl rfl [(1, vI 2), (0, vI v0)] dX12_isPrime_1 rfl rfl (by decide) rfl (fun ls hl => ?_)
  exact wX12_isPrime_L2 l E out G hr hk v0 (fun zσ => mX12_isPrime_B23 v0 zσ) (fun zσ zH zl zs zm zM zv => wX12_isPrime_B23 l E out G hr hk v0 zσ zH zl zs zm zM zv) mF 2 _ _ _ _ hm hM (lv_sub hl [1, 0] rfl)
set_option maxRecDepth 100000 in
set_option maxHeartbeats 4000000 in
theorem wX12_often_B20 (l : Launch) (E : mE) (out : Int × mSt) {p : Program} {e : Env} {s : State} {m : MethodId} {args : Array Value} {below : List Frame} {meth : Method} {c : Code} (G : CallFix p m c cX12_often 4 s args mTs RX12) (hr : meth.sig.returnType = (some .int)) (hk : meth.locks = false) (v0 : Int) (v1 : Int) : ∀ (v2 : Int) (σ : mSt) (H : Heap) (locs : List Loc) (ls : Array Slot), mX12_often_B20 v0 v1 v2 σ = some out → mM (mA E 276) E 276 σ s H locs → lv_has ls 4 [(2, vI v2)] → mGo l p e 0 0 s m args below meth c E (some (vI out.1)) out.2 H locs (F0 m 20 ls []) := by
  intro v2 σ H locs ls hm hM hl
  unfold mX12_often_B20 at hm
  refine r_iload_n (np := 21) G hl 0 rfl dX12_often_20 rfl rfl ?_
  exact r_iret G hr hk hM hm dX12_often_21
set_option maxRecDepth 100000 in
set_option maxHeartbeats 4000000 in
theorem wX12_often_L4 (l : Launch) (E : mE) (out : Int × mSt) {p : Program} {e : Env} {s : State} {m : MethodId} {args : Array Value} {below : List Frame} {meth : Method} {c : Code} (G : CallFix p m c cX12_often 4 s args mTs RX12) (hr : meth.sig.returnType = (some .int)) (hk : meth.locks = false) (v0 : Int) (v1 : Int) (x20 : Int → mSt → Option (Int × mSt)) (hx20 : ∀ (v2 : Int) (σ : mSt) (H : Heap) (locs : List Loc) (ls : Array Slot), x20 v2 σ = some out → mM (mA E 276) E 276 σ s H locs → lv_has ls 4 [(2, vI v2)] → mGo l p e 0 0 s m args below meth c E (some (vI out.1)) out.2 H locs (F0 m 20 ls [])) : ∀ (n : Nat) (v2 : Int) (v3 : Int) (σ : mSt) (H : Heap) (locs : List Loc) (ls : Array Slot), mX12_often_L4 v0 v1 x20 n v2 v3 σ = some out → mM (mA E 276) E 276 σ s H locs → lv_has ls 4 [(1, vI v1), (2, vI v2), (3, vI v3)] → mGo l p e 0 0 s m args below meth c E (some (vI out.1)) out.2 H locs (F0 m 4 ls []) := by
  intro n
  induction n with
  | zero =>
    intro v2 v3 σ H locs ls hm hM hl
    exact absurd hm (by rw [mX12_often_L4.eq_1]; exact fun h => nomatch h)
  | succ n ih =>
    intro v2 v3 σ H locs ls hm hM hl
    rw [mX12_often_L4.eq_2] at hm
    refine r_iload_n (np := 5) G hl 2 rfl dX12_often_4 rfl rfl ?_
    refine r_iload_n (np := 6) G hl 0 rfl dX12_often_5 rfl rfl ?_
    obtain ⟨g1, hm⟩ := g_t hm
    refine r_irem (np := 7) G g1 dX12_often_6 rfl ?_
    refine r_if_ne (np := 10) (tgt := 20) G rfl dX12_often_7 (by decide) rfl (fun h2 => ?_) (fun h2 => ?_)
    · have hm := b_f h2 hm
      exact hx20 v2 _ _ _ _ hm hM (lv_sub hl [1] rfl)
    · have hm := b_t h2 hm
      obtain ⟨a3, e4, hm⟩ := bnd_t hm
      refine r_iinc (np := 13) G hl 1 rfl e4 [(2, vI a3), (1, vI v1), (3, vI v3)] dX12_often_10 rfl (by decide) rfl (fun ls hl => ?_)
      refine r_iload_n (np := 14) G hl 2 rfl dX12_often_13 rfl rfl ?_
      refine r_iload_n (np := 15) G hl 1 rfl dX12_often_14 rfl rfl ?_
      refine r_idiv (np := 16) G g1 dX12_often_15 rfl ?_
      obtain ⟨a5, e6, hm⟩ := bnd_t hm
      refine r_istore_n (np := 17) G hl e6 [(3, vI a5), (2, vI a3), (1, vI v1)] dX12_often_16 rfl rfl (by decide) rfl (fun ls hl => ?_)
      refine r_goto (np := 4) G dX12_often_17 (by decide) ?_
      exact ih a3 a5 _ _ _ _ hm hM (lv_sub hl [2, 1, 0] rfl)
set_option maxRecDepth 100000 in
set_option maxHeartbeats 4000000 in
theorem qX12_often (l : Launch) (E : mE) (σ : mSt) (v0 : Int) (v1 : Int) (out : Int × mSt) (hm : mX12_often v0 v1 σ = some out) : mMet l yX12_often cX12_often 4 (some .int) 0 0 E 276 [vI v0, vI v1] σ (some (vI out.1)) out.2 := by
  unfold mX12_often at hm
  refine m_entry (by decide +kernel) (Nat.le_of_ble_eq_true rfl) (fun p e s m args below meth c G hr hk hM ls hl => ?_)
  have G : CallFix p m c cX12_often 4 s args mTs RX12 := G
  have hl : lv_has ls 4 [(0, vI v0), (1, vI v1)] := hl
  refine r_iconst (np := 1) G 0 dX12_often_0 rfl ?_
  refine r_istore_n (np := 2) G hl rfl [(2, vI 0), (0, vI v0), (1, vI v1)] dX12_often_1 rfl rfl (by decide) rfl (fun ls hl => ?_)
  refine r_iload_n (np := 3) G hl 1 rfl dX12_often_2 rfl rfl ?_
  refine r_istore_n (np := 4) G hl rfl [(3, vI v0), (2, vI 0), (0, vI v0), (1, vI v1)] dX12_often_3 rfl rfl (by decide) rfl (fun ls hl => ?_)
  exact wX12_often_L4 l E out G hr hk v0 v1 (fun z2 zσ => mX12_often_B20 v0 v1 z2 zσ) (fun z2 zσ zH zl zs zm zM zv => wX12_often_B20 l E out G hr hk v0 v1 z2 zσ zH zl zs zm zM zv) mF 0 v0 _ _ _ _ hm hM (lv_sub hl [3, 1, 0] rfl)
set_option maxRecDepth 100000 in
set_option maxHeartbeats 4000000 in
theorem wX12_without_B15 (l : Launch) (E : mE) (out : Int × mSt) {p : Program} {e : Env} {s : State} {m : MethodId} {args : Array Value} {below : List Frame} {meth : Method} {c : Code} (G : CallFix p m c cX12_without 3 s args mTs RX12) (hr : meth.sig.returnType = (some .int)) (hk : meth.locks = false) (v0 : Int) (v1 : Int) : ∀ (v2 : Int) (σ : mSt) (H : Heap) (locs : List Loc) (ls : Array Slot), mX12_without_B15 v0 v1 v2 σ = some out → mM (mA E 276) E 276 σ s H locs → lv_has ls 3 [(2, vI v2)] → mGo l p e 0 0 s m args below meth c E (some (vI out.1)) out.2 H locs (F0 m 15 ls []) := by
  intro v2 σ H locs ls hm hM hl
  unfold mX12_without_B15 at hm
  refine r_iload_n (np := 16) G hl 0 rfl dX12_without_15 rfl rfl ?_
  exact r_iret G hr hk hM hm dX12_without_16
set_option maxRecDepth 100000 in
set_option maxHeartbeats 4000000 in
theorem wX12_without_L2 (l : Launch) (E : mE) (out : Int × mSt) {p : Program} {e : Env} {s : State} {m : MethodId} {args : Array Value} {below : List Frame} {meth : Method} {c : Code} (G : CallFix p m c cX12_without 3 s args mTs RX12) (hr : meth.sig.returnType = (some .int)) (hk : meth.locks = false) (v0 : Int) (v1 : Int) (x15 : Int → mSt → Option (Int × mSt)) (hx15 : ∀ (v2 : Int) (σ : mSt) (H : Heap) (locs : List Loc) (ls : Array Slot), x15 v2 σ = some out → mM (mA E 276) E 276 σ s H locs → lv_has ls 3 [(2, vI v2)] → mGo l p e 0 0 s m args below meth c E (some (vI out.1)) out.2 H locs (F0 m 15 ls [])) : ∀ (n : Nat) (v2 : Int) (σ : mSt) (H : Heap) (locs : List Loc) (ls : Array Slot), mX12_without_L2 v0 v1 x15 n v2 σ = some out → mM (mA E 276) E 276 σ s H locs → lv_has ls 3 [(1, vI v1), (2, vI v2)] → mGo l p e 0 0 s m args below meth c E (some (vI out.1)) out.2 H locs (F0 m 2 ls []) := by
  intro n
  induction n with
  | zero =>
    intro v2 σ H locs ls hm hM hl
    exact absurd hm (by rw [mX12_without_L2.eq_1]; exact fun h => nomatch h)
  | succ n ih =>
    intro v2 σ H locs ls hm hM hl
    rw [mX12_without_L2.eq_2] at hm
    refine r_iload_n (np := 3) G hl 1 rfl dX12_without_2 rfl rfl ?_
    refine r_iload_n (np := 4) G hl 0 rfl dX12_without_3 rfl rfl ?_
    obtain ⟨g1, hm⟩ := g_t hm
    refine r_irem (np := 5) G g1 dX12_without_4 rfl ?_
    refine r_if_ne (np := 8) (tgt := 15) G rfl dX12_without_5 (by decide) rfl (fun h2 => ?_) (fun h2 => ?_)
    · have hm := b_f h2 hm
      exact hx15 v2 _ _ _ _ hm hM (lv_sub hl [1] rfl)
    · have hm := b_t h2 hm
      refine r_iload_n (np := 9) G hl 1 rfl dX12_without_8 rfl rfl ?_
      refine r_iload_n (np := 10) G hl 0 rfl dX12_without_9 rfl rfl ?_
      refine r_idiv (np := 11) G g1 dX12_without_10 rfl ?_
      obtain ⟨a3, e4, hm⟩ := bnd_t hm
      refine r_istore_n (np := 12) G hl e4 [(2, vI a3), (1, vI v1)] dX12_without_11 rfl rfl (by decide) rfl (fun ls hl => ?_)
      refine r_goto (np := 2) G dX12_without_12 (by decide) ?_
      exact ih a3 _ _ _ _ hm hM (lv_sub hl [1, 0] rfl)
set_option maxRecDepth 100000 in
set_option maxHeartbeats 4000000 in
theorem qX12_without (l : Launch) (E : mE) (σ : mSt) (v0 : Int) (v1 : Int) (out : Int × mSt) (hm : mX12_without v0 v1 σ = some out) : mMet l yX12_without cX12_without 3 (some .int) 0 0 E 276 [vI v0, vI v1] σ (some (vI out.1)) out.2 := by
  unfold mX12_without at hm
  refine m_entry (by decide +kernel) (Nat.le_of_ble_eq_true rfl) (fun p e s m args below meth c G hr hk hM ls hl => ?_)
  have G : CallFix p m c cX12_without 3 s args mTs RX12 := G
  have hl : lv_has ls 3 [(0, vI v0), (1, vI v1)] := hl
  refine r_iload_n (np := 1) G hl 0 rfl dX12_without_0 rfl rfl ?_
  refine r_istore_n (np := 2) G hl rfl [(2, vI v0), (0, vI v0), (1, vI v1)] dX12_without_1 rfl rfl (by decide) rfl (fun ls hl => ?_)
  exact wX12_without_L2 l E out G hr hk v0 v1 (fun z2 zσ => mX12_without_B15 v0 v1 z2 zσ) (fun z2 zσ zH zl zs zm zM zv => wX12_without_B15 l E out G hr hk v0 v1 z2 zσ zH zl zs zm zM zv) mF v0 _ _ _ _ hm hM (lv_sub hl [2, 0] rfl)
set_option maxRecDepth 100000 in
set_option maxHeartbeats 4000000 in
theorem wX12_legendre_B32 (l : Launch) (E : mE) (out : Int × mSt) {p : Program} {e : Env} {s : State} {m : MethodId} {args : Array Value} {below : List Frame} {meth : Method} {c : Code} (G : CallFix p m c cX12_legendre 4 s args mTs RX12) (hr : meth.sig.returnType = (some .int)) (hk : meth.locks = false) (v0 : Int) (v1 : Int) : ∀ (σ : mSt) (H : Heap) (locs : List Loc) (ls : Array Slot), mX12_legendre_B32 v0 v1 σ = some out → mM (mA E 276) E 276 σ s H locs → lv_has ls 4 [] → mGo l p e 0 0 s m args below meth c E (some (vI out.1)) out.2 H locs (F0 m 32 ls []) := by
  intro σ H locs ls hm hM hl
  unfold mX12_legendre_B32 at hm
  refine r_iconst (np := 33) G (-1) dX12_legendre_32 rfl ?_
  exact r_iret G hr hk hM hm dX12_legendre_33
set_option maxRecDepth 100000 in
set_option maxHeartbeats 4000000 in
theorem wX12_legendre_L10 (l : Launch) (E : mE) (out : Int × mSt) {p : Program} {e : Env} {s : State} {m : MethodId} {args : Array Value} {below : List Frame} {meth : Method} {c : Code} (G : CallFix p m c cX12_legendre 4 s args mTs RX12) (hr : meth.sig.returnType = (some .int)) (hk : meth.locks = false) (v0 : Int) (v1 : Int) (v2 : Int) (x32 : mSt → Option (Int × mSt)) (hx32 : ∀ (σ : mSt) (H : Heap) (locs : List Loc) (ls : Array Slot), x32 σ = some out → mM (mA E 276) E 276 σ s H locs → lv_has ls 4 [] → mGo l p e 0 0 s m args below meth c E (some (vI out.1)) out.2 H locs (F0 m 32 ls [])) : ∀ (n : Nat) (v3 : Int) (σ : mSt) (H : Heap) (locs : List Loc) (ls : Array Slot), mX12_legendre_L10 v0 v1 v2 x32 n v3 σ = some out → mM (mA E 276) E 276 σ s H locs → lv_has ls 4 [(1, vI v1), (2, vI v2), (3, vI v3)] → mGo l p e 0 0 s m args below meth c E (some (vI out.1)) out.2 H locs (F0 m 10 ls []) := by
  intro n
  induction n with
  | zero =>
    intro v3 σ H locs ls hm hM hl
    exact absurd hm (by rw [mX12_legendre_L10.eq_1]; exact fun h => nomatch h)
  | succ n ih =>
    intro v3 σ H locs ls hm hM hl
    rw [mX12_legendre_L10.eq_2] at hm
    refine r_iload_n (np := 11) G hl 2 rfl dX12_legendre_10 rfl rfl ?_
    refine r_iload_n (np := 12) G hl 0 rfl dX12_legendre_11 rfl rfl ?_
    refine r_icmp_ge (np := 15) (tgt := 32) G rfl rfl dX12_legendre_12 (by decide) rfl (fun h1 => ?_) (fun h1 => ?_)
    · have hm := b_t h1 hm
      exact hx32 _ _ _ _ hm hM (lv_sub hl [] rfl)
    · have hm := b_f h1 hm
      refine r_iload_n (np := 16) G hl 2 rfl dX12_legendre_15 rfl rfl ?_
      refine r_iload_n (np := 17) G hl 2 rfl dX12_legendre_16 rfl rfl ?_
      refine r_imul (np := 18) G dX12_legendre_17 rfl ?_
      refine r_iload_n (np := 19) G hl 0 rfl dX12_legendre_18 rfl rfl ?_
      obtain ⟨g2, hm⟩ := g_t hm
      refine r_irem (np := 20) G g2 dX12_legendre_19 rfl ?_
      refine r_iload_n (np := 21) G hl 1 rfl dX12_legendre_20 rfl rfl ?_
      refine r_icmp_ne (np := 24) (tgt := 26) G rfl rfl dX12_legendre_21 (by decide) rfl (fun h3 => ?_) (fun h3 => ?_)
      · have hm := b_f h3 hm
        obtain ⟨a4, e5, hm⟩ := bnd_t hm
        refine r_iinc (np := 29) G hl 2 rfl e5 [(3, vI a4), (1, vI v1), (2, vI v2)] dX12_legendre_26 rfl (by decide) rfl (fun ls hl => ?_)
        refine r_goto (np := 10) G dX12_legendre_29 (by decide) ?_
        exact ih a4 _ _ _ _ hm hM (lv_sub hl [1, 2, 0] rfl)
      · have hm := b_t h3 hm
        refine r_iconst (np := 25) G 1 dX12_legendre_24 rfl ?_
        exact r_iret G hr hk hM hm dX12_legendre_25
set_option maxRecDepth 100000 in
set_option maxHeartbeats 4000000 in
theorem qX12_legendre (l : Launch) (E : mE) (σ : mSt) (v0 : Int) (v1 : Int) (out : Int × mSt) (hm : mX12_legendre v0 v1 σ = some out) : mMet l yX12_legendre cX12_legendre 4 (some .int) 0 0 E 276 [vI v0, vI v1] σ (some (vI out.1)) out.2 := by
  unfold mX12_legendre at hm
  refine m_entry (by decide +kernel) (Nat.le_of_ble_eq_true rfl) (fun p e s m args below meth c G hr hk hM ls hl => ?_)
  have G : CallFix p m c cX12_legendre 4 s args mTs RX12 := G
  have hl : lv_has ls 4 [(0, vI v0), (1, vI v1)] := hl
  refine r_iload_n (np := 1) G hl 0 rfl dX12_legendre_0 rfl rfl ?_
  refine r_iload_n (np := 2) G hl 1 rfl dX12_legendre_1 rfl rfl ?_
  obtain ⟨g6, hm⟩ := g_t hm
  refine r_irem (np := 3) G g6 dX12_legendre_2 rfl ?_
  refine r_iload_n (np := 4) G hl 1 rfl dX12_legendre_3 rfl rfl ?_
  refine r_iadd (np := 5) G dX12_legendre_4 rfl ?_
  refine r_iload_n (np := 6) G hl 1 rfl dX12_legendre_5 rfl rfl ?_
  refine r_irem (np := 7) G g6 dX12_legendre_6 rfl ?_
  obtain ⟨a7, e8, hm⟩ := bnd_t hm
  refine r_istore_n (np := 8) G hl e8 [(2, vI a7), (0, vI v0), (1, vI v1)] dX12_legendre_7 rfl rfl (by decide) rfl (fun ls hl => ?_)
  refine r_iconst (np := 9) G 1 dX12_legendre_8 rfl ?_
  refine r_istore_n (np := 10) G hl rfl [(3, vI 1), (2, vI a7), (0, vI v0), (1, vI v1)] dX12_legendre_9 rfl rfl (by decide) rfl (fun ls hl => ?_)
  exact wX12_legendre_L10 l E out G hr hk v0 v1 a7 (fun zσ => mX12_legendre_B32 v0 v1 zσ) (fun zσ zH zl zs zm zM zv => wX12_legendre_B32 l E out G hr hk v0 v1 zσ zH zl zs zm zM zv) mF 1 _ _ _ _ hm hM (lv_sub hl [3, 1, 0] rfl)
set_option maxRecDepth 100000 in
set_option maxHeartbeats 4000000 in
theorem qX12_odd (l : Launch) (E : mE) (σ : mSt) (v0 : Int) (out : Int × mSt) (hm : mX12_odd v0 σ = some out) : mMet l yX12_odd cX12_odd 1 (some .int) 0 0 E 276 [vI v0] σ (some (vI out.1)) out.2 := by
  unfold mX12_odd at hm
  refine m_entry (by decide +kernel) (Nat.le_of_ble_eq_true rfl) (fun p e s m args below meth c G hr hk hM ls hl => ?_)
  have G : CallFix p m c cX12_odd 1 s args mTs RX12 := G
  have hl : lv_has ls 1 [(0, vI v0)] := hl
  refine r_iload_n (np := 1) G hl 0 rfl dX12_odd_0 rfl rfl ?_
  refine r_iconst (np := 2) G 2 dX12_odd_1 rfl ?_
  obtain ⟨g1, hm⟩ := g_t hm
  refine r_irem (np := 3) G g1 dX12_odd_2 rfl ?_
  refine r_if_ne (np := 6) (tgt := 10) G rfl dX12_odd_3 (by decide) rfl (fun h2 => ?_) (fun h2 => ?_)
  · have hm := b_f h2 hm
    refine r_iconst (np := 11) G 1 dX12_odd_10 rfl ?_
    exact r_iret G hr hk hM hm dX12_odd_11
  · have hm := b_t h2 hm
    refine r_iconst (np := 7) G 0 dX12_odd_6 rfl ?_
    refine r_goto (np := 11) G dX12_odd_7 (by decide) ?_
    exact r_iret G hr hk hM hm dX12_odd_11
set_option maxRecDepth 100000 in
set_option maxHeartbeats 4000000 in
theorem qX12_side (l : Launch) (E : mE) (σ : mSt) (v0 : Int) (out : Int × mSt) (hm : mX12_side v0 σ = some out) : mMet l yX12_side cX12_side 1 (some .int) 1 20 E 276 [vI v0] σ (some (vI out.1)) out.2 := by
  unfold mX12_side at hm
  refine m_entry (by decide +kernel) (Nat.le_of_ble_eq_true rfl) (fun p e s m args below meth c G hr hk hM ls hl => ?_)
  have G : CallFix p m c cX12_side 1 s args mTs RX12 := G
  have hl : lv_has ls 1 [(0, vI v0)] := hl
  refine r_iload_n (np := 1) G hl 0 rfl dX12_side_0 rfl rfl ?_
  refine r_iconst (np := 2) G 1 dX12_side_1 rfl ?_
  refine r_isub (np := 3) G dX12_side_2 rfl ?_
  refine r_iconst (np := 4) G 2 dX12_side_3 rfl ?_
  obtain ⟨g1, hm⟩ := g_t hm
  refine r_idiv (np := 5) G g1 dX12_side_4 rfl ?_
  obtain ⟨b2, s3, e4, hm⟩ := call_t hm
  refine m_callSI (np := 8) G hM hl.1 [vI ((wI (v0 - 1)).tdiv (wI 2))] (qX12_odd l E σ ((wI (v0 - 1)).tdiv (wI 2)) _ e4) myX12_odd lkX12_229 ⟨Nat.le_of_ble_eq_true rfl, Nat.le_of_ble_eq_true rfl⟩ ⟨Nat.le_of_ble_eq_true rfl, Nat.le_of_ble_eq_true rfl⟩ [] rfl (Nat.le_of_ble_eq_true rfl) dX12_side_5 rfl (fun H locs hM => ?_)
  exact r_iret G hr hk hM hm dX12_side_8
set_option maxRecDepth 100000 in
set_option maxHeartbeats 4000000 in
theorem qX12_width (l : Launch) (E : mE) (σ : mSt) (v0 : Int) (out : Int × mSt) (hm : mX12_width v0 σ = some out) : mMet l yX12_width cX12_width 1 (some .int) 1 20 E 276 [vI v0] σ (some (vI out.1)) out.2 := by
  unfold mX12_width at hm
  refine m_entry (by decide +kernel) (Nat.le_of_ble_eq_true rfl) (fun p e s m args below meth c G hr hk hM ls hl => ?_)
  have G : CallFix p m c cX12_width 1 s args mTs RX12 := G
  have hl : lv_has ls 1 [(0, vI v0)] := hl
  refine r_iload_n (np := 1) G hl 0 rfl dX12_width_0 rfl rfl ?_
  refine r_iload_n (np := 2) G hl 0 rfl dX12_width_1 rfl rfl ?_
  refine r_imul (np := 3) G dX12_width_2 rfl ?_
  refine r_iconst (np := 4) G 1 dX12_width_3 rfl ?_
  refine r_isub (np := 5) G dX12_width_4 rfl ?_
  refine r_bipush (np := 7) G 8 dX12_width_5 (by decide) rfl ?_
  obtain ⟨g1, hm⟩ := g_t hm
  refine r_idiv (np := 8) G g1 dX12_width_7 rfl ?_
  obtain ⟨b2, s3, e4, hm⟩ := call_t hm
  refine m_callSI (np := 11) G hM hl.1 [vI ((wI ((v0 * v0) - 1)).tdiv (wI 8))] (qX12_odd l E σ ((wI ((v0 * v0) - 1)).tdiv (wI 8)) _ e4) myX12_odd lkX12_229 ⟨Nat.le_of_ble_eq_true rfl, Nat.le_of_ble_eq_true rfl⟩ ⟨Nat.le_of_ble_eq_true rfl, Nat.le_of_ble_eq_true rfl⟩ [] rfl (Nat.le_of_ble_eq_true rfl) dX12_width_8 rfl (fun H locs hM => ?_)
  exact r_iret G hr hk hM hm dX12_width_11
set_option maxRecDepth 100000 in
set_option maxHeartbeats 4000000 in
theorem wX12_quaternionAt_B177 (l : Launch) (E : mE) (out : Int × mSt) {p : Program} {e : Env} {s : State} {m : MethodId} {args : Array Value} {below : List Frame} {meth : Method} {c : Code} (G : CallFix p m c cX12_quaternionAt 8 s args mTs RX12) (hr : meth.sig.returnType = (some .int)) (hk : meth.locks = false) (v0 : Int) (v1 : Int) (v2 : Int) : ∀ (v7 : Int) (σ : mSt) (H : Heap) (locs : List Loc) (ls : Array Slot), mX12_quaternionAt_B177 v0 v1 v2 v7 σ = some out → mM (mA E 276) E 276 σ s H locs → lv_has ls 8 [(7, vI v7)] → mGo l p e 2 40 s m args below meth c E (some (vI out.1)) out.2 H locs (F0 m 177 ls []) := by
  intro v7 σ H locs ls hm hM hl
  unfold mX12_quaternionAt_B177 at hm
  refine r_iload (np := 179) G hl 0 rfl dX12_quaternionAt_177 rfl ?_
  refine r_if_ge (np := 182) (tgt := 186) G rfl dX12_quaternionAt_179 (by decide) rfl (fun h1 => ?_) (fun h1 => ?_)
  · have hm := b_t h1 hm
    refine r_iconst (np := 187) G 0 dX12_quaternionAt_186 rfl ?_
    exact r_iret G hr hk hM hm dX12_quaternionAt_187
  · have hm := b_f h1 hm
    refine r_iconst (np := 183) G 3 dX12_quaternionAt_182 rfl ?_
    refine r_goto (np := 187) G dX12_quaternionAt_183 (by decide) ?_
    exact r_iret G hr hk hM hm dX12_quaternionAt_187
set_option maxRecDepth 100000 in
set_option maxHeartbeats 4000000 in
theorem wX12_quaternionAt_B158 (l : Launch) (E : mE) (out : Int × mSt) {p : Program} {e : Env} {s : State} {m : MethodId} {args : Array Value} {below : List Frame} {meth : Method} {c : Code} (G : CallFix p m c cX12_quaternionAt 8 s args mTs RX12) (hr : meth.sig.returnType = (some .int)) (hk : meth.locks = false) (v0 : Int) (v1 : Int) (v2 : Int) : ∀ (v3 : Int) (v6 : Int) (v7 : Int) (σ : mSt) (H : Heap) (locs : List Loc) (ls : Array Slot), mX12_quaternionAt_B158 v0 v1 v2 v3 v6 v7 σ = some out → mM (mA E 276) E 276 σ s H locs → lv_has ls 8 [(2, vI v2), (3, vI v3), (6, vI v6), (7, vI v7)] → mGo l p e 2 40 s m args below meth c E (some (vI out.1)) out.2 H locs (F0 m 158 ls []) := by
  intro v3 v6 v7 σ H locs ls hm hM hl
  unfold mX12_quaternionAt_B158 at hm
  refine r_iload_n (np := 159) G hl 1 rfl dX12_quaternionAt_158 rfl rfl ?_
  obtain ⟨b2, s3, e4, hm⟩ := call_t hm
  refine m_callSI (np := 162) G hM hl.1 [vI v3] (qX12_odd l E σ v3 _ e4) myX12_odd lkX12_229 ⟨Nat.le_of_ble_eq_true rfl, Nat.le_of_ble_eq_true rfl⟩ ⟨Nat.le_of_ble_eq_true rfl, Nat.le_of_ble_eq_true rfl⟩ [] rfl (Nat.le_of_ble_eq_true rfl) dX12_quaternionAt_159 rfl (fun H locs hM => ?_)
  refine r_iconst (np := 163) G 1 dX12_quaternionAt_162 rfl ?_
  refine r_icmp_ne (np := 166) (tgt := 177) G rfl (wIk 1 rfl) dX12_quaternionAt_163 (by decide) rfl (fun h5 => ?_) (fun h5 => ?_)
  · have hm := b_f h5 hm
    exact wX12_quaternionAt_B177 l E out G hr hk v0 v1 v2 v7 _ _ _ _ hm hM (lv_sub hl [3] rfl)
  · have hm := b_t h5 hm
    refine r_iload (np := 168) G hl 3 rfl dX12_quaternionAt_166 rfl ?_
    refine r_iload (np := 170) G hl 2 rfl dX12_quaternionAt_168 rfl ?_
    refine r_iload_n (np := 171) G hl 0 rfl dX12_quaternionAt_170 rfl rfl ?_
    obtain ⟨b6, s7, e8, hm⟩ := call_t hm
    refine m_callSI (np := 174) G hM hl.1 [vI v6, vI v2] (qX12_legendre l E s3 v6 v2 _ e8) myX12_legendre lkX12_245 ⟨Nat.le_of_ble_eq_true rfl, Nat.le_of_ble_eq_true rfl⟩ ⟨Nat.le_of_ble_eq_true rfl, Nat.le_of_ble_eq_true rfl⟩ [vI v7] rfl (Nat.le_of_ble_eq_true rfl) dX12_quaternionAt_171 rfl (fun H locs hM => ?_)
    refine r_imul (np := 175) G dX12_quaternionAt_174 rfl ?_
    obtain ⟨a9, e10, hm⟩ := bnd_t hm
    refine r_istore (np := 177) G hl e10 [(7, vI a9), (2, vI v2), (3, vI v3), (6, vI v6)] dX12_quaternionAt_175 rfl (by decide) rfl (fun ls hl => ?_)
    exact wX12_quaternionAt_B177 l E out G hr hk v0 v1 v2 a9 _ _ _ _ hm hM (lv_sub hl [0] rfl)
set_option maxRecDepth 100000 in
set_option maxHeartbeats 4000000 in
theorem wX12_quaternionAt_B136 (l : Launch) (E : mE) (out : Int × mSt) {p : Program} {e : Env} {s : State} {m : MethodId} {args : Array Value} {below : List Frame} {meth : Method} {c : Code} (G : CallFix p m c cX12_quaternionAt 8 s args mTs RX12) (hr : meth.sig.returnType = (some .int)) (hk : meth.locks = false) (v0 : Int) (v1 : Int) (v2 : Int) : ∀ (v3 : Int) (v4 : Int) (v5 : Int) (v6 : Int) (t0 : Int) (σ : mSt) (H : Heap) (locs : List Loc) (ls : Array Slot), mX12_quaternionAt_B136 v0 v1 v2 v3 v4 v5 v6 t0 σ = some out → mM (mA E 276) E 276 σ s H locs → lv_has ls 8 [(2, vI v2), (3, vI v3), (4, vI v4), (5, vI v5), (6, vI v6)] → mGo l p e 2 40 s m args below meth c E (some (vI out.1)) out.2 H locs (F0 m 136 ls [vI t0]) := by
  intro v3 v4 v5 v6 t0 σ H locs ls hm hM hl
  unfold mX12_quaternionAt_B136 at hm
  refine r_istore (np := 138) G hl rfl [(7, vI t0), (2, vI v2), (3, vI v3), (4, vI v4), (5, vI v5), (6, vI v6)] dX12_quaternionAt_136 rfl (by decide) rfl (fun ls hl => ?_)
  refine r_iload (np := 140) G hl 3 rfl dX12_quaternionAt_138 rfl ?_
  obtain ⟨b11, s12, e13, hm⟩ := call_t hm
  refine m_callSI (np := 143) G hM hl.1 [vI v4] (qX12_odd l E σ v4 _ e13) myX12_odd lkX12_229 ⟨Nat.le_of_ble_eq_true rfl, Nat.le_of_ble_eq_true rfl⟩ ⟨Nat.le_of_ble_eq_true rfl, Nat.le_of_ble_eq_true rfl⟩ [] rfl (Nat.le_of_ble_eq_true rfl) dX12_quaternionAt_140 rfl (fun H locs hM => ?_)
  refine r_iconst (np := 144) G 1 dX12_quaternionAt_143 rfl ?_
  refine r_icmp_ne (np := 147) (tgt := 158) G rfl (wIk 1 rfl) dX12_quaternionAt_144 (by decide) rfl (fun h14 => ?_) (fun h14 => ?_)
  · have hm := b_f h14 hm
    exact wX12_quaternionAt_B158 l E out G hr hk v0 v1 v2 v3 v6 t0 _ _ _ _ hm hM (lv_sub hl [1, 2, 5, 0] rfl)
  · have hm := b_t h14 hm
    refine r_iload (np := 149) G hl 0 rfl dX12_quaternionAt_147 rfl ?_
    refine r_iload (np := 151) G hl 4 rfl dX12_quaternionAt_149 rfl ?_
    refine r_iload_n (np := 152) G hl 1 rfl dX12_quaternionAt_151 rfl rfl ?_
    obtain ⟨b15, s16, e17, hm⟩ := call_t hm
    refine m_callSI (np := 155) G hM hl.1 [vI v5, vI v2] (qX12_legendre l E s12 v5 v2 _ e17) myX12_legendre lkX12_245 ⟨Nat.le_of_ble_eq_true rfl, Nat.le_of_ble_eq_true rfl⟩ ⟨Nat.le_of_ble_eq_true rfl, Nat.le_of_ble_eq_true rfl⟩ [vI t0] rfl (Nat.le_of_ble_eq_true rfl) dX12_quaternionAt_152 rfl (fun H locs hM => ?_)
    refine r_imul (np := 156) G dX12_quaternionAt_155 rfl ?_
    obtain ⟨a18, e19, hm⟩ := bnd_t hm
    refine r_istore (np := 158) G hl e19 [(7, vI a18), (2, vI v2), (3, vI v3), (4, vI v4), (5, vI v5), (6, vI v6)] dX12_quaternionAt_156 rfl (by decide) rfl (fun ls hl => ?_)
    exact wX12_quaternionAt_B158 l E out G hr hk v0 v1 v2 v3 v6 a18 _ _ _ _ hm hM (lv_sub hl [1, 2, 5, 0] rfl)
set_option maxRecDepth 100000 in
set_option maxHeartbeats 4000000 in
theorem wX12_quaternionAt_B135 (l : Launch) (E : mE) (out : Int × mSt) {p : Program} {e : Env} {s : State} {m : MethodId} {args : Array Value} {below : List Frame} {meth : Method} {c : Code} (G : CallFix p m c cX12_quaternionAt 8 s args mTs RX12) (hr : meth.sig.returnType = (some .int)) (hk : meth.locks = false) (v0 : Int) (v1 : Int) (v2 : Int) : ∀ (v3 : Int) (v4 : Int) (v5 : Int) (v6 : Int) (σ : mSt) (H : Heap) (locs : List Loc) (ls : Array Slot), mX12_quaternionAt_B135 v0 v1 v2 v3 v4 v5 v6 σ = some out → mM (mA E 276) E 276 σ s H locs → lv_has ls 8 [(2, vI v2), (3, vI v3), (4, vI v4), (5, vI v5), (6, vI v6)] → mGo l p e 2 40 s m args below meth c E (some (vI out.1)) out.2 H locs (F0 m 135 ls []) := by
  intro v3 v4 v5 v6 σ H locs ls hm hM hl
  unfold mX12_quaternionAt_B135 at hm
  refine r_iconst (np := 136) G 1 dX12_quaternionAt_135 rfl ?_
  exact wX12_quaternionAt_B136 l E out G hr hk v0 v1 v2 v3 v4 v5 v6 1 _ _ _ _ hm hM (lv_sub hl [0, 1, 2, 3, 4] rfl)
set_option maxRecDepth 100000 in
set_option maxHeartbeats 4000000 in
theorem wX12_quaternionAt_B102 (l : Launch) (E : mE) (out : Int × mSt) {p : Program} {e : Env} {s : State} {m : MethodId} {args : Array Value} {below : List Frame} {meth : Method} {c : Code} (G : CallFix p m c cX12_quaternionAt 8 s args mTs RX12) (hr : meth.sig.returnType = (some .int)) (hk : meth.locks = false) (v0 : Int) (v1 : Int) (v2 : Int) : ∀ (v3 : Int) (v4 : Int) (v5 : Int) (v6 : Int) (σ : mSt) (H : Heap) (locs : List Loc) (ls : Array Slot), mX12_quaternionAt_B102 v0 v1 v2 v3 v4 v5 v6 σ = some out → mM (mA E 276) E 276 σ s H locs → lv_has ls 8 [(2, vI v2), (3, vI v3), (4, vI v4), (5, vI v5), (6, vI v6)] → mGo l p e 2 40 s m args below meth c E (some (vI out.1)) out.2 H locs (F0 m 102 ls []) := by
  intro v3 v4 v5 v6 σ H locs ls hm hM hl
  unfold mX12_quaternionAt_B102 at hm
  refine r_iload_n (np := 103) G hl 1 rfl dX12_quaternionAt_102 rfl rfl ?_
  obtain ⟨b20, s21, e22, hm⟩ := call_t hm
  refine m_callSI (np := 106) G hM hl.1 [vI v3] (qX12_odd l E σ v3 _ e22) myX12_odd lkX12_229 ⟨Nat.le_of_ble_eq_true rfl, Nat.le_of_ble_eq_true rfl⟩ ⟨Nat.le_of_ble_eq_true rfl, Nat.le_of_ble_eq_true rfl⟩ [] rfl (Nat.le_of_ble_eq_true rfl) dX12_quaternionAt_103 rfl (fun H locs hM => ?_)
  refine r_iconst (np := 107) G 1 dX12_quaternionAt_106 rfl ?_
  refine r_icmp_ne (np := 110) (tgt := 135) G rfl (wIk 1 rfl) dX12_quaternionAt_107 (by decide) rfl (fun h23 => ?_) (fun h23 => ?_)
  · have hm := b_f h23 hm
    exact wX12_quaternionAt_B135 l E out G hr hk v0 v1 v2 v3 v4 v5 v6 _ _ _ _ hm hM (lv_sub hl [0, 1, 2, 3, 4] rfl)
  · have hm := b_t h23 hm
    refine r_iload (np := 112) G hl 2 rfl dX12_quaternionAt_110 rfl ?_
    obtain ⟨b24, s25, e26, hm⟩ := call_t hm
    refine m_callSI (np := 115) G hM hl.1 [vI v4] (qX12_odd l E s21 v4 _ e26) myX12_odd lkX12_229 ⟨Nat.le_of_ble_eq_true rfl, Nat.le_of_ble_eq_true rfl⟩ ⟨Nat.le_of_ble_eq_true rfl, Nat.le_of_ble_eq_true rfl⟩ [] rfl (Nat.le_of_ble_eq_true rfl) dX12_quaternionAt_112 rfl (fun H locs hM => ?_)
    refine r_iconst (np := 116) G 1 dX12_quaternionAt_115 rfl ?_
    refine r_icmp_ne (np := 119) (tgt := 135) G rfl (wIk 1 rfl) dX12_quaternionAt_116 (by decide) rfl (fun h27 => ?_) (fun h27 => ?_)
    · have hm := b_f h27 hm
      exact wX12_quaternionAt_B135 l E out G hr hk v0 v1 v2 v3 v4 v5 v6 _ _ _ _ hm hM (lv_sub hl [0, 1, 2, 3, 4] rfl)
    · have hm := b_t h27 hm
      refine r_iload_n (np := 120) G hl 0 rfl dX12_quaternionAt_119 rfl rfl ?_
      refine r_iconst (np := 121) G 1 dX12_quaternionAt_120 rfl ?_
      refine r_isub (np := 122) G dX12_quaternionAt_121 rfl ?_
      refine r_iconst (np := 123) G 2 dX12_quaternionAt_122 rfl ?_
      obtain ⟨g28, hm⟩ := g_t hm
      refine r_idiv (np := 124) G g28 dX12_quaternionAt_123 rfl ?_
      obtain ⟨b29, s30, e31, hm⟩ := call_t hm
      refine m_callSI (np := 127) G hM hl.1 [vI ((wI (v2 - 1)).tdiv (wI 2))] (qX12_odd l E s25 ((wI (v2 - 1)).tdiv (wI 2)) _ e31) myX12_odd lkX12_229 ⟨Nat.le_of_ble_eq_true rfl, Nat.le_of_ble_eq_true rfl⟩ ⟨Nat.le_of_ble_eq_true rfl, Nat.le_of_ble_eq_true rfl⟩ [] rfl (Nat.le_of_ble_eq_true rfl) dX12_quaternionAt_124 rfl (fun H locs hM => ?_)
      refine r_iconst (np := 128) G 1 dX12_quaternionAt_127 rfl ?_
      refine r_icmp_ne (np := 131) (tgt := 135) G rfl (wIk 1 rfl) dX12_quaternionAt_128 (by decide) rfl (fun h32 => ?_) (fun h32 => ?_)
      · have hm := b_f h32 hm
        exact wX12_quaternionAt_B135 l E out G hr hk v0 v1 v2 v3 v4 v5 v6 _ _ _ _ hm hM (lv_sub hl [0, 1, 2, 3, 4] rfl)
      · have hm := b_t h32 hm
        refine r_iconst (np := 132) G (-1) dX12_quaternionAt_131 rfl ?_
        refine r_goto (np := 136) G dX12_quaternionAt_132 (by decide) ?_
        exact wX12_quaternionAt_B136 l E out G hr hk v0 v1 v2 v3 v4 v5 v6 (-1) _ _ _ _ hm hM (lv_sub hl [0, 1, 2, 3, 4] rfl)
set_option maxRecDepth 100000 in
set_option maxHeartbeats 4000000 in
theorem wX12_quaternionAt_B16 (l : Launch) (E : mE) (out : Int × mSt) {p : Program} {e : Env} {s : State} {m : MethodId} {args : Array Value} {below : List Frame} {meth : Method} {c : Code} (G : CallFix p m c cX12_quaternionAt 8 s args mTs RX12) (hr : meth.sig.returnType = (some .int)) (hk : meth.locks = false) (v0 : Int) (v1 : Int) (v2 : Int) : ∀ (σ : mSt) (H : Heap) (locs : List Loc) (ls : Array Slot), mX12_quaternionAt_B16 v0 v1 v2 σ = some out → mM (mA E 276) E 276 σ s H locs → lv_has ls 8 [] → mGo l p e 2 40 s m args below meth c E (some (vI out.1)) out.2 H locs (F0 m 16 ls []) := by
  intro σ H locs ls hm hM hl
  unfold mX12_quaternionAt_B16 at hm
  refine r_iconst (np := 17) G 0 dX12_quaternionAt_16 rfl ?_
  exact r_iret G hr hk hM hm dX12_quaternionAt_17
set_option maxRecDepth 100000 in
set_option maxHeartbeats 4000000 in
theorem qX12_quaternionAt (l : Launch) (E : mE) (σ : mSt) (v0 : Int) (v1 : Int) (v2 : Int) (out : Int × mSt) (hm : mX12_quaternionAt v0 v1 v2 σ = some out) : mMet l yX12_quaternionAt cX12_quaternionAt 8 (some .int) 2 40 E 276 [vI v0, vI v1, vI v2] σ (some (vI out.1)) out.2 := by
  unfold mX12_quaternionAt at hm
  refine m_entry (by decide +kernel) (Nat.le_of_ble_eq_true rfl) (fun p e s m args below meth c G hr hk hM ls hl => ?_)
  have G : CallFix p m c cX12_quaternionAt 8 s args mTs RX12 := G
  have hl : lv_has ls 8 [(0, vI v0), (1, vI v1), (2, vI v2)] := hl
  refine r_iload_n (np := 1) G hl 2 rfl dX12_quaternionAt_0 rfl rfl ?_
  refine r_if_ne (np := 4) (tgt := 18) G rfl dX12_quaternionAt_1 (by decide) rfl (fun h33 => ?_) (fun h33 => ?_)
  · have hm := b_f h33 hm
    refine r_iload_n (np := 19) G hl 0 rfl dX12_quaternionAt_18 rfl rfl ?_
    refine r_iload_n (np := 20) G hl 2 rfl dX12_quaternionAt_19 rfl rfl ?_
    obtain ⟨b34, s35, e36, hm⟩ := call_t hm
    refine m_callSI (np := 23) G hM hl.1 [vI v0, vI v2] (qX12_often l E σ v0 v2 _ e36) myX12_often lkX12_232 ⟨Nat.le_of_ble_eq_true rfl, Nat.le_of_ble_eq_true rfl⟩ ⟨Nat.le_of_ble_eq_true rfl, Nat.le_of_ble_eq_true rfl⟩ [] rfl (Nat.le_of_ble_eq_true rfl) dX12_quaternionAt_20 rfl (fun H locs hM => ?_)
    refine r_istore_n (np := 24) G hl rfl [(3, vI b34), (0, vI v0), (1, vI v1), (2, vI v2)] dX12_quaternionAt_23 rfl rfl (by decide) rfl (fun ls hl => ?_)
    refine r_iload_n (np := 25) G hl 2 rfl dX12_quaternionAt_24 rfl rfl ?_
    refine r_iload_n (np := 26) G hl 3 rfl dX12_quaternionAt_25 rfl rfl ?_
    obtain ⟨b37, s38, e39, hm⟩ := call_t hm
    refine m_callSI (np := 29) G hM hl.1 [vI v1, vI v2] (qX12_often l E s35 v1 v2 _ e39) myX12_often lkX12_232 ⟨Nat.le_of_ble_eq_true rfl, Nat.le_of_ble_eq_true rfl⟩ ⟨Nat.le_of_ble_eq_true rfl, Nat.le_of_ble_eq_true rfl⟩ [] rfl (Nat.le_of_ble_eq_true rfl) dX12_quaternionAt_26 rfl (fun H locs hM => ?_)
    refine r_istore (np := 31) G hl rfl [(4, vI b37), (3, vI b34), (0, vI v0), (1, vI v1), (2, vI v2)] dX12_quaternionAt_29 rfl (by decide) rfl (fun ls hl => ?_)
    refine r_iload_n (np := 32) G hl 2 rfl dX12_quaternionAt_31 rfl rfl ?_
    refine r_iload_n (np := 33) G hl 4 rfl dX12_quaternionAt_32 rfl rfl ?_
    obtain ⟨b40, s41, e42, hm⟩ := call_t hm
    refine m_callSI (np := 36) G hM hl.1 [vI v0, vI v2] (qX12_without l E s38 v0 v2 _ e42) myX12_without lkX12_236 ⟨Nat.le_of_ble_eq_true rfl, Nat.le_of_ble_eq_true rfl⟩ ⟨Nat.le_of_ble_eq_true rfl, Nat.le_of_ble_eq_true rfl⟩ [] rfl (Nat.le_of_ble_eq_true rfl) dX12_quaternionAt_33 rfl (fun H locs hM => ?_)
    refine r_istore (np := 38) G hl rfl [(5, vI b40), (4, vI b37), (3, vI b34), (0, vI v0), (1, vI v1), (2, vI v2)] dX12_quaternionAt_36 rfl (by decide) rfl (fun ls hl => ?_)
    refine r_iload_n (np := 39) G hl 4 rfl dX12_quaternionAt_38 rfl rfl ?_
    refine r_iload_n (np := 40) G hl 5 rfl dX12_quaternionAt_39 rfl rfl ?_
    obtain ⟨b43, s44, e45, hm⟩ := call_t hm
    refine m_callSI (np := 43) G hM hl.1 [vI v1, vI v2] (qX12_without l E s41 v1 v2 _ e45) myX12_without lkX12_236 ⟨Nat.le_of_ble_eq_true rfl, Nat.le_of_ble_eq_true rfl⟩ ⟨Nat.le_of_ble_eq_true rfl, Nat.le_of_ble_eq_true rfl⟩ [] rfl (Nat.le_of_ble_eq_true rfl) dX12_quaternionAt_40 rfl (fun H locs hM => ?_)
    refine r_istore (np := 45) G hl rfl [(6, vI b43), (5, vI b40), (4, vI b37), (3, vI b34), (0, vI v0), (1, vI v1), (2, vI v2)] dX12_quaternionAt_43 rfl (by decide) rfl (fun ls hl => ?_)
    refine r_iload_n (np := 46) G hl 6 rfl dX12_quaternionAt_45 rfl rfl ?_
    refine r_iconst (np := 47) G 2 dX12_quaternionAt_46 rfl ?_
    refine r_icmp_ne (np := 50) (tgt := 91) G rfl (wIk 2 rfl) dX12_quaternionAt_47 (by decide) rfl (fun h46 => ?_) (fun h46 => ?_)
    · have hm := b_f h46 hm
      refine r_iload_n (np := 92) G hl 3 rfl dX12_quaternionAt_91 rfl rfl ?_
      refine r_if_ne (np := 95) (tgt := 102) G rfl dX12_quaternionAt_92 (by decide) rfl (fun h47 => ?_) (fun h47 => ?_)
      · have hm := b_f h47 hm
        exact wX12_quaternionAt_B102 l E out G hr hk v0 v1 v2 b34 b37 b40 b43 _ _ _ _ hm hM (lv_sub hl [6, 3, 2, 1, 0] rfl)
      · have hm := b_t h47 hm
        refine r_iload (np := 97) G hl 2 rfl dX12_quaternionAt_95 rfl ?_
        refine r_if_ne (np := 100) (tgt := 102) G rfl dX12_quaternionAt_97 (by decide) rfl (fun h48 => ?_) (fun h48 => ?_)
        · have hm := b_f h48 hm
          exact wX12_quaternionAt_B102 l E out G hr hk v0 v1 v2 b34 b37 b40 b43 _ _ _ _ hm hM (lv_sub hl [6, 3, 2, 1, 0] rfl)
        · have hm := b_t h48 hm
          refine r_iconst (np := 101) G 0 dX12_quaternionAt_100 rfl ?_
          exact r_iret G hr hk hM hm dX12_quaternionAt_101
    · have hm := b_t h46 hm
      refine r_iload (np := 52) G hl 1 rfl dX12_quaternionAt_50 rfl ?_
      obtain ⟨b49, s50, e51, hm⟩ := call_t hm
      refine m_callSI (np := 55) G hM hl.1 [vI b40] (qX12_side l E s44 b40 _ e51) myX12_side lkX12_239 ⟨Nat.le_of_ble_eq_true rfl, Nat.le_of_ble_eq_true rfl⟩ ⟨Nat.le_of_ble_eq_true rfl, Nat.le_of_ble_eq_true rfl⟩ [] rfl (Nat.le_of_ble_eq_true rfl) dX12_quaternionAt_52 rfl (fun H locs hM => ?_)
      refine r_iload (np := 57) G hl 0 rfl dX12_quaternionAt_55 rfl ?_
      obtain ⟨b52, s53, e54, hm⟩ := call_t hm
      refine m_callSI (np := 60) G hM hl.1 [vI b43] (qX12_side l E s50 b43 _ e54) myX12_side lkX12_239 ⟨Nat.le_of_ble_eq_true rfl, Nat.le_of_ble_eq_true rfl⟩ ⟨Nat.le_of_ble_eq_true rfl, Nat.le_of_ble_eq_true rfl⟩ [vI b49] rfl (Nat.le_of_ble_eq_true rfl) dX12_quaternionAt_57 rfl (fun H locs hM => ?_)
      refine r_imul (np := 61) G dX12_quaternionAt_60 rfl ?_
      refine r_iload_n (np := 62) G hl 3 rfl dX12_quaternionAt_61 rfl rfl ?_
      refine r_iload (np := 64) G hl 0 rfl dX12_quaternionAt_62 rfl ?_
      obtain ⟨b55, s56, e57, hm⟩ := call_t hm
      refine m_callSI (np := 67) G hM hl.1 [vI b43] (qX12_width l E s53 b43 _ e57) myX12_width lkX12_242 ⟨Nat.le_of_ble_eq_true rfl, Nat.le_of_ble_eq_true rfl⟩ ⟨Nat.le_of_ble_eq_true rfl, Nat.le_of_ble_eq_true rfl⟩ [vI b34, vI (b49 * b52)] rfl (Nat.le_of_ble_eq_true rfl) dX12_quaternionAt_64 rfl (fun H locs hM => ?_)
      refine r_imul (np := 68) G dX12_quaternionAt_67 rfl ?_
      refine r_iadd (np := 69) G dX12_quaternionAt_68 rfl ?_
      refine r_iload (np := 71) G hl 2 rfl dX12_quaternionAt_69 rfl ?_
      refine r_iload (np := 73) G hl 1 rfl dX12_quaternionAt_71 rfl ?_
      obtain ⟨b58, s59, e60, hm⟩ := call_t hm
      refine m_callSI (np := 76) G hM hl.1 [vI b40] (qX12_width l E s56 b40 _ e60) myX12_width lkX12_242 ⟨Nat.le_of_ble_eq_true rfl, Nat.le_of_ble_eq_true rfl⟩ ⟨Nat.le_of_ble_eq_true rfl, Nat.le_of_ble_eq_true rfl⟩ [vI b37, vI ((b49 * b52) + (b34 * b55))] rfl (Nat.le_of_ble_eq_true rfl) dX12_quaternionAt_73 rfl (fun H locs hM => ?_)
      refine r_imul (np := 77) G dX12_quaternionAt_76 rfl ?_
      refine r_iadd (np := 78) G dX12_quaternionAt_77 rfl ?_
      obtain ⟨b61, s62, e63, hm⟩ := call_t hm
      refine m_callSI (np := 81) G hM hl.1 [vI (((b49 * b52) + (b34 * b55)) + (b37 * b58))] (qX12_odd l E s59 (((b49 * b52) + (b34 * b55)) + (b37 * b58)) _ e63) myX12_odd lkX12_229 ⟨Nat.le_of_ble_eq_true rfl, Nat.le_of_ble_eq_true rfl⟩ ⟨Nat.le_of_ble_eq_true rfl, Nat.le_of_ble_eq_true rfl⟩ [] rfl (Nat.le_of_ble_eq_true rfl) dX12_quaternionAt_78 rfl (fun H locs hM => ?_)
      refine r_iconst (np := 82) G 1 dX12_quaternionAt_81 rfl ?_
      refine r_icmp_ne (np := 85) (tgt := 89) G rfl (wIk 1 rfl) dX12_quaternionAt_82 (by decide) rfl (fun h64 => ?_) (fun h64 => ?_)
      · have hm := b_f h64 hm
        refine r_iconst (np := 90) G 0 dX12_quaternionAt_89 rfl ?_
        exact r_iret G hr hk hM hm dX12_quaternionAt_90
      · have hm := b_t h64 hm
        refine r_iconst (np := 86) G 3 dX12_quaternionAt_85 rfl ?_
        refine r_goto (np := 90) G dX12_quaternionAt_86 (by decide) ?_
        exact r_iret G hr hk hM hm dX12_quaternionAt_90
  · have hm := b_t h33 hm
    refine r_iload_n (np := 5) G hl 0 rfl dX12_quaternionAt_4 rfl rfl ?_
    refine r_if_ge (np := 8) (tgt := 16) G rfl dX12_quaternionAt_5 (by decide) rfl (fun h65 => ?_) (fun h65 => ?_)
    · have hm := b_t h65 hm
      exact wX12_quaternionAt_B16 l E out G hr hk v0 v1 v2 _ _ _ _ hm hM (lv_sub hl [] rfl)
    · have hm := b_f h65 hm
      refine r_iload_n (np := 9) G hl 1 rfl dX12_quaternionAt_8 rfl rfl ?_
      refine r_if_ge (np := 12) (tgt := 16) G rfl dX12_quaternionAt_9 (by decide) rfl (fun h66 => ?_) (fun h66 => ?_)
      · have hm := b_t h66 hm
        exact wX12_quaternionAt_B16 l E out G hr hk v0 v1 v2 _ _ _ _ hm hM (lv_sub hl [] rfl)
      · have hm := b_f h66 hm
        refine r_iconst (np := 13) G 3 dX12_quaternionAt_12 rfl ?_
        refine r_goto (np := 17) G dX12_quaternionAt_13 (by decide) ?_
        exact r_iret G hr hk hM hm dX12_quaternionAt_17
set_option maxRecDepth 100000 in
set_option maxHeartbeats 4000000 in
theorem wX12_generator_B43 (l : Launch) (E : mE) (out : Int × mSt) {p : Program} {e : Env} {s : State} {m : MethodId} {args : Array Value} {below : List Frame} {meth : Method} {c : Code} (G : CallFix p m c cX12_generator 4 s args mTs RX12) (hr : meth.sig.returnType = (some .int)) (hk : meth.locks = false) (v0 : Int) : ∀ (σ : mSt) (H : Heap) (locs : List Loc) (ls : Array Slot), mX12_generator_B43 v0 σ = some out → mM (mA E 276) E 276 σ s H locs → lv_has ls 4 [] → mGo l p e 0 0 s m args below meth c E (some (vI out.1)) out.2 H locs (F0 m 43 ls []) := by
  intro σ H locs ls hm hM hl
  unfold mX12_generator_B43 at hm
  refine r_iconst (np := 44) G (-1) dX12_generator_43 rfl ?_
  exact r_iret G hr hk hM hm dX12_generator_44
set_option maxRecDepth 100000 in
set_option maxHeartbeats 4000000 in
theorem wX12_generator_B28 (l : Launch) (E : mE) (out : Int × mSt) {p : Program} {e : Env} {s : State} {m : MethodId} {args : Array Value} {below : List Frame} {meth : Method} {c : Code} (G : CallFix p m c cX12_generator 4 s args mTs RX12) (hr : meth.sig.returnType = (some .int)) (hk : meth.locks = false) (v0 : Int) (c2 : Int → mSt → Option (Int × mSt)) (x43 : mSt → Option (Int × mSt)) (hc2 : ∀ (v1 : Int) (σ : mSt) (H : Heap) (locs : List Loc) (ls : Array Slot), c2 v1 σ = some out → mM (mA E 276) E 276 σ s H locs → lv_has ls 4 [(0, vI v0), (1, vI v1)] → mGo l p e 0 0 s m args below meth c E (some (vI out.1)) out.2 H locs (F0 m 2 ls [])) (hx43 : ∀ (σ : mSt) (H : Heap) (locs : List Loc) (ls : Array Slot), x43 σ = some out → mM (mA E 276) E 276 σ s H locs → lv_has ls 4 [] → mGo l p e 0 0 s m args below meth c E (some (vI out.1)) out.2 H locs (F0 m 43 ls [])) : ∀ (v1 : Int) (v2 : Int) (σ : mSt) (H : Heap) (locs : List Loc) (ls : Array Slot), mX12_generator_B28 v0 c2 x43 v1 v2 σ = some out → mM (mA E 276) E 276 σ s H locs → lv_has ls 4 [(0, vI v0), (1, vI v1), (2, vI v2)] → mGo l p e 0 0 s m args below meth c E (some (vI out.1)) out.2 H locs (F0 m 28 ls []) := by
  intro v1 v2 σ H locs ls hm hM hl
  unfold mX12_generator_B28 at hm
  refine r_iload_n (np := 29) G hl 2 rfl dX12_generator_28 rfl rfl ?_
  refine r_iload_n (np := 30) G hl 0 rfl dX12_generator_29 rfl rfl ?_
  refine r_iconst (np := 31) G 1 dX12_generator_30 rfl ?_
  refine r_isub (np := 32) G dX12_generator_31 rfl ?_
  refine r_icmp_ne (np := 35) (tgt := 37) G rfl rfl dX12_generator_32 (by decide) rfl (fun h1 => ?_) (fun h1 => ?_)
  · have hm := b_f h1 hm
    obtain ⟨a2, e3, hm⟩ := bnd_t hm
    refine r_iinc (np := 40) G hl 1 rfl e3 [(1, vI a2), (0, vI v0), (2, vI v2)] dX12_generator_37 rfl (by decide) rfl (fun ls hl => ?_)
    refine r_goto (np := 2) G dX12_generator_40 (by decide) ?_
    exact hc2 a2 _ _ _ _ hm hM (lv_sub hl [1, 0] rfl)
  · have hm := b_t h1 hm
    refine r_iload_n (np := 36) G hl 1 rfl dX12_generator_35 rfl rfl ?_
    exact r_iret G hr hk hM hm dX12_generator_36
set_option maxRecDepth 100000 in
set_option maxHeartbeats 4000000 in
theorem wX12_generator_L11 (l : Launch) (E : mE) (out : Int × mSt) {p : Program} {e : Env} {s : State} {m : MethodId} {args : Array Value} {below : List Frame} {meth : Method} {c : Code} (G : CallFix p m c cX12_generator 4 s args mTs RX12) (hr : meth.sig.returnType = (some .int)) (hk : meth.locks = false) (v0 : Int) (v1 : Int) (x28 : Int → mSt → Option (Int × mSt)) (hx28 : ∀ (v2 : Int) (σ : mSt) (H : Heap) (locs : List Loc) (ls : Array Slot), x28 v2 σ = some out → mM (mA E 276) E 276 σ s H locs → lv_has ls 4 [(0, vI v0), (1, vI v1), (2, vI v2)] → mGo l p e 0 0 s m args below meth c E (some (vI out.1)) out.2 H locs (F0 m 28 ls [])) : ∀ (n : Nat) (v2 : Int) (v3 : Int) (σ : mSt) (H : Heap) (locs : List Loc) (ls : Array Slot), mX12_generator_L11 v0 v1 x28 n v2 v3 σ = some out → mM (mA E 276) E 276 σ s H locs → lv_has ls 4 [(0, vI v0), (1, vI v1), (2, vI v2), (3, vI v3)] → mGo l p e 0 0 s m args below meth c E (some (vI out.1)) out.2 H locs (F0 m 11 ls []) := by
  intro n
  induction n with
  | zero =>
    intro v2 v3 σ H locs ls hm hM hl
    exact absurd hm (by rw [mX12_generator_L11.eq_1]; exact fun h => nomatch h)
  | succ n ih =>
    intro v2 v3 σ H locs ls hm hM hl
    rw [mX12_generator_L11.eq_2] at hm
    refine r_iload_n (np := 12) G hl 3 rfl dX12_generator_11 rfl rfl ?_
    refine r_iconst (np := 13) G 1 dX12_generator_12 rfl ?_
    refine r_icmp_eq (np := 16) (tgt := 28) G rfl (wIk 1 rfl) dX12_generator_13 (by decide) rfl (fun h4 => ?_) (fun h4 => ?_)
    · have hm := b_t h4 hm
      exact hx28 v2 _ _ _ _ hm hM (lv_sub hl [0, 1, 2] rfl)
    · have hm := b_f h4 hm
      obtain ⟨a5, e6, hm⟩ := bnd_t hm
      refine r_iinc (np := 19) G hl 2 rfl e6 [(2, vI a5), (0, vI v0), (1, vI v1), (3, vI v3)] dX12_generator_16 rfl (by decide) rfl (fun ls hl => ?_)
      refine r_iload_n (np := 20) G hl 3 rfl dX12_generator_19 rfl rfl ?_
      refine r_iload_n (np := 21) G hl 2 rfl dX12_generator_20 rfl rfl ?_
      refine r_imul (np := 22) G dX12_generator_21 rfl ?_
      refine r_iload_n (np := 23) G hl 1 rfl dX12_generator_22 rfl rfl ?_
      obtain ⟨g7, hm⟩ := g_t hm
      refine r_irem (np := 24) G g7 dX12_generator_23 rfl ?_
      obtain ⟨a8, e9, hm⟩ := bnd_t hm
      refine r_istore_n (np := 25) G hl e9 [(3, vI a8), (2, vI a5), (0, vI v0), (1, vI v1)] dX12_generator_24 rfl rfl (by decide) rfl (fun ls hl => ?_)
      refine r_goto (np := 11) G dX12_generator_25 (by decide) ?_
      exact ih a5 a8 _ _ _ _ hm hM (lv_sub hl [2, 3, 1, 0] rfl)
set_option maxRecDepth 100000 in
set_option maxHeartbeats 4000000 in
theorem wX12_generator_L2 (l : Launch) (E : mE) (out : Int × mSt) {p : Program} {e : Env} {s : State} {m : MethodId} {args : Array Value} {below : List Frame} {meth : Method} {c : Code} (G : CallFix p m c cX12_generator 4 s args mTs RX12) (hr : meth.sig.returnType = (some .int)) (hk : meth.locks = false) (v0 : Int) (x43 : mSt → Option (Int × mSt)) (hx43 : ∀ (σ : mSt) (H : Heap) (locs : List Loc) (ls : Array Slot), x43 σ = some out → mM (mA E 276) E 276 σ s H locs → lv_has ls 4 [] → mGo l p e 0 0 s m args below meth c E (some (vI out.1)) out.2 H locs (F0 m 43 ls [])) : ∀ (n : Nat) (v1 : Int) (σ : mSt) (H : Heap) (locs : List Loc) (ls : Array Slot), mX12_generator_L2 v0 x43 n v1 σ = some out → mM (mA E 276) E 276 σ s H locs → lv_has ls 4 [(0, vI v0), (1, vI v1)] → mGo l p e 0 0 s m args below meth c E (some (vI out.1)) out.2 H locs (F0 m 2 ls []) := by
  intro n
  induction n with
  | zero =>
    intro v1 σ H locs ls hm hM hl
    exact absurd hm (by rw [mX12_generator_L2.eq_1]; exact fun h => nomatch h)
  | succ n ih =>
    intro v1 σ H locs ls hm hM hl
    rw [mX12_generator_L2.eq_2] at hm
    refine r_iload_n (np := 3) G hl 1 rfl dX12_generator_2 rfl rfl ?_
    refine r_iload_n (np := 4) G hl 0 rfl dX12_generator_3 rfl rfl ?_
    refine r_icmp_ge (np := 7) (tgt := 43) G rfl rfl dX12_generator_4 (by decide) rfl (fun h10 => ?_) (fun h10 => ?_)
    · have hm := b_t h10 hm
      exact hx43 _ _ _ _ hm hM (lv_sub hl [] rfl)
    · have hm := b_f h10 hm
      refine r_iconst (np := 8) G 1 dX12_generator_7 rfl ?_
      refine r_istore_n (np := 9) G hl rfl [(2, vI 1), (0, vI v0), (1, vI v1)] dX12_generator_8 rfl rfl (by decide) rfl (fun ls hl => ?_)
      refine r_iload_n (np := 10) G hl 2 rfl dX12_generator_9 rfl rfl ?_
      refine r_istore_n (np := 11) G hl rfl [(3, vI v1), (2, vI 1), (0, vI v0), (1, vI v1)] dX12_generator_10 rfl rfl (by decide) rfl (fun ls hl => ?_)
      exact wX12_generator_L11 l E out G hr hk v0 v1 (fun z2 zσ => mX12_generator_B28 v0 (mX12_generator_L2 v0 x43 n) x43 v1 z2 zσ) (fun z2 zσ zH zl zs zm zM zv => wX12_generator_B28 l E out G hr hk v0 (mX12_generator_L2 v0 x43 n) x43 ih hx43 v1 z2 zσ zH zl zs zm zM zv) mF 1 v1 _ _ _ _ hm hM (lv_sub hl [2, 3, 1, 0] rfl)
set_option maxRecDepth 100000 in
set_option maxHeartbeats 4000000 in
theorem qX12_generator (l : Launch) (E : mE) (σ : mSt) (v0 : Int) (out : Int × mSt) (hm : mX12_generator v0 σ = some out) : mMet l yX12_generator cX12_generator 4 (some .int) 0 0 E 276 [vI v0] σ (some (vI out.1)) out.2 := by
  unfold mX12_generator at hm
  refine m_entry (by decide +kernel) (Nat.le_of_ble_eq_true rfl) (fun p e s m args below meth c G hr hk hM ls hl => ?_)
  have G : CallFix p m c cX12_generator 4 s args mTs RX12 := G
  have hl : lv_has ls 4 [(0, vI v0)] := hl
  refine r_iconst (np := 1) G 2 dX12_generator_0 rfl ?_
  refine r_istore_n (np := 2) G hl rfl [(1, vI 2), (0, vI v0)] dX12_generator_1 rfl rfl (by decide) rfl (fun ls hl => ?_)
  exact wX12_generator_L2 l E out G hr hk v0 (fun zσ => mX12_generator_B43 v0 zσ) (fun zσ zH zl zs zm zM zv => wX12_generator_B43 l E out G hr hk v0 zσ zH zl zs zm zM zv) mF 2 _ _ _ _ hm hM (lv_sub hl [1, 0] rfl)
set_option maxRecDepth 100000 in
set_option maxHeartbeats 4000000 in
theorem wX12_cyclicAt_B119 (l : Launch) (E : mE) (out : Int × mSt) {p : Program} {e : Env} {s : State} {m : MethodId} {args : Array Value} {below : List Frame} {meth : Method} {c : Code} (G : CallFix p m c cX12_cyclicAt 7 s args mTs RX12) (hr : meth.sig.returnType = (some .int)) (hk : meth.locks = false) (d : Nat) (rec : Int → Int → Int → mSt → Option (Int × mSt)) (hrec : ∀ (σ : mSt) (v0 : Int) (v1 : Int) (v2 : Int) (out : Int × mSt), rec v0 v1 v2 σ = some out → mMet l yX12_cyclicAt cX12_cyclicAt 7 (some .int) (1 + d) (23 + d * 26) E 276 [vI v0, vI v1, vI v2] σ (some (vI out.1)) out.2) (v0 : Int) (v1 : Int) (v2 : Int) : ∀ (v3 : Int) (v5 : Int) (σ : mSt) (H : Heap) (locs : List Loc) (ls : Array Slot), mX12_cyclicAt_B119 rec v0 v1 v2 v3 v5 σ = some out → mM (mA E 276) E 276 σ s H locs → lv_has ls 7 [(3, vI v3), (5, vI v5)] → mGo l p e (1 + (d + 1)) (23 + (d + 1) * 26) s m args below meth c E (some (vI out.1)) out.2 H locs (F0 m 119 ls []) := by
  intro v3 v5 σ H locs ls hm hM hl
  unfold mX12_cyclicAt_B119 at hm
  refine r_iconst (np := 120) G 2 dX12_cyclicAt_119 rfl ?_
  refine r_iload_n (np := 121) G hl 0 rfl dX12_cyclicAt_120 rfl rfl ?_
  refine r_iload (np := 123) G hl 1 rfl dX12_cyclicAt_121 rfl ?_
  refine r_imul (np := 124) G dX12_cyclicAt_123 rfl ?_
  refine r_iconst (np := 125) G 3 dX12_cyclicAt_124 rfl ?_
  obtain ⟨g1, hm⟩ := g_t hm
  refine r_irem (np := 126) G g1 dX12_cyclicAt_125 rfl ?_
  refine r_imul (np := 127) G dX12_cyclicAt_126 rfl ?_
  exact r_iret G hr hk hM hm dX12_cyclicAt_127
set_option maxRecDepth 100000 in
set_option maxHeartbeats 4000000 in
theorem wX12_cyclicAt_L96 (l : Launch) (E : mE) (out : Int × mSt) {p : Program} {e : Env} {s : State} {m : MethodId} {args : Array Value} {below : List Frame} {meth : Method} {c : Code} (G : CallFix p m c cX12_cyclicAt 7 s args mTs RX12) (hr : meth.sig.returnType = (some .int)) (hk : meth.locks = false) (d : Nat) (rec : Int → Int → Int → mSt → Option (Int × mSt)) (hrec : ∀ (σ : mSt) (v0 : Int) (v1 : Int) (v2 : Int) (out : Int × mSt), rec v0 v1 v2 σ = some out → mMet l yX12_cyclicAt cX12_cyclicAt 7 (some .int) (1 + d) (23 + d * 26) E 276 [vI v0, vI v1, vI v2] σ (some (vI out.1)) out.2) (v0 : Int) (v1 : Int) (v2 : Int) (v3 : Int) (v4 : Int) (x119 : Int → mSt → Option (Int × mSt)) (hx119 : ∀ (v5 : Int) (σ : mSt) (H : Heap) (locs : List Loc) (ls : Array Slot), x119 v5 σ = some out → mM (mA E 276) E 276 σ s H locs → lv_has ls 7 [(3, vI v3), (5, vI v5)] → mGo l p e (1 + (d + 1)) (23 + (d + 1) * 26) s m args below meth c E (some (vI out.1)) out.2 H locs (F0 m 119 ls [])) : ∀ (n : Nat) (v5 : Int) (v6 : Int) (σ : mSt) (H : Heap) (locs : List Loc) (ls : Array Slot), mX12_cyclicAt_L96 rec v0 v1 v2 v3 v4 x119 n v5 v6 σ = some out → mM (mA E 276) E 276 σ s H locs → lv_has ls 7 [(0, vI v0), (2, vI v2), (3, vI v3), (4, vI v4), (5, vI v5), (6, vI v6)] → mGo l p e (1 + (d + 1)) (23 + (d + 1) * 26) s m args below meth c E (some (vI out.1)) out.2 H locs (F0 m 96 ls []) := by
  intro n
  induction n with
  | zero =>
    intro v5 v6 σ H locs ls hm hM hl
    exact absurd hm (by rw [mX12_cyclicAt_L96.eq_1]; exact fun h => nomatch h)
  | succ n ih =>
    intro v5 v6 σ H locs ls hm hM hl
    rw [mX12_cyclicAt_L96.eq_2] at hm
    refine r_iload (np := 98) G hl 5 rfl dX12_cyclicAt_96 rfl ?_
    refine r_iload_n (np := 99) G hl 1 rfl dX12_cyclicAt_98 rfl rfl ?_
    refine r_iload_n (np := 100) G hl 0 rfl dX12_cyclicAt_99 rfl rfl ?_
    obtain ⟨g2, hm⟩ := g_t hm
    refine r_irem (np := 101) G g2 dX12_cyclicAt_100 rfl ?_
    refine r_icmp_eq (np := 104) (tgt := 119) G rfl rfl dX12_cyclicAt_101 (by decide) rfl (fun h3 => ?_) (fun h3 => ?_)
    · have hm := b_t h3 hm
      exact hx119 v5 _ _ _ _ hm hM (lv_sub hl [2, 4] rfl)
    · have hm := b_f h3 hm
      obtain ⟨a4, e5, hm⟩ := bnd_t hm
      refine r_iinc (np := 107) G hl 4 rfl e5 [(5, vI a4), (0, vI v0), (2, vI v2), (3, vI v3), (4, vI v4), (6, vI v6)] dX12_cyclicAt_104 rfl (by decide) rfl (fun ls hl => ?_)
      refine r_iload (np := 109) G hl 5 rfl dX12_cyclicAt_107 rfl ?_
      refine r_iload (np := 111) G hl 4 rfl dX12_cyclicAt_109 rfl ?_
      refine r_imul (np := 112) G dX12_cyclicAt_111 rfl ?_
      refine r_iload_n (np := 113) G hl 1 rfl dX12_cyclicAt_112 rfl rfl ?_
      refine r_irem (np := 114) G g2 dX12_cyclicAt_113 rfl ?_
      obtain ⟨a6, e7, hm⟩ := bnd_t hm
      refine r_istore (np := 116) G hl e7 [(6, vI a6), (5, vI a4), (0, vI v0), (2, vI v2), (3, vI v3), (4, vI v4)] dX12_cyclicAt_114 rfl (by decide) rfl (fun ls hl => ?_)
      refine r_goto (np := 96) G dX12_cyclicAt_116 (by decide) ?_
      exact ih a4 a6 _ _ _ _ hm hM (lv_sub hl [2, 3, 4, 5, 1, 0] rfl)
set_option maxRecDepth 100000 in
set_option maxHeartbeats 4000000 in
theorem wX12_cyclicAt_B61 (l : Launch) (E : mE) (out : Int × mSt) {p : Program} {e : Env} {s : State} {m : MethodId} {args : Array Value} {below : List Frame} {meth : Method} {c : Code} (G : CallFix p m c cX12_cyclicAt 7 s args mTs RX12) (hr : meth.sig.returnType = (some .int)) (hk : meth.locks = false) (d : Nat) (rec : Int → Int → Int → mSt → Option (Int × mSt)) (hrec : ∀ (σ : mSt) (v0 : Int) (v1 : Int) (v2 : Int) (out : Int × mSt), rec v0 v1 v2 σ = some out → mMet l yX12_cyclicAt cX12_cyclicAt 7 (some .int) (1 + d) (23 + d * 26) E 276 [vI v0, vI v1, vI v2] σ (some (vI out.1)) out.2) (v0 : Int) (v1 : Int) (v2 : Int) : ∀ (v3 : Int) (σ : mSt) (H : Heap) (locs : List Loc) (ls : Array Slot), mX12_cyclicAt_B61 rec v0 v1 v2 v3 σ = some out → mM (mA E 276) E 276 σ s H locs → lv_has ls 7 [(3, vI v3)] → mGo l p e (1 + (d + 1)) (23 + (d + 1) * 26) s m args below meth c E (some (vI out.1)) out.2 H locs (F0 m 61 ls []) := by
  intro v3 σ H locs ls hm hM hl
  unfold mX12_cyclicAt_B61 at hm
  refine r_bipush (np := 63) G 6 dX12_cyclicAt_61 (by decide) rfl ?_
  refine r_iload_n (np := 64) G hl 0 rfl dX12_cyclicAt_63 rfl rfl ?_
  refine r_bipush (np := 66) G 6 dX12_cyclicAt_64 (by decide) rfl ?_
  obtain ⟨g8, hm⟩ := g_t hm
  refine r_irem (np := 67) G g8 dX12_cyclicAt_66 rfl ?_
  refine r_isub (np := 68) G dX12_cyclicAt_67 rfl ?_
  refine r_bipush (np := 70) G 6 dX12_cyclicAt_68 (by decide) rfl ?_
  refine r_irem (np := 71) G g8 dX12_cyclicAt_70 rfl ?_
  exact r_iret G hr hk hM hm dX12_cyclicAt_71
set_option maxRecDepth 100000 in
set_option maxHeartbeats 4000000 in
theorem wX12_cyclicAt_L16 (l : Launch) (E : mE) (out : Int × mSt) {p : Program} {e : Env} {s : State} {m : MethodId} {args : Array Value} {below : List Frame} {meth : Method} {c : Code} (G : CallFix p m c cX12_cyclicAt 7 s args mTs RX12) (hr : meth.sig.returnType = (some .int)) (hk : meth.locks = false) (d : Nat) (rec : Int → Int → Int → mSt → Option (Int × mSt)) (hrec : ∀ (σ : mSt) (v0 : Int) (v1 : Int) (v2 : Int) (out : Int × mSt), rec v0 v1 v2 σ = some out → mMet l yX12_cyclicAt cX12_cyclicAt 7 (some .int) (1 + d) (23 + d * 26) E 276 [vI v0, vI v1, vI v2] σ (some (vI out.1)) out.2) (v0 : Int) (v1 : Int) (v2 : Int) (x61 : Int → mSt → Option (Int × mSt)) (hx61 : ∀ (v3 : Int) (σ : mSt) (H : Heap) (locs : List Loc) (ls : Array Slot), x61 v3 σ = some out → mM (mA E 276) E 276 σ s H locs → lv_has ls 7 [(3, vI v3)] → mGo l p e (1 + (d + 1)) (23 + (d + 1) * 26) s m args below meth c E (some (vI out.1)) out.2 H locs (F0 m 61 ls [])) : ∀ (n : Nat) (v3 : Int) (v4 : Int) (σ : mSt) (H : Heap) (locs : List Loc) (ls : Array Slot), mX12_cyclicAt_L16 rec v0 v1 v2 x61 n v3 v4 σ = some out → mM (mA E 276) E 276 σ s H locs → lv_has ls 7 [(0, vI v0), (1, vI v1), (3, vI v3), (4, vI v4)] → mGo l p e (1 + (d + 1)) (23 + (d + 1) * 26) s m args below meth c E (some (vI out.1)) out.2 H locs (F0 m 16 ls []) := by
  intro n
  induction n with
  | zero =>
    intro v3 v4 σ H locs ls hm hM hl
    exact absurd hm (by rw [mX12_cyclicAt_L16.eq_1]; exact fun h => nomatch h)
  | succ n ih =>
    intro v3 v4 σ H locs ls hm hM hl
    rw [mX12_cyclicAt_L16.eq_2] at hm
    refine r_iload (np := 18) G hl 3 rfl dX12_cyclicAt_16 rfl ?_
    refine r_sipush (np := 21) G 1000 dX12_cyclicAt_18 (by decide) rfl ?_
    refine r_icmp_ge (np := 24) (tgt := 61) G rfl (wIk 1000 rfl) dX12_cyclicAt_21 (by decide) rfl (fun h9 => ?_) (fun h9 => ?_)
    · have hm := b_t h9 hm
      exact hx61 v3 _ _ _ _ hm hM (lv_sub hl [2] rfl)
    · have hm := b_f h9 hm
      refine r_iload (np := 26) G hl 3 rfl dX12_cyclicAt_24 rfl ?_
      refine r_iload_n (np := 27) G hl 0 rfl dX12_cyclicAt_26 rfl rfl ?_
      refine r_icmp_eq (np := 30) (tgt := 55) G rfl rfl dX12_cyclicAt_27 (by decide) rfl (fun h10 => ?_) (fun h10 => ?_)
      · have hm := b_t h10 hm
        obtain ⟨a11, e12, hm⟩ := bnd_t hm
        refine r_iinc (np := 58) G hl 3 rfl e12 [(4, vI a11), (0, vI v0), (1, vI v1), (3, vI v3)] dX12_cyclicAt_55 rfl (by decide) rfl (fun ls hl => ?_)
        refine r_goto (np := 16) G dX12_cyclicAt_58 (by decide) ?_
        exact ih v3 a11 _ _ _ _ hm hM (lv_sub hl [1, 2, 3, 0] rfl)
      · have hm := b_f h10 hm
        refine r_iload_n (np := 31) G hl 1 rfl dX12_cyclicAt_30 rfl rfl ?_
        refine r_iload (np := 33) G hl 3 rfl dX12_cyclicAt_31 rfl ?_
        obtain ⟨g13, hm⟩ := g_t hm
        refine r_irem (np := 34) G g13 dX12_cyclicAt_33 rfl ?_
        refine r_if_ne (np := 37) (tgt := 55) G rfl dX12_cyclicAt_34 (by decide) rfl (fun h14 => ?_) (fun h14 => ?_)
        · have hm := b_f h14 hm
          obtain ⟨a15, e16, hm⟩ := bnd_t hm
          refine r_iinc (np := 58) G hl 3 rfl e16 [(4, vI a15), (0, vI v0), (1, vI v1), (3, vI v3)] dX12_cyclicAt_55 rfl (by decide) rfl (fun ls hl => ?_)
          refine r_goto (np := 16) G dX12_cyclicAt_58 (by decide) ?_
          exact ih v3 a15 _ _ _ _ hm hM (lv_sub hl [1, 2, 3, 0] rfl)
        · have hm := b_t h14 hm
          refine r_iload (np := 39) G hl 3 rfl dX12_cyclicAt_37 rfl ?_
          obtain ⟨b17, s18, e19, hm⟩ := call_t hm
          refine m_callSI (np := 42) G hM hl.1 [vI v4] (qX12_isPrime l E σ v4 _ e19) myX12_isPrime lkX12_248 ⟨by show _ ≤ (1 + (d + 1)); omega, by show _ ≤ (23 + (d + 1) * 26); omega⟩ ⟨Nat.le_of_ble_eq_true rfl, Nat.le_of_ble_eq_true rfl⟩ [] rfl (Nat.le_of_ble_eq_true rfl) dX12_cyclicAt_39 rfl (fun H locs hM => ?_)
          refine r_if_eq (np := 45) (tgt := 55) G rfl dX12_cyclicAt_42 (by decide) rfl (fun h20 => ?_) (fun h20 => ?_)
          · have hm := b_t h20 hm
            obtain ⟨a21, e22, hm⟩ := bnd_t hm
            refine r_iinc (np := 58) G hl 3 rfl e22 [(4, vI a21), (0, vI v0), (1, vI v1), (3, vI v3)] dX12_cyclicAt_55 rfl (by decide) rfl (fun ls hl => ?_)
            refine r_goto (np := 16) G dX12_cyclicAt_58 (by decide) ?_
            exact ih v3 a21 _ _ _ _ hm hM (lv_sub hl [1, 2, 3, 0] rfl)
          · have hm := b_f h20 hm
            refine r_iload_n (np := 46) G hl 2 rfl dX12_cyclicAt_45 rfl rfl ?_
            refine r_iload_n (np := 47) G hl 0 rfl dX12_cyclicAt_46 rfl rfl ?_
            refine r_iload_n (np := 48) G hl 1 rfl dX12_cyclicAt_47 rfl rfl ?_
            refine r_iload (np := 50) G hl 3 rfl dX12_cyclicAt_48 rfl ?_
            obtain ⟨b23, s24, e25, hm⟩ := call_t hm
            refine m_callSI (np := 53) G hM hl.1 [vI v0, vI v1, vI v4] (hrec s18 v0 v1 v4 _ e25) myX12_cyclicAt lkX12_251 ⟨by show _ ≤ (1 + (d + 1)); omega, by show _ ≤ (23 + (d + 1) * 26); omega⟩ ⟨Nat.le_of_ble_eq_true rfl, Nat.le_of_ble_eq_true rfl⟩ [vI v3] rfl (Nat.le_of_ble_eq_true rfl) dX12_cyclicAt_50 rfl (fun H locs hM => ?_)
            refine r_iadd (np := 54) G dX12_cyclicAt_53 rfl ?_
            obtain ⟨a26, e27, hm⟩ := bnd_t hm
            refine r_istore_n (np := 55) G hl e27 [(3, vI a26), (0, vI v0), (1, vI v1), (4, vI v4)] dX12_cyclicAt_54 rfl rfl (by decide) rfl (fun ls hl => ?_)
            obtain ⟨a28, e29, hm⟩ := bnd_t hm
            refine r_iinc (np := 58) G hl 3 rfl e29 [(4, vI a28), (3, vI a26), (0, vI v0), (1, vI v1)] dX12_cyclicAt_55 rfl (by decide) rfl (fun ls hl => ?_)
            refine r_goto (np := 16) G dX12_cyclicAt_58 (by decide) ?_
            exact ih a26 a28 _ _ _ _ hm hM (lv_sub hl [2, 3, 1, 0] rfl)
set_option maxRecDepth 100000 in
set_option maxHeartbeats 4000000 in
theorem qX12_cyclicAt_body (l : Launch) (E : mE) (d : Nat) (rec : Int → Int → Int → mSt → Option (Int × mSt)) (hrec : ∀ (σ : mSt) (v0 : Int) (v1 : Int) (v2 : Int) (out : Int × mSt), rec v0 v1 v2 σ = some out → mMet l yX12_cyclicAt cX12_cyclicAt 7 (some .int) (1 + d) (23 + d * 26) E 276 [vI v0, vI v1, vI v2] σ (some (vI out.1)) out.2) (σ : mSt) (v0 : Int) (v1 : Int) (v2 : Int) (out : Int × mSt) (hm : mX12_cyclicAt_body rec v0 v1 v2 σ = some out) : mMet l yX12_cyclicAt cX12_cyclicAt 7 (some .int) (1 + (d + 1)) (23 + (d + 1) * 26) E 276 [vI v0, vI v1, vI v2] σ (some (vI out.1)) out.2 := by
  unfold mX12_cyclicAt_body at hm
  refine m_entry (by decide +kernel) (Nat.le_of_ble_eq_true rfl) (fun p e s m args below meth c G hr hk hM ls hl => ?_)
  have G : CallFix p m c cX12_cyclicAt 7 s args mTs RX12 := G
  have hl : lv_has ls 7 [(0, vI v0), (1, vI v1), (2, vI v2)] := hl
  refine r_iload_n (np := 1) G hl 2 rfl dX12_cyclicAt_0 rfl rfl ?_
  refine r_if_ne (np := 4) (tgt := 6) G rfl dX12_cyclicAt_1 (by decide) rfl (fun h30 => ?_) (fun h30 => ?_)
  · have hm := b_f h30 hm
    refine r_iload_n (np := 7) G hl 2 rfl dX12_cyclicAt_6 rfl rfl ?_
    refine r_iload_n (np := 8) G hl 0 rfl dX12_cyclicAt_7 rfl rfl ?_
    refine r_icmp_ne (np := 11) (tgt := 72) G rfl rfl dX12_cyclicAt_8 (by decide) rfl (fun h31 => ?_) (fun h31 => ?_)
    · have hm := b_f h31 hm
      refine r_iload_n (np := 73) G hl 1 rfl dX12_cyclicAt_72 rfl rfl ?_
      refine r_iload_n (np := 74) G hl 2 rfl dX12_cyclicAt_73 rfl rfl ?_
      obtain ⟨b32, s33, e34, hm⟩ := call_t hm
      refine m_callSI (np := 77) G hM hl.1 [vI v1, vI v2] (qX12_often l E σ v1 v2 _ e34) myX12_often lkX12_232 ⟨by show _ ≤ (1 + (d + 1)); omega, by show _ ≤ (23 + (d + 1) * 26); omega⟩ ⟨Nat.le_of_ble_eq_true rfl, Nat.le_of_ble_eq_true rfl⟩ [] rfl (Nat.le_of_ble_eq_true rfl) dX12_cyclicAt_74 rfl (fun H locs hM => ?_)
      refine r_istore_n (np := 78) G hl rfl [(3, vI b32), (0, vI v0), (1, vI v1), (2, vI v2)] dX12_cyclicAt_77 rfl rfl (by decide) rfl (fun ls hl => ?_)
      refine r_iload_n (np := 79) G hl 0 rfl dX12_cyclicAt_78 rfl rfl ?_
      refine r_if_ne (np := 82) (tgt := 84) G rfl dX12_cyclicAt_79 (by decide) rfl (fun h35 => ?_) (fun h35 => ?_)
      · have hm := b_f h35 hm
        refine r_iload_n (np := 85) G hl 1 rfl dX12_cyclicAt_84 rfl rfl ?_
        obtain ⟨b36, s37, e38, hm⟩ := call_t hm
        refine m_callSI (np := 88) G hM hl.1 [vI v0] (qX12_generator l E s33 v0 _ e38) myX12_generator lkX12_255 ⟨by show _ ≤ (1 + (d + 1)); omega, by show _ ≤ (23 + (d + 1) * 26); omega⟩ ⟨Nat.le_of_ble_eq_true rfl, Nat.le_of_ble_eq_true rfl⟩ [] rfl (Nat.le_of_ble_eq_true rfl) dX12_cyclicAt_85 rfl (fun H locs hM => ?_)
        refine r_istore (np := 90) G hl rfl [(4, vI b36), (3, vI b32), (0, vI v0), (1, vI v1), (2, vI v2)] dX12_cyclicAt_88 rfl (by decide) rfl (fun ls hl => ?_)
        refine r_iconst (np := 91) G 0 dX12_cyclicAt_90 rfl ?_
        refine r_istore (np := 93) G hl rfl [(5, vI 0), (4, vI b36), (3, vI b32), (0, vI v0), (1, vI v1), (2, vI v2)] dX12_cyclicAt_91 rfl (by decide) rfl (fun ls hl => ?_)
        refine r_iconst (np := 94) G 1 dX12_cyclicAt_93 rfl ?_
        refine r_istore (np := 96) G hl rfl [(6, vI 1), (5, vI 0), (4, vI b36), (3, vI b32), (0, vI v0), (1, vI v1), (2, vI v2)] dX12_cyclicAt_94 rfl (by decide) rfl (fun ls hl => ?_)
        exact wX12_cyclicAt_L96 l E out G hr hk d rec hrec v0 v1 v2 b32 b36 (fun z5 zσ => mX12_cyclicAt_B119 rec v0 v1 v2 b32 z5 zσ) (fun z5 zσ zH zl zs zm zM zv => wX12_cyclicAt_B119 l E out G hr hk d rec hrec v0 v1 v2 b32 z5 zσ zH zl zs zm zM zv) mF 0 1 _ _ _ _ hm hM (lv_sub hl [4, 6, 3, 2, 1, 0] rfl)
      · have hm := b_t h35 hm
        refine r_iconst (np := 83) G 0 dX12_cyclicAt_82 rfl ?_
        exact r_iret G hr hk hM hm dX12_cyclicAt_83
    · have hm := b_t h31 hm
      refine r_iconst (np := 12) G 0 dX12_cyclicAt_11 rfl ?_
      refine r_istore_n (np := 13) G hl rfl [(3, vI 0), (0, vI v0), (1, vI v1), (2, vI v2)] dX12_cyclicAt_12 rfl rfl (by decide) rfl (fun ls hl => ?_)
      refine r_iconst (np := 14) G 2 dX12_cyclicAt_13 rfl ?_
      refine r_istore (np := 16) G hl rfl [(4, vI 2), (3, vI 0), (0, vI v0), (1, vI v1), (2, vI v2)] dX12_cyclicAt_14 rfl (by decide) rfl (fun ls hl => ?_)
      exact wX12_cyclicAt_L16 l E out G hr hk d rec hrec v0 v1 v2 (fun z3 zσ => mX12_cyclicAt_B61 rec v0 v1 v2 z3 zσ) (fun z3 zσ zH zl zs zm zM zv => wX12_cyclicAt_B61 l E out G hr hk d rec hrec v0 v1 v2 z3 zσ zH zl zs zm zM zv) mF 0 2 _ _ _ _ hm hM (lv_sub hl [2, 3, 1, 0] rfl)
  · have hm := b_t h30 hm
    refine r_iconst (np := 5) G 0 dX12_cyclicAt_4 rfl ?_
    exact r_iret G hr hk hM hm dX12_cyclicAt_5
theorem qX12_cyclicAt (l : Launch) (E : mE) : ∀ (d : Nat) (σ : mSt) (v0 : Int) (v1 : Int) (v2 : Int) (out : Int × mSt), mX12_cyclicAt d v0 v1 v2 σ = some out → mMet l yX12_cyclicAt cX12_cyclicAt 7 (some .int) (1 + d) (23 + d * 26) E 276 [vI v0, vI v1, vI v2] σ (some (vI out.1)) out.2 := by
  intro d
  induction d with
  | zero =>
    intro σ v0 v1 v2 out hm
    rw [mX12_cyclicAt.eq_1] at hm
    cases hm
  | succ d ih =>
    intro σ v0 v1 v2 out hm
    rw [mX12_cyclicAt.eq_2] at hm
    exact qX12_cyclicAt_body l E d _ ih σ v0 v1 v2 out hm
set_option maxRecDepth 100000 in
set_option maxHeartbeats 4000000 in
theorem wX12_localOf_B106 (l : Launch) (E : mE) (out : Int × mSt) {p : Program} {e : Env} {s : State} {m : MethodId} {args : Array Value} {below : List Frame} {meth : Method} {c : Code} (G : CallFix p m c cX12_localOf 5 s args mTs RX12) (hr : meth.sig.returnType = (some .int)) (hk : meth.locks = false) (d : Nat) (rec : Nat → Int → Int → mSt → Option (Int × mSt)) (hrec : ∀ (σ : mSt) (v0 : Nat) (v1 : Int) (v2 : Int) (out : Int × mSt), rec v0 v1 v2 σ = some out → mMet l yX12_localOf cX12_localOf 5 (some .int) (5 + d) (127 + d * 24) E 276 [.ref (eA E v0), vI v1, vI v2] σ (some (vI out.1)) out.2) (v0 : Nat) (v1 : Int) (v2 : Int) (g0 : isC v0 11) : ∀ (v3 : Int) (σ : mSt) (H : Heap) (locs : List Loc) (ls : Array Slot), mX12_localOf_B106 rec v0 v1 v2 v3 σ = some out → mM (mA E 276) E 276 σ s H locs → lv_has ls 5 [(3, vI v3)] → mGo l p e (5 + (d + 1)) (127 + (d + 1) * 24) s m args below meth c E (some (vI out.1)) out.2 H locs (F0 m 106 ls []) := by
  intro v3 σ H locs ls hm hM hl
  unfold mX12_localOf_B106 at hm
  refine r_iload_n (np := 107) G hl 0 rfl dX12_localOf_106 rfl rfl ?_
  refine r_bipush (np := 109) G 6 dX12_localOf_107 (by decide) rfl ?_
  obtain ⟨g1, hm⟩ := g_t hm
  refine r_irem (np := 110) G g1 dX12_localOf_109 rfl ?_
  refine r_bipush (np := 112) G 6 dX12_localOf_110 (by decide) rfl ?_
  refine r_iadd (np := 113) G dX12_localOf_112 rfl ?_
  refine r_bipush (np := 115) G 6 dX12_localOf_113 (by decide) rfl ?_
  refine r_irem (np := 116) G g1 dX12_localOf_115 rfl ?_
  exact r_iret G hr hk hM hm dX12_localOf_116
set_option maxRecDepth 100000 in
set_option maxHeartbeats 4000000 in
theorem wX12_localOf_L58 (l : Launch) (E : mE) (out : Int × mSt) {p : Program} {e : Env} {s : State} {m : MethodId} {args : Array Value} {below : List Frame} {meth : Method} {c : Code} (G : CallFix p m c cX12_localOf 5 s args mTs RX12) (hr : meth.sig.returnType = (some .int)) (hk : meth.locks = false) (d : Nat) (rec : Nat → Int → Int → mSt → Option (Int × mSt)) (hrec : ∀ (σ : mSt) (v0 : Nat) (v1 : Int) (v2 : Int) (out : Int × mSt), rec v0 v1 v2 σ = some out → mMet l yX12_localOf cX12_localOf 5 (some .int) (5 + d) (127 + d * 24) E 276 [.ref (eA E v0), vI v1, vI v2] σ (some (vI out.1)) out.2) (v0 : Nat) (v1 : Int) (v2 : Int) (g0 : isC v0 11) (x106 : Int → mSt → Option (Int × mSt)) (hx106 : ∀ (v3 : Int) (σ : mSt) (H : Heap) (locs : List Loc) (ls : Array Slot), x106 v3 σ = some out → mM (mA E 276) E 276 σ s H locs → lv_has ls 5 [(3, vI v3)] → mGo l p e (5 + (d + 1)) (127 + (d + 1) * 24) s m args below meth c E (some (vI out.1)) out.2 H locs (F0 m 106 ls [])) : ∀ (n : Nat) (v3 : Int) (v4 : Int) (σ : mSt) (H : Heap) (locs : List Loc) (ls : Array Slot), mX12_localOf_L58 rec v0 v1 v2 x106 n v3 v4 σ = some out → mM (mA E 276) E 276 σ s H locs → lv_has ls 5 [(0, .ref (eA E v0)), (1, vI v1), (2, vI v2), (3, vI v3), (4, vI v4)] → mGo l p e (5 + (d + 1)) (127 + (d + 1) * 24) s m args below meth c E (some (vI out.1)) out.2 H locs (F0 m 58 ls []) := by
  intro n
  induction n with
  | zero =>
    intro v3 v4 σ H locs ls hm hM hl
    exact absurd hm (by rw [mX12_localOf_L58.eq_1]; exact fun h => nomatch h)
  | succ n ih =>
    intro v3 v4 σ H locs ls hm hM hl
    rw [mX12_localOf_L58.eq_2] at hm
    refine r_iload (np := 60) G hl 4 rfl dX12_localOf_58 rfl ?_
    refine r_aload_n (np := 61) G hl 0 rfl dX12_localOf_60 rfl rfl ?_
    obtain ⟨r2, e3, hm⟩ := ref_t hm
    refine r_getR (np := 64) G hM (shp_lt g0 (by decide)) g0 e3 fdX12_15 lkX12_24 dX12_localOf_61 rfl ?_
    refine r_iload_n (np := 65) G hl 1 rfl dX12_localOf_64 rfl rfl ?_
    obtain ⟨g4, hm⟩ := g_t hm
    refine r_iaload (np := 66) G hM g4 rfl dX12_localOf_65 rfl ?_
    refine r_icmp_ge (np := 69) (tgt := 106) G rfl rfl dX12_localOf_66 (by decide) rfl (fun h5 => ?_) (fun h5 => ?_)
    · have hm := b_t h5 hm
      exact hx106 v3 _ _ _ _ hm hM (lv_sub hl [3] rfl)
    · have hm := b_f h5 hm
      refine r_iload_n (np := 70) G hl 3 rfl dX12_localOf_69 rfl rfl ?_
      refine r_aload_n (np := 71) G hl 0 rfl dX12_localOf_70 rfl rfl ?_
      obtain ⟨r6, e7, hm⟩ := ref_t hm
      refine r_getR (np := 74) G hM (shp_lt g0 (by decide)) g0 e7 fdX12_17 lkX12_30 dX12_localOf_71 rfl ?_
      refine r_iconst (np := 75) G 4 dX12_localOf_74 rfl ?_
      refine r_iload_n (np := 76) G hl 1 rfl dX12_localOf_75 rfl rfl ?_
      refine r_imul (np := 77) G dX12_localOf_76 rfl ?_
      refine r_iload (np := 79) G hl 4 rfl dX12_localOf_77 rfl ?_
      refine r_iadd (np := 80) G dX12_localOf_79 rfl ?_
      obtain ⟨g8, hm⟩ := g_t hm
      refine r_iaload (np := 81) G hM g8 rfl dX12_localOf_80 rfl ?_
      refine r_aload_n (np := 82) G hl 0 rfl dX12_localOf_81 rfl rfl ?_
      refine r_aload_n (np := 83) G hl 0 rfl dX12_localOf_82 rfl rfl ?_
      obtain ⟨r9, e10, hm⟩ := ref_t hm
      refine r_getR (np := 86) G hM (shp_lt g0 (by decide)) g0 e10 fdX12_18 lkX12_33 dX12_localOf_83 rfl ?_
      refine r_iconst (np := 87) G 4 dX12_localOf_86 rfl ?_
      refine r_iload_n (np := 88) G hl 1 rfl dX12_localOf_87 rfl rfl ?_
      refine r_imul (np := 89) G dX12_localOf_88 rfl ?_
      refine r_iload (np := 91) G hl 4 rfl dX12_localOf_89 rfl ?_
      refine r_iadd (np := 92) G dX12_localOf_91 rfl ?_
      obtain ⟨g11, hm⟩ := g_t hm
      refine r_iaload (np := 93) G hM g11 rfl dX12_localOf_92 rfl ?_
      refine r_iload_n (np := 94) G hl 2 rfl dX12_localOf_93 rfl rfl ?_
      obtain ⟨b12, s13, e14, hm⟩ := call_t hm
      refine m_callVI (np := 97) G hM hl.1 [vI (σ r9 (wI ((4 * v1) + v4)).toNat), vI v2] (hrec σ v0 (σ r9 (wI ((4 * v1) + v4)).toNat) v2 _ e14) myX12_localOf (shp_lt g0 (by decide)) g0 rfl (by decide) lkX12_261 ⟨by show _ ≤ (5 + (d + 1)); omega, by show _ ≤ (127 + (d + 1) * 24); omega⟩ ⟨Nat.le_of_ble_eq_true rfl, Nat.le_of_ble_eq_true rfl⟩ [vI (σ r6 (wI ((4 * v1) + v4)).toNat), vI v3] rfl (Nat.le_of_ble_eq_true rfl) dX12_localOf_94 rfl (fun H locs hM => ?_)
      refine r_imul (np := 98) G dX12_localOf_97 rfl ?_
      refine r_iadd (np := 99) G dX12_localOf_98 rfl ?_
      obtain ⟨a15, e16, hm⟩ := bnd_t hm
      refine r_istore_n (np := 100) G hl e16 [(3, vI a15), (0, .ref (eA E v0)), (1, vI v1), (2, vI v2), (4, vI v4)] dX12_localOf_99 rfl rfl (by decide) rfl (fun ls hl => ?_)
      obtain ⟨a17, e18, hm⟩ := bnd_t hm
      refine r_iinc (np := 103) G hl 4 rfl e18 [(4, vI a17), (3, vI a15), (0, .ref (eA E v0)), (1, vI v1), (2, vI v2)] dX12_localOf_100 rfl (by decide) rfl (fun ls hl => ?_)
      refine r_goto (np := 58) G dX12_localOf_103 (by decide) ?_
      exact ih a15 a17 _ _ _ _ hm hM (lv_sub hl [2, 3, 4, 1, 0] rfl)
set_option maxRecDepth 100000 in
set_option maxHeartbeats 4000000 in
theorem qX12_localOf_body (l : Launch) (E : mE) (d : Nat) (rec : Nat → Int → Int → mSt → Option (Int × mSt)) (hrec : ∀ (σ : mSt) (v0 : Nat) (v1 : Int) (v2 : Int) (out : Int × mSt), rec v0 v1 v2 σ = some out → mMet l yX12_localOf cX12_localOf 5 (some .int) (5 + d) (127 + d * 24) E 276 [.ref (eA E v0), vI v1, vI v2] σ (some (vI out.1)) out.2) (σ : mSt) (v0 : Nat) (v1 : Int) (v2 : Int) (out : Int × mSt) (hm : mX12_localOf_body rec v0 v1 v2 σ = some out) : mMet l yX12_localOf cX12_localOf 5 (some .int) (5 + (d + 1)) (127 + (d + 1) * 24) E 276 [.ref (eA E v0), vI v1, vI v2] σ (some (vI out.1)) out.2 := by
  unfold mX12_localOf_body at hm
  obtain ⟨g0, hm⟩ := g_t hm
  refine m_entry (by decide +kernel) (Nat.le_of_ble_eq_true rfl) (fun p e s m args below meth c G hr hk hM ls hl => ?_)
  have G : CallFix p m c cX12_localOf 5 s args mTs RX12 := G
  have hl : lv_has ls 5 [(0, .ref (eA E v0)), (1, vI v1), (2, vI v2)] := hl
  refine r_aload_n (np := 1) G hl 0 rfl dX12_localOf_0 rfl rfl ?_
  obtain ⟨r19, e20, hm⟩ := ref_t hm
  refine r_getR (np := 4) G hM (shp_lt g0 (by decide)) g0 e20 fdX12_14 lkX12_21 dX12_localOf_1 rfl ?_
  refine r_iload_n (np := 5) G hl 1 rfl dX12_localOf_4 rfl rfl ?_
  obtain ⟨g21, hm⟩ := g_t hm
  refine r_iaload (np := 6) G hM g21 rfl dX12_localOf_5 rfl ?_
  refine r_if_ne (np := 9) (tgt := 26) G rfl dX12_localOf_6 (by decide) rfl (fun h22 => ?_) (fun h22 => ?_)
  · have hm := b_f h22 hm
    refine r_aload_n (np := 27) G hl 0 rfl dX12_localOf_26 rfl rfl ?_
    obtain ⟨r23, e24, hm⟩ := ref_t hm
    refine r_getR (np := 30) G hM (shp_lt g0 (by decide)) g0 e24 fdX12_14 lkX12_21 dX12_localOf_27 rfl ?_
    refine r_iload_n (np := 31) G hl 1 rfl dX12_localOf_30 rfl rfl ?_
    obtain ⟨g25, hm⟩ := g_t hm
    refine r_iaload (np := 32) G hM g25 rfl dX12_localOf_31 rfl ?_
    refine r_iconst (np := 33) G 1 dX12_localOf_32 rfl ?_
    refine r_icmp_ne (np := 36) (tgt := 53) G rfl (wIk 1 rfl) dX12_localOf_33 (by decide) rfl (fun h26 => ?_) (fun h26 => ?_)
    · have hm := b_f h26 hm
      refine r_iconst (np := 54) G 0 dX12_localOf_53 rfl ?_
      refine r_istore_n (np := 55) G hl rfl [(3, vI 0), (0, .ref (eA E v0)), (1, vI v1), (2, vI v2)] dX12_localOf_54 rfl rfl (by decide) rfl (fun ls hl => ?_)
      refine r_iconst (np := 56) G 0 dX12_localOf_55 rfl ?_
      refine r_istore (np := 58) G hl rfl [(4, vI 0), (3, vI 0), (0, .ref (eA E v0)), (1, vI v1), (2, vI v2)] dX12_localOf_56 rfl (by decide) rfl (fun ls hl => ?_)
      exact wX12_localOf_L58 l E out G hr hk d rec hrec v0 v1 v2 g0 (fun z3 zσ => mX12_localOf_B106 rec v0 v1 v2 z3 zσ) (fun z3 zσ zH zl zs zm zM zv => wX12_localOf_B106 l E out G hr hk d rec hrec v0 v1 v2 g0 z3 zσ zH zl zs zm zM zv) mF 0 0 _ _ _ _ hm hM (lv_sub hl [2, 3, 4, 1, 0] rfl)
    · have hm := b_t h26 hm
      refine r_aload_n (np := 37) G hl 0 rfl dX12_localOf_36 rfl rfl ?_
      obtain ⟨r27, e28, hm⟩ := ref_t hm
      refine r_getR (np := 40) G hM (shp_lt g0 (by decide)) g0 e28 fdX12_15 lkX12_24 dX12_localOf_37 rfl ?_
      refine r_iload_n (np := 41) G hl 1 rfl dX12_localOf_40 rfl rfl ?_
      obtain ⟨g29, hm⟩ := g_t hm
      refine r_iaload (np := 42) G hM g29 rfl dX12_localOf_41 rfl ?_
      refine r_aload_n (np := 43) G hl 0 rfl dX12_localOf_42 rfl rfl ?_
      obtain ⟨r30, e31, hm⟩ := ref_t hm
      refine r_getR (np := 46) G hM (shp_lt g0 (by decide)) g0 e31 fdX12_16 lkX12_27 dX12_localOf_43 rfl ?_
      refine r_iload_n (np := 47) G hl 1 rfl dX12_localOf_46 rfl rfl ?_
      obtain ⟨g32, hm⟩ := g_t hm
      refine r_iaload (np := 48) G hM g32 rfl dX12_localOf_47 rfl ?_
      refine r_iload_n (np := 49) G hl 2 rfl dX12_localOf_48 rfl rfl ?_
      obtain ⟨b33, s34, e35, hm⟩ := call_t hm
      refine m_callSI (np := 52) G hM hl.1 [vI (σ r27 (wI v1).toNat), vI (σ r30 (wI v1).toNat), vI v2] (qX12_cyclicAt l E 3 σ (σ r27 (wI v1).toNat) (σ r30 (wI v1).toNat) v2 _ e35) myX12_cyclicAt lkX12_251 ⟨by show _ ≤ (5 + (d + 1)); omega, by show _ ≤ (127 + (d + 1) * 24); omega⟩ ⟨Nat.le_of_ble_eq_true rfl, Nat.le_of_ble_eq_true rfl⟩ [] rfl (Nat.le_of_ble_eq_true rfl) dX12_localOf_49 rfl (fun H locs hM => ?_)
      exact r_iret G hr hk hM hm dX12_localOf_52
  · have hm := b_t h22 hm
    refine r_aload_n (np := 10) G hl 0 rfl dX12_localOf_9 rfl rfl ?_
    obtain ⟨r36, e37, hm⟩ := ref_t hm
    refine r_getR (np := 13) G hM (shp_lt g0 (by decide)) g0 e37 fdX12_15 lkX12_24 dX12_localOf_10 rfl ?_
    refine r_iload_n (np := 14) G hl 1 rfl dX12_localOf_13 rfl rfl ?_
    obtain ⟨g38, hm⟩ := g_t hm
    refine r_iaload (np := 15) G hM g38 rfl dX12_localOf_14 rfl ?_
    refine r_aload_n (np := 16) G hl 0 rfl dX12_localOf_15 rfl rfl ?_
    obtain ⟨r39, e40, hm⟩ := ref_t hm
    refine r_getR (np := 19) G hM (shp_lt g0 (by decide)) g0 e40 fdX12_16 lkX12_27 dX12_localOf_16 rfl ?_
    refine r_iload_n (np := 20) G hl 1 rfl dX12_localOf_19 rfl rfl ?_
    obtain ⟨g41, hm⟩ := g_t hm
    refine r_iaload (np := 21) G hM g41 rfl dX12_localOf_20 rfl ?_
    refine r_iload_n (np := 22) G hl 2 rfl dX12_localOf_21 rfl rfl ?_
    obtain ⟨b42, s43, e44, hm⟩ := call_t hm
    refine m_callSI (np := 25) G hM hl.1 [vI (σ r36 (wI v1).toNat), vI (σ r39 (wI v1).toNat), vI v2] (qX12_quaternionAt l E σ (σ r36 (wI v1).toNat) (σ r39 (wI v1).toNat) v2 _ e44) myX12_quaternionAt lkX12_258 ⟨by show _ ≤ (5 + (d + 1)); omega, by show _ ≤ (127 + (d + 1) * 24); omega⟩ ⟨Nat.le_of_ble_eq_true rfl, Nat.le_of_ble_eq_true rfl⟩ [] rfl (Nat.le_of_ble_eq_true rfl) dX12_localOf_22 rfl (fun H locs hM => ?_)
    exact r_iret G hr hk hM hm dX12_localOf_25
theorem qX12_localOf (l : Launch) (E : mE) : ∀ (d : Nat) (σ : mSt) (v0 : Nat) (v1 : Int) (v2 : Int) (out : Int × mSt), mX12_localOf d v0 v1 v2 σ = some out → mMet l yX12_localOf cX12_localOf 5 (some .int) (5 + d) (127 + d * 24) E 276 [.ref (eA E v0), vI v1, vI v2] σ (some (vI out.1)) out.2 := by
  intro d
  induction d with
  | zero =>
    intro σ v0 v1 v2 out hm
    rw [mX12_localOf.eq_1] at hm
    cases hm
  | succ d ih =>
    intro σ v0 v1 v2 out hm
    rw [mX12_localOf.eq_2] at hm
    exact qX12_localOf_body l E d _ ih σ v0 v1 v2 out hm
theorem gX12_localOf {d : Nat} {v0 : Nat} {v1 : Int} {v2 : Int} {σ : mSt} {out : Int × mSt} (hm : mX12_localOf (d + 1) v0 v1 v2 σ = some out) : isC v0 11 := by
  rw [mX12_localOf.eq_2] at hm
  exact (g_t hm).1
set_option maxRecDepth 100000 in
set_option maxHeartbeats 4000000 in
theorem wX12_local_B40 (l : Launch) (E : mE) (out : Int × mSt) {p : Program} {e : Env} {s : State} {m : MethodId} {args : Array Value} {below : List Frame} {meth : Method} {c : Code} (G : CallFix p m c cX12_local 3 s args mTs RX12) (hr : meth.sig.returnType = (some .int)) (hk : meth.locks = false) (v0 : Nat) (v1 : Int) (v2 : Int) (g0 : isC v0 11) : ∀ (σ : mSt) (H : Heap) (locs : List Loc) (ls : Array Slot), mX12_local_B40 v0 v1 v2 σ = some out → mM (mA E 276) E 276 σ s H locs → lv_has ls 3 [(0, .ref (eA E v0)), (1, vI v1), (2, vI v2)] → mGo l p e 15 367 s m args below meth c E (some (vI out.1)) out.2 H locs (F0 m 40 ls []) := by
  intro σ H locs ls hm hM hl
  unfold mX12_local_B40 at hm
  refine r_iload_n (np := 41) G hl 2 rfl dX12_local_40 rfl rfl ?_
  refine r_sipush (np := 44) G 1000 dX12_local_41 (by decide) rfl ?_
  refine r_icmp_ge (np := 47) (tgt := 56) G rfl (wIk 1000 rfl) dX12_local_44 (by decide) rfl (fun h1 => ?_) (fun h1 => ?_)
  · have hm := b_t h1 hm
    refine r_iconst (np := 57) G 0 dX12_local_56 rfl ?_
    exact r_iret G hr hk hM hm dX12_local_57
  · have hm := b_f h1 hm
    refine r_aload_n (np := 48) G hl 0 rfl dX12_local_47 rfl rfl ?_
    refine r_iload_n (np := 49) G hl 1 rfl dX12_local_48 rfl rfl ?_
    refine r_iload_n (np := 50) G hl 2 rfl dX12_local_49 rfl rfl ?_
    obtain ⟨b2, s3, e4, hm⟩ := call_t hm
    refine m_callVI (np := 53) G hM hl.1 [vI v1, vI v2] (qX12_localOf l E 9 σ v0 v1 v2 _ e4) myX12_localOf (shp_lt (gX12_localOf e4) (by decide)) (gX12_localOf e4) rfl (by decide) lkX12_261 ⟨Nat.le_of_ble_eq_true rfl, Nat.le_of_ble_eq_true rfl⟩ ⟨Nat.le_of_ble_eq_true rfl, Nat.le_of_ble_eq_true rfl⟩ [] rfl (Nat.le_of_ble_eq_true rfl) dX12_local_50 rfl (fun H locs hM => ?_)
    refine r_goto (np := 57) G dX12_local_53 (by decide) ?_
    exact r_iret G hr hk hM hm dX12_local_57
set_option maxRecDepth 100000 in
set_option maxHeartbeats 4000000 in
theorem qX12_local (l : Launch) (E : mE) (σ : mSt) (v0 : Nat) (v1 : Int) (v2 : Int) (out : Int × mSt) (hm : mX12_local v0 v1 v2 σ = some out) : mMet l yX12_local cX12_local 3 (some .int) 15 367 E 276 [.ref (eA E v0), vI v1, vI v2] σ (some (vI out.1)) out.2 := by
  unfold mX12_local at hm
  obtain ⟨g0, hm⟩ := g_t hm
  refine m_entry (by decide +kernel) (Nat.le_of_ble_eq_true rfl) (fun p e s m args below meth c G hr hk hM ls hl => ?_)
  have G : CallFix p m c cX12_local 3 s args mTs RX12 := G
  have hl : lv_has ls 3 [(0, .ref (eA E v0)), (1, vI v1), (2, vI v2)] := hl
  refine r_aload_n (np := 1) G hl 0 rfl dX12_local_0 rfl rfl ?_
  refine r_iconst (np := 2) G 0 dX12_local_1 rfl ?_
  obtain ⟨s5, e6, hm⟩ := bnd_t hm
  refine r_putI (np := 5) G hM (shp_lt g0 (by decide)) g0 ptX12_0 rfl lkX12_75 s5 e6 dX12_local_2 rfl (fun H locs hM => ?_)
  refine r_aload_n (np := 6) G hl 0 rfl dX12_local_5 rfl rfl ?_
  refine r_iload_n (np := 7) G hl 1 rfl dX12_local_6 rfl rfl ?_
  obtain ⟨b7, s8, e9, hm⟩ := call_t hm
  refine m_callVI (np := 10) G hM hl.1 [vI v1] (qX12_isAlgebra l E s5 v0 v1 _ e9) myX12_isAlgebra (shp_lt (gX12_isAlgebra e9) (by decide)) (gX12_isAlgebra e9) rfl (by decide) lkX12_219 ⟨Nat.le_of_ble_eq_true rfl, Nat.le_of_ble_eq_true rfl⟩ ⟨Nat.le_of_ble_eq_true rfl, Nat.le_of_ble_eq_true rfl⟩ [] rfl (Nat.le_of_ble_eq_true rfl) dX12_local_7 rfl (fun H locs hM => ?_)
  refine r_if_eq (np := 13) (tgt := 38) G rfl dX12_local_10 (by decide) rfl (fun h10 => ?_) (fun h10 => ?_)
  · have hm := b_t h10 hm
    refine r_iconst (np := 39) G (-1) dX12_local_38 rfl ?_
    exact r_iret G hr hk hM hm dX12_local_39
  · have hm := b_f h10 hm
    refine r_iload_n (np := 14) G hl 2 rfl dX12_local_13 rfl rfl ?_
    refine r_if_eq (np := 17) (tgt := 40) G rfl dX12_local_14 (by decide) rfl (fun h11 => ?_) (fun h11 => ?_)
    · have hm := b_t h11 hm
      exact wX12_local_B40 l E out G hr hk v0 v1 v2 g0 _ _ _ _ hm hM (lv_sub hl [0, 1, 2] rfl)
    · have hm := b_f h11 hm
      refine r_iload_n (np := 18) G hl 2 rfl dX12_local_17 rfl rfl ?_
      refine r_i2l (np := 19) G rfl dX12_local_18 rfl ?_
      refine r_ldc2 (np := 22) G 2 dX12_local_19 lkX12_264 rfl rfl ?_
      refine r_ldc2 (np := 25) G 60000 dX12_local_22 lkX12_266 rfl rfl ?_
      obtain ⟨b12, s13, e14, hm⟩ := call_t hm
      refine m_callSI (np := 28) G hM hl.1 [vL (wI v2), vL 2, vL 60000] (qX12_within l E s8 (wI v2) 2 60000 _ e14) myX12_within lkX12_113 ⟨Nat.le_of_ble_eq_true rfl, Nat.le_of_ble_eq_true rfl⟩ ⟨Nat.le_of_ble_eq_true rfl, Nat.le_of_ble_eq_true rfl⟩ [] rfl (Nat.le_of_ble_eq_true rfl) dX12_local_25 rfl (fun H locs hM => ?_)
      refine r_if_eq (np := 31) (tgt := 38) G rfl dX12_local_28 (by decide) rfl (fun h15 => ?_) (fun h15 => ?_)
      · have hm := b_t h15 hm
        refine r_iconst (np := 39) G (-1) dX12_local_38 rfl ?_
        exact r_iret G hr hk hM hm dX12_local_39
      · have hm := b_f h15 hm
        refine r_iload_n (np := 32) G hl 2 rfl dX12_local_31 rfl rfl ?_
        obtain ⟨b16, s17, e18, hm⟩ := call_t hm
        refine m_callSI (np := 35) G hM hl.1 [vI v2] (qX12_isPrime l E s13 v2 _ e18) myX12_isPrime lkX12_248 ⟨Nat.le_of_ble_eq_true rfl, Nat.le_of_ble_eq_true rfl⟩ ⟨Nat.le_of_ble_eq_true rfl, Nat.le_of_ble_eq_true rfl⟩ [] rfl (Nat.le_of_ble_eq_true rfl) dX12_local_32 rfl (fun H locs hM => ?_)
        refine r_if_ne (np := 38) (tgt := 40) G rfl dX12_local_35 (by decide) rfl (fun h19 => ?_) (fun h19 => ?_)
        · have hm := b_f h19 hm
          exact wX12_local_B40 l E out G hr hk v0 v1 v2 g0 _ _ _ _ hm hM (lv_sub hl [0, 1, 2] rfl)
        · have hm := b_t h19 hm
          refine r_iconst (np := 39) G (-1) dX12_local_38 rfl ?_
          exact r_iret G hr hk hM hm dX12_local_39
theorem gX12_local {v0 : Nat} {v1 : Int} {v2 : Int} {σ : mSt} {out : Int × mSt} (hm : mX12_local v0 v1 v2 σ = some out) : isC v0 11 := (g_t hm).1
set_option maxRecDepth 100000 in
set_option maxHeartbeats 4000000 in
theorem wX12_placeBehind_B39 (l : Launch) (E : mE) (out : Int × mSt) {p : Program} {e : Env} {s : State} {m : MethodId} {args : Array Value} {below : List Frame} {meth : Method} {c : Code} (G : CallFix p m c cX12_placeBehind 4 s args mTs RX12) (hr : meth.sig.returnType = (some .int)) (hk : meth.locks = false) (v0 : Nat) (v1 : Int) (v2 : Int) (g0 : isC v0 11) : ∀ (σ : mSt) (H : Heap) (locs : List Loc) (ls : Array Slot), mX12_placeBehind_B39 v0 v1 v2 σ = some out → mM (mA E 276) E 276 σ s H locs → lv_has ls 4 [] → mGo l p e 15 367 s m args below meth c E (some (vI out.1)) out.2 H locs (F0 m 39 ls []) := by
  intro σ H locs ls hm hM hl
  unfold mX12_placeBehind_B39 at hm
  refine r_iconst (np := 40) G (-1) dX12_placeBehind_39 rfl ?_
  exact r_iret G hr hk hM hm dX12_placeBehind_40
set_option maxRecDepth 100000 in
set_option maxHeartbeats 4000000 in
theorem wX12_placeBehind_B22 (l : Launch) (E : mE) (out : Int × mSt) {p : Program} {e : Env} {s : State} {m : MethodId} {args : Array Value} {below : List Frame} {meth : Method} {c : Code} (G : CallFix p m c cX12_placeBehind 4 s args mTs RX12) (hr : meth.sig.returnType = (some .int)) (hk : meth.locks = false) (v0 : Nat) (v1 : Int) (v2 : Int) (g0 : isC v0 11) (c4 : Int → mSt → Option (Int × mSt)) (x39 : mSt → Option (Int × mSt)) (hc4 : ∀ (v3 : Int) (σ : mSt) (H : Heap) (locs : List Loc) (ls : Array Slot), c4 v3 σ = some out → mM (mA E 276) E 276 σ s H locs → lv_has ls 4 [(0, .ref (eA E v0)), (1, vI v1), (3, vI v3)] → mGo l p e 15 367 s m args below meth c E (some (vI out.1)) out.2 H locs (F0 m 4 ls [])) (hx39 : ∀ (σ : mSt) (H : Heap) (locs : List Loc) (ls : Array Slot), x39 σ = some out → mM (mA E 276) E 276 σ s H locs → lv_has ls 4 [] → mGo l p e 15 367 s m args below meth c E (some (vI out.1)) out.2 H locs (F0 m 39 ls [])) : ∀ (v3 : Int) (σ : mSt) (H : Heap) (locs : List Loc) (ls : Array Slot), mX12_placeBehind_B22 v0 v1 v2 c4 x39 v3 σ = some out → mM (mA E 276) E 276 σ s H locs → lv_has ls 4 [(0, .ref (eA E v0)), (1, vI v1), (3, vI v3)] → mGo l p e 15 367 s m args below meth c E (some (vI out.1)) out.2 H locs (F0 m 22 ls []) := by
  intro v3 σ H locs ls hm hM hl
  unfold mX12_placeBehind_B22 at hm
  refine r_aload_n (np := 23) G hl 0 rfl dX12_placeBehind_22 rfl rfl ?_
  refine r_iload_n (np := 24) G hl 1 rfl dX12_placeBehind_23 rfl rfl ?_
  refine r_iload_n (np := 25) G hl 2 rfl dX12_placeBehind_24 rfl rfl ?_
  obtain ⟨b1, s2, e3, hm⟩ := call_t hm
  refine m_callVI (np := 28) G hM hl.1 [vI v1, vI v3] (qX12_localOf l E 9 σ v0 v1 v3 _ e3) myX12_localOf (shp_lt (gX12_localOf e3) (by decide)) (gX12_localOf e3) rfl (by decide) lkX12_261 ⟨Nat.le_of_ble_eq_true rfl, Nat.le_of_ble_eq_true rfl⟩ ⟨Nat.le_of_ble_eq_true rfl, Nat.le_of_ble_eq_true rfl⟩ [] rfl (Nat.le_of_ble_eq_true rfl) dX12_placeBehind_25 rfl (fun H locs hM => ?_)
  refine r_if_eq (np := 31) (tgt := 33) G rfl dX12_placeBehind_28 (by decide) rfl (fun h4 => ?_) (fun h4 => ?_)
  · have hm := b_t h4 hm
    obtain ⟨a5, e6, hm⟩ := bnd_t hm
    refine r_iinc (np := 36) G hl 2 rfl e6 [(3, vI a5), (0, .ref (eA E v0)), (1, vI v1)] dX12_placeBehind_33 rfl (by decide) rfl (fun ls hl => ?_)
    refine r_goto (np := 4) G dX12_placeBehind_36 (by decide) ?_
    exact hc4 a5 _ _ _ _ hm hM (lv_sub hl [1, 2, 0] rfl)
  · have hm := b_f h4 hm
    refine r_iload_n (np := 32) G hl 2 rfl dX12_placeBehind_31 rfl rfl ?_
    exact r_iret G hr hk hM hm dX12_placeBehind_32
set_option maxRecDepth 100000 in
set_option maxHeartbeats 4000000 in
theorem wX12_placeBehind_L4 (l : Launch) (E : mE) (out : Int × mSt) {p : Program} {e : Env} {s : State} {m : MethodId} {args : Array Value} {below : List Frame} {meth : Method} {c : Code} (G : CallFix p m c cX12_placeBehind 4 s args mTs RX12) (hr : meth.sig.returnType = (some .int)) (hk : meth.locks = false) (v0 : Nat) (v1 : Int) (v2 : Int) (g0 : isC v0 11) (x39 : mSt → Option (Int × mSt)) (hx39 : ∀ (σ : mSt) (H : Heap) (locs : List Loc) (ls : Array Slot), x39 σ = some out → mM (mA E 276) E 276 σ s H locs → lv_has ls 4 [] → mGo l p e 15 367 s m args below meth c E (some (vI out.1)) out.2 H locs (F0 m 39 ls [])) : ∀ (n : Nat) (v3 : Int) (σ : mSt) (H : Heap) (locs : List Loc) (ls : Array Slot), mX12_placeBehind_L4 v0 v1 v2 x39 n v3 σ = some out → mM (mA E 276) E 276 σ s H locs → lv_has ls 4 [(0, .ref (eA E v0)), (1, vI v1), (3, vI v3)] → mGo l p e 15 367 s m args below meth c E (some (vI out.1)) out.2 H locs (F0 m 4 ls []) := by
  intro n
  induction n with
  | zero =>
    intro v3 σ H locs ls hm hM hl
    exact absurd hm (by rw [mX12_placeBehind_L4.eq_1]; exact fun h => nomatch h)
  | succ n ih =>
    intro v3 σ H locs ls hm hM hl
    rw [mX12_placeBehind_L4.eq_2] at hm
    refine r_iload_n (np := 5) G hl 2 rfl dX12_placeBehind_4 rfl rfl ?_
    refine r_sipush (np := 8) G 1000 dX12_placeBehind_5 (by decide) rfl ?_
    refine r_icmp_ge (np := 11) (tgt := 39) G rfl (wIk 1000 rfl) dX12_placeBehind_8 (by decide) rfl (fun h7 => ?_) (fun h7 => ?_)
    · have hm := b_t h7 hm
      exact hx39 _ _ _ _ hm hM (lv_sub hl [] rfl)
    · have hm := b_f h7 hm
      refine r_iload_n (np := 12) G hl 2 rfl dX12_placeBehind_11 rfl rfl ?_
      refine r_if_eq (np := 15) (tgt := 22) G rfl dX12_placeBehind_12 (by decide) rfl (fun h8 => ?_) (fun h8 => ?_)
      · have hm := b_t h8 hm
        exact wX12_placeBehind_B22 l E out G hr hk v0 v1 v2 g0 (mX12_placeBehind_L4 v0 v1 v2 x39 n) x39 ih hx39 v3 _ _ _ _ hm hM (lv_sub hl [0, 1, 2] rfl)
      · have hm := b_f h8 hm
        refine r_iload_n (np := 16) G hl 2 rfl dX12_placeBehind_15 rfl rfl ?_
        obtain ⟨b9, s10, e11, hm⟩ := call_t hm
        refine m_callSI (np := 19) G hM hl.1 [vI v3] (qX12_isPrime l E σ v3 _ e11) myX12_isPrime lkX12_248 ⟨Nat.le_of_ble_eq_true rfl, Nat.le_of_ble_eq_true rfl⟩ ⟨Nat.le_of_ble_eq_true rfl, Nat.le_of_ble_eq_true rfl⟩ [] rfl (Nat.le_of_ble_eq_true rfl) dX12_placeBehind_16 rfl (fun H locs hM => ?_)
        refine r_if_eq (np := 22) (tgt := 33) G rfl dX12_placeBehind_19 (by decide) rfl (fun h12 => ?_) (fun h12 => ?_)
        · have hm := b_t h12 hm
          obtain ⟨a13, e14, hm⟩ := bnd_t hm
          refine r_iinc (np := 36) G hl 2 rfl e14 [(3, vI a13), (0, .ref (eA E v0)), (1, vI v1)] dX12_placeBehind_33 rfl (by decide) rfl (fun ls hl => ?_)
          refine r_goto (np := 4) G dX12_placeBehind_36 (by decide) ?_
          exact ih a13 _ _ _ _ hm hM (lv_sub hl [1, 2, 0] rfl)
        · have hm := b_f h12 hm
          exact wX12_placeBehind_B22 l E out G hr hk v0 v1 v2 g0 (mX12_placeBehind_L4 v0 v1 v2 x39 n) x39 ih hx39 v3 _ _ _ _ hm hM (lv_sub hl [0, 1, 2] rfl)
set_option maxRecDepth 100000 in
set_option maxHeartbeats 4000000 in
theorem qX12_placeBehind (l : Launch) (E : mE) (σ : mSt) (v0 : Nat) (v1 : Int) (v2 : Int) (out : Int × mSt) (hm : mX12_placeBehind v0 v1 v2 σ = some out) : mMet l yX12_placeBehind cX12_placeBehind 4 (some .int) 15 367 E 276 [.ref (eA E v0), vI v1, vI v2] σ (some (vI out.1)) out.2 := by
  unfold mX12_placeBehind at hm
  obtain ⟨g0, hm⟩ := g_t hm
  refine m_entry (by decide +kernel) (Nat.le_of_ble_eq_true rfl) (fun p e s m args below meth c G hr hk hM ls hl => ?_)
  have G : CallFix p m c cX12_placeBehind 4 s args mTs RX12 := G
  have hl : lv_has ls 4 [(0, .ref (eA E v0)), (1, vI v1), (2, vI v2)] := hl
  refine r_iload_n (np := 1) G hl 2 rfl dX12_placeBehind_0 rfl rfl ?_
  refine r_iconst (np := 2) G 1 dX12_placeBehind_1 rfl ?_
  refine r_iadd (np := 3) G dX12_placeBehind_2 rfl ?_
  obtain ⟨a15, e16, hm⟩ := bnd_t hm
  refine r_istore_n (np := 4) G hl e16 [(3, vI a15), (0, .ref (eA E v0)), (1, vI v1), (2, vI v2)] dX12_placeBehind_3 rfl rfl (by decide) rfl (fun ls hl => ?_)
  exact wX12_placeBehind_L4 l E out G hr hk v0 v1 v2 g0 (fun zσ => mX12_placeBehind_B39 v0 v1 v2 zσ) (fun zσ zH zl zs zm zM zv => wX12_placeBehind_B39 l E out G hr hk v0 v1 v2 g0 zσ zH zl zs zm zM zv) mF a15 _ _ _ _ hm hM (lv_sub hl [1, 2, 0] rfl)
theorem gX12_placeBehind {v0 : Nat} {v1 : Int} {v2 : Int} {σ : mSt} {out : Int × mSt} (hm : mX12_placeBehind v0 v1 v2 σ = some out) : isC v0 11 := (g_t hm).1
set_option maxRecDepth 100000 in
set_option maxHeartbeats 4000000 in
theorem wX12_place_B59 (l : Launch) (E : mE) (out : Int × mSt) {p : Program} {e : Env} {s : State} {m : MethodId} {args : Array Value} {below : List Frame} {meth : Method} {c : Code} (G : CallFix p m c cX12_place 5 s args mTs RX12) (hr : meth.sig.returnType = (some .int)) (hk : meth.locks = false) (v0 : Nat) (v1 : Int) (v2 : Int) (g0 : isC v0 11) : ∀ (v3 : Int) (σ : mSt) (H : Heap) (locs : List Loc) (ls : Array Slot), mX12_place_B59 v0 v1 v2 v3 σ = some out → mM (mA E 276) E 276 σ s H locs → lv_has ls 5 [(2, vI v2), (3, vI v3)] → mGo l p e 16 390 s m args below meth c E (some (vI out.1)) out.2 H locs (F0 m 59 ls []) := by
  intro v3 σ H locs ls hm hM hl
  unfold mX12_place_B59 at hm
  refine r_iload_n (np := 60) G hl 0 rfl dX12_place_59 rfl rfl ?_
  refine r_iconst (np := 61) G (-1) dX12_place_60 rfl ?_
  refine r_icmp_ne (np := 64) (tgt := 68) G rfl (wIk (-1) rfl) dX12_place_61 (by decide) rfl (fun h1 => ?_) (fun h1 => ?_)
  · have hm := b_f h1 hm
    refine r_bipush (np := 70) G (-2) dX12_place_68 (by decide) rfl ?_
    exact r_iret G hr hk hM hm dX12_place_70
  · have hm := b_t h1 hm
    refine r_iload_n (np := 65) G hl 1 rfl dX12_place_64 rfl rfl ?_
    refine r_goto (np := 70) G dX12_place_65 (by decide) ?_
    exact r_iret G hr hk hM hm dX12_place_70
set_option maxRecDepth 100000 in
set_option maxHeartbeats 4000000 in
theorem wX12_place_L31 (l : Launch) (E : mE) (out : Int × mSt) {p : Program} {e : Env} {s : State} {m : MethodId} {args : Array Value} {below : List Frame} {meth : Method} {c : Code} (G : CallFix p m c cX12_place 5 s args mTs RX12) (hr : meth.sig.returnType = (some .int)) (hk : meth.locks = false) (v0 : Nat) (v1 : Int) (v2 : Int) (g0 : isC v0 11) (x59 : Int → mSt → Option (Int × mSt)) (hx59 : ∀ (v3 : Int) (σ : mSt) (H : Heap) (locs : List Loc) (ls : Array Slot), x59 v3 σ = some out → mM (mA E 276) E 276 σ s H locs → lv_has ls 5 [(2, vI v2), (3, vI v3)] → mGo l p e 16 390 s m args below meth c E (some (vI out.1)) out.2 H locs (F0 m 59 ls [])) : ∀ (n : Nat) (v3 : Int) (v4 : Int) (σ : mSt) (H : Heap) (locs : List Loc) (ls : Array Slot), mX12_place_L31 v0 v1 v2 x59 n v3 v4 σ = some out → mM (mA E 276) E 276 σ s H locs → lv_has ls 5 [(0, .ref (eA E v0)), (1, vI v1), (2, vI v2), (3, vI v3), (4, vI v4)] → mGo l p e 16 390 s m args below meth c E (some (vI out.1)) out.2 H locs (F0 m 31 ls []) := by
  intro n
  induction n with
  | zero =>
    intro v3 v4 σ H locs ls hm hM hl
    exact absurd hm (by rw [mX12_place_L31.eq_1]; exact fun h => nomatch h)
  | succ n ih =>
    intro v3 v4 σ H locs ls hm hM hl
    rw [mX12_place_L31.eq_2] at hm
    refine r_iload (np := 33) G hl 4 rfl dX12_place_31 rfl ?_
    refine r_if_lt (np := 36) (tgt := 59) G rfl dX12_place_33 (by decide) rfl (fun h2 => ?_) (fun h2 => ?_)
    · have hm := b_t h2 hm
      exact hx59 v3 _ _ _ _ hm hM (lv_sub hl [2, 3] rfl)
    · have hm := b_f h2 hm
      refine r_iload_n (np := 37) G hl 3 rfl dX12_place_36 rfl rfl ?_
      refine r_iload_n (np := 38) G hl 2 rfl dX12_place_37 rfl rfl ?_
      refine r_icmp_ne (np := 41) (tgt := 44) G rfl rfl dX12_place_38 (by decide) rfl (fun h3 => ?_) (fun h3 => ?_)
      · have hm := b_f h3 hm
        obtain ⟨a4, e5, hm⟩ := bnd_t hm
        refine r_iinc (np := 47) G hl 3 rfl e5 [(3, vI a4), (0, .ref (eA E v0)), (1, vI v1), (2, vI v2), (4, vI v4)] dX12_place_44 rfl (by decide) rfl (fun ls hl => ?_)
        refine r_aload_n (np := 48) G hl 1 rfl dX12_place_47 rfl rfl ?_
        refine r_iload_n (np := 49) G hl 2 rfl dX12_place_48 rfl rfl ?_
        refine r_iload (np := 51) G hl 4 rfl dX12_place_49 rfl ?_
        obtain ⟨b6, s7, e8, hm⟩ := call_t hm
        refine m_callVI (np := 54) G hM hl.1 [vI v1, vI v4] (qX12_placeBehind l E σ v0 v1 v4 _ e8) myX12_placeBehind (shp_lt (gX12_placeBehind e8) (by decide)) (gX12_placeBehind e8) rfl (by decide) lkX12_268 ⟨Nat.le_of_ble_eq_true rfl, Nat.le_of_ble_eq_true rfl⟩ ⟨Nat.le_of_ble_eq_true rfl, Nat.le_of_ble_eq_true rfl⟩ [] rfl (Nat.le_of_ble_eq_true rfl) dX12_place_51 rfl (fun H locs hM => ?_)
        refine r_istore (np := 56) G hl rfl [(4, vI b6), (3, vI a4), (0, .ref (eA E v0)), (1, vI v1), (2, vI v2)] dX12_place_54 rfl (by decide) rfl (fun ls hl => ?_)
        refine r_goto (np := 31) G dX12_place_56 (by decide) ?_
        exact ih a4 b6 _ _ _ _ hm hM (lv_sub hl [2, 3, 4, 1, 0] rfl)
      · have hm := b_t h3 hm
        refine r_iload (np := 43) G hl 4 rfl dX12_place_41 rfl ?_
        exact r_iret G hr hk hM hm dX12_place_43
set_option maxRecDepth 100000 in
set_option maxHeartbeats 4000000 in
theorem qX12_place (l : Launch) (E : mE) (σ : mSt) (v0 : Nat) (v1 : Int) (v2 : Int) (out : Int × mSt) (hm : mX12_place v0 v1 v2 σ = some out) : mMet l yX12_place cX12_place 5 (some .int) 16 390 E 276 [.ref (eA E v0), vI v1, vI v2] σ (some (vI out.1)) out.2 := by
  unfold mX12_place at hm
  obtain ⟨g0, hm⟩ := g_t hm
  refine m_entry (by decide +kernel) (Nat.le_of_ble_eq_true rfl) (fun p e s m args below meth c G hr hk hM ls hl => ?_)
  have G : CallFix p m c cX12_place 5 s args mTs RX12 := G
  have hl : lv_has ls 5 [(0, .ref (eA E v0)), (1, vI v1), (2, vI v2)] := hl
  refine r_aload_n (np := 1) G hl 0 rfl dX12_place_0 rfl rfl ?_
  refine r_iconst (np := 2) G 0 dX12_place_1 rfl ?_
  obtain ⟨s9, e10, hm⟩ := bnd_t hm
  refine r_putI (np := 5) G hM (shp_lt g0 (by decide)) g0 ptX12_0 rfl lkX12_75 s9 e10 dX12_place_2 rfl (fun H locs hM => ?_)
  refine r_aload_n (np := 6) G hl 0 rfl dX12_place_5 rfl rfl ?_
  refine r_iload_n (np := 7) G hl 1 rfl dX12_place_6 rfl rfl ?_
  obtain ⟨b11, s12, e13, hm⟩ := call_t hm
  refine m_callVI (np := 10) G hM hl.1 [vI v1] (qX12_isAlgebra l E s9 v0 v1 _ e13) myX12_isAlgebra (shp_lt (gX12_isAlgebra e13) (by decide)) (gX12_isAlgebra e13) rfl (by decide) lkX12_219 ⟨Nat.le_of_ble_eq_true rfl, Nat.le_of_ble_eq_true rfl⟩ ⟨Nat.le_of_ble_eq_true rfl, Nat.le_of_ble_eq_true rfl⟩ [] rfl (Nat.le_of_ble_eq_true rfl) dX12_place_7 rfl (fun H locs hM => ?_)
  refine r_if_eq (np := 13) (tgt := 18) G rfl dX12_place_10 (by decide) rfl (fun h14 => ?_) (fun h14 => ?_)
  · have hm := b_t h14 hm
    refine r_bipush (np := 20) G (-2) dX12_place_18 (by decide) rfl ?_
    exact r_iret G hr hk hM hm dX12_place_20
  · have hm := b_f h14 hm
    refine r_iload_n (np := 14) G hl 2 rfl dX12_place_13 rfl rfl ?_
    refine r_iconst (np := 15) G (-1) dX12_place_14 rfl ?_
    refine r_icmp_ge (np := 18) (tgt := 21) G rfl (wIk (-1) rfl) dX12_place_15 (by decide) rfl (fun h15 => ?_) (fun h15 => ?_)
    · have hm := b_t h15 hm
      refine r_iconst (np := 22) G 0 dX12_place_21 rfl ?_
      refine r_istore_n (np := 23) G hl rfl [(3, vI 0), (0, .ref (eA E v0)), (1, vI v1), (2, vI v2)] dX12_place_22 rfl rfl (by decide) rfl (fun ls hl => ?_)
      refine r_aload_n (np := 24) G hl 1 rfl dX12_place_23 rfl rfl ?_
      refine r_iload_n (np := 25) G hl 2 rfl dX12_place_24 rfl rfl ?_
      refine r_iconst (np := 26) G (-1) dX12_place_25 rfl ?_
      obtain ⟨b16, s17, e18, hm⟩ := call_t hm
      refine m_callVI (np := 29) G hM hl.1 [vI v1, vI (-1)] (qX12_placeBehind l E s12 v0 v1 (-1) _ e18) myX12_placeBehind (shp_lt (gX12_placeBehind e18) (by decide)) (gX12_placeBehind e18) rfl (by decide) lkX12_268 ⟨Nat.le_of_ble_eq_true rfl, Nat.le_of_ble_eq_true rfl⟩ ⟨Nat.le_of_ble_eq_true rfl, Nat.le_of_ble_eq_true rfl⟩ [] rfl (Nat.le_of_ble_eq_true rfl) dX12_place_26 rfl (fun H locs hM => ?_)
      refine r_istore (np := 31) G hl rfl [(4, vI b16), (3, vI 0), (0, .ref (eA E v0)), (1, vI v1), (2, vI v2)] dX12_place_29 rfl (by decide) rfl (fun ls hl => ?_)
      exact wX12_place_L31 l E out G hr hk v0 v1 v2 g0 (fun z3 zσ => mX12_place_B59 v0 v1 v2 z3 zσ) (fun z3 zσ zH zl zs zm zM zv => wX12_place_B59 l E out G hr hk v0 v1 v2 g0 z3 zσ zH zl zs zm zM zv) mF 0 b16 _ _ _ _ hm hM (lv_sub hl [2, 3, 4, 1, 0] rfl)
    · have hm := b_f h15 hm
      refine r_bipush (np := 20) G (-2) dX12_place_18 (by decide) rfl ?_
      exact r_iret G hr hk hM hm dX12_place_20
theorem gX12_place {v0 : Nat} {v1 : Int} {v2 : Int} {σ : mSt} {out : Int × mSt} (hm : mX12_place v0 v1 v2 σ = some out) : isC v0 11 := (g_t hm).1
set_option maxRecDepth 100000 in
set_option maxHeartbeats 4000000 in
theorem wX12_indexOf_B76 (l : Launch) (E : mE) (out : Int × mSt) {p : Program} {e : Env} {s : State} {m : MethodId} {args : Array Value} {below : List Frame} {meth : Method} {c : Code} (G : CallFix p m c cX12_indexOf 6 s args mTs RX12) (hr : meth.sig.returnType = (some .int)) (hk : meth.locks = false) (v0 : Nat) (v1 : Int) (g0 : isC v0 11) : ∀ (v2 : Int) (σ : mSt) (H : Heap) (locs : List Loc) (ls : Array Slot), mX12_indexOf_B76 v0 v1 v2 σ = some out → mM (mA E 276) E 276 σ s H locs → lv_has ls 6 [(2, vI v2)] → mGo l p e 16 390 s m args below meth c E (some (vI out.1)) out.2 H locs (F0 m 76 ls []) := by
  intro v2 σ H locs ls hm hM hl
  unfold mX12_indexOf_B76 at hm
  refine r_iload_n (np := 77) G hl 0 rfl dX12_indexOf_76 rfl rfl ?_
  exact r_iret G hr hk hM hm dX12_indexOf_77
set_option maxRecDepth 100000 in
set_option maxHeartbeats 4000000 in
theorem wX12_indexOf_B65 (l : Launch) (E : mE) (out : Int × mSt) {p : Program} {e : Env} {s : State} {m : MethodId} {args : Array Value} {below : List Frame} {meth : Method} {c : Code} (G : CallFix p m c cX12_indexOf 6 s args mTs RX12) (hr : meth.sig.returnType = (some .int)) (hk : meth.locks = false) (v0 : Nat) (v1 : Int) (g0 : isC v0 11) (c9 : Int → Int → mSt → Option (Int × mSt)) (x76 : Int → mSt → Option (Int × mSt)) (hc9 : ∀ (v2 : Int) (v3 : Int) (σ : mSt) (H : Heap) (locs : List Loc) (ls : Array Slot), c9 v2 v3 σ = some out → mM (mA E 276) E 276 σ s H locs → lv_has ls 6 [(0, .ref (eA E v0)), (1, vI v1), (2, vI v2), (3, vI v3)] → mGo l p e 16 390 s m args below meth c E (some (vI out.1)) out.2 H locs (F0 m 9 ls [])) (hx76 : ∀ (v2 : Int) (σ : mSt) (H : Heap) (locs : List Loc) (ls : Array Slot), x76 v2 σ = some out → mM (mA E 276) E 276 σ s H locs → lv_has ls 6 [(2, vI v2)] → mGo l p e 16 390 s m args below meth c E (some (vI out.1)) out.2 H locs (F0 m 76 ls [])) : ∀ (v3 : Int) (t0 : Int) (σ : mSt) (H : Heap) (locs : List Loc) (ls : Array Slot), mX12_indexOf_B65 v0 v1 c9 x76 v3 t0 σ = some out → mM (mA E 276) E 276 σ s H locs → lv_has ls 6 [(0, .ref (eA E v0)), (1, vI v1), (3, vI v3)] → mGo l p e 16 390 s m args below meth c E (some (vI out.1)) out.2 H locs (F0 m 65 ls [vI t0]) := by
  intro v3 t0 σ H locs ls hm hM hl
  unfold mX12_indexOf_B65 at hm
  refine r_istore_n (np := 66) G hl rfl [(2, vI t0), (0, .ref (eA E v0)), (1, vI v1), (3, vI v3)] dX12_indexOf_65 rfl rfl (by decide) rfl (fun ls hl => ?_)
  refine r_aload_n (np := 67) G hl 1 rfl dX12_indexOf_66 rfl rfl ?_
  refine r_iload_n (np := 68) G hl 2 rfl dX12_indexOf_67 rfl rfl ?_
  refine r_iload_n (np := 69) G hl 3 rfl dX12_indexOf_68 rfl rfl ?_
  obtain ⟨b1, s2, e3, hm⟩ := call_t hm
  refine m_callVI (np := 72) G hM hl.1 [vI v1, vI v3] (qX12_placeBehind l E σ v0 v1 v3 _ e3) myX12_placeBehind (shp_lt (gX12_placeBehind e3) (by decide)) (gX12_placeBehind e3) rfl (by decide) lkX12_268 ⟨Nat.le_of_ble_eq_true rfl, Nat.le_of_ble_eq_true rfl⟩ ⟨Nat.le_of_ble_eq_true rfl, Nat.le_of_ble_eq_true rfl⟩ [] rfl (Nat.le_of_ble_eq_true rfl) dX12_indexOf_69 rfl (fun H locs hM => ?_)
  refine r_istore_n (np := 73) G hl rfl [(3, vI b1), (2, vI t0), (0, .ref (eA E v0)), (1, vI v1)] dX12_indexOf_72 rfl rfl (by decide) rfl (fun ls hl => ?_)
  refine r_goto (np := 9) G dX12_indexOf_73 (by decide) ?_
  exact hc9 t0 b1 _ _ _ _ hm hM (lv_sub hl [2, 3, 1, 0] rfl)
set_option maxRecDepth 100000 in
set_option maxHeartbeats 4000000 in
theorem wX12_indexOf_B58 (l : Launch) (E : mE) (out : Int × mSt) {p : Program} {e : Env} {s : State} {m : MethodId} {args : Array Value} {below : List Frame} {meth : Method} {c : Code} (G : CallFix p m c cX12_indexOf 6 s args mTs RX12) (hr : meth.sig.returnType = (some .int)) (hk : meth.locks = false) (v0 : Nat) (v1 : Int) (g0 : isC v0 11) (c9 : Int → Int → mSt → Option (Int × mSt)) (x76 : Int → mSt → Option (Int × mSt)) (hc9 : ∀ (v2 : Int) (v3 : Int) (σ : mSt) (H : Heap) (locs : List Loc) (ls : Array Slot), c9 v2 v3 σ = some out → mM (mA E 276) E 276 σ s H locs → lv_has ls 6 [(0, .ref (eA E v0)), (1, vI v1), (2, vI v2), (3, vI v3)] → mGo l p e 16 390 s m args below meth c E (some (vI out.1)) out.2 H locs (F0 m 9 ls [])) (hx76 : ∀ (v2 : Int) (σ : mSt) (H : Heap) (locs : List Loc) (ls : Array Slot), x76 v2 σ = some out → mM (mA E 276) E 276 σ s H locs → lv_has ls 6 [(2, vI v2)] → mGo l p e 16 390 s m args below meth c E (some (vI out.1)) out.2 H locs (F0 m 76 ls [])) : ∀ (v3 : Int) (v5 : Int) (σ : mSt) (H : Heap) (locs : List Loc) (ls : Array Slot), mX12_indexOf_B58 v0 v1 c9 x76 v3 v5 σ = some out → mM (mA E 276) E 276 σ s H locs → lv_has ls 6 [(0, .ref (eA E v0)), (1, vI v1), (3, vI v3), (5, vI v5)] → mGo l p e 16 390 s m args below meth c E (some (vI out.1)) out.2 H locs (F0 m 58 ls []) := by
  intro v3 v5 σ H locs ls hm hM hl
  unfold mX12_indexOf_B58 at hm
  refine r_iload (np := 60) G hl 3 rfl dX12_indexOf_58 rfl ?_
  refine r_goto (np := 65) G dX12_indexOf_60 (by decide) ?_
  exact wX12_indexOf_B65 l E out G hr hk v0 v1 g0 c9 x76 hc9 hx76 v3 v5 _ _ _ _ hm hM (lv_sub hl [0, 1, 2] rfl)
set_option maxRecDepth 100000 in
set_option maxHeartbeats 4000000 in
theorem wX12_indexOf_B45 (l : Launch) (E : mE) (out : Int × mSt) {p : Program} {e : Env} {s : State} {m : MethodId} {args : Array Value} {below : List Frame} {meth : Method} {c : Code} (G : CallFix p m c cX12_indexOf 6 s args mTs RX12) (hr : meth.sig.returnType = (some .int)) (hk : meth.locks = false) (v0 : Nat) (v1 : Int) (g0 : isC v0 11) (c9 : Int → Int → mSt → Option (Int × mSt)) (x76 : Int → mSt → Option (Int × mSt)) (hc9 : ∀ (v2 : Int) (v3 : Int) (σ : mSt) (H : Heap) (locs : List Loc) (ls : Array Slot), c9 v2 v3 σ = some out → mM (mA E 276) E 276 σ s H locs → lv_has ls 6 [(0, .ref (eA E v0)), (1, vI v1), (2, vI v2), (3, vI v3)] → mGo l p e 16 390 s m args below meth c E (some (vI out.1)) out.2 H locs (F0 m 9 ls [])) (hx76 : ∀ (v2 : Int) (σ : mSt) (H : Heap) (locs : List Loc) (ls : Array Slot), x76 v2 σ = some out → mM (mA E 276) E 276 σ s H locs → lv_has ls 6 [(2, vI v2)] → mGo l p e 16 390 s m args below meth c E (some (vI out.1)) out.2 H locs (F0 m 76 ls [])) : ∀ (v2 : Int) (v3 : Int) (t0 : Int) (σ : mSt) (H : Heap) (locs : List Loc) (ls : Array Slot), mX12_indexOf_B45 v0 v1 c9 x76 v2 v3 t0 σ = some out → mM (mA E 276) E 276 σ s H locs → lv_has ls 6 [(0, .ref (eA E v0)), (1, vI v1), (2, vI v2), (3, vI v3)] → mGo l p e 16 390 s m args below meth c E (some (vI out.1)) out.2 H locs (F0 m 45 ls [vI t0]) := by
  intro v2 v3 t0 σ H locs ls hm hM hl
  unfold mX12_indexOf_B45 at hm
  refine r_istore (np := 47) G hl rfl [(5, vI t0), (0, .ref (eA E v0)), (1, vI v1), (2, vI v2), (3, vI v3)] dX12_indexOf_45 rfl (by decide) rfl (fun ls hl => ?_)
  refine r_iload_n (np := 48) G hl 3 rfl dX12_indexOf_47 rfl rfl ?_
  refine r_iload (np := 50) G hl 0 rfl dX12_indexOf_48 rfl ?_
  refine r_icmp_eq (np := 53) (tgt := 58) G rfl rfl dX12_indexOf_50 (by decide) rfl (fun h4 => ?_) (fun h4 => ?_)
  · have hm := b_t h4 hm
    exact wX12_indexOf_B58 l E out G hr hk v0 v1 g0 c9 x76 hc9 hx76 v3 t0 _ _ _ _ hm hM (lv_sub hl [1, 2, 4, 0] rfl)
  · have hm := b_f h4 hm
    refine r_iload_n (np := 54) G hl 3 rfl dX12_indexOf_53 rfl rfl ?_
    refine r_iconst (np := 55) G 1 dX12_indexOf_54 rfl ?_
    refine r_icmp_ne (np := 58) (tgt := 63) G rfl (wIk 1 rfl) dX12_indexOf_55 (by decide) rfl (fun h5 => ?_) (fun h5 => ?_)
    · have hm := b_f h5 hm
      refine r_bipush (np := 65) G 6 dX12_indexOf_63 (by decide) rfl ?_
      exact wX12_indexOf_B65 l E out G hr hk v0 v1 g0 c9 x76 hc9 hx76 v3 6 _ _ _ _ hm hM (lv_sub hl [1, 2, 4] rfl)
    · have hm := b_t h5 hm
      exact wX12_indexOf_B58 l E out G hr hk v0 v1 g0 c9 x76 hc9 hx76 v3 t0 _ _ _ _ hm hM (lv_sub hl [1, 2, 4, 0] rfl)
set_option maxRecDepth 100000 in
set_option maxHeartbeats 4000000 in
theorem wX12_indexOf_L9 (l : Launch) (E : mE) (out : Int × mSt) {p : Program} {e : Env} {s : State} {m : MethodId} {args : Array Value} {below : List Frame} {meth : Method} {c : Code} (G : CallFix p m c cX12_indexOf 6 s args mTs RX12) (hr : meth.sig.returnType = (some .int)) (hk : meth.locks = false) (v0 : Nat) (v1 : Int) (g0 : isC v0 11) (x76 : Int → mSt → Option (Int × mSt)) (hx76 : ∀ (v2 : Int) (σ : mSt) (H : Heap) (locs : List Loc) (ls : Array Slot), x76 v2 σ = some out → mM (mA E 276) E 276 σ s H locs → lv_has ls 6 [(2, vI v2)] → mGo l p e 16 390 s m args below meth c E (some (vI out.1)) out.2 H locs (F0 m 76 ls [])) : ∀ (n : Nat) (v2 : Int) (v3 : Int) (σ : mSt) (H : Heap) (locs : List Loc) (ls : Array Slot), mX12_indexOf_L9 v0 v1 x76 n v2 v3 σ = some out → mM (mA E 276) E 276 σ s H locs → lv_has ls 6 [(0, .ref (eA E v0)), (1, vI v1), (2, vI v2), (3, vI v3)] → mGo l p e 16 390 s m args below meth c E (some (vI out.1)) out.2 H locs (F0 m 9 ls []) := by
  intro n
  induction n with
  | zero =>
    intro v2 v3 σ H locs ls hm hM hl
    exact absurd hm (by rw [mX12_indexOf_L9.eq_1]; exact fun h => nomatch h)
  | succ n ih =>
    intro v2 v3 σ H locs ls hm hM hl
    rw [mX12_indexOf_L9.eq_2] at hm
    refine r_iload_n (np := 10) G hl 3 rfl dX12_indexOf_9 rfl rfl ?_
    refine r_if_lt (np := 13) (tgt := 76) G rfl dX12_indexOf_10 (by decide) rfl (fun h6 => ?_) (fun h6 => ?_)
    · have hm := b_t h6 hm
      exact hx76 v2 _ _ _ _ hm hM (lv_sub hl [2] rfl)
    · have hm := b_f h6 hm
      refine r_aload_n (np := 14) G hl 0 rfl dX12_indexOf_13 rfl rfl ?_
      refine r_iload_n (np := 15) G hl 1 rfl dX12_indexOf_14 rfl rfl ?_
      refine r_iload_n (np := 16) G hl 3 rfl dX12_indexOf_15 rfl rfl ?_
      obtain ⟨b7, s8, e9, hm⟩ := call_t hm
      refine m_callVI (np := 19) G hM hl.1 [vI v1, vI v3] (qX12_localOf l E 9 σ v0 v1 v3 _ e9) myX12_localOf (shp_lt (gX12_localOf e9) (by decide)) (gX12_localOf e9) rfl (by decide) lkX12_261 ⟨Nat.le_of_ble_eq_true rfl, Nat.le_of_ble_eq_true rfl⟩ ⟨Nat.le_of_ble_eq_true rfl, Nat.le_of_ble_eq_true rfl⟩ [] rfl (Nat.le_of_ble_eq_true rfl) dX12_indexOf_16 rfl (fun H locs hM => ?_)
      refine r_istore (np := 21) G hl rfl [(4, vI b7), (0, .ref (eA E v0)), (1, vI v1), (2, vI v2), (3, vI v3)] dX12_indexOf_19 rfl (by decide) rfl (fun ls hl => ?_)
      refine r_iload (np := 23) G hl 0 rfl dX12_indexOf_21 rfl ?_
      refine r_iconst (np := 24) G 3 dX12_indexOf_23 rfl ?_
      refine r_icmp_ne (np := 27) (tgt := 31) G rfl (wIk 3 rfl) dX12_indexOf_24 (by decide) rfl (fun h10 => ?_) (fun h10 => ?_)
      · have hm := b_f h10 hm
        refine r_iload (np := 33) G hl 0 rfl dX12_indexOf_31 rfl ?_
        obtain ⟨b11, s12, e13, hm⟩ := call_t hm
        refine m_callSI (np := 36) G hM hl.1 [vI b7] (qX12_odd l E s8 b7 _ e13) myX12_odd lkX12_229 ⟨Nat.le_of_ble_eq_true rfl, Nat.le_of_ble_eq_true rfl⟩ ⟨Nat.le_of_ble_eq_true rfl, Nat.le_of_ble_eq_true rfl⟩ [] rfl (Nat.le_of_ble_eq_true rfl) dX12_indexOf_33 rfl (fun H locs hM => ?_)
        refine r_if_ne (np := 39) (tgt := 43) G rfl dX12_indexOf_36 (by decide) rfl (fun h14 => ?_) (fun h14 => ?_)
        · have hm := b_f h14 hm
          refine r_bipush (np := 45) G 6 dX12_indexOf_43 (by decide) rfl ?_
          exact wX12_indexOf_B45 l E out G hr hk v0 v1 g0 (mX12_indexOf_L9 v0 v1 x76 n) x76 ih hx76 v2 v3 6 _ _ _ _ hm hM (lv_sub hl [1, 2, 3, 4] rfl)
        · have hm := b_t h14 hm
          refine r_iconst (np := 40) G 3 dX12_indexOf_39 rfl ?_
          refine r_goto (np := 45) G dX12_indexOf_40 (by decide) ?_
          exact wX12_indexOf_B45 l E out G hr hk v0 v1 g0 (mX12_indexOf_L9 v0 v1 x76 n) x76 ih hx76 v2 v3 3 _ _ _ _ hm hM (lv_sub hl [1, 2, 3, 4] rfl)
      · have hm := b_t h10 hm
        refine r_iconst (np := 28) G 2 dX12_indexOf_27 rfl ?_
        refine r_goto (np := 45) G dX12_indexOf_28 (by decide) ?_
        exact wX12_indexOf_B45 l E out G hr hk v0 v1 g0 (mX12_indexOf_L9 v0 v1 x76 n) x76 ih hx76 v2 v3 2 _ _ _ _ hm hM (lv_sub hl [1, 2, 3, 4] rfl)
set_option maxRecDepth 100000 in
set_option maxHeartbeats 4000000 in
theorem qX12_indexOf (l : Launch) (E : mE) (σ : mSt) (v0 : Nat) (v1 : Int) (out : Int × mSt) (hm : mX12_indexOf v0 v1 σ = some out) : mMet l yX12_indexOf cX12_indexOf 6 (some .int) 16 390 E 276 [.ref (eA E v0), vI v1] σ (some (vI out.1)) out.2 := by
  unfold mX12_indexOf at hm
  obtain ⟨g0, hm⟩ := g_t hm
  refine m_entry (by decide +kernel) (Nat.le_of_ble_eq_true rfl) (fun p e s m args below meth c G hr hk hM ls hl => ?_)
  have G : CallFix p m c cX12_indexOf 6 s args mTs RX12 := G
  have hl : lv_has ls 6 [(0, .ref (eA E v0)), (1, vI v1)] := hl
  refine r_iconst (np := 1) G 1 dX12_indexOf_0 rfl ?_
  refine r_istore_n (np := 2) G hl rfl [(2, vI 1), (0, .ref (eA E v0)), (1, vI v1)] dX12_indexOf_1 rfl rfl (by decide) rfl (fun ls hl => ?_)
  refine r_aload_n (np := 3) G hl 1 rfl dX12_indexOf_2 rfl rfl ?_
  refine r_iload_n (np := 4) G hl 2 rfl dX12_indexOf_3 rfl rfl ?_
  refine r_iconst (np := 5) G (-1) dX12_indexOf_4 rfl ?_
  obtain ⟨b15, s16, e17, hm⟩ := call_t hm
  refine m_callVI (np := 8) G hM hl.1 [vI v1, vI (-1)] (qX12_placeBehind l E σ v0 v1 (-1) _ e17) myX12_placeBehind (shp_lt (gX12_placeBehind e17) (by decide)) (gX12_placeBehind e17) rfl (by decide) lkX12_268 ⟨Nat.le_of_ble_eq_true rfl, Nat.le_of_ble_eq_true rfl⟩ ⟨Nat.le_of_ble_eq_true rfl, Nat.le_of_ble_eq_true rfl⟩ [] rfl (Nat.le_of_ble_eq_true rfl) dX12_indexOf_5 rfl (fun H locs hM => ?_)
  refine r_istore_n (np := 9) G hl rfl [(3, vI b15), (2, vI 1), (0, .ref (eA E v0)), (1, vI v1)] dX12_indexOf_8 rfl rfl (by decide) rfl (fun ls hl => ?_)
  exact wX12_indexOf_L9 l E out G hr hk v0 v1 g0 (fun z2 zσ => mX12_indexOf_B76 v0 v1 z2 zσ) (fun z2 zσ zH zl zs zm zM zv => wX12_indexOf_B76 l E out G hr hk v0 v1 g0 z2 zσ zH zl zs zm zM zv) mF 1 b15 _ _ _ _ hm hM (lv_sub hl [2, 3, 1, 0] rfl)
theorem gX12_indexOf {v0 : Nat} {v1 : Int} {σ : mSt} {out : Int × mSt} (hm : mX12_indexOf v0 v1 σ = some out) : isC v0 11 := (g_t hm).1
set_option maxRecDepth 100000 in
set_option maxHeartbeats 4000000 in
theorem qX12_index (l : Launch) (E : mE) (σ : mSt) (v0 : Nat) (v1 : Int) (out : Int × mSt) (hm : mX12_index v0 v1 σ = some out) : mMet l yX12_index cX12_index 2 (some .int) 17 415 E 276 [.ref (eA E v0), vI v1] σ (some (vI out.1)) out.2 := by
  unfold mX12_index at hm
  obtain ⟨g0, hm⟩ := g_t hm
  refine m_entry (by decide +kernel) (Nat.le_of_ble_eq_true rfl) (fun p e s m args below meth c G hr hk hM ls hl => ?_)
  have G : CallFix p m c cX12_index 2 s args mTs RX12 := G
  have hl : lv_has ls 2 [(0, .ref (eA E v0)), (1, vI v1)] := hl
  refine r_aload_n (np := 1) G hl 0 rfl dX12_index_0 rfl rfl ?_
  refine r_iconst (np := 2) G 0 dX12_index_1 rfl ?_
  obtain ⟨s1, e2, hm⟩ := bnd_t hm
  refine r_putI (np := 5) G hM (shp_lt g0 (by decide)) g0 ptX12_0 rfl lkX12_75 s1 e2 dX12_index_2 rfl (fun H locs hM => ?_)
  refine r_aload_n (np := 6) G hl 0 rfl dX12_index_5 rfl rfl ?_
  refine r_iload_n (np := 7) G hl 1 rfl dX12_index_6 rfl rfl ?_
  obtain ⟨b3, s4, e5, hm⟩ := call_t hm
  refine m_callVI (np := 10) G hM hl.1 [vI v1] (qX12_isAlgebra l E s1 v0 v1 _ e5) myX12_isAlgebra (shp_lt (gX12_isAlgebra e5) (by decide)) (gX12_isAlgebra e5) rfl (by decide) lkX12_219 ⟨Nat.le_of_ble_eq_true rfl, Nat.le_of_ble_eq_true rfl⟩ ⟨Nat.le_of_ble_eq_true rfl, Nat.le_of_ble_eq_true rfl⟩ [] rfl (Nat.le_of_ble_eq_true rfl) dX12_index_7 rfl (fun H locs hM => ?_)
  refine r_if_eq (np := 13) (tgt := 21) G rfl dX12_index_10 (by decide) rfl (fun h6 => ?_) (fun h6 => ?_)
  · have hm := b_t h6 hm
    refine r_iconst (np := 22) G (-1) dX12_index_21 rfl ?_
    exact r_iret G hr hk hM hm dX12_index_22
  · have hm := b_f h6 hm
    refine r_aload_n (np := 14) G hl 0 rfl dX12_index_13 rfl rfl ?_
    refine r_iload_n (np := 15) G hl 1 rfl dX12_index_14 rfl rfl ?_
    obtain ⟨b7, s8, e9, hm⟩ := call_t hm
    refine m_callVI (np := 18) G hM hl.1 [vI v1] (qX12_indexOf l E s4 v0 v1 _ e9) myX12_indexOf (shp_lt (gX12_indexOf e9) (by decide)) (gX12_indexOf e9) rfl (by decide) lkX12_271 ⟨Nat.le_of_ble_eq_true rfl, Nat.le_of_ble_eq_true rfl⟩ ⟨Nat.le_of_ble_eq_true rfl, Nat.le_of_ble_eq_true rfl⟩ [] rfl (Nat.le_of_ble_eq_true rfl) dX12_index_15 rfl (fun H locs hM => ?_)
    refine r_goto (np := 22) G dX12_index_18 (by decide) ?_
    exact r_iret G hr hk hM hm dX12_index_22
theorem gX12_index {v0 : Nat} {v1 : Int} {σ : mSt} {out : Int × mSt} (hm : mX12_index v0 v1 σ = some out) : isC v0 11 := (g_t hm).1
set_option maxRecDepth 100000 in
set_option maxHeartbeats 4000000 in
theorem wX12_areAlike_B43 (l : Launch) (E : mE) (out : Int × mSt) {p : Program} {e : Env} {s : State} {m : MethodId} {args : Array Value} {below : List Frame} {meth : Method} {c : Code} (G : CallFix p m c cX12_areAlike 4 s args mTs RX12) (hr : meth.sig.returnType = (some .boolean)) (hk : meth.locks = false) (v0 : Nat) (v1 : Int) (v2 : Int) (g0 : isC v0 11) : ∀ (σ : mSt) (H : Heap) (locs : List Loc) (ls : Array Slot), mX12_areAlike_B43 v0 v1 v2 σ = some out → mM (mA E 276) E 276 σ s H locs → lv_has ls 4 [] → mGo l p e 15 367 s m args below meth c E (some (vI out.1)) out.2 H locs (F0 m 43 ls []) := by
  intro σ H locs ls hm hM hl
  unfold mX12_areAlike_B43 at hm
  refine r_iconst (np := 44) G 1 dX12_areAlike_43 rfl ?_
  exact r_zret G hr hk hM (Or.inr rfl) hm dX12_areAlike_44
set_option maxRecDepth 100000 in
set_option maxHeartbeats 4000000 in
theorem wX12_areAlike_B20 (l : Launch) (E : mE) (out : Int × mSt) {p : Program} {e : Env} {s : State} {m : MethodId} {args : Array Value} {below : List Frame} {meth : Method} {c : Code} (G : CallFix p m c cX12_areAlike 4 s args mTs RX12) (hr : meth.sig.returnType = (some .boolean)) (hk : meth.locks = false) (v0 : Nat) (v1 : Int) (v2 : Int) (g0 : isC v0 11) (c2 : Int → mSt → Option (Int × mSt)) (x43 : mSt → Option (Int × mSt)) (hc2 : ∀ (v3 : Int) (σ : mSt) (H : Heap) (locs : List Loc) (ls : Array Slot), c2 v3 σ = some out → mM (mA E 276) E 276 σ s H locs → lv_has ls 4 [(0, .ref (eA E v0)), (1, vI v1), (2, vI v2), (3, vI v3)] → mGo l p e 15 367 s m args below meth c E (some (vI out.1)) out.2 H locs (F0 m 2 ls [])) (hx43 : ∀ (σ : mSt) (H : Heap) (locs : List Loc) (ls : Array Slot), x43 σ = some out → mM (mA E 276) E 276 σ s H locs → lv_has ls 4 [] → mGo l p e 15 367 s m args below meth c E (some (vI out.1)) out.2 H locs (F0 m 43 ls [])) : ∀ (v3 : Int) (σ : mSt) (H : Heap) (locs : List Loc) (ls : Array Slot), mX12_areAlike_B20 v0 v1 v2 c2 x43 v3 σ = some out → mM (mA E 276) E 276 σ s H locs → lv_has ls 4 [(0, .ref (eA E v0)), (1, vI v1), (2, vI v2), (3, vI v3)] → mGo l p e 15 367 s m args below meth c E (some (vI out.1)) out.2 H locs (F0 m 20 ls []) := by
  intro v3 σ H locs ls hm hM hl
  unfold mX12_areAlike_B20 at hm
  refine r_aload_n (np := 21) G hl 0 rfl dX12_areAlike_20 rfl rfl ?_
  refine r_iload_n (np := 22) G hl 1 rfl dX12_areAlike_21 rfl rfl ?_
  refine r_iload_n (np := 23) G hl 3 rfl dX12_areAlike_22 rfl rfl ?_
  obtain ⟨b1, s2, e3, hm⟩ := call_t hm
  refine m_callVI (np := 26) G hM hl.1 [vI v1, vI v3] (qX12_localOf l E 9 σ v0 v1 v3 _ e3) myX12_localOf (shp_lt (gX12_localOf e3) (by decide)) (gX12_localOf e3) rfl (by decide) lkX12_261 ⟨Nat.le_of_ble_eq_true rfl, Nat.le_of_ble_eq_true rfl⟩ ⟨Nat.le_of_ble_eq_true rfl, Nat.le_of_ble_eq_true rfl⟩ [] rfl (Nat.le_of_ble_eq_true rfl) dX12_areAlike_23 rfl (fun H locs hM => ?_)
  refine r_aload_n (np := 27) G hl 0 rfl dX12_areAlike_26 rfl rfl ?_
  refine r_iload_n (np := 28) G hl 2 rfl dX12_areAlike_27 rfl rfl ?_
  refine r_iload_n (np := 29) G hl 3 rfl dX12_areAlike_28 rfl rfl ?_
  obtain ⟨b4, s5, e6, hm⟩ := call_t hm
  refine m_callVI (np := 32) G hM hl.1 [vI v2, vI v3] (qX12_localOf l E 9 s2 v0 v2 v3 _ e6) myX12_localOf (shp_lt (gX12_localOf e6) (by decide)) (gX12_localOf e6) rfl (by decide) lkX12_261 ⟨Nat.le_of_ble_eq_true rfl, Nat.le_of_ble_eq_true rfl⟩ ⟨Nat.le_of_ble_eq_true rfl, Nat.le_of_ble_eq_true rfl⟩ [vI b1] rfl (Nat.le_of_ble_eq_true rfl) dX12_areAlike_29 rfl (fun H locs hM => ?_)
  refine r_icmp_eq (np := 35) (tgt := 37) G rfl rfl dX12_areAlike_32 (by decide) rfl (fun h7 => ?_) (fun h7 => ?_)
  · have hm := b_t h7 hm
    obtain ⟨a8, e9, hm⟩ := bnd_t hm
    refine r_iinc (np := 40) G hl 3 rfl e9 [(3, vI a8), (0, .ref (eA E v0)), (1, vI v1), (2, vI v2)] dX12_areAlike_37 rfl (by decide) rfl (fun ls hl => ?_)
    refine r_goto (np := 2) G dX12_areAlike_40 (by decide) ?_
    exact hc2 a8 _ _ _ _ hm hM (lv_sub hl [1, 2, 3, 0] rfl)
  · have hm := b_f h7 hm
    refine r_iconst (np := 36) G 0 dX12_areAlike_35 rfl ?_
    exact r_zret G hr hk hM (Or.inl rfl) hm dX12_areAlike_36
set_option maxRecDepth 100000 in
set_option maxHeartbeats 4000000 in
theorem wX12_areAlike_L2 (l : Launch) (E : mE) (out : Int × mSt) {p : Program} {e : Env} {s : State} {m : MethodId} {args : Array Value} {below : List Frame} {meth : Method} {c : Code} (G : CallFix p m c cX12_areAlike 4 s args mTs RX12) (hr : meth.sig.returnType = (some .boolean)) (hk : meth.locks = false) (v0 : Nat) (v1 : Int) (v2 : Int) (g0 : isC v0 11) (x43 : mSt → Option (Int × mSt)) (hx43 : ∀ (σ : mSt) (H : Heap) (locs : List Loc) (ls : Array Slot), x43 σ = some out → mM (mA E 276) E 276 σ s H locs → lv_has ls 4 [] → mGo l p e 15 367 s m args below meth c E (some (vI out.1)) out.2 H locs (F0 m 43 ls [])) : ∀ (n : Nat) (v3 : Int) (σ : mSt) (H : Heap) (locs : List Loc) (ls : Array Slot), mX12_areAlike_L2 v0 v1 v2 x43 n v3 σ = some out → mM (mA E 276) E 276 σ s H locs → lv_has ls 4 [(0, .ref (eA E v0)), (1, vI v1), (2, vI v2), (3, vI v3)] → mGo l p e 15 367 s m args below meth c E (some (vI out.1)) out.2 H locs (F0 m 2 ls []) := by
  intro n
  induction n with
  | zero =>
    intro v3 σ H locs ls hm hM hl
    exact absurd hm (by rw [mX12_areAlike_L2.eq_1]; exact fun h => nomatch h)
  | succ n ih =>
    intro v3 σ H locs ls hm hM hl
    rw [mX12_areAlike_L2.eq_2] at hm
    refine r_iload_n (np := 3) G hl 3 rfl dX12_areAlike_2 rfl rfl ?_
    refine r_sipush (np := 6) G 1000 dX12_areAlike_3 (by decide) rfl ?_
    refine r_icmp_ge (np := 9) (tgt := 43) G rfl (wIk 1000 rfl) dX12_areAlike_6 (by decide) rfl (fun h10 => ?_) (fun h10 => ?_)
    · have hm := b_t h10 hm
      exact hx43 _ _ _ _ hm hM (lv_sub hl [] rfl)
    · have hm := b_f h10 hm
      refine r_iload_n (np := 10) G hl 3 rfl dX12_areAlike_9 rfl rfl ?_
      refine r_if_eq (np := 13) (tgt := 20) G rfl dX12_areAlike_10 (by decide) rfl (fun h11 => ?_) (fun h11 => ?_)
      · have hm := b_t h11 hm
        exact wX12_areAlike_B20 l E out G hr hk v0 v1 v2 g0 (mX12_areAlike_L2 v0 v1 v2 x43 n) x43 ih hx43 v3 _ _ _ _ hm hM (lv_sub hl [0, 1, 2, 3] rfl)
      · have hm := b_f h11 hm
        refine r_iload_n (np := 14) G hl 3 rfl dX12_areAlike_13 rfl rfl ?_
        obtain ⟨b12, s13, e14, hm⟩ := call_t hm
        refine m_callSI (np := 17) G hM hl.1 [vI v3] (qX12_isPrime l E σ v3 _ e14) myX12_isPrime lkX12_248 ⟨Nat.le_of_ble_eq_true rfl, Nat.le_of_ble_eq_true rfl⟩ ⟨Nat.le_of_ble_eq_true rfl, Nat.le_of_ble_eq_true rfl⟩ [] rfl (Nat.le_of_ble_eq_true rfl) dX12_areAlike_14 rfl (fun H locs hM => ?_)
        refine r_if_eq (np := 20) (tgt := 37) G rfl dX12_areAlike_17 (by decide) rfl (fun h15 => ?_) (fun h15 => ?_)
        · have hm := b_t h15 hm
          obtain ⟨a16, e17, hm⟩ := bnd_t hm
          refine r_iinc (np := 40) G hl 3 rfl e17 [(3, vI a16), (0, .ref (eA E v0)), (1, vI v1), (2, vI v2)] dX12_areAlike_37 rfl (by decide) rfl (fun ls hl => ?_)
          refine r_goto (np := 2) G dX12_areAlike_40 (by decide) ?_
          exact ih a16 _ _ _ _ hm hM (lv_sub hl [1, 2, 3, 0] rfl)
        · have hm := b_f h15 hm
          exact wX12_areAlike_B20 l E out G hr hk v0 v1 v2 g0 (mX12_areAlike_L2 v0 v1 v2 x43 n) x43 ih hx43 v3 _ _ _ _ hm hM (lv_sub hl [0, 1, 2, 3] rfl)
set_option maxRecDepth 100000 in
set_option maxHeartbeats 4000000 in
theorem qX12_areAlike (l : Launch) (E : mE) (σ : mSt) (v0 : Nat) (v1 : Int) (v2 : Int) (out : Int × mSt) (hm : mX12_areAlike v0 v1 v2 σ = some out) : mMet l yX12_areAlike cX12_areAlike 4 (some .boolean) 15 367 E 276 [.ref (eA E v0), vI v1, vI v2] σ (some (vI out.1)) out.2 := by
  unfold mX12_areAlike at hm
  obtain ⟨g0, hm⟩ := g_t hm
  refine m_entry (by decide +kernel) (Nat.le_of_ble_eq_true rfl) (fun p e s m args below meth c G hr hk hM ls hl => ?_)
  have G : CallFix p m c cX12_areAlike 4 s args mTs RX12 := G
  have hl : lv_has ls 4 [(0, .ref (eA E v0)), (1, vI v1), (2, vI v2)] := hl
  refine r_iconst (np := 1) G 0 dX12_areAlike_0 rfl ?_
  refine r_istore_n (np := 2) G hl rfl [(3, vI 0), (0, .ref (eA E v0)), (1, vI v1), (2, vI v2)] dX12_areAlike_1 rfl rfl (by decide) rfl (fun ls hl => ?_)
  exact wX12_areAlike_L2 l E out G hr hk v0 v1 v2 g0 (fun zσ => mX12_areAlike_B43 v0 v1 v2 zσ) (fun zσ zH zl zs zm zM zv => wX12_areAlike_B43 l E out G hr hk v0 v1 v2 g0 zσ zH zl zs zm zM zv) mF 0 _ _ _ _ hm hM (lv_sub hl [1, 2, 3, 0] rfl)
theorem gX12_areAlike {v0 : Nat} {v1 : Int} {v2 : Int} {σ : mSt} {out : Int × mSt} (hm : mX12_areAlike v0 v1 v2 σ = some out) : isC v0 11 := (g_t hm).1
set_option maxRecDepth 100000 in
set_option maxHeartbeats 4000000 in
theorem wX12_alike_B38 (l : Launch) (E : mE) (out : Int × mSt) {p : Program} {e : Env} {s : State} {m : MethodId} {args : Array Value} {below : List Frame} {meth : Method} {c : Code} (G : CallFix p m c cX12_alike 3 s args mTs RX12) (hr : meth.sig.returnType = (some .int)) (hk : meth.locks = false) (v0 : Nat) (v1 : Int) (v2 : Int) (g0 : isC v0 11) : ∀ (σ : mSt) (H : Heap) (locs : List Loc) (ls : Array Slot), mX12_alike_B38 v0 v1 v2 σ = some out → mM (mA E 276) E 276 σ s H locs → lv_has ls 3 [] → mGo l p e 16 390 s m args below meth c E (some (vI out.1)) out.2 H locs (F0 m 38 ls []) := by
  intro σ H locs ls hm hM hl
  unfold mX12_alike_B38 at hm
  refine r_iconst (np := 39) G (-1) dX12_alike_38 rfl ?_
  exact r_iret G hr hk hM hm dX12_alike_39
set_option maxRecDepth 100000 in
set_option maxHeartbeats 4000000 in
theorem qX12_alike (l : Launch) (E : mE) (σ : mSt) (v0 : Nat) (v1 : Int) (v2 : Int) (out : Int × mSt) (hm : mX12_alike v0 v1 v2 σ = some out) : mMet l yX12_alike cX12_alike 3 (some .int) 16 390 E 276 [.ref (eA E v0), vI v1, vI v2] σ (some (vI out.1)) out.2 := by
  unfold mX12_alike at hm
  obtain ⟨g0, hm⟩ := g_t hm
  refine m_entry (by decide +kernel) (Nat.le_of_ble_eq_true rfl) (fun p e s m args below meth c G hr hk hM ls hl => ?_)
  have G : CallFix p m c cX12_alike 3 s args mTs RX12 := G
  have hl : lv_has ls 3 [(0, .ref (eA E v0)), (1, vI v1), (2, vI v2)] := hl
  refine r_aload_n (np := 1) G hl 0 rfl dX12_alike_0 rfl rfl ?_
  refine r_iconst (np := 2) G 0 dX12_alike_1 rfl ?_
  obtain ⟨s1, e2, hm⟩ := bnd_t hm
  refine r_putI (np := 5) G hM (shp_lt g0 (by decide)) g0 ptX12_0 rfl lkX12_75 s1 e2 dX12_alike_2 rfl (fun H locs hM => ?_)
  refine r_aload_n (np := 6) G hl 0 rfl dX12_alike_5 rfl rfl ?_
  refine r_iload_n (np := 7) G hl 1 rfl dX12_alike_6 rfl rfl ?_
  obtain ⟨b3, s4, e5, hm⟩ := call_t hm
  refine m_callVI (np := 10) G hM hl.1 [vI v1] (qX12_isAlgebra l E s1 v0 v1 _ e5) myX12_isAlgebra (shp_lt (gX12_isAlgebra e5) (by decide)) (gX12_isAlgebra e5) rfl (by decide) lkX12_219 ⟨Nat.le_of_ble_eq_true rfl, Nat.le_of_ble_eq_true rfl⟩ ⟨Nat.le_of_ble_eq_true rfl, Nat.le_of_ble_eq_true rfl⟩ [] rfl (Nat.le_of_ble_eq_true rfl) dX12_alike_7 rfl (fun H locs hM => ?_)
  refine r_if_eq (np := 13) (tgt := 38) G rfl dX12_alike_10 (by decide) rfl (fun h6 => ?_) (fun h6 => ?_)
  · have hm := b_t h6 hm
    exact wX12_alike_B38 l E out G hr hk v0 v1 v2 g0 _ _ _ _ hm hM (lv_sub hl [] rfl)
  · have hm := b_f h6 hm
    refine r_aload_n (np := 14) G hl 0 rfl dX12_alike_13 rfl rfl ?_
    refine r_iload_n (np := 15) G hl 2 rfl dX12_alike_14 rfl rfl ?_
    obtain ⟨b7, s8, e9, hm⟩ := call_t hm
    refine m_callVI (np := 18) G hM hl.1 [vI v2] (qX12_isAlgebra l E s4 v0 v2 _ e9) myX12_isAlgebra (shp_lt (gX12_isAlgebra e9) (by decide)) (gX12_isAlgebra e9) rfl (by decide) lkX12_219 ⟨Nat.le_of_ble_eq_true rfl, Nat.le_of_ble_eq_true rfl⟩ ⟨Nat.le_of_ble_eq_true rfl, Nat.le_of_ble_eq_true rfl⟩ [] rfl (Nat.le_of_ble_eq_true rfl) dX12_alike_15 rfl (fun H locs hM => ?_)
    refine r_if_eq (np := 21) (tgt := 38) G rfl dX12_alike_18 (by decide) rfl (fun h10 => ?_) (fun h10 => ?_)
    · have hm := b_t h10 hm
      exact wX12_alike_B38 l E out G hr hk v0 v1 v2 g0 _ _ _ _ hm hM (lv_sub hl [] rfl)
    · have hm := b_f h10 hm
      refine r_aload_n (np := 22) G hl 0 rfl dX12_alike_21 rfl rfl ?_
      refine r_iload_n (np := 23) G hl 1 rfl dX12_alike_22 rfl rfl ?_
      refine r_iload_n (np := 24) G hl 2 rfl dX12_alike_23 rfl rfl ?_
      obtain ⟨b11, s12, e13, hm⟩ := call_t hm
      refine m_callVI (np := 27) G hM hl.1 [vI v1, vI v2] (qX12_areAlike l E s8 v0 v1 v2 _ e13) myX12_areAlike (shp_lt (gX12_areAlike e13) (by decide)) (gX12_areAlike e13) rfl (by decide) lkX12_274 ⟨Nat.le_of_ble_eq_true rfl, Nat.le_of_ble_eq_true rfl⟩ ⟨Nat.le_of_ble_eq_true rfl, Nat.le_of_ble_eq_true rfl⟩ [] rfl (Nat.le_of_ble_eq_true rfl) dX12_alike_24 rfl (fun H locs hM => ?_)
      refine r_if_eq (np := 30) (tgt := 34) G rfl dX12_alike_27 (by decide) rfl (fun h14 => ?_) (fun h14 => ?_)
      · have hm := b_t h14 hm
        refine r_iconst (np := 35) G 0 dX12_alike_34 rfl ?_
        refine r_goto (np := 39) G dX12_alike_35 (by decide) ?_
        exact r_iret G hr hk hM hm dX12_alike_39
      · have hm := b_f h14 hm
        refine r_iconst (np := 31) G 1 dX12_alike_30 rfl ?_
        refine r_goto (np := 39) G dX12_alike_31 (by decide) ?_
        exact r_iret G hr hk hM hm dX12_alike_39
theorem gX12_alike {v0 : Nat} {v1 : Int} {v2 : Int} {σ : mSt} {out : Int × mSt} (hm : mX12_alike v0 v1 v2 σ = some out) : isC v0 11 := (g_t hm).1
set_option maxRecDepth 100000 in
set_option maxHeartbeats 4000000 in
theorem wX12_classes_B74 (l : Launch) (E : mE) (out : Int × mSt) {p : Program} {e : Env} {s : State} {m : MethodId} {args : Array Value} {below : List Frame} {meth : Method} {c : Code} (G : CallFix p m c cX12_classes 5 s args mTs RX12) (hr : meth.sig.returnType = (some .int)) (hk : meth.locks = false) (v0 : Nat) (g0 : isC v0 11) : ∀ (v1 : Int) (σ : mSt) (H : Heap) (locs : List Loc) (ls : Array Slot), mX12_classes_B74 v0 v1 σ = some out → mM (mA E 276) E 276 σ s H locs → lv_has ls 5 [(1, vI v1)] → mGo l p e 16 390 s m args below meth c E (some (vI out.1)) out.2 H locs (F0 m 74 ls []) := by
  intro v1 σ H locs ls hm hM hl
  unfold mX12_classes_B74 at hm
  refine r_iload_n (np := 75) G hl 0 rfl dX12_classes_74 rfl rfl ?_
  exact r_iret G hr hk hM hm dX12_classes_75
set_option maxRecDepth 100000 in
set_option maxHeartbeats 4000000 in
theorem wX12_classes_B56 (l : Launch) (E : mE) (out : Int × mSt) {p : Program} {e : Env} {s : State} {m : MethodId} {args : Array Value} {below : List Frame} {meth : Method} {c : Code} (G : CallFix p m c cX12_classes 5 s args mTs RX12) (hr : meth.sig.returnType = (some .int)) (hk : meth.locks = false) (v0 : Nat) (g0 : isC v0 11) (c9 : Int → Int → mSt → Option (Int × mSt)) (x74 : Int → mSt → Option (Int × mSt)) (hc9 : ∀ (v1 : Int) (v2 : Int) (σ : mSt) (H : Heap) (locs : List Loc) (ls : Array Slot), c9 v1 v2 σ = some out → mM (mA E 276) E 276 σ s H locs → lv_has ls 5 [(0, .ref (eA E v0)), (1, vI v1), (2, vI v2)] → mGo l p e 16 390 s m args below meth c E (some (vI out.1)) out.2 H locs (F0 m 9 ls [])) (hx74 : ∀ (v1 : Int) (σ : mSt) (H : Heap) (locs : List Loc) (ls : Array Slot), x74 v1 σ = some out → mM (mA E 276) E 276 σ s H locs → lv_has ls 5 [(1, vI v1)] → mGo l p e 16 390 s m args below meth c E (some (vI out.1)) out.2 H locs (F0 m 74 ls [])) : ∀ (v1 : Int) (v2 : Int) (v3 : Int) (σ : mSt) (H : Heap) (locs : List Loc) (ls : Array Slot), mX12_classes_B56 v0 c9 x74 v1 v2 v3 σ = some out → mM (mA E 276) E 276 σ s H locs → lv_has ls 5 [(0, .ref (eA E v0)), (1, vI v1), (2, vI v2), (3, vI v3)] → mGo l p e 16 390 s m args below meth c E (some (vI out.1)) out.2 H locs (F0 m 56 ls []) := by
  intro v1 v2 v3 σ H locs ls hm hM hl
  unfold mX12_classes_B56 at hm
  refine r_iload_n (np := 57) G hl 1 rfl dX12_classes_56 rfl rfl ?_
  refine r_iload_n (np := 58) G hl 3 rfl dX12_classes_57 rfl rfl ?_
  refine r_if_eq (np := 61) (tgt := 65) G rfl dX12_classes_58 (by decide) rfl (fun h1 => ?_) (fun h1 => ?_)
  · have hm := b_t h1 hm
    refine r_iconst (np := 66) G 0 dX12_classes_65 rfl ?_
    refine r_iadd (np := 67) G dX12_classes_66 rfl ?_
    obtain ⟨a2, e3, hm⟩ := bnd_t hm
    refine r_istore_n (np := 68) G hl e3 [(1, vI a2), (0, .ref (eA E v0)), (2, vI v2), (3, vI v3)] dX12_classes_67 rfl rfl (by decide) rfl (fun ls hl => ?_)
    obtain ⟨a4, e5, hm⟩ := bnd_t hm
    refine r_iinc (np := 71) G hl 2 rfl e5 [(2, vI a4), (1, vI a2), (0, .ref (eA E v0)), (3, vI v3)] dX12_classes_68 rfl (by decide) rfl (fun ls hl => ?_)
    refine r_goto (np := 9) G dX12_classes_71 (by decide) ?_
    exact hc9 a2 a4 _ _ _ _ hm hM (lv_sub hl [2, 1, 0] rfl)
  · have hm := b_f h1 hm
    refine r_iconst (np := 62) G 1 dX12_classes_61 rfl ?_
    refine r_goto (np := 66) G dX12_classes_62 (by decide) ?_
    refine r_iadd (np := 67) G dX12_classes_66 rfl ?_
    obtain ⟨a6, e7, hm⟩ := bnd_t hm
    refine r_istore_n (np := 68) G hl e7 [(1, vI a6), (0, .ref (eA E v0)), (2, vI v2), (3, vI v3)] dX12_classes_67 rfl rfl (by decide) rfl (fun ls hl => ?_)
    obtain ⟨a8, e9, hm⟩ := bnd_t hm
    refine r_iinc (np := 71) G hl 2 rfl e9 [(2, vI a8), (1, vI a6), (0, .ref (eA E v0)), (3, vI v3)] dX12_classes_68 rfl (by decide) rfl (fun ls hl => ?_)
    refine r_goto (np := 9) G dX12_classes_71 (by decide) ?_
    exact hc9 a6 a8 _ _ _ _ hm hM (lv_sub hl [2, 1, 0] rfl)
set_option maxRecDepth 100000 in
set_option maxHeartbeats 4000000 in
theorem wX12_classes_L24 (l : Launch) (E : mE) (out : Int × mSt) {p : Program} {e : Env} {s : State} {m : MethodId} {args : Array Value} {below : List Frame} {meth : Method} {c : Code} (G : CallFix p m c cX12_classes 5 s args mTs RX12) (hr : meth.sig.returnType = (some .int)) (hk : meth.locks = false) (v0 : Nat) (v1 : Int) (v2 : Int) (g0 : isC v0 11) (x56 : Int → mSt → Option (Int × mSt)) (hx56 : ∀ (v3 : Int) (σ : mSt) (H : Heap) (locs : List Loc) (ls : Array Slot), x56 v3 σ = some out → mM (mA E 276) E 276 σ s H locs → lv_has ls 5 [(0, .ref (eA E v0)), (1, vI v1), (2, vI v2), (3, vI v3)] → mGo l p e 16 390 s m args below meth c E (some (vI out.1)) out.2 H locs (F0 m 56 ls [])) : ∀ (n : Nat) (v3 : Int) (v4 : Int) (σ : mSt) (H : Heap) (locs : List Loc) (ls : Array Slot), mX12_classes_L24 v0 v1 v2 x56 n v3 v4 σ = some out → mM (mA E 276) E 276 σ s H locs → lv_has ls 5 [(0, .ref (eA E v0)), (1, vI v1), (2, vI v2), (3, vI v3), (4, vI v4)] → mGo l p e 16 390 s m args below meth c E (some (vI out.1)) out.2 H locs (F0 m 24 ls []) := by
  intro n
  induction n with
  | zero =>
    intro v3 v4 σ H locs ls hm hM hl
    exact absurd hm (by rw [mX12_classes_L24.eq_1]; exact fun h => nomatch h)
  | succ n ih =>
    intro v3 v4 σ H locs ls hm hM hl
    rw [mX12_classes_L24.eq_2] at hm
    refine r_iload (np := 26) G hl 4 rfl dX12_classes_24 rfl ?_
    refine r_iload_n (np := 27) G hl 2 rfl dX12_classes_26 rfl rfl ?_
    refine r_icmp_ge (np := 30) (tgt := 56) G rfl rfl dX12_classes_27 (by decide) rfl (fun h10 => ?_) (fun h10 => ?_)
    · have hm := b_t h10 hm
      exact hx56 v3 _ _ _ _ hm hM (lv_sub hl [0, 1, 2, 3] rfl)
    · have hm := b_f h10 hm
      refine r_iload_n (np := 31) G hl 3 rfl dX12_classes_30 rfl rfl ?_
      refine r_if_eq (np := 34) (tgt := 56) G rfl dX12_classes_31 (by decide) rfl (fun h11 => ?_) (fun h11 => ?_)
      · have hm := b_t h11 hm
        exact hx56 v3 _ _ _ _ hm hM (lv_sub hl [0, 1, 2, 3] rfl)
      · have hm := b_f h11 hm
        refine r_aload_n (np := 35) G hl 0 rfl dX12_classes_34 rfl rfl ?_
        refine r_iload (np := 37) G hl 4 rfl dX12_classes_35 rfl ?_
        refine r_iload_n (np := 38) G hl 2 rfl dX12_classes_37 rfl rfl ?_
        obtain ⟨b12, s13, e14, hm⟩ := call_t hm
        refine m_callVI (np := 41) G hM hl.1 [vI v4, vI v2] (qX12_areAlike l E σ v0 v4 v2 _ e14) myX12_areAlike (shp_lt (gX12_areAlike e14) (by decide)) (gX12_areAlike e14) rfl (by decide) lkX12_274 ⟨Nat.le_of_ble_eq_true rfl, Nat.le_of_ble_eq_true rfl⟩ ⟨Nat.le_of_ble_eq_true rfl, Nat.le_of_ble_eq_true rfl⟩ [] rfl (Nat.le_of_ble_eq_true rfl) dX12_classes_38 rfl (fun H locs hM => ?_)
        refine r_if_ne (np := 44) (tgt := 48) G rfl dX12_classes_41 (by decide) rfl (fun h15 => ?_) (fun h15 => ?_)
        · have hm := b_f h15 hm
          refine r_iconst (np := 49) G 0 dX12_classes_48 rfl ?_
          refine r_istore_n (np := 50) G hl rfl [(3, vI 0), (0, .ref (eA E v0)), (1, vI v1), (2, vI v2), (4, vI v4)] dX12_classes_49 rfl rfl (by decide) rfl (fun ls hl => ?_)
          obtain ⟨a16, e17, hm⟩ := bnd_t hm
          refine r_iinc (np := 53) G hl 4 rfl e17 [(4, vI a16), (3, vI 0), (0, .ref (eA E v0)), (1, vI v1), (2, vI v2)] dX12_classes_50 rfl (by decide) rfl (fun ls hl => ?_)
          refine r_goto (np := 24) G dX12_classes_53 (by decide) ?_
          exact ih 0 a16 _ _ _ _ hm hM (lv_sub hl [2, 3, 4, 1, 0] rfl)
        · have hm := b_t h15 hm
          refine r_iconst (np := 45) G 1 dX12_classes_44 rfl ?_
          refine r_goto (np := 49) G dX12_classes_45 (by decide) ?_
          refine r_istore_n (np := 50) G hl rfl [(3, vI 1), (0, .ref (eA E v0)), (1, vI v1), (2, vI v2), (4, vI v4)] dX12_classes_49 rfl rfl (by decide) rfl (fun ls hl => ?_)
          obtain ⟨a18, e19, hm⟩ := bnd_t hm
          refine r_iinc (np := 53) G hl 4 rfl e19 [(4, vI a18), (3, vI 1), (0, .ref (eA E v0)), (1, vI v1), (2, vI v2)] dX12_classes_50 rfl (by decide) rfl (fun ls hl => ?_)
          refine r_goto (np := 24) G dX12_classes_53 (by decide) ?_
          exact ih 1 a18 _ _ _ _ hm hM (lv_sub hl [2, 3, 4, 1, 0] rfl)
set_option maxRecDepth 100000 in
set_option maxHeartbeats 4000000 in
theorem wX12_classes_L9 (l : Launch) (E : mE) (out : Int × mSt) {p : Program} {e : Env} {s : State} {m : MethodId} {args : Array Value} {below : List Frame} {meth : Method} {c : Code} (G : CallFix p m c cX12_classes 5 s args mTs RX12) (hr : meth.sig.returnType = (some .int)) (hk : meth.locks = false) (v0 : Nat) (g0 : isC v0 11) (x74 : Int → mSt → Option (Int × mSt)) (hx74 : ∀ (v1 : Int) (σ : mSt) (H : Heap) (locs : List Loc) (ls : Array Slot), x74 v1 σ = some out → mM (mA E 276) E 276 σ s H locs → lv_has ls 5 [(1, vI v1)] → mGo l p e 16 390 s m args below meth c E (some (vI out.1)) out.2 H locs (F0 m 74 ls [])) : ∀ (n : Nat) (v1 : Int) (v2 : Int) (σ : mSt) (H : Heap) (locs : List Loc) (ls : Array Slot), mX12_classes_L9 v0 x74 n v1 v2 σ = some out → mM (mA E 276) E 276 σ s H locs → lv_has ls 5 [(0, .ref (eA E v0)), (1, vI v1), (2, vI v2)] → mGo l p e 16 390 s m args below meth c E (some (vI out.1)) out.2 H locs (F0 m 9 ls []) := by
  intro n
  induction n with
  | zero =>
    intro v1 v2 σ H locs ls hm hM hl
    exact absurd hm (by rw [mX12_classes_L9.eq_1]; exact fun h => nomatch h)
  | succ n ih =>
    intro v1 v2 σ H locs ls hm hM hl
    rw [mX12_classes_L9.eq_2] at hm
    refine r_iload_n (np := 10) G hl 2 rfl dX12_classes_9 rfl rfl ?_
    refine r_aload_n (np := 11) G hl 0 rfl dX12_classes_10 rfl rfl ?_
    obtain ⟨r20, e21, hm⟩ := ref_t hm
    refine r_getR (np := 14) G hM (shp_lt g0 (by decide)) g0 e21 fdX12_12 lkX12_13 dX12_classes_11 rfl ?_
    refine r_iconst (np := 15) G 0 dX12_classes_14 rfl ?_
    obtain ⟨g22, hm⟩ := g_t hm
    refine r_iaload (np := 16) G hM g22 rfl dX12_classes_15 rfl ?_
    refine r_icmp_ge (np := 19) (tgt := 74) G rfl rfl dX12_classes_16 (by decide) rfl (fun h23 => ?_) (fun h23 => ?_)
    · have hm := b_t h23 hm
      exact hx74 v1 _ _ _ _ hm hM (lv_sub hl [1] rfl)
    · have hm := b_f h23 hm
      refine r_iconst (np := 20) G 1 dX12_classes_19 rfl ?_
      refine r_istore_n (np := 21) G hl rfl [(3, vI 1), (0, .ref (eA E v0)), (1, vI v1), (2, vI v2)] dX12_classes_20 rfl rfl (by decide) rfl (fun ls hl => ?_)
      refine r_iconst (np := 22) G 0 dX12_classes_21 rfl ?_
      refine r_istore (np := 24) G hl rfl [(4, vI 0), (3, vI 1), (0, .ref (eA E v0)), (1, vI v1), (2, vI v2)] dX12_classes_22 rfl (by decide) rfl (fun ls hl => ?_)
      exact wX12_classes_L24 l E out G hr hk v0 v1 v2 g0 (fun z3 zσ => mX12_classes_B56 v0 (mX12_classes_L9 v0 x74 n) x74 v1 v2 z3 zσ) (fun z3 zσ zH zl zs zm zM zv => wX12_classes_B56 l E out G hr hk v0 g0 (mX12_classes_L9 v0 x74 n) x74 ih hx74 v1 v2 z3 zσ zH zl zs zm zM zv) mF 1 0 _ _ _ _ hm hM (lv_sub hl [2, 3, 4, 1, 0] rfl)
set_option maxRecDepth 100000 in
set_option maxHeartbeats 4000000 in
theorem qX12_classes (l : Launch) (E : mE) (σ : mSt) (v0 : Nat) (out : Int × mSt) (hm : mX12_classes v0 σ = some out) : mMet l yX12_classes cX12_classes 5 (some .int) 16 390 E 276 [.ref (eA E v0)] σ (some (vI out.1)) out.2 := by
  unfold mX12_classes at hm
  obtain ⟨g0, hm⟩ := g_t hm
  refine m_entry (by decide +kernel) (Nat.le_of_ble_eq_true rfl) (fun p e s m args below meth c G hr hk hM ls hl => ?_)
  have G : CallFix p m c cX12_classes 5 s args mTs RX12 := G
  have hl : lv_has ls 5 [(0, .ref (eA E v0))] := hl
  refine r_aload_n (np := 1) G hl 0 rfl dX12_classes_0 rfl rfl ?_
  refine r_iconst (np := 2) G 0 dX12_classes_1 rfl ?_
  obtain ⟨s24, e25, hm⟩ := bnd_t hm
  refine r_putI (np := 5) G hM (shp_lt g0 (by decide)) g0 ptX12_0 rfl lkX12_75 s24 e25 dX12_classes_2 rfl (fun H locs hM => ?_)
  refine r_iconst (np := 6) G 0 dX12_classes_5 rfl ?_
  refine r_istore_n (np := 7) G hl rfl [(1, vI 0), (0, .ref (eA E v0))] dX12_classes_6 rfl rfl (by decide) rfl (fun ls hl => ?_)
  refine r_iconst (np := 8) G 0 dX12_classes_7 rfl ?_
  refine r_istore_n (np := 9) G hl rfl [(2, vI 0), (1, vI 0), (0, .ref (eA E v0))] dX12_classes_8 rfl rfl (by decide) rfl (fun ls hl => ?_)
  exact wX12_classes_L9 l E out G hr hk v0 g0 (fun z1 zσ => mX12_classes_B74 v0 z1 zσ) (fun z1 zσ zH zl zs zm zM zv => wX12_classes_B74 l E out G hr hk v0 g0 z1 zσ zH zl zs zm zM zv) mF 0 0 _ _ _ _ hm hM (lv_sub hl [2, 1, 0] rfl)
theorem gX12_classes {v0 : Nat} {σ : mSt} {out : Int × mSt} (hm : mX12_classes v0 σ = some out) : isC v0 11 := (g_t hm).1
set_option maxRecDepth 100000 in
set_option maxHeartbeats 4000000 in
theorem wX12_common_B53 (l : Launch) (E : mE) (out : Int × mSt) {p : Program} {e : Env} {s : State} {m : MethodId} {args : Array Value} {below : List Frame} {meth : Method} {c : Code} (G : CallFix p m c cX12_common 10 s args mTs RX12) (hr : meth.sig.returnType = (some .long)) (hk : meth.locks = false) (v0 : Int) (v2 : Int) : ∀ (v4 : Int) (σ : mSt) (H : Heap) (locs : List Loc) (ls : Array Slot), mX12_common_B53 v0 v2 v4 σ = some out → mM (mA E 276) E 276 σ s H locs → lv_has ls 10 [(4, vL v4)] → mGo l p e 0 0 s m args below meth c E (some (vL out.1)) out.2 H locs (F0 m 53 ls []) := by
  intro v4 σ H locs ls hm hM hl
  unfold mX12_common_B53 at hm
  refine r_lload (np := 55) G hl 0 rfl dX12_common_53 rfl ?_
  exact r_lret G hr hk hM hm dX12_common_55
set_option maxRecDepth 100000 in
set_option maxHeartbeats 4000000 in
theorem wX12_common_L28 (l : Launch) (E : mE) (out : Int × mSt) {p : Program} {e : Env} {s : State} {m : MethodId} {args : Array Value} {below : List Frame} {meth : Method} {c : Code} (G : CallFix p m c cX12_common 10 s args mTs RX12) (hr : meth.sig.returnType = (some .long)) (hk : meth.locks = false) (v0 : Int) (v2 : Int) (x53 : Int → mSt → Option (Int × mSt)) (hx53 : ∀ (v4 : Int) (σ : mSt) (H : Heap) (locs : List Loc) (ls : Array Slot), x53 v4 σ = some out → mM (mA E 276) E 276 σ s H locs → lv_has ls 10 [(4, vL v4)] → mGo l p e 0 0 s m args below meth c E (some (vL out.1)) out.2 H locs (F0 m 53 ls [])) : ∀ (n : Nat) (v4 : Int) (v6 : Int) (σ : mSt) (H : Heap) (locs : List Loc) (ls : Array Slot), mX12_common_L28 v0 v2 x53 n v4 v6 σ = some out → mM (mA E 276) E 276 σ s H locs → lv_has ls 10 [(4, vL v4), (6, vL v6)] → mGo l p e 0 0 s m args below meth c E (some (vL out.1)) out.2 H locs (F0 m 28 ls []) := by
  intro n
  induction n with
  | zero =>
    intro v4 v6 σ H locs ls hm hM hl
    exact absurd hm (by rw [mX12_common_L28.eq_1]; exact fun h => nomatch h)
  | succ n ih =>
    intro v4 v6 σ H locs ls hm hM hl
    rw [mX12_common_L28.eq_2] at hm
    refine r_lload (np := 30) G hl 1 rfl dX12_common_28 rfl ?_
    refine r_lconst (np := 31) G 0 dX12_common_30 rfl rfl ?_
    refine r_lcmp_eq (np := 35) (tgt := 53) G rfl (wLk 0 rfl) dX12_common_31 dX12_common_32 (by decide) rfl (fun h1 => ?_) (fun h1 => ?_)
    · have hm := b_t h1 hm
      exact hx53 v4 _ _ _ _ hm hM (lv_sub hl [0] rfl)
    · have hm := b_f h1 hm
      refine r_lload (np := 37) G hl 0 rfl dX12_common_35 rfl ?_
      refine r_lload (np := 39) G hl 1 rfl dX12_common_37 rfl ?_
      obtain ⟨g2, hm⟩ := g_t hm
      refine r_lrem (np := 40) G g2 dX12_common_39 rfl ?_
      obtain ⟨a3, e4, hm⟩ := bnd_t hm
      refine r_lstore (np := 42) G hl e4 [(8, vL a3), (4, vL v4), (6, vL v6)] dX12_common_40 rfl (by decide) rfl (fun ls hl => ?_)
      refine r_lload (np := 44) G hl 2 rfl dX12_common_42 rfl ?_
      refine r_lstore (np := 46) G hl rfl [(4, vL v6), (8, vL a3), (6, vL v6)] dX12_common_44 rfl (by decide) rfl (fun ls hl => ?_)
      refine r_lload (np := 48) G hl 1 rfl dX12_common_46 rfl ?_
      refine r_lstore (np := 50) G hl rfl [(6, vL a3), (4, vL v6), (8, vL a3)] dX12_common_48 rfl (by decide) rfl (fun ls hl => ?_)
      refine r_goto (np := 28) G dX12_common_50 (by decide) ?_
      exact ih v6 a3 _ _ _ _ hm hM (lv_sub hl [1, 0] rfl)
set_option maxRecDepth 100000 in
set_option maxHeartbeats 4000000 in
theorem wX12_common_B26 (l : Launch) (E : mE) (out : Int × mSt) {p : Program} {e : Env} {s : State} {m : MethodId} {args : Array Value} {below : List Frame} {meth : Method} {c : Code} (G : CallFix p m c cX12_common 10 s args mTs RX12) (hr : meth.sig.returnType = (some .long)) (hk : meth.locks = false) (v0 : Int) (v2 : Int) : ∀ (v4 : Int) (t0 : Int) (σ : mSt) (H : Heap) (locs : List Loc) (ls : Array Slot), mX12_common_B26 v0 v2 v4 t0 σ = some out → mM (mA E 276) E 276 σ s H locs → lv_has ls 10 [(4, vL v4)] → mGo l p e 0 0 s m args below meth c E (some (vL out.1)) out.2 H locs (F0 m 26 ls [vL t0]) := by
  intro v4 t0 σ H locs ls hm hM hl
  unfold mX12_common_B26 at hm
  refine r_lstore (np := 28) G hl rfl [(6, vL t0), (4, vL v4)] dX12_common_26 rfl (by decide) rfl (fun ls hl => ?_)
  exact wX12_common_L28 l E out G hr hk v0 v2 (fun z4 zσ => mX12_common_B53 v0 v2 z4 zσ) (fun z4 zσ zH zl zs zm zM zv => wX12_common_B53 l E out G hr hk v0 v2 z4 zσ zH zl zs zm zM zv) mF v4 t0 _ _ _ _ hm hM (lv_sub hl [1, 0] rfl)
set_option maxRecDepth 100000 in
set_option maxHeartbeats 4000000 in
theorem wX12_common_B12 (l : Launch) (E : mE) (out : Int × mSt) {p : Program} {e : Env} {s : State} {m : MethodId} {args : Array Value} {below : List Frame} {meth : Method} {c : Code} (G : CallFix p m c cX12_common 10 s args mTs RX12) (hr : meth.sig.returnType = (some .long)) (hk : meth.locks = false) (v0 : Int) (v2 : Int) : ∀ (t0 : Int) (σ : mSt) (H : Heap) (locs : List Loc) (ls : Array Slot), mX12_common_B12 v0 v2 t0 σ = some out → mM (mA E 276) E 276 σ s H locs → lv_has ls 10 [(2, vL v2)] → mGo l p e 0 0 s m args below meth c E (some (vL out.1)) out.2 H locs (F0 m 12 ls [vL t0]) := by
  intro t0 σ H locs ls hm hM hl
  unfold mX12_common_B12 at hm
  refine r_lstore (np := 14) G hl rfl [(4, vL t0), (2, vL v2)] dX12_common_12 rfl (by decide) rfl (fun ls hl => ?_)
  refine r_lload_n (np := 15) G hl 1 rfl dX12_common_14 rfl rfl ?_
  refine r_lconst (np := 16) G 0 dX12_common_15 rfl rfl ?_
  refine r_lcmp_ge (np := 20) (tgt := 25) G rfl (wLk 0 rfl) dX12_common_16 dX12_common_17 (by decide) rfl (fun h5 => ?_) (fun h5 => ?_)
  · have hm := b_t h5 hm
    refine r_lload_n (np := 26) G hl 1 rfl dX12_common_25 rfl rfl ?_
    exact wX12_common_B26 l E out G hr hk v0 v2 t0 v2 _ _ _ _ hm hM (lv_sub hl [0] rfl)
  · have hm := b_f h5 hm
    refine r_lload_n (np := 21) G hl 1 rfl dX12_common_20 rfl rfl ?_
    refine r_lneg (np := 22) G dX12_common_21 rfl ?_
    refine r_goto (np := 26) G dX12_common_22 (by decide) ?_
    exact wX12_common_B26 l E out G hr hk v0 v2 t0 (-v2) _ _ _ _ hm hM (lv_sub hl [0] rfl)
set_option maxRecDepth 100000 in
set_option maxHeartbeats 4000000 in
theorem qX12_common (l : Launch) (E : mE) (σ : mSt) (v0 : Int) (v2 : Int) (out : Int × mSt) (hm : mX12_common v0 v2 σ = some out) : mMet l yX12_common cX12_common 10 (some .long) 0 0 E 276 [vL v0, vL v2] σ (some (vL out.1)) out.2 := by
  unfold mX12_common at hm
  refine m_entry (by decide +kernel) (Nat.le_of_ble_eq_true rfl) (fun p e s m args below meth c G hr hk hM ls hl => ?_)
  have G : CallFix p m c cX12_common 10 s args mTs RX12 := G
  have hl : lv_has ls 10 [(0, vL v0), (2, vL v2)] := hl
  refine r_lload_n (np := 1) G hl 0 rfl dX12_common_0 rfl rfl ?_
  refine r_lconst (np := 2) G 0 dX12_common_1 rfl rfl ?_
  refine r_lcmp_ge (np := 6) (tgt := 11) G rfl (wLk 0 rfl) dX12_common_2 dX12_common_3 (by decide) rfl (fun h6 => ?_) (fun h6 => ?_)
  · have hm := b_t h6 hm
    refine r_lload_n (np := 12) G hl 0 rfl dX12_common_11 rfl rfl ?_
    exact wX12_common_B12 l E out G hr hk v0 v2 v0 _ _ _ _ hm hM (lv_sub hl [1] rfl)
  · have hm := b_f h6 hm
    refine r_lload_n (np := 7) G hl 0 rfl dX12_common_6 rfl rfl ?_
    refine r_lneg (np := 8) G dX12_common_7 rfl ?_
    refine r_goto (np := 12) G dX12_common_8 (by decide) ?_
    exact wX12_common_B12 l E out G hr hk v0 v2 (-v0) _ _ _ _ hm hM (lv_sub hl [1] rfl)
set_option maxRecDepth 100000 in
set_option maxHeartbeats 4000000 in
theorem wX12_isKept_B28 (l : Launch) (E : mE) (out : Int × mSt) {p : Program} {e : Env} {s : State} {m : MethodId} {args : Array Value} {below : List Frame} {meth : Method} {c : Code} (G : CallFix p m c cX12_isKept 2 s args mTs RX12) (hr : meth.sig.returnType = (some .boolean)) (hk : meth.locks = false) (v0 : Nat) (v1 : Int) (g0 : isC v0 11) : ∀ (σ : mSt) (H : Heap) (locs : List Loc) (ls : Array Slot), mX12_isKept_B28 v0 v1 σ = some out → mM (mA E 276) E 276 σ s H locs → lv_has ls 2 [] → mGo l p e 1 25 s m args below meth c E (some (vI out.1)) out.2 H locs (F0 m 28 ls []) := by
  intro σ H locs ls hm hM hl
  unfold mX12_isKept_B28 at hm
  refine r_iconst (np := 29) G 0 dX12_isKept_28 rfl ?_
  exact r_zret G hr hk hM (Or.inl rfl) hm dX12_isKept_29
set_option maxRecDepth 100000 in
set_option maxHeartbeats 4000000 in
theorem qX12_isKept (l : Launch) (E : mE) (σ : mSt) (v0 : Nat) (v1 : Int) (out : Int × mSt) (hm : mX12_isKept v0 v1 σ = some out) : mMet l yX12_isKept cX12_isKept 2 (some .boolean) 1 25 E 276 [.ref (eA E v0), vI v1] σ (some (vI out.1)) out.2 := by
  unfold mX12_isKept at hm
  obtain ⟨g0, hm⟩ := g_t hm
  refine m_entry (by decide +kernel) (Nat.le_of_ble_eq_true rfl) (fun p e s m args below meth c G hr hk hM ls hl => ?_)
  have G : CallFix p m c cX12_isKept 2 s args mTs RX12 := G
  have hl : lv_has ls 2 [(0, .ref (eA E v0)), (1, vI v1)] := hl
  refine r_iload_n (np := 1) G hl 1 rfl dX12_isKept_0 rfl rfl ?_
  refine r_i2l (np := 2) G rfl dX12_isKept_1 rfl ?_
  refine r_lconst (np := 3) G 0 dX12_isKept_2 rfl rfl ?_
  refine r_ldc2 (np := 6) G 7 dX12_isKept_3 lkX12_278 rfl rfl ?_
  obtain ⟨b1, s2, e3, hm⟩ := call_t hm
  refine m_callSI (np := 9) G hM hl.1 [vL (wI v1), vL 0, vL 7] (qX12_within l E σ (wI v1) 0 7 _ e3) myX12_within lkX12_113 ⟨Nat.le_of_ble_eq_true rfl, Nat.le_of_ble_eq_true rfl⟩ ⟨Nat.le_of_ble_eq_true rfl, Nat.le_of_ble_eq_true rfl⟩ [] rfl (Nat.le_of_ble_eq_true rfl) dX12_isKept_6 rfl (fun H locs hM => ?_)
  refine r_if_eq (np := 12) (tgt := 28) G rfl dX12_isKept_9 (by decide) rfl (fun h4 => ?_) (fun h4 => ?_)
  · have hm := b_t h4 hm
    exact wX12_isKept_B28 l E out G hr hk v0 v1 g0 _ _ _ _ hm hM (lv_sub hl [] rfl)
  · have hm := b_f h4 hm
    refine r_aload_n (np := 13) G hl 0 rfl dX12_isKept_12 rfl rfl ?_
    refine r_getI (np := 16) G hM (shp_lt g0 (by decide)) g0 fdX12_21 lkX12_213 dX12_isKept_13 rfl ?_
    refine r_iload_n (np := 17) G hl 1 rfl dX12_isKept_16 rfl rfl ?_
    refine r_ishr (np := 18) G dX12_isKept_17 rfl ?_
    refine r_iconst (np := 19) G 1 dX12_isKept_18 rfl ?_
    refine r_iand (np := 20) G dX12_isKept_19 rfl ?_
    refine r_iconst (np := 21) G 1 dX12_isKept_20 rfl ?_
    refine r_icmp_ne (np := 24) (tgt := 28) G rfl (wIk 1 rfl) dX12_isKept_21 (by decide) rfl (fun h5 => ?_) (fun h5 => ?_)
    · have hm := b_f h5 hm
      exact wX12_isKept_B28 l E out G hr hk v0 v1 g0 _ _ _ _ hm hM (lv_sub hl [] rfl)
    · have hm := b_t h5 hm
      refine r_iconst (np := 25) G 1 dX12_isKept_24 rfl ?_
      refine r_goto (np := 29) G dX12_isKept_25 (by decide) ?_
      exact r_zret G hr hk hM (Or.inr rfl) hm dX12_isKept_29
theorem gX12_isKept {v0 : Nat} {v1 : Int} {σ : mSt} {out : Int × mSt} (hm : mX12_isKept v0 v1 σ = some out) : isC v0 11 := (g_t hm).1
set_option maxRecDepth 100000 in
set_option maxHeartbeats 4000000 in
theorem qX12_part (l : Launch) (E : mE) (σ : mSt) (v0 : Nat) (v1 : Int) (v2 : Int) (out : Int × mSt) (hm : mX12_part v0 v1 v2 σ = some out) : mMet l yX12_part cX12_part 3 (some .long) 0 0 E 276 [.ref (eA E v0), vI v1, vI v2] σ (some (vL out.1)) out.2 := by
  unfold mX12_part at hm
  obtain ⟨g0, hm⟩ := g_t hm
  refine m_entry (by decide +kernel) (Nat.le_of_ble_eq_true rfl) (fun p e s m args below meth c G hr hk hM ls hl => ?_)
  have G : CallFix p m c cX12_part 3 s args mTs RX12 := G
  have hl : lv_has ls 3 [(0, .ref (eA E v0)), (1, vI v1), (2, vI v2)] := hl
  refine r_aload_n (np := 1) G hl 0 rfl dX12_part_0 rfl rfl ?_
  obtain ⟨r1, e2, hm⟩ := ref_t hm
  refine r_getR (np := 4) G hM (shp_lt g0 (by decide)) g0 e2 fdX12_23 lkX12_39 dX12_part_1 rfl ?_
  refine r_iconst (np := 5) G 5 dX12_part_4 rfl ?_
  refine r_iload_n (np := 6) G hl 1 rfl dX12_part_5 rfl rfl ?_
  refine r_imul (np := 7) G dX12_part_6 rfl ?_
  refine r_iload_n (np := 8) G hl 2 rfl dX12_part_7 rfl rfl ?_
  refine r_iadd (np := 9) G dX12_part_8 rfl ?_
  obtain ⟨g3, hm⟩ := g_t hm
  refine r_laload (np := 10) G hM g3 rfl dX12_part_9 rfl ?_
  exact r_lret G hr hk hM hm dX12_part_10
theorem gX12_part {v0 : Nat} {v1 : Int} {v2 : Int} {σ : mSt} {out : Int × mSt} (hm : mX12_part v0 v1 v2 σ = some out) : isC v0 11 := (g_t hm).1
