theorem ptX12_21 : mPut 11 21 0 37 RX12 TX12 tyX12 .int := ⟨fdX12_21, tyX12_ok, nmX12, (by decide +kernel), rfl⟩
theorem lkX12_36 : Cond.fieldLink RX12 36 (TX12 22).1 (TX12 22).2.1 (TX12 22).2.2.1 ∈ mTs := mTs_in 1314 (by decide +kernel) (by decide +kernel)
theorem fdX12_22 : mFld 11 22 2 37 RX12 TX12 := ⟨rfl, inX12, by decide, rfl, by decide⟩
theorem lkX12_42 : Cond.fieldLink RX12 42 (TX12 24).1 (TX12 24).2.1 (TX12 24).2.2.1 ∈ mTs := mTs_in 1316 (by decide +kernel) (by decide +kernel)
theorem fdX12_24 : mFld 11 24 2 37 RX12 TX12 := ⟨rfl, inX12, by decide, rfl, by decide⟩
theorem lkX12_284 : Cond.constantLong RX12 284 (-1000000) ∈ mTs := mTs_in 1609 (by decide +kernel) (by decide +kernel)
theorem lkX12_286 : Cond.constantLong RX12 286 (1000000) ∈ mTs := mTs_in 1610 (by decide +kernel) (by decide +kernel)
theorem lkX12_280 : Cond.methodLink RX12 280 yX12_common ∈ mTs := mTs_in 1606 (by decide +kernel) (by decide +kernel)
theorem myX12_common : mYS yX12_common cX12_common 10 (some .long) 2 := ⟨⟨mTs_in 1608 (by decide +kernel) (by decide +kernel), mTs_in 127 (by decide +kernel) (by decide +kernel), ⟨by decide, by decide⟩, by decide +kernel⟩, mTs_in 1607 (by decide +kernel) (by decide +kernel)⟩
theorem lkX12_288 : Cond.methodLink RX12 288 yX12_isQuaternion ∈ mTs := mTs_in 1598 (by decide +kernel) (by decide +kernel)
theorem myX12_isQuaternion : mYV yX12_isQuaternion cX12_isQuaternion 2 (some .boolean) 1 := ⟨⟨mTs_in 1601 (by decide +kernel) (by decide +kernel), mTs_in 127 (by decide +kernel) (by decide +kernel), ⟨by decide, by decide⟩, by decide +kernel⟩, mTs_in 1600 (by decide +kernel) (by decide +kernel), mTs_in 77 (by decide +kernel) (by decide +kernel)⟩
theorem lkX12_291 : Cond.methodLink RX12 291 yX12_keeps ∈ mTs := mTs_in 1602 (by decide +kernel) (by decide +kernel)
theorem myX12_keeps : mYV yX12_keeps cX12_keeps 6 (some .int) 2 := ⟨⟨mTs_in 1605 (by decide +kernel) (by decide +kernel), mTs_in 127 (by decide +kernel) (by decide +kernel), ⟨by decide, by decide⟩, by decide +kernel⟩, mTs_in 1604 (by decide +kernel) (by decide +kernel), mTs_in 78 (by decide +kernel) (by decide +kernel)⟩
theorem lkX12_294 : Cond.methodLink RX12 294 yX12_part ∈ mTs := mTs_in 1624 (by decide +kernel) (by decide +kernel)
theorem myX12_part : mYV yX12_part cX12_part 3 (some .long) 2 := ⟨⟨mTs_in 1627 (by decide +kernel) (by decide +kernel), mTs_in 127 (by decide +kernel) (by decide +kernel), ⟨by decide, by decide⟩, by decide +kernel⟩, mTs_in 1626 (by decide +kernel) (by decide +kernel), mTs_in 81 (by decide +kernel) (by decide +kernel)⟩
theorem lkX12_297 : Cond.methodLink RX12 297 yX12_isKept ∈ mTs := mTs_in 1615 (by decide +kernel) (by decide +kernel)
theorem myX12_isKept : mYV yX12_isKept cX12_isKept 2 (some .boolean) 1 := ⟨⟨mTs_in 1618 (by decide +kernel) (by decide +kernel), mTs_in 127 (by decide +kernel) (by decide +kernel), ⟨by decide, by decide⟩, by decide +kernel⟩, mTs_in 1617 (by decide +kernel) (by decide +kernel), mTs_in 79 (by decide +kernel) (by decide +kernel)⟩
theorem lkX12_300 : Cond.constantLong RX12 300 (1000) ∈ mTs := mTs_in 1619 (by decide +kernel) (by decide +kernel)
theorem lkX12_302 : Cond.methodLink RX12 302 yX12_loads ∈ mTs := mTs_in 1620 (by decide +kernel) (by decide +kernel)
theorem myX12_loads : mYV yX12_loads cX12_loads 5 none 2 := ⟨⟨mTs_in 1623 (by decide +kernel) (by decide +kernel), mTs_in 127 (by decide +kernel) (by decide +kernel), ⟨by decide, by decide⟩, by decide +kernel⟩, mTs_in 1622 (by decide +kernel) (by decide +kernel), mTs_in 80 (by decide +kernel) (by decide +kernel)⟩
theorem lkX12_306 : Cond.constantLong RX12 306 (5) ∈ mTs := mTs_in 1632 (by decide +kernel) (by decide +kernel)
theorem lkX12_51 : Cond.fieldLink RX12 51 (TX12 27).1 (TX12 27).2.1 (TX12 27).2.2.1 ∈ mTs := mTs_in 1319 (by decide +kernel) (by decide +kernel)
theorem fdX12_27 : mFld 11 27 2 37 RX12 TX12 := ⟨rfl, inX12, by decide, rfl, by decide⟩
theorem lkX12_45 : Cond.fieldLink RX12 45 (TX12 25).1 (TX12 25).2.1 (TX12 25).2.2.1 ∈ mTs := mTs_in 1317 (by decide +kernel) (by decide +kernel)
theorem fdX12_25 : mFld 11 25 2 37 RX12 TX12 := ⟨rfl, inX12, by decide, rfl, by decide⟩
theorem lkX12_48 : Cond.fieldLink RX12 48 (TX12 26).1 (TX12 26).2.1 (TX12 26).2.2.1 ∈ mTs := mTs_in 1318 (by decide +kernel) (by decide +kernel)
theorem fdX12_26 : mFld 11 26 2 37 RX12 TX12 := ⟨rfl, inX12, by decide, rfl, by decide⟩
theorem lkX12_308 : Cond.methodLink RX12 308 yX12_areBeside ∈ mTs := mTs_in 1637 (by decide +kernel) (by decide +kernel)
theorem myX12_areBeside : mYV yX12_areBeside cX12_areBeside 4 (some .boolean) 3 := ⟨⟨mTs_in 1640 (by decide +kernel) (by decide +kernel), mTs_in 127 (by decide +kernel) (by decide +kernel), ⟨by decide, by decide⟩, by decide +kernel⟩, mTs_in 1639 (by decide +kernel) (by decide +kernel), mTs_in 82 (by decide +kernel) (by decide +kernel)⟩
theorem lkX12_312 : Cond.methodLink RX12 312 yX12_takesOne ∈ mTs := mTs_in 1641 (by decide +kernel) (by decide +kernel)
theorem myX12_takesOne : mYV yX12_takesOne cX12_takesOne 3 none 1 := ⟨⟨mTs_in 1644 (by decide +kernel) (by decide +kernel), mTs_in 127 (by decide +kernel) (by decide +kernel), ⟨by decide, by decide⟩, by decide +kernel⟩, mTs_in 1643 (by decide +kernel) (by decide +kernel), mTs_in 83 (by decide +kernel) (by decide +kernel)⟩
theorem lkX12_315 : Cond.methodLink RX12 315 yX12_takesOther ∈ mTs := mTs_in 1645 (by decide +kernel) (by decide +kernel)
theorem myX12_takesOther : mYV yX12_takesOther cX12_takesOther 3 none 1 := ⟨⟨mTs_in 1648 (by decide +kernel) (by decide +kernel), mTs_in 127 (by decide +kernel) (by decide +kernel), ⟨by decide, by decide⟩, by decide +kernel⟩, mTs_in 1647 (by decide +kernel) (by decide +kernel), mTs_in 84 (by decide +kernel) (by decide +kernel)⟩
theorem lkX12_318 : Cond.methodLink RX12 318 yX12_multiplies ∈ mTs := mTs_in 1649 (by decide +kernel) (by decide +kernel)
theorem myX12_multiplies : mYV yX12_multiplies cX12_multiplies 5 none 2 := ⟨⟨mTs_in 1652 (by decide +kernel) (by decide +kernel), mTs_in 127 (by decide +kernel) (by decide +kernel), ⟨by decide, by decide⟩, by decide +kernel⟩, mTs_in 1651 (by decide +kernel) (by decide +kernel), mTs_in 85 (by decide +kernel) (by decide +kernel)⟩
theorem lkX12_322 : Cond.constantLong RX12 322 (-1000) ∈ mTs := mTs_in 1657 (by decide +kernel) (by decide +kernel)
theorem lkX12_324 : Cond.constantLong RX12 324 (-1) ∈ mTs := mTs_in 1662 (by decide +kernel) (by decide +kernel)
theorem lkX12_326 : Cond.methodLink RX12 326 yX12_normOf ∈ mTs := mTs_in 1671 (by decide +kernel) (by decide +kernel)
theorem myX12_normOf : mYV yX12_normOf cX12_normOf 13 (some .long) 6 := ⟨⟨mTs_in 1674 (by decide +kernel) (by decide +kernel), mTs_in 127 (by decide +kernel) (by decide +kernel), ⟨by decide, by decide⟩, by decide +kernel⟩, mTs_in 1673 (by decide +kernel) (by decide +kernel), mTs_in 87 (by decide +kernel) (by decide +kernel)⟩
theorem lkX12_330 : Cond.methodLink RX12 330 yX12_normAbove ∈ mTs := mTs_in 1667 (by decide +kernel) (by decide +kernel)
theorem myX12_normAbove : mYV yX12_normAbove cX12_normAbove 2 (some .long) 1 := ⟨⟨mTs_in 1670 (by decide +kernel) (by decide +kernel), mTs_in 127 (by decide +kernel) (by decide +kernel), ⟨by decide, by decide⟩, by decide +kernel⟩, mTs_in 1669 (by decide +kernel) (by decide +kernel), mTs_in 86 (by decide +kernel) (by decide +kernel)⟩
theorem lkX12_334 : Cond.methodLink RX12 334 yX12_told ∈ mTs := mTs_in 1679 (by decide +kernel) (by decide +kernel)
theorem myX12_told : mYS yX12_told cX12_told 7 (some .long) 3 := ⟨⟨mTs_in 1681 (by decide +kernel) (by decide +kernel), mTs_in 127 (by decide +kernel) (by decide +kernel), ⟨by decide, by decide⟩, by decide +kernel⟩, mTs_in 1680 (by decide +kernel) (by decide +kernel)⟩
theorem lkX12_54 : Cond.fieldLink RX12 54 (TX12 28).1 (TX12 28).2.1 (TX12 28).2.2.1 ∈ mTs := mTs_in 1320 (by decide +kernel) (by decide +kernel)
theorem fdX12_28 : mFld 11 28 2 37 RX12 TX12 := ⟨rfl, inX12, by decide, rfl, by decide⟩
theorem lkX12_338 : Cond.methodLink RX12 338 yX12_root ∈ mTs := mTs_in 1694 (by decide +kernel) (by decide +kernel)
theorem myX12_root : mYS yX12_root cX12_root 2 (some .int) 1 := ⟨⟨mTs_in 1696 (by decide +kernel) (by decide +kernel), mTs_in 127 (by decide +kernel) (by decide +kernel), ⟨by decide, by decide⟩, by decide +kernel⟩, mTs_in 1695 (by decide +kernel) (by decide +kernel)⟩
theorem lkX12_341 : Cond.methodLink RX12 341 yX12_solves ∈ mTs := mTs_in 1690 (by decide +kernel) (by decide +kernel)
theorem myX12_solves : mYV yX12_solves cX12_solves 5 (some .boolean) 1 := ⟨⟨mTs_in 1693 (by decide +kernel) (by decide +kernel), mTs_in 127 (by decide +kernel) (by decide +kernel), ⟨by decide, by decide⟩, by decide +kernel⟩, mTs_in 1692 (by decide +kernel) (by decide +kernel), mTs_in 88 (by decide +kernel) (by decide +kernel)⟩
theorem dX12_keeps_0 : decode cX12_keeps 0 = .ok (.aload_n 0, 1) := by decide +kernel
theorem dX12_keeps_1 : decode cX12_keeps 1 = .ok (.getfield 42, 3) := by decide +kernel
theorem dX12_keeps_4 : decode cX12_keeps 4 = .ok (.iconst 0, 1) := by decide +kernel
theorem dX12_keeps_5 : decode cX12_keeps 5 = .ok (.laload, 1) := by decide +kernel
theorem dX12_keeps_6 : decode cX12_keeps 6 = .ok (.aload_n 0, 1) := by decide +kernel
theorem dX12_keeps_7 : decode cX12_keeps 7 = .ok (.getfield 42, 3) := by decide +kernel
theorem dX12_keeps_10 : decode cX12_keeps 10 = .ok (.iconst 1, 1) := by decide +kernel
theorem dX12_keeps_11 : decode cX12_keeps 11 = .ok (.laload, 1) := by decide +kernel
theorem dX12_keeps_12 : decode cX12_keeps 12 = .ok (.invokestatic 280, 3) := by decide +kernel
theorem dX12_keeps_15 : decode cX12_keeps 15 = .ok (.aload_n 0, 1) := by decide +kernel
theorem dX12_keeps_16 : decode cX12_keeps 16 = .ok (.getfield 42, 3) := by decide +kernel
theorem dX12_keeps_19 : decode cX12_keeps 19 = .ok (.iconst 2, 1) := by decide +kernel
theorem dX12_keeps_20 : decode cX12_keeps 20 = .ok (.laload, 1) := by decide +kernel
theorem dX12_keeps_21 : decode cX12_keeps 21 = .ok (.aload_n 0, 1) := by decide +kernel
theorem dX12_keeps_22 : decode cX12_keeps 22 = .ok (.getfield 42, 3) := by decide +kernel
theorem dX12_keeps_25 : decode cX12_keeps 25 = .ok (.iconst 3, 1) := by decide +kernel
theorem dX12_keeps_26 : decode cX12_keeps 26 = .ok (.laload, 1) := by decide +kernel
theorem dX12_keeps_27 : decode cX12_keeps 27 = .ok (.invokestatic 280, 3) := by decide +kernel
theorem dX12_keeps_30 : decode cX12_keeps 30 = .ok (.invokestatic 280, 3) := by decide +kernel
theorem dX12_keeps_33 : decode cX12_keeps 33 = .ok (.aload_n 0, 1) := by decide +kernel
theorem dX12_keeps_34 : decode cX12_keeps 34 = .ok (.getfield 42, 3) := by decide +kernel
theorem dX12_keeps_37 : decode cX12_keeps 37 = .ok (.iconst 4, 1) := by decide +kernel
theorem dX12_keeps_38 : decode cX12_keeps 38 = .ok (.laload, 1) := by decide +kernel
theorem dX12_keeps_39 : decode cX12_keeps 39 = .ok (.invokestatic 280, 3) := by decide +kernel
theorem dX12_keeps_42 : decode cX12_keeps 42 = .ok (.lstore_n 3, 1) := by decide +kernel
theorem dX12_keeps_43 : decode cX12_keeps 43 = .ok (.aload_n 0, 1) := by decide +kernel
theorem dX12_keeps_44 : decode cX12_keeps 44 = .ok (.getfield 42, 3) := by decide +kernel
theorem dX12_keeps_47 : decode cX12_keeps 47 = .ok (.iconst 4, 1) := by decide +kernel
theorem dX12_keeps_48 : decode cX12_keeps 48 = .ok (.laload, 1) := by decide +kernel
theorem dX12_keeps_49 : decode cX12_keeps 49 = .ok (.lconst 0, 1) := by decide +kernel
theorem dX12_keeps_50 : decode cX12_keeps 50 = .ok (.lcmp, 1) := by decide +kernel
theorem dX12_keeps_51 : decode cX12_keeps 51 = .ok (.ifCond .ge 6, 3) := by decide +kernel
theorem dX12_keeps_54 : decode cX12_keeps 54 = .ok (.lload_n 3, 1) := by decide +kernel
theorem dX12_keeps_55 : decode cX12_keeps 55 = .ok (.lneg, 1) := by decide +kernel
theorem dX12_keeps_56 : decode cX12_keeps 56 = .ok (.lstore_n 3, 1) := by decide +kernel
theorem dX12_keeps_57 : decode cX12_keeps 57 = .ok (.iconst 0, 1) := by decide +kernel
theorem dX12_keeps_58 : decode cX12_keeps 58 = .ok (.istore 5, 2) := by decide +kernel
theorem dX12_keeps_60 : decode cX12_keeps 60 = .ok (.iload 5, 2) := by decide +kernel
theorem dX12_keeps_62 : decode cX12_keeps 62 = .ok (.iconst 5, 1) := by decide +kernel
theorem dX12_keeps_63 : decode cX12_keeps 63 = .ok (.if_icmp .ge 20, 3) := by decide +kernel
theorem dX12_keeps_66 : decode cX12_keeps 66 = .ok (.aload_n 0, 1) := by decide +kernel
theorem dX12_keeps_67 : decode cX12_keeps 67 = .ok (.getfield 42, 3) := by decide +kernel
theorem dX12_keeps_70 : decode cX12_keeps 70 = .ok (.iload 5, 2) := by decide +kernel
theorem dX12_keeps_72 : decode cX12_keeps 72 = .ok (.dup2, 1) := by decide +kernel
theorem dX12_keeps_73 : decode cX12_keeps 73 = .ok (.laload, 1) := by decide +kernel
theorem dX12_keeps_74 : decode cX12_keeps 74 = .ok (.lload_n 3, 1) := by decide +kernel
theorem dX12_keeps_75 : decode cX12_keeps 75 = .ok (.ldiv, 1) := by decide +kernel
theorem dX12_keeps_76 : decode cX12_keeps 76 = .ok (.lastore, 1) := by decide +kernel
theorem dX12_keeps_77 : decode cX12_keeps 77 = .ok (.iinc 5 1, 3) := by decide +kernel
theorem dX12_keeps_80 : decode cX12_keeps 80 = .ok (.goto (-20), 3) := by decide +kernel
theorem dX12_keeps_83 : decode cX12_keeps 83 = .ok (.iconst 0, 1) := by decide +kernel
theorem dX12_keeps_84 : decode cX12_keeps 84 = .ok (.istore 5, 2) := by decide +kernel
theorem dX12_keeps_86 : decode cX12_keeps 86 = .ok (.iload 5, 2) := by decide +kernel
theorem dX12_keeps_88 : decode cX12_keeps 88 = .ok (.iconst 5, 1) := by decide +kernel
theorem dX12_keeps_89 : decode cX12_keeps 89 = .ok (.if_icmp .ge 31, 3) := by decide +kernel
theorem dX12_keeps_92 : decode cX12_keeps 92 = .ok (.aload_n 0, 1) := by decide +kernel
theorem dX12_keeps_93 : decode cX12_keeps 93 = .ok (.getfield 42, 3) := by decide +kernel
theorem dX12_keeps_96 : decode cX12_keeps 96 = .ok (.iload 5, 2) := by decide +kernel
theorem dX12_keeps_98 : decode cX12_keeps 98 = .ok (.laload, 1) := by decide +kernel
theorem dX12_keeps_99 : decode cX12_keeps 99 = .ok (.ldc2_w 284, 3) := by decide +kernel
theorem dX12_keeps_102 : decode cX12_keeps 102 = .ok (.ldc2_w 286, 3) := by decide +kernel
theorem dX12_keeps_105 : decode cX12_keeps 105 = .ok (.invokestatic 113, 3) := by decide +kernel
theorem dX12_keeps_108 : decode cX12_keeps 108 = .ok (.ifCond .ne 6, 3) := by decide +kernel
theorem dX12_keeps_111 : decode cX12_keeps 111 = .ok (.bipush (-3), 2) := by decide +kernel
theorem dX12_keeps_113 : decode cX12_keeps 113 = .ok (.ireturn, 1) := by decide +kernel
theorem dX12_keeps_114 : decode cX12_keeps 114 = .ok (.iinc 5 1, 3) := by decide +kernel
theorem dX12_keeps_117 : decode cX12_keeps 117 = .ok (.goto (-31), 3) := by decide +kernel
theorem dX12_keeps_120 : decode cX12_keeps 120 = .ok (.iconst 0, 1) := by decide +kernel
theorem dX12_keeps_121 : decode cX12_keeps 121 = .ok (.istore 5, 2) := by decide +kernel
theorem dX12_keeps_123 : decode cX12_keeps 123 = .ok (.iload 5, 2) := by decide +kernel
theorem dX12_keeps_125 : decode cX12_keeps 125 = .ok (.iconst 5, 1) := by decide +kernel
theorem dX12_keeps_126 : decode cX12_keeps 126 = .ok (.if_icmp .ge 27, 3) := by decide +kernel
theorem dX12_keeps_129 : decode cX12_keeps 129 = .ok (.aload_n 0, 1) := by decide +kernel
theorem dX12_keeps_130 : decode cX12_keeps 130 = .ok (.getfield 39, 3) := by decide +kernel
theorem dX12_keeps_133 : decode cX12_keeps 133 = .ok (.iconst 5, 1) := by decide +kernel
theorem dX12_keeps_134 : decode cX12_keeps 134 = .ok (.iload_n 1, 1) := by decide +kernel
theorem dX12_keeps_135 : decode cX12_keeps 135 = .ok (.imul, 1) := by decide +kernel
theorem dX12_keeps_136 : decode cX12_keeps 136 = .ok (.iload 5, 2) := by decide +kernel
theorem dX12_keeps_138 : decode cX12_keeps 138 = .ok (.iadd, 1) := by decide +kernel
theorem dX12_keeps_139 : decode cX12_keeps 139 = .ok (.aload_n 0, 1) := by decide +kernel
theorem dX12_keeps_140 : decode cX12_keeps 140 = .ok (.getfield 42, 3) := by decide +kernel
theorem dX12_keeps_143 : decode cX12_keeps 143 = .ok (.iload 5, 2) := by decide +kernel
theorem dX12_keeps_145 : decode cX12_keeps 145 = .ok (.laload, 1) := by decide +kernel
theorem dX12_keeps_146 : decode cX12_keeps 146 = .ok (.lastore, 1) := by decide +kernel
theorem dX12_keeps_147 : decode cX12_keeps 147 = .ok (.iinc 5 1, 3) := by decide +kernel
theorem dX12_keeps_150 : decode cX12_keeps 150 = .ok (.goto (-27), 3) := by decide +kernel
theorem dX12_keeps_153 : decode cX12_keeps 153 = .ok (.aload_n 0, 1) := by decide +kernel
theorem dX12_keeps_154 : decode cX12_keeps 154 = .ok (.dup, 1) := by decide +kernel
theorem dX12_keeps_155 : decode cX12_keeps 155 = .ok (.getfield 213, 3) := by decide +kernel
theorem dX12_keeps_158 : decode cX12_keeps 158 = .ok (.iconst 1, 1) := by decide +kernel
theorem dX12_keeps_159 : decode cX12_keeps 159 = .ok (.iload_n 1, 1) := by decide +kernel
theorem dX12_keeps_160 : decode cX12_keeps 160 = .ok (.ishl, 1) := by decide +kernel
theorem dX12_keeps_161 : decode cX12_keeps 161 = .ok (.ior, 1) := by decide +kernel
theorem dX12_keeps_162 : decode cX12_keeps 162 = .ok (.putfield 213, 3) := by decide +kernel
theorem dX12_keeps_165 : decode cX12_keeps 165 = .ok (.aload_n 0, 1) := by decide +kernel
theorem dX12_keeps_166 : decode cX12_keeps 166 = .ok (.getfield 36, 3) := by decide +kernel
theorem dX12_keeps_169 : decode cX12_keeps 169 = .ok (.iload_n 1, 1) := by decide +kernel
theorem dX12_keeps_170 : decode cX12_keeps 170 = .ok (.iload_n 2, 1) := by decide +kernel
theorem dX12_keeps_171 : decode cX12_keeps 171 = .ok (.iastore, 1) := by decide +kernel
theorem dX12_keeps_172 : decode cX12_keeps 172 = .ok (.iconst 0, 1) := by decide +kernel
theorem dX12_keeps_173 : decode cX12_keeps 173 = .ok (.ireturn, 1) := by decide +kernel
theorem dX12_tell_0 : decode cX12_tell 0 = .ok (.aload_n 0, 1) := by decide +kernel
theorem dX12_tell_1 : decode cX12_tell 1 = .ok (.iconst 0, 1) := by decide +kernel
theorem dX12_tell_2 : decode cX12_tell 2 = .ok (.putfield 75, 3) := by decide +kernel
theorem dX12_tell_5 : decode cX12_tell 5 = .ok (.iload_n 1, 1) := by decide +kernel
theorem dX12_tell_6 : decode cX12_tell 6 = .ok (.i2l, 1) := by decide +kernel
theorem dX12_tell_7 : decode cX12_tell 7 = .ok (.lconst 0, 1) := by decide +kernel
theorem dX12_tell_8 : decode cX12_tell 8 = .ok (.ldc2_w 278, 3) := by decide +kernel
theorem dX12_tell_11 : decode cX12_tell 11 = .ok (.invokestatic 113, 3) := by decide +kernel
theorem dX12_tell_14 : decode cX12_tell 14 = .ok (.ifCond .eq 11, 3) := by decide +kernel
theorem dX12_tell_17 : decode cX12_tell 17 = .ok (.aload_n 0, 1) := by decide +kernel
theorem dX12_tell_18 : decode cX12_tell 18 = .ok (.iload_n 2, 1) := by decide +kernel
theorem dX12_tell_19 : decode cX12_tell 19 = .ok (.invokevirtual 288, 3) := by decide +kernel
theorem dX12_tell_22 : decode cX12_tell 22 = .ok (.ifCond .ne 5, 3) := by decide +kernel
theorem dX12_tell_25 : decode cX12_tell 25 = .ok (.iconst 0, 1) := by decide +kernel
theorem dX12_tell_26 : decode cX12_tell 26 = .ok (.ireturn, 1) := by decide +kernel
theorem dX12_tell_27 : decode cX12_tell 27 = .ok (.aload_n 0, 1) := by decide +kernel
theorem dX12_tell_28 : decode cX12_tell 28 = .ok (.getfield 42, 3) := by decide +kernel
theorem dX12_tell_31 : decode cX12_tell 31 = .ok (.iconst 0, 1) := by decide +kernel
theorem dX12_tell_32 : decode cX12_tell 32 = .ok (.iload_n 3, 1) := by decide +kernel
theorem dX12_tell_33 : decode cX12_tell 33 = .ok (.i2l, 1) := by decide +kernel
theorem dX12_tell_34 : decode cX12_tell 34 = .ok (.lastore, 1) := by decide +kernel
theorem dX12_tell_35 : decode cX12_tell 35 = .ok (.aload_n 0, 1) := by decide +kernel
theorem dX12_tell_36 : decode cX12_tell 36 = .ok (.getfield 42, 3) := by decide +kernel
theorem dX12_tell_39 : decode cX12_tell 39 = .ok (.iconst 1, 1) := by decide +kernel
theorem dX12_tell_40 : decode cX12_tell 40 = .ok (.iload 4, 2) := by decide +kernel
theorem dX12_tell_42 : decode cX12_tell 42 = .ok (.i2l, 1) := by decide +kernel
theorem dX12_tell_43 : decode cX12_tell 43 = .ok (.lastore, 1) := by decide +kernel
theorem dX12_tell_44 : decode cX12_tell 44 = .ok (.aload_n 0, 1) := by decide +kernel
theorem dX12_tell_45 : decode cX12_tell 45 = .ok (.getfield 42, 3) := by decide +kernel
theorem dX12_tell_48 : decode cX12_tell 48 = .ok (.iconst 2, 1) := by decide +kernel
theorem dX12_tell_49 : decode cX12_tell 49 = .ok (.iload 5, 2) := by decide +kernel
theorem dX12_tell_51 : decode cX12_tell 51 = .ok (.i2l, 1) := by decide +kernel
theorem dX12_tell_52 : decode cX12_tell 52 = .ok (.lastore, 1) := by decide +kernel
theorem dX12_tell_53 : decode cX12_tell 53 = .ok (.aload_n 0, 1) := by decide +kernel
theorem dX12_tell_54 : decode cX12_tell 54 = .ok (.getfield 42, 3) := by decide +kernel
theorem dX12_tell_57 : decode cX12_tell 57 = .ok (.iconst 3, 1) := by decide +kernel
theorem dX12_tell_58 : decode cX12_tell 58 = .ok (.iload 6, 2) := by decide +kernel
theorem dX12_tell_60 : decode cX12_tell 60 = .ok (.i2l, 1) := by decide +kernel
theorem dX12_tell_61 : decode cX12_tell 61 = .ok (.lastore, 1) := by decide +kernel
theorem dX12_tell_62 : decode cX12_tell 62 = .ok (.aload_n 0, 1) := by decide +kernel
theorem dX12_tell_63 : decode cX12_tell 63 = .ok (.getfield 42, 3) := by decide +kernel
theorem dX12_tell_66 : decode cX12_tell 66 = .ok (.iconst 4, 1) := by decide +kernel
theorem dX12_tell_67 : decode cX12_tell 67 = .ok (.lconst 1, 1) := by decide +kernel
theorem dX12_tell_68 : decode cX12_tell 68 = .ok (.lastore, 1) := by decide +kernel
theorem dX12_tell_69 : decode cX12_tell 69 = .ok (.aload_n 0, 1) := by decide +kernel
theorem dX12_tell_70 : decode cX12_tell 70 = .ok (.iload_n 1, 1) := by decide +kernel
theorem dX12_tell_71 : decode cX12_tell 71 = .ok (.iload_n 2, 1) := by decide +kernel
theorem dX12_tell_72 : decode cX12_tell 72 = .ok (.invokevirtual 291, 3) := by decide +kernel
theorem dX12_tell_75 : decode cX12_tell 75 = .ok (.ifCond .ne 7, 3) := by decide +kernel
theorem dX12_tell_78 : decode cX12_tell 78 = .ok (.iconst 1, 1) := by decide +kernel
theorem dX12_tell_79 : decode cX12_tell 79 = .ok (.goto 4, 3) := by decide +kernel
theorem dX12_tell_82 : decode cX12_tell 82 = .ok (.iconst 0, 1) := by decide +kernel
theorem dX12_tell_83 : decode cX12_tell 83 = .ok (.ireturn, 1) := by decide +kernel
theorem dX12_loads_0 : decode cX12_loads 0 = .ok (.iconst 0, 1) := by decide +kernel
theorem dX12_loads_1 : decode cX12_loads 1 = .ok (.istore 4, 2) := by decide +kernel
theorem dX12_loads_3 : decode cX12_loads 3 = .ok (.iload 4, 2) := by decide +kernel
theorem dX12_loads_5 : decode cX12_loads 5 = .ok (.iconst 5, 1) := by decide +kernel
theorem dX12_loads_6 : decode cX12_loads 6 = .ok (.if_icmp .ge 40, 3) := by decide +kernel
theorem dX12_loads_9 : decode cX12_loads 9 = .ok (.aload_n 0, 1) := by decide +kernel
theorem dX12_loads_10 : decode cX12_loads 10 = .ok (.getfield 42, 3) := by decide +kernel
theorem dX12_loads_13 : decode cX12_loads 13 = .ok (.iload 4, 2) := by decide +kernel
theorem dX12_loads_15 : decode cX12_loads 15 = .ok (.iload 4, 2) := by decide +kernel
theorem dX12_loads_17 : decode cX12_loads 17 = .ok (.iconst 4, 1) := by decide +kernel
theorem dX12_loads_18 : decode cX12_loads 18 = .ok (.if_icmp .ge 15, 3) := by decide +kernel
theorem dX12_loads_21 : decode cX12_loads 21 = .ok (.aload_n 0, 1) := by decide +kernel
theorem dX12_loads_22 : decode cX12_loads 22 = .ok (.iload_n 1, 1) := by decide +kernel
theorem dX12_loads_23 : decode cX12_loads 23 = .ok (.iload 4, 2) := by decide +kernel
theorem dX12_loads_25 : decode cX12_loads 25 = .ok (.invokevirtual 294, 3) := by decide +kernel
theorem dX12_loads_28 : decode cX12_loads 28 = .ok (.lload_n 2, 1) := by decide +kernel
theorem dX12_loads_29 : decode cX12_loads 29 = .ok (.lmul, 1) := by decide +kernel
theorem dX12_loads_30 : decode cX12_loads 30 = .ok (.goto 9, 3) := by decide +kernel
theorem dX12_loads_33 : decode cX12_loads 33 = .ok (.aload_n 0, 1) := by decide +kernel
theorem dX12_loads_34 : decode cX12_loads 34 = .ok (.iload_n 1, 1) := by decide +kernel
theorem dX12_loads_35 : decode cX12_loads 35 = .ok (.iconst 4, 1) := by decide +kernel
theorem dX12_loads_36 : decode cX12_loads 36 = .ok (.invokevirtual 294, 3) := by decide +kernel
theorem dX12_loads_39 : decode cX12_loads 39 = .ok (.lastore, 1) := by decide +kernel
theorem dX12_loads_40 : decode cX12_loads 40 = .ok (.iinc 4 1, 3) := by decide +kernel
theorem dX12_loads_43 : decode cX12_loads 43 = .ok (.goto (-40), 3) := by decide +kernel
theorem dX12_loads_46 : decode cX12_loads 46 = .ok (.return_, 1) := by decide +kernel
theorem dX12_over_0 : decode cX12_over 0 = .ok (.aload_n 0, 1) := by decide +kernel
theorem dX12_over_1 : decode cX12_over 1 = .ok (.iconst 0, 1) := by decide +kernel
theorem dX12_over_2 : decode cX12_over 2 = .ok (.putfield 75, 3) := by decide +kernel
theorem dX12_over_5 : decode cX12_over 5 = .ok (.aload_n 0, 1) := by decide +kernel
theorem dX12_over_6 : decode cX12_over 6 = .ok (.iload_n 1, 1) := by decide +kernel
theorem dX12_over_7 : decode cX12_over 7 = .ok (.invokevirtual 297, 3) := by decide +kernel
theorem dX12_over_10 : decode cX12_over 10 = .ok (.ifCond .eq 15, 3) := by decide +kernel
theorem dX12_over_13 : decode cX12_over 13 = .ok (.iload_n 2, 1) := by decide +kernel
theorem dX12_over_14 : decode cX12_over 14 = .ok (.i2l, 1) := by decide +kernel
theorem dX12_over_15 : decode cX12_over 15 = .ok (.lconst 1, 1) := by decide +kernel
theorem dX12_over_16 : decode cX12_over 16 = .ok (.ldc2_w 300, 3) := by decide +kernel
theorem dX12_over_19 : decode cX12_over 19 = .ok (.invokestatic 113, 3) := by decide +kernel
theorem dX12_over_22 : decode cX12_over 22 = .ok (.ifCond .ne 5, 3) := by decide +kernel
theorem dX12_over_25 : decode cX12_over 25 = .ok (.iconst (-1), 1) := by decide +kernel
theorem dX12_over_26 : decode cX12_over 26 = .ok (.ireturn, 1) := by decide +kernel
theorem dX12_over_27 : decode cX12_over 27 = .ok (.aload_n 0, 1) := by decide +kernel
theorem dX12_over_28 : decode cX12_over 28 = .ok (.iload_n 1, 1) := by decide +kernel
theorem dX12_over_29 : decode cX12_over 29 = .ok (.lconst 1, 1) := by decide +kernel
theorem dX12_over_30 : decode cX12_over 30 = .ok (.invokevirtual 302, 3) := by decide +kernel
theorem dX12_over_33 : decode cX12_over 33 = .ok (.aload_n 0, 1) := by decide +kernel
theorem dX12_over_34 : decode cX12_over 34 = .ok (.getfield 42, 3) := by decide +kernel
theorem dX12_over_37 : decode cX12_over 37 = .ok (.iconst 4, 1) := by decide +kernel
theorem dX12_over_38 : decode cX12_over 38 = .ok (.dup2, 1) := by decide +kernel
theorem dX12_over_39 : decode cX12_over 39 = .ok (.laload, 1) := by decide +kernel
theorem dX12_over_40 : decode cX12_over 40 = .ok (.iload_n 2, 1) := by decide +kernel
theorem dX12_over_41 : decode cX12_over 41 = .ok (.i2l, 1) := by decide +kernel
theorem dX12_over_42 : decode cX12_over 42 = .ok (.lmul, 1) := by decide +kernel
theorem dX12_over_43 : decode cX12_over 43 = .ok (.lastore, 1) := by decide +kernel
theorem dX12_over_44 : decode cX12_over 44 = .ok (.aload_n 0, 1) := by decide +kernel
theorem dX12_over_45 : decode cX12_over 45 = .ok (.iload_n 1, 1) := by decide +kernel
theorem dX12_over_46 : decode cX12_over 46 = .ok (.aload_n 0, 1) := by decide +kernel
theorem dX12_over_47 : decode cX12_over 47 = .ok (.getfield 36, 3) := by decide +kernel
theorem dX12_over_50 : decode cX12_over 50 = .ok (.iload_n 1, 1) := by decide +kernel
theorem dX12_over_51 : decode cX12_over 51 = .ok (.iaload, 1) := by decide +kernel
theorem dX12_over_52 : decode cX12_over 52 = .ok (.invokevirtual 291, 3) := by decide +kernel
theorem dX12_over_55 : decode cX12_over 55 = .ok (.ireturn, 1) := by decide +kernel
theorem dX12_element_0 : decode cX12_element 0 = .ok (.aload_n 0, 1) := by decide +kernel
theorem dX12_element_1 : decode cX12_element 1 = .ok (.aload_n 0, 1) := by decide +kernel
theorem dX12_element_2 : decode cX12_element 2 = .ok (.iload_n 1, 1) := by decide +kernel
theorem dX12_element_3 : decode cX12_element 3 = .ok (.invokevirtual 297, 3) := by decide +kernel
theorem dX12_element_6 : decode cX12_element 6 = .ok (.ifCond .eq 19, 3) := by decide +kernel
theorem dX12_element_9 : decode cX12_element 9 = .ok (.iload_n 2, 1) := by decide +kernel
theorem dX12_element_10 : decode cX12_element 10 = .ok (.i2l, 1) := by decide +kernel
theorem dX12_element_11 : decode cX12_element 11 = .ok (.lconst 0, 1) := by decide +kernel
theorem dX12_element_12 : decode cX12_element 12 = .ok (.ldc2_w 306, 3) := by decide +kernel
theorem dX12_element_15 : decode cX12_element 15 = .ok (.invokestatic 113, 3) := by decide +kernel
theorem dX12_element_18 : decode cX12_element 18 = .ok (.ifCond .eq 7, 3) := by decide +kernel
theorem dX12_element_21 : decode cX12_element 21 = .ok (.iconst 0, 1) := by decide +kernel
theorem dX12_element_22 : decode cX12_element 22 = .ok (.goto 4, 3) := by decide +kernel
theorem dX12_element_25 : decode cX12_element 25 = .ok (.iconst 1, 1) := by decide +kernel
theorem dX12_element_26 : decode cX12_element 26 = .ok (.putfield 75, 3) := by decide +kernel
theorem dX12_element_29 : decode cX12_element 29 = .ok (.aload_n 0, 1) := by decide +kernel
theorem dX12_element_30 : decode cX12_element 30 = .ok (.getfield 75, 3) := by decide +kernel
theorem dX12_element_33 : decode cX12_element 33 = .ok (.iconst 1, 1) := by decide +kernel
theorem dX12_element_34 : decode cX12_element 34 = .ok (.if_icmp .ne 5, 3) := by decide +kernel
theorem dX12_element_37 : decode cX12_element 37 = .ok (.iconst 0, 1) := by decide +kernel
theorem dX12_element_38 : decode cX12_element 38 = .ok (.ireturn, 1) := by decide +kernel
theorem dX12_element_39 : decode cX12_element 39 = .ok (.iload_n 2, 1) := by decide +kernel
theorem dX12_element_40 : decode cX12_element 40 = .ok (.iconst 5, 1) := by decide +kernel
theorem dX12_element_41 : decode cX12_element 41 = .ok (.if_icmp .ne 12, 3) := by decide +kernel
theorem dX12_element_44 : decode cX12_element 44 = .ok (.aload_n 0, 1) := by decide +kernel
theorem dX12_element_45 : decode cX12_element 45 = .ok (.getfield 36, 3) := by decide +kernel
theorem dX12_element_48 : decode cX12_element 48 = .ok (.iload_n 1, 1) := by decide +kernel
theorem dX12_element_49 : decode cX12_element 49 = .ok (.iaload, 1) := by decide +kernel
theorem dX12_element_50 : decode cX12_element 50 = .ok (.goto 10, 3) := by decide +kernel
theorem dX12_element_53 : decode cX12_element 53 = .ok (.aload_n 0, 1) := by decide +kernel
theorem dX12_element_54 : decode cX12_element 54 = .ok (.iload_n 1, 1) := by decide +kernel
theorem dX12_element_55 : decode cX12_element 55 = .ok (.iload_n 2, 1) := by decide +kernel
theorem dX12_element_56 : decode cX12_element 56 = .ok (.invokevirtual 294, 3) := by decide +kernel
theorem dX12_element_59 : decode cX12_element 59 = .ok (.l2i, 1) := by decide +kernel
theorem dX12_element_60 : decode cX12_element 60 = .ok (.ireturn, 1) := by decide +kernel
theorem dX12_areBeside_0 : decode cX12_areBeside 0 = .ok (.aload_n 0, 1) := by decide +kernel
theorem dX12_areBeside_1 : decode cX12_areBeside 1 = .ok (.iload_n 1, 1) := by decide +kernel
theorem dX12_areBeside_2 : decode cX12_areBeside 2 = .ok (.invokevirtual 297, 3) := by decide +kernel
theorem dX12_areBeside_5 : decode cX12_areBeside 5 = .ok (.ifCond .eq 42, 3) := by decide +kernel
theorem dX12_areBeside_8 : decode cX12_areBeside 8 = .ok (.aload_n 0, 1) := by decide +kernel
theorem dX12_areBeside_9 : decode cX12_areBeside 9 = .ok (.iload_n 2, 1) := by decide +kernel
theorem dX12_areBeside_10 : decode cX12_areBeside 10 = .ok (.invokevirtual 297, 3) := by decide +kernel
theorem dX12_areBeside_13 : decode cX12_areBeside 13 = .ok (.ifCond .eq 34, 3) := by decide +kernel
theorem dX12_areBeside_16 : decode cX12_areBeside 16 = .ok (.aload_n 0, 1) := by decide +kernel
theorem dX12_areBeside_17 : decode cX12_areBeside 17 = .ok (.getfield 36, 3) := by decide +kernel
theorem dX12_areBeside_20 : decode cX12_areBeside 20 = .ok (.iload_n 1, 1) := by decide +kernel
theorem dX12_areBeside_21 : decode cX12_areBeside 21 = .ok (.iaload, 1) := by decide +kernel
theorem dX12_areBeside_22 : decode cX12_areBeside 22 = .ok (.aload_n 0, 1) := by decide +kernel
theorem dX12_areBeside_23 : decode cX12_areBeside 23 = .ok (.getfield 36, 3) := by decide +kernel
theorem dX12_areBeside_26 : decode cX12_areBeside 26 = .ok (.iload_n 2, 1) := by decide +kernel
theorem dX12_areBeside_27 : decode cX12_areBeside 27 = .ok (.iaload, 1) := by decide +kernel
theorem dX12_areBeside_28 : decode cX12_areBeside 28 = .ok (.if_icmp .ne 19, 3) := by decide +kernel
theorem dX12_areBeside_31 : decode cX12_areBeside 31 = .ok (.iload_n 3, 1) := by decide +kernel
theorem dX12_areBeside_32 : decode cX12_areBeside 32 = .ok (.i2l, 1) := by decide +kernel
theorem dX12_areBeside_33 : decode cX12_areBeside 33 = .ok (.lconst 0, 1) := by decide +kernel
theorem dX12_areBeside_34 : decode cX12_areBeside 34 = .ok (.ldc2_w 278, 3) := by decide +kernel
theorem dX12_areBeside_37 : decode cX12_areBeside 37 = .ok (.invokestatic 113, 3) := by decide +kernel
theorem dX12_areBeside_40 : decode cX12_areBeside 40 = .ok (.ifCond .eq 7, 3) := by decide +kernel
theorem dX12_areBeside_43 : decode cX12_areBeside 43 = .ok (.iconst 1, 1) := by decide +kernel
theorem dX12_areBeside_44 : decode cX12_areBeside 44 = .ok (.goto 4, 3) := by decide +kernel
theorem dX12_areBeside_47 : decode cX12_areBeside 47 = .ok (.iconst 0, 1) := by decide +kernel
theorem dX12_areBeside_48 : decode cX12_areBeside 48 = .ok (.ireturn, 1) := by decide +kernel
theorem dX12_multiplies_0 : decode cX12_multiplies 0 = .ok (.aload_n 0, 1) := by decide +kernel
theorem dX12_multiplies_1 : decode cX12_multiplies 1 = .ok (.getfield 51, 3) := by decide +kernel
theorem dX12_multiplies_4 : decode cX12_multiplies 4 = .ok (.iconst 0, 1) := by decide +kernel
theorem dX12_multiplies_5 : decode cX12_multiplies 5 = .ok (.aload_n 0, 1) := by decide +kernel
theorem dX12_multiplies_6 : decode cX12_multiplies 6 = .ok (.getfield 45, 3) := by decide +kernel
theorem dX12_multiplies_9 : decode cX12_multiplies 9 = .ok (.iconst 0, 1) := by decide +kernel
theorem dX12_multiplies_10 : decode cX12_multiplies 10 = .ok (.laload, 1) := by decide +kernel
theorem dX12_multiplies_11 : decode cX12_multiplies 11 = .ok (.aload_n 0, 1) := by decide +kernel
theorem dX12_multiplies_12 : decode cX12_multiplies 12 = .ok (.getfield 48, 3) := by decide +kernel
theorem dX12_multiplies_15 : decode cX12_multiplies 15 = .ok (.iconst 0, 1) := by decide +kernel
theorem dX12_multiplies_16 : decode cX12_multiplies 16 = .ok (.laload, 1) := by decide +kernel
theorem dX12_multiplies_17 : decode cX12_multiplies 17 = .ok (.lmul, 1) := by decide +kernel
theorem dX12_multiplies_18 : decode cX12_multiplies 18 = .ok (.lload_n 1, 1) := by decide +kernel
theorem dX12_multiplies_19 : decode cX12_multiplies 19 = .ok (.aload_n 0, 1) := by decide +kernel
theorem dX12_multiplies_20 : decode cX12_multiplies 20 = .ok (.getfield 45, 3) := by decide +kernel
theorem dX12_multiplies_23 : decode cX12_multiplies 23 = .ok (.iconst 1, 1) := by decide +kernel
theorem dX12_multiplies_24 : decode cX12_multiplies 24 = .ok (.laload, 1) := by decide +kernel
theorem dX12_multiplies_25 : decode cX12_multiplies 25 = .ok (.lmul, 1) := by decide +kernel
theorem dX12_multiplies_26 : decode cX12_multiplies 26 = .ok (.aload_n 0, 1) := by decide +kernel
theorem dX12_multiplies_27 : decode cX12_multiplies 27 = .ok (.getfield 48, 3) := by decide +kernel
theorem dX12_multiplies_30 : decode cX12_multiplies 30 = .ok (.iconst 1, 1) := by decide +kernel
theorem dX12_multiplies_31 : decode cX12_multiplies 31 = .ok (.laload, 1) := by decide +kernel
theorem dX12_multiplies_32 : decode cX12_multiplies 32 = .ok (.lmul, 1) := by decide +kernel
theorem dX12_multiplies_33 : decode cX12_multiplies 33 = .ok (.ladd, 1) := by decide +kernel
theorem dX12_multiplies_34 : decode cX12_multiplies 34 = .ok (.lload_n 3, 1) := by decide +kernel
theorem dX12_multiplies_35 : decode cX12_multiplies 35 = .ok (.aload_n 0, 1) := by decide +kernel
theorem dX12_multiplies_36 : decode cX12_multiplies 36 = .ok (.getfield 45, 3) := by decide +kernel
theorem dX12_multiplies_39 : decode cX12_multiplies 39 = .ok (.iconst 2, 1) := by decide +kernel
theorem dX12_multiplies_40 : decode cX12_multiplies 40 = .ok (.laload, 1) := by decide +kernel
theorem dX12_multiplies_41 : decode cX12_multiplies 41 = .ok (.lmul, 1) := by decide +kernel
theorem dX12_multiplies_42 : decode cX12_multiplies 42 = .ok (.aload_n 0, 1) := by decide +kernel
theorem dX12_multiplies_43 : decode cX12_multiplies 43 = .ok (.getfield 48, 3) := by decide +kernel
theorem dX12_multiplies_46 : decode cX12_multiplies 46 = .ok (.iconst 2, 1) := by decide +kernel
theorem dX12_multiplies_47 : decode cX12_multiplies 47 = .ok (.laload, 1) := by decide +kernel
theorem dX12_multiplies_48 : decode cX12_multiplies 48 = .ok (.lmul, 1) := by decide +kernel
theorem dX12_multiplies_49 : decode cX12_multiplies 49 = .ok (.ladd, 1) := by decide +kernel
theorem dX12_multiplies_50 : decode cX12_multiplies 50 = .ok (.lload_n 1, 1) := by decide +kernel
theorem dX12_multiplies_51 : decode cX12_multiplies 51 = .ok (.lload_n 3, 1) := by decide +kernel
theorem dX12_multiplies_52 : decode cX12_multiplies 52 = .ok (.lmul, 1) := by decide +kernel
theorem dX12_multiplies_53 : decode cX12_multiplies 53 = .ok (.aload_n 0, 1) := by decide +kernel
theorem dX12_multiplies_54 : decode cX12_multiplies 54 = .ok (.getfield 45, 3) := by decide +kernel
theorem dX12_multiplies_57 : decode cX12_multiplies 57 = .ok (.iconst 3, 1) := by decide +kernel
theorem dX12_multiplies_58 : decode cX12_multiplies 58 = .ok (.laload, 1) := by decide +kernel
theorem dX12_multiplies_59 : decode cX12_multiplies 59 = .ok (.lmul, 1) := by decide +kernel
theorem dX12_multiplies_60 : decode cX12_multiplies 60 = .ok (.aload_n 0, 1) := by decide +kernel
theorem dX12_multiplies_61 : decode cX12_multiplies 61 = .ok (.getfield 48, 3) := by decide +kernel
theorem dX12_multiplies_64 : decode cX12_multiplies 64 = .ok (.iconst 3, 1) := by decide +kernel
theorem dX12_multiplies_65 : decode cX12_multiplies 65 = .ok (.laload, 1) := by decide +kernel
theorem dX12_multiplies_66 : decode cX12_multiplies 66 = .ok (.lmul, 1) := by decide +kernel
theorem dX12_multiplies_67 : decode cX12_multiplies 67 = .ok (.lsub, 1) := by decide +kernel
theorem dX12_multiplies_68 : decode cX12_multiplies 68 = .ok (.lastore, 1) := by decide +kernel
theorem dX12_multiplies_69 : decode cX12_multiplies 69 = .ok (.aload_n 0, 1) := by decide +kernel
theorem dX12_multiplies_70 : decode cX12_multiplies 70 = .ok (.getfield 51, 3) := by decide +kernel
theorem dX12_multiplies_73 : decode cX12_multiplies 73 = .ok (.iconst 1, 1) := by decide +kernel
theorem dX12_multiplies_74 : decode cX12_multiplies 74 = .ok (.aload_n 0, 1) := by decide +kernel
theorem dX12_multiplies_75 : decode cX12_multiplies 75 = .ok (.getfield 45, 3) := by decide +kernel
theorem dX12_multiplies_78 : decode cX12_multiplies 78 = .ok (.iconst 0, 1) := by decide +kernel
theorem dX12_multiplies_79 : decode cX12_multiplies 79 = .ok (.laload, 1) := by decide +kernel
theorem dX12_multiplies_80 : decode cX12_multiplies 80 = .ok (.aload_n 0, 1) := by decide +kernel
theorem dX12_multiplies_81 : decode cX12_multiplies 81 = .ok (.getfield 48, 3) := by decide +kernel
theorem dX12_multiplies_84 : decode cX12_multiplies 84 = .ok (.iconst 1, 1) := by decide +kernel
theorem dX12_multiplies_85 : decode cX12_multiplies 85 = .ok (.laload, 1) := by decide +kernel
theorem dX12_multiplies_86 : decode cX12_multiplies 86 = .ok (.lmul, 1) := by decide +kernel
theorem dX12_multiplies_87 : decode cX12_multiplies 87 = .ok (.aload_n 0, 1) := by decide +kernel
theorem dX12_multiplies_88 : decode cX12_multiplies 88 = .ok (.getfield 45, 3) := by decide +kernel
theorem dX12_multiplies_91 : decode cX12_multiplies 91 = .ok (.iconst 1, 1) := by decide +kernel
theorem dX12_multiplies_92 : decode cX12_multiplies 92 = .ok (.laload, 1) := by decide +kernel
theorem dX12_multiplies_93 : decode cX12_multiplies 93 = .ok (.aload_n 0, 1) := by decide +kernel
theorem dX12_multiplies_94 : decode cX12_multiplies 94 = .ok (.getfield 48, 3) := by decide +kernel
theorem dX12_multiplies_97 : decode cX12_multiplies 97 = .ok (.iconst 0, 1) := by decide +kernel
theorem dX12_multiplies_98 : decode cX12_multiplies 98 = .ok (.laload, 1) := by decide +kernel
theorem dX12_multiplies_99 : decode cX12_multiplies 99 = .ok (.lmul, 1) := by decide +kernel
theorem dX12_multiplies_100 : decode cX12_multiplies 100 = .ok (.ladd, 1) := by decide +kernel
theorem dX12_multiplies_101 : decode cX12_multiplies 101 = .ok (.lload_n 3, 1) := by decide +kernel
theorem dX12_multiplies_102 : decode cX12_multiplies 102 = .ok (.aload_n 0, 1) := by decide +kernel
theorem dX12_multiplies_103 : decode cX12_multiplies 103 = .ok (.getfield 45, 3) := by decide +kernel
theorem dX12_multiplies_106 : decode cX12_multiplies 106 = .ok (.iconst 2, 1) := by decide +kernel
theorem dX12_multiplies_107 : decode cX12_multiplies 107 = .ok (.laload, 1) := by decide +kernel
theorem dX12_multiplies_108 : decode cX12_multiplies 108 = .ok (.lmul, 1) := by decide +kernel
theorem dX12_multiplies_109 : decode cX12_multiplies 109 = .ok (.aload_n 0, 1) := by decide +kernel
theorem dX12_multiplies_110 : decode cX12_multiplies 110 = .ok (.getfield 48, 3) := by decide +kernel
theorem dX12_multiplies_113 : decode cX12_multiplies 113 = .ok (.iconst 3, 1) := by decide +kernel
theorem dX12_multiplies_114 : decode cX12_multiplies 114 = .ok (.laload, 1) := by decide +kernel
theorem dX12_multiplies_115 : decode cX12_multiplies 115 = .ok (.lmul, 1) := by decide +kernel
theorem dX12_multiplies_116 : decode cX12_multiplies 116 = .ok (.lsub, 1) := by decide +kernel
theorem dX12_multiplies_117 : decode cX12_multiplies 117 = .ok (.lload_n 3, 1) := by decide +kernel
theorem dX12_multiplies_118 : decode cX12_multiplies 118 = .ok (.aload_n 0, 1) := by decide +kernel
theorem dX12_multiplies_119 : decode cX12_multiplies 119 = .ok (.getfield 45, 3) := by decide +kernel
theorem dX12_multiplies_122 : decode cX12_multiplies 122 = .ok (.iconst 3, 1) := by decide +kernel
theorem dX12_multiplies_123 : decode cX12_multiplies 123 = .ok (.laload, 1) := by decide +kernel
theorem dX12_multiplies_124 : decode cX12_multiplies 124 = .ok (.lmul, 1) := by decide +kernel
theorem dX12_multiplies_125 : decode cX12_multiplies 125 = .ok (.aload_n 0, 1) := by decide +kernel
theorem dX12_multiplies_126 : decode cX12_multiplies 126 = .ok (.getfield 48, 3) := by decide +kernel
theorem dX12_multiplies_129 : decode cX12_multiplies 129 = .ok (.iconst 2, 1) := by decide +kernel
theorem dX12_multiplies_130 : decode cX12_multiplies 130 = .ok (.laload, 1) := by decide +kernel
theorem dX12_multiplies_131 : decode cX12_multiplies 131 = .ok (.lmul, 1) := by decide +kernel
theorem dX12_multiplies_132 : decode cX12_multiplies 132 = .ok (.ladd, 1) := by decide +kernel
theorem dX12_multiplies_133 : decode cX12_multiplies 133 = .ok (.lastore, 1) := by decide +kernel
theorem dX12_multiplies_134 : decode cX12_multiplies 134 = .ok (.aload_n 0, 1) := by decide +kernel
theorem dX12_multiplies_135 : decode cX12_multiplies 135 = .ok (.getfield 51, 3) := by decide +kernel
theorem dX12_multiplies_138 : decode cX12_multiplies 138 = .ok (.iconst 2, 1) := by decide +kernel
theorem dX12_multiplies_139 : decode cX12_multiplies 139 = .ok (.aload_n 0, 1) := by decide +kernel
theorem dX12_multiplies_140 : decode cX12_multiplies 140 = .ok (.getfield 45, 3) := by decide +kernel
theorem dX12_multiplies_143 : decode cX12_multiplies 143 = .ok (.iconst 0, 1) := by decide +kernel
theorem dX12_multiplies_144 : decode cX12_multiplies 144 = .ok (.laload, 1) := by decide +kernel
theorem dX12_multiplies_145 : decode cX12_multiplies 145 = .ok (.aload_n 0, 1) := by decide +kernel
theorem dX12_multiplies_146 : decode cX12_multiplies 146 = .ok (.getfield 48, 3) := by decide +kernel
theorem dX12_multiplies_149 : decode cX12_multiplies 149 = .ok (.iconst 2, 1) := by decide +kernel
theorem dX12_multiplies_150 : decode cX12_multiplies 150 = .ok (.laload, 1) := by decide +kernel
theorem dX12_multiplies_151 : decode cX12_multiplies 151 = .ok (.lmul, 1) := by decide +kernel
theorem dX12_multiplies_152 : decode cX12_multiplies 152 = .ok (.aload_n 0, 1) := by decide +kernel
theorem dX12_multiplies_153 : decode cX12_multiplies 153 = .ok (.getfield 45, 3) := by decide +kernel
theorem dX12_multiplies_156 : decode cX12_multiplies 156 = .ok (.iconst 2, 1) := by decide +kernel
theorem dX12_multiplies_157 : decode cX12_multiplies 157 = .ok (.laload, 1) := by decide +kernel
theorem dX12_multiplies_158 : decode cX12_multiplies 158 = .ok (.aload_n 0, 1) := by decide +kernel
theorem dX12_multiplies_159 : decode cX12_multiplies 159 = .ok (.getfield 48, 3) := by decide +kernel
theorem dX12_multiplies_162 : decode cX12_multiplies 162 = .ok (.iconst 0, 1) := by decide +kernel
theorem dX12_multiplies_163 : decode cX12_multiplies 163 = .ok (.laload, 1) := by decide +kernel
theorem dX12_multiplies_164 : decode cX12_multiplies 164 = .ok (.lmul, 1) := by decide +kernel
theorem dX12_multiplies_165 : decode cX12_multiplies 165 = .ok (.ladd, 1) := by decide +kernel
theorem dX12_multiplies_166 : decode cX12_multiplies 166 = .ok (.lload_n 1, 1) := by decide +kernel
theorem dX12_multiplies_167 : decode cX12_multiplies 167 = .ok (.aload_n 0, 1) := by decide +kernel
theorem dX12_multiplies_168 : decode cX12_multiplies 168 = .ok (.getfield 45, 3) := by decide +kernel
theorem dX12_multiplies_171 : decode cX12_multiplies 171 = .ok (.iconst 1, 1) := by decide +kernel
theorem dX12_multiplies_172 : decode cX12_multiplies 172 = .ok (.laload, 1) := by decide +kernel
theorem dX12_multiplies_173 : decode cX12_multiplies 173 = .ok (.lmul, 1) := by decide +kernel
theorem dX12_multiplies_174 : decode cX12_multiplies 174 = .ok (.aload_n 0, 1) := by decide +kernel
theorem dX12_multiplies_175 : decode cX12_multiplies 175 = .ok (.getfield 48, 3) := by decide +kernel
theorem dX12_multiplies_178 : decode cX12_multiplies 178 = .ok (.iconst 3, 1) := by decide +kernel
theorem dX12_multiplies_179 : decode cX12_multiplies 179 = .ok (.laload, 1) := by decide +kernel
theorem dX12_multiplies_180 : decode cX12_multiplies 180 = .ok (.lmul, 1) := by decide +kernel
theorem dX12_multiplies_181 : decode cX12_multiplies 181 = .ok (.ladd, 1) := by decide +kernel
theorem dX12_multiplies_182 : decode cX12_multiplies 182 = .ok (.lload_n 1, 1) := by decide +kernel
theorem dX12_multiplies_183 : decode cX12_multiplies 183 = .ok (.aload_n 0, 1) := by decide +kernel
theorem dX12_multiplies_184 : decode cX12_multiplies 184 = .ok (.getfield 45, 3) := by decide +kernel
theorem dX12_multiplies_187 : decode cX12_multiplies 187 = .ok (.iconst 3, 1) := by decide +kernel
theorem dX12_multiplies_188 : decode cX12_multiplies 188 = .ok (.laload, 1) := by decide +kernel
theorem dX12_multiplies_189 : decode cX12_multiplies 189 = .ok (.lmul, 1) := by decide +kernel
theorem dX12_multiplies_190 : decode cX12_multiplies 190 = .ok (.aload_n 0, 1) := by decide +kernel
theorem dX12_multiplies_191 : decode cX12_multiplies 191 = .ok (.getfield 48, 3) := by decide +kernel
theorem dX12_multiplies_194 : decode cX12_multiplies 194 = .ok (.iconst 1, 1) := by decide +kernel
theorem dX12_multiplies_195 : decode cX12_multiplies 195 = .ok (.laload, 1) := by decide +kernel
theorem dX12_multiplies_196 : decode cX12_multiplies 196 = .ok (.lmul, 1) := by decide +kernel
theorem dX12_multiplies_197 : decode cX12_multiplies 197 = .ok (.lsub, 1) := by decide +kernel
theorem dX12_multiplies_198 : decode cX12_multiplies 198 = .ok (.lastore, 1) := by decide +kernel
theorem dX12_multiplies_199 : decode cX12_multiplies 199 = .ok (.aload_n 0, 1) := by decide +kernel
theorem dX12_multiplies_200 : decode cX12_multiplies 200 = .ok (.getfield 51, 3) := by decide +kernel
theorem dX12_multiplies_203 : decode cX12_multiplies 203 = .ok (.iconst 3, 1) := by decide +kernel
theorem dX12_multiplies_204 : decode cX12_multiplies 204 = .ok (.aload_n 0, 1) := by decide +kernel
theorem dX12_multiplies_205 : decode cX12_multiplies 205 = .ok (.getfield 45, 3) := by decide +kernel
theorem dX12_multiplies_208 : decode cX12_multiplies 208 = .ok (.iconst 0, 1) := by decide +kernel
theorem dX12_multiplies_209 : decode cX12_multiplies 209 = .ok (.laload, 1) := by decide +kernel
theorem dX12_multiplies_210 : decode cX12_multiplies 210 = .ok (.aload_n 0, 1) := by decide +kernel
theorem dX12_multiplies_211 : decode cX12_multiplies 211 = .ok (.getfield 48, 3) := by decide +kernel
theorem dX12_multiplies_214 : decode cX12_multiplies 214 = .ok (.iconst 3, 1) := by decide +kernel
theorem dX12_multiplies_215 : decode cX12_multiplies 215 = .ok (.laload, 1) := by decide +kernel
theorem dX12_multiplies_216 : decode cX12_multiplies 216 = .ok (.lmul, 1) := by decide +kernel
theorem dX12_multiplies_217 : decode cX12_multiplies 217 = .ok (.aload_n 0, 1) := by decide +kernel
theorem dX12_multiplies_218 : decode cX12_multiplies 218 = .ok (.getfield 45, 3) := by decide +kernel
theorem dX12_multiplies_221 : decode cX12_multiplies 221 = .ok (.iconst 3, 1) := by decide +kernel
theorem dX12_multiplies_222 : decode cX12_multiplies 222 = .ok (.laload, 1) := by decide +kernel
theorem dX12_multiplies_223 : decode cX12_multiplies 223 = .ok (.aload_n 0, 1) := by decide +kernel
theorem dX12_multiplies_224 : decode cX12_multiplies 224 = .ok (.getfield 48, 3) := by decide +kernel
theorem dX12_multiplies_227 : decode cX12_multiplies 227 = .ok (.iconst 0, 1) := by decide +kernel
theorem dX12_multiplies_228 : decode cX12_multiplies 228 = .ok (.laload, 1) := by decide +kernel
theorem dX12_multiplies_229 : decode cX12_multiplies 229 = .ok (.lmul, 1) := by decide +kernel
theorem dX12_multiplies_230 : decode cX12_multiplies 230 = .ok (.ladd, 1) := by decide +kernel
theorem dX12_multiplies_231 : decode cX12_multiplies 231 = .ok (.aload_n 0, 1) := by decide +kernel
theorem dX12_multiplies_232 : decode cX12_multiplies 232 = .ok (.getfield 45, 3) := by decide +kernel
theorem dX12_multiplies_235 : decode cX12_multiplies 235 = .ok (.iconst 1, 1) := by decide +kernel
theorem dX12_multiplies_236 : decode cX12_multiplies 236 = .ok (.laload, 1) := by decide +kernel
theorem dX12_multiplies_237 : decode cX12_multiplies 237 = .ok (.aload_n 0, 1) := by decide +kernel
theorem dX12_multiplies_238 : decode cX12_multiplies 238 = .ok (.getfield 48, 3) := by decide +kernel
theorem dX12_multiplies_241 : decode cX12_multiplies 241 = .ok (.iconst 2, 1) := by decide +kernel
theorem dX12_multiplies_242 : decode cX12_multiplies 242 = .ok (.laload, 1) := by decide +kernel
theorem dX12_multiplies_243 : decode cX12_multiplies 243 = .ok (.lmul, 1) := by decide +kernel
theorem dX12_multiplies_244 : decode cX12_multiplies 244 = .ok (.ladd, 1) := by decide +kernel
theorem dX12_multiplies_245 : decode cX12_multiplies 245 = .ok (.aload_n 0, 1) := by decide +kernel
theorem dX12_multiplies_246 : decode cX12_multiplies 246 = .ok (.getfield 45, 3) := by decide +kernel
theorem dX12_multiplies_249 : decode cX12_multiplies 249 = .ok (.iconst 2, 1) := by decide +kernel
theorem dX12_multiplies_250 : decode cX12_multiplies 250 = .ok (.laload, 1) := by decide +kernel
theorem dX12_multiplies_251 : decode cX12_multiplies 251 = .ok (.aload_n 0, 1) := by decide +kernel
theorem dX12_multiplies_252 : decode cX12_multiplies 252 = .ok (.getfield 48, 3) := by decide +kernel
theorem dX12_multiplies_255 : decode cX12_multiplies 255 = .ok (.iconst 1, 1) := by decide +kernel
theorem dX12_multiplies_256 : decode cX12_multiplies 256 = .ok (.laload, 1) := by decide +kernel
theorem dX12_multiplies_257 : decode cX12_multiplies 257 = .ok (.lmul, 1) := by decide +kernel
theorem dX12_multiplies_258 : decode cX12_multiplies 258 = .ok (.lsub, 1) := by decide +kernel
theorem dX12_multiplies_259 : decode cX12_multiplies 259 = .ok (.lastore, 1) := by decide +kernel
theorem dX12_multiplies_260 : decode cX12_multiplies 260 = .ok (.return_, 1) := by decide +kernel
theorem dX12_takesOne_0 : decode cX12_takesOne 0 = .ok (.iconst 0, 1) := by decide +kernel
theorem dX12_takesOne_1 : decode cX12_takesOne 1 = .ok (.istore_n 2, 1) := by decide +kernel
theorem dX12_takesOne_2 : decode cX12_takesOne 2 = .ok (.iload_n 2, 1) := by decide +kernel
theorem dX12_takesOne_3 : decode cX12_takesOne 3 = .ok (.iconst 4, 1) := by decide +kernel
theorem dX12_takesOne_4 : decode cX12_takesOne 4 = .ok (.if_icmp .ge 21, 3) := by decide +kernel
theorem dX12_takesOne_7 : decode cX12_takesOne 7 = .ok (.aload_n 0, 1) := by decide +kernel
theorem dX12_takesOne_8 : decode cX12_takesOne 8 = .ok (.getfield 45, 3) := by decide +kernel
theorem dX12_takesOne_11 : decode cX12_takesOne 11 = .ok (.iload_n 2, 1) := by decide +kernel
theorem dX12_takesOne_12 : decode cX12_takesOne 12 = .ok (.aload_n 0, 1) := by decide +kernel
theorem dX12_takesOne_13 : decode cX12_takesOne 13 = .ok (.iload_n 1, 1) := by decide +kernel
theorem dX12_takesOne_14 : decode cX12_takesOne 14 = .ok (.iload_n 2, 1) := by decide +kernel
theorem dX12_takesOne_15 : decode cX12_takesOne 15 = .ok (.invokevirtual 294, 3) := by decide +kernel
theorem dX12_takesOne_18 : decode cX12_takesOne 18 = .ok (.lastore, 1) := by decide +kernel
theorem dX12_takesOne_19 : decode cX12_takesOne 19 = .ok (.iinc 2 1, 3) := by decide +kernel
theorem dX12_takesOne_22 : decode cX12_takesOne 22 = .ok (.goto (-20), 3) := by decide +kernel
theorem dX12_takesOne_25 : decode cX12_takesOne 25 = .ok (.return_, 1) := by decide +kernel
theorem dX12_takesOther_0 : decode cX12_takesOther 0 = .ok (.iconst 0, 1) := by decide +kernel
theorem dX12_takesOther_1 : decode cX12_takesOther 1 = .ok (.istore_n 2, 1) := by decide +kernel
theorem dX12_takesOther_2 : decode cX12_takesOther 2 = .ok (.iload_n 2, 1) := by decide +kernel
theorem dX12_takesOther_3 : decode cX12_takesOther 3 = .ok (.iconst 4, 1) := by decide +kernel
theorem dX12_takesOther_4 : decode cX12_takesOther 4 = .ok (.if_icmp .ge 21, 3) := by decide +kernel
theorem dX12_takesOther_7 : decode cX12_takesOther 7 = .ok (.aload_n 0, 1) := by decide +kernel
theorem dX12_takesOther_8 : decode cX12_takesOther 8 = .ok (.getfield 48, 3) := by decide +kernel
theorem dX12_takesOther_11 : decode cX12_takesOther 11 = .ok (.iload_n 2, 1) := by decide +kernel
theorem dX12_takesOther_12 : decode cX12_takesOther 12 = .ok (.aload_n 0, 1) := by decide +kernel
theorem dX12_takesOther_13 : decode cX12_takesOther 13 = .ok (.iload_n 1, 1) := by decide +kernel
theorem dX12_takesOther_14 : decode cX12_takesOther 14 = .ok (.iload_n 2, 1) := by decide +kernel
theorem dX12_takesOther_15 : decode cX12_takesOther 15 = .ok (.invokevirtual 294, 3) := by decide +kernel
theorem dX12_takesOther_18 : decode cX12_takesOther 18 = .ok (.lastore, 1) := by decide +kernel
theorem dX12_takesOther_19 : decode cX12_takesOther 19 = .ok (.iinc 2 1, 3) := by decide +kernel
theorem dX12_takesOther_22 : decode cX12_takesOther 22 = .ok (.goto (-20), 3) := by decide +kernel
theorem dX12_takesOther_25 : decode cX12_takesOther 25 = .ok (.return_, 1) := by decide +kernel
theorem dX12_times_0 : decode cX12_times 0 = .ok (.aload_n 0, 1) := by decide +kernel
theorem dX12_times_1 : decode cX12_times 1 = .ok (.iconst 0, 1) := by decide +kernel
theorem dX12_times_2 : decode cX12_times 2 = .ok (.putfield 75, 3) := by decide +kernel
theorem dX12_times_5 : decode cX12_times 5 = .ok (.aload_n 0, 1) := by decide +kernel
theorem dX12_times_6 : decode cX12_times 6 = .ok (.iload_n 1, 1) := by decide +kernel
theorem dX12_times_7 : decode cX12_times 7 = .ok (.iload_n 2, 1) := by decide +kernel
theorem dX12_times_8 : decode cX12_times 8 = .ok (.iload_n 3, 1) := by decide +kernel
theorem dX12_times_9 : decode cX12_times 9 = .ok (.invokevirtual 308, 3) := by decide +kernel
theorem dX12_times_12 : decode cX12_times 12 = .ok (.ifCond .ne 5, 3) := by decide +kernel
theorem dX12_times_15 : decode cX12_times 15 = .ok (.iconst (-1), 1) := by decide +kernel
theorem dX12_times_16 : decode cX12_times 16 = .ok (.ireturn, 1) := by decide +kernel
theorem dX12_times_17 : decode cX12_times 17 = .ok (.aload_n 0, 1) := by decide +kernel
theorem dX12_times_18 : decode cX12_times 18 = .ok (.iload_n 1, 1) := by decide +kernel
theorem dX12_times_19 : decode cX12_times 19 = .ok (.invokevirtual 312, 3) := by decide +kernel
theorem dX12_times_22 : decode cX12_times 22 = .ok (.aload_n 0, 1) := by decide +kernel
theorem dX12_times_23 : decode cX12_times 23 = .ok (.iload_n 2, 1) := by decide +kernel
theorem dX12_times_24 : decode cX12_times 24 = .ok (.invokevirtual 315, 3) := by decide +kernel
theorem dX12_times_27 : decode cX12_times 27 = .ok (.aload_n 0, 1) := by decide +kernel
theorem dX12_times_28 : decode cX12_times 28 = .ok (.aload_n 0, 1) := by decide +kernel
theorem dX12_times_29 : decode cX12_times 29 = .ok (.getfield 24, 3) := by decide +kernel
theorem dX12_times_32 : decode cX12_times 32 = .ok (.aload_n 0, 1) := by decide +kernel
theorem dX12_times_33 : decode cX12_times 33 = .ok (.getfield 36, 3) := by decide +kernel
theorem dX12_times_36 : decode cX12_times 36 = .ok (.iload_n 1, 1) := by decide +kernel
theorem dX12_times_37 : decode cX12_times 37 = .ok (.iaload, 1) := by decide +kernel
theorem dX12_times_38 : decode cX12_times 38 = .ok (.iaload, 1) := by decide +kernel
theorem dX12_times_39 : decode cX12_times 39 = .ok (.i2l, 1) := by decide +kernel
theorem dX12_times_40 : decode cX12_times 40 = .ok (.aload_n 0, 1) := by decide +kernel
theorem dX12_times_41 : decode cX12_times 41 = .ok (.getfield 27, 3) := by decide +kernel
theorem dX12_times_44 : decode cX12_times 44 = .ok (.aload_n 0, 1) := by decide +kernel
theorem dX12_times_45 : decode cX12_times 45 = .ok (.getfield 36, 3) := by decide +kernel
theorem dX12_times_48 : decode cX12_times 48 = .ok (.iload_n 1, 1) := by decide +kernel
theorem dX12_times_49 : decode cX12_times 49 = .ok (.iaload, 1) := by decide +kernel
theorem dX12_times_50 : decode cX12_times 50 = .ok (.iaload, 1) := by decide +kernel
theorem dX12_times_51 : decode cX12_times 51 = .ok (.i2l, 1) := by decide +kernel
theorem dX12_times_52 : decode cX12_times 52 = .ok (.invokevirtual 318, 3) := by decide +kernel
theorem dX12_times_55 : decode cX12_times 55 = .ok (.iconst 0, 1) := by decide +kernel
theorem dX12_times_56 : decode cX12_times 56 = .ok (.istore 4, 2) := by decide +kernel
theorem dX12_times_58 : decode cX12_times 58 = .ok (.iload 4, 2) := by decide +kernel
theorem dX12_times_60 : decode cX12_times 60 = .ok (.iconst 4, 1) := by decide +kernel
theorem dX12_times_61 : decode cX12_times 61 = .ok (.if_icmp .ge 23, 3) := by decide +kernel
theorem dX12_times_64 : decode cX12_times 64 = .ok (.aload_n 0, 1) := by decide +kernel
theorem dX12_times_65 : decode cX12_times 65 = .ok (.getfield 42, 3) := by decide +kernel
theorem dX12_times_68 : decode cX12_times 68 = .ok (.iload 4, 2) := by decide +kernel
theorem dX12_times_70 : decode cX12_times 70 = .ok (.aload_n 0, 1) := by decide +kernel
theorem dX12_times_71 : decode cX12_times 71 = .ok (.getfield 51, 3) := by decide +kernel
theorem dX12_times_74 : decode cX12_times 74 = .ok (.iload 4, 2) := by decide +kernel
theorem dX12_times_76 : decode cX12_times 76 = .ok (.laload, 1) := by decide +kernel
theorem dX12_times_77 : decode cX12_times 77 = .ok (.lastore, 1) := by decide +kernel
theorem dX12_times_78 : decode cX12_times 78 = .ok (.iinc 4 1, 3) := by decide +kernel
theorem dX12_times_81 : decode cX12_times 81 = .ok (.goto (-23), 3) := by decide +kernel
theorem dX12_times_84 : decode cX12_times 84 = .ok (.aload_n 0, 1) := by decide +kernel
theorem dX12_times_85 : decode cX12_times 85 = .ok (.getfield 42, 3) := by decide +kernel
theorem dX12_times_88 : decode cX12_times 88 = .ok (.iconst 4, 1) := by decide +kernel
theorem dX12_times_89 : decode cX12_times 89 = .ok (.aload_n 0, 1) := by decide +kernel
theorem dX12_times_90 : decode cX12_times 90 = .ok (.iload_n 1, 1) := by decide +kernel
theorem dX12_times_91 : decode cX12_times 91 = .ok (.iconst 4, 1) := by decide +kernel
theorem dX12_times_92 : decode cX12_times 92 = .ok (.invokevirtual 294, 3) := by decide +kernel
theorem dX12_times_95 : decode cX12_times 95 = .ok (.aload_n 0, 1) := by decide +kernel
theorem dX12_times_96 : decode cX12_times 96 = .ok (.iload_n 2, 1) := by decide +kernel
theorem dX12_times_97 : decode cX12_times 97 = .ok (.iconst 4, 1) := by decide +kernel
theorem dX12_times_98 : decode cX12_times 98 = .ok (.invokevirtual 294, 3) := by decide +kernel
theorem dX12_times_101 : decode cX12_times 101 = .ok (.lmul, 1) := by decide +kernel
theorem dX12_times_102 : decode cX12_times 102 = .ok (.lastore, 1) := by decide +kernel
theorem dX12_times_103 : decode cX12_times 103 = .ok (.aload_n 0, 1) := by decide +kernel
theorem dX12_times_104 : decode cX12_times 104 = .ok (.iload_n 3, 1) := by decide +kernel
theorem dX12_times_105 : decode cX12_times 105 = .ok (.aload_n 0, 1) := by decide +kernel
theorem dX12_times_106 : decode cX12_times 106 = .ok (.getfield 36, 3) := by decide +kernel
theorem dX12_times_109 : decode cX12_times 109 = .ok (.iload_n 1, 1) := by decide +kernel
theorem dX12_times_110 : decode cX12_times 110 = .ok (.iaload, 1) := by decide +kernel
theorem dX12_times_111 : decode cX12_times 111 = .ok (.invokevirtual 291, 3) := by decide +kernel
theorem dX12_times_114 : decode cX12_times 114 = .ok (.ireturn, 1) := by decide +kernel
theorem dX12_plus_0 : decode cX12_plus 0 = .ok (.aload_n 0, 1) := by decide +kernel
theorem dX12_plus_1 : decode cX12_plus 1 = .ok (.iconst 0, 1) := by decide +kernel
theorem dX12_plus_2 : decode cX12_plus 2 = .ok (.putfield 75, 3) := by decide +kernel
theorem dX12_plus_5 : decode cX12_plus 5 = .ok (.aload_n 0, 1) := by decide +kernel
theorem dX12_plus_6 : decode cX12_plus 6 = .ok (.iload_n 1, 1) := by decide +kernel
theorem dX12_plus_7 : decode cX12_plus 7 = .ok (.iload_n 2, 1) := by decide +kernel
theorem dX12_plus_8 : decode cX12_plus 8 = .ok (.iload 4, 2) := by decide +kernel
theorem dX12_plus_10 : decode cX12_plus 10 = .ok (.invokevirtual 308, 3) := by decide +kernel
theorem dX12_plus_13 : decode cX12_plus 13 = .ok (.ifCond .eq 17, 3) := by decide +kernel
theorem dX12_plus_16 : decode cX12_plus 16 = .ok (.iload_n 3, 1) := by decide +kernel
theorem dX12_plus_17 : decode cX12_plus 17 = .ok (.i2l, 1) := by decide +kernel
theorem dX12_plus_18 : decode cX12_plus 18 = .ok (.ldc2_w 322, 3) := by decide +kernel
theorem dX12_plus_21 : decode cX12_plus 21 = .ok (.ldc2_w 300, 3) := by decide +kernel
theorem dX12_plus_24 : decode cX12_plus 24 = .ok (.invokestatic 113, 3) := by decide +kernel
theorem dX12_plus_27 : decode cX12_plus 27 = .ok (.ifCond .ne 5, 3) := by decide +kernel
theorem dX12_plus_30 : decode cX12_plus 30 = .ok (.iconst (-1), 1) := by decide +kernel
theorem dX12_plus_31 : decode cX12_plus 31 = .ok (.ireturn, 1) := by decide +kernel
theorem dX12_plus_32 : decode cX12_plus 32 = .ok (.iconst 0, 1) := by decide +kernel
theorem dX12_plus_33 : decode cX12_plus 33 = .ok (.istore 5, 2) := by decide +kernel
theorem dX12_plus_35 : decode cX12_plus 35 = .ok (.iload 5, 2) := by decide +kernel
theorem dX12_plus_37 : decode cX12_plus 37 = .ok (.iconst 4, 1) := by decide +kernel
theorem dX12_plus_38 : decode cX12_plus 38 = .ok (.if_icmp .ge 48, 3) := by decide +kernel
theorem dX12_plus_41 : decode cX12_plus 41 = .ok (.aload_n 0, 1) := by decide +kernel
theorem dX12_plus_42 : decode cX12_plus 42 = .ok (.getfield 42, 3) := by decide +kernel
theorem dX12_plus_45 : decode cX12_plus 45 = .ok (.iload 5, 2) := by decide +kernel
theorem dX12_plus_47 : decode cX12_plus 47 = .ok (.aload_n 0, 1) := by decide +kernel
theorem dX12_plus_48 : decode cX12_plus 48 = .ok (.iload_n 1, 1) := by decide +kernel
theorem dX12_plus_49 : decode cX12_plus 49 = .ok (.iload 5, 2) := by decide +kernel
theorem dX12_plus_51 : decode cX12_plus 51 = .ok (.invokevirtual 294, 3) := by decide +kernel
theorem dX12_plus_54 : decode cX12_plus 54 = .ok (.aload_n 0, 1) := by decide +kernel
theorem dX12_plus_55 : decode cX12_plus 55 = .ok (.iload_n 2, 1) := by decide +kernel
theorem dX12_plus_56 : decode cX12_plus 56 = .ok (.iconst 4, 1) := by decide +kernel
theorem dX12_plus_57 : decode cX12_plus 57 = .ok (.invokevirtual 294, 3) := by decide +kernel
theorem dX12_plus_60 : decode cX12_plus 60 = .ok (.lmul, 1) := by decide +kernel
theorem dX12_plus_61 : decode cX12_plus 61 = .ok (.iload_n 3, 1) := by decide +kernel
theorem dX12_plus_62 : decode cX12_plus 62 = .ok (.i2l, 1) := by decide +kernel
theorem dX12_plus_63 : decode cX12_plus 63 = .ok (.aload_n 0, 1) := by decide +kernel
theorem dX12_plus_64 : decode cX12_plus 64 = .ok (.iload_n 2, 1) := by decide +kernel
theorem dX12_plus_65 : decode cX12_plus 65 = .ok (.iload 5, 2) := by decide +kernel
theorem dX12_plus_67 : decode cX12_plus 67 = .ok (.invokevirtual 294, 3) := by decide +kernel
theorem dX12_plus_70 : decode cX12_plus 70 = .ok (.lmul, 1) := by decide +kernel
theorem dX12_plus_71 : decode cX12_plus 71 = .ok (.aload_n 0, 1) := by decide +kernel
theorem dX12_plus_72 : decode cX12_plus 72 = .ok (.iload_n 1, 1) := by decide +kernel
theorem dX12_plus_73 : decode cX12_plus 73 = .ok (.iconst 4, 1) := by decide +kernel
theorem dX12_plus_74 : decode cX12_plus 74 = .ok (.invokevirtual 294, 3) := by decide +kernel
theorem dX12_plus_77 : decode cX12_plus 77 = .ok (.lmul, 1) := by decide +kernel
theorem dX12_plus_78 : decode cX12_plus 78 = .ok (.ladd, 1) := by decide +kernel
theorem dX12_plus_79 : decode cX12_plus 79 = .ok (.lastore, 1) := by decide +kernel
theorem dX12_plus_80 : decode cX12_plus 80 = .ok (.iinc 5 1, 3) := by decide +kernel
theorem dX12_plus_83 : decode cX12_plus 83 = .ok (.goto (-48), 3) := by decide +kernel
theorem dX12_plus_86 : decode cX12_plus 86 = .ok (.aload_n 0, 1) := by decide +kernel
theorem dX12_plus_87 : decode cX12_plus 87 = .ok (.getfield 42, 3) := by decide +kernel
theorem dX12_plus_90 : decode cX12_plus 90 = .ok (.iconst 4, 1) := by decide +kernel
theorem dX12_plus_91 : decode cX12_plus 91 = .ok (.aload_n 0, 1) := by decide +kernel
theorem dX12_plus_92 : decode cX12_plus 92 = .ok (.iload_n 1, 1) := by decide +kernel
theorem dX12_plus_93 : decode cX12_plus 93 = .ok (.iconst 4, 1) := by decide +kernel
theorem dX12_plus_94 : decode cX12_plus 94 = .ok (.invokevirtual 294, 3) := by decide +kernel
theorem dX12_plus_97 : decode cX12_plus 97 = .ok (.aload_n 0, 1) := by decide +kernel
theorem dX12_plus_98 : decode cX12_plus 98 = .ok (.iload_n 2, 1) := by decide +kernel
theorem dX12_plus_99 : decode cX12_plus 99 = .ok (.iconst 4, 1) := by decide +kernel
theorem dX12_plus_100 : decode cX12_plus 100 = .ok (.invokevirtual 294, 3) := by decide +kernel
theorem dX12_plus_103 : decode cX12_plus 103 = .ok (.lmul, 1) := by decide +kernel
theorem dX12_plus_104 : decode cX12_plus 104 = .ok (.lastore, 1) := by decide +kernel
theorem dX12_plus_105 : decode cX12_plus 105 = .ok (.aload_n 0, 1) := by decide +kernel
theorem dX12_plus_106 : decode cX12_plus 106 = .ok (.iload 4, 2) := by decide +kernel
theorem dX12_plus_108 : decode cX12_plus 108 = .ok (.aload_n 0, 1) := by decide +kernel
theorem dX12_plus_109 : decode cX12_plus 109 = .ok (.getfield 36, 3) := by decide +kernel
theorem dX12_plus_112 : decode cX12_plus 112 = .ok (.iload_n 1, 1) := by decide +kernel
theorem dX12_plus_113 : decode cX12_plus 113 = .ok (.iaload, 1) := by decide +kernel
theorem dX12_plus_114 : decode cX12_plus 114 = .ok (.invokevirtual 291, 3) := by decide +kernel
theorem dX12_plus_117 : decode cX12_plus 117 = .ok (.ireturn, 1) := by decide +kernel
theorem dX12_mirror_0 : decode cX12_mirror 0 = .ok (.aload_n 0, 1) := by decide +kernel
theorem dX12_mirror_1 : decode cX12_mirror 1 = .ok (.iconst 0, 1) := by decide +kernel
theorem dX12_mirror_2 : decode cX12_mirror 2 = .ok (.putfield 75, 3) := by decide +kernel
theorem dX12_mirror_5 : decode cX12_mirror 5 = .ok (.aload_n 0, 1) := by decide +kernel
theorem dX12_mirror_6 : decode cX12_mirror 6 = .ok (.iload_n 1, 1) := by decide +kernel
theorem dX12_mirror_7 : decode cX12_mirror 7 = .ok (.iload_n 1, 1) := by decide +kernel
theorem dX12_mirror_8 : decode cX12_mirror 8 = .ok (.iload_n 2, 1) := by decide +kernel
theorem dX12_mirror_9 : decode cX12_mirror 9 = .ok (.invokevirtual 308, 3) := by decide +kernel
theorem dX12_mirror_12 : decode cX12_mirror 12 = .ok (.ifCond .ne 5, 3) := by decide +kernel
theorem dX12_mirror_15 : decode cX12_mirror 15 = .ok (.iconst (-1), 1) := by decide +kernel
theorem dX12_mirror_16 : decode cX12_mirror 16 = .ok (.ireturn, 1) := by decide +kernel
theorem dX12_mirror_17 : decode cX12_mirror 17 = .ok (.aload_n 0, 1) := by decide +kernel
theorem dX12_mirror_18 : decode cX12_mirror 18 = .ok (.iload_n 1, 1) := by decide +kernel
theorem dX12_mirror_19 : decode cX12_mirror 19 = .ok (.ldc2_w 324, 3) := by decide +kernel
theorem dX12_mirror_22 : decode cX12_mirror 22 = .ok (.invokevirtual 302, 3) := by decide +kernel
theorem dX12_mirror_25 : decode cX12_mirror 25 = .ok (.aload_n 0, 1) := by decide +kernel
theorem dX12_mirror_26 : decode cX12_mirror 26 = .ok (.getfield 42, 3) := by decide +kernel
theorem dX12_mirror_29 : decode cX12_mirror 29 = .ok (.iconst 0, 1) := by decide +kernel
theorem dX12_mirror_30 : decode cX12_mirror 30 = .ok (.aload_n 0, 1) := by decide +kernel
theorem dX12_mirror_31 : decode cX12_mirror 31 = .ok (.iload_n 1, 1) := by decide +kernel
theorem dX12_mirror_32 : decode cX12_mirror 32 = .ok (.iconst 0, 1) := by decide +kernel
theorem dX12_mirror_33 : decode cX12_mirror 33 = .ok (.invokevirtual 294, 3) := by decide +kernel
theorem dX12_mirror_36 : decode cX12_mirror 36 = .ok (.lastore, 1) := by decide +kernel
theorem dX12_mirror_37 : decode cX12_mirror 37 = .ok (.aload_n 0, 1) := by decide +kernel
theorem dX12_mirror_38 : decode cX12_mirror 38 = .ok (.iload_n 2, 1) := by decide +kernel
theorem dX12_mirror_39 : decode cX12_mirror 39 = .ok (.aload_n 0, 1) := by decide +kernel
theorem dX12_mirror_40 : decode cX12_mirror 40 = .ok (.getfield 36, 3) := by decide +kernel
theorem dX12_mirror_43 : decode cX12_mirror 43 = .ok (.iload_n 1, 1) := by decide +kernel
theorem dX12_mirror_44 : decode cX12_mirror 44 = .ok (.iaload, 1) := by decide +kernel
theorem dX12_mirror_45 : decode cX12_mirror 45 = .ok (.invokevirtual 291, 3) := by decide +kernel
theorem dX12_mirror_48 : decode cX12_mirror 48 = .ok (.ireturn, 1) := by decide +kernel
theorem dX12_normOf_0 : decode cX12_normOf 0 = .ok (.lload_n 1, 1) := by decide +kernel
theorem dX12_normOf_1 : decode cX12_normOf 1 = .ok (.lload_n 1, 1) := by decide +kernel
theorem dX12_normOf_2 : decode cX12_normOf 2 = .ok (.lmul, 1) := by decide +kernel
theorem dX12_normOf_3 : decode cX12_normOf 3 = .ok (.lload 9, 2) := by decide +kernel
theorem dX12_normOf_5 : decode cX12_normOf 5 = .ok (.lload_n 3, 1) := by decide +kernel
theorem dX12_normOf_6 : decode cX12_normOf 6 = .ok (.lmul, 1) := by decide +kernel
theorem dX12_normOf_7 : decode cX12_normOf 7 = .ok (.lload_n 3, 1) := by decide +kernel
theorem dX12_normOf_8 : decode cX12_normOf 8 = .ok (.lmul, 1) := by decide +kernel
theorem dX12_normOf_9 : decode cX12_normOf 9 = .ok (.lsub, 1) := by decide +kernel
theorem dX12_normOf_10 : decode cX12_normOf 10 = .ok (.lload 11, 2) := by decide +kernel
theorem dX12_normOf_12 : decode cX12_normOf 12 = .ok (.lload 5, 2) := by decide +kernel
theorem dX12_normOf_14 : decode cX12_normOf 14 = .ok (.lmul, 1) := by decide +kernel
theorem dX12_normOf_15 : decode cX12_normOf 15 = .ok (.lload 5, 2) := by decide +kernel
theorem dX12_normOf_17 : decode cX12_normOf 17 = .ok (.lmul, 1) := by decide +kernel
theorem dX12_normOf_18 : decode cX12_normOf 18 = .ok (.lsub, 1) := by decide +kernel
theorem dX12_normOf_19 : decode cX12_normOf 19 = .ok (.lload 9, 2) := by decide +kernel
theorem dX12_normOf_21 : decode cX12_normOf 21 = .ok (.lload 11, 2) := by decide +kernel
theorem dX12_normOf_23 : decode cX12_normOf 23 = .ok (.lmul, 1) := by decide +kernel
theorem dX12_normOf_24 : decode cX12_normOf 24 = .ok (.lload 7, 2) := by decide +kernel
theorem dX12_normOf_26 : decode cX12_normOf 26 = .ok (.lmul, 1) := by decide +kernel
theorem dX12_normOf_27 : decode cX12_normOf 27 = .ok (.lload 7, 2) := by decide +kernel
theorem dX12_normOf_29 : decode cX12_normOf 29 = .ok (.lmul, 1) := by decide +kernel
theorem dX12_normOf_30 : decode cX12_normOf 30 = .ok (.ladd, 1) := by decide +kernel
theorem dX12_normOf_31 : decode cX12_normOf 31 = .ok (.lreturn, 1) := by decide +kernel
theorem dX12_normAbove_0 : decode cX12_normAbove 0 = .ok (.aload_n 0, 1) := by decide +kernel
theorem dX12_normAbove_1 : decode cX12_normAbove 1 = .ok (.aload_n 0, 1) := by decide +kernel
theorem dX12_normAbove_2 : decode cX12_normAbove 2 = .ok (.iload_n 1, 1) := by decide +kernel
theorem dX12_normAbove_3 : decode cX12_normAbove 3 = .ok (.iconst 0, 1) := by decide +kernel
theorem dX12_normAbove_4 : decode cX12_normAbove 4 = .ok (.invokevirtual 294, 3) := by decide +kernel
theorem dX12_normAbove_7 : decode cX12_normAbove 7 = .ok (.aload_n 0, 1) := by decide +kernel
theorem dX12_normAbove_8 : decode cX12_normAbove 8 = .ok (.iload_n 1, 1) := by decide +kernel
theorem dX12_normAbove_9 : decode cX12_normAbove 9 = .ok (.iconst 1, 1) := by decide +kernel
theorem dX12_normAbove_10 : decode cX12_normAbove 10 = .ok (.invokevirtual 294, 3) := by decide +kernel
theorem dX12_normAbove_13 : decode cX12_normAbove 13 = .ok (.aload_n 0, 1) := by decide +kernel
theorem dX12_normAbove_14 : decode cX12_normAbove 14 = .ok (.iload_n 1, 1) := by decide +kernel
theorem dX12_normAbove_15 : decode cX12_normAbove 15 = .ok (.iconst 2, 1) := by decide +kernel
theorem dX12_normAbove_16 : decode cX12_normAbove 16 = .ok (.invokevirtual 294, 3) := by decide +kernel
theorem dX12_normAbove_19 : decode cX12_normAbove 19 = .ok (.aload_n 0, 1) := by decide +kernel
theorem dX12_normAbove_20 : decode cX12_normAbove 20 = .ok (.iload_n 1, 1) := by decide +kernel
theorem dX12_normAbove_21 : decode cX12_normAbove 21 = .ok (.iconst 3, 1) := by decide +kernel
theorem dX12_normAbove_22 : decode cX12_normAbove 22 = .ok (.invokevirtual 294, 3) := by decide +kernel
theorem dX12_normAbove_25 : decode cX12_normAbove 25 = .ok (.aload_n 0, 1) := by decide +kernel
theorem dX12_normAbove_26 : decode cX12_normAbove 26 = .ok (.getfield 24, 3) := by decide +kernel
theorem dX12_normAbove_29 : decode cX12_normAbove 29 = .ok (.aload_n 0, 1) := by decide +kernel
theorem dX12_normAbove_30 : decode cX12_normAbove 30 = .ok (.getfield 36, 3) := by decide +kernel
theorem dX12_normAbove_33 : decode cX12_normAbove 33 = .ok (.iload_n 1, 1) := by decide +kernel
theorem dX12_normAbove_34 : decode cX12_normAbove 34 = .ok (.iaload, 1) := by decide +kernel
theorem dX12_normAbove_35 : decode cX12_normAbove 35 = .ok (.iaload, 1) := by decide +kernel
theorem dX12_normAbove_36 : decode cX12_normAbove 36 = .ok (.i2l, 1) := by decide +kernel
theorem dX12_normAbove_37 : decode cX12_normAbove 37 = .ok (.aload_n 0, 1) := by decide +kernel
theorem dX12_normAbove_38 : decode cX12_normAbove 38 = .ok (.getfield 27, 3) := by decide +kernel
theorem dX12_normAbove_41 : decode cX12_normAbove 41 = .ok (.aload_n 0, 1) := by decide +kernel
theorem dX12_normAbove_42 : decode cX12_normAbove 42 = .ok (.getfield 36, 3) := by decide +kernel
theorem dX12_normAbove_45 : decode cX12_normAbove 45 = .ok (.iload_n 1, 1) := by decide +kernel
theorem dX12_normAbove_46 : decode cX12_normAbove 46 = .ok (.iaload, 1) := by decide +kernel
theorem dX12_normAbove_47 : decode cX12_normAbove 47 = .ok (.iaload, 1) := by decide +kernel
theorem dX12_normAbove_48 : decode cX12_normAbove 48 = .ok (.i2l, 1) := by decide +kernel
theorem dX12_normAbove_49 : decode cX12_normAbove 49 = .ok (.invokevirtual 326, 3) := by decide +kernel
theorem dX12_normAbove_52 : decode cX12_normAbove 52 = .ok (.lreturn, 1) := by decide +kernel
theorem dX12_inverse_0 : decode cX12_inverse 0 = .ok (.aload_n 0, 1) := by decide +kernel
theorem dX12_inverse_1 : decode cX12_inverse 1 = .ok (.iconst 0, 1) := by decide +kernel
theorem dX12_inverse_2 : decode cX12_inverse 2 = .ok (.putfield 75, 3) := by decide +kernel
theorem dX12_inverse_5 : decode cX12_inverse 5 = .ok (.aload_n 0, 1) := by decide +kernel
theorem dX12_inverse_6 : decode cX12_inverse 6 = .ok (.iload_n 1, 1) := by decide +kernel
theorem dX12_inverse_7 : decode cX12_inverse 7 = .ok (.iload_n 1, 1) := by decide +kernel
theorem dX12_inverse_8 : decode cX12_inverse 8 = .ok (.iload_n 2, 1) := by decide +kernel
theorem dX12_inverse_9 : decode cX12_inverse 9 = .ok (.invokevirtual 308, 3) := by decide +kernel
theorem dX12_inverse_12 : decode cX12_inverse 12 = .ok (.ifCond .ne 5, 3) := by decide +kernel
theorem dX12_inverse_15 : decode cX12_inverse 15 = .ok (.iconst (-1), 1) := by decide +kernel
theorem dX12_inverse_16 : decode cX12_inverse 16 = .ok (.ireturn, 1) := by decide +kernel
theorem dX12_inverse_17 : decode cX12_inverse 17 = .ok (.aload_n 0, 1) := by decide +kernel
theorem dX12_inverse_18 : decode cX12_inverse 18 = .ok (.iload_n 1, 1) := by decide +kernel
theorem dX12_inverse_19 : decode cX12_inverse 19 = .ok (.invokevirtual 330, 3) := by decide +kernel
theorem dX12_inverse_22 : decode cX12_inverse 22 = .ok (.lstore_n 3, 1) := by decide +kernel
theorem dX12_inverse_23 : decode cX12_inverse 23 = .ok (.lload_n 3, 1) := by decide +kernel
theorem dX12_inverse_24 : decode cX12_inverse 24 = .ok (.lconst 0, 1) := by decide +kernel
theorem dX12_inverse_25 : decode cX12_inverse 25 = .ok (.lcmp, 1) := by decide +kernel
theorem dX12_inverse_26 : decode cX12_inverse 26 = .ok (.ifCond .ne 6, 3) := by decide +kernel
theorem dX12_inverse_29 : decode cX12_inverse 29 = .ok (.bipush (-2), 2) := by decide +kernel
theorem dX12_inverse_31 : decode cX12_inverse 31 = .ok (.ireturn, 1) := by decide +kernel
theorem dX12_inverse_32 : decode cX12_inverse 32 = .ok (.iconst 0, 1) := by decide +kernel
theorem dX12_inverse_33 : decode cX12_inverse 33 = .ok (.istore 5, 2) := by decide +kernel
theorem dX12_inverse_35 : decode cX12_inverse 35 = .ok (.iload 5, 2) := by decide +kernel
theorem dX12_inverse_37 : decode cX12_inverse 37 = .ok (.iconst 4, 1) := by decide +kernel
theorem dX12_inverse_38 : decode cX12_inverse 38 = .ok (.if_icmp .ge 43, 3) := by decide +kernel
theorem dX12_inverse_41 : decode cX12_inverse 41 = .ok (.aload_n 0, 1) := by decide +kernel
theorem dX12_inverse_42 : decode cX12_inverse 42 = .ok (.getfield 42, 3) := by decide +kernel
theorem dX12_inverse_45 : decode cX12_inverse 45 = .ok (.iload 5, 2) := by decide +kernel
theorem dX12_inverse_47 : decode cX12_inverse 47 = .ok (.iload 5, 2) := by decide +kernel
theorem dX12_inverse_49 : decode cX12_inverse 49 = .ok (.ifCond .ne 7, 3) := by decide +kernel
theorem dX12_inverse_52 : decode cX12_inverse 52 = .ok (.lconst 1, 1) := by decide +kernel
theorem dX12_inverse_53 : decode cX12_inverse 53 = .ok (.goto 6, 3) := by decide +kernel
theorem dX12_inverse_56 : decode cX12_inverse 56 = .ok (.ldc2_w 324, 3) := by decide +kernel
theorem dX12_inverse_59 : decode cX12_inverse 59 = .ok (.aload_n 0, 1) := by decide +kernel
theorem dX12_inverse_60 : decode cX12_inverse 60 = .ok (.iload_n 1, 1) := by decide +kernel
theorem dX12_inverse_61 : decode cX12_inverse 61 = .ok (.iload 5, 2) := by decide +kernel
theorem dX12_inverse_63 : decode cX12_inverse 63 = .ok (.invokevirtual 294, 3) := by decide +kernel
theorem dX12_inverse_66 : decode cX12_inverse 66 = .ok (.lmul, 1) := by decide +kernel
theorem dX12_inverse_67 : decode cX12_inverse 67 = .ok (.aload_n 0, 1) := by decide +kernel
theorem dX12_inverse_68 : decode cX12_inverse 68 = .ok (.iload_n 1, 1) := by decide +kernel
theorem dX12_inverse_69 : decode cX12_inverse 69 = .ok (.iconst 4, 1) := by decide +kernel
theorem dX12_inverse_70 : decode cX12_inverse 70 = .ok (.invokevirtual 294, 3) := by decide +kernel
theorem dX12_inverse_73 : decode cX12_inverse 73 = .ok (.lmul, 1) := by decide +kernel
theorem dX12_inverse_74 : decode cX12_inverse 74 = .ok (.lastore, 1) := by decide +kernel
theorem dX12_inverse_75 : decode cX12_inverse 75 = .ok (.iinc 5 1, 3) := by decide +kernel
theorem dX12_inverse_78 : decode cX12_inverse 78 = .ok (.goto (-43), 3) := by decide +kernel
theorem dX12_inverse_81 : decode cX12_inverse 81 = .ok (.aload_n 0, 1) := by decide +kernel
theorem dX12_inverse_82 : decode cX12_inverse 82 = .ok (.getfield 42, 3) := by decide +kernel
theorem dX12_inverse_85 : decode cX12_inverse 85 = .ok (.iconst 4, 1) := by decide +kernel
theorem dX12_inverse_86 : decode cX12_inverse 86 = .ok (.lload_n 3, 1) := by decide +kernel
theorem dX12_inverse_87 : decode cX12_inverse 87 = .ok (.lastore, 1) := by decide +kernel
theorem dX12_inverse_88 : decode cX12_inverse 88 = .ok (.aload_n 0, 1) := by decide +kernel
theorem dX12_inverse_89 : decode cX12_inverse 89 = .ok (.iload_n 2, 1) := by decide +kernel
theorem dX12_inverse_90 : decode cX12_inverse 90 = .ok (.aload_n 0, 1) := by decide +kernel
theorem dX12_inverse_91 : decode cX12_inverse 91 = .ok (.getfield 36, 3) := by decide +kernel
theorem dX12_inverse_94 : decode cX12_inverse 94 = .ok (.iload_n 1, 1) := by decide +kernel
theorem dX12_inverse_95 : decode cX12_inverse 95 = .ok (.iaload, 1) := by decide +kernel
theorem dX12_inverse_96 : decode cX12_inverse 96 = .ok (.invokevirtual 291, 3) := by decide +kernel
theorem dX12_inverse_99 : decode cX12_inverse 99 = .ok (.ireturn, 1) := by decide +kernel
theorem dX12_told_0 : decode cX12_told 0 = .ok (.lload_n 0, 1) := by decide +kernel
theorem dX12_told_1 : decode cX12_told 1 = .ok (.lload_n 2, 1) := by decide +kernel
theorem dX12_told_2 : decode cX12_told 2 = .ok (.invokestatic 280, 3) := by decide +kernel
theorem dX12_told_5 : decode cX12_told 5 = .ok (.lstore 5, 2) := by decide +kernel
theorem dX12_told_7 : decode cX12_told 7 = .ok (.iload 4, 2) := by decide +kernel
theorem dX12_told_9 : decode cX12_told 9 = .ok (.ifCond .ne 7, 3) := by decide +kernel
theorem dX12_told_12 : decode cX12_told 12 = .ok (.lload_n 0, 1) := by decide +kernel
theorem dX12_told_13 : decode cX12_told 13 = .ok (.goto 4, 3) := by decide +kernel
theorem dX12_told_16 : decode cX12_told 16 = .ok (.lload_n 2, 1) := by decide +kernel
theorem dX12_told_17 : decode cX12_told 17 = .ok (.lload 5, 2) := by decide +kernel
theorem dX12_told_19 : decode cX12_told 19 = .ok (.ldiv, 1) := by decide +kernel
theorem dX12_told_20 : decode cX12_told 20 = .ok (.lreturn, 1) := by decide +kernel
theorem dX12_norm_0 : decode cX12_norm 0 = .ok (.aload_n 0, 1) := by decide +kernel
theorem dX12_norm_1 : decode cX12_norm 1 = .ok (.aload_n 0, 1) := by decide +kernel
theorem dX12_norm_2 : decode cX12_norm 2 = .ok (.iload_n 1, 1) := by decide +kernel
theorem dX12_norm_3 : decode cX12_norm 3 = .ok (.invokevirtual 297, 3) := by decide +kernel
theorem dX12_norm_6 : decode cX12_norm 6 = .ok (.ifCond .eq 17, 3) := by decide +kernel
theorem dX12_norm_9 : decode cX12_norm 9 = .ok (.iload_n 2, 1) := by decide +kernel
theorem dX12_norm_10 : decode cX12_norm 10 = .ok (.i2l, 1) := by decide +kernel
theorem dX12_norm_11 : decode cX12_norm 11 = .ok (.lconst 0, 1) := by decide +kernel
theorem dX12_norm_12 : decode cX12_norm 12 = .ok (.lconst 1, 1) := by decide +kernel
theorem dX12_norm_13 : decode cX12_norm 13 = .ok (.invokestatic 113, 3) := by decide +kernel
theorem dX12_norm_16 : decode cX12_norm 16 = .ok (.ifCond .eq 7, 3) := by decide +kernel
theorem dX12_norm_19 : decode cX12_norm 19 = .ok (.iconst 0, 1) := by decide +kernel
theorem dX12_norm_20 : decode cX12_norm 20 = .ok (.goto 4, 3) := by decide +kernel
theorem dX12_norm_23 : decode cX12_norm 23 = .ok (.iconst 1, 1) := by decide +kernel
theorem dX12_norm_24 : decode cX12_norm 24 = .ok (.putfield 75, 3) := by decide +kernel
theorem dX12_norm_27 : decode cX12_norm 27 = .ok (.aload_n 0, 1) := by decide +kernel
theorem dX12_norm_28 : decode cX12_norm 28 = .ok (.getfield 75, 3) := by decide +kernel
theorem dX12_norm_31 : decode cX12_norm 31 = .ok (.iconst 1, 1) := by decide +kernel
theorem dX12_norm_32 : decode cX12_norm 32 = .ok (.if_icmp .ne 7, 3) := by decide +kernel
theorem dX12_norm_35 : decode cX12_norm 35 = .ok (.lconst 0, 1) := by decide +kernel
theorem dX12_norm_36 : decode cX12_norm 36 = .ok (.goto 25, 3) := by decide +kernel
theorem dX12_norm_39 : decode cX12_norm 39 = .ok (.aload_n 0, 1) := by decide +kernel
theorem dX12_norm_40 : decode cX12_norm 40 = .ok (.iload_n 1, 1) := by decide +kernel
theorem dX12_norm_41 : decode cX12_norm 41 = .ok (.invokevirtual 330, 3) := by decide +kernel
theorem dX12_norm_44 : decode cX12_norm 44 = .ok (.aload_n 0, 1) := by decide +kernel
theorem dX12_norm_45 : decode cX12_norm 45 = .ok (.iload_n 1, 1) := by decide +kernel
theorem dX12_norm_46 : decode cX12_norm 46 = .ok (.iconst 4, 1) := by decide +kernel
theorem dX12_norm_47 : decode cX12_norm 47 = .ok (.invokevirtual 294, 3) := by decide +kernel
theorem dX12_norm_50 : decode cX12_norm 50 = .ok (.aload_n 0, 1) := by decide +kernel
theorem dX12_norm_51 : decode cX12_norm 51 = .ok (.iload_n 1, 1) := by decide +kernel
theorem dX12_norm_52 : decode cX12_norm 52 = .ok (.iconst 4, 1) := by decide +kernel
theorem dX12_norm_53 : decode cX12_norm 53 = .ok (.invokevirtual 294, 3) := by decide +kernel
theorem dX12_norm_56 : decode cX12_norm 56 = .ok (.lmul, 1) := by decide +kernel
theorem dX12_norm_57 : decode cX12_norm 57 = .ok (.iload_n 2, 1) := by decide +kernel
theorem dX12_norm_58 : decode cX12_norm 58 = .ok (.invokestatic 334, 3) := by decide +kernel
theorem dX12_norm_61 : decode cX12_norm 61 = .ok (.lreturn, 1) := by decide +kernel
theorem dX12_trace_0 : decode cX12_trace 0 = .ok (.aload_n 0, 1) := by decide +kernel
theorem dX12_trace_1 : decode cX12_trace 1 = .ok (.aload_n 0, 1) := by decide +kernel
theorem dX12_trace_2 : decode cX12_trace 2 = .ok (.iload_n 1, 1) := by decide +kernel
theorem dX12_trace_3 : decode cX12_trace 3 = .ok (.invokevirtual 297, 3) := by decide +kernel
theorem dX12_trace_6 : decode cX12_trace 6 = .ok (.ifCond .eq 17, 3) := by decide +kernel
theorem dX12_trace_9 : decode cX12_trace 9 = .ok (.iload_n 2, 1) := by decide +kernel
theorem dX12_trace_10 : decode cX12_trace 10 = .ok (.i2l, 1) := by decide +kernel
theorem dX12_trace_11 : decode cX12_trace 11 = .ok (.lconst 0, 1) := by decide +kernel
theorem dX12_trace_12 : decode cX12_trace 12 = .ok (.lconst 1, 1) := by decide +kernel
theorem dX12_trace_13 : decode cX12_trace 13 = .ok (.invokestatic 113, 3) := by decide +kernel
theorem dX12_trace_16 : decode cX12_trace 16 = .ok (.ifCond .eq 7, 3) := by decide +kernel
theorem dX12_trace_19 : decode cX12_trace 19 = .ok (.iconst 0, 1) := by decide +kernel
theorem dX12_trace_20 : decode cX12_trace 20 = .ok (.goto 4, 3) := by decide +kernel
theorem dX12_trace_23 : decode cX12_trace 23 = .ok (.iconst 1, 1) := by decide +kernel
theorem dX12_trace_24 : decode cX12_trace 24 = .ok (.putfield 75, 3) := by decide +kernel
theorem dX12_trace_27 : decode cX12_trace 27 = .ok (.aload_n 0, 1) := by decide +kernel
theorem dX12_trace_28 : decode cX12_trace 28 = .ok (.getfield 75, 3) := by decide +kernel
theorem dX12_trace_31 : decode cX12_trace 31 = .ok (.iconst 1, 1) := by decide +kernel
theorem dX12_trace_32 : decode cX12_trace 32 = .ok (.if_icmp .ne 7, 3) := by decide +kernel
theorem dX12_trace_35 : decode cX12_trace 35 = .ok (.lconst 0, 1) := by decide +kernel
theorem dX12_trace_36 : decode cX12_trace 36 = .ok (.goto 23, 3) := by decide +kernel
theorem dX12_trace_39 : decode cX12_trace 39 = .ok (.ldc2_w 264, 3) := by decide +kernel
theorem dX12_trace_42 : decode cX12_trace 42 = .ok (.aload_n 0, 1) := by decide +kernel
theorem dX12_trace_43 : decode cX12_trace 43 = .ok (.iload_n 1, 1) := by decide +kernel
theorem dX12_trace_44 : decode cX12_trace 44 = .ok (.iconst 0, 1) := by decide +kernel
theorem dX12_trace_45 : decode cX12_trace 45 = .ok (.invokevirtual 294, 3) := by decide +kernel
theorem dX12_trace_48 : decode cX12_trace 48 = .ok (.lmul, 1) := by decide +kernel
theorem dX12_trace_49 : decode cX12_trace 49 = .ok (.aload_n 0, 1) := by decide +kernel
theorem dX12_trace_50 : decode cX12_trace 50 = .ok (.iload_n 1, 1) := by decide +kernel
theorem dX12_trace_51 : decode cX12_trace 51 = .ok (.iconst 4, 1) := by decide +kernel
theorem dX12_trace_52 : decode cX12_trace 52 = .ok (.invokevirtual 294, 3) := by decide +kernel
theorem dX12_trace_55 : decode cX12_trace 55 = .ok (.iload_n 2, 1) := by decide +kernel
theorem dX12_trace_56 : decode cX12_trace 56 = .ok (.invokestatic 334, 3) := by decide +kernel
theorem dX12_trace_59 : decode cX12_trace 59 = .ok (.lreturn, 1) := by decide +kernel
theorem dX12_root_0 : decode cX12_root 0 = .ok (.iconst 0, 1) := by decide +kernel
theorem dX12_root_1 : decode cX12_root 1 = .ok (.istore_n 1, 1) := by decide +kernel
theorem dX12_root_2 : decode cX12_root 2 = .ok (.iload_n 1, 1) := by decide +kernel
theorem dX12_root_3 : decode cX12_root 3 = .ok (.iload_n 1, 1) := by decide +kernel
theorem dX12_root_4 : decode cX12_root 4 = .ok (.imul, 1) := by decide +kernel
theorem dX12_root_5 : decode cX12_root 5 = .ok (.iload_n 0, 1) := by decide +kernel
theorem dX12_root_6 : decode cX12_root 6 = .ok (.if_icmp .ge 9, 3) := by decide +kernel
theorem dX12_root_9 : decode cX12_root 9 = .ok (.iinc 1 1, 3) := by decide +kernel
theorem dX12_root_12 : decode cX12_root 12 = .ok (.goto (-10), 3) := by decide +kernel
theorem dX12_root_15 : decode cX12_root 15 = .ok (.iload_n 1, 1) := by decide +kernel
theorem dX12_root_16 : decode cX12_root 16 = .ok (.iload_n 1, 1) := by decide +kernel
theorem dX12_root_17 : decode cX12_root 17 = .ok (.imul, 1) := by decide +kernel
theorem dX12_root_18 : decode cX12_root 18 = .ok (.iload_n 0, 1) := by decide +kernel
theorem dX12_root_19 : decode cX12_root 19 = .ok (.if_icmp .ne 7, 3) := by decide +kernel
theorem dX12_root_22 : decode cX12_root 22 = .ok (.iload_n 1, 1) := by decide +kernel
theorem dX12_root_23 : decode cX12_root 23 = .ok (.goto 4, 3) := by decide +kernel
theorem dX12_root_26 : decode cX12_root 26 = .ok (.iconst (-1), 1) := by decide +kernel
theorem dX12_root_27 : decode cX12_root 27 = .ok (.ireturn, 1) := by decide +kernel
theorem dX12_solves_0 : decode cX12_solves 0 = .ok (.iconst 0, 1) := by decide +kernel
theorem dX12_solves_1 : decode cX12_solves 1 = .ok (.istore_n 2, 1) := by decide +kernel
theorem dX12_solves_2 : decode cX12_solves 2 = .ok (.iload_n 2, 1) := by decide +kernel
theorem dX12_solves_3 : decode cX12_solves 3 = .ok (.bipush 8, 2) := by decide +kernel
theorem dX12_solves_5 : decode cX12_solves 5 = .ok (.if_icmp .ge 89, 3) := by decide +kernel
theorem dX12_solves_8 : decode cX12_solves 8 = .ok (.iconst 0, 1) := by decide +kernel
theorem dX12_solves_9 : decode cX12_solves 9 = .ok (.istore_n 3, 1) := by decide +kernel
theorem dX12_solves_10 : decode cX12_solves 10 = .ok (.iload_n 3, 1) := by decide +kernel
theorem dX12_solves_11 : decode cX12_solves 11 = .ok (.bipush 8, 2) := by decide +kernel
theorem dX12_solves_13 : decode cX12_solves 13 = .ok (.if_icmp .ge 75, 3) := by decide +kernel
theorem dX12_solves_16 : decode cX12_solves 16 = .ok (.aload_n 0, 1) := by decide +kernel
theorem dX12_solves_17 : decode cX12_solves 17 = .ok (.getfield 24, 3) := by decide +kernel
theorem dX12_solves_20 : decode cX12_solves 20 = .ok (.iload_n 1, 1) := by decide +kernel
theorem dX12_solves_21 : decode cX12_solves 21 = .ok (.iaload, 1) := by decide +kernel
theorem dX12_solves_22 : decode cX12_solves 22 = .ok (.iload_n 3, 1) := by decide +kernel
theorem dX12_solves_23 : decode cX12_solves 23 = .ok (.imul, 1) := by decide +kernel
theorem dX12_solves_24 : decode cX12_solves 24 = .ok (.iload_n 3, 1) := by decide +kernel
theorem dX12_solves_25 : decode cX12_solves 25 = .ok (.imul, 1) := by decide +kernel
theorem dX12_solves_26 : decode cX12_solves 26 = .ok (.aload_n 0, 1) := by decide +kernel
theorem dX12_solves_27 : decode cX12_solves 27 = .ok (.getfield 27, 3) := by decide +kernel
theorem dX12_solves_30 : decode cX12_solves 30 = .ok (.iload_n 1, 1) := by decide +kernel
theorem dX12_solves_31 : decode cX12_solves 31 = .ok (.iaload, 1) := by decide +kernel
theorem dX12_solves_32 : decode cX12_solves 32 = .ok (.iload_n 2, 1) := by decide +kernel
theorem dX12_solves_33 : decode cX12_solves 33 = .ok (.imul, 1) := by decide +kernel
theorem dX12_solves_34 : decode cX12_solves 34 = .ok (.iload_n 2, 1) := by decide +kernel
theorem dX12_solves_35 : decode cX12_solves 35 = .ok (.imul, 1) := by decide +kernel
theorem dX12_solves_36 : decode cX12_solves 36 = .ok (.iadd, 1) := by decide +kernel
theorem dX12_solves_37 : decode cX12_solves 37 = .ok (.invokestatic 338, 3) := by decide +kernel
theorem dX12_solves_40 : decode cX12_solves 40 = .ok (.istore 4, 2) := by decide +kernel
theorem dX12_solves_42 : decode cX12_solves 42 = .ok (.iload 4, 2) := by decide +kernel
theorem dX12_solves_44 : decode cX12_solves 44 = .ok (.ifCond .lt 38, 3) := by decide +kernel
theorem dX12_solves_47 : decode cX12_solves 47 = .ok (.iload_n 3, 1) := by decide +kernel
theorem dX12_solves_48 : decode cX12_solves 48 = .ok (.ifCond .ne 10, 3) := by decide +kernel
theorem dX12_solves_51 : decode cX12_solves 51 = .ok (.iload_n 2, 1) := by decide +kernel
theorem dX12_solves_52 : decode cX12_solves 52 = .ok (.ifCond .ne 6, 3) := by decide +kernel
theorem dX12_solves_55 : decode cX12_solves 55 = .ok (.goto 27, 3) := by decide +kernel
theorem dX12_solves_58 : decode cX12_solves 58 = .ok (.aload_n 0, 1) := by decide +kernel
theorem dX12_solves_59 : decode cX12_solves 59 = .ok (.getfield 54, 3) := by decide +kernel
theorem dX12_solves_62 : decode cX12_solves 62 = .ok (.iconst 0, 1) := by decide +kernel
theorem dX12_solves_63 : decode cX12_solves 63 = .ok (.iload 4, 2) := by decide +kernel
theorem dX12_solves_65 : decode cX12_solves 65 = .ok (.iastore, 1) := by decide +kernel
theorem dX12_solves_66 : decode cX12_solves 66 = .ok (.aload_n 0, 1) := by decide +kernel
theorem dX12_solves_67 : decode cX12_solves 67 = .ok (.getfield 54, 3) := by decide +kernel
theorem dX12_solves_70 : decode cX12_solves 70 = .ok (.iconst 1, 1) := by decide +kernel
theorem dX12_solves_71 : decode cX12_solves 71 = .ok (.iload_n 3, 1) := by decide +kernel
theorem dX12_solves_72 : decode cX12_solves 72 = .ok (.iastore, 1) := by decide +kernel
theorem dX12_solves_73 : decode cX12_solves 73 = .ok (.aload_n 0, 1) := by decide +kernel
theorem dX12_solves_74 : decode cX12_solves 74 = .ok (.getfield 54, 3) := by decide +kernel
theorem dX12_solves_77 : decode cX12_solves 77 = .ok (.iconst 2, 1) := by decide +kernel
theorem dX12_solves_78 : decode cX12_solves 78 = .ok (.iload_n 2, 1) := by decide +kernel
theorem dX12_solves_79 : decode cX12_solves 79 = .ok (.iastore, 1) := by decide +kernel
theorem dX12_solves_80 : decode cX12_solves 80 = .ok (.iconst 1, 1) := by decide +kernel
theorem dX12_solves_81 : decode cX12_solves 81 = .ok (.ireturn, 1) := by decide +kernel
theorem dX12_solves_82 : decode cX12_solves 82 = .ok (.iinc 3 1, 3) := by decide +kernel
theorem dX12_solves_85 : decode cX12_solves 85 = .ok (.goto (-75), 3) := by decide +kernel
theorem dX12_solves_88 : decode cX12_solves 88 = .ok (.iinc 2 1, 3) := by decide +kernel
theorem dX12_solves_91 : decode cX12_solves 91 = .ok (.goto (-89), 3) := by decide +kernel
theorem dX12_solves_94 : decode cX12_solves 94 = .ok (.iconst 0, 1) := by decide +kernel
theorem dX12_solves_95 : decode cX12_solves 95 = .ok (.ireturn, 1) := by decide +kernel
theorem dX12_solution_0 : decode cX12_solution 0 = .ok (.aload_n 0, 1) := by decide +kernel
theorem dX12_solution_1 : decode cX12_solution 1 = .ok (.iconst 0, 1) := by decide +kernel
theorem dX12_solution_2 : decode cX12_solution 2 = .ok (.putfield 75, 3) := by decide +kernel
theorem dX12_solution_5 : decode cX12_solution 5 = .ok (.aload_n 0, 1) := by decide +kernel
theorem dX12_solution_6 : decode cX12_solution 6 = .ok (.iload_n 1, 1) := by decide +kernel
theorem dX12_solution_7 : decode cX12_solution 7 = .ok (.invokevirtual 288, 3) := by decide +kernel
theorem dX12_solution_10 : decode cX12_solution 10 = .ok (.ifCond .eq 15, 3) := by decide +kernel
theorem dX12_solution_13 : decode cX12_solution 13 = .ok (.iload_n 2, 1) := by decide +kernel
theorem dX12_solution_14 : decode cX12_solution 14 = .ok (.i2l, 1) := by decide +kernel
theorem dX12_solution_15 : decode cX12_solution 15 = .ok (.lconst 0, 1) := by decide +kernel
theorem dX12_solution_16 : decode cX12_solution 16 = .ok (.ldc2_w 264, 3) := by decide +kernel
theorem dX12_solution_19 : decode cX12_solution 19 = .ok (.invokestatic 113, 3) := by decide +kernel
theorem dX12_solution_22 : decode cX12_solution 22 = .ok (.ifCond .ne 5, 3) := by decide +kernel
theorem dX12_solution_25 : decode cX12_solution 25 = .ok (.iconst (-1), 1) := by decide +kernel
theorem dX12_solution_26 : decode cX12_solution 26 = .ok (.ireturn, 1) := by decide +kernel
theorem dX12_solution_27 : decode cX12_solution 27 = .ok (.aload_n 0, 1) := by decide +kernel
theorem dX12_solution_28 : decode cX12_solution 28 = .ok (.iload_n 1, 1) := by decide +kernel
theorem dX12_solution_29 : decode cX12_solution 29 = .ok (.invokevirtual 271, 3) := by decide +kernel
theorem dX12_solution_32 : decode cX12_solution 32 = .ok (.iconst 1, 1) := by decide +kernel
theorem dX12_solution_33 : decode cX12_solution 33 = .ok (.if_icmp .ne 20, 3) := by decide +kernel
theorem dX12_solution_36 : decode cX12_solution 36 = .ok (.aload_n 0, 1) := by decide +kernel
theorem dX12_solution_37 : decode cX12_solution 37 = .ok (.iload_n 1, 1) := by decide +kernel
theorem dX12_solution_38 : decode cX12_solution 38 = .ok (.invokevirtual 341, 3) := by decide +kernel
theorem dX12_solution_41 : decode cX12_solution 41 = .ok (.ifCond .eq 12, 3) := by decide +kernel
theorem dX12_solution_44 : decode cX12_solution 44 = .ok (.aload_n 0, 1) := by decide +kernel
theorem dX12_solution_45 : decode cX12_solution 45 = .ok (.getfield 54, 3) := by decide +kernel
theorem dX12_solution_48 : decode cX12_solution 48 = .ok (.iload_n 2, 1) := by decide +kernel
theorem dX12_solution_49 : decode cX12_solution 49 = .ok (.iaload, 1) := by decide +kernel
theorem dX12_solution_50 : decode cX12_solution 50 = .ok (.goto 5, 3) := by decide +kernel
theorem dX12_solution_53 : decode cX12_solution 53 = .ok (.bipush (-2), 2) := by decide +kernel
theorem dX12_solution_55 : decode cX12_solution 55 = .ok (.ireturn, 1) := by decide +kernel
def mX12_keeps_B153 (v0 : Nat) (v1 : Int) (v2 : Int) (σ : mSt) : Option (Int × mSt) := bnd (upS σ v0 21 (oOr (σ v0 21) (oShl 1 v1))) fun s1 => mRef (s1 v0 22) fun r3 => mG (ixOK r3 20 v1) <| bnd (upS s1 r3 (wI v1).toNat v2) fun s6 => some (0, s6)
def mX12_keeps_L123 (v0 : Nat) (v1 : Int) (v2 : Int) (x153 : mSt → Option (Int × mSt)) : Nat → Int → mSt → Option (Int × mSt)
  | 0, _, _ => none
  | n + 1, v5, σ => if 5 ≤ wI v5 then (x153 σ) else mRef (σ v0 23) fun r9 => mRef (σ v0 24) fun r11 => mG (ixOK r11 21 v5) <| mG (ixOK r9 21 ((5 * v1) + v5)) <| bnd (upS σ r9 (wI ((5 * v1) + v5)).toNat (σ r11 (wI v5).toNat)) fun s15 => bnd (v5 + 1) fun a17 => mX12_keeps_L123 v0 v1 v2 x153 n a17 s15
def mX12_keeps_B120 (v0 : Nat) (v1 : Int) (v2 : Int) (σ : mSt) : Option (Int × mSt) := mX12_keeps_L123 v0 v1 v2 (fun zσ => mX12_keeps_B153 v0 v1 v2 zσ) mF 0 σ
def mX12_keeps_L86 (v0 : Nat) (v1 : Int) (v2 : Int) (x120 : mSt → Option (Int × mSt)) : Nat → Int → mSt → Option (Int × mSt)
  | 0, _, _ => none
  | n + 1, v5, σ => if 5 ≤ wI v5 then (x120 σ) else mRef (σ v0 24) fun r20 => mG (ixOK r20 21 v5) <| mCall (mX12_within (σ r20 (wI v5).toNat) (-1000000) 1000000 σ) fun b23 s24 => if wI b23 = 0 then (some ((-3), s24)) else bnd (v5 + 1) fun a27 => mX12_keeps_L86 v0 v1 v2 x120 n a27 s24
def mX12_keeps_B83 (v0 : Nat) (v1 : Int) (v2 : Int) (σ : mSt) : Option (Int × mSt) := mX12_keeps_L86 v0 v1 v2 (fun zσ => mX12_keeps_B120 v0 v1 v2 zσ) mF 0 σ
def mX12_keeps_L60 (v0 : Nat) (v1 : Int) (v2 : Int) (v3 : Int) (x83 : mSt → Option (Int × mSt)) : Nat → Int → mSt → Option (Int × mSt)
  | 0, _, _ => none
  | n + 1, v5, σ => if 5 ≤ wI v5 then (x83 σ) else mRef (σ v0 24) fun r30 => mG (ixOK r30 21 v5) <| mG (wL v3 ≠ 0) <| bnd (upS σ r30 (wI v5).toNat ((wL (σ r30 (wI v5).toNat)).tdiv (wL v3))) fun s34 => bnd (v5 + 1) fun a36 => mX12_keeps_L60 v0 v1 v2 v3 x83 n a36 s34
def mX12_keeps_B57 (v0 : Nat) (v1 : Int) (v2 : Int) (v3 : Int) (σ : mSt) : Option (Int × mSt) := mX12_keeps_L60 v0 v1 v2 v3 (fun zσ => mX12_keeps_B83 v0 v1 v2 zσ) mF 0 σ
def mX12_keeps (v0 : Nat) (v1 : Int) (v2 : Int) (σ : mSt) : Option (Int × mSt) := mG (isC v0 11) <| mRef (σ v0 24) fun r38 => mG (ixOK r38 21 0) <| mRef (σ v0 24) fun r41 => mG (ixOK r41 21 1) <| mCall (mX12_common (σ r38 0) (σ r41 1) σ) fun b44 s45 => mRef (s45 v0 24) fun r47 => mG (ixOK r47 21 2) <| mRef (s45 v0 24) fun r50 => mG (ixOK r50 21 3) <| mCall (mX12_common (s45 r47 2) (s45 r50 3) s45) fun b53 s54 => mCall (mX12_common b44 b53 s54) fun b56 s57 => mRef (s57 v0 24) fun r59 => mG (ixOK r59 21 4) <| mCall (mX12_common b56 (s57 r59 4) s57) fun b62 s63 => mRef (s63 v0 24) fun r65 => mG (ixOK r65 21 4) <| if 0 ≤ wL (s63 r65 4) then (mX12_keeps_B57 v0 v1 v2 b62 s63) else bnd (-b62) fun a69 => mX12_keeps_B57 v0 v1 v2 a69 s63
def mX12_tell (v0 : Nat) (v1 : Int) (v2 : Int) (v3 : Int) (v4 : Int) (v5 : Int) (v6 : Int) (σ : mSt) : Option (Int × mSt) := mG (isC v0 11) <| bnd (upS σ v0 0 0) fun s1 => mCall (mX12_within (wI v1) 0 7 s1) fun b3 s4 => if wI b3 = 0 then (some (0, s4)) else mCall (mX12_isQuaternion v0 v2 s4) fun b7 s8 => if wI b7 = 0 then (some (0, s8)) else mRef (s8 v0 24) fun r11 => mG (ixOK r11 21 0) <| bnd (upS s8 r11 0 (wI v3)) fun s14 => mRef (s14 v0 24) fun r16 => mG (ixOK r16 21 1) <| bnd (upS s14 r16 1 (wI v4)) fun s19 => mRef (s19 v0 24) fun r21 => mG (ixOK r21 21 2) <| bnd (upS s19 r21 2 (wI v5)) fun s24 => mRef (s24 v0 24) fun r26 => mG (ixOK r26 21 3) <| bnd (upS s24 r26 3 (wI v6)) fun s29 => mRef (s29 v0 24) fun r31 => mG (ixOK r31 21 4) <| bnd (upS s29 r31 4 1) fun s34 => mCall (mX12_keeps v0 v1 v2 s34) fun b36 s37 => if wI b36 = 0 then (some (1, s37)) else some (0, s37)
def mX12_loads_B46 (v0 : Nat) (v1 : Int) (v2 : Int) (σ : mSt) : Option (Int × mSt) := some (0, σ)
def mX12_loads_L3 (v0 : Nat) (v1 : Int) (v2 : Int) (x46 : mSt → Option (Int × mSt)) : Nat → Int → mSt → Option (Int × mSt)
  | 0, _, _ => none
  | n + 1, v4, σ => if 5 ≤ wI v4 then (x46 σ) else mRef (σ v0 24) fun r2 => if 4 ≤ wI v4 then (mCall (mX12_part v0 v1 4 σ) fun b5 s6 => mG (ixOK r2 21 v4) <| bnd (upS s6 r2 (wI v4).toNat b5) fun s9 => bnd (v4 + 1) fun a11 => mX12_loads_L3 v0 v1 v2 x46 n a11 s9) else mCall (mX12_part v0 v1 v4 σ) fun b13 s14 => mG (ixOK r2 21 v4) <| bnd (upS s14 r2 (wI v4).toNat (b13 * v2)) fun s17 => bnd (v4 + 1) fun a19 => mX12_loads_L3 v0 v1 v2 x46 n a19 s17
def mX12_loads (v0 : Nat) (v1 : Int) (v2 : Int) (σ : mSt) : Option (Int × mSt) := mG (isC v0 11) <| mX12_loads_L3 v0 v1 v2 (fun zσ => mX12_loads_B46 v0 v1 v2 zσ) mF 0 σ
def mX12_over (v0 : Nat) (v1 : Int) (v2 : Int) (σ : mSt) : Option (Int × mSt) := mG (isC v0 11) <| bnd (upS σ v0 0 0) fun s1 => mCall (mX12_isKept v0 v1 s1) fun b3 s4 => if wI b3 = 0 then (some ((-1), s4)) else mCall (mX12_within (wI v2) 1 1000 s4) fun b7 s8 => if wI b7 = 0 then (some ((-1), s8)) else mCall (mX12_loads v0 v1 1 s8) fun b11 s12 => mRef (s12 v0 24) fun r14 => mG (ixOK r14 21 4) <| bnd (upS s12 r14 4 ((s12 r14 4) * (wI v2))) fun s17 => mRef (s17 v0 22) fun r19 => mG (ixOK r19 20 v1) <| mCall (mX12_keeps v0 v1 (s17 r19 (wI v1).toNat) s17) fun b22 s23 => some (b22, s23)
def mX12_element_B26 (v0 : Nat) (v1 : Int) (v2 : Int) (t0 : Nat) (t1 : Int) (σ : mSt) : Option (Int × mSt) := mG (isC t0 11) <| bnd (upS σ t0 0 t1) fun s2 => if wI (s2 v0 0) = 1 then (some (0, s2)) else if wI v2 = 5 then (mRef (s2 v0 22) fun r9 => mG (ixOK r9 20 v1) <| some (s2 r9 (wI v1).toNat, s2)) else mCall (mX12_part v0 v1 v2 s2) fun b6 s7 => some (b6, s7)
def mX12_element_B25 (v0 : Nat) (v1 : Int) (v2 : Int) (t0 : Nat) (σ : mSt) : Option (Int × mSt) := mX12_element_B26 v0 v1 v2 t0 1 σ
def mX12_element (v0 : Nat) (v1 : Int) (v2 : Int) (σ : mSt) : Option (Int × mSt) := mG (isC v0 11) <| mCall (mX12_isKept v0 v1 σ) fun b12 s13 => if wI b12 = 0 then (mX12_element_B25 v0 v1 v2 v0 s13) else mCall (mX12_within (wI v2) 0 5 s13) fun b16 s17 => if wI b16 = 0 then (mX12_element_B25 v0 v1 v2 v0 s17) else mX12_element_B26 v0 v1 v2 v0 0 s17
def mX12_areBeside_B47 (v0 : Nat) (v1 : Int) (v2 : Int) (v3 : Int) (σ : mSt) : Option (Int × mSt) := some (0, σ)
def mX12_areBeside (v0 : Nat) (v1 : Int) (v2 : Int) (v3 : Int) (σ : mSt) : Option (Int × mSt) := mG (isC v0 11) <| mCall (mX12_isKept v0 v1 σ) fun b1 s2 => if wI b1 = 0 then (mX12_areBeside_B47 v0 v1 v2 v3 s2) else mCall (mX12_isKept v0 v2 s2) fun b5 s6 => if wI b5 = 0 then (mX12_areBeside_B47 v0 v1 v2 v3 s6) else mRef (s6 v0 22) fun r9 => mG (ixOK r9 20 v1) <| mRef (s6 v0 22) fun r12 => mG (ixOK r12 20 v2) <| if wI (s6 r9 (wI v1).toNat) = wI (s6 r12 (wI v2).toNat) then (mCall (mX12_within (wI v3) 0 7 s6) fun b16 s17 => if wI b16 = 0 then (mX12_areBeside_B47 v0 v1 v2 v3 s17) else some (1, s17)) else mX12_areBeside_B47 v0 v1 v2 v3 s6
def mX12_multiplies (v0 : Nat) (v1 : Int) (v3 : Int) (σ : mSt) : Option (Int × mSt) := mG (isC v0 11) <| mRef (σ v0 27) fun r1 => mRef (σ v0 25) fun r3 => mG (ixOK r3 21 0) <| mRef (σ v0 26) fun r6 => mG (ixOK r6 21 0) <| mRef (σ v0 25) fun r9 => mG (ixOK r9 21 1) <| mRef (σ v0 26) fun r12 => mG (ixOK r12 21 1) <| mRef (σ v0 25) fun r15 => mG (ixOK r15 21 2) <| mRef (σ v0 26) fun r18 => mG (ixOK r18 21 2) <| mRef (σ v0 25) fun r21 => mG (ixOK r21 21 3) <| mRef (σ v0 26) fun r24 => mG (ixOK r24 21 3) <| mG (ixOK r1 21 0) <| bnd (upS σ r1 0 (((((σ r3 0) * (σ r6 0)) + ((v1 * (σ r9 1)) * (σ r12 1))) + ((v3 * (σ r15 2)) * (σ r18 2))) - (((v1 * v3) * (σ r21 3)) * (σ r24 3)))) fun s28 => mRef (s28 v0 27) fun r30 => mRef (s28 v0 25) fun r32 => mG (ixOK r32 21 0) <| mRef (s28 v0 26) fun r35 => mG (ixOK r35 21 1) <| mRef (s28 v0 25) fun r38 => mG (ixOK r38 21 1) <| mRef (s28 v0 26) fun r41 => mG (ixOK r41 21 0) <| mRef (s28 v0 25) fun r44 => mG (ixOK r44 21 2) <| mRef (s28 v0 26) fun r47 => mG (ixOK r47 21 3) <| mRef (s28 v0 25) fun r50 => mG (ixOK r50 21 3) <| mRef (s28 v0 26) fun r53 => mG (ixOK r53 21 2) <| mG (ixOK r30 21 1) <| bnd (upS s28 r30 1 (((((s28 r32 0) * (s28 r35 1)) + ((s28 r38 1) * (s28 r41 0))) - ((v3 * (s28 r44 2)) * (s28 r47 3))) + ((v3 * (s28 r50 3)) * (s28 r53 2)))) fun s57 => mRef (s57 v0 27) fun r59 => mRef (s57 v0 25) fun r61 => mG (ixOK r61 21 0) <| mRef (s57 v0 26) fun r64 => mG (ixOK r64 21 2) <| mRef (s57 v0 25) fun r67 => mG (ixOK r67 21 2) <| mRef (s57 v0 26) fun r70 => mG (ixOK r70 21 0) <| mRef (s57 v0 25) fun r73 => mG (ixOK r73 21 1) <| mRef (s57 v0 26) fun r76 => mG (ixOK r76 21 3) <| mRef (s57 v0 25) fun r79 => mG (ixOK r79 21 3) <| mRef (s57 v0 26) fun r82 => mG (ixOK r82 21 1) <| mG (ixOK r59 21 2) <| bnd (upS s57 r59 2 (((((s57 r61 0) * (s57 r64 2)) + ((s57 r67 2) * (s57 r70 0))) + ((v1 * (s57 r73 1)) * (s57 r76 3))) - ((v1 * (s57 r79 3)) * (s57 r82 1)))) fun s86 => mRef (s86 v0 27) fun r88 => mRef (s86 v0 25) fun r90 => mG (ixOK r90 21 0) <| mRef (s86 v0 26) fun r93 => mG (ixOK r93 21 3) <| mRef (s86 v0 25) fun r96 => mG (ixOK r96 21 3) <| mRef (s86 v0 26) fun r99 => mG (ixOK r99 21 0) <| mRef (s86 v0 25) fun r102 => mG (ixOK r102 21 1) <| mRef (s86 v0 26) fun r105 => mG (ixOK r105 21 2) <| mRef (s86 v0 25) fun r108 => mG (ixOK r108 21 2) <| mRef (s86 v0 26) fun r111 => mG (ixOK r111 21 1) <| mG (ixOK r88 21 3) <| bnd (upS s86 r88 3 (((((s86 r90 0) * (s86 r93 3)) + ((s86 r96 3) * (s86 r99 0))) + ((s86 r102 1) * (s86 r105 2))) - ((s86 r108 2) * (s86 r111 1)))) fun s115 => some (0, s115)
def mX12_takesOne_B25 (v0 : Nat) (v1 : Int) (σ : mSt) : Option (Int × mSt) := some (0, σ)
def mX12_takesOne_L2 (v0 : Nat) (v1 : Int) (x25 : mSt → Option (Int × mSt)) : Nat → Int → mSt → Option (Int × mSt)
  | 0, _, _ => none
  | n + 1, v2, σ => if 4 ≤ wI v2 then (x25 σ) else mRef (σ v0 25) fun r2 => mCall (mX12_part v0 v1 v2 σ) fun b4 s5 => mG (ixOK r2 21 v2) <| bnd (upS s5 r2 (wI v2).toNat b4) fun s8 => bnd (v2 + 1) fun a10 => mX12_takesOne_L2 v0 v1 x25 n a10 s8
def mX12_takesOne (v0 : Nat) (v1 : Int) (σ : mSt) : Option (Int × mSt) := mG (isC v0 11) <| mX12_takesOne_L2 v0 v1 (fun zσ => mX12_takesOne_B25 v0 v1 zσ) mF 0 σ
def mX12_takesOther_B25 (v0 : Nat) (v1 : Int) (σ : mSt) : Option (Int × mSt) := some (0, σ)
def mX12_takesOther_L2 (v0 : Nat) (v1 : Int) (x25 : mSt → Option (Int × mSt)) : Nat → Int → mSt → Option (Int × mSt)
  | 0, _, _ => none
  | n + 1, v2, σ => if 4 ≤ wI v2 then (x25 σ) else mRef (σ v0 26) fun r2 => mCall (mX12_part v0 v1 v2 σ) fun b4 s5 => mG (ixOK r2 21 v2) <| bnd (upS s5 r2 (wI v2).toNat b4) fun s8 => bnd (v2 + 1) fun a10 => mX12_takesOther_L2 v0 v1 x25 n a10 s8
def mX12_takesOther (v0 : Nat) (v1 : Int) (σ : mSt) : Option (Int × mSt) := mG (isC v0 11) <| mX12_takesOther_L2 v0 v1 (fun zσ => mX12_takesOther_B25 v0 v1 zσ) mF 0 σ
def mX12_times_B84 (v0 : Nat) (v1 : Int) (v2 : Int) (v3 : Int) (σ : mSt) : Option (Int × mSt) := mRef (σ v0 24) fun r1 => mCall (mX12_part v0 v1 4 σ) fun b3 s4 => mCall (mX12_part v0 v2 4 s4) fun b6 s7 => mG (ixOK r1 21 4) <| bnd (upS s7 r1 4 (b3 * b6)) fun s10 => mRef (s10 v0 22) fun r12 => mG (ixOK r12 20 v1) <| mCall (mX12_keeps v0 v3 (s10 r12 (wI v1).toNat) s10) fun b15 s16 => some (b15, s16)
def mX12_times_L58 (v0 : Nat) (v1 : Int) (v2 : Int) (v3 : Int) (x84 : mSt → Option (Int × mSt)) : Nat → Int → mSt → Option (Int × mSt)
  | 0, _, _ => none
  | n + 1, v4, σ => if 4 ≤ wI v4 then (x84 σ) else mRef (σ v0 24) fun r19 => mRef (σ v0 27) fun r21 => mG (ixOK r21 21 v4) <| mG (ixOK r19 21 v4) <| bnd (upS σ r19 (wI v4).toNat (σ r21 (wI v4).toNat)) fun s25 => bnd (v4 + 1) fun a27 => mX12_times_L58 v0 v1 v2 v3 x84 n a27 s25
def mX12_times (v0 : Nat) (v1 : Int) (v2 : Int) (v3 : Int) (σ : mSt) : Option (Int × mSt) := mG (isC v0 11) <| bnd (upS σ v0 0 0) fun s29 => mCall (mX12_areBeside v0 v1 v2 v3 s29) fun b31 s32 => if wI b31 = 0 then (some ((-1), s32)) else mCall (mX12_takesOne v0 v1 s32) fun b35 s36 => mCall (mX12_takesOther v0 v2 s36) fun b38 s39 => mRef (s39 v0 15) fun r41 => mRef (s39 v0 22) fun r43 => mG (ixOK r43 20 v1) <| mG (ixOK r41 20 (s39 r43 (wI v1).toNat)) <| mRef (s39 v0 16) fun r47 => mRef (s39 v0 22) fun r49 => mG (ixOK r49 20 v1) <| mG (ixOK r47 20 (s39 r49 (wI v1).toNat)) <| mCall (mX12_multiplies v0 (wI (s39 r41 (wI (s39 r43 (wI v1).toNat)).toNat)) (wI (s39 r47 (wI (s39 r49 (wI v1).toNat)).toNat)) s39) fun b53 s54 => mX12_times_L58 v0 v1 v2 v3 (fun zσ => mX12_times_B84 v0 v1 v2 v3 zσ) mF 0 s54
def mX12_plus_B86 (v0 : Nat) (v1 : Int) (v2 : Int) (v3 : Int) (v4 : Int) (σ : mSt) : Option (Int × mSt) := mRef (σ v0 24) fun r1 => mCall (mX12_part v0 v1 4 σ) fun b3 s4 => mCall (mX12_part v0 v2 4 s4) fun b6 s7 => mG (ixOK r1 21 4) <| bnd (upS s7 r1 4 (b3 * b6)) fun s10 => mRef (s10 v0 22) fun r12 => mG (ixOK r12 20 v1) <| mCall (mX12_keeps v0 v4 (s10 r12 (wI v1).toNat) s10) fun b15 s16 => some (b15, s16)
def mX12_plus_L35 (v0 : Nat) (v1 : Int) (v2 : Int) (v3 : Int) (v4 : Int) (x86 : mSt → Option (Int × mSt)) : Nat → Int → mSt → Option (Int × mSt)
  | 0, _, _ => none
  | n + 1, v5, σ => if 4 ≤ wI v5 then (x86 σ) else mRef (σ v0 24) fun r19 => mCall (mX12_part v0 v1 v5 σ) fun b21 s22 => mCall (mX12_part v0 v2 4 s22) fun b24 s25 => mCall (mX12_part v0 v2 v5 s25) fun b27 s28 => mCall (mX12_part v0 v1 4 s28) fun b30 s31 => mG (ixOK r19 21 v5) <| bnd (upS s31 r19 (wI v5).toNat ((b21 * b24) + (((wI v3) * b27) * b30))) fun s34 => bnd (v5 + 1) fun a36 => mX12_plus_L35 v0 v1 v2 v3 v4 x86 n a36 s34
def mX12_plus (v0 : Nat) (v1 : Int) (v2 : Int) (v3 : Int) (v4 : Int) (σ : mSt) : Option (Int × mSt) := mG (isC v0 11) <| bnd (upS σ v0 0 0) fun s38 => mCall (mX12_areBeside v0 v1 v2 v4 s38) fun b40 s41 => if wI b40 = 0 then (some ((-1), s41)) else mCall (mX12_within (wI v3) (-1000) 1000 s41) fun b44 s45 => if wI b44 = 0 then (some ((-1), s45)) else mX12_plus_L35 v0 v1 v2 v3 v4 (fun zσ => mX12_plus_B86 v0 v1 v2 v3 v4 zσ) mF 0 s45
def mX12_mirror (v0 : Nat) (v1 : Int) (v2 : Int) (σ : mSt) : Option (Int × mSt) := mG (isC v0 11) <| bnd (upS σ v0 0 0) fun s1 => mCall (mX12_areBeside v0 v1 v1 v2 s1) fun b3 s4 => if wI b3 = 0 then (some ((-1), s4)) else mCall (mX12_loads v0 v1 (-1) s4) fun b7 s8 => mRef (s8 v0 24) fun r10 => mCall (mX12_part v0 v1 0 s8) fun b12 s13 => mG (ixOK r10 21 0) <| bnd (upS s13 r10 0 b12) fun s16 => mRef (s16 v0 22) fun r18 => mG (ixOK r18 20 v1) <| mCall (mX12_keeps v0 v2 (s16 r18 (wI v1).toNat) s16) fun b21 s22 => some (b21, s22)
def mX12_normOf (v0 : Nat) (v1 : Int) (v3 : Int) (v5 : Int) (v7 : Int) (v9 : Int) (v11 : Int) (σ : mSt) : Option (Int × mSt) := mG (isC v0 11) <| some ((((v1 * v1) - ((v9 * v3) * v3)) - ((v11 * v5) * v5)) + (((v9 * v11) * v7) * v7), σ)
def mX12_normAbove (v0 : Nat) (v1 : Int) (σ : mSt) : Option (Int × mSt) := mG (isC v0 11) <| mCall (mX12_part v0 v1 0 σ) fun b1 s2 => mCall (mX12_part v0 v1 1 s2) fun b4 s5 => mCall (mX12_part v0 v1 2 s5) fun b7 s8 => mCall (mX12_part v0 v1 3 s8) fun b10 s11 => mRef (s11 v0 15) fun r13 => mRef (s11 v0 22) fun r15 => mG (ixOK r15 20 v1) <| mG (ixOK r13 20 (s11 r15 (wI v1).toNat)) <| mRef (s11 v0 16) fun r19 => mRef (s11 v0 22) fun r21 => mG (ixOK r21 20 v1) <| mG (ixOK r19 20 (s11 r21 (wI v1).toNat)) <| mCall (mX12_normOf v0 b1 b4 b7 b10 (wI (s11 r13 (wI (s11 r15 (wI v1).toNat)).toNat)) (wI (s11 r19 (wI (s11 r21 (wI v1).toNat)).toNat)) s11) fun b25 s26 => some (b25, s26)
def mX12_inverse_B81 (v0 : Nat) (v1 : Int) (v2 : Int) (v3 : Int) (σ : mSt) : Option (Int × mSt) := mRef (σ v0 24) fun r1 => mG (ixOK r1 21 4) <| bnd (upS σ r1 4 v3) fun s4 => mRef (s4 v0 22) fun r6 => mG (ixOK r6 20 v1) <| mCall (mX12_keeps v0 v2 (s4 r6 (wI v1).toNat) s4) fun b9 s10 => some (b9, s10)
def mX12_inverse_B59 (v0 : Nat) (v1 : Int) (v2 : Int) (v3 : Int) (c35 : Int → mSt → Option (Int × mSt)) (x81 : mSt → Option (Int × mSt)) (v5 : Int) (t0 : Nat) (t1 : Int) (t2 : Int) (σ : mSt) : Option (Int × mSt) := mCall (mX12_part v0 v1 v5 σ) fun b12 s13 => mCall (mX12_part v0 v1 4 s13) fun b15 s16 => mG (ixOK t0 21 t1) <| bnd (upS s16 t0 (wI t1).toNat ((t2 * b12) * b15)) fun s19 => bnd (v5 + 1) fun a21 => c35 a21 s19
def mX12_inverse_L35 (v0 : Nat) (v1 : Int) (v2 : Int) (v3 : Int) (x81 : mSt → Option (Int × mSt)) : Nat → Int → mSt → Option (Int × mSt)
  | 0, _, _ => none
  | n + 1, v5, σ => if 4 ≤ wI v5 then (x81 σ) else mRef (σ v0 24) fun r24 => if wI v5 = 0 then (mX12_inverse_B59 v0 v1 v2 v3 (mX12_inverse_L35 v0 v1 v2 v3 x81 n) x81 v5 r24 v5 1 σ) else mX12_inverse_B59 v0 v1 v2 v3 (mX12_inverse_L35 v0 v1 v2 v3 x81 n) x81 v5 r24 v5 (-1) σ
def mX12_inverse (v0 : Nat) (v1 : Int) (v2 : Int) (σ : mSt) : Option (Int × mSt) := mG (isC v0 11) <| bnd (upS σ v0 0 0) fun s27 => mCall (mX12_areBeside v0 v1 v1 v2 s27) fun b29 s30 => if wI b29 = 0 then (some ((-1), s30)) else mCall (mX12_normAbove v0 v1 s30) fun b33 s34 => if wL b33 = 0 then (some ((-2), s34)) else mX12_inverse_L35 v0 v1 v2 b33 (fun zσ => mX12_inverse_B81 v0 v1 v2 b33 zσ) mF 0 s34
def mX12_told (v0 : Int) (v2 : Int) (v4 : Int) (σ : mSt) : Option (Int × mSt) := mCall (mX12_common v0 v2 σ) fun b1 s2 => if wI v4 = 0 then (mG (wL b1 ≠ 0) <| some ((wL v0).tdiv (wL b1), s2)) else mG (wL b1 ≠ 0) <| some ((wL v2).tdiv (wL b1), s2)
def mX12_norm_B24 (v0 : Nat) (v1 : Int) (v2 : Int) (t0 : Nat) (t1 : Int) (σ : mSt) : Option (Int × mSt) := mG (isC t0 11) <| bnd (upS σ t0 0 t1) fun s2 => if wI (s2 v0 0) = 1 then (some (0, s2)) else mCall (mX12_normAbove v0 v1 s2) fun b5 s6 => mCall (mX12_part v0 v1 4 s6) fun b8 s9 => mCall (mX12_part v0 v1 4 s9) fun b11 s12 => mCall (mX12_told b5 (b8 * b11) v2 s12) fun b14 s15 => some (b14, s15)
def mX12_norm_B23 (v0 : Nat) (v1 : Int) (v2 : Int) (t0 : Nat) (σ : mSt) : Option (Int × mSt) := mX12_norm_B24 v0 v1 v2 t0 1 σ
def mX12_norm (v0 : Nat) (v1 : Int) (v2 : Int) (σ : mSt) : Option (Int × mSt) := mG (isC v0 11) <| mCall (mX12_isKept v0 v1 σ) fun b17 s18 => if wI b17 = 0 then (mX12_norm_B23 v0 v1 v2 v0 s18) else mCall (mX12_within (wI v2) 0 1 s18) fun b21 s22 => if wI b21 = 0 then (mX12_norm_B23 v0 v1 v2 v0 s22) else mX12_norm_B24 v0 v1 v2 v0 0 s22
def mX12_trace_B24 (v0 : Nat) (v1 : Int) (v2 : Int) (t0 : Nat) (t1 : Int) (σ : mSt) : Option (Int × mSt) := mG (isC t0 11) <| bnd (upS σ t0 0 t1) fun s2 => if wI (s2 v0 0) = 1 then (some (0, s2)) else mCall (mX12_part v0 v1 0 s2) fun b5 s6 => mCall (mX12_part v0 v1 4 s6) fun b8 s9 => mCall (mX12_told (2 * b5) b8 v2 s9) fun b11 s12 => some (b11, s12)
def mX12_trace_B23 (v0 : Nat) (v1 : Int) (v2 : Int) (t0 : Nat) (σ : mSt) : Option (Int × mSt) := mX12_trace_B24 v0 v1 v2 t0 1 σ
def mX12_trace (v0 : Nat) (v1 : Int) (v2 : Int) (σ : mSt) : Option (Int × mSt) := mG (isC v0 11) <| mCall (mX12_isKept v0 v1 σ) fun b14 s15 => if wI b14 = 0 then (mX12_trace_B23 v0 v1 v2 v0 s15) else mCall (mX12_within (wI v2) 0 1 s15) fun b18 s19 => if wI b18 = 0 then (mX12_trace_B23 v0 v1 v2 v0 s19) else mX12_trace_B24 v0 v1 v2 v0 0 s19
def mX12_root_B15 (v0 : Int) (v1 : Int) (σ : mSt) : Option (Int × mSt) := if wI (v1 * v1) = wI v0 then (some (v1, σ)) else some ((-1), σ)
def mX12_root_L2 (v0 : Int) (x15 : Int → mSt → Option (Int × mSt)) : Nat → Int → mSt → Option (Int × mSt)
  | 0, _, _ => none
  | n + 1, v1, σ => if wI v0 ≤ wI (v1 * v1) then (x15 v1 σ) else bnd (v1 + 1) fun a3 => mX12_root_L2 v0 x15 n a3 σ
def mX12_root (v0 : Int) (σ : mSt) : Option (Int × mSt) := mX12_root_L2 v0 (fun z1 zσ => mX12_root_B15 v0 z1 zσ) mF 0 σ
def mX12_solves_B94 (v0 : Nat) (v1 : Int) (σ : mSt) : Option (Int × mSt) := some (0, σ)
def mX12_solves_B88 (v0 : Nat) (v1 : Int) (c2 : Int → mSt → Option (Int × mSt)) (x94 : mSt → Option (Int × mSt)) (v2 : Int) (σ : mSt) : Option (Int × mSt) := bnd (v2 + 1) fun a1 => c2 a1 σ
def mX12_solves_B58 (v0 : Nat) (v1 : Int) (v2 : Int) (c10 : Int → mSt → Option (Int × mSt)) (x88 : mSt → Option (Int × mSt)) (v3 : Int) (v4 : Int) (σ : mSt) : Option (Int × mSt) := mRef (σ v0 28) fun r3 => mG (ixOK r3 20 0) <| bnd (upS σ r3 0 v4) fun s6 => mRef (s6 v0 28) fun r8 => mG (ixOK r8 20 1) <| bnd (upS s6 r8 1 v3) fun s11 => mRef (s11 v0 28) fun r13 => mG (ixOK r13 20 2) <| bnd (upS s11 r13 2 v2) fun s16 => some (1, s16)
def mX12_solves_L10 (v0 : Nat) (v1 : Int) (v2 : Int) (x88 : mSt → Option (Int × mSt)) : Nat → Int → mSt → Option (Int × mSt)
  | 0, _, _ => none
  | n + 1, v3, σ => if 8 ≤ wI v3 then (x88 σ) else mRef (σ v0 15) fun r19 => mG (ixOK r19 20 v1) <| mRef (σ v0 16) fun r22 => mG (ixOK r22 20 v1) <| mCall (mX12_root ((((σ r19 (wI v1).toNat) * v3) * v3) + (((σ r22 (wI v1).toNat) * v2) * v2)) σ) fun b25 s26 => if wI b25 < 0 then (bnd (v3 + 1) fun a29 => mX12_solves_L10 v0 v1 v2 x88 n a29 s26) else if wI v3 = 0 then (if wI v2 = 0 then (bnd (v3 + 1) fun a33 => mX12_solves_L10 v0 v1 v2 x88 n a33 s26) else mX12_solves_B58 v0 v1 v2 (mX12_solves_L10 v0 v1 v2 x88 n) x88 v3 b25 s26) else mX12_solves_B58 v0 v1 v2 (mX12_solves_L10 v0 v1 v2 x88 n) x88 v3 b25 s26
def mX12_solves_L2 (v0 : Nat) (v1 : Int) (x94 : mSt → Option (Int × mSt)) : Nat → Int → mSt → Option (Int × mSt)
  | 0, _, _ => none
  | n + 1, v2, σ => if 8 ≤ wI v2 then (x94 σ) else mX12_solves_L10 v0 v1 v2 (fun zσ => mX12_solves_B88 v0 v1 (mX12_solves_L2 v0 v1 x94 n) x94 v2 zσ) mF 0 σ
def mX12_solves (v0 : Nat) (v1 : Int) (σ : mSt) : Option (Int × mSt) := mG (isC v0 11) <| mX12_solves_L2 v0 v1 (fun zσ => mX12_solves_B94 v0 v1 zσ) mF 0 σ
def mX12_solution_B53 (v0 : Nat) (v1 : Int) (v2 : Int) (σ : mSt) : Option (Int × mSt) := some ((-2), σ)
def mX12_solution (v0 : Nat) (v1 : Int) (v2 : Int) (σ : mSt) : Option (Int × mSt) := mG (isC v0 11) <| bnd (upS σ v0 0 0) fun s1 => mCall (mX12_isQuaternion v0 v1 s1) fun b3 s4 => if wI b3 = 0 then (some ((-1), s4)) else mCall (mX12_within (wI v2) 0 2 s4) fun b7 s8 => if wI b7 = 0 then (some ((-1), s8)) else mCall (mX12_indexOf v0 v1 s8) fun b11 s12 => if wI b11 = 1 then (mCall (mX12_solves v0 v1 s12) fun b15 s16 => if wI b15 = 0 then (mX12_solution_B53 v0 v1 v2 s16) else mRef (s16 v0 28) fun r19 => mG (ixOK r19 20 v2) <| some (s16 r19 (wI v2).toNat, s16)) else mX12_solution_B53 v0 v1 v2 s12
set_option maxRecDepth 100000 in
set_option maxHeartbeats 4000000 in
theorem wX12_keeps_B153 (l : Launch) (E : mE) (out : Int × mSt) {p : Program} {e : Env} {s : State} {m : MethodId} {args : Array Value} {below : List Frame} {meth : Method} {c : Code} (G : CallFix p m c cX12_keeps 6 s args mTs RX12) (hr : meth.sig.returnType = (some .int)) (hk : meth.locks = false) (v0 : Nat) (v1 : Int) (v2 : Int) (g0 : isC v0 11) : ∀ (σ : mSt) (H : Heap) (locs : List Loc) (ls : Array Slot), mX12_keeps_B153 v0 v1 v2 σ = some out → mM (mA E 276) E 276 σ s H locs → lv_has ls 6 [(0, .ref (eA E v0)), (1, vI v1), (2, vI v2)] → mGo l p e 1 29 s m args below meth c E (some (vI out.1)) out.2 H locs (F0 m 153 ls []) := by
  intro σ H locs ls hm hM hl
  unfold mX12_keeps_B153 at hm
  refine r_aload_n (np := 154) G hl 0 rfl dX12_keeps_153 rfl rfl ?_
  refine r_dup (np := 155) G dX12_keeps_154 rfl rfl ?_
  refine r_getI (np := 158) G hM (shp_lt g0 (by decide)) g0 fdX12_21 lkX12_213 dX12_keeps_155 rfl ?_
  refine r_iconst (np := 159) G 1 dX12_keeps_158 rfl ?_
  refine r_iload_n (np := 160) G hl 1 rfl dX12_keeps_159 rfl rfl ?_
  refine r_ishl (np := 161) G dX12_keeps_160 rfl ?_
  refine r_ior (np := 162) G dX12_keeps_161 rfl ?_
  obtain ⟨s1, e2, hm⟩ := bnd_t hm
  refine r_putI (np := 165) G hM (shp_lt g0 (by decide)) g0 ptX12_21 rfl lkX12_213 s1 e2 dX12_keeps_162 rfl (fun H locs hM => ?_)
  refine r_aload_n (np := 166) G hl 0 rfl dX12_keeps_165 rfl rfl ?_
  obtain ⟨r3, e4, hm⟩ := ref_t hm
  refine r_getR (np := 169) G hM (shp_lt g0 (by decide)) g0 e4 fdX12_22 lkX12_36 dX12_keeps_166 rfl ?_
  refine r_iload_n (np := 170) G hl 1 rfl dX12_keeps_169 rfl rfl ?_
  refine r_iload_n (np := 171) G hl 2 rfl dX12_keeps_170 rfl rfl ?_
  obtain ⟨g5, hm⟩ := g_t hm
  obtain ⟨s6, e7, hm⟩ := bnd_t hm
  refine r_iastore (np := 172) G hM g5 rfl s6 e7 dX12_keeps_171 rfl (fun H locs hM => ?_)
  refine r_iconst (np := 173) G 0 dX12_keeps_172 rfl ?_
  exact r_iret G hr hk hM hm dX12_keeps_173
set_option maxRecDepth 100000 in
set_option maxHeartbeats 4000000 in
theorem wX12_keeps_L123 (l : Launch) (E : mE) (out : Int × mSt) {p : Program} {e : Env} {s : State} {m : MethodId} {args : Array Value} {below : List Frame} {meth : Method} {c : Code} (G : CallFix p m c cX12_keeps 6 s args mTs RX12) (hr : meth.sig.returnType = (some .int)) (hk : meth.locks = false) (v0 : Nat) (v1 : Int) (v2 : Int) (g0 : isC v0 11) (x153 : mSt → Option (Int × mSt)) (hx153 : ∀ (σ : mSt) (H : Heap) (locs : List Loc) (ls : Array Slot), x153 σ = some out → mM (mA E 276) E 276 σ s H locs → lv_has ls 6 [(0, .ref (eA E v0)), (1, vI v1), (2, vI v2)] → mGo l p e 1 29 s m args below meth c E (some (vI out.1)) out.2 H locs (F0 m 153 ls [])) : ∀ (n : Nat) (v5 : Int) (σ : mSt) (H : Heap) (locs : List Loc) (ls : Array Slot), mX12_keeps_L123 v0 v1 v2 x153 n v5 σ = some out → mM (mA E 276) E 276 σ s H locs → lv_has ls 6 [(0, .ref (eA E v0)), (1, vI v1), (2, vI v2), (5, vI v5)] → mGo l p e 1 29 s m args below meth c E (some (vI out.1)) out.2 H locs (F0 m 123 ls []) := by
  intro n
  induction n with
  | zero =>
    intro v5 σ H locs ls hm hM hl
    exact absurd hm (by rw [mX12_keeps_L123.eq_1]; exact fun h => nomatch h)
  | succ n ih =>
    intro v5 σ H locs ls hm hM hl
    rw [mX12_keeps_L123.eq_2] at hm
    refine r_iload (np := 125) G hl 3 rfl dX12_keeps_123 rfl ?_
    refine r_iconst (np := 126) G 5 dX12_keeps_125 rfl ?_
    refine r_icmp_ge (np := 129) (tgt := 153) G rfl (wIk 5 rfl) dX12_keeps_126 (by decide) rfl (fun h8 => ?_) (fun h8 => ?_)
    · have hm := b_t h8 hm
      exact hx153 _ _ _ _ hm hM (lv_sub hl [0, 1, 2] rfl)
    · have hm := b_f h8 hm
      refine r_aload_n (np := 130) G hl 0 rfl dX12_keeps_129 rfl rfl ?_
      obtain ⟨r9, e10, hm⟩ := ref_t hm
      refine r_getR (np := 133) G hM (shp_lt g0 (by decide)) g0 e10 fdX12_23 lkX12_39 dX12_keeps_130 rfl ?_
      refine r_iconst (np := 134) G 5 dX12_keeps_133 rfl ?_
      refine r_iload_n (np := 135) G hl 1 rfl dX12_keeps_134 rfl rfl ?_
      refine r_imul (np := 136) G dX12_keeps_135 rfl ?_
      refine r_iload (np := 138) G hl 3 rfl dX12_keeps_136 rfl ?_
      refine r_iadd (np := 139) G dX12_keeps_138 rfl ?_
      refine r_aload_n (np := 140) G hl 0 rfl dX12_keeps_139 rfl rfl ?_
      obtain ⟨r11, e12, hm⟩ := ref_t hm
      refine r_getR (np := 143) G hM (shp_lt g0 (by decide)) g0 e12 fdX12_24 lkX12_42 dX12_keeps_140 rfl ?_
      refine r_iload (np := 145) G hl 3 rfl dX12_keeps_143 rfl ?_
      obtain ⟨g13, hm⟩ := g_t hm
      refine r_laload (np := 146) G hM g13 rfl dX12_keeps_145 rfl ?_
      obtain ⟨g14, hm⟩ := g_t hm
      obtain ⟨s15, e16, hm⟩ := bnd_t hm
      refine r_lastore (np := 147) G hM g14 rfl s15 e16 dX12_keeps_146 rfl (fun H locs hM => ?_)
      obtain ⟨a17, e18, hm⟩ := bnd_t hm
      refine r_iinc (np := 150) G hl 3 rfl e18 [(5, vI a17), (0, .ref (eA E v0)), (1, vI v1), (2, vI v2)] dX12_keeps_147 rfl (by decide) rfl (fun ls hl => ?_)
      refine r_goto (np := 123) G dX12_keeps_150 (by decide) ?_
      exact ih a17 _ _ _ _ hm hM (lv_sub hl [1, 2, 3, 0] rfl)
set_option maxRecDepth 100000 in
set_option maxHeartbeats 4000000 in
theorem wX12_keeps_B120 (l : Launch) (E : mE) (out : Int × mSt) {p : Program} {e : Env} {s : State} {m : MethodId} {args : Array Value} {below : List Frame} {meth : Method} {c : Code} (G : CallFix p m c cX12_keeps 6 s args mTs RX12) (hr : meth.sig.returnType = (some .int)) (hk : meth.locks = false) (v0 : Nat) (v1 : Int) (v2 : Int) (g0 : isC v0 11) : ∀ (σ : mSt) (H : Heap) (locs : List Loc) (ls : Array Slot), mX12_keeps_B120 v0 v1 v2 σ = some out → mM (mA E 276) E 276 σ s H locs → lv_has ls 6 [(0, .ref (eA E v0)), (1, vI v1), (2, vI v2)] → mGo l p e 1 29 s m args below meth c E (some (vI out.1)) out.2 H locs (F0 m 120 ls []) := by
  intro σ H locs ls hm hM hl
  unfold mX12_keeps_B120 at hm
  refine r_iconst (np := 121) G 0 dX12_keeps_120 rfl ?_
  refine r_istore (np := 123) G hl rfl [(5, vI 0), (0, .ref (eA E v0)), (1, vI v1), (2, vI v2)] dX12_keeps_121 rfl (by decide) rfl (fun ls hl => ?_)
  exact wX12_keeps_L123 l E out G hr hk v0 v1 v2 g0 (fun zσ => mX12_keeps_B153 v0 v1 v2 zσ) (fun zσ zH zl zs zm zM zv => wX12_keeps_B153 l E out G hr hk v0 v1 v2 g0 zσ zH zl zs zm zM zv) mF 0 _ _ _ _ hm hM (lv_sub hl [1, 2, 3, 0] rfl)
set_option maxRecDepth 100000 in
set_option maxHeartbeats 4000000 in
theorem wX12_keeps_L86 (l : Launch) (E : mE) (out : Int × mSt) {p : Program} {e : Env} {s : State} {m : MethodId} {args : Array Value} {below : List Frame} {meth : Method} {c : Code} (G : CallFix p m c cX12_keeps 6 s args mTs RX12) (hr : meth.sig.returnType = (some .int)) (hk : meth.locks = false) (v0 : Nat) (v1 : Int) (v2 : Int) (g0 : isC v0 11) (x120 : mSt → Option (Int × mSt)) (hx120 : ∀ (σ : mSt) (H : Heap) (locs : List Loc) (ls : Array Slot), x120 σ = some out → mM (mA E 276) E 276 σ s H locs → lv_has ls 6 [(0, .ref (eA E v0)), (1, vI v1), (2, vI v2)] → mGo l p e 1 29 s m args below meth c E (some (vI out.1)) out.2 H locs (F0 m 120 ls [])) : ∀ (n : Nat) (v5 : Int) (σ : mSt) (H : Heap) (locs : List Loc) (ls : Array Slot), mX12_keeps_L86 v0 v1 v2 x120 n v5 σ = some out → mM (mA E 276) E 276 σ s H locs → lv_has ls 6 [(0, .ref (eA E v0)), (1, vI v1), (2, vI v2), (5, vI v5)] → mGo l p e 1 29 s m args below meth c E (some (vI out.1)) out.2 H locs (F0 m 86 ls []) := by
  intro n
  induction n with
  | zero =>
    intro v5 σ H locs ls hm hM hl
    exact absurd hm (by rw [mX12_keeps_L86.eq_1]; exact fun h => nomatch h)
  | succ n ih =>
    intro v5 σ H locs ls hm hM hl
    rw [mX12_keeps_L86.eq_2] at hm
    refine r_iload (np := 88) G hl 3 rfl dX12_keeps_86 rfl ?_
    refine r_iconst (np := 89) G 5 dX12_keeps_88 rfl ?_
    refine r_icmp_ge (np := 92) (tgt := 120) G rfl (wIk 5 rfl) dX12_keeps_89 (by decide) rfl (fun h19 => ?_) (fun h19 => ?_)
    · have hm := b_t h19 hm
      exact hx120 _ _ _ _ hm hM (lv_sub hl [0, 1, 2] rfl)
    · have hm := b_f h19 hm
      refine r_aload_n (np := 93) G hl 0 rfl dX12_keeps_92 rfl rfl ?_
      obtain ⟨r20, e21, hm⟩ := ref_t hm
      refine r_getR (np := 96) G hM (shp_lt g0 (by decide)) g0 e21 fdX12_24 lkX12_42 dX12_keeps_93 rfl ?_
      refine r_iload (np := 98) G hl 3 rfl dX12_keeps_96 rfl ?_
      obtain ⟨g22, hm⟩ := g_t hm
      refine r_laload (np := 99) G hM g22 rfl dX12_keeps_98 rfl ?_
      refine r_ldc2 (np := 102) G (-1000000) dX12_keeps_99 lkX12_284 rfl rfl ?_
      refine r_ldc2 (np := 105) G 1000000 dX12_keeps_102 lkX12_286 rfl rfl ?_
      obtain ⟨b23, s24, e25, hm⟩ := call_t hm
      refine m_callSI (np := 108) G hM hl.1 [vL (σ r20 (wI v5).toNat), vL (-1000000), vL 1000000] (qX12_within l E σ (σ r20 (wI v5).toNat) (-1000000) 1000000 _ e25) myX12_within lkX12_113 ⟨Nat.le_of_ble_eq_true rfl, Nat.le_of_ble_eq_true rfl⟩ ⟨Nat.le_of_ble_eq_true rfl, Nat.le_of_ble_eq_true rfl⟩ [] rfl (Nat.le_of_ble_eq_true rfl) dX12_keeps_105 rfl (fun H locs hM => ?_)
      refine r_if_ne (np := 111) (tgt := 114) G rfl dX12_keeps_108 (by decide) rfl (fun h26 => ?_) (fun h26 => ?_)
      · have hm := b_f h26 hm
        obtain ⟨a27, e28, hm⟩ := bnd_t hm
        refine r_iinc (np := 117) G hl 3 rfl e28 [(5, vI a27), (0, .ref (eA E v0)), (1, vI v1), (2, vI v2)] dX12_keeps_114 rfl (by decide) rfl (fun ls hl => ?_)
        refine r_goto (np := 86) G dX12_keeps_117 (by decide) ?_
        exact ih a27 _ _ _ _ hm hM (lv_sub hl [1, 2, 3, 0] rfl)
      · have hm := b_t h26 hm
        refine r_bipush (np := 113) G (-3) dX12_keeps_111 (by decide) rfl ?_
        exact r_iret G hr hk hM hm dX12_keeps_113
set_option maxRecDepth 100000 in
set_option maxHeartbeats 4000000 in
theorem wX12_keeps_B83 (l : Launch) (E : mE) (out : Int × mSt) {p : Program} {e : Env} {s : State} {m : MethodId} {args : Array Value} {below : List Frame} {meth : Method} {c : Code} (G : CallFix p m c cX12_keeps 6 s args mTs RX12) (hr : meth.sig.returnType = (some .int)) (hk : meth.locks = false) (v0 : Nat) (v1 : Int) (v2 : Int) (g0 : isC v0 11) : ∀ (σ : mSt) (H : Heap) (locs : List Loc) (ls : Array Slot), mX12_keeps_B83 v0 v1 v2 σ = some out → mM (mA E 276) E 276 σ s H locs → lv_has ls 6 [(0, .ref (eA E v0)), (1, vI v1), (2, vI v2)] → mGo l p e 1 29 s m args below meth c E (some (vI out.1)) out.2 H locs (F0 m 83 ls []) := by
  intro σ H locs ls hm hM hl
  unfold mX12_keeps_B83 at hm
  refine r_iconst (np := 84) G 0 dX12_keeps_83 rfl ?_
  refine r_istore (np := 86) G hl rfl [(5, vI 0), (0, .ref (eA E v0)), (1, vI v1), (2, vI v2)] dX12_keeps_84 rfl (by decide) rfl (fun ls hl => ?_)
  exact wX12_keeps_L86 l E out G hr hk v0 v1 v2 g0 (fun zσ => mX12_keeps_B120 v0 v1 v2 zσ) (fun zσ zH zl zs zm zM zv => wX12_keeps_B120 l E out G hr hk v0 v1 v2 g0 zσ zH zl zs zm zM zv) mF 0 _ _ _ _ hm hM (lv_sub hl [1, 2, 3, 0] rfl)
set_option maxRecDepth 100000 in
set_option maxHeartbeats 4000000 in
theorem wX12_keeps_L60 (l : Launch) (E : mE) (out : Int × mSt) {p : Program} {e : Env} {s : State} {m : MethodId} {args : Array Value} {below : List Frame} {meth : Method} {c : Code} (G : CallFix p m c cX12_keeps 6 s args mTs RX12) (hr : meth.sig.returnType = (some .int)) (hk : meth.locks = false) (v0 : Nat) (v1 : Int) (v2 : Int) (v3 : Int) (g0 : isC v0 11) (x83 : mSt → Option (Int × mSt)) (hx83 : ∀ (σ : mSt) (H : Heap) (locs : List Loc) (ls : Array Slot), x83 σ = some out → mM (mA E 276) E 276 σ s H locs → lv_has ls 6 [(0, .ref (eA E v0)), (1, vI v1), (2, vI v2)] → mGo l p e 1 29 s m args below meth c E (some (vI out.1)) out.2 H locs (F0 m 83 ls [])) : ∀ (n : Nat) (v5 : Int) (σ : mSt) (H : Heap) (locs : List Loc) (ls : Array Slot), mX12_keeps_L60 v0 v1 v2 v3 x83 n v5 σ = some out → mM (mA E 276) E 276 σ s H locs → lv_has ls 6 [(0, .ref (eA E v0)), (1, vI v1), (2, vI v2), (3, vL v3), (5, vI v5)] → mGo l p e 1 29 s m args below meth c E (some (vI out.1)) out.2 H locs (F0 m 60 ls []) := by
  intro n
  induction n with
  | zero =>
    intro v5 σ H locs ls hm hM hl
    exact absurd hm (by rw [mX12_keeps_L60.eq_1]; exact fun h => nomatch h)
  | succ n ih =>
    intro v5 σ H locs ls hm hM hl
    rw [mX12_keeps_L60.eq_2] at hm
    refine r_iload (np := 62) G hl 4 rfl dX12_keeps_60 rfl ?_
    refine r_iconst (np := 63) G 5 dX12_keeps_62 rfl ?_
    refine r_icmp_ge (np := 66) (tgt := 83) G rfl (wIk 5 rfl) dX12_keeps_63 (by decide) rfl (fun h29 => ?_) (fun h29 => ?_)
    · have hm := b_t h29 hm
      exact hx83 _ _ _ _ hm hM (lv_sub hl [0, 1, 2] rfl)
    · have hm := b_f h29 hm
      refine r_aload_n (np := 67) G hl 0 rfl dX12_keeps_66 rfl rfl ?_
      obtain ⟨r30, e31, hm⟩ := ref_t hm
      refine r_getR (np := 70) G hM (shp_lt g0 (by decide)) g0 e31 fdX12_24 lkX12_42 dX12_keeps_67 rfl ?_
      refine r_iload (np := 72) G hl 4 rfl dX12_keeps_70 rfl ?_
      refine r_dup2 (np := 73) G dX12_keeps_72 rfl rfl rfl ?_
      obtain ⟨g32, hm⟩ := g_t hm
      refine r_laload (np := 74) G hM g32 rfl dX12_keeps_73 rfl ?_
      refine r_lload_n (np := 75) G hl 3 rfl dX12_keeps_74 rfl rfl ?_
      obtain ⟨g33, hm⟩ := g_t hm
      refine r_ldiv (np := 76) G g33 dX12_keeps_75 rfl ?_
      obtain ⟨s34, e35, hm⟩ := bnd_t hm
      refine r_lastore (np := 77) G hM g32 rfl s34 e35 dX12_keeps_76 rfl (fun H locs hM => ?_)
      obtain ⟨a36, e37, hm⟩ := bnd_t hm
      refine r_iinc (np := 80) G hl 4 rfl e37 [(5, vI a36), (0, .ref (eA E v0)), (1, vI v1), (2, vI v2), (3, vL v3)] dX12_keeps_77 rfl (by decide) rfl (fun ls hl => ?_)
      refine r_goto (np := 60) G dX12_keeps_80 (by decide) ?_
      exact ih a36 _ _ _ _ hm hM (lv_sub hl [1, 2, 3, 4, 0] rfl)
set_option maxRecDepth 100000 in
set_option maxHeartbeats 4000000 in
theorem wX12_keeps_B57 (l : Launch) (E : mE) (out : Int × mSt) {p : Program} {e : Env} {s : State} {m : MethodId} {args : Array Value} {below : List Frame} {meth : Method} {c : Code} (G : CallFix p m c cX12_keeps 6 s args mTs RX12) (hr : meth.sig.returnType = (some .int)) (hk : meth.locks = false) (v0 : Nat) (v1 : Int) (v2 : Int) (g0 : isC v0 11) : ∀ (v3 : Int) (σ : mSt) (H : Heap) (locs : List Loc) (ls : Array Slot), mX12_keeps_B57 v0 v1 v2 v3 σ = some out → mM (mA E 276) E 276 σ s H locs → lv_has ls 6 [(0, .ref (eA E v0)), (1, vI v1), (2, vI v2), (3, vL v3)] → mGo l p e 1 29 s m args below meth c E (some (vI out.1)) out.2 H locs (F0 m 57 ls []) := by
  intro v3 σ H locs ls hm hM hl
  unfold mX12_keeps_B57 at hm
  refine r_iconst (np := 58) G 0 dX12_keeps_57 rfl ?_
  refine r_istore (np := 60) G hl rfl [(5, vI 0), (0, .ref (eA E v0)), (1, vI v1), (2, vI v2), (3, vL v3)] dX12_keeps_58 rfl (by decide) rfl (fun ls hl => ?_)
  exact wX12_keeps_L60 l E out G hr hk v0 v1 v2 v3 g0 (fun zσ => mX12_keeps_B83 v0 v1 v2 zσ) (fun zσ zH zl zs zm zM zv => wX12_keeps_B83 l E out G hr hk v0 v1 v2 g0 zσ zH zl zs zm zM zv) mF 0 _ _ _ _ hm hM (lv_sub hl [1, 2, 3, 4, 0] rfl)
set_option maxRecDepth 100000 in
set_option maxHeartbeats 4000000 in
theorem qX12_keeps (l : Launch) (E : mE) (σ : mSt) (v0 : Nat) (v1 : Int) (v2 : Int) (out : Int × mSt) (hm : mX12_keeps v0 v1 v2 σ = some out) : mMet l yX12_keeps cX12_keeps 6 (some .int) 1 29 E 276 [.ref (eA E v0), vI v1, vI v2] σ (some (vI out.1)) out.2 := by
  unfold mX12_keeps at hm
  obtain ⟨g0, hm⟩ := g_t hm
  refine m_entry (by decide +kernel) (Nat.le_of_ble_eq_true rfl) (fun p e s m args below meth c G hr hk hM ls hl => ?_)
  have G : CallFix p m c cX12_keeps 6 s args mTs RX12 := G
  have hl : lv_has ls 6 [(0, .ref (eA E v0)), (1, vI v1), (2, vI v2)] := hl
  refine r_aload_n (np := 1) G hl 0 rfl dX12_keeps_0 rfl rfl ?_
  obtain ⟨r38, e39, hm⟩ := ref_t hm
  refine r_getR (np := 4) G hM (shp_lt g0 (by decide)) g0 e39 fdX12_24 lkX12_42 dX12_keeps_1 rfl ?_
  refine r_iconst (np := 5) G 0 dX12_keeps_4 rfl ?_
  obtain ⟨g40, hm⟩ := g_t hm
  refine r_laload (np := 6) G hM g40 rfl dX12_keeps_5 rfl ?_
  refine r_aload_n (np := 7) G hl 0 rfl dX12_keeps_6 rfl rfl ?_
  obtain ⟨r41, e42, hm⟩ := ref_t hm
  refine r_getR (np := 10) G hM (shp_lt g0 (by decide)) g0 e42 fdX12_24 lkX12_42 dX12_keeps_7 rfl ?_
  refine r_iconst (np := 11) G 1 dX12_keeps_10 rfl ?_
  obtain ⟨g43, hm⟩ := g_t hm
  refine r_laload (np := 12) G hM g43 rfl dX12_keeps_11 rfl ?_
  obtain ⟨b44, s45, e46, hm⟩ := call_t hm
  refine m_callSL (np := 15) G hM hl.1 [vL (σ r38 0), vL (σ r41 1)] (qX12_common l E σ (σ r38 0) (σ r41 1) _ e46) myX12_common lkX12_280 ⟨Nat.le_of_ble_eq_true rfl, Nat.le_of_ble_eq_true rfl⟩ ⟨Nat.le_of_ble_eq_true rfl, Nat.le_of_ble_eq_true rfl⟩ [] rfl (Nat.le_of_ble_eq_true rfl) dX12_keeps_12 rfl (fun H locs hM => ?_)
  refine r_aload_n (np := 16) G hl 0 rfl dX12_keeps_15 rfl rfl ?_
  obtain ⟨r47, e48, hm⟩ := ref_t hm
  refine r_getR (np := 19) G hM (shp_lt g0 (by decide)) g0 e48 fdX12_24 lkX12_42 dX12_keeps_16 rfl ?_
  refine r_iconst (np := 20) G 2 dX12_keeps_19 rfl ?_
  obtain ⟨g49, hm⟩ := g_t hm
  refine r_laload (np := 21) G hM g49 rfl dX12_keeps_20 rfl ?_
  refine r_aload_n (np := 22) G hl 0 rfl dX12_keeps_21 rfl rfl ?_
  obtain ⟨r50, e51, hm⟩ := ref_t hm
  refine r_getR (np := 25) G hM (shp_lt g0 (by decide)) g0 e51 fdX12_24 lkX12_42 dX12_keeps_22 rfl ?_
  refine r_iconst (np := 26) G 3 dX12_keeps_25 rfl ?_
  obtain ⟨g52, hm⟩ := g_t hm
  refine r_laload (np := 27) G hM g52 rfl dX12_keeps_26 rfl ?_
  obtain ⟨b53, s54, e55, hm⟩ := call_t hm
  refine m_callSL (np := 30) G hM hl.1 [vL (s45 r47 2), vL (s45 r50 3)] (qX12_common l E s45 (s45 r47 2) (s45 r50 3) _ e55) myX12_common lkX12_280 ⟨Nat.le_of_ble_eq_true rfl, Nat.le_of_ble_eq_true rfl⟩ ⟨Nat.le_of_ble_eq_true rfl, Nat.le_of_ble_eq_true rfl⟩ [vL b44] rfl (Nat.le_of_ble_eq_true rfl) dX12_keeps_27 rfl (fun H locs hM => ?_)
  obtain ⟨b56, s57, e58, hm⟩ := call_t hm
  refine m_callSL (np := 33) G hM hl.1 [vL b44, vL b53] (qX12_common l E s54 b44 b53 _ e58) myX12_common lkX12_280 ⟨Nat.le_of_ble_eq_true rfl, Nat.le_of_ble_eq_true rfl⟩ ⟨Nat.le_of_ble_eq_true rfl, Nat.le_of_ble_eq_true rfl⟩ [] rfl (Nat.le_of_ble_eq_true rfl) dX12_keeps_30 rfl (fun H locs hM => ?_)
  refine r_aload_n (np := 34) G hl 0 rfl dX12_keeps_33 rfl rfl ?_
  obtain ⟨r59, e60, hm⟩ := ref_t hm
  refine r_getR (np := 37) G hM (shp_lt g0 (by decide)) g0 e60 fdX12_24 lkX12_42 dX12_keeps_34 rfl ?_
  refine r_iconst (np := 38) G 4 dX12_keeps_37 rfl ?_
  obtain ⟨g61, hm⟩ := g_t hm
  refine r_laload (np := 39) G hM g61 rfl dX12_keeps_38 rfl ?_
  obtain ⟨b62, s63, e64, hm⟩ := call_t hm
  refine m_callSL (np := 42) G hM hl.1 [vL b56, vL (s57 r59 4)] (qX12_common l E s57 b56 (s57 r59 4) _ e64) myX12_common lkX12_280 ⟨Nat.le_of_ble_eq_true rfl, Nat.le_of_ble_eq_true rfl⟩ ⟨Nat.le_of_ble_eq_true rfl, Nat.le_of_ble_eq_true rfl⟩ [] rfl (Nat.le_of_ble_eq_true rfl) dX12_keeps_39 rfl (fun H locs hM => ?_)
  refine r_lstore_n (np := 43) G hl rfl [(3, vL b62), (0, .ref (eA E v0)), (1, vI v1), (2, vI v2)] dX12_keeps_42 rfl rfl (by decide) rfl (fun ls hl => ?_)
  refine r_aload_n (np := 44) G hl 1 rfl dX12_keeps_43 rfl rfl ?_
  obtain ⟨r65, e66, hm⟩ := ref_t hm
  refine r_getR (np := 47) G hM (shp_lt g0 (by decide)) g0 e66 fdX12_24 lkX12_42 dX12_keeps_44 rfl ?_
  refine r_iconst (np := 48) G 4 dX12_keeps_47 rfl ?_
  obtain ⟨g67, hm⟩ := g_t hm
  refine r_laload (np := 49) G hM g67 rfl dX12_keeps_48 rfl ?_
  refine r_lconst (np := 50) G 0 dX12_keeps_49 rfl rfl ?_
  refine r_lcmp_ge (np := 54) (tgt := 57) G rfl (wLk 0 rfl) dX12_keeps_50 dX12_keeps_51 (by decide) rfl (fun h68 => ?_) (fun h68 => ?_)
  · have hm := b_t h68 hm
    exact wX12_keeps_B57 l E out G hr hk v0 v1 v2 g0 b62 _ _ _ _ hm hM (lv_sub hl [1, 2, 3, 0] rfl)
  · have hm := b_f h68 hm
    refine r_lload_n (np := 55) G hl 0 rfl dX12_keeps_54 rfl rfl ?_
    refine r_lneg (np := 56) G dX12_keeps_55 rfl ?_
    obtain ⟨a69, e70, hm⟩ := bnd_t hm
    refine r_lstore_n (np := 57) G hl e70 [(3, vL a69), (0, .ref (eA E v0)), (1, vI v1), (2, vI v2)] dX12_keeps_56 rfl rfl (by decide) rfl (fun ls hl => ?_)
    exact wX12_keeps_B57 l E out G hr hk v0 v1 v2 g0 a69 _ _ _ _ hm hM (lv_sub hl [1, 2, 3, 0] rfl)
theorem gX12_keeps {v0 : Nat} {v1 : Int} {v2 : Int} {σ : mSt} {out : Int × mSt} (hm : mX12_keeps v0 v1 v2 σ = some out) : isC v0 11 := (g_t hm).1
set_option maxRecDepth 100000 in
set_option maxHeartbeats 4000000 in
theorem qX12_tell (l : Launch) (E : mE) (σ : mSt) (v0 : Nat) (v1 : Int) (v2 : Int) (v3 : Int) (v4 : Int) (v5 : Int) (v6 : Int) (out : Int × mSt) (hm : mX12_tell v0 v1 v2 v3 v4 v5 v6 σ = some out) : mMet l yX12_tell cX12_tell 7 (some .boolean) 3 67 E 276 [.ref (eA E v0), vI v1, vI v2, vI v3, vI v4, vI v5, vI v6] σ (some (vI out.1)) out.2 := by
  unfold mX12_tell at hm
  obtain ⟨g0, hm⟩ := g_t hm
  refine m_entry (by decide +kernel) (Nat.le_of_ble_eq_true rfl) (fun p e s m args below meth c G hr hk hM ls hl => ?_)
  have G : CallFix p m c cX12_tell 7 s args mTs RX12 := G
  have hl : lv_has ls 7 [(0, .ref (eA E v0)), (1, vI v1), (2, vI v2), (3, vI v3), (4, vI v4), (5, vI v5), (6, vI v6)] := hl
  refine r_aload_n (np := 1) G hl 0 rfl dX12_tell_0 rfl rfl ?_
  refine r_iconst (np := 2) G 0 dX12_tell_1 rfl ?_
  obtain ⟨s1, e2, hm⟩ := bnd_t hm
  refine r_putI (np := 5) G hM (shp_lt g0 (by decide)) g0 ptX12_0 rfl lkX12_75 s1 e2 dX12_tell_2 rfl (fun H locs hM => ?_)
  refine r_iload_n (np := 6) G hl 1 rfl dX12_tell_5 rfl rfl ?_
  refine r_i2l (np := 7) G rfl dX12_tell_6 rfl ?_
  refine r_lconst (np := 8) G 0 dX12_tell_7 rfl rfl ?_
  refine r_ldc2 (np := 11) G 7 dX12_tell_8 lkX12_278 rfl rfl ?_
  obtain ⟨b3, s4, e5, hm⟩ := call_t hm
  refine m_callSI (np := 14) G hM hl.1 [vL (wI v1), vL 0, vL 7] (qX12_within l E s1 (wI v1) 0 7 _ e5) myX12_within lkX12_113 ⟨Nat.le_of_ble_eq_true rfl, Nat.le_of_ble_eq_true rfl⟩ ⟨Nat.le_of_ble_eq_true rfl, Nat.le_of_ble_eq_true rfl⟩ [] rfl (Nat.le_of_ble_eq_true rfl) dX12_tell_11 rfl (fun H locs hM => ?_)
  refine r_if_eq (np := 17) (tgt := 25) G rfl dX12_tell_14 (by decide) rfl (fun h6 => ?_) (fun h6 => ?_)
  · have hm := b_t h6 hm
    refine r_iconst (np := 26) G 0 dX12_tell_25 rfl ?_
    exact r_zret G hr hk hM (Or.inl rfl) hm dX12_tell_26
  · have hm := b_f h6 hm
    refine r_aload_n (np := 18) G hl 0 rfl dX12_tell_17 rfl rfl ?_
    refine r_iload_n (np := 19) G hl 2 rfl dX12_tell_18 rfl rfl ?_
    obtain ⟨b7, s8, e9, hm⟩ := call_t hm
    refine m_callVI (np := 22) G hM hl.1 [vI v2] (qX12_isQuaternion l E s4 v0 v2 _ e9) myX12_isQuaternion (shp_lt (gX12_isQuaternion e9) (by decide)) (gX12_isQuaternion e9) rfl (by decide) lkX12_288 ⟨Nat.le_of_ble_eq_true rfl, Nat.le_of_ble_eq_true rfl⟩ ⟨Nat.le_of_ble_eq_true rfl, Nat.le_of_ble_eq_true rfl⟩ [] rfl (Nat.le_of_ble_eq_true rfl) dX12_tell_19 rfl (fun H locs hM => ?_)
    refine r_if_ne (np := 25) (tgt := 27) G rfl dX12_tell_22 (by decide) rfl (fun h10 => ?_) (fun h10 => ?_)
    · have hm := b_f h10 hm
      refine r_aload_n (np := 28) G hl 0 rfl dX12_tell_27 rfl rfl ?_
      obtain ⟨r11, e12, hm⟩ := ref_t hm
      refine r_getR (np := 31) G hM (shp_lt g0 (by decide)) g0 e12 fdX12_24 lkX12_42 dX12_tell_28 rfl ?_
      refine r_iconst (np := 32) G 0 dX12_tell_31 rfl ?_
      refine r_iload_n (np := 33) G hl 3 rfl dX12_tell_32 rfl rfl ?_
      refine r_i2l (np := 34) G rfl dX12_tell_33 rfl ?_
      obtain ⟨g13, hm⟩ := g_t hm
      obtain ⟨s14, e15, hm⟩ := bnd_t hm
      refine r_lastore (np := 35) G hM g13 rfl s14 e15 dX12_tell_34 rfl (fun H locs hM => ?_)
      refine r_aload_n (np := 36) G hl 0 rfl dX12_tell_35 rfl rfl ?_
      obtain ⟨r16, e17, hm⟩ := ref_t hm
      refine r_getR (np := 39) G hM (shp_lt g0 (by decide)) g0 e17 fdX12_24 lkX12_42 dX12_tell_36 rfl ?_
      refine r_iconst (np := 40) G 1 dX12_tell_39 rfl ?_
      refine r_iload (np := 42) G hl 4 rfl dX12_tell_40 rfl ?_
      refine r_i2l (np := 43) G rfl dX12_tell_42 rfl ?_
      obtain ⟨g18, hm⟩ := g_t hm
      obtain ⟨s19, e20, hm⟩ := bnd_t hm
      refine r_lastore (np := 44) G hM g18 rfl s19 e20 dX12_tell_43 rfl (fun H locs hM => ?_)
      refine r_aload_n (np := 45) G hl 0 rfl dX12_tell_44 rfl rfl ?_
      obtain ⟨r21, e22, hm⟩ := ref_t hm
      refine r_getR (np := 48) G hM (shp_lt g0 (by decide)) g0 e22 fdX12_24 lkX12_42 dX12_tell_45 rfl ?_
      refine r_iconst (np := 49) G 2 dX12_tell_48 rfl ?_
      refine r_iload (np := 51) G hl 5 rfl dX12_tell_49 rfl ?_
      refine r_i2l (np := 52) G rfl dX12_tell_51 rfl ?_
      obtain ⟨g23, hm⟩ := g_t hm
      obtain ⟨s24, e25, hm⟩ := bnd_t hm
      refine r_lastore (np := 53) G hM g23 rfl s24 e25 dX12_tell_52 rfl (fun H locs hM => ?_)
      refine r_aload_n (np := 54) G hl 0 rfl dX12_tell_53 rfl rfl ?_
      obtain ⟨r26, e27, hm⟩ := ref_t hm
      refine r_getR (np := 57) G hM (shp_lt g0 (by decide)) g0 e27 fdX12_24 lkX12_42 dX12_tell_54 rfl ?_
      refine r_iconst (np := 58) G 3 dX12_tell_57 rfl ?_
      refine r_iload (np := 60) G hl 6 rfl dX12_tell_58 rfl ?_
      refine r_i2l (np := 61) G rfl dX12_tell_60 rfl ?_
      obtain ⟨g28, hm⟩ := g_t hm
      obtain ⟨s29, e30, hm⟩ := bnd_t hm
      refine r_lastore (np := 62) G hM g28 rfl s29 e30 dX12_tell_61 rfl (fun H locs hM => ?_)
      refine r_aload_n (np := 63) G hl 0 rfl dX12_tell_62 rfl rfl ?_
      obtain ⟨r31, e32, hm⟩ := ref_t hm
      refine r_getR (np := 66) G hM (shp_lt g0 (by decide)) g0 e32 fdX12_24 lkX12_42 dX12_tell_63 rfl ?_
      refine r_iconst (np := 67) G 4 dX12_tell_66 rfl ?_
      refine r_lconst (np := 68) G 1 dX12_tell_67 rfl rfl ?_
      obtain ⟨g33, hm⟩ := g_t hm
      obtain ⟨s34, e35, hm⟩ := bnd_t hm
      refine r_lastore (np := 69) G hM g33 rfl s34 e35 dX12_tell_68 rfl (fun H locs hM => ?_)
      refine r_aload_n (np := 70) G hl 0 rfl dX12_tell_69 rfl rfl ?_
      refine r_iload_n (np := 71) G hl 1 rfl dX12_tell_70 rfl rfl ?_
      refine r_iload_n (np := 72) G hl 2 rfl dX12_tell_71 rfl rfl ?_
      obtain ⟨b36, s37, e38, hm⟩ := call_t hm
      refine m_callVI (np := 75) G hM hl.1 [vI v1, vI v2] (qX12_keeps l E s34 v0 v1 v2 _ e38) myX12_keeps (shp_lt (gX12_keeps e38) (by decide)) (gX12_keeps e38) rfl (by decide) lkX12_291 ⟨Nat.le_of_ble_eq_true rfl, Nat.le_of_ble_eq_true rfl⟩ ⟨Nat.le_of_ble_eq_true rfl, Nat.le_of_ble_eq_true rfl⟩ [] rfl (Nat.le_of_ble_eq_true rfl) dX12_tell_72 rfl (fun H locs hM => ?_)
      refine r_if_ne (np := 78) (tgt := 82) G rfl dX12_tell_75 (by decide) rfl (fun h39 => ?_) (fun h39 => ?_)
      · have hm := b_f h39 hm
        refine r_iconst (np := 83) G 0 dX12_tell_82 rfl ?_
        exact r_zret G hr hk hM (Or.inl rfl) hm dX12_tell_83
      · have hm := b_t h39 hm
        refine r_iconst (np := 79) G 1 dX12_tell_78 rfl ?_
        refine r_goto (np := 83) G dX12_tell_79 (by decide) ?_
        exact r_zret G hr hk hM (Or.inr rfl) hm dX12_tell_83
    · have hm := b_t h10 hm
      refine r_iconst (np := 26) G 0 dX12_tell_25 rfl ?_
      exact r_zret G hr hk hM (Or.inl rfl) hm dX12_tell_26
theorem gX12_tell {v0 : Nat} {v1 : Int} {v2 : Int} {v3 : Int} {v4 : Int} {v5 : Int} {v6 : Int} {σ : mSt} {out : Int × mSt} (hm : mX12_tell v0 v1 v2 v3 v4 v5 v6 σ = some out) : isC v0 11 := (g_t hm).1
set_option maxRecDepth 100000 in
set_option maxHeartbeats 4000000 in
theorem wX12_loads_B46 (l : Launch) (E : mE) (out : Int × mSt) {p : Program} {e : Env} {s : State} {m : MethodId} {args : Array Value} {below : List Frame} {meth : Method} {c : Code} (G : CallFix p m c cX12_loads 5 s args mTs RX12) (hr : meth.sig.returnType = none) (hk : meth.locks = false) (v0 : Nat) (v1 : Int) (v2 : Int) (g0 : isC v0 11) : ∀ (σ : mSt) (H : Heap) (locs : List Loc) (ls : Array Slot), mX12_loads_B46 v0 v1 v2 σ = some out → mM (mA E 276) E 276 σ s H locs → lv_has ls 5 [] → mGo l p e 1 22 s m args below meth c E none out.2 H locs (F0 m 46 ls []) := by
  intro σ H locs ls hm hM hl
  unfold mX12_loads_B46 at hm
  exact r_vret G hr hk hM hm dX12_loads_46
set_option maxRecDepth 100000 in
set_option maxHeartbeats 4000000 in
theorem wX12_loads_L3 (l : Launch) (E : mE) (out : Int × mSt) {p : Program} {e : Env} {s : State} {m : MethodId} {args : Array Value} {below : List Frame} {meth : Method} {c : Code} (G : CallFix p m c cX12_loads 5 s args mTs RX12) (hr : meth.sig.returnType = none) (hk : meth.locks = false) (v0 : Nat) (v1 : Int) (v2 : Int) (g0 : isC v0 11) (x46 : mSt → Option (Int × mSt)) (hx46 : ∀ (σ : mSt) (H : Heap) (locs : List Loc) (ls : Array Slot), x46 σ = some out → mM (mA E 276) E 276 σ s H locs → lv_has ls 5 [] → mGo l p e 1 22 s m args below meth c E none out.2 H locs (F0 m 46 ls [])) : ∀ (n : Nat) (v4 : Int) (σ : mSt) (H : Heap) (locs : List Loc) (ls : Array Slot), mX12_loads_L3 v0 v1 v2 x46 n v4 σ = some out → mM (mA E 276) E 276 σ s H locs → lv_has ls 5 [(0, .ref (eA E v0)), (1, vI v1), (2, vL v2), (4, vI v4)] → mGo l p e 1 22 s m args below meth c E none out.2 H locs (F0 m 3 ls []) := by
  intro n
  induction n with
  | zero =>
    intro v4 σ H locs ls hm hM hl
    exact absurd hm (by rw [mX12_loads_L3.eq_1]; exact fun h => nomatch h)
  | succ n ih =>
    intro v4 σ H locs ls hm hM hl
    rw [mX12_loads_L3.eq_2] at hm
    refine r_iload (np := 5) G hl 3 rfl dX12_loads_3 rfl ?_
    refine r_iconst (np := 6) G 5 dX12_loads_5 rfl ?_
    refine r_icmp_ge (np := 9) (tgt := 46) G rfl (wIk 5 rfl) dX12_loads_6 (by decide) rfl (fun h1 => ?_) (fun h1 => ?_)
    · have hm := b_t h1 hm
      exact hx46 _ _ _ _ hm hM (lv_sub hl [] rfl)
    · have hm := b_f h1 hm
      refine r_aload_n (np := 10) G hl 0 rfl dX12_loads_9 rfl rfl ?_
      obtain ⟨r2, e3, hm⟩ := ref_t hm
      refine r_getR (np := 13) G hM (shp_lt g0 (by decide)) g0 e3 fdX12_24 lkX12_42 dX12_loads_10 rfl ?_
      refine r_iload (np := 15) G hl 3 rfl dX12_loads_13 rfl ?_
      refine r_iload (np := 17) G hl 3 rfl dX12_loads_15 rfl ?_
      refine r_iconst (np := 18) G 4 dX12_loads_17 rfl ?_
      refine r_icmp_ge (np := 21) (tgt := 33) G rfl (wIk 4 rfl) dX12_loads_18 (by decide) rfl (fun h4 => ?_) (fun h4 => ?_)
      · have hm := b_t h4 hm
        refine r_aload_n (np := 34) G hl 0 rfl dX12_loads_33 rfl rfl ?_
        refine r_iload_n (np := 35) G hl 1 rfl dX12_loads_34 rfl rfl ?_
        refine r_iconst (np := 36) G 4 dX12_loads_35 rfl ?_
        obtain ⟨b5, s6, e7, hm⟩ := call_t hm
        refine m_callVL (np := 39) G hM hl.1 [vI v1, vI 4] (qX12_part l E σ v0 v1 4 _ e7) myX12_part (shp_lt (gX12_part e7) (by decide)) (gX12_part e7) rfl (by decide) lkX12_294 ⟨Nat.le_of_ble_eq_true rfl, Nat.le_of_ble_eq_true rfl⟩ ⟨Nat.le_of_ble_eq_true rfl, Nat.le_of_ble_eq_true rfl⟩ [vI v4, .ref (eA E r2)] rfl (Nat.le_of_ble_eq_true rfl) dX12_loads_36 rfl (fun H locs hM => ?_)
        obtain ⟨g8, hm⟩ := g_t hm
        obtain ⟨s9, e10, hm⟩ := bnd_t hm
        refine r_lastore (np := 40) G hM g8 rfl s9 e10 dX12_loads_39 rfl (fun H locs hM => ?_)
        obtain ⟨a11, e12, hm⟩ := bnd_t hm
        refine r_iinc (np := 43) G hl 3 rfl e12 [(4, vI a11), (0, .ref (eA E v0)), (1, vI v1), (2, vL v2)] dX12_loads_40 rfl (by decide) rfl (fun ls hl => ?_)
        refine r_goto (np := 3) G dX12_loads_43 (by decide) ?_
        exact ih a11 _ _ _ _ hm hM (lv_sub hl [1, 2, 3, 0] rfl)
      · have hm := b_f h4 hm
        refine r_aload_n (np := 22) G hl 0 rfl dX12_loads_21 rfl rfl ?_
        refine r_iload_n (np := 23) G hl 1 rfl dX12_loads_22 rfl rfl ?_
        refine r_iload (np := 25) G hl 3 rfl dX12_loads_23 rfl ?_
        obtain ⟨b13, s14, e15, hm⟩ := call_t hm
        refine m_callVL (np := 28) G hM hl.1 [vI v1, vI v4] (qX12_part l E σ v0 v1 v4 _ e15) myX12_part (shp_lt (gX12_part e15) (by decide)) (gX12_part e15) rfl (by decide) lkX12_294 ⟨Nat.le_of_ble_eq_true rfl, Nat.le_of_ble_eq_true rfl⟩ ⟨Nat.le_of_ble_eq_true rfl, Nat.le_of_ble_eq_true rfl⟩ [vI v4, .ref (eA E r2)] rfl (Nat.le_of_ble_eq_true rfl) dX12_loads_25 rfl (fun H locs hM => ?_)
        refine r_lload_n (np := 29) G hl 2 rfl dX12_loads_28 rfl rfl ?_
        refine r_lmul (np := 30) G dX12_loads_29 rfl ?_
        refine r_goto (np := 39) G dX12_loads_30 (by decide) ?_
        obtain ⟨g16, hm⟩ := g_t hm
        obtain ⟨s17, e18, hm⟩ := bnd_t hm
        refine r_lastore (np := 40) G hM g16 rfl s17 e18 dX12_loads_39 rfl (fun H locs hM => ?_)
        obtain ⟨a19, e20, hm⟩ := bnd_t hm
        refine r_iinc (np := 43) G hl 3 rfl e20 [(4, vI a19), (0, .ref (eA E v0)), (1, vI v1), (2, vL v2)] dX12_loads_40 rfl (by decide) rfl (fun ls hl => ?_)
        refine r_goto (np := 3) G dX12_loads_43 (by decide) ?_
        exact ih a19 _ _ _ _ hm hM (lv_sub hl [1, 2, 3, 0] rfl)
set_option maxRecDepth 100000 in
set_option maxHeartbeats 4000000 in
theorem qX12_loads (l : Launch) (E : mE) (σ : mSt) (v0 : Nat) (v1 : Int) (v2 : Int) (out : Int × mSt) (hm : mX12_loads v0 v1 v2 σ = some out) : mMet l yX12_loads cX12_loads 5 none 1 22 E 276 [.ref (eA E v0), vI v1, vL v2] σ none out.2 := by
  unfold mX12_loads at hm
  obtain ⟨g0, hm⟩ := g_t hm
  refine m_entry (by decide +kernel) (Nat.le_of_ble_eq_true rfl) (fun p e s m args below meth c G hr hk hM ls hl => ?_)
  have G : CallFix p m c cX12_loads 5 s args mTs RX12 := G
  have hl : lv_has ls 5 [(0, .ref (eA E v0)), (1, vI v1), (2, vL v2)] := hl
  refine r_iconst (np := 1) G 0 dX12_loads_0 rfl ?_
  refine r_istore (np := 3) G hl rfl [(4, vI 0), (0, .ref (eA E v0)), (1, vI v1), (2, vL v2)] dX12_loads_1 rfl (by decide) rfl (fun ls hl => ?_)
  exact wX12_loads_L3 l E out G hr hk v0 v1 v2 g0 (fun zσ => mX12_loads_B46 v0 v1 v2 zσ) (fun zσ zH zl zs zm zM zv => wX12_loads_B46 l E out G hr hk v0 v1 v2 g0 zσ zH zl zs zm zM zv) mF 0 _ _ _ _ hm hM (lv_sub hl [1, 2, 3, 0] rfl)
theorem gX12_loads {v0 : Nat} {v1 : Int} {v2 : Int} {σ : mSt} {out : Int × mSt} (hm : mX12_loads v0 v1 v2 σ = some out) : isC v0 11 := (g_t hm).1
set_option maxRecDepth 100000 in
set_option maxHeartbeats 4000000 in
theorem qX12_over (l : Launch) (E : mE) (σ : mSt) (v0 : Nat) (v1 : Int) (v2 : Int) (out : Int × mSt) (hm : mX12_over v0 v1 v2 σ = some out) : mMet l yX12_over cX12_over 3 (some .int) 2 54 E 276 [.ref (eA E v0), vI v1, vI v2] σ (some (vI out.1)) out.2 := by
  unfold mX12_over at hm
  obtain ⟨g0, hm⟩ := g_t hm
  refine m_entry (by decide +kernel) (Nat.le_of_ble_eq_true rfl) (fun p e s m args below meth c G hr hk hM ls hl => ?_)
  have G : CallFix p m c cX12_over 3 s args mTs RX12 := G
  have hl : lv_has ls 3 [(0, .ref (eA E v0)), (1, vI v1), (2, vI v2)] := hl
  refine r_aload_n (np := 1) G hl 0 rfl dX12_over_0 rfl rfl ?_
  refine r_iconst (np := 2) G 0 dX12_over_1 rfl ?_
  obtain ⟨s1, e2, hm⟩ := bnd_t hm
  refine r_putI (np := 5) G hM (shp_lt g0 (by decide)) g0 ptX12_0 rfl lkX12_75 s1 e2 dX12_over_2 rfl (fun H locs hM => ?_)
  refine r_aload_n (np := 6) G hl 0 rfl dX12_over_5 rfl rfl ?_
  refine r_iload_n (np := 7) G hl 1 rfl dX12_over_6 rfl rfl ?_
  obtain ⟨b3, s4, e5, hm⟩ := call_t hm
  refine m_callVI (np := 10) G hM hl.1 [vI v1] (qX12_isKept l E s1 v0 v1 _ e5) myX12_isKept (shp_lt (gX12_isKept e5) (by decide)) (gX12_isKept e5) rfl (by decide) lkX12_297 ⟨Nat.le_of_ble_eq_true rfl, Nat.le_of_ble_eq_true rfl⟩ ⟨Nat.le_of_ble_eq_true rfl, Nat.le_of_ble_eq_true rfl⟩ [] rfl (Nat.le_of_ble_eq_true rfl) dX12_over_7 rfl (fun H locs hM => ?_)
  refine r_if_eq (np := 13) (tgt := 25) G rfl dX12_over_10 (by decide) rfl (fun h6 => ?_) (fun h6 => ?_)
  · have hm := b_t h6 hm
    refine r_iconst (np := 26) G (-1) dX12_over_25 rfl ?_
    exact r_iret G hr hk hM hm dX12_over_26
  · have hm := b_f h6 hm
    refine r_iload_n (np := 14) G hl 2 rfl dX12_over_13 rfl rfl ?_
    refine r_i2l (np := 15) G rfl dX12_over_14 rfl ?_
    refine r_lconst (np := 16) G 1 dX12_over_15 rfl rfl ?_
    refine r_ldc2 (np := 19) G 1000 dX12_over_16 lkX12_300 rfl rfl ?_
    obtain ⟨b7, s8, e9, hm⟩ := call_t hm
    refine m_callSI (np := 22) G hM hl.1 [vL (wI v2), vL 1, vL 1000] (qX12_within l E s4 (wI v2) 1 1000 _ e9) myX12_within lkX12_113 ⟨Nat.le_of_ble_eq_true rfl, Nat.le_of_ble_eq_true rfl⟩ ⟨Nat.le_of_ble_eq_true rfl, Nat.le_of_ble_eq_true rfl⟩ [] rfl (Nat.le_of_ble_eq_true rfl) dX12_over_19 rfl (fun H locs hM => ?_)
    refine r_if_ne (np := 25) (tgt := 27) G rfl dX12_over_22 (by decide) rfl (fun h10 => ?_) (fun h10 => ?_)
    · have hm := b_f h10 hm
      refine r_aload_n (np := 28) G hl 0 rfl dX12_over_27 rfl rfl ?_
      refine r_iload_n (np := 29) G hl 1 rfl dX12_over_28 rfl rfl ?_
      refine r_lconst (np := 30) G 1 dX12_over_29 rfl rfl ?_
      obtain ⟨b11, s12, e13, hm⟩ := call_t hm
      refine m_callVV (np := 33) G hM hl.1 [vI v1, vL 1] (qX12_loads l E s8 v0 v1 1 _ e13) myX12_loads (shp_lt (gX12_loads e13) (by decide)) (gX12_loads e13) rfl (by decide) lkX12_302 ⟨Nat.le_of_ble_eq_true rfl, Nat.le_of_ble_eq_true rfl⟩ ⟨Nat.le_of_ble_eq_true rfl, Nat.le_of_ble_eq_true rfl⟩ [] rfl (Nat.le_of_ble_eq_true rfl) dX12_over_30 rfl (fun H locs hM => ?_)
      refine r_aload_n (np := 34) G hl 0 rfl dX12_over_33 rfl rfl ?_
      obtain ⟨r14, e15, hm⟩ := ref_t hm
      refine r_getR (np := 37) G hM (shp_lt g0 (by decide)) g0 e15 fdX12_24 lkX12_42 dX12_over_34 rfl ?_
      refine r_iconst (np := 38) G 4 dX12_over_37 rfl ?_
      refine r_dup2 (np := 39) G dX12_over_38 rfl rfl rfl ?_
      obtain ⟨g16, hm⟩ := g_t hm
      refine r_laload (np := 40) G hM g16 rfl dX12_over_39 rfl ?_
      refine r_iload_n (np := 41) G hl 2 rfl dX12_over_40 rfl rfl ?_
      refine r_i2l (np := 42) G rfl dX12_over_41 rfl ?_
      refine r_lmul (np := 43) G dX12_over_42 rfl ?_
      obtain ⟨s17, e18, hm⟩ := bnd_t hm
      refine r_lastore (np := 44) G hM g16 rfl s17 e18 dX12_over_43 rfl (fun H locs hM => ?_)
      refine r_aload_n (np := 45) G hl 0 rfl dX12_over_44 rfl rfl ?_
      refine r_iload_n (np := 46) G hl 1 rfl dX12_over_45 rfl rfl ?_
      refine r_aload_n (np := 47) G hl 0 rfl dX12_over_46 rfl rfl ?_
      obtain ⟨r19, e20, hm⟩ := ref_t hm
      refine r_getR (np := 50) G hM (shp_lt g0 (by decide)) g0 e20 fdX12_22 lkX12_36 dX12_over_47 rfl ?_
      refine r_iload_n (np := 51) G hl 1 rfl dX12_over_50 rfl rfl ?_
      obtain ⟨g21, hm⟩ := g_t hm
      refine r_iaload (np := 52) G hM g21 rfl dX12_over_51 rfl ?_
      obtain ⟨b22, s23, e24, hm⟩ := call_t hm
      refine m_callVI (np := 55) G hM hl.1 [vI v1, vI (s17 r19 (wI v1).toNat)] (qX12_keeps l E s17 v0 v1 (s17 r19 (wI v1).toNat) _ e24) myX12_keeps (shp_lt (gX12_keeps e24) (by decide)) (gX12_keeps e24) rfl (by decide) lkX12_291 ⟨Nat.le_of_ble_eq_true rfl, Nat.le_of_ble_eq_true rfl⟩ ⟨Nat.le_of_ble_eq_true rfl, Nat.le_of_ble_eq_true rfl⟩ [] rfl (Nat.le_of_ble_eq_true rfl) dX12_over_52 rfl (fun H locs hM => ?_)
      exact r_iret G hr hk hM hm dX12_over_55
    · have hm := b_t h10 hm
      refine r_iconst (np := 26) G (-1) dX12_over_25 rfl ?_
      exact r_iret G hr hk hM hm dX12_over_26
theorem gX12_over {v0 : Nat} {v1 : Int} {v2 : Int} {σ : mSt} {out : Int × mSt} (hm : mX12_over v0 v1 v2 σ = some out) : isC v0 11 := (g_t hm).1
set_option maxRecDepth 100000 in
set_option maxHeartbeats 4000000 in
theorem wX12_element_B26 (l : Launch) (E : mE) (out : Int × mSt) {p : Program} {e : Env} {s : State} {m : MethodId} {args : Array Value} {below : List Frame} {meth : Method} {c : Code} (G : CallFix p m c cX12_element 3 s args mTs RX12) (hr : meth.sig.returnType = (some .int)) (hk : meth.locks = false) (v0 : Nat) (v1 : Int) (v2 : Int) (g0 : isC v0 11) : ∀ (t0 : Nat) (t1 : Int) (σ : mSt) (H : Heap) (locs : List Loc) (ls : Array Slot), mX12_element_B26 v0 v1 v2 t0 t1 σ = some out → mM (mA E 276) E 276 σ s H locs → lv_has ls 3 [(0, .ref (eA E v0)), (1, vI v1), (2, vI v2)] → mGo l p e 2 46 s m args below meth c E (some (vI out.1)) out.2 H locs (F0 m 26 ls [vI t1, .ref (eA E t0)]) := by
  intro t0 t1 σ H locs ls hm hM hl
  unfold mX12_element_B26 at hm
  obtain ⟨g1, hm⟩ := g_t hm
  obtain ⟨s2, e3, hm⟩ := bnd_t hm
  refine r_putI (np := 29) G hM (shp_lt g1 (by decide)) g1 ptX12_0 rfl lkX12_75 s2 e3 dX12_element_26 rfl (fun H locs hM => ?_)
  refine r_aload_n (np := 30) G hl 0 rfl dX12_element_29 rfl rfl ?_
  refine r_getI (np := 33) G hM (shp_lt g0 (by decide)) g0 fdX12_0 lkX12_75 dX12_element_30 rfl ?_
  refine r_iconst (np := 34) G 1 dX12_element_33 rfl ?_
  refine r_icmp_ne (np := 37) (tgt := 39) G rfl (wIk 1 rfl) dX12_element_34 (by decide) rfl (fun h4 => ?_) (fun h4 => ?_)
  · have hm := b_f h4 hm
    refine r_iload_n (np := 40) G hl 2 rfl dX12_element_39 rfl rfl ?_
    refine r_iconst (np := 41) G 5 dX12_element_40 rfl ?_
    refine r_icmp_ne (np := 44) (tgt := 53) G rfl (wIk 5 rfl) dX12_element_41 (by decide) rfl (fun h5 => ?_) (fun h5 => ?_)
    · have hm := b_f h5 hm
      refine r_aload_n (np := 54) G hl 0 rfl dX12_element_53 rfl rfl ?_
      refine r_iload_n (np := 55) G hl 1 rfl dX12_element_54 rfl rfl ?_
      refine r_iload_n (np := 56) G hl 2 rfl dX12_element_55 rfl rfl ?_
      obtain ⟨b6, s7, e8, hm⟩ := call_t hm
      refine m_callVL (np := 59) G hM hl.1 [vI v1, vI v2] (qX12_part l E s2 v0 v1 v2 _ e8) myX12_part (shp_lt (gX12_part e8) (by decide)) (gX12_part e8) rfl (by decide) lkX12_294 ⟨Nat.le_of_ble_eq_true rfl, Nat.le_of_ble_eq_true rfl⟩ ⟨Nat.le_of_ble_eq_true rfl, Nat.le_of_ble_eq_true rfl⟩ [] rfl (Nat.le_of_ble_eq_true rfl) dX12_element_56 rfl (fun H locs hM => ?_)
      refine r_l2i (np := 60) G dX12_element_59 rfl ?_
      exact r_iret G hr hk hM hm dX12_element_60
    · have hm := b_t h5 hm
      refine r_aload_n (np := 45) G hl 0 rfl dX12_element_44 rfl rfl ?_
      obtain ⟨r9, e10, hm⟩ := ref_t hm
      refine r_getR (np := 48) G hM (shp_lt g0 (by decide)) g0 e10 fdX12_22 lkX12_36 dX12_element_45 rfl ?_
      refine r_iload_n (np := 49) G hl 1 rfl dX12_element_48 rfl rfl ?_
      obtain ⟨g11, hm⟩ := g_t hm
      refine r_iaload (np := 50) G hM g11 rfl dX12_element_49 rfl ?_
      refine r_goto (np := 60) G dX12_element_50 (by decide) ?_
      exact r_iret G hr hk hM hm dX12_element_60
  · have hm := b_t h4 hm
    refine r_iconst (np := 38) G 0 dX12_element_37 rfl ?_
    exact r_iret G hr hk hM hm dX12_element_38
set_option maxRecDepth 100000 in
set_option maxHeartbeats 4000000 in
theorem wX12_element_B25 (l : Launch) (E : mE) (out : Int × mSt) {p : Program} {e : Env} {s : State} {m : MethodId} {args : Array Value} {below : List Frame} {meth : Method} {c : Code} (G : CallFix p m c cX12_element 3 s args mTs RX12) (hr : meth.sig.returnType = (some .int)) (hk : meth.locks = false) (v0 : Nat) (v1 : Int) (v2 : Int) (g0 : isC v0 11) : ∀ (t0 : Nat) (σ : mSt) (H : Heap) (locs : List Loc) (ls : Array Slot), mX12_element_B25 v0 v1 v2 t0 σ = some out → mM (mA E 276) E 276 σ s H locs → lv_has ls 3 [(0, .ref (eA E v0)), (1, vI v1), (2, vI v2)] → mGo l p e 2 46 s m args below meth c E (some (vI out.1)) out.2 H locs (F0 m 25 ls [.ref (eA E t0)]) := by
  intro t0 σ H locs ls hm hM hl
  unfold mX12_element_B25 at hm
  refine r_iconst (np := 26) G 1 dX12_element_25 rfl ?_
  exact wX12_element_B26 l E out G hr hk v0 v1 v2 g0 t0 1 _ _ _ _ hm hM (lv_sub hl [0, 1, 2] rfl)
set_option maxRecDepth 100000 in
set_option maxHeartbeats 4000000 in
theorem qX12_element (l : Launch) (E : mE) (σ : mSt) (v0 : Nat) (v1 : Int) (v2 : Int) (out : Int × mSt) (hm : mX12_element v0 v1 v2 σ = some out) : mMet l yX12_element cX12_element 3 (some .int) 2 46 E 276 [.ref (eA E v0), vI v1, vI v2] σ (some (vI out.1)) out.2 := by
  unfold mX12_element at hm
  obtain ⟨g0, hm⟩ := g_t hm
  refine m_entry (by decide +kernel) (Nat.le_of_ble_eq_true rfl) (fun p e s m args below meth c G hr hk hM ls hl => ?_)
  have G : CallFix p m c cX12_element 3 s args mTs RX12 := G
  have hl : lv_has ls 3 [(0, .ref (eA E v0)), (1, vI v1), (2, vI v2)] := hl
  refine r_aload_n (np := 1) G hl 0 rfl dX12_element_0 rfl rfl ?_
  refine r_aload_n (np := 2) G hl 0 rfl dX12_element_1 rfl rfl ?_
  refine r_iload_n (np := 3) G hl 1 rfl dX12_element_2 rfl rfl ?_
  obtain ⟨b12, s13, e14, hm⟩ := call_t hm
  refine m_callVI (np := 6) G hM hl.1 [vI v1] (qX12_isKept l E σ v0 v1 _ e14) myX12_isKept (shp_lt (gX12_isKept e14) (by decide)) (gX12_isKept e14) rfl (by decide) lkX12_297 ⟨Nat.le_of_ble_eq_true rfl, Nat.le_of_ble_eq_true rfl⟩ ⟨Nat.le_of_ble_eq_true rfl, Nat.le_of_ble_eq_true rfl⟩ [.ref (eA E v0)] rfl (Nat.le_of_ble_eq_true rfl) dX12_element_3 rfl (fun H locs hM => ?_)
  refine r_if_eq (np := 9) (tgt := 25) G rfl dX12_element_6 (by decide) rfl (fun h15 => ?_) (fun h15 => ?_)
  · have hm := b_t h15 hm
    exact wX12_element_B25 l E out G hr hk v0 v1 v2 g0 v0 _ _ _ _ hm hM (lv_sub hl [0, 1, 2] rfl)
  · have hm := b_f h15 hm
    refine r_iload_n (np := 10) G hl 2 rfl dX12_element_9 rfl rfl ?_
    refine r_i2l (np := 11) G rfl dX12_element_10 rfl ?_
    refine r_lconst (np := 12) G 0 dX12_element_11 rfl rfl ?_
    refine r_ldc2 (np := 15) G 5 dX12_element_12 lkX12_306 rfl rfl ?_
    obtain ⟨b16, s17, e18, hm⟩ := call_t hm
    refine m_callSI (np := 18) G hM hl.1 [vL (wI v2), vL 0, vL 5] (qX12_within l E s13 (wI v2) 0 5 _ e18) myX12_within lkX12_113 ⟨Nat.le_of_ble_eq_true rfl, Nat.le_of_ble_eq_true rfl⟩ ⟨Nat.le_of_ble_eq_true rfl, Nat.le_of_ble_eq_true rfl⟩ [.ref (eA E v0)] rfl (Nat.le_of_ble_eq_true rfl) dX12_element_15 rfl (fun H locs hM => ?_)
    refine r_if_eq (np := 21) (tgt := 25) G rfl dX12_element_18 (by decide) rfl (fun h19 => ?_) (fun h19 => ?_)
    · have hm := b_t h19 hm
      exact wX12_element_B25 l E out G hr hk v0 v1 v2 g0 v0 _ _ _ _ hm hM (lv_sub hl [0, 1, 2] rfl)
    · have hm := b_f h19 hm
      refine r_iconst (np := 22) G 0 dX12_element_21 rfl ?_
      refine r_goto (np := 26) G dX12_element_22 (by decide) ?_
      exact wX12_element_B26 l E out G hr hk v0 v1 v2 g0 v0 0 _ _ _ _ hm hM (lv_sub hl [0, 1, 2] rfl)
theorem gX12_element {v0 : Nat} {v1 : Int} {v2 : Int} {σ : mSt} {out : Int × mSt} (hm : mX12_element v0 v1 v2 σ = some out) : isC v0 11 := (g_t hm).1
set_option maxRecDepth 100000 in
set_option maxHeartbeats 4000000 in
theorem wX12_areBeside_B47 (l : Launch) (E : mE) (out : Int × mSt) {p : Program} {e : Env} {s : State} {m : MethodId} {args : Array Value} {below : List Frame} {meth : Method} {c : Code} (G : CallFix p m c cX12_areBeside 4 s args mTs RX12) (hr : meth.sig.returnType = (some .boolean)) (hk : meth.locks = false) (v0 : Nat) (v1 : Int) (v2 : Int) (v3 : Int) (g0 : isC v0 11) : ∀ (σ : mSt) (H : Heap) (locs : List Loc) (ls : Array Slot), mX12_areBeside_B47 v0 v1 v2 v3 σ = some out → mM (mA E 276) E 276 σ s H locs → lv_has ls 4 [] → mGo l p e 2 46 s m args below meth c E (some (vI out.1)) out.2 H locs (F0 m 47 ls []) := by
  intro σ H locs ls hm hM hl
  unfold mX12_areBeside_B47 at hm
  refine r_iconst (np := 48) G 0 dX12_areBeside_47 rfl ?_
  exact r_zret G hr hk hM (Or.inl rfl) hm dX12_areBeside_48
set_option maxRecDepth 100000 in
set_option maxHeartbeats 4000000 in
theorem qX12_areBeside (l : Launch) (E : mE) (σ : mSt) (v0 : Nat) (v1 : Int) (v2 : Int) (v3 : Int) (out : Int × mSt) (hm : mX12_areBeside v0 v1 v2 v3 σ = some out) : mMet l yX12_areBeside cX12_areBeside 4 (some .boolean) 2 46 E 276 [.ref (eA E v0), vI v1, vI v2, vI v3] σ (some (vI out.1)) out.2 := by
  unfold mX12_areBeside at hm
  obtain ⟨g0, hm⟩ := g_t hm
  refine m_entry (by decide +kernel) (Nat.le_of_ble_eq_true rfl) (fun p e s m args below meth c G hr hk hM ls hl => ?_)
  have G : CallFix p m c cX12_areBeside 4 s args mTs RX12 := G
  have hl : lv_has ls 4 [(0, .ref (eA E v0)), (1, vI v1), (2, vI v2), (3, vI v3)] := hl
  refine r_aload_n (np := 1) G hl 0 rfl dX12_areBeside_0 rfl rfl ?_
  refine r_iload_n (np := 2) G hl 1 rfl dX12_areBeside_1 rfl rfl ?_
  obtain ⟨b1, s2, e3, hm⟩ := call_t hm
  refine m_callVI (np := 5) G hM hl.1 [vI v1] (qX12_isKept l E σ v0 v1 _ e3) myX12_isKept (shp_lt (gX12_isKept e3) (by decide)) (gX12_isKept e3) rfl (by decide) lkX12_297 ⟨Nat.le_of_ble_eq_true rfl, Nat.le_of_ble_eq_true rfl⟩ ⟨Nat.le_of_ble_eq_true rfl, Nat.le_of_ble_eq_true rfl⟩ [] rfl (Nat.le_of_ble_eq_true rfl) dX12_areBeside_2 rfl (fun H locs hM => ?_)
  refine r_if_eq (np := 8) (tgt := 47) G rfl dX12_areBeside_5 (by decide) rfl (fun h4 => ?_) (fun h4 => ?_)
  · have hm := b_t h4 hm
    exact wX12_areBeside_B47 l E out G hr hk v0 v1 v2 v3 g0 _ _ _ _ hm hM (lv_sub hl [] rfl)
  · have hm := b_f h4 hm
    refine r_aload_n (np := 9) G hl 0 rfl dX12_areBeside_8 rfl rfl ?_
    refine r_iload_n (np := 10) G hl 2 rfl dX12_areBeside_9 rfl rfl ?_
    obtain ⟨b5, s6, e7, hm⟩ := call_t hm
    refine m_callVI (np := 13) G hM hl.1 [vI v2] (qX12_isKept l E s2 v0 v2 _ e7) myX12_isKept (shp_lt (gX12_isKept e7) (by decide)) (gX12_isKept e7) rfl (by decide) lkX12_297 ⟨Nat.le_of_ble_eq_true rfl, Nat.le_of_ble_eq_true rfl⟩ ⟨Nat.le_of_ble_eq_true rfl, Nat.le_of_ble_eq_true rfl⟩ [] rfl (Nat.le_of_ble_eq_true rfl) dX12_areBeside_10 rfl (fun H locs hM => ?_)
    refine r_if_eq (np := 16) (tgt := 47) G rfl dX12_areBeside_13 (by decide) rfl (fun h8 => ?_) (fun h8 => ?_)
    · have hm := b_t h8 hm
      exact wX12_areBeside_B47 l E out G hr hk v0 v1 v2 v3 g0 _ _ _ _ hm hM (lv_sub hl [] rfl)
    · have hm := b_f h8 hm
      refine r_aload_n (np := 17) G hl 0 rfl dX12_areBeside_16 rfl rfl ?_
      obtain ⟨r9, e10, hm⟩ := ref_t hm
      refine r_getR (np := 20) G hM (shp_lt g0 (by decide)) g0 e10 fdX12_22 lkX12_36 dX12_areBeside_17 rfl ?_
      refine r_iload_n (np := 21) G hl 1 rfl dX12_areBeside_20 rfl rfl ?_
      obtain ⟨g11, hm⟩ := g_t hm
      refine r_iaload (np := 22) G hM g11 rfl dX12_areBeside_21 rfl ?_
      refine r_aload_n (np := 23) G hl 0 rfl dX12_areBeside_22 rfl rfl ?_
      obtain ⟨r12, e13, hm⟩ := ref_t hm
      refine r_getR (np := 26) G hM (shp_lt g0 (by decide)) g0 e13 fdX12_22 lkX12_36 dX12_areBeside_23 rfl ?_
      refine r_iload_n (np := 27) G hl 2 rfl dX12_areBeside_26 rfl rfl ?_
      obtain ⟨g14, hm⟩ := g_t hm
      refine r_iaload (np := 28) G hM g14 rfl dX12_areBeside_27 rfl ?_
      refine r_icmp_ne (np := 31) (tgt := 47) G rfl rfl dX12_areBeside_28 (by decide) rfl (fun h15 => ?_) (fun h15 => ?_)
      · have hm := b_f h15 hm
        exact wX12_areBeside_B47 l E out G hr hk v0 v1 v2 v3 g0 _ _ _ _ hm hM (lv_sub hl [] rfl)
      · have hm := b_t h15 hm
        refine r_iload_n (np := 32) G hl 3 rfl dX12_areBeside_31 rfl rfl ?_
        refine r_i2l (np := 33) G rfl dX12_areBeside_32 rfl ?_
        refine r_lconst (np := 34) G 0 dX12_areBeside_33 rfl rfl ?_
        refine r_ldc2 (np := 37) G 7 dX12_areBeside_34 lkX12_278 rfl rfl ?_
        obtain ⟨b16, s17, e18, hm⟩ := call_t hm
        refine m_callSI (np := 40) G hM hl.1 [vL (wI v3), vL 0, vL 7] (qX12_within l E s6 (wI v3) 0 7 _ e18) myX12_within lkX12_113 ⟨Nat.le_of_ble_eq_true rfl, Nat.le_of_ble_eq_true rfl⟩ ⟨Nat.le_of_ble_eq_true rfl, Nat.le_of_ble_eq_true rfl⟩ [] rfl (Nat.le_of_ble_eq_true rfl) dX12_areBeside_37 rfl (fun H locs hM => ?_)
        refine r_if_eq (np := 43) (tgt := 47) G rfl dX12_areBeside_40 (by decide) rfl (fun h19 => ?_) (fun h19 => ?_)
        · have hm := b_t h19 hm
          exact wX12_areBeside_B47 l E out G hr hk v0 v1 v2 v3 g0 _ _ _ _ hm hM (lv_sub hl [] rfl)
        · have hm := b_f h19 hm
          refine r_iconst (np := 44) G 1 dX12_areBeside_43 rfl ?_
          refine r_goto (np := 48) G dX12_areBeside_44 (by decide) ?_
          exact r_zret G hr hk hM (Or.inr rfl) hm dX12_areBeside_48
theorem gX12_areBeside {v0 : Nat} {v1 : Int} {v2 : Int} {v3 : Int} {σ : mSt} {out : Int × mSt} (hm : mX12_areBeside v0 v1 v2 v3 σ = some out) : isC v0 11 := (g_t hm).1
set_option maxRecDepth 100000 in
set_option maxHeartbeats 4000000 in
theorem qX12_multiplies (l : Launch) (E : mE) (σ : mSt) (v0 : Nat) (v1 : Int) (v3 : Int) (out : Int × mSt) (hm : mX12_multiplies v0 v1 v3 σ = some out) : mMet l yX12_multiplies cX12_multiplies 5 none 0 0 E 276 [.ref (eA E v0), vL v1, vL v3] σ none out.2 := by
  unfold mX12_multiplies at hm
  obtain ⟨g0, hm⟩ := g_t hm
  refine m_entry (by decide +kernel) (Nat.le_of_ble_eq_true rfl) (fun p e s m args below meth c G hr hk hM ls hl => ?_)
  have G : CallFix p m c cX12_multiplies 5 s args mTs RX12 := G
  have hl : lv_has ls 5 [(0, .ref (eA E v0)), (1, vL v1), (3, vL v3)] := hl
  refine r_aload_n (np := 1) G hl 0 rfl dX12_multiplies_0 rfl rfl ?_
  obtain ⟨r1, e2, hm⟩ := ref_t hm
  refine r_getR (np := 4) G hM (shp_lt g0 (by decide)) g0 e2 fdX12_27 lkX12_51 dX12_multiplies_1 rfl ?_
  refine r_iconst (np := 5) G 0 dX12_multiplies_4 rfl ?_
  refine r_aload_n (np := 6) G hl 0 rfl dX12_multiplies_5 rfl rfl ?_
  obtain ⟨r3, e4, hm⟩ := ref_t hm
  refine r_getR (np := 9) G hM (shp_lt g0 (by decide)) g0 e4 fdX12_25 lkX12_45 dX12_multiplies_6 rfl ?_
  refine r_iconst (np := 10) G 0 dX12_multiplies_9 rfl ?_
  obtain ⟨g5, hm⟩ := g_t hm
  refine r_laload (np := 11) G hM g5 rfl dX12_multiplies_10 rfl ?_
  refine r_aload_n (np := 12) G hl 0 rfl dX12_multiplies_11 rfl rfl ?_
  obtain ⟨r6, e7, hm⟩ := ref_t hm
  refine r_getR (np := 15) G hM (shp_lt g0 (by decide)) g0 e7 fdX12_26 lkX12_48 dX12_multiplies_12 rfl ?_
  refine r_iconst (np := 16) G 0 dX12_multiplies_15 rfl ?_
  obtain ⟨g8, hm⟩ := g_t hm
  refine r_laload (np := 17) G hM g8 rfl dX12_multiplies_16 rfl ?_
  refine r_lmul (np := 18) G dX12_multiplies_17 rfl ?_
  refine r_lload_n (np := 19) G hl 1 rfl dX12_multiplies_18 rfl rfl ?_
  refine r_aload_n (np := 20) G hl 0 rfl dX12_multiplies_19 rfl rfl ?_
  obtain ⟨r9, e10, hm⟩ := ref_t hm
  refine r_getR (np := 23) G hM (shp_lt g0 (by decide)) g0 e10 fdX12_25 lkX12_45 dX12_multiplies_20 rfl ?_
  refine r_iconst (np := 24) G 1 dX12_multiplies_23 rfl ?_
  obtain ⟨g11, hm⟩ := g_t hm
  refine r_laload (np := 25) G hM g11 rfl dX12_multiplies_24 rfl ?_
  refine r_lmul (np := 26) G dX12_multiplies_25 rfl ?_
  refine r_aload_n (np := 27) G hl 0 rfl dX12_multiplies_26 rfl rfl ?_
  obtain ⟨r12, e13, hm⟩ := ref_t hm
  refine r_getR (np := 30) G hM (shp_lt g0 (by decide)) g0 e13 fdX12_26 lkX12_48 dX12_multiplies_27 rfl ?_
  refine r_iconst (np := 31) G 1 dX12_multiplies_30 rfl ?_
  obtain ⟨g14, hm⟩ := g_t hm
  refine r_laload (np := 32) G hM g14 rfl dX12_multiplies_31 rfl ?_
  refine r_lmul (np := 33) G dX12_multiplies_32 rfl ?_
  refine r_ladd (np := 34) G dX12_multiplies_33 rfl ?_
  refine r_lload_n (np := 35) G hl 2 rfl dX12_multiplies_34 rfl rfl ?_
  refine r_aload_n (np := 36) G hl 0 rfl dX12_multiplies_35 rfl rfl ?_
  obtain ⟨r15, e16, hm⟩ := ref_t hm
  refine r_getR (np := 39) G hM (shp_lt g0 (by decide)) g0 e16 fdX12_25 lkX12_45 dX12_multiplies_36 rfl ?_
  refine r_iconst (np := 40) G 2 dX12_multiplies_39 rfl ?_
  obtain ⟨g17, hm⟩ := g_t hm
  refine r_laload (np := 41) G hM g17 rfl dX12_multiplies_40 rfl ?_
  refine r_lmul (np := 42) G dX12_multiplies_41 rfl ?_
  refine r_aload_n (np := 43) G hl 0 rfl dX12_multiplies_42 rfl rfl ?_
  obtain ⟨r18, e19, hm⟩ := ref_t hm
  refine r_getR (np := 46) G hM (shp_lt g0 (by decide)) g0 e19 fdX12_26 lkX12_48 dX12_multiplies_43 rfl ?_
  refine r_iconst (np := 47) G 2 dX12_multiplies_46 rfl ?_
  obtain ⟨g20, hm⟩ := g_t hm
  refine r_laload (np := 48) G hM g20 rfl dX12_multiplies_47 rfl ?_
  refine r_lmul (np := 49) G dX12_multiplies_48 rfl ?_
  refine r_ladd (np := 50) G dX12_multiplies_49 rfl ?_
  refine r_lload_n (np := 51) G hl 1 rfl dX12_multiplies_50 rfl rfl ?_
  refine r_lload_n (np := 52) G hl 2 rfl dX12_multiplies_51 rfl rfl ?_
  refine r_lmul (np := 53) G dX12_multiplies_52 rfl ?_
  refine r_aload_n (np := 54) G hl 0 rfl dX12_multiplies_53 rfl rfl ?_
  obtain ⟨r21, e22, hm⟩ := ref_t hm
  refine r_getR (np := 57) G hM (shp_lt g0 (by decide)) g0 e22 fdX12_25 lkX12_45 dX12_multiplies_54 rfl ?_
  refine r_iconst (np := 58) G 3 dX12_multiplies_57 rfl ?_
  obtain ⟨g23, hm⟩ := g_t hm
  refine r_laload (np := 59) G hM g23 rfl dX12_multiplies_58 rfl ?_
  refine r_lmul (np := 60) G dX12_multiplies_59 rfl ?_
  refine r_aload_n (np := 61) G hl 0 rfl dX12_multiplies_60 rfl rfl ?_
  obtain ⟨r24, e25, hm⟩ := ref_t hm
  refine r_getR (np := 64) G hM (shp_lt g0 (by decide)) g0 e25 fdX12_26 lkX12_48 dX12_multiplies_61 rfl ?_
  refine r_iconst (np := 65) G 3 dX12_multiplies_64 rfl ?_
  obtain ⟨g26, hm⟩ := g_t hm
  refine r_laload (np := 66) G hM g26 rfl dX12_multiplies_65 rfl ?_
  refine r_lmul (np := 67) G dX12_multiplies_66 rfl ?_
  refine r_lsub (np := 68) G dX12_multiplies_67 rfl ?_
  obtain ⟨g27, hm⟩ := g_t hm
  obtain ⟨s28, e29, hm⟩ := bnd_t hm
  refine r_lastore (np := 69) G hM g27 rfl s28 e29 dX12_multiplies_68 rfl (fun H locs hM => ?_)
  refine r_aload_n (np := 70) G hl 0 rfl dX12_multiplies_69 rfl rfl ?_
  obtain ⟨r30, e31, hm⟩ := ref_t hm
  refine r_getR (np := 73) G hM (shp_lt g0 (by decide)) g0 e31 fdX12_27 lkX12_51 dX12_multiplies_70 rfl ?_
  refine r_iconst (np := 74) G 1 dX12_multiplies_73 rfl ?_
  refine r_aload_n (np := 75) G hl 0 rfl dX12_multiplies_74 rfl rfl ?_
  obtain ⟨r32, e33, hm⟩ := ref_t hm
  refine r_getR (np := 78) G hM (shp_lt g0 (by decide)) g0 e33 fdX12_25 lkX12_45 dX12_multiplies_75 rfl ?_
  refine r_iconst (np := 79) G 0 dX12_multiplies_78 rfl ?_
  obtain ⟨g34, hm⟩ := g_t hm
  refine r_laload (np := 80) G hM g34 rfl dX12_multiplies_79 rfl ?_
  refine r_aload_n (np := 81) G hl 0 rfl dX12_multiplies_80 rfl rfl ?_
  obtain ⟨r35, e36, hm⟩ := ref_t hm
  refine r_getR (np := 84) G hM (shp_lt g0 (by decide)) g0 e36 fdX12_26 lkX12_48 dX12_multiplies_81 rfl ?_
  refine r_iconst (np := 85) G 1 dX12_multiplies_84 rfl ?_
  obtain ⟨g37, hm⟩ := g_t hm
  refine r_laload (np := 86) G hM g37 rfl dX12_multiplies_85 rfl ?_
  refine r_lmul (np := 87) G dX12_multiplies_86 rfl ?_
  refine r_aload_n (np := 88) G hl 0 rfl dX12_multiplies_87 rfl rfl ?_
  obtain ⟨r38, e39, hm⟩ := ref_t hm
  refine r_getR (np := 91) G hM (shp_lt g0 (by decide)) g0 e39 fdX12_25 lkX12_45 dX12_multiplies_88 rfl ?_
  refine r_iconst (np := 92) G 1 dX12_multiplies_91 rfl ?_
  obtain ⟨g40, hm⟩ := g_t hm
  refine r_laload (np := 93) G hM g40 rfl dX12_multiplies_92 rfl ?_
  refine r_aload_n (np := 94) G hl 0 rfl dX12_multiplies_93 rfl rfl ?_
  obtain ⟨r41, e42, hm⟩ := ref_t hm
  refine r_getR (np := 97) G hM (shp_lt g0 (by decide)) g0 e42 fdX12_26 lkX12_48 dX12_multiplies_94 rfl ?_
  refine r_iconst (np := 98) G 0 dX12_multiplies_97 rfl ?_
  obtain ⟨g43, hm⟩ := g_t hm
  refine r_laload (np := 99) G hM g43 rfl dX12_multiplies_98 rfl ?_
  refine r_lmul (np := 100) G dX12_multiplies_99 rfl ?_
  refine r_ladd (np := 101) G dX12_multiplies_100 rfl ?_
  refine r_lload_n (np := 102) G hl 2 rfl dX12_multiplies_101 rfl rfl ?_
  refine r_aload_n (np := 103) G hl 0 rfl dX12_multiplies_102 rfl rfl ?_
  obtain ⟨r44, e45, hm⟩ := ref_t hm
  refine r_getR (np := 106) G hM (shp_lt g0 (by decide)) g0 e45 fdX12_25 lkX12_45 dX12_multiplies_103 rfl ?_
  refine r_iconst (np := 107) G 2 dX12_multiplies_106 rfl ?_
  obtain ⟨g46, hm⟩ := g_t hm
  refine r_laload (np := 108) G hM g46 rfl dX12_multiplies_107 rfl ?_
  refine r_lmul (np := 109) G dX12_multiplies_108 rfl ?_
  refine r_aload_n (np := 110) G hl 0 rfl dX12_multiplies_109 rfl rfl ?_
  obtain ⟨r47, e48, hm⟩ := ref_t hm
  refine r_getR (np := 113) G hM (shp_lt g0 (by decide)) g0 e48 fdX12_26 lkX12_48 dX12_multiplies_110 rfl ?_
  refine r_iconst (np := 114) G 3 dX12_multiplies_113 rfl ?_
  obtain ⟨g49, hm⟩ := g_t hm
  refine r_laload (np := 115) G hM g49 rfl dX12_multiplies_114 rfl ?_
  refine r_lmul (np := 116) G dX12_multiplies_115 rfl ?_
  refine r_lsub (np := 117) G dX12_multiplies_116 rfl ?_
  refine r_lload_n (np := 118) G hl 2 rfl dX12_multiplies_117 rfl rfl ?_
  refine r_aload_n (np := 119) G hl 0 rfl dX12_multiplies_118 rfl rfl ?_
  obtain ⟨r50, e51, hm⟩ := ref_t hm
  refine r_getR (np := 122) G hM (shp_lt g0 (by decide)) g0 e51 fdX12_25 lkX12_45 dX12_multiplies_119 rfl ?_
  refine r_iconst (np := 123) G 3 dX12_multiplies_122 rfl ?_
  obtain ⟨g52, hm⟩ := g_t hm
  refine r_laload (np := 124) G hM g52 rfl dX12_multiplies_123 rfl ?_
  refine r_lmul (np := 125) G dX12_multiplies_124 rfl ?_
  refine r_aload_n (np := 126) G hl 0 rfl dX12_multiplies_125 rfl rfl ?_
  obtain ⟨r53, e54, hm⟩ := ref_t hm
  refine r_getR (np := 129) G hM (shp_lt g0 (by decide)) g0 e54 fdX12_26 lkX12_48 dX12_multiplies_126 rfl ?_
  refine r_iconst (np := 130) G 2 dX12_multiplies_129 rfl ?_
  obtain ⟨g55, hm⟩ := g_t hm
  refine r_laload (np := 131) G hM g55 rfl dX12_multiplies_130 rfl ?_
  refine r_lmul (np := 132) G dX12_multiplies_131 rfl ?_
  refine r_ladd (np := 133) G dX12_multiplies_132 rfl ?_
  obtain ⟨g56, hm⟩ := g_t hm
  obtain ⟨s57, e58, hm⟩ := bnd_t hm
  refine r_lastore (np := 134) G hM g56 rfl s57 e58 dX12_multiplies_133 rfl (fun H locs hM => ?_)
  refine r_aload_n (np := 135) G hl 0 rfl dX12_multiplies_134 rfl rfl ?_
  obtain ⟨r59, e60, hm⟩ := ref_t hm
  refine r_getR (np := 138) G hM (shp_lt g0 (by decide)) g0 e60 fdX12_27 lkX12_51 dX12_multiplies_135 rfl ?_
  refine r_iconst (np := 139) G 2 dX12_multiplies_138 rfl ?_
  refine r_aload_n (np := 140) G hl 0 rfl dX12_multiplies_139 rfl rfl ?_
  obtain ⟨r61, e62, hm⟩ := ref_t hm
  refine r_getR (np := 143) G hM (shp_lt g0 (by decide)) g0 e62 fdX12_25 lkX12_45 dX12_multiplies_140 rfl ?_
  refine r_iconst (np := 144) G 0 dX12_multiplies_143 rfl ?_
  obtain ⟨g63, hm⟩ := g_t hm
  refine r_laload (np := 145) G hM g63 rfl dX12_multiplies_144 rfl ?_
  refine r_aload_n (np := 146) G hl 0 rfl dX12_multiplies_145 rfl rfl ?_
  obtain ⟨r64, e65, hm⟩ := ref_t hm
  refine r_getR (np := 149) G hM (shp_lt g0 (by decide)) g0 e65 fdX12_26 lkX12_48 dX12_multiplies_146 rfl ?_
  refine r_iconst (np := 150) G 2 dX12_multiplies_149 rfl ?_
  obtain ⟨g66, hm⟩ := g_t hm
  refine r_laload (np := 151) G hM g66 rfl dX12_multiplies_150 rfl ?_
  refine r_lmul (np := 152) G dX12_multiplies_151 rfl ?_
  refine r_aload_n (np := 153) G hl 0 rfl dX12_multiplies_152 rfl rfl ?_
  obtain ⟨r67, e68, hm⟩ := ref_t hm
  refine r_getR (np := 156) G hM (shp_lt g0 (by decide)) g0 e68 fdX12_25 lkX12_45 dX12_multiplies_153 rfl ?_
  refine r_iconst (np := 157) G 2 dX12_multiplies_156 rfl ?_
  obtain ⟨g69, hm⟩ := g_t hm
  refine r_laload (np := 158) G hM g69 rfl dX12_multiplies_157 rfl ?_
  refine r_aload_n (np := 159) G hl 0 rfl dX12_multiplies_158 rfl rfl ?_
  obtain ⟨r70, e71, hm⟩ := ref_t hm
  refine r_getR (np := 162) G hM (shp_lt g0 (by decide)) g0 e71 fdX12_26 lkX12_48 dX12_multiplies_159 rfl ?_
  refine r_iconst (np := 163) G 0 dX12_multiplies_162 rfl ?_
  obtain ⟨g72, hm⟩ := g_t hm
  refine r_laload (np := 164) G hM g72 rfl dX12_multiplies_163 rfl ?_
  refine r_lmul (np := 165) G dX12_multiplies_164 rfl ?_
  refine r_ladd (np := 166) G dX12_multiplies_165 rfl ?_
  refine r_lload_n (np := 167) G hl 1 rfl dX12_multiplies_166 rfl rfl ?_
  refine r_aload_n (np := 168) G hl 0 rfl dX12_multiplies_167 rfl rfl ?_
  obtain ⟨r73, e74, hm⟩ := ref_t hm
  refine r_getR (np := 171) G hM (shp_lt g0 (by decide)) g0 e74 fdX12_25 lkX12_45 dX12_multiplies_168 rfl ?_
  refine r_iconst (np := 172) G 1 dX12_multiplies_171 rfl ?_
  obtain ⟨g75, hm⟩ := g_t hm
  refine r_laload (np := 173) G hM g75 rfl dX12_multiplies_172 rfl ?_
  refine r_lmul (np := 174) G dX12_multiplies_173 rfl ?_
  refine r_aload_n (np := 175) G hl 0 rfl dX12_multiplies_174 rfl rfl ?_
  obtain ⟨r76, e77, hm⟩ := ref_t hm
  refine r_getR (np := 178) G hM (shp_lt g0 (by decide)) g0 e77 fdX12_26 lkX12_48 dX12_multiplies_175 rfl ?_
  refine r_iconst (np := 179) G 3 dX12_multiplies_178 rfl ?_
  obtain ⟨g78, hm⟩ := g_t hm
  refine r_laload (np := 180) G hM g78 rfl dX12_multiplies_179 rfl ?_
  refine r_lmul (np := 181) G dX12_multiplies_180 rfl ?_
  refine r_ladd (np := 182) G dX12_multiplies_181 rfl ?_
  refine r_lload_n (np := 183) G hl 1 rfl dX12_multiplies_182 rfl rfl ?_
  refine r_aload_n (np := 184) G hl 0 rfl dX12_multiplies_183 rfl rfl ?_
  obtain ⟨r79, e80, hm⟩ := ref_t hm
  refine r_getR (np := 187) G hM (shp_lt g0 (by decide)) g0 e80 fdX12_25 lkX12_45 dX12_multiplies_184 rfl ?_
  refine r_iconst (np := 188) G 3 dX12_multiplies_187 rfl ?_
  obtain ⟨g81, hm⟩ := g_t hm
  refine r_laload (np := 189) G hM g81 rfl dX12_multiplies_188 rfl ?_
  refine r_lmul (np := 190) G dX12_multiplies_189 rfl ?_
  refine r_aload_n (np := 191) G hl 0 rfl dX12_multiplies_190 rfl rfl ?_
  obtain ⟨r82, e83, hm⟩ := ref_t hm
  refine r_getR (np := 194) G hM (shp_lt g0 (by decide)) g0 e83 fdX12_26 lkX12_48 dX12_multiplies_191 rfl ?_
  refine r_iconst (np := 195) G 1 dX12_multiplies_194 rfl ?_
  obtain ⟨g84, hm⟩ := g_t hm
  refine r_laload (np := 196) G hM g84 rfl dX12_multiplies_195 rfl ?_
  refine r_lmul (np := 197) G dX12_multiplies_196 rfl ?_
  refine r_lsub (np := 198) G dX12_multiplies_197 rfl ?_
  obtain ⟨g85, hm⟩ := g_t hm
  obtain ⟨s86, e87, hm⟩ := bnd_t hm
  refine r_lastore (np := 199) G hM g85 rfl s86 e87 dX12_multiplies_198 rfl (fun H locs hM => ?_)
  refine r_aload_n (np := 200) G hl 0 rfl dX12_multiplies_199 rfl rfl ?_
  obtain ⟨r88, e89, hm⟩ := ref_t hm
  refine r_getR (np := 203) G hM (shp_lt g0 (by decide)) g0 e89 fdX12_27 lkX12_51 dX12_multiplies_200 rfl ?_
  refine r_iconst (np := 204) G 3 dX12_multiplies_203 rfl ?_
  refine r_aload_n (np := 205) G hl 0 rfl dX12_multiplies_204 rfl rfl ?_
  obtain ⟨r90, e91, hm⟩ := ref_t hm
  refine r_getR (np := 208) G hM (shp_lt g0 (by decide)) g0 e91 fdX12_25 lkX12_45 dX12_multiplies_205 rfl ?_
  refine r_iconst (np := 209) G 0 dX12_multiplies_208 rfl ?_
  obtain ⟨g92, hm⟩ := g_t hm
  refine r_laload (np := 210) G hM g92 rfl dX12_multiplies_209 rfl ?_
  refine r_aload_n (np := 211) G hl 0 rfl dX12_multiplies_210 rfl rfl ?_
  obtain ⟨r93, e94, hm⟩ := ref_t hm
  refine r_getR (np := 214) G hM (shp_lt g0 (by decide)) g0 e94 fdX12_26 lkX12_48 dX12_multiplies_211 rfl ?_
  refine r_iconst (np := 215) G 3 dX12_multiplies_214 rfl ?_
  obtain ⟨g95, hm⟩ := g_t hm
  refine r_laload (np := 216) G hM g95 rfl dX12_multiplies_215 rfl ?_
  refine r_lmul (np := 217) G dX12_multiplies_216 rfl ?_
  refine r_aload_n (np := 218) G hl 0 rfl dX12_multiplies_217 rfl rfl ?_
  obtain ⟨r96, e97, hm⟩ := ref_t hm
  refine r_getR (np := 221) G hM (shp_lt g0 (by decide)) g0 e97 fdX12_25 lkX12_45 dX12_multiplies_218 rfl ?_
  refine r_iconst (np := 222) G 3 dX12_multiplies_221 rfl ?_
  obtain ⟨g98, hm⟩ := g_t hm
  refine r_laload (np := 223) G hM g98 rfl dX12_multiplies_222 rfl ?_
  refine r_aload_n (np := 224) G hl 0 rfl dX12_multiplies_223 rfl rfl ?_
  obtain ⟨r99, e100, hm⟩ := ref_t hm
  refine r_getR (np := 227) G hM (shp_lt g0 (by decide)) g0 e100 fdX12_26 lkX12_48 dX12_multiplies_224 rfl ?_
  refine r_iconst (np := 228) G 0 dX12_multiplies_227 rfl ?_
  obtain ⟨g101, hm⟩ := g_t hm
  refine r_laload (np := 229) G hM g101 rfl dX12_multiplies_228 rfl ?_
  refine r_lmul (np := 230) G dX12_multiplies_229 rfl ?_
  refine r_ladd (np := 231) G dX12_multiplies_230 rfl ?_
  refine r_aload_n (np := 232) G hl 0 rfl dX12_multiplies_231 rfl rfl ?_
  obtain ⟨r102, e103, hm⟩ := ref_t hm
  refine r_getR (np := 235) G hM (shp_lt g0 (by decide)) g0 e103 fdX12_25 lkX12_45 dX12_multiplies_232 rfl ?_
  refine r_iconst (np := 236) G 1 dX12_multiplies_235 rfl ?_
  obtain ⟨g104, hm⟩ := g_t hm
  refine r_laload (np := 237) G hM g104 rfl dX12_multiplies_236 rfl ?_
  refine r_aload_n (np := 238) G hl 0 rfl dX12_multiplies_237 rfl rfl ?_
  obtain ⟨r105, e106, hm⟩ := ref_t hm
  refine r_getR (np := 241) G hM (shp_lt g0 (by decide)) g0 e106 fdX12_26 lkX12_48 dX12_multiplies_238 rfl ?_
  refine r_iconst (np := 242) G 2 dX12_multiplies_241 rfl ?_
  obtain ⟨g107, hm⟩ := g_t hm
  refine r_laload (np := 243) G hM g107 rfl dX12_multiplies_242 rfl ?_
  refine r_lmul (np := 244) G dX12_multiplies_243 rfl ?_
  refine r_ladd (np := 245) G dX12_multiplies_244 rfl ?_
  refine r_aload_n (np := 246) G hl 0 rfl dX12_multiplies_245 rfl rfl ?_
  obtain ⟨r108, e109, hm⟩ := ref_t hm
  refine r_getR (np := 249) G hM (shp_lt g0 (by decide)) g0 e109 fdX12_25 lkX12_45 dX12_multiplies_246 rfl ?_
  refine r_iconst (np := 250) G 2 dX12_multiplies_249 rfl ?_
  obtain ⟨g110, hm⟩ := g_t hm
  refine r_laload (np := 251) G hM g110 rfl dX12_multiplies_250 rfl ?_
  refine r_aload_n (np := 252) G hl 0 rfl dX12_multiplies_251 rfl rfl ?_
  obtain ⟨r111, e112, hm⟩ := ref_t hm
  refine r_getR (np := 255) G hM (shp_lt g0 (by decide)) g0 e112 fdX12_26 lkX12_48 dX12_multiplies_252 rfl ?_
  refine r_iconst (np := 256) G 1 dX12_multiplies_255 rfl ?_
  obtain ⟨g113, hm⟩ := g_t hm
  refine r_laload (np := 257) G hM g113 rfl dX12_multiplies_256 rfl ?_
  refine r_lmul (np := 258) G dX12_multiplies_257 rfl ?_
  refine r_lsub (np := 259) G dX12_multiplies_258 rfl ?_
  obtain ⟨g114, hm⟩ := g_t hm
  obtain ⟨s115, e116, hm⟩ := bnd_t hm
  refine r_lastore (np := 260) G hM g114 rfl s115 e116 dX12_multiplies_259 rfl (fun H locs hM => ?_)
  exact r_vret G hr hk hM hm dX12_multiplies_260
theorem gX12_multiplies {v0 : Nat} {v1 : Int} {v3 : Int} {σ : mSt} {out : Int × mSt} (hm : mX12_multiplies v0 v1 v3 σ = some out) : isC v0 11 := (g_t hm).1
set_option maxRecDepth 100000 in
set_option maxHeartbeats 4000000 in
theorem wX12_takesOne_B25 (l : Launch) (E : mE) (out : Int × mSt) {p : Program} {e : Env} {s : State} {m : MethodId} {args : Array Value} {below : List Frame} {meth : Method} {c : Code} (G : CallFix p m c cX12_takesOne 3 s args mTs RX12) (hr : meth.sig.returnType = none) (hk : meth.locks = false) (v0 : Nat) (v1 : Int) (g0 : isC v0 11) : ∀ (σ : mSt) (H : Heap) (locs : List Loc) (ls : Array Slot), mX12_takesOne_B25 v0 v1 σ = some out → mM (mA E 276) E 276 σ s H locs → lv_has ls 3 [] → mGo l p e 1 22 s m args below meth c E none out.2 H locs (F0 m 25 ls []) := by
  intro σ H locs ls hm hM hl
  unfold mX12_takesOne_B25 at hm
  exact r_vret G hr hk hM hm dX12_takesOne_25
set_option maxRecDepth 100000 in
set_option maxHeartbeats 4000000 in
theorem wX12_takesOne_L2 (l : Launch) (E : mE) (out : Int × mSt) {p : Program} {e : Env} {s : State} {m : MethodId} {args : Array Value} {below : List Frame} {meth : Method} {c : Code} (G : CallFix p m c cX12_takesOne 3 s args mTs RX12) (hr : meth.sig.returnType = none) (hk : meth.locks = false) (v0 : Nat) (v1 : Int) (g0 : isC v0 11) (x25 : mSt → Option (Int × mSt)) (hx25 : ∀ (σ : mSt) (H : Heap) (locs : List Loc) (ls : Array Slot), x25 σ = some out → mM (mA E 276) E 276 σ s H locs → lv_has ls 3 [] → mGo l p e 1 22 s m args below meth c E none out.2 H locs (F0 m 25 ls [])) : ∀ (n : Nat) (v2 : Int) (σ : mSt) (H : Heap) (locs : List Loc) (ls : Array Slot), mX12_takesOne_L2 v0 v1 x25 n v2 σ = some out → mM (mA E 276) E 276 σ s H locs → lv_has ls 3 [(0, .ref (eA E v0)), (1, vI v1), (2, vI v2)] → mGo l p e 1 22 s m args below meth c E none out.2 H locs (F0 m 2 ls []) := by
  intro n
  induction n with
  | zero =>
    intro v2 σ H locs ls hm hM hl
    exact absurd hm (by rw [mX12_takesOne_L2.eq_1]; exact fun h => nomatch h)
  | succ n ih =>
    intro v2 σ H locs ls hm hM hl
    rw [mX12_takesOne_L2.eq_2] at hm
    refine r_iload_n (np := 3) G hl 2 rfl dX12_takesOne_2 rfl rfl ?_
    refine r_iconst (np := 4) G 4 dX12_takesOne_3 rfl ?_
    refine r_icmp_ge (np := 7) (tgt := 25) G rfl (wIk 4 rfl) dX12_takesOne_4 (by decide) rfl (fun h1 => ?_) (fun h1 => ?_)
    · have hm := b_t h1 hm
      exact hx25 _ _ _ _ hm hM (lv_sub hl [] rfl)
    · have hm := b_f h1 hm
      refine r_aload_n (np := 8) G hl 0 rfl dX12_takesOne_7 rfl rfl ?_
      obtain ⟨r2, e3, hm⟩ := ref_t hm
      refine r_getR (np := 11) G hM (shp_lt g0 (by decide)) g0 e3 fdX12_25 lkX12_45 dX12_takesOne_8 rfl ?_
      refine r_iload_n (np := 12) G hl 2 rfl dX12_takesOne_11 rfl rfl ?_
      refine r_aload_n (np := 13) G hl 0 rfl dX12_takesOne_12 rfl rfl ?_
      refine r_iload_n (np := 14) G hl 1 rfl dX12_takesOne_13 rfl rfl ?_
      refine r_iload_n (np := 15) G hl 2 rfl dX12_takesOne_14 rfl rfl ?_
      obtain ⟨b4, s5, e6, hm⟩ := call_t hm
      refine m_callVL (np := 18) G hM hl.1 [vI v1, vI v2] (qX12_part l E σ v0 v1 v2 _ e6) myX12_part (shp_lt (gX12_part e6) (by decide)) (gX12_part e6) rfl (by decide) lkX12_294 ⟨Nat.le_of_ble_eq_true rfl, Nat.le_of_ble_eq_true rfl⟩ ⟨Nat.le_of_ble_eq_true rfl, Nat.le_of_ble_eq_true rfl⟩ [vI v2, .ref (eA E r2)] rfl (Nat.le_of_ble_eq_true rfl) dX12_takesOne_15 rfl (fun H locs hM => ?_)
      obtain ⟨g7, hm⟩ := g_t hm
      obtain ⟨s8, e9, hm⟩ := bnd_t hm
      refine r_lastore (np := 19) G hM g7 rfl s8 e9 dX12_takesOne_18 rfl (fun H locs hM => ?_)
      obtain ⟨a10, e11, hm⟩ := bnd_t hm
      refine r_iinc (np := 22) G hl 2 rfl e11 [(2, vI a10), (0, .ref (eA E v0)), (1, vI v1)] dX12_takesOne_19 rfl (by decide) rfl (fun ls hl => ?_)
      refine r_goto (np := 2) G dX12_takesOne_22 (by decide) ?_
      exact ih a10 _ _ _ _ hm hM (lv_sub hl [1, 2, 0] rfl)
set_option maxRecDepth 100000 in
set_option maxHeartbeats 4000000 in
theorem qX12_takesOne (l : Launch) (E : mE) (σ : mSt) (v0 : Nat) (v1 : Int) (out : Int × mSt) (hm : mX12_takesOne v0 v1 σ = some out) : mMet l yX12_takesOne cX12_takesOne 3 none 1 22 E 276 [.ref (eA E v0), vI v1] σ none out.2 := by
  unfold mX12_takesOne at hm
  obtain ⟨g0, hm⟩ := g_t hm
  refine m_entry (by decide +kernel) (Nat.le_of_ble_eq_true rfl) (fun p e s m args below meth c G hr hk hM ls hl => ?_)
  have G : CallFix p m c cX12_takesOne 3 s args mTs RX12 := G
  have hl : lv_has ls 3 [(0, .ref (eA E v0)), (1, vI v1)] := hl
  refine r_iconst (np := 1) G 0 dX12_takesOne_0 rfl ?_
  refine r_istore_n (np := 2) G hl rfl [(2, vI 0), (0, .ref (eA E v0)), (1, vI v1)] dX12_takesOne_1 rfl rfl (by decide) rfl (fun ls hl => ?_)
  exact wX12_takesOne_L2 l E out G hr hk v0 v1 g0 (fun zσ => mX12_takesOne_B25 v0 v1 zσ) (fun zσ zH zl zs zm zM zv => wX12_takesOne_B25 l E out G hr hk v0 v1 g0 zσ zH zl zs zm zM zv) mF 0 _ _ _ _ hm hM (lv_sub hl [1, 2, 0] rfl)
theorem gX12_takesOne {v0 : Nat} {v1 : Int} {σ : mSt} {out : Int × mSt} (hm : mX12_takesOne v0 v1 σ = some out) : isC v0 11 := (g_t hm).1
set_option maxRecDepth 100000 in
set_option maxHeartbeats 4000000 in
theorem wX12_takesOther_B25 (l : Launch) (E : mE) (out : Int × mSt) {p : Program} {e : Env} {s : State} {m : MethodId} {args : Array Value} {below : List Frame} {meth : Method} {c : Code} (G : CallFix p m c cX12_takesOther 3 s args mTs RX12) (hr : meth.sig.returnType = none) (hk : meth.locks = false) (v0 : Nat) (v1 : Int) (g0 : isC v0 11) : ∀ (σ : mSt) (H : Heap) (locs : List Loc) (ls : Array Slot), mX12_takesOther_B25 v0 v1 σ = some out → mM (mA E 276) E 276 σ s H locs → lv_has ls 3 [] → mGo l p e 1 22 s m args below meth c E none out.2 H locs (F0 m 25 ls []) := by
  intro σ H locs ls hm hM hl
  unfold mX12_takesOther_B25 at hm
  exact r_vret G hr hk hM hm dX12_takesOther_25
set_option maxRecDepth 100000 in
set_option maxHeartbeats 4000000 in
theorem wX12_takesOther_L2 (l : Launch) (E : mE) (out : Int × mSt) {p : Program} {e : Env} {s : State} {m : MethodId} {args : Array Value} {below : List Frame} {meth : Method} {c : Code} (G : CallFix p m c cX12_takesOther 3 s args mTs RX12) (hr : meth.sig.returnType = none) (hk : meth.locks = false) (v0 : Nat) (v1 : Int) (g0 : isC v0 11) (x25 : mSt → Option (Int × mSt)) (hx25 : ∀ (σ : mSt) (H : Heap) (locs : List Loc) (ls : Array Slot), x25 σ = some out → mM (mA E 276) E 276 σ s H locs → lv_has ls 3 [] → mGo l p e 1 22 s m args below meth c E none out.2 H locs (F0 m 25 ls [])) : ∀ (n : Nat) (v2 : Int) (σ : mSt) (H : Heap) (locs : List Loc) (ls : Array Slot), mX12_takesOther_L2 v0 v1 x25 n v2 σ = some out → mM (mA E 276) E 276 σ s H locs → lv_has ls 3 [(0, .ref (eA E v0)), (1, vI v1), (2, vI v2)] → mGo l p e 1 22 s m args below meth c E none out.2 H locs (F0 m 2 ls []) := by
  intro n
  induction n with
  | zero =>
    intro v2 σ H locs ls hm hM hl
    exact absurd hm (by rw [mX12_takesOther_L2.eq_1]; exact fun h => nomatch h)
  | succ n ih =>
    intro v2 σ H locs ls hm hM hl
    rw [mX12_takesOther_L2.eq_2] at hm
    refine r_iload_n (np := 3) G hl 2 rfl dX12_takesOther_2 rfl rfl ?_
    refine r_iconst (np := 4) G 4 dX12_takesOther_3 rfl ?_
    refine r_icmp_ge (np := 7) (tgt := 25) G rfl (wIk 4 rfl) dX12_takesOther_4 (by decide) rfl (fun h1 => ?_) (fun h1 => ?_)
    · have hm := b_t h1 hm
      exact hx25 _ _ _ _ hm hM (lv_sub hl [] rfl)
    · have hm := b_f h1 hm
      refine r_aload_n (np := 8) G hl 0 rfl dX12_takesOther_7 rfl rfl ?_
      obtain ⟨r2, e3, hm⟩ := ref_t hm
      refine r_getR (np := 11) G hM (shp_lt g0 (by decide)) g0 e3 fdX12_26 lkX12_48 dX12_takesOther_8 rfl ?_
      refine r_iload_n (np := 12) G hl 2 rfl dX12_takesOther_11 rfl rfl ?_
      refine r_aload_n (np := 13) G hl 0 rfl dX12_takesOther_12 rfl rfl ?_
      refine r_iload_n (np := 14) G hl 1 rfl dX12_takesOther_13 rfl rfl ?_
      refine r_iload_n (np := 15) G hl 2 rfl dX12_takesOther_14 rfl rfl ?_
      obtain ⟨b4, s5, e6, hm⟩ := call_t hm
      refine m_callVL (np := 18) G hM hl.1 [vI v1, vI v2] (qX12_part l E σ v0 v1 v2 _ e6) myX12_part (shp_lt (gX12_part e6) (by decide)) (gX12_part e6) rfl (by decide) lkX12_294 ⟨Nat.le_of_ble_eq_true rfl, Nat.le_of_ble_eq_true rfl⟩ ⟨Nat.le_of_ble_eq_true rfl, Nat.le_of_ble_eq_true rfl⟩ [vI v2, .ref (eA E r2)] rfl (Nat.le_of_ble_eq_true rfl) dX12_takesOther_15 rfl (fun H locs hM => ?_)
      obtain ⟨g7, hm⟩ := g_t hm
      obtain ⟨s8, e9, hm⟩ := bnd_t hm
      refine r_lastore (np := 19) G hM g7 rfl s8 e9 dX12_takesOther_18 rfl (fun H locs hM => ?_)
      obtain ⟨a10, e11, hm⟩ := bnd_t hm
      refine r_iinc (np := 22) G hl 2 rfl e11 [(2, vI a10), (0, .ref (eA E v0)), (1, vI v1)] dX12_takesOther_19 rfl (by decide) rfl (fun ls hl => ?_)
      refine r_goto (np := 2) G dX12_takesOther_22 (by decide) ?_
      exact ih a10 _ _ _ _ hm hM (lv_sub hl [1, 2, 0] rfl)
set_option maxRecDepth 100000 in
set_option maxHeartbeats 4000000 in
theorem qX12_takesOther (l : Launch) (E : mE) (σ : mSt) (v0 : Nat) (v1 : Int) (out : Int × mSt) (hm : mX12_takesOther v0 v1 σ = some out) : mMet l yX12_takesOther cX12_takesOther 3 none 1 22 E 276 [.ref (eA E v0), vI v1] σ none out.2 := by
  unfold mX12_takesOther at hm
  obtain ⟨g0, hm⟩ := g_t hm
  refine m_entry (by decide +kernel) (Nat.le_of_ble_eq_true rfl) (fun p e s m args below meth c G hr hk hM ls hl => ?_)
  have G : CallFix p m c cX12_takesOther 3 s args mTs RX12 := G
  have hl : lv_has ls 3 [(0, .ref (eA E v0)), (1, vI v1)] := hl
  refine r_iconst (np := 1) G 0 dX12_takesOther_0 rfl ?_
  refine r_istore_n (np := 2) G hl rfl [(2, vI 0), (0, .ref (eA E v0)), (1, vI v1)] dX12_takesOther_1 rfl rfl (by decide) rfl (fun ls hl => ?_)
  exact wX12_takesOther_L2 l E out G hr hk v0 v1 g0 (fun zσ => mX12_takesOther_B25 v0 v1 zσ) (fun zσ zH zl zs zm zM zv => wX12_takesOther_B25 l E out G hr hk v0 v1 g0 zσ zH zl zs zm zM zv) mF 0 _ _ _ _ hm hM (lv_sub hl [1, 2, 0] rfl)
theorem gX12_takesOther {v0 : Nat} {v1 : Int} {σ : mSt} {out : Int × mSt} (hm : mX12_takesOther v0 v1 σ = some out) : isC v0 11 := (g_t hm).1
set_option maxRecDepth 100000 in
set_option maxHeartbeats 4000000 in
theorem wX12_times_B84 (l : Launch) (E : mE) (out : Int × mSt) {p : Program} {e : Env} {s : State} {m : MethodId} {args : Array Value} {below : List Frame} {meth : Method} {c : Code} (G : CallFix p m c cX12_times 5 s args mTs RX12) (hr : meth.sig.returnType = (some .int)) (hk : meth.locks = false) (v0 : Nat) (v1 : Int) (v2 : Int) (v3 : Int) (g0 : isC v0 11) : ∀ (σ : mSt) (H : Heap) (locs : List Loc) (ls : Array Slot), mX12_times_B84 v0 v1 v2 v3 σ = some out → mM (mA E 276) E 276 σ s H locs → lv_has ls 5 [(0, .ref (eA E v0)), (1, vI v1), (2, vI v2), (3, vI v3)] → mGo l p e 3 69 s m args below meth c E (some (vI out.1)) out.2 H locs (F0 m 84 ls []) := by
  intro σ H locs ls hm hM hl
  unfold mX12_times_B84 at hm
  refine r_aload_n (np := 85) G hl 0 rfl dX12_times_84 rfl rfl ?_
  obtain ⟨r1, e2, hm⟩ := ref_t hm
  refine r_getR (np := 88) G hM (shp_lt g0 (by decide)) g0 e2 fdX12_24 lkX12_42 dX12_times_85 rfl ?_
  refine r_iconst (np := 89) G 4 dX12_times_88 rfl ?_
  refine r_aload_n (np := 90) G hl 0 rfl dX12_times_89 rfl rfl ?_
  refine r_iload_n (np := 91) G hl 1 rfl dX12_times_90 rfl rfl ?_
  refine r_iconst (np := 92) G 4 dX12_times_91 rfl ?_
  obtain ⟨b3, s4, e5, hm⟩ := call_t hm
  refine m_callVL (np := 95) G hM hl.1 [vI v1, vI 4] (qX12_part l E σ v0 v1 4 _ e5) myX12_part (shp_lt (gX12_part e5) (by decide)) (gX12_part e5) rfl (by decide) lkX12_294 ⟨Nat.le_of_ble_eq_true rfl, Nat.le_of_ble_eq_true rfl⟩ ⟨Nat.le_of_ble_eq_true rfl, Nat.le_of_ble_eq_true rfl⟩ [vI 4, .ref (eA E r1)] rfl (Nat.le_of_ble_eq_true rfl) dX12_times_92 rfl (fun H locs hM => ?_)
  refine r_aload_n (np := 96) G hl 0 rfl dX12_times_95 rfl rfl ?_
  refine r_iload_n (np := 97) G hl 2 rfl dX12_times_96 rfl rfl ?_
  refine r_iconst (np := 98) G 4 dX12_times_97 rfl ?_
  obtain ⟨b6, s7, e8, hm⟩ := call_t hm
  refine m_callVL (np := 101) G hM hl.1 [vI v2, vI 4] (qX12_part l E s4 v0 v2 4 _ e8) myX12_part (shp_lt (gX12_part e8) (by decide)) (gX12_part e8) rfl (by decide) lkX12_294 ⟨Nat.le_of_ble_eq_true rfl, Nat.le_of_ble_eq_true rfl⟩ ⟨Nat.le_of_ble_eq_true rfl, Nat.le_of_ble_eq_true rfl⟩ [vL b3, vI 4, .ref (eA E r1)] rfl (Nat.le_of_ble_eq_true rfl) dX12_times_98 rfl (fun H locs hM => ?_)
  refine r_lmul (np := 102) G dX12_times_101 rfl ?_
  obtain ⟨g9, hm⟩ := g_t hm
  obtain ⟨s10, e11, hm⟩ := bnd_t hm
  refine r_lastore (np := 103) G hM g9 rfl s10 e11 dX12_times_102 rfl (fun H locs hM => ?_)
  refine r_aload_n (np := 104) G hl 0 rfl dX12_times_103 rfl rfl ?_
  refine r_iload_n (np := 105) G hl 3 rfl dX12_times_104 rfl rfl ?_
  refine r_aload_n (np := 106) G hl 0 rfl dX12_times_105 rfl rfl ?_
  obtain ⟨r12, e13, hm⟩ := ref_t hm
  refine r_getR (np := 109) G hM (shp_lt g0 (by decide)) g0 e13 fdX12_22 lkX12_36 dX12_times_106 rfl ?_
  refine r_iload_n (np := 110) G hl 1 rfl dX12_times_109 rfl rfl ?_
  obtain ⟨g14, hm⟩ := g_t hm
  refine r_iaload (np := 111) G hM g14 rfl dX12_times_110 rfl ?_
  obtain ⟨b15, s16, e17, hm⟩ := call_t hm
  refine m_callVI (np := 114) G hM hl.1 [vI v3, vI (s10 r12 (wI v1).toNat)] (qX12_keeps l E s10 v0 v3 (s10 r12 (wI v1).toNat) _ e17) myX12_keeps (shp_lt (gX12_keeps e17) (by decide)) (gX12_keeps e17) rfl (by decide) lkX12_291 ⟨Nat.le_of_ble_eq_true rfl, Nat.le_of_ble_eq_true rfl⟩ ⟨Nat.le_of_ble_eq_true rfl, Nat.le_of_ble_eq_true rfl⟩ [] rfl (Nat.le_of_ble_eq_true rfl) dX12_times_111 rfl (fun H locs hM => ?_)
  exact r_iret G hr hk hM hm dX12_times_114
set_option maxRecDepth 100000 in
set_option maxHeartbeats 4000000 in
theorem wX12_times_L58 (l : Launch) (E : mE) (out : Int × mSt) {p : Program} {e : Env} {s : State} {m : MethodId} {args : Array Value} {below : List Frame} {meth : Method} {c : Code} (G : CallFix p m c cX12_times 5 s args mTs RX12) (hr : meth.sig.returnType = (some .int)) (hk : meth.locks = false) (v0 : Nat) (v1 : Int) (v2 : Int) (v3 : Int) (g0 : isC v0 11) (x84 : mSt → Option (Int × mSt)) (hx84 : ∀ (σ : mSt) (H : Heap) (locs : List Loc) (ls : Array Slot), x84 σ = some out → mM (mA E 276) E 276 σ s H locs → lv_has ls 5 [(0, .ref (eA E v0)), (1, vI v1), (2, vI v2), (3, vI v3)] → mGo l p e 3 69 s m args below meth c E (some (vI out.1)) out.2 H locs (F0 m 84 ls [])) : ∀ (n : Nat) (v4 : Int) (σ : mSt) (H : Heap) (locs : List Loc) (ls : Array Slot), mX12_times_L58 v0 v1 v2 v3 x84 n v4 σ = some out → mM (mA E 276) E 276 σ s H locs → lv_has ls 5 [(0, .ref (eA E v0)), (1, vI v1), (2, vI v2), (3, vI v3), (4, vI v4)] → mGo l p e 3 69 s m args below meth c E (some (vI out.1)) out.2 H locs (F0 m 58 ls []) := by
  intro n
  induction n with
  | zero =>
    intro v4 σ H locs ls hm hM hl
    exact absurd hm (by rw [mX12_times_L58.eq_1]; exact fun h => nomatch h)
  | succ n ih =>
    intro v4 σ H locs ls hm hM hl
    rw [mX12_times_L58.eq_2] at hm
    refine r_iload (np := 60) G hl 4 rfl dX12_times_58 rfl ?_
    refine r_iconst (np := 61) G 4 dX12_times_60 rfl ?_
    refine r_icmp_ge (np := 64) (tgt := 84) G rfl (wIk 4 rfl) dX12_times_61 (by decide) rfl (fun h18 => ?_) (fun h18 => ?_)
    · have hm := b_t h18 hm
      exact hx84 _ _ _ _ hm hM (lv_sub hl [0, 1, 2, 3] rfl)
    · have hm := b_f h18 hm
      refine r_aload_n (np := 65) G hl 0 rfl dX12_times_64 rfl rfl ?_
      obtain ⟨r19, e20, hm⟩ := ref_t hm
      refine r_getR (np := 68) G hM (shp_lt g0 (by decide)) g0 e20 fdX12_24 lkX12_42 dX12_times_65 rfl ?_
      refine r_iload (np := 70) G hl 4 rfl dX12_times_68 rfl ?_
      refine r_aload_n (np := 71) G hl 0 rfl dX12_times_70 rfl rfl ?_
      obtain ⟨r21, e22, hm⟩ := ref_t hm
      refine r_getR (np := 74) G hM (shp_lt g0 (by decide)) g0 e22 fdX12_27 lkX12_51 dX12_times_71 rfl ?_
      refine r_iload (np := 76) G hl 4 rfl dX12_times_74 rfl ?_
      obtain ⟨g23, hm⟩ := g_t hm
      refine r_laload (np := 77) G hM g23 rfl dX12_times_76 rfl ?_
      obtain ⟨g24, hm⟩ := g_t hm
      obtain ⟨s25, e26, hm⟩ := bnd_t hm
      refine r_lastore (np := 78) G hM g24 rfl s25 e26 dX12_times_77 rfl (fun H locs hM => ?_)
      obtain ⟨a27, e28, hm⟩ := bnd_t hm
      refine r_iinc (np := 81) G hl 4 rfl e28 [(4, vI a27), (0, .ref (eA E v0)), (1, vI v1), (2, vI v2), (3, vI v3)] dX12_times_78 rfl (by decide) rfl (fun ls hl => ?_)
      refine r_goto (np := 58) G dX12_times_81 (by decide) ?_
      exact ih a27 _ _ _ _ hm hM (lv_sub hl [1, 2, 3, 4, 0] rfl)
set_option maxRecDepth 100000 in
set_option maxHeartbeats 4000000 in
theorem qX12_times (l : Launch) (E : mE) (σ : mSt) (v0 : Nat) (v1 : Int) (v2 : Int) (v3 : Int) (out : Int × mSt) (hm : mX12_times v0 v1 v2 v3 σ = some out) : mMet l yX12_times cX12_times 5 (some .int) 3 69 E 276 [.ref (eA E v0), vI v1, vI v2, vI v3] σ (some (vI out.1)) out.2 := by
  unfold mX12_times at hm
  obtain ⟨g0, hm⟩ := g_t hm
  refine m_entry (by decide +kernel) (Nat.le_of_ble_eq_true rfl) (fun p e s m args below meth c G hr hk hM ls hl => ?_)
  have G : CallFix p m c cX12_times 5 s args mTs RX12 := G
  have hl : lv_has ls 5 [(0, .ref (eA E v0)), (1, vI v1), (2, vI v2), (3, vI v3)] := hl
  refine r_aload_n (np := 1) G hl 0 rfl dX12_times_0 rfl rfl ?_
  refine r_iconst (np := 2) G 0 dX12_times_1 rfl ?_
  obtain ⟨s29, e30, hm⟩ := bnd_t hm
  refine r_putI (np := 5) G hM (shp_lt g0 (by decide)) g0 ptX12_0 rfl lkX12_75 s29 e30 dX12_times_2 rfl (fun H locs hM => ?_)
  refine r_aload_n (np := 6) G hl 0 rfl dX12_times_5 rfl rfl ?_
  refine r_iload_n (np := 7) G hl 1 rfl dX12_times_6 rfl rfl ?_
  refine r_iload_n (np := 8) G hl 2 rfl dX12_times_7 rfl rfl ?_
  refine r_iload_n (np := 9) G hl 3 rfl dX12_times_8 rfl rfl ?_
  obtain ⟨b31, s32, e33, hm⟩ := call_t hm
  refine m_callVI (np := 12) G hM hl.1 [vI v1, vI v2, vI v3] (qX12_areBeside l E s29 v0 v1 v2 v3 _ e33) myX12_areBeside (shp_lt (gX12_areBeside e33) (by decide)) (gX12_areBeside e33) rfl (by decide) lkX12_308 ⟨Nat.le_of_ble_eq_true rfl, Nat.le_of_ble_eq_true rfl⟩ ⟨Nat.le_of_ble_eq_true rfl, Nat.le_of_ble_eq_true rfl⟩ [] rfl (Nat.le_of_ble_eq_true rfl) dX12_times_9 rfl (fun H locs hM => ?_)
  refine r_if_ne (np := 15) (tgt := 17) G rfl dX12_times_12 (by decide) rfl (fun h34 => ?_) (fun h34 => ?_)
  · have hm := b_f h34 hm
    refine r_aload_n (np := 18) G hl 0 rfl dX12_times_17 rfl rfl ?_
    refine r_iload_n (np := 19) G hl 1 rfl dX12_times_18 rfl rfl ?_
    obtain ⟨b35, s36, e37, hm⟩ := call_t hm
    refine m_callVV (np := 22) G hM hl.1 [vI v1] (qX12_takesOne l E s32 v0 v1 _ e37) myX12_takesOne (shp_lt (gX12_takesOne e37) (by decide)) (gX12_takesOne e37) rfl (by decide) lkX12_312 ⟨Nat.le_of_ble_eq_true rfl, Nat.le_of_ble_eq_true rfl⟩ ⟨Nat.le_of_ble_eq_true rfl, Nat.le_of_ble_eq_true rfl⟩ [] rfl (Nat.le_of_ble_eq_true rfl) dX12_times_19 rfl (fun H locs hM => ?_)
    refine r_aload_n (np := 23) G hl 0 rfl dX12_times_22 rfl rfl ?_
    refine r_iload_n (np := 24) G hl 2 rfl dX12_times_23 rfl rfl ?_
    obtain ⟨b38, s39, e40, hm⟩ := call_t hm
    refine m_callVV (np := 27) G hM hl.1 [vI v2] (qX12_takesOther l E s36 v0 v2 _ e40) myX12_takesOther (shp_lt (gX12_takesOther e40) (by decide)) (gX12_takesOther e40) rfl (by decide) lkX12_315 ⟨Nat.le_of_ble_eq_true rfl, Nat.le_of_ble_eq_true rfl⟩ ⟨Nat.le_of_ble_eq_true rfl, Nat.le_of_ble_eq_true rfl⟩ [] rfl (Nat.le_of_ble_eq_true rfl) dX12_times_24 rfl (fun H locs hM => ?_)
    refine r_aload_n (np := 28) G hl 0 rfl dX12_times_27 rfl rfl ?_
    refine r_aload_n (np := 29) G hl 0 rfl dX12_times_28 rfl rfl ?_
    obtain ⟨r41, e42, hm⟩ := ref_t hm
    refine r_getR (np := 32) G hM (shp_lt g0 (by decide)) g0 e42 fdX12_15 lkX12_24 dX12_times_29 rfl ?_
    refine r_aload_n (np := 33) G hl 0 rfl dX12_times_32 rfl rfl ?_
    obtain ⟨r43, e44, hm⟩ := ref_t hm
    refine r_getR (np := 36) G hM (shp_lt g0 (by decide)) g0 e44 fdX12_22 lkX12_36 dX12_times_33 rfl ?_
    refine r_iload_n (np := 37) G hl 1 rfl dX12_times_36 rfl rfl ?_
    obtain ⟨g45, hm⟩ := g_t hm
    refine r_iaload (np := 38) G hM g45 rfl dX12_times_37 rfl ?_
    obtain ⟨g46, hm⟩ := g_t hm
    refine r_iaload (np := 39) G hM g46 rfl dX12_times_38 rfl ?_
    refine r_i2l (np := 40) G rfl dX12_times_39 rfl ?_
    refine r_aload_n (np := 41) G hl 0 rfl dX12_times_40 rfl rfl ?_
    obtain ⟨r47, e48, hm⟩ := ref_t hm
    refine r_getR (np := 44) G hM (shp_lt g0 (by decide)) g0 e48 fdX12_16 lkX12_27 dX12_times_41 rfl ?_
    refine r_aload_n (np := 45) G hl 0 rfl dX12_times_44 rfl rfl ?_
    obtain ⟨r49, e50, hm⟩ := ref_t hm
    refine r_getR (np := 48) G hM (shp_lt g0 (by decide)) g0 e50 fdX12_22 lkX12_36 dX12_times_45 rfl ?_
    refine r_iload_n (np := 49) G hl 1 rfl dX12_times_48 rfl rfl ?_
    obtain ⟨g51, hm⟩ := g_t hm
    refine r_iaload (np := 50) G hM g51 rfl dX12_times_49 rfl ?_
    obtain ⟨g52, hm⟩ := g_t hm
    refine r_iaload (np := 51) G hM g52 rfl dX12_times_50 rfl ?_
    refine r_i2l (np := 52) G rfl dX12_times_51 rfl ?_
    obtain ⟨b53, s54, e55, hm⟩ := call_t hm
    refine m_callVV (np := 55) G hM hl.1 [vL (wI (s39 r41 (wI (s39 r43 (wI v1).toNat)).toNat)), vL (wI (s39 r47 (wI (s39 r49 (wI v1).toNat)).toNat))] (qX12_multiplies l E s39 v0 (wI (s39 r41 (wI (s39 r43 (wI v1).toNat)).toNat)) (wI (s39 r47 (wI (s39 r49 (wI v1).toNat)).toNat)) _ e55) myX12_multiplies (shp_lt (gX12_multiplies e55) (by decide)) (gX12_multiplies e55) rfl (by decide) lkX12_318 ⟨Nat.le_of_ble_eq_true rfl, Nat.le_of_ble_eq_true rfl⟩ ⟨Nat.le_of_ble_eq_true rfl, Nat.le_of_ble_eq_true rfl⟩ [] rfl (Nat.le_of_ble_eq_true rfl) dX12_times_52 rfl (fun H locs hM => ?_)
    refine r_iconst (np := 56) G 0 dX12_times_55 rfl ?_
    refine r_istore (np := 58) G hl rfl [(4, vI 0), (0, .ref (eA E v0)), (1, vI v1), (2, vI v2), (3, vI v3)] dX12_times_56 rfl (by decide) rfl (fun ls hl => ?_)
    exact wX12_times_L58 l E out G hr hk v0 v1 v2 v3 g0 (fun zσ => mX12_times_B84 v0 v1 v2 v3 zσ) (fun zσ zH zl zs zm zM zv => wX12_times_B84 l E out G hr hk v0 v1 v2 v3 g0 zσ zH zl zs zm zM zv) mF 0 _ _ _ _ hm hM (lv_sub hl [1, 2, 3, 4, 0] rfl)
  · have hm := b_t h34 hm
    refine r_iconst (np := 16) G (-1) dX12_times_15 rfl ?_
    exact r_iret G hr hk hM hm dX12_times_16
theorem gX12_times {v0 : Nat} {v1 : Int} {v2 : Int} {v3 : Int} {σ : mSt} {out : Int × mSt} (hm : mX12_times v0 v1 v2 v3 σ = some out) : isC v0 11 := (g_t hm).1
set_option maxRecDepth 100000 in
set_option maxHeartbeats 4000000 in
theorem wX12_plus_B86 (l : Launch) (E : mE) (out : Int × mSt) {p : Program} {e : Env} {s : State} {m : MethodId} {args : Array Value} {below : List Frame} {meth : Method} {c : Code} (G : CallFix p m c cX12_plus 6 s args mTs RX12) (hr : meth.sig.returnType = (some .int)) (hk : meth.locks = false) (v0 : Nat) (v1 : Int) (v2 : Int) (v3 : Int) (v4 : Int) (g0 : isC v0 11) : ∀ (σ : mSt) (H : Heap) (locs : List Loc) (ls : Array Slot), mX12_plus_B86 v0 v1 v2 v3 v4 σ = some out → mM (mA E 276) E 276 σ s H locs → lv_has ls 6 [(0, .ref (eA E v0)), (1, vI v1), (2, vI v2), (4, vI v4)] → mGo l p e 3 69 s m args below meth c E (some (vI out.1)) out.2 H locs (F0 m 86 ls []) := by
  intro σ H locs ls hm hM hl
  unfold mX12_plus_B86 at hm
  refine r_aload_n (np := 87) G hl 0 rfl dX12_plus_86 rfl rfl ?_
  obtain ⟨r1, e2, hm⟩ := ref_t hm
  refine r_getR (np := 90) G hM (shp_lt g0 (by decide)) g0 e2 fdX12_24 lkX12_42 dX12_plus_87 rfl ?_
  refine r_iconst (np := 91) G 4 dX12_plus_90 rfl ?_
  refine r_aload_n (np := 92) G hl 0 rfl dX12_plus_91 rfl rfl ?_
  refine r_iload_n (np := 93) G hl 1 rfl dX12_plus_92 rfl rfl ?_
  refine r_iconst (np := 94) G 4 dX12_plus_93 rfl ?_
  obtain ⟨b3, s4, e5, hm⟩ := call_t hm
  refine m_callVL (np := 97) G hM hl.1 [vI v1, vI 4] (qX12_part l E σ v0 v1 4 _ e5) myX12_part (shp_lt (gX12_part e5) (by decide)) (gX12_part e5) rfl (by decide) lkX12_294 ⟨Nat.le_of_ble_eq_true rfl, Nat.le_of_ble_eq_true rfl⟩ ⟨Nat.le_of_ble_eq_true rfl, Nat.le_of_ble_eq_true rfl⟩ [vI 4, .ref (eA E r1)] rfl (Nat.le_of_ble_eq_true rfl) dX12_plus_94 rfl (fun H locs hM => ?_)
  refine r_aload_n (np := 98) G hl 0 rfl dX12_plus_97 rfl rfl ?_
  refine r_iload_n (np := 99) G hl 2 rfl dX12_plus_98 rfl rfl ?_
  refine r_iconst (np := 100) G 4 dX12_plus_99 rfl ?_
  obtain ⟨b6, s7, e8, hm⟩ := call_t hm
  refine m_callVL (np := 103) G hM hl.1 [vI v2, vI 4] (qX12_part l E s4 v0 v2 4 _ e8) myX12_part (shp_lt (gX12_part e8) (by decide)) (gX12_part e8) rfl (by decide) lkX12_294 ⟨Nat.le_of_ble_eq_true rfl, Nat.le_of_ble_eq_true rfl⟩ ⟨Nat.le_of_ble_eq_true rfl, Nat.le_of_ble_eq_true rfl⟩ [vL b3, vI 4, .ref (eA E r1)] rfl (Nat.le_of_ble_eq_true rfl) dX12_plus_100 rfl (fun H locs hM => ?_)
  refine r_lmul (np := 104) G dX12_plus_103 rfl ?_
  obtain ⟨g9, hm⟩ := g_t hm
  obtain ⟨s10, e11, hm⟩ := bnd_t hm
  refine r_lastore (np := 105) G hM g9 rfl s10 e11 dX12_plus_104 rfl (fun H locs hM => ?_)
  refine r_aload_n (np := 106) G hl 0 rfl dX12_plus_105 rfl rfl ?_
  refine r_iload (np := 108) G hl 3 rfl dX12_plus_106 rfl ?_
  refine r_aload_n (np := 109) G hl 0 rfl dX12_plus_108 rfl rfl ?_
  obtain ⟨r12, e13, hm⟩ := ref_t hm
  refine r_getR (np := 112) G hM (shp_lt g0 (by decide)) g0 e13 fdX12_22 lkX12_36 dX12_plus_109 rfl ?_
  refine r_iload_n (np := 113) G hl 1 rfl dX12_plus_112 rfl rfl ?_
  obtain ⟨g14, hm⟩ := g_t hm
  refine r_iaload (np := 114) G hM g14 rfl dX12_plus_113 rfl ?_
  obtain ⟨b15, s16, e17, hm⟩ := call_t hm
  refine m_callVI (np := 117) G hM hl.1 [vI v4, vI (s10 r12 (wI v1).toNat)] (qX12_keeps l E s10 v0 v4 (s10 r12 (wI v1).toNat) _ e17) myX12_keeps (shp_lt (gX12_keeps e17) (by decide)) (gX12_keeps e17) rfl (by decide) lkX12_291 ⟨Nat.le_of_ble_eq_true rfl, Nat.le_of_ble_eq_true rfl⟩ ⟨Nat.le_of_ble_eq_true rfl, Nat.le_of_ble_eq_true rfl⟩ [] rfl (Nat.le_of_ble_eq_true rfl) dX12_plus_114 rfl (fun H locs hM => ?_)
  exact r_iret G hr hk hM hm dX12_plus_117
set_option maxRecDepth 100000 in
set_option maxHeartbeats 4000000 in
theorem wX12_plus_L35 (l : Launch) (E : mE) (out : Int × mSt) {p : Program} {e : Env} {s : State} {m : MethodId} {args : Array Value} {below : List Frame} {meth : Method} {c : Code} (G : CallFix p m c cX12_plus 6 s args mTs RX12) (hr : meth.sig.returnType = (some .int)) (hk : meth.locks = false) (v0 : Nat) (v1 : Int) (v2 : Int) (v3 : Int) (v4 : Int) (g0 : isC v0 11) (x86 : mSt → Option (Int × mSt)) (hx86 : ∀ (σ : mSt) (H : Heap) (locs : List Loc) (ls : Array Slot), x86 σ = some out → mM (mA E 276) E 276 σ s H locs → lv_has ls 6 [(0, .ref (eA E v0)), (1, vI v1), (2, vI v2), (4, vI v4)] → mGo l p e 3 69 s m args below meth c E (some (vI out.1)) out.2 H locs (F0 m 86 ls [])) : ∀ (n : Nat) (v5 : Int) (σ : mSt) (H : Heap) (locs : List Loc) (ls : Array Slot), mX12_plus_L35 v0 v1 v2 v3 v4 x86 n v5 σ = some out → mM (mA E 276) E 276 σ s H locs → lv_has ls 6 [(0, .ref (eA E v0)), (1, vI v1), (2, vI v2), (3, vI v3), (4, vI v4), (5, vI v5)] → mGo l p e 3 69 s m args below meth c E (some (vI out.1)) out.2 H locs (F0 m 35 ls []) := by
  intro n
  induction n with
  | zero =>
    intro v5 σ H locs ls hm hM hl
    exact absurd hm (by rw [mX12_plus_L35.eq_1]; exact fun h => nomatch h)
  | succ n ih =>
    intro v5 σ H locs ls hm hM hl
    rw [mX12_plus_L35.eq_2] at hm
    refine r_iload (np := 37) G hl 5 rfl dX12_plus_35 rfl ?_
    refine r_iconst (np := 38) G 4 dX12_plus_37 rfl ?_
    refine r_icmp_ge (np := 41) (tgt := 86) G rfl (wIk 4 rfl) dX12_plus_38 (by decide) rfl (fun h18 => ?_) (fun h18 => ?_)
    · have hm := b_t h18 hm
      exact hx86 _ _ _ _ hm hM (lv_sub hl [0, 1, 2, 4] rfl)
    · have hm := b_f h18 hm
      refine r_aload_n (np := 42) G hl 0 rfl dX12_plus_41 rfl rfl ?_
      obtain ⟨r19, e20, hm⟩ := ref_t hm
      refine r_getR (np := 45) G hM (shp_lt g0 (by decide)) g0 e20 fdX12_24 lkX12_42 dX12_plus_42 rfl ?_
      refine r_iload (np := 47) G hl 5 rfl dX12_plus_45 rfl ?_
      refine r_aload_n (np := 48) G hl 0 rfl dX12_plus_47 rfl rfl ?_
      refine r_iload_n (np := 49) G hl 1 rfl dX12_plus_48 rfl rfl ?_
      refine r_iload (np := 51) G hl 5 rfl dX12_plus_49 rfl ?_
      obtain ⟨b21, s22, e23, hm⟩ := call_t hm
      refine m_callVL (np := 54) G hM hl.1 [vI v1, vI v5] (qX12_part l E σ v0 v1 v5 _ e23) myX12_part (shp_lt (gX12_part e23) (by decide)) (gX12_part e23) rfl (by decide) lkX12_294 ⟨Nat.le_of_ble_eq_true rfl, Nat.le_of_ble_eq_true rfl⟩ ⟨Nat.le_of_ble_eq_true rfl, Nat.le_of_ble_eq_true rfl⟩ [vI v5, .ref (eA E r19)] rfl (Nat.le_of_ble_eq_true rfl) dX12_plus_51 rfl (fun H locs hM => ?_)
      refine r_aload_n (np := 55) G hl 0 rfl dX12_plus_54 rfl rfl ?_
      refine r_iload_n (np := 56) G hl 2 rfl dX12_plus_55 rfl rfl ?_
      refine r_iconst (np := 57) G 4 dX12_plus_56 rfl ?_
      obtain ⟨b24, s25, e26, hm⟩ := call_t hm
      refine m_callVL (np := 60) G hM hl.1 [vI v2, vI 4] (qX12_part l E s22 v0 v2 4 _ e26) myX12_part (shp_lt (gX12_part e26) (by decide)) (gX12_part e26) rfl (by decide) lkX12_294 ⟨Nat.le_of_ble_eq_true rfl, Nat.le_of_ble_eq_true rfl⟩ ⟨Nat.le_of_ble_eq_true rfl, Nat.le_of_ble_eq_true rfl⟩ [vL b21, vI v5, .ref (eA E r19)] rfl (Nat.le_of_ble_eq_true rfl) dX12_plus_57 rfl (fun H locs hM => ?_)
      refine r_lmul (np := 61) G dX12_plus_60 rfl ?_
      refine r_iload_n (np := 62) G hl 3 rfl dX12_plus_61 rfl rfl ?_
      refine r_i2l (np := 63) G rfl dX12_plus_62 rfl ?_
      refine r_aload_n (np := 64) G hl 0 rfl dX12_plus_63 rfl rfl ?_
      refine r_iload_n (np := 65) G hl 2 rfl dX12_plus_64 rfl rfl ?_
      refine r_iload (np := 67) G hl 5 rfl dX12_plus_65 rfl ?_
      obtain ⟨b27, s28, e29, hm⟩ := call_t hm
      refine m_callVL (np := 70) G hM hl.1 [vI v2, vI v5] (qX12_part l E s25 v0 v2 v5 _ e29) myX12_part (shp_lt (gX12_part e29) (by decide)) (gX12_part e29) rfl (by decide) lkX12_294 ⟨Nat.le_of_ble_eq_true rfl, Nat.le_of_ble_eq_true rfl⟩ ⟨Nat.le_of_ble_eq_true rfl, Nat.le_of_ble_eq_true rfl⟩ [vL (wI v3), vL (b21 * b24), vI v5, .ref (eA E r19)] rfl (Nat.le_of_ble_eq_true rfl) dX12_plus_67 rfl (fun H locs hM => ?_)
      refine r_lmul (np := 71) G dX12_plus_70 rfl ?_
      refine r_aload_n (np := 72) G hl 0 rfl dX12_plus_71 rfl rfl ?_
      refine r_iload_n (np := 73) G hl 1 rfl dX12_plus_72 rfl rfl ?_
      refine r_iconst (np := 74) G 4 dX12_plus_73 rfl ?_
      obtain ⟨b30, s31, e32, hm⟩ := call_t hm
      refine m_callVL (np := 77) G hM hl.1 [vI v1, vI 4] (qX12_part l E s28 v0 v1 4 _ e32) myX12_part (shp_lt (gX12_part e32) (by decide)) (gX12_part e32) rfl (by decide) lkX12_294 ⟨Nat.le_of_ble_eq_true rfl, Nat.le_of_ble_eq_true rfl⟩ ⟨Nat.le_of_ble_eq_true rfl, Nat.le_of_ble_eq_true rfl⟩ [vL ((wI v3) * b27), vL (b21 * b24), vI v5, .ref (eA E r19)] rfl (Nat.le_of_ble_eq_true rfl) dX12_plus_74 rfl (fun H locs hM => ?_)
      refine r_lmul (np := 78) G dX12_plus_77 rfl ?_
      refine r_ladd (np := 79) G dX12_plus_78 rfl ?_
      obtain ⟨g33, hm⟩ := g_t hm
      obtain ⟨s34, e35, hm⟩ := bnd_t hm
      refine r_lastore (np := 80) G hM g33 rfl s34 e35 dX12_plus_79 rfl (fun H locs hM => ?_)
      obtain ⟨a36, e37, hm⟩ := bnd_t hm
      refine r_iinc (np := 83) G hl 5 rfl e37 [(5, vI a36), (0, .ref (eA E v0)), (1, vI v1), (2, vI v2), (3, vI v3), (4, vI v4)] dX12_plus_80 rfl (by decide) rfl (fun ls hl => ?_)
      refine r_goto (np := 35) G dX12_plus_83 (by decide) ?_
      exact ih a36 _ _ _ _ hm hM (lv_sub hl [1, 2, 3, 4, 5, 0] rfl)
set_option maxRecDepth 100000 in
set_option maxHeartbeats 4000000 in
theorem qX12_plus (l : Launch) (E : mE) (σ : mSt) (v0 : Nat) (v1 : Int) (v2 : Int) (v3 : Int) (v4 : Int) (out : Int × mSt) (hm : mX12_plus v0 v1 v2 v3 v4 σ = some out) : mMet l yX12_plus cX12_plus 6 (some .int) 3 69 E 276 [.ref (eA E v0), vI v1, vI v2, vI v3, vI v4] σ (some (vI out.1)) out.2 := by
  unfold mX12_plus at hm
  obtain ⟨g0, hm⟩ := g_t hm
  refine m_entry (by decide +kernel) (Nat.le_of_ble_eq_true rfl) (fun p e s m args below meth c G hr hk hM ls hl => ?_)
  have G : CallFix p m c cX12_plus 6 s args mTs RX12 := G
  have hl : lv_has ls 6 [(0, .ref (eA E v0)), (1, vI v1), (2, vI v2), (3, vI v3), (4, vI v4)] := hl
  refine r_aload_n (np := 1) G hl 0 rfl dX12_plus_0 rfl rfl ?_
  refine r_iconst (np := 2) G 0 dX12_plus_1 rfl ?_
  obtain ⟨s38, e39, hm⟩ := bnd_t hm
  refine r_putI (np := 5) G hM (shp_lt g0 (by decide)) g0 ptX12_0 rfl lkX12_75 s38 e39 dX12_plus_2 rfl (fun H locs hM => ?_)
  refine r_aload_n (np := 6) G hl 0 rfl dX12_plus_5 rfl rfl ?_
  refine r_iload_n (np := 7) G hl 1 rfl dX12_plus_6 rfl rfl ?_
  refine r_iload_n (np := 8) G hl 2 rfl dX12_plus_7 rfl rfl ?_
  refine r_iload (np := 10) G hl 4 rfl dX12_plus_8 rfl ?_
  obtain ⟨b40, s41, e42, hm⟩ := call_t hm
  refine m_callVI (np := 13) G hM hl.1 [vI v1, vI v2, vI v4] (qX12_areBeside l E s38 v0 v1 v2 v4 _ e42) myX12_areBeside (shp_lt (gX12_areBeside e42) (by decide)) (gX12_areBeside e42) rfl (by decide) lkX12_308 ⟨Nat.le_of_ble_eq_true rfl, Nat.le_of_ble_eq_true rfl⟩ ⟨Nat.le_of_ble_eq_true rfl, Nat.le_of_ble_eq_true rfl⟩ [] rfl (Nat.le_of_ble_eq_true rfl) dX12_plus_10 rfl (fun H locs hM => ?_)
  refine r_if_eq (np := 16) (tgt := 30) G rfl dX12_plus_13 (by decide) rfl (fun h43 => ?_) (fun h43 => ?_)
  · have hm := b_t h43 hm
    refine r_iconst (np := 31) G (-1) dX12_plus_30 rfl ?_
    exact r_iret G hr hk hM hm dX12_plus_31
  · have hm := b_f h43 hm
    refine r_iload_n (np := 17) G hl 3 rfl dX12_plus_16 rfl rfl ?_
    refine r_i2l (np := 18) G rfl dX12_plus_17 rfl ?_
    refine r_ldc2 (np := 21) G (-1000) dX12_plus_18 lkX12_322 rfl rfl ?_
    refine r_ldc2 (np := 24) G 1000 dX12_plus_21 lkX12_300 rfl rfl ?_
    obtain ⟨b44, s45, e46, hm⟩ := call_t hm
    refine m_callSI (np := 27) G hM hl.1 [vL (wI v3), vL (-1000), vL 1000] (qX12_within l E s41 (wI v3) (-1000) 1000 _ e46) myX12_within lkX12_113 ⟨Nat.le_of_ble_eq_true rfl, Nat.le_of_ble_eq_true rfl⟩ ⟨Nat.le_of_ble_eq_true rfl, Nat.le_of_ble_eq_true rfl⟩ [] rfl (Nat.le_of_ble_eq_true rfl) dX12_plus_24 rfl (fun H locs hM => ?_)
    refine r_if_ne (np := 30) (tgt := 32) G rfl dX12_plus_27 (by decide) rfl (fun h47 => ?_) (fun h47 => ?_)
    · have hm := b_f h47 hm
      refine r_iconst (np := 33) G 0 dX12_plus_32 rfl ?_
      refine r_istore (np := 35) G hl rfl [(5, vI 0), (0, .ref (eA E v0)), (1, vI v1), (2, vI v2), (3, vI v3), (4, vI v4)] dX12_plus_33 rfl (by decide) rfl (fun ls hl => ?_)
      exact wX12_plus_L35 l E out G hr hk v0 v1 v2 v3 v4 g0 (fun zσ => mX12_plus_B86 v0 v1 v2 v3 v4 zσ) (fun zσ zH zl zs zm zM zv => wX12_plus_B86 l E out G hr hk v0 v1 v2 v3 v4 g0 zσ zH zl zs zm zM zv) mF 0 _ _ _ _ hm hM (lv_sub hl [1, 2, 3, 4, 5, 0] rfl)
    · have hm := b_t h47 hm
      refine r_iconst (np := 31) G (-1) dX12_plus_30 rfl ?_
      exact r_iret G hr hk hM hm dX12_plus_31
theorem gX12_plus {v0 : Nat} {v1 : Int} {v2 : Int} {v3 : Int} {v4 : Int} {σ : mSt} {out : Int × mSt} (hm : mX12_plus v0 v1 v2 v3 v4 σ = some out) : isC v0 11 := (g_t hm).1
set_option maxRecDepth 100000 in
set_option maxHeartbeats 4000000 in
theorem qX12_mirror (l : Launch) (E : mE) (σ : mSt) (v0 : Nat) (v1 : Int) (v2 : Int) (out : Int × mSt) (hm : mX12_mirror v0 v1 v2 σ = some out) : mMet l yX12_mirror cX12_mirror 3 (some .int) 3 69 E 276 [.ref (eA E v0), vI v1, vI v2] σ (some (vI out.1)) out.2 := by
  unfold mX12_mirror at hm
  obtain ⟨g0, hm⟩ := g_t hm
  refine m_entry (by decide +kernel) (Nat.le_of_ble_eq_true rfl) (fun p e s m args below meth c G hr hk hM ls hl => ?_)
  have G : CallFix p m c cX12_mirror 3 s args mTs RX12 := G
  have hl : lv_has ls 3 [(0, .ref (eA E v0)), (1, vI v1), (2, vI v2)] := hl
  refine r_aload_n (np := 1) G hl 0 rfl dX12_mirror_0 rfl rfl ?_
  refine r_iconst (np := 2) G 0 dX12_mirror_1 rfl ?_
  obtain ⟨s1, e2, hm⟩ := bnd_t hm
  refine r_putI (np := 5) G hM (shp_lt g0 (by decide)) g0 ptX12_0 rfl lkX12_75 s1 e2 dX12_mirror_2 rfl (fun H locs hM => ?_)
  refine r_aload_n (np := 6) G hl 0 rfl dX12_mirror_5 rfl rfl ?_
  refine r_iload_n (np := 7) G hl 1 rfl dX12_mirror_6 rfl rfl ?_
  refine r_iload_n (np := 8) G hl 1 rfl dX12_mirror_7 rfl rfl ?_
  refine r_iload_n (np := 9) G hl 2 rfl dX12_mirror_8 rfl rfl ?_
  obtain ⟨b3, s4, e5, hm⟩ := call_t hm
  refine m_callVI (np := 12) G hM hl.1 [vI v1, vI v1, vI v2] (qX12_areBeside l E s1 v0 v1 v1 v2 _ e5) myX12_areBeside (shp_lt (gX12_areBeside e5) (by decide)) (gX12_areBeside e5) rfl (by decide) lkX12_308 ⟨Nat.le_of_ble_eq_true rfl, Nat.le_of_ble_eq_true rfl⟩ ⟨Nat.le_of_ble_eq_true rfl, Nat.le_of_ble_eq_true rfl⟩ [] rfl (Nat.le_of_ble_eq_true rfl) dX12_mirror_9 rfl (fun H locs hM => ?_)
  refine r_if_ne (np := 15) (tgt := 17) G rfl dX12_mirror_12 (by decide) rfl (fun h6 => ?_) (fun h6 => ?_)
  · have hm := b_f h6 hm
    refine r_aload_n (np := 18) G hl 0 rfl dX12_mirror_17 rfl rfl ?_
    refine r_iload_n (np := 19) G hl 1 rfl dX12_mirror_18 rfl rfl ?_
    refine r_ldc2 (np := 22) G (-1) dX12_mirror_19 lkX12_324 rfl rfl ?_
    obtain ⟨b7, s8, e9, hm⟩ := call_t hm
    refine m_callVV (np := 25) G hM hl.1 [vI v1, vL (-1)] (qX12_loads l E s4 v0 v1 (-1) _ e9) myX12_loads (shp_lt (gX12_loads e9) (by decide)) (gX12_loads e9) rfl (by decide) lkX12_302 ⟨Nat.le_of_ble_eq_true rfl, Nat.le_of_ble_eq_true rfl⟩ ⟨Nat.le_of_ble_eq_true rfl, Nat.le_of_ble_eq_true rfl⟩ [] rfl (Nat.le_of_ble_eq_true rfl) dX12_mirror_22 rfl (fun H locs hM => ?_)
    refine r_aload_n (np := 26) G hl 0 rfl dX12_mirror_25 rfl rfl ?_
    obtain ⟨r10, e11, hm⟩ := ref_t hm
    refine r_getR (np := 29) G hM (shp_lt g0 (by decide)) g0 e11 fdX12_24 lkX12_42 dX12_mirror_26 rfl ?_
    refine r_iconst (np := 30) G 0 dX12_mirror_29 rfl ?_
    refine r_aload_n (np := 31) G hl 0 rfl dX12_mirror_30 rfl rfl ?_
    refine r_iload_n (np := 32) G hl 1 rfl dX12_mirror_31 rfl rfl ?_
    refine r_iconst (np := 33) G 0 dX12_mirror_32 rfl ?_
    obtain ⟨b12, s13, e14, hm⟩ := call_t hm
    refine m_callVL (np := 36) G hM hl.1 [vI v1, vI 0] (qX12_part l E s8 v0 v1 0 _ e14) myX12_part (shp_lt (gX12_part e14) (by decide)) (gX12_part e14) rfl (by decide) lkX12_294 ⟨Nat.le_of_ble_eq_true rfl, Nat.le_of_ble_eq_true rfl⟩ ⟨Nat.le_of_ble_eq_true rfl, Nat.le_of_ble_eq_true rfl⟩ [vI 0, .ref (eA E r10)] rfl (Nat.le_of_ble_eq_true rfl) dX12_mirror_33 rfl (fun H locs hM => ?_)
    obtain ⟨g15, hm⟩ := g_t hm
    obtain ⟨s16, e17, hm⟩ := bnd_t hm
    refine r_lastore (np := 37) G hM g15 rfl s16 e17 dX12_mirror_36 rfl (fun H locs hM => ?_)
    refine r_aload_n (np := 38) G hl 0 rfl dX12_mirror_37 rfl rfl ?_
    refine r_iload_n (np := 39) G hl 2 rfl dX12_mirror_38 rfl rfl ?_
    refine r_aload_n (np := 40) G hl 0 rfl dX12_mirror_39 rfl rfl ?_
    obtain ⟨r18, e19, hm⟩ := ref_t hm
    refine r_getR (np := 43) G hM (shp_lt g0 (by decide)) g0 e19 fdX12_22 lkX12_36 dX12_mirror_40 rfl ?_
    refine r_iload_n (np := 44) G hl 1 rfl dX12_mirror_43 rfl rfl ?_
    obtain ⟨g20, hm⟩ := g_t hm
    refine r_iaload (np := 45) G hM g20 rfl dX12_mirror_44 rfl ?_
    obtain ⟨b21, s22, e23, hm⟩ := call_t hm
    refine m_callVI (np := 48) G hM hl.1 [vI v2, vI (s16 r18 (wI v1).toNat)] (qX12_keeps l E s16 v0 v2 (s16 r18 (wI v1).toNat) _ e23) myX12_keeps (shp_lt (gX12_keeps e23) (by decide)) (gX12_keeps e23) rfl (by decide) lkX12_291 ⟨Nat.le_of_ble_eq_true rfl, Nat.le_of_ble_eq_true rfl⟩ ⟨Nat.le_of_ble_eq_true rfl, Nat.le_of_ble_eq_true rfl⟩ [] rfl (Nat.le_of_ble_eq_true rfl) dX12_mirror_45 rfl (fun H locs hM => ?_)
    exact r_iret G hr hk hM hm dX12_mirror_48
  · have hm := b_t h6 hm
    refine r_iconst (np := 16) G (-1) dX12_mirror_15 rfl ?_
    exact r_iret G hr hk hM hm dX12_mirror_16
theorem gX12_mirror {v0 : Nat} {v1 : Int} {v2 : Int} {σ : mSt} {out : Int × mSt} (hm : mX12_mirror v0 v1 v2 σ = some out) : isC v0 11 := (g_t hm).1
set_option maxRecDepth 100000 in
set_option maxHeartbeats 4000000 in
theorem qX12_normOf (l : Launch) (E : mE) (σ : mSt) (v0 : Nat) (v1 : Int) (v3 : Int) (v5 : Int) (v7 : Int) (v9 : Int) (v11 : Int) (out : Int × mSt) (hm : mX12_normOf v0 v1 v3 v5 v7 v9 v11 σ = some out) : mMet l yX12_normOf cX12_normOf 13 (some .long) 0 0 E 276 [.ref (eA E v0), vL v1, vL v3, vL v5, vL v7, vL v9, vL v11] σ (some (vL out.1)) out.2 := by
  unfold mX12_normOf at hm
  obtain ⟨g0, hm⟩ := g_t hm
  refine m_entry (by decide +kernel) (Nat.le_of_ble_eq_true rfl) (fun p e s m args below meth c G hr hk hM ls hl => ?_)
  have G : CallFix p m c cX12_normOf 13 s args mTs RX12 := G
  have hl : lv_has ls 13 [(0, .ref (eA E v0)), (1, vL v1), (3, vL v3), (5, vL v5), (7, vL v7), (9, vL v9), (11, vL v11)] := hl
  refine r_lload_n (np := 1) G hl 1 rfl dX12_normOf_0 rfl rfl ?_
  refine r_lload_n (np := 2) G hl 1 rfl dX12_normOf_1 rfl rfl ?_
  refine r_lmul (np := 3) G dX12_normOf_2 rfl ?_
  refine r_lload (np := 5) G hl 5 rfl dX12_normOf_3 rfl ?_
  refine r_lload_n (np := 6) G hl 2 rfl dX12_normOf_5 rfl rfl ?_
  refine r_lmul (np := 7) G dX12_normOf_6 rfl ?_
  refine r_lload_n (np := 8) G hl 2 rfl dX12_normOf_7 rfl rfl ?_
  refine r_lmul (np := 9) G dX12_normOf_8 rfl ?_
  refine r_lsub (np := 10) G dX12_normOf_9 rfl ?_
  refine r_lload (np := 12) G hl 6 rfl dX12_normOf_10 rfl ?_
  refine r_lload (np := 14) G hl 3 rfl dX12_normOf_12 rfl ?_
  refine r_lmul (np := 15) G dX12_normOf_14 rfl ?_
  refine r_lload (np := 17) G hl 3 rfl dX12_normOf_15 rfl ?_
  refine r_lmul (np := 18) G dX12_normOf_17 rfl ?_
  refine r_lsub (np := 19) G dX12_normOf_18 rfl ?_
  refine r_lload (np := 21) G hl 5 rfl dX12_normOf_19 rfl ?_
  refine r_lload (np := 23) G hl 6 rfl dX12_normOf_21 rfl ?_
  refine r_lmul (np := 24) G dX12_normOf_23 rfl ?_
  refine r_lload (np := 26) G hl 4 rfl dX12_normOf_24 rfl ?_
  refine r_lmul (np := 27) G dX12_normOf_26 rfl ?_
  refine r_lload (np := 29) G hl 4 rfl dX12_normOf_27 rfl ?_
  refine r_lmul (np := 30) G dX12_normOf_29 rfl ?_
  refine r_ladd (np := 31) G dX12_normOf_30 rfl ?_
  exact r_lret G hr hk hM hm dX12_normOf_31
theorem gX12_normOf {v0 : Nat} {v1 : Int} {v3 : Int} {v5 : Int} {v7 : Int} {v9 : Int} {v11 : Int} {σ : mSt} {out : Int × mSt} (hm : mX12_normOf v0 v1 v3 v5 v7 v9 v11 σ = some out) : isC v0 11 := (g_t hm).1
set_option maxRecDepth 100000 in
set_option maxHeartbeats 4000000 in
theorem qX12_normAbove (l : Launch) (E : mE) (σ : mSt) (v0 : Nat) (v1 : Int) (out : Int × mSt) (hm : mX12_normAbove v0 v1 σ = some out) : mMet l yX12_normAbove cX12_normAbove 2 (some .long) 1 32 E 276 [.ref (eA E v0), vI v1] σ (some (vL out.1)) out.2 := by
  unfold mX12_normAbove at hm
  obtain ⟨g0, hm⟩ := g_t hm
  refine m_entry (by decide +kernel) (Nat.le_of_ble_eq_true rfl) (fun p e s m args below meth c G hr hk hM ls hl => ?_)
  have G : CallFix p m c cX12_normAbove 2 s args mTs RX12 := G
  have hl : lv_has ls 2 [(0, .ref (eA E v0)), (1, vI v1)] := hl
  refine r_aload_n (np := 1) G hl 0 rfl dX12_normAbove_0 rfl rfl ?_
  refine r_aload_n (np := 2) G hl 0 rfl dX12_normAbove_1 rfl rfl ?_
  refine r_iload_n (np := 3) G hl 1 rfl dX12_normAbove_2 rfl rfl ?_
  refine r_iconst (np := 4) G 0 dX12_normAbove_3 rfl ?_
  obtain ⟨b1, s2, e3, hm⟩ := call_t hm
  refine m_callVL (np := 7) G hM hl.1 [vI v1, vI 0] (qX12_part l E σ v0 v1 0 _ e3) myX12_part (shp_lt (gX12_part e3) (by decide)) (gX12_part e3) rfl (by decide) lkX12_294 ⟨Nat.le_of_ble_eq_true rfl, Nat.le_of_ble_eq_true rfl⟩ ⟨Nat.le_of_ble_eq_true rfl, Nat.le_of_ble_eq_true rfl⟩ [.ref (eA E v0)] rfl (Nat.le_of_ble_eq_true rfl) dX12_normAbove_4 rfl (fun H locs hM => ?_)
  refine r_aload_n (np := 8) G hl 0 rfl dX12_normAbove_7 rfl rfl ?_
  refine r_iload_n (np := 9) G hl 1 rfl dX12_normAbove_8 rfl rfl ?_
  refine r_iconst (np := 10) G 1 dX12_normAbove_9 rfl ?_
  obtain ⟨b4, s5, e6, hm⟩ := call_t hm
  refine m_callVL (np := 13) G hM hl.1 [vI v1, vI 1] (qX12_part l E s2 v0 v1 1 _ e6) myX12_part (shp_lt (gX12_part e6) (by decide)) (gX12_part e6) rfl (by decide) lkX12_294 ⟨Nat.le_of_ble_eq_true rfl, Nat.le_of_ble_eq_true rfl⟩ ⟨Nat.le_of_ble_eq_true rfl, Nat.le_of_ble_eq_true rfl⟩ [vL b1, .ref (eA E v0)] rfl (Nat.le_of_ble_eq_true rfl) dX12_normAbove_10 rfl (fun H locs hM => ?_)
  refine r_aload_n (np := 14) G hl 0 rfl dX12_normAbove_13 rfl rfl ?_
  refine r_iload_n (np := 15) G hl 1 rfl dX12_normAbove_14 rfl rfl ?_
  refine r_iconst (np := 16) G 2 dX12_normAbove_15 rfl ?_
  obtain ⟨b7, s8, e9, hm⟩ := call_t hm
  refine m_callVL (np := 19) G hM hl.1 [vI v1, vI 2] (qX12_part l E s5 v0 v1 2 _ e9) myX12_part (shp_lt (gX12_part e9) (by decide)) (gX12_part e9) rfl (by decide) lkX12_294 ⟨Nat.le_of_ble_eq_true rfl, Nat.le_of_ble_eq_true rfl⟩ ⟨Nat.le_of_ble_eq_true rfl, Nat.le_of_ble_eq_true rfl⟩ [vL b4, vL b1, .ref (eA E v0)] rfl (Nat.le_of_ble_eq_true rfl) dX12_normAbove_16 rfl (fun H locs hM => ?_)
  refine r_aload_n (np := 20) G hl 0 rfl dX12_normAbove_19 rfl rfl ?_
  refine r_iload_n (np := 21) G hl 1 rfl dX12_normAbove_20 rfl rfl ?_
  refine r_iconst (np := 22) G 3 dX12_normAbove_21 rfl ?_
  obtain ⟨b10, s11, e12, hm⟩ := call_t hm
  refine m_callVL (np := 25) G hM hl.1 [vI v1, vI 3] (qX12_part l E s8 v0 v1 3 _ e12) myX12_part (shp_lt (gX12_part e12) (by decide)) (gX12_part e12) rfl (by decide) lkX12_294 ⟨Nat.le_of_ble_eq_true rfl, Nat.le_of_ble_eq_true rfl⟩ ⟨Nat.le_of_ble_eq_true rfl, Nat.le_of_ble_eq_true rfl⟩ [vL b7, vL b4, vL b1, .ref (eA E v0)] rfl (Nat.le_of_ble_eq_true rfl) dX12_normAbove_22 rfl (fun H locs hM => ?_)
  refine r_aload_n (np := 26) G hl 0 rfl dX12_normAbove_25 rfl rfl ?_
  obtain ⟨r13, e14, hm⟩ := ref_t hm
  refine r_getR (np := 29) G hM (shp_lt g0 (by decide)) g0 e14 fdX12_15 lkX12_24 dX12_normAbove_26 rfl ?_
  refine r_aload_n (np := 30) G hl 0 rfl dX12_normAbove_29 rfl rfl ?_
  obtain ⟨r15, e16, hm⟩ := ref_t hm
  refine r_getR (np := 33) G hM (shp_lt g0 (by decide)) g0 e16 fdX12_22 lkX12_36 dX12_normAbove_30 rfl ?_
  refine r_iload_n (np := 34) G hl 1 rfl dX12_normAbove_33 rfl rfl ?_
  obtain ⟨g17, hm⟩ := g_t hm
  refine r_iaload (np := 35) G hM g17 rfl dX12_normAbove_34 rfl ?_
  obtain ⟨g18, hm⟩ := g_t hm
  refine r_iaload (np := 36) G hM g18 rfl dX12_normAbove_35 rfl ?_
  refine r_i2l (np := 37) G rfl dX12_normAbove_36 rfl ?_
  refine r_aload_n (np := 38) G hl 0 rfl dX12_normAbove_37 rfl rfl ?_
  obtain ⟨r19, e20, hm⟩ := ref_t hm
  refine r_getR (np := 41) G hM (shp_lt g0 (by decide)) g0 e20 fdX12_16 lkX12_27 dX12_normAbove_38 rfl ?_
  refine r_aload_n (np := 42) G hl 0 rfl dX12_normAbove_41 rfl rfl ?_
  obtain ⟨r21, e22, hm⟩ := ref_t hm
  refine r_getR (np := 45) G hM (shp_lt g0 (by decide)) g0 e22 fdX12_22 lkX12_36 dX12_normAbove_42 rfl ?_
  refine r_iload_n (np := 46) G hl 1 rfl dX12_normAbove_45 rfl rfl ?_
  obtain ⟨g23, hm⟩ := g_t hm
  refine r_iaload (np := 47) G hM g23 rfl dX12_normAbove_46 rfl ?_
  obtain ⟨g24, hm⟩ := g_t hm
  refine r_iaload (np := 48) G hM g24 rfl dX12_normAbove_47 rfl ?_
  refine r_i2l (np := 49) G rfl dX12_normAbove_48 rfl ?_
  obtain ⟨b25, s26, e27, hm⟩ := call_t hm
  refine m_callVL (np := 52) G hM hl.1 [vL b1, vL b4, vL b7, vL b10, vL (wI (s11 r13 (wI (s11 r15 (wI v1).toNat)).toNat)), vL (wI (s11 r19 (wI (s11 r21 (wI v1).toNat)).toNat))] (qX12_normOf l E s11 v0 b1 b4 b7 b10 (wI (s11 r13 (wI (s11 r15 (wI v1).toNat)).toNat)) (wI (s11 r19 (wI (s11 r21 (wI v1).toNat)).toNat)) _ e27) myX12_normOf (shp_lt (gX12_normOf e27) (by decide)) (gX12_normOf e27) rfl (by decide) lkX12_326 ⟨Nat.le_of_ble_eq_true rfl, Nat.le_of_ble_eq_true rfl⟩ ⟨Nat.le_of_ble_eq_true rfl, Nat.le_of_ble_eq_true rfl⟩ [] rfl (Nat.le_of_ble_eq_true rfl) dX12_normAbove_49 rfl (fun H locs hM => ?_)
  exact r_lret G hr hk hM hm dX12_normAbove_52
theorem gX12_normAbove {v0 : Nat} {v1 : Int} {σ : mSt} {out : Int × mSt} (hm : mX12_normAbove v0 v1 σ = some out) : isC v0 11 := (g_t hm).1
set_option maxRecDepth 100000 in
set_option maxHeartbeats 4000000 in
theorem wX12_inverse_B81 (l : Launch) (E : mE) (out : Int × mSt) {p : Program} {e : Env} {s : State} {m : MethodId} {args : Array Value} {below : List Frame} {meth : Method} {c : Code} (G : CallFix p m c cX12_inverse 6 s args mTs RX12) (hr : meth.sig.returnType = (some .int)) (hk : meth.locks = false) (v0 : Nat) (v1 : Int) (v2 : Int) (g0 : isC v0 11) : ∀ (v3 : Int) (σ : mSt) (H : Heap) (locs : List Loc) (ls : Array Slot), mX12_inverse_B81 v0 v1 v2 v3 σ = some out → mM (mA E 276) E 276 σ s H locs → lv_has ls 6 [(0, .ref (eA E v0)), (1, vI v1), (2, vI v2), (3, vL v3)] → mGo l p e 3 69 s m args below meth c E (some (vI out.1)) out.2 H locs (F0 m 81 ls []) := by
  intro v3 σ H locs ls hm hM hl
  unfold mX12_inverse_B81 at hm
  refine r_aload_n (np := 82) G hl 0 rfl dX12_inverse_81 rfl rfl ?_
  obtain ⟨r1, e2, hm⟩ := ref_t hm
  refine r_getR (np := 85) G hM (shp_lt g0 (by decide)) g0 e2 fdX12_24 lkX12_42 dX12_inverse_82 rfl ?_
  refine r_iconst (np := 86) G 4 dX12_inverse_85 rfl ?_
  refine r_lload_n (np := 87) G hl 3 rfl dX12_inverse_86 rfl rfl ?_
  obtain ⟨g3, hm⟩ := g_t hm
  obtain ⟨s4, e5, hm⟩ := bnd_t hm
  refine r_lastore (np := 88) G hM g3 rfl s4 e5 dX12_inverse_87 rfl (fun H locs hM => ?_)
  refine r_aload_n (np := 89) G hl 0 rfl dX12_inverse_88 rfl rfl ?_
  refine r_iload_n (np := 90) G hl 2 rfl dX12_inverse_89 rfl rfl ?_
  refine r_aload_n (np := 91) G hl 0 rfl dX12_inverse_90 rfl rfl ?_
  obtain ⟨r6, e7, hm⟩ := ref_t hm
  refine r_getR (np := 94) G hM (shp_lt g0 (by decide)) g0 e7 fdX12_22 lkX12_36 dX12_inverse_91 rfl ?_
  refine r_iload_n (np := 95) G hl 1 rfl dX12_inverse_94 rfl rfl ?_
  obtain ⟨g8, hm⟩ := g_t hm
  refine r_iaload (np := 96) G hM g8 rfl dX12_inverse_95 rfl ?_
  obtain ⟨b9, s10, e11, hm⟩ := call_t hm
  refine m_callVI (np := 99) G hM hl.1 [vI v2, vI (s4 r6 (wI v1).toNat)] (qX12_keeps l E s4 v0 v2 (s4 r6 (wI v1).toNat) _ e11) myX12_keeps (shp_lt (gX12_keeps e11) (by decide)) (gX12_keeps e11) rfl (by decide) lkX12_291 ⟨Nat.le_of_ble_eq_true rfl, Nat.le_of_ble_eq_true rfl⟩ ⟨Nat.le_of_ble_eq_true rfl, Nat.le_of_ble_eq_true rfl⟩ [] rfl (Nat.le_of_ble_eq_true rfl) dX12_inverse_96 rfl (fun H locs hM => ?_)
  exact r_iret G hr hk hM hm dX12_inverse_99
set_option maxRecDepth 100000 in
set_option maxHeartbeats 4000000 in
theorem wX12_inverse_B59 (l : Launch) (E : mE) (out : Int × mSt) {p : Program} {e : Env} {s : State} {m : MethodId} {args : Array Value} {below : List Frame} {meth : Method} {c : Code} (G : CallFix p m c cX12_inverse 6 s args mTs RX12) (hr : meth.sig.returnType = (some .int)) (hk : meth.locks = false) (v0 : Nat) (v1 : Int) (v2 : Int) (v3 : Int) (g0 : isC v0 11) (c35 : Int → mSt → Option (Int × mSt)) (x81 : mSt → Option (Int × mSt)) (hc35 : ∀ (v5 : Int) (σ : mSt) (H : Heap) (locs : List Loc) (ls : Array Slot), c35 v5 σ = some out → mM (mA E 276) E 276 σ s H locs → lv_has ls 6 [(0, .ref (eA E v0)), (1, vI v1), (2, vI v2), (3, vL v3), (5, vI v5)] → mGo l p e 3 69 s m args below meth c E (some (vI out.1)) out.2 H locs (F0 m 35 ls [])) (hx81 : ∀ (σ : mSt) (H : Heap) (locs : List Loc) (ls : Array Slot), x81 σ = some out → mM (mA E 276) E 276 σ s H locs → lv_has ls 6 [(0, .ref (eA E v0)), (1, vI v1), (2, vI v2), (3, vL v3)] → mGo l p e 3 69 s m args below meth c E (some (vI out.1)) out.2 H locs (F0 m 81 ls [])) : ∀ (v5 : Int) (t0 : Nat) (t1 : Int) (t2 : Int) (σ : mSt) (H : Heap) (locs : List Loc) (ls : Array Slot), mX12_inverse_B59 v0 v1 v2 v3 c35 x81 v5 t0 t1 t2 σ = some out → mM (mA E 276) E 276 σ s H locs → lv_has ls 6 [(0, .ref (eA E v0)), (1, vI v1), (2, vI v2), (3, vL v3), (5, vI v5)] → mGo l p e 3 69 s m args below meth c E (some (vI out.1)) out.2 H locs (F0 m 59 ls [vL t2, vI t1, .ref (eA E t0)]) := by
  intro v5 t0 t1 t2 σ H locs ls hm hM hl
  unfold mX12_inverse_B59 at hm
  refine r_aload_n (np := 60) G hl 0 rfl dX12_inverse_59 rfl rfl ?_
  refine r_iload_n (np := 61) G hl 1 rfl dX12_inverse_60 rfl rfl ?_
  refine r_iload (np := 63) G hl 4 rfl dX12_inverse_61 rfl ?_
  obtain ⟨b12, s13, e14, hm⟩ := call_t hm
  refine m_callVL (np := 66) G hM hl.1 [vI v1, vI v5] (qX12_part l E σ v0 v1 v5 _ e14) myX12_part (shp_lt (gX12_part e14) (by decide)) (gX12_part e14) rfl (by decide) lkX12_294 ⟨Nat.le_of_ble_eq_true rfl, Nat.le_of_ble_eq_true rfl⟩ ⟨Nat.le_of_ble_eq_true rfl, Nat.le_of_ble_eq_true rfl⟩ [vL t2, vI t1, .ref (eA E t0)] rfl (Nat.le_of_ble_eq_true rfl) dX12_inverse_63 rfl (fun H locs hM => ?_)
  refine r_lmul (np := 67) G dX12_inverse_66 rfl ?_
  refine r_aload_n (np := 68) G hl 0 rfl dX12_inverse_67 rfl rfl ?_
  refine r_iload_n (np := 69) G hl 1 rfl dX12_inverse_68 rfl rfl ?_
  refine r_iconst (np := 70) G 4 dX12_inverse_69 rfl ?_
  obtain ⟨b15, s16, e17, hm⟩ := call_t hm
  refine m_callVL (np := 73) G hM hl.1 [vI v1, vI 4] (qX12_part l E s13 v0 v1 4 _ e17) myX12_part (shp_lt (gX12_part e17) (by decide)) (gX12_part e17) rfl (by decide) lkX12_294 ⟨Nat.le_of_ble_eq_true rfl, Nat.le_of_ble_eq_true rfl⟩ ⟨Nat.le_of_ble_eq_true rfl, Nat.le_of_ble_eq_true rfl⟩ [vL (t2 * b12), vI t1, .ref (eA E t0)] rfl (Nat.le_of_ble_eq_true rfl) dX12_inverse_70 rfl (fun H locs hM => ?_)
  refine r_lmul (np := 74) G dX12_inverse_73 rfl ?_
  obtain ⟨g18, hm⟩ := g_t hm
  obtain ⟨s19, e20, hm⟩ := bnd_t hm
  refine r_lastore (np := 75) G hM g18 rfl s19 e20 dX12_inverse_74 rfl (fun H locs hM => ?_)
  obtain ⟨a21, e22, hm⟩ := bnd_t hm
  refine r_iinc (np := 78) G hl 4 rfl e22 [(5, vI a21), (0, .ref (eA E v0)), (1, vI v1), (2, vI v2), (3, vL v3)] dX12_inverse_75 rfl (by decide) rfl (fun ls hl => ?_)
  refine r_goto (np := 35) G dX12_inverse_78 (by decide) ?_
  exact hc35 a21 _ _ _ _ hm hM (lv_sub hl [1, 2, 3, 4, 0] rfl)
set_option maxRecDepth 100000 in
set_option maxHeartbeats 4000000 in
theorem wX12_inverse_L35 (l : Launch) (E : mE) (out : Int × mSt) {p : Program} {e : Env} {s : State} {m : MethodId} {args : Array Value} {below : List Frame} {meth : Method} {c : Code} (G : CallFix p m c cX12_inverse 6 s args mTs RX12) (hr : meth.sig.returnType = (some .int)) (hk : meth.locks = false) (v0 : Nat) (v1 : Int) (v2 : Int) (v3 : Int) (g0 : isC v0 11) (x81 : mSt → Option (Int × mSt)) (hx81 : ∀ (σ : mSt) (H : Heap) (locs : List Loc) (ls : Array Slot), x81 σ = some out → mM (mA E 276) E 276 σ s H locs → lv_has ls 6 [(0, .ref (eA E v0)), (1, vI v1), (2, vI v2), (3, vL v3)] → mGo l p e 3 69 s m args below meth c E (some (vI out.1)) out.2 H locs (F0 m 81 ls [])) : ∀ (n : Nat) (v5 : Int) (σ : mSt) (H : Heap) (locs : List Loc) (ls : Array Slot), mX12_inverse_L35 v0 v1 v2 v3 x81 n v5 σ = some out → mM (mA E 276) E 276 σ s H locs → lv_has ls 6 [(0, .ref (eA E v0)), (1, vI v1), (2, vI v2), (3, vL v3), (5, vI v5)] → mGo l p e 3 69 s m args below meth c E (some (vI out.1)) out.2 H locs (F0 m 35 ls []) := by
  intro n
  induction n with
  | zero =>
    intro v5 σ H locs ls hm hM hl
    exact absurd hm (by rw [mX12_inverse_L35.eq_1]; exact fun h => nomatch h)
  | succ n ih =>
    intro v5 σ H locs ls hm hM hl
    rw [mX12_inverse_L35.eq_2] at hm
    refine r_iload (np := 37) G hl 4 rfl dX12_inverse_35 rfl ?_
    refine r_iconst (np := 38) G 4 dX12_inverse_37 rfl ?_
    refine r_icmp_ge (np := 41) (tgt := 81) G rfl (wIk 4 rfl) dX12_inverse_38 (by decide) rfl (fun h23 => ?_) (fun h23 => ?_)
    · have hm := b_t h23 hm
      exact hx81 _ _ _ _ hm hM (lv_sub hl [0, 1, 2, 3] rfl)
    · have hm := b_f h23 hm
      refine r_aload_n (np := 42) G hl 0 rfl dX12_inverse_41 rfl rfl ?_
      obtain ⟨r24, e25, hm⟩ := ref_t hm
      refine r_getR (np := 45) G hM (shp_lt g0 (by decide)) g0 e25 fdX12_24 lkX12_42 dX12_inverse_42 rfl ?_
      refine r_iload (np := 47) G hl 4 rfl dX12_inverse_45 rfl ?_
      refine r_iload (np := 49) G hl 4 rfl dX12_inverse_47 rfl ?_
      refine r_if_ne (np := 52) (tgt := 56) G rfl dX12_inverse_49 (by decide) rfl (fun h26 => ?_) (fun h26 => ?_)
      · have hm := b_f h26 hm
        refine r_ldc2 (np := 59) G (-1) dX12_inverse_56 lkX12_324 rfl rfl ?_
        exact wX12_inverse_B59 l E out G hr hk v0 v1 v2 v3 g0 (mX12_inverse_L35 v0 v1 v2 v3 x81 n) x81 ih hx81 v5 r24 v5 (-1) _ _ _ _ hm hM (lv_sub hl [0, 1, 2, 3, 4] rfl)
      · have hm := b_t h26 hm
        refine r_lconst (np := 53) G 1 dX12_inverse_52 rfl rfl ?_
        refine r_goto (np := 59) G dX12_inverse_53 (by decide) ?_
        exact wX12_inverse_B59 l E out G hr hk v0 v1 v2 v3 g0 (mX12_inverse_L35 v0 v1 v2 v3 x81 n) x81 ih hx81 v5 r24 v5 1 _ _ _ _ hm hM (lv_sub hl [0, 1, 2, 3, 4] rfl)
set_option maxRecDepth 100000 in
set_option maxHeartbeats 4000000 in
theorem qX12_inverse (l : Launch) (E : mE) (σ : mSt) (v0 : Nat) (v1 : Int) (v2 : Int) (out : Int × mSt) (hm : mX12_inverse v0 v1 v2 σ = some out) : mMet l yX12_inverse cX12_inverse 6 (some .int) 3 69 E 276 [.ref (eA E v0), vI v1, vI v2] σ (some (vI out.1)) out.2 := by
  unfold mX12_inverse at hm
  obtain ⟨g0, hm⟩ := g_t hm
  refine m_entry (by decide +kernel) (Nat.le_of_ble_eq_true rfl) (fun p e s m args below meth c G hr hk hM ls hl => ?_)
  have G : CallFix p m c cX12_inverse 6 s args mTs RX12 := G
  have hl : lv_has ls 6 [(0, .ref (eA E v0)), (1, vI v1), (2, vI v2)] := hl
  refine r_aload_n (np := 1) G hl 0 rfl dX12_inverse_0 rfl rfl ?_
  refine r_iconst (np := 2) G 0 dX12_inverse_1 rfl ?_
  obtain ⟨s27, e28, hm⟩ := bnd_t hm
  refine r_putI (np := 5) G hM (shp_lt g0 (by decide)) g0 ptX12_0 rfl lkX12_75 s27 e28 dX12_inverse_2 rfl (fun H locs hM => ?_)
  refine r_aload_n (np := 6) G hl 0 rfl dX12_inverse_5 rfl rfl ?_
  refine r_iload_n (np := 7) G hl 1 rfl dX12_inverse_6 rfl rfl ?_
  refine r_iload_n (np := 8) G hl 1 rfl dX12_inverse_7 rfl rfl ?_
  refine r_iload_n (np := 9) G hl 2 rfl dX12_inverse_8 rfl rfl ?_
  obtain ⟨b29, s30, e31, hm⟩ := call_t hm
  refine m_callVI (np := 12) G hM hl.1 [vI v1, vI v1, vI v2] (qX12_areBeside l E s27 v0 v1 v1 v2 _ e31) myX12_areBeside (shp_lt (gX12_areBeside e31) (by decide)) (gX12_areBeside e31) rfl (by decide) lkX12_308 ⟨Nat.le_of_ble_eq_true rfl, Nat.le_of_ble_eq_true rfl⟩ ⟨Nat.le_of_ble_eq_true rfl, Nat.le_of_ble_eq_true rfl⟩ [] rfl (Nat.le_of_ble_eq_true rfl) dX12_inverse_9 rfl (fun H locs hM => ?_)
  refine r_if_ne (np := 15) (tgt := 17) G rfl dX12_inverse_12 (by decide) rfl (fun h32 => ?_) (fun h32 => ?_)
  · have hm := b_f h32 hm
    refine r_aload_n (np := 18) G hl 0 rfl dX12_inverse_17 rfl rfl ?_
    refine r_iload_n (np := 19) G hl 1 rfl dX12_inverse_18 rfl rfl ?_
    obtain ⟨b33, s34, e35, hm⟩ := call_t hm
    refine m_callVL (np := 22) G hM hl.1 [vI v1] (qX12_normAbove l E s30 v0 v1 _ e35) myX12_normAbove (shp_lt (gX12_normAbove e35) (by decide)) (gX12_normAbove e35) rfl (by decide) lkX12_330 ⟨Nat.le_of_ble_eq_true rfl, Nat.le_of_ble_eq_true rfl⟩ ⟨Nat.le_of_ble_eq_true rfl, Nat.le_of_ble_eq_true rfl⟩ [] rfl (Nat.le_of_ble_eq_true rfl) dX12_inverse_19 rfl (fun H locs hM => ?_)
    refine r_lstore_n (np := 23) G hl rfl [(3, vL b33), (0, .ref (eA E v0)), (1, vI v1), (2, vI v2)] dX12_inverse_22 rfl rfl (by decide) rfl (fun ls hl => ?_)
    refine r_lload_n (np := 24) G hl 0 rfl dX12_inverse_23 rfl rfl ?_
    refine r_lconst (np := 25) G 0 dX12_inverse_24 rfl rfl ?_
    refine r_lcmp_ne (np := 29) (tgt := 32) G rfl (wLk 0 rfl) dX12_inverse_25 dX12_inverse_26 (by decide) rfl (fun h36 => ?_) (fun h36 => ?_)
    · have hm := b_f h36 hm
      refine r_iconst (np := 33) G 0 dX12_inverse_32 rfl ?_
      refine r_istore (np := 35) G hl rfl [(5, vI 0), (3, vL b33), (0, .ref (eA E v0)), (1, vI v1), (2, vI v2)] dX12_inverse_33 rfl (by decide) rfl (fun ls hl => ?_)
      exact wX12_inverse_L35 l E out G hr hk v0 v1 v2 b33 g0 (fun zσ => mX12_inverse_B81 v0 v1 v2 b33 zσ) (fun zσ zH zl zs zm zM zv => wX12_inverse_B81 l E out G hr hk v0 v1 v2 g0 b33 zσ zH zl zs zm zM zv) mF 0 _ _ _ _ hm hM (lv_sub hl [2, 3, 4, 1, 0] rfl)
    · have hm := b_t h36 hm
      refine r_bipush (np := 31) G (-2) dX12_inverse_29 (by decide) rfl ?_
      exact r_iret G hr hk hM hm dX12_inverse_31
  · have hm := b_t h32 hm
    refine r_iconst (np := 16) G (-1) dX12_inverse_15 rfl ?_
    exact r_iret G hr hk hM hm dX12_inverse_16
theorem gX12_inverse {v0 : Nat} {v1 : Int} {v2 : Int} {σ : mSt} {out : Int × mSt} (hm : mX12_inverse v0 v1 v2 σ = some out) : isC v0 11 := (g_t hm).1
set_option maxRecDepth 100000 in
set_option maxHeartbeats 4000000 in
theorem qX12_told (l : Launch) (E : mE) (σ : mSt) (v0 : Int) (v2 : Int) (v4 : Int) (out : Int × mSt) (hm : mX12_told v0 v2 v4 σ = some out) : mMet l yX12_told cX12_told 7 (some .long) 1 29 E 276 [vL v0, vL v2, vI v4] σ (some (vL out.1)) out.2 := by
  unfold mX12_told at hm
  refine m_entry (by decide +kernel) (Nat.le_of_ble_eq_true rfl) (fun p e s m args below meth c G hr hk hM ls hl => ?_)
  have G : CallFix p m c cX12_told 7 s args mTs RX12 := G
  have hl : lv_has ls 7 [(0, vL v0), (2, vL v2), (4, vI v4)] := hl
  refine r_lload_n (np := 1) G hl 0 rfl dX12_told_0 rfl rfl ?_
  refine r_lload_n (np := 2) G hl 1 rfl dX12_told_1 rfl rfl ?_
  obtain ⟨b1, s2, e3, hm⟩ := call_t hm
  refine m_callSL (np := 5) G hM hl.1 [vL v0, vL v2] (qX12_common l E σ v0 v2 _ e3) myX12_common lkX12_280 ⟨Nat.le_of_ble_eq_true rfl, Nat.le_of_ble_eq_true rfl⟩ ⟨Nat.le_of_ble_eq_true rfl, Nat.le_of_ble_eq_true rfl⟩ [] rfl (Nat.le_of_ble_eq_true rfl) dX12_told_2 rfl (fun H locs hM => ?_)
  refine r_lstore (np := 7) G hl rfl [(5, vL b1), (0, vL v0), (2, vL v2), (4, vI v4)] dX12_told_5 rfl (by decide) rfl (fun ls hl => ?_)
  refine r_iload (np := 9) G hl 3 rfl dX12_told_7 rfl ?_
  refine r_if_ne (np := 12) (tgt := 16) G rfl dX12_told_9 (by decide) rfl (fun h4 => ?_) (fun h4 => ?_)
  · have hm := b_f h4 hm
    refine r_lload_n (np := 17) G hl 2 rfl dX12_told_16 rfl rfl ?_
    refine r_lload (np := 19) G hl 0 rfl dX12_told_17 rfl ?_
    obtain ⟨g5, hm⟩ := g_t hm
    refine r_ldiv (np := 20) G g5 dX12_told_19 rfl ?_
    exact r_lret G hr hk hM hm dX12_told_20
  · have hm := b_t h4 hm
    refine r_lload_n (np := 13) G hl 1 rfl dX12_told_12 rfl rfl ?_
    refine r_goto (np := 17) G dX12_told_13 (by decide) ?_
    refine r_lload (np := 19) G hl 0 rfl dX12_told_17 rfl ?_
    obtain ⟨g6, hm⟩ := g_t hm
    refine r_ldiv (np := 20) G g6 dX12_told_19 rfl ?_
    exact r_lret G hr hk hM hm dX12_told_20
set_option maxRecDepth 100000 in
set_option maxHeartbeats 4000000 in
theorem wX12_norm_B24 (l : Launch) (E : mE) (out : Int × mSt) {p : Program} {e : Env} {s : State} {m : MethodId} {args : Array Value} {below : List Frame} {meth : Method} {c : Code} (G : CallFix p m c cX12_norm 3 s args mTs RX12) (hr : meth.sig.returnType = (some .long)) (hk : meth.locks = false) (v0 : Nat) (v1 : Int) (v2 : Int) (g0 : isC v0 11) : ∀ (t0 : Nat) (t1 : Int) (σ : mSt) (H : Heap) (locs : List Loc) (ls : Array Slot), mX12_norm_B24 v0 v1 v2 t0 t1 σ = some out → mM (mA E 276) E 276 σ s H locs → lv_has ls 3 [(0, .ref (eA E v0)), (1, vI v1), (2, vI v2)] → mGo l p e 2 55 s m args below meth c E (some (vL out.1)) out.2 H locs (F0 m 24 ls [vI t1, .ref (eA E t0)]) := by
  intro t0 t1 σ H locs ls hm hM hl
  unfold mX12_norm_B24 at hm
  obtain ⟨g1, hm⟩ := g_t hm
  obtain ⟨s2, e3, hm⟩ := bnd_t hm
  refine r_putI (np := 27) G hM (shp_lt g1 (by decide)) g1 ptX12_0 rfl lkX12_75 s2 e3 dX12_norm_24 rfl (fun H locs hM => ?_)
  refine r_aload_n (np := 28) G hl 0 rfl dX12_norm_27 rfl rfl ?_
  refine r_getI (np := 31) G hM (shp_lt g0 (by decide)) g0 fdX12_0 lkX12_75 dX12_norm_28 rfl ?_
  refine r_iconst (np := 32) G 1 dX12_norm_31 rfl ?_
  refine r_icmp_ne (np := 35) (tgt := 39) G rfl (wIk 1 rfl) dX12_norm_32 (by decide) rfl (fun h4 => ?_) (fun h4 => ?_)
  · have hm := b_f h4 hm
    refine r_aload_n (np := 40) G hl 0 rfl dX12_norm_39 rfl rfl ?_
    refine r_iload_n (np := 41) G hl 1 rfl dX12_norm_40 rfl rfl ?_
    obtain ⟨b5, s6, e7, hm⟩ := call_t hm
    refine m_callVL (np := 44) G hM hl.1 [vI v1] (qX12_normAbove l E s2 v0 v1 _ e7) myX12_normAbove (shp_lt (gX12_normAbove e7) (by decide)) (gX12_normAbove e7) rfl (by decide) lkX12_330 ⟨Nat.le_of_ble_eq_true rfl, Nat.le_of_ble_eq_true rfl⟩ ⟨Nat.le_of_ble_eq_true rfl, Nat.le_of_ble_eq_true rfl⟩ [] rfl (Nat.le_of_ble_eq_true rfl) dX12_norm_41 rfl (fun H locs hM => ?_)
    refine r_aload_n (np := 45) G hl 0 rfl dX12_norm_44 rfl rfl ?_
    refine r_iload_n (np := 46) G hl 1 rfl dX12_norm_45 rfl rfl ?_
    refine r_iconst (np := 47) G 4 dX12_norm_46 rfl ?_
    obtain ⟨b8, s9, e10, hm⟩ := call_t hm
    refine m_callVL (np := 50) G hM hl.1 [vI v1, vI 4] (qX12_part l E s6 v0 v1 4 _ e10) myX12_part (shp_lt (gX12_part e10) (by decide)) (gX12_part e10) rfl (by decide) lkX12_294 ⟨Nat.le_of_ble_eq_true rfl, Nat.le_of_ble_eq_true rfl⟩ ⟨Nat.le_of_ble_eq_true rfl, Nat.le_of_ble_eq_true rfl⟩ [vL b5] rfl (Nat.le_of_ble_eq_true rfl) dX12_norm_47 rfl (fun H locs hM => ?_)
    refine r_aload_n (np := 51) G hl 0 rfl dX12_norm_50 rfl rfl ?_
    refine r_iload_n (np := 52) G hl 1 rfl dX12_norm_51 rfl rfl ?_
    refine r_iconst (np := 53) G 4 dX12_norm_52 rfl ?_
    obtain ⟨b11, s12, e13, hm⟩ := call_t hm
    refine m_callVL (np := 56) G hM hl.1 [vI v1, vI 4] (qX12_part l E s9 v0 v1 4 _ e13) myX12_part (shp_lt (gX12_part e13) (by decide)) (gX12_part e13) rfl (by decide) lkX12_294 ⟨Nat.le_of_ble_eq_true rfl, Nat.le_of_ble_eq_true rfl⟩ ⟨Nat.le_of_ble_eq_true rfl, Nat.le_of_ble_eq_true rfl⟩ [vL b8, vL b5] rfl (Nat.le_of_ble_eq_true rfl) dX12_norm_53 rfl (fun H locs hM => ?_)
    refine r_lmul (np := 57) G dX12_norm_56 rfl ?_
    refine r_iload_n (np := 58) G hl 2 rfl dX12_norm_57 rfl rfl ?_
    obtain ⟨b14, s15, e16, hm⟩ := call_t hm
    refine m_callSL (np := 61) G hM hl.1 [vL b5, vL (b8 * b11), vI v2] (qX12_told l E s12 b5 (b8 * b11) v2 _ e16) myX12_told lkX12_334 ⟨Nat.le_of_ble_eq_true rfl, Nat.le_of_ble_eq_true rfl⟩ ⟨Nat.le_of_ble_eq_true rfl, Nat.le_of_ble_eq_true rfl⟩ [] rfl (Nat.le_of_ble_eq_true rfl) dX12_norm_58 rfl (fun H locs hM => ?_)
    exact r_lret G hr hk hM hm dX12_norm_61
  · have hm := b_t h4 hm
    refine r_lconst (np := 36) G 0 dX12_norm_35 rfl rfl ?_
    refine r_goto (np := 61) G dX12_norm_36 (by decide) ?_
    exact r_lret G hr hk hM hm dX12_norm_61
set_option maxRecDepth 100000 in
set_option maxHeartbeats 4000000 in
theorem wX12_norm_B23 (l : Launch) (E : mE) (out : Int × mSt) {p : Program} {e : Env} {s : State} {m : MethodId} {args : Array Value} {below : List Frame} {meth : Method} {c : Code} (G : CallFix p m c cX12_norm 3 s args mTs RX12) (hr : meth.sig.returnType = (some .long)) (hk : meth.locks = false) (v0 : Nat) (v1 : Int) (v2 : Int) (g0 : isC v0 11) : ∀ (t0 : Nat) (σ : mSt) (H : Heap) (locs : List Loc) (ls : Array Slot), mX12_norm_B23 v0 v1 v2 t0 σ = some out → mM (mA E 276) E 276 σ s H locs → lv_has ls 3 [(0, .ref (eA E v0)), (1, vI v1), (2, vI v2)] → mGo l p e 2 55 s m args below meth c E (some (vL out.1)) out.2 H locs (F0 m 23 ls [.ref (eA E t0)]) := by
  intro t0 σ H locs ls hm hM hl
  unfold mX12_norm_B23 at hm
  refine r_iconst (np := 24) G 1 dX12_norm_23 rfl ?_
  exact wX12_norm_B24 l E out G hr hk v0 v1 v2 g0 t0 1 _ _ _ _ hm hM (lv_sub hl [0, 1, 2] rfl)
set_option maxRecDepth 100000 in
set_option maxHeartbeats 4000000 in
theorem qX12_norm (l : Launch) (E : mE) (σ : mSt) (v0 : Nat) (v1 : Int) (v2 : Int) (out : Int × mSt) (hm : mX12_norm v0 v1 v2 σ = some out) : mMet l yX12_norm cX12_norm 3 (some .long) 2 55 E 276 [.ref (eA E v0), vI v1, vI v2] σ (some (vL out.1)) out.2 := by
  unfold mX12_norm at hm
  obtain ⟨g0, hm⟩ := g_t hm
  refine m_entry (by decide +kernel) (Nat.le_of_ble_eq_true rfl) (fun p e s m args below meth c G hr hk hM ls hl => ?_)
  have G : CallFix p m c cX12_norm 3 s args mTs RX12 := G
  have hl : lv_has ls 3 [(0, .ref (eA E v0)), (1, vI v1), (2, vI v2)] := hl
  refine r_aload_n (np := 1) G hl 0 rfl dX12_norm_0 rfl rfl ?_
  refine r_aload_n (np := 2) G hl 0 rfl dX12_norm_1 rfl rfl ?_
  refine r_iload_n (np := 3) G hl 1 rfl dX12_norm_2 rfl rfl ?_
  obtain ⟨b17, s18, e19, hm⟩ := call_t hm
  refine m_callVI (np := 6) G hM hl.1 [vI v1] (qX12_isKept l E σ v0 v1 _ e19) myX12_isKept (shp_lt (gX12_isKept e19) (by decide)) (gX12_isKept e19) rfl (by decide) lkX12_297 ⟨Nat.le_of_ble_eq_true rfl, Nat.le_of_ble_eq_true rfl⟩ ⟨Nat.le_of_ble_eq_true rfl, Nat.le_of_ble_eq_true rfl⟩ [.ref (eA E v0)] rfl (Nat.le_of_ble_eq_true rfl) dX12_norm_3 rfl (fun H locs hM => ?_)
  refine r_if_eq (np := 9) (tgt := 23) G rfl dX12_norm_6 (by decide) rfl (fun h20 => ?_) (fun h20 => ?_)
  · have hm := b_t h20 hm
    exact wX12_norm_B23 l E out G hr hk v0 v1 v2 g0 v0 _ _ _ _ hm hM (lv_sub hl [0, 1, 2] rfl)
  · have hm := b_f h20 hm
    refine r_iload_n (np := 10) G hl 2 rfl dX12_norm_9 rfl rfl ?_
    refine r_i2l (np := 11) G rfl dX12_norm_10 rfl ?_
    refine r_lconst (np := 12) G 0 dX12_norm_11 rfl rfl ?_
    refine r_lconst (np := 13) G 1 dX12_norm_12 rfl rfl ?_
    obtain ⟨b21, s22, e23, hm⟩ := call_t hm
    refine m_callSI (np := 16) G hM hl.1 [vL (wI v2), vL 0, vL 1] (qX12_within l E s18 (wI v2) 0 1 _ e23) myX12_within lkX12_113 ⟨Nat.le_of_ble_eq_true rfl, Nat.le_of_ble_eq_true rfl⟩ ⟨Nat.le_of_ble_eq_true rfl, Nat.le_of_ble_eq_true rfl⟩ [.ref (eA E v0)] rfl (Nat.le_of_ble_eq_true rfl) dX12_norm_13 rfl (fun H locs hM => ?_)
    refine r_if_eq (np := 19) (tgt := 23) G rfl dX12_norm_16 (by decide) rfl (fun h24 => ?_) (fun h24 => ?_)
    · have hm := b_t h24 hm
      exact wX12_norm_B23 l E out G hr hk v0 v1 v2 g0 v0 _ _ _ _ hm hM (lv_sub hl [0, 1, 2] rfl)
    · have hm := b_f h24 hm
      refine r_iconst (np := 20) G 0 dX12_norm_19 rfl ?_
      refine r_goto (np := 24) G dX12_norm_20 (by decide) ?_
      exact wX12_norm_B24 l E out G hr hk v0 v1 v2 g0 v0 0 _ _ _ _ hm hM (lv_sub hl [0, 1, 2] rfl)
theorem gX12_norm {v0 : Nat} {v1 : Int} {v2 : Int} {σ : mSt} {out : Int × mSt} (hm : mX12_norm v0 v1 v2 σ = some out) : isC v0 11 := (g_t hm).1
set_option maxRecDepth 100000 in
set_option maxHeartbeats 4000000 in
theorem wX12_trace_B24 (l : Launch) (E : mE) (out : Int × mSt) {p : Program} {e : Env} {s : State} {m : MethodId} {args : Array Value} {below : List Frame} {meth : Method} {c : Code} (G : CallFix p m c cX12_trace 3 s args mTs RX12) (hr : meth.sig.returnType = (some .long)) (hk : meth.locks = false) (v0 : Nat) (v1 : Int) (v2 : Int) (g0 : isC v0 11) : ∀ (t0 : Nat) (t1 : Int) (σ : mSt) (H : Heap) (locs : List Loc) (ls : Array Slot), mX12_trace_B24 v0 v1 v2 t0 t1 σ = some out → mM (mA E 276) E 276 σ s H locs → lv_has ls 3 [(0, .ref (eA E v0)), (1, vI v1), (2, vI v2)] → mGo l p e 2 55 s m args below meth c E (some (vL out.1)) out.2 H locs (F0 m 24 ls [vI t1, .ref (eA E t0)]) := by
  intro t0 t1 σ H locs ls hm hM hl
  unfold mX12_trace_B24 at hm
  obtain ⟨g1, hm⟩ := g_t hm
  obtain ⟨s2, e3, hm⟩ := bnd_t hm
  refine r_putI (np := 27) G hM (shp_lt g1 (by decide)) g1 ptX12_0 rfl lkX12_75 s2 e3 dX12_trace_24 rfl (fun H locs hM => ?_)
  refine r_aload_n (np := 28) G hl 0 rfl dX12_trace_27 rfl rfl ?_
  refine r_getI (np := 31) G hM (shp_lt g0 (by decide)) g0 fdX12_0 lkX12_75 dX12_trace_28 rfl ?_
  refine r_iconst (np := 32) G 1 dX12_trace_31 rfl ?_
  refine r_icmp_ne (np := 35) (tgt := 39) G rfl (wIk 1 rfl) dX12_trace_32 (by decide) rfl (fun h4 => ?_) (fun h4 => ?_)
  · have hm := b_f h4 hm
    refine r_ldc2 (np := 42) G 2 dX12_trace_39 lkX12_264 rfl rfl ?_
    refine r_aload_n (np := 43) G hl 0 rfl dX12_trace_42 rfl rfl ?_
    refine r_iload_n (np := 44) G hl 1 rfl dX12_trace_43 rfl rfl ?_
    refine r_iconst (np := 45) G 0 dX12_trace_44 rfl ?_
    obtain ⟨b5, s6, e7, hm⟩ := call_t hm
    refine m_callVL (np := 48) G hM hl.1 [vI v1, vI 0] (qX12_part l E s2 v0 v1 0 _ e7) myX12_part (shp_lt (gX12_part e7) (by decide)) (gX12_part e7) rfl (by decide) lkX12_294 ⟨Nat.le_of_ble_eq_true rfl, Nat.le_of_ble_eq_true rfl⟩ ⟨Nat.le_of_ble_eq_true rfl, Nat.le_of_ble_eq_true rfl⟩ [vL 2] rfl (Nat.le_of_ble_eq_true rfl) dX12_trace_45 rfl (fun H locs hM => ?_)
    refine r_lmul (np := 49) G dX12_trace_48 rfl ?_
    refine r_aload_n (np := 50) G hl 0 rfl dX12_trace_49 rfl rfl ?_
    refine r_iload_n (np := 51) G hl 1 rfl dX12_trace_50 rfl rfl ?_
    refine r_iconst (np := 52) G 4 dX12_trace_51 rfl ?_
    obtain ⟨b8, s9, e10, hm⟩ := call_t hm
    refine m_callVL (np := 55) G hM hl.1 [vI v1, vI 4] (qX12_part l E s6 v0 v1 4 _ e10) myX12_part (shp_lt (gX12_part e10) (by decide)) (gX12_part e10) rfl (by decide) lkX12_294 ⟨Nat.le_of_ble_eq_true rfl, Nat.le_of_ble_eq_true rfl⟩ ⟨Nat.le_of_ble_eq_true rfl, Nat.le_of_ble_eq_true rfl⟩ [vL (2 * b5)] rfl (Nat.le_of_ble_eq_true rfl) dX12_trace_52 rfl (fun H locs hM => ?_)
    refine r_iload_n (np := 56) G hl 2 rfl dX12_trace_55 rfl rfl ?_
    obtain ⟨b11, s12, e13, hm⟩ := call_t hm
    refine m_callSL (np := 59) G hM hl.1 [vL (2 * b5), vL b8, vI v2] (qX12_told l E s9 (2 * b5) b8 v2 _ e13) myX12_told lkX12_334 ⟨Nat.le_of_ble_eq_true rfl, Nat.le_of_ble_eq_true rfl⟩ ⟨Nat.le_of_ble_eq_true rfl, Nat.le_of_ble_eq_true rfl⟩ [] rfl (Nat.le_of_ble_eq_true rfl) dX12_trace_56 rfl (fun H locs hM => ?_)
    exact r_lret G hr hk hM hm dX12_trace_59
  · have hm := b_t h4 hm
    refine r_lconst (np := 36) G 0 dX12_trace_35 rfl rfl ?_
    refine r_goto (np := 59) G dX12_trace_36 (by decide) ?_
    exact r_lret G hr hk hM hm dX12_trace_59
set_option maxRecDepth 100000 in
set_option maxHeartbeats 4000000 in
theorem wX12_trace_B23 (l : Launch) (E : mE) (out : Int × mSt) {p : Program} {e : Env} {s : State} {m : MethodId} {args : Array Value} {below : List Frame} {meth : Method} {c : Code} (G : CallFix p m c cX12_trace 3 s args mTs RX12) (hr : meth.sig.returnType = (some .long)) (hk : meth.locks = false) (v0 : Nat) (v1 : Int) (v2 : Int) (g0 : isC v0 11) : ∀ (t0 : Nat) (σ : mSt) (H : Heap) (locs : List Loc) (ls : Array Slot), mX12_trace_B23 v0 v1 v2 t0 σ = some out → mM (mA E 276) E 276 σ s H locs → lv_has ls 3 [(0, .ref (eA E v0)), (1, vI v1), (2, vI v2)] → mGo l p e 2 55 s m args below meth c E (some (vL out.1)) out.2 H locs (F0 m 23 ls [.ref (eA E t0)]) := by
  intro t0 σ H locs ls hm hM hl
  unfold mX12_trace_B23 at hm
  refine r_iconst (np := 24) G 1 dX12_trace_23 rfl ?_
  exact wX12_trace_B24 l E out G hr hk v0 v1 v2 g0 t0 1 _ _ _ _ hm hM (lv_sub hl [0, 1, 2] rfl)
set_option maxRecDepth 100000 in
set_option maxHeartbeats 4000000 in
theorem qX12_trace (l : Launch) (E : mE) (σ : mSt) (v0 : Nat) (v1 : Int) (v2 : Int) (out : Int × mSt) (hm : mX12_trace v0 v1 v2 σ = some out) : mMet l yX12_trace cX12_trace 3 (some .long) 2 55 E 276 [.ref (eA E v0), vI v1, vI v2] σ (some (vL out.1)) out.2 := by
  unfold mX12_trace at hm
  obtain ⟨g0, hm⟩ := g_t hm
  refine m_entry (by decide +kernel) (Nat.le_of_ble_eq_true rfl) (fun p e s m args below meth c G hr hk hM ls hl => ?_)
  have G : CallFix p m c cX12_trace 3 s args mTs RX12 := G
  have hl : lv_has ls 3 [(0, .ref (eA E v0)), (1, vI v1), (2, vI v2)] := hl
  refine r_aload_n (np := 1) G hl 0 rfl dX12_trace_0 rfl rfl ?_
  refine r_aload_n (np := 2) G hl 0 rfl dX12_trace_1 rfl rfl ?_
  refine r_iload_n (np := 3) G hl 1 rfl dX12_trace_2 rfl rfl ?_
  obtain ⟨b14, s15, e16, hm⟩ := call_t hm
  refine m_callVI (np := 6) G hM hl.1 [vI v1] (qX12_isKept l E σ v0 v1 _ e16) myX12_isKept (shp_lt (gX12_isKept e16) (by decide)) (gX12_isKept e16) rfl (by decide) lkX12_297 ⟨Nat.le_of_ble_eq_true rfl, Nat.le_of_ble_eq_true rfl⟩ ⟨Nat.le_of_ble_eq_true rfl, Nat.le_of_ble_eq_true rfl⟩ [.ref (eA E v0)] rfl (Nat.le_of_ble_eq_true rfl) dX12_trace_3 rfl (fun H locs hM => ?_)
  refine r_if_eq (np := 9) (tgt := 23) G rfl dX12_trace_6 (by decide) rfl (fun h17 => ?_) (fun h17 => ?_)
  · have hm := b_t h17 hm
    exact wX12_trace_B23 l E out G hr hk v0 v1 v2 g0 v0 _ _ _ _ hm hM (lv_sub hl [0, 1, 2] rfl)
  · have hm := b_f h17 hm
    refine r_iload_n (np := 10) G hl 2 rfl dX12_trace_9 rfl rfl ?_
    refine r_i2l (np := 11) G rfl dX12_trace_10 rfl ?_
    refine r_lconst (np := 12) G 0 dX12_trace_11 rfl rfl ?_
    refine r_lconst (np := 13) G 1 dX12_trace_12 rfl rfl ?_
    obtain ⟨b18, s19, e20, hm⟩ := call_t hm
    refine m_callSI (np := 16) G hM hl.1 [vL (wI v2), vL 0, vL 1] (qX12_within l E s15 (wI v2) 0 1 _ e20) myX12_within lkX12_113 ⟨Nat.le_of_ble_eq_true rfl, Nat.le_of_ble_eq_true rfl⟩ ⟨Nat.le_of_ble_eq_true rfl, Nat.le_of_ble_eq_true rfl⟩ [.ref (eA E v0)] rfl (Nat.le_of_ble_eq_true rfl) dX12_trace_13 rfl (fun H locs hM => ?_)
    refine r_if_eq (np := 19) (tgt := 23) G rfl dX12_trace_16 (by decide) rfl (fun h21 => ?_) (fun h21 => ?_)
    · have hm := b_t h21 hm
      exact wX12_trace_B23 l E out G hr hk v0 v1 v2 g0 v0 _ _ _ _ hm hM (lv_sub hl [0, 1, 2] rfl)
    · have hm := b_f h21 hm
      refine r_iconst (np := 20) G 0 dX12_trace_19 rfl ?_
      refine r_goto (np := 24) G dX12_trace_20 (by decide) ?_
      exact wX12_trace_B24 l E out G hr hk v0 v1 v2 g0 v0 0 _ _ _ _ hm hM (lv_sub hl [0, 1, 2] rfl)
theorem gX12_trace {v0 : Nat} {v1 : Int} {v2 : Int} {σ : mSt} {out : Int × mSt} (hm : mX12_trace v0 v1 v2 σ = some out) : isC v0 11 := (g_t hm).1
set_option maxRecDepth 100000 in
set_option maxHeartbeats 4000000 in
theorem wX12_root_B15 (l : Launch) (E : mE) (out : Int × mSt) {p : Program} {e : Env} {s : State} {m : MethodId} {args : Array Value} {below : List Frame} {meth : Method} {c : Code} (G : CallFix p m c cX12_root 2 s args mTs RX12) (hr : meth.sig.returnType = (some .int)) (hk : meth.locks = false) (v0 : Int) : ∀ (v1 : Int) (σ : mSt) (H : Heap) (locs : List Loc) (ls : Array Slot), mX12_root_B15 v0 v1 σ = some out → mM (mA E 276) E 276 σ s H locs → lv_has ls 2 [(0, vI v0), (1, vI v1)] → mGo l p e 0 0 s m args below meth c E (some (vI out.1)) out.2 H locs (F0 m 15 ls []) := by
  intro v1 σ H locs ls hm hM hl
  unfold mX12_root_B15 at hm
  refine r_iload_n (np := 16) G hl 1 rfl dX12_root_15 rfl rfl ?_
  refine r_iload_n (np := 17) G hl 1 rfl dX12_root_16 rfl rfl ?_
  refine r_imul (np := 18) G dX12_root_17 rfl ?_
  refine r_iload_n (np := 19) G hl 0 rfl dX12_root_18 rfl rfl ?_
  refine r_icmp_ne (np := 22) (tgt := 26) G rfl rfl dX12_root_19 (by decide) rfl (fun h1 => ?_) (fun h1 => ?_)
  · have hm := b_f h1 hm
    refine r_iconst (np := 27) G (-1) dX12_root_26 rfl ?_
    exact r_iret G hr hk hM hm dX12_root_27
  · have hm := b_t h1 hm
    refine r_iload_n (np := 23) G hl 1 rfl dX12_root_22 rfl rfl ?_
    refine r_goto (np := 27) G dX12_root_23 (by decide) ?_
    exact r_iret G hr hk hM hm dX12_root_27
set_option maxRecDepth 100000 in
set_option maxHeartbeats 4000000 in
theorem wX12_root_L2 (l : Launch) (E : mE) (out : Int × mSt) {p : Program} {e : Env} {s : State} {m : MethodId} {args : Array Value} {below : List Frame} {meth : Method} {c : Code} (G : CallFix p m c cX12_root 2 s args mTs RX12) (hr : meth.sig.returnType = (some .int)) (hk : meth.locks = false) (v0 : Int) (x15 : Int → mSt → Option (Int × mSt)) (hx15 : ∀ (v1 : Int) (σ : mSt) (H : Heap) (locs : List Loc) (ls : Array Slot), x15 v1 σ = some out → mM (mA E 276) E 276 σ s H locs → lv_has ls 2 [(0, vI v0), (1, vI v1)] → mGo l p e 0 0 s m args below meth c E (some (vI out.1)) out.2 H locs (F0 m 15 ls [])) : ∀ (n : Nat) (v1 : Int) (σ : mSt) (H : Heap) (locs : List Loc) (ls : Array Slot), mX12_root_L2 v0 x15 n v1 σ = some out → mM (mA E 276) E 276 σ s H locs → lv_has ls 2 [(0, vI v0), (1, vI v1)] → mGo l p e 0 0 s m args below meth c E (some (vI out.1)) out.2 H locs (F0 m 2 ls []) := by
  intro n
  induction n with
  | zero =>
    intro v1 σ H locs ls hm hM hl
    exact absurd hm (by rw [mX12_root_L2.eq_1]; exact fun h => nomatch h)
  | succ n ih =>
    intro v1 σ H locs ls hm hM hl
    rw [mX12_root_L2.eq_2] at hm
    refine r_iload_n (np := 3) G hl 1 rfl dX12_root_2 rfl rfl ?_
    refine r_iload_n (np := 4) G hl 1 rfl dX12_root_3 rfl rfl ?_
    refine r_imul (np := 5) G dX12_root_4 rfl ?_
    refine r_iload_n (np := 6) G hl 0 rfl dX12_root_5 rfl rfl ?_
    refine r_icmp_ge (np := 9) (tgt := 15) G rfl rfl dX12_root_6 (by decide) rfl (fun h2 => ?_) (fun h2 => ?_)
    · have hm := b_t h2 hm
      exact hx15 v1 _ _ _ _ hm hM (lv_sub hl [0, 1] rfl)
    · have hm := b_f h2 hm
      obtain ⟨a3, e4, hm⟩ := bnd_t hm
      refine r_iinc (np := 12) G hl 1 rfl e4 [(1, vI a3), (0, vI v0)] dX12_root_9 rfl (by decide) rfl (fun ls hl => ?_)
      refine r_goto (np := 2) G dX12_root_12 (by decide) ?_
      exact ih a3 _ _ _ _ hm hM (lv_sub hl [1, 0] rfl)
set_option maxRecDepth 100000 in
set_option maxHeartbeats 4000000 in
theorem qX12_root (l : Launch) (E : mE) (σ : mSt) (v0 : Int) (out : Int × mSt) (hm : mX12_root v0 σ = some out) : mMet l yX12_root cX12_root 2 (some .int) 0 0 E 276 [vI v0] σ (some (vI out.1)) out.2 := by
  unfold mX12_root at hm
  refine m_entry (by decide +kernel) (Nat.le_of_ble_eq_true rfl) (fun p e s m args below meth c G hr hk hM ls hl => ?_)
  have G : CallFix p m c cX12_root 2 s args mTs RX12 := G
  have hl : lv_has ls 2 [(0, vI v0)] := hl
  refine r_iconst (np := 1) G 0 dX12_root_0 rfl ?_
  refine r_istore_n (np := 2) G hl rfl [(1, vI 0), (0, vI v0)] dX12_root_1 rfl rfl (by decide) rfl (fun ls hl => ?_)
  exact wX12_root_L2 l E out G hr hk v0 (fun z1 zσ => mX12_root_B15 v0 z1 zσ) (fun z1 zσ zH zl zs zm zM zv => wX12_root_B15 l E out G hr hk v0 z1 zσ zH zl zs zm zM zv) mF 0 _ _ _ _ hm hM (lv_sub hl [1, 0] rfl)
set_option maxRecDepth 100000 in
set_option maxHeartbeats 4000000 in
theorem wX12_solves_B94 (l : Launch) (E : mE) (out : Int × mSt) {p : Program} {e : Env} {s : State} {m : MethodId} {args : Array Value} {below : List Frame} {meth : Method} {c : Code} (G : CallFix p m c cX12_solves 5 s args mTs RX12) (hr : meth.sig.returnType = (some .boolean)) (hk : meth.locks = false) (v0 : Nat) (v1 : Int) (g0 : isC v0 11) : ∀ (σ : mSt) (H : Heap) (locs : List Loc) (ls : Array Slot), mX12_solves_B94 v0 v1 σ = some out → mM (mA E 276) E 276 σ s H locs → lv_has ls 5 [] → mGo l p e 1 21 s m args below meth c E (some (vI out.1)) out.2 H locs (F0 m 94 ls []) := by
  intro σ H locs ls hm hM hl
  unfold mX12_solves_B94 at hm
  refine r_iconst (np := 95) G 0 dX12_solves_94 rfl ?_
  exact r_zret G hr hk hM (Or.inl rfl) hm dX12_solves_95
set_option maxRecDepth 100000 in
set_option maxHeartbeats 4000000 in
theorem wX12_solves_B88 (l : Launch) (E : mE) (out : Int × mSt) {p : Program} {e : Env} {s : State} {m : MethodId} {args : Array Value} {below : List Frame} {meth : Method} {c : Code} (G : CallFix p m c cX12_solves 5 s args mTs RX12) (hr : meth.sig.returnType = (some .boolean)) (hk : meth.locks = false) (v0 : Nat) (v1 : Int) (g0 : isC v0 11) (c2 : Int → mSt → Option (Int × mSt)) (x94 : mSt → Option (Int × mSt)) (hc2 : ∀ (v2 : Int) (σ : mSt) (H : Heap) (locs : List Loc) (ls : Array Slot), c2 v2 σ = some out → mM (mA E 276) E 276 σ s H locs → lv_has ls 5 [(0, .ref (eA E v0)), (1, vI v1), (2, vI v2)] → mGo l p e 1 21 s m args below meth c E (some (vI out.1)) out.2 H locs (F0 m 2 ls [])) (hx94 : ∀ (σ : mSt) (H : Heap) (locs : List Loc) (ls : Array Slot), x94 σ = some out → mM (mA E 276) E 276 σ s H locs → lv_has ls 5 [] → mGo l p e 1 21 s m args below meth c E (some (vI out.1)) out.2 H locs (F0 m 94 ls [])) : ∀ (v2 : Int) (σ : mSt) (H : Heap) (locs : List Loc) (ls : Array Slot), mX12_solves_B88 v0 v1 c2 x94 v2 σ = some out → mM (mA E 276) E 276 σ s H locs → lv_has ls 5 [(0, .ref (eA E v0)), (1, vI v1), (2, vI v2)] → mGo l p e 1 21 s m args below meth c E (some (vI out.1)) out.2 H locs (F0 m 88 ls []) := by
  intro v2 σ H locs ls hm hM hl
  unfold mX12_solves_B88 at hm
  obtain ⟨a1, e2, hm⟩ := bnd_t hm
  refine r_iinc (np := 91) G hl 2 rfl e2 [(2, vI a1), (0, .ref (eA E v0)), (1, vI v1)] dX12_solves_88 rfl (by decide) rfl (fun ls hl => ?_)
  refine r_goto (np := 2) G dX12_solves_91 (by decide) ?_
  exact hc2 a1 _ _ _ _ hm hM (lv_sub hl [1, 2, 0] rfl)
set_option maxRecDepth 100000 in
set_option maxHeartbeats 4000000 in
theorem wX12_solves_B58 (l : Launch) (E : mE) (out : Int × mSt) {p : Program} {e : Env} {s : State} {m : MethodId} {args : Array Value} {below : List Frame} {meth : Method} {c : Code} (G : CallFix p m c cX12_solves 5 s args mTs RX12) (hr : meth.sig.returnType = (some .boolean)) (hk : meth.locks = false) (v0 : Nat) (v1 : Int) (v2 : Int) (g0 : isC v0 11) (c10 : Int → mSt → Option (Int × mSt)) (x88 : mSt → Option (Int × mSt)) (hc10 : ∀ (v3 : Int) (σ : mSt) (H : Heap) (locs : List Loc) (ls : Array Slot), c10 v3 σ = some out → mM (mA E 276) E 276 σ s H locs → lv_has ls 5 [(0, .ref (eA E v0)), (1, vI v1), (2, vI v2), (3, vI v3)] → mGo l p e 1 21 s m args below meth c E (some (vI out.1)) out.2 H locs (F0 m 10 ls [])) (hx88 : ∀ (σ : mSt) (H : Heap) (locs : List Loc) (ls : Array Slot), x88 σ = some out → mM (mA E 276) E 276 σ s H locs → lv_has ls 5 [(0, .ref (eA E v0)), (1, vI v1), (2, vI v2)] → mGo l p e 1 21 s m args below meth c E (some (vI out.1)) out.2 H locs (F0 m 88 ls [])) : ∀ (v3 : Int) (v4 : Int) (σ : mSt) (H : Heap) (locs : List Loc) (ls : Array Slot), mX12_solves_B58 v0 v1 v2 c10 x88 v3 v4 σ = some out → mM (mA E 276) E 276 σ s H locs → lv_has ls 5 [(0, .ref (eA E v0)), (2, vI v2), (3, vI v3), (4, vI v4)] → mGo l p e 1 21 s m args below meth c E (some (vI out.1)) out.2 H locs (F0 m 58 ls []) := by
  intro v3 v4 σ H locs ls hm hM hl
  unfold mX12_solves_B58 at hm
  refine r_aload_n (np := 59) G hl 0 rfl dX12_solves_58 rfl rfl ?_
  obtain ⟨r3, e4, hm⟩ := ref_t hm
  refine r_getR (np := 62) G hM (shp_lt g0 (by decide)) g0 e4 fdX12_28 lkX12_54 dX12_solves_59 rfl ?_
  refine r_iconst (np := 63) G 0 dX12_solves_62 rfl ?_
  refine r_iload (np := 65) G hl 3 rfl dX12_solves_63 rfl ?_
  obtain ⟨g5, hm⟩ := g_t hm
  obtain ⟨s6, e7, hm⟩ := bnd_t hm
  refine r_iastore (np := 66) G hM g5 rfl s6 e7 dX12_solves_65 rfl (fun H locs hM => ?_)
  refine r_aload_n (np := 67) G hl 0 rfl dX12_solves_66 rfl rfl ?_
  obtain ⟨r8, e9, hm⟩ := ref_t hm
  refine r_getR (np := 70) G hM (shp_lt g0 (by decide)) g0 e9 fdX12_28 lkX12_54 dX12_solves_67 rfl ?_
  refine r_iconst (np := 71) G 1 dX12_solves_70 rfl ?_
  refine r_iload_n (np := 72) G hl 2 rfl dX12_solves_71 rfl rfl ?_
  obtain ⟨g10, hm⟩ := g_t hm
  obtain ⟨s11, e12, hm⟩ := bnd_t hm
  refine r_iastore (np := 73) G hM g10 rfl s11 e12 dX12_solves_72 rfl (fun H locs hM => ?_)
  refine r_aload_n (np := 74) G hl 0 rfl dX12_solves_73 rfl rfl ?_
  obtain ⟨r13, e14, hm⟩ := ref_t hm
  refine r_getR (np := 77) G hM (shp_lt g0 (by decide)) g0 e14 fdX12_28 lkX12_54 dX12_solves_74 rfl ?_
  refine r_iconst (np := 78) G 2 dX12_solves_77 rfl ?_
  refine r_iload_n (np := 79) G hl 1 rfl dX12_solves_78 rfl rfl ?_
  obtain ⟨g15, hm⟩ := g_t hm
  obtain ⟨s16, e17, hm⟩ := bnd_t hm
  refine r_iastore (np := 80) G hM g15 rfl s16 e17 dX12_solves_79 rfl (fun H locs hM => ?_)
  refine r_iconst (np := 81) G 1 dX12_solves_80 rfl ?_
  exact r_zret G hr hk hM (Or.inr rfl) hm dX12_solves_81
set_option maxRecDepth 100000 in
set_option maxHeartbeats 4000000 in
theorem wX12_solves_L10 (l : Launch) (E : mE) (out : Int × mSt) {p : Program} {e : Env} {s : State} {m : MethodId} {args : Array Value} {below : List Frame} {meth : Method} {c : Code} (G : CallFix p m c cX12_solves 5 s args mTs RX12) (hr : meth.sig.returnType = (some .boolean)) (hk : meth.locks = false) (v0 : Nat) (v1 : Int) (v2 : Int) (g0 : isC v0 11) (x88 : mSt → Option (Int × mSt)) (hx88 : ∀ (σ : mSt) (H : Heap) (locs : List Loc) (ls : Array Slot), x88 σ = some out → mM (mA E 276) E 276 σ s H locs → lv_has ls 5 [(0, .ref (eA E v0)), (1, vI v1), (2, vI v2)] → mGo l p e 1 21 s m args below meth c E (some (vI out.1)) out.2 H locs (F0 m 88 ls [])) : ∀ (n : Nat) (v3 : Int) (σ : mSt) (H : Heap) (locs : List Loc) (ls : Array Slot), mX12_solves_L10 v0 v1 v2 x88 n v3 σ = some out → mM (mA E 276) E 276 σ s H locs → lv_has ls 5 [(0, .ref (eA E v0)), (1, vI v1), (2, vI v2), (3, vI v3)] → mGo l p e 1 21 s m args below meth c E (some (vI out.1)) out.2 H locs (F0 m 10 ls []) := by
  intro n
  induction n with
  | zero =>
    intro v3 σ H locs ls hm hM hl
    exact absurd hm (by rw [mX12_solves_L10.eq_1]; exact fun h => nomatch h)
  | succ n ih =>
    intro v3 σ H locs ls hm hM hl
    rw [mX12_solves_L10.eq_2] at hm
    refine r_iload_n (np := 11) G hl 3 rfl dX12_solves_10 rfl rfl ?_
    refine r_bipush (np := 13) G 8 dX12_solves_11 (by decide) rfl ?_
    refine r_icmp_ge (np := 16) (tgt := 88) G rfl (wIk 8 rfl) dX12_solves_13 (by decide) rfl (fun h18 => ?_) (fun h18 => ?_)
    · have hm := b_t h18 hm
      exact hx88 _ _ _ _ hm hM (lv_sub hl [0, 1, 2] rfl)
    · have hm := b_f h18 hm
      refine r_aload_n (np := 17) G hl 0 rfl dX12_solves_16 rfl rfl ?_
      obtain ⟨r19, e20, hm⟩ := ref_t hm
      refine r_getR (np := 20) G hM (shp_lt g0 (by decide)) g0 e20 fdX12_15 lkX12_24 dX12_solves_17 rfl ?_
      refine r_iload_n (np := 21) G hl 1 rfl dX12_solves_20 rfl rfl ?_
      obtain ⟨g21, hm⟩ := g_t hm
      refine r_iaload (np := 22) G hM g21 rfl dX12_solves_21 rfl ?_
      refine r_iload_n (np := 23) G hl 3 rfl dX12_solves_22 rfl rfl ?_
      refine r_imul (np := 24) G dX12_solves_23 rfl ?_
      refine r_iload_n (np := 25) G hl 3 rfl dX12_solves_24 rfl rfl ?_
      refine r_imul (np := 26) G dX12_solves_25 rfl ?_
      refine r_aload_n (np := 27) G hl 0 rfl dX12_solves_26 rfl rfl ?_
      obtain ⟨r22, e23, hm⟩ := ref_t hm
      refine r_getR (np := 30) G hM (shp_lt g0 (by decide)) g0 e23 fdX12_16 lkX12_27 dX12_solves_27 rfl ?_
      refine r_iload_n (np := 31) G hl 1 rfl dX12_solves_30 rfl rfl ?_
      obtain ⟨g24, hm⟩ := g_t hm
      refine r_iaload (np := 32) G hM g24 rfl dX12_solves_31 rfl ?_
      refine r_iload_n (np := 33) G hl 2 rfl dX12_solves_32 rfl rfl ?_
      refine r_imul (np := 34) G dX12_solves_33 rfl ?_
      refine r_iload_n (np := 35) G hl 2 rfl dX12_solves_34 rfl rfl ?_
      refine r_imul (np := 36) G dX12_solves_35 rfl ?_
      refine r_iadd (np := 37) G dX12_solves_36 rfl ?_
      obtain ⟨b25, s26, e27, hm⟩ := call_t hm
      refine m_callSI (np := 40) G hM hl.1 [vI ((((σ r19 (wI v1).toNat) * v3) * v3) + (((σ r22 (wI v1).toNat) * v2) * v2))] (qX12_root l E σ ((((σ r19 (wI v1).toNat) * v3) * v3) + (((σ r22 (wI v1).toNat) * v2) * v2)) _ e27) myX12_root lkX12_338 ⟨Nat.le_of_ble_eq_true rfl, Nat.le_of_ble_eq_true rfl⟩ ⟨Nat.le_of_ble_eq_true rfl, Nat.le_of_ble_eq_true rfl⟩ [] rfl (Nat.le_of_ble_eq_true rfl) dX12_solves_37 rfl (fun H locs hM => ?_)
      refine r_istore (np := 42) G hl rfl [(4, vI b25), (0, .ref (eA E v0)), (1, vI v1), (2, vI v2), (3, vI v3)] dX12_solves_40 rfl (by decide) rfl (fun ls hl => ?_)
      refine r_iload (np := 44) G hl 0 rfl dX12_solves_42 rfl ?_
      refine r_if_lt (np := 47) (tgt := 82) G rfl dX12_solves_44 (by decide) rfl (fun h28 => ?_) (fun h28 => ?_)
      · have hm := b_t h28 hm
        obtain ⟨a29, e30, hm⟩ := bnd_t hm
        refine r_iinc (np := 85) G hl 4 rfl e30 [(3, vI a29), (4, vI b25), (0, .ref (eA E v0)), (1, vI v1), (2, vI v2)] dX12_solves_82 rfl (by decide) rfl (fun ls hl => ?_)
        refine r_goto (np := 10) G dX12_solves_85 (by decide) ?_
        exact ih a29 _ _ _ _ hm hM (lv_sub hl [2, 3, 4, 0] rfl)
      · have hm := b_f h28 hm
        refine r_iload_n (np := 48) G hl 4 rfl dX12_solves_47 rfl rfl ?_
        refine r_if_ne (np := 51) (tgt := 58) G rfl dX12_solves_48 (by decide) rfl (fun h31 => ?_) (fun h31 => ?_)
        · have hm := b_f h31 hm
          exact wX12_solves_B58 l E out G hr hk v0 v1 v2 g0 (mX12_solves_L10 v0 v1 v2 x88 n) x88 ih hx88 v3 b25 _ _ _ _ hm hM (lv_sub hl [1, 3, 4, 0] rfl)
        · have hm := b_t h31 hm
          refine r_iload_n (np := 52) G hl 3 rfl dX12_solves_51 rfl rfl ?_
          refine r_if_ne (np := 55) (tgt := 58) G rfl dX12_solves_52 (by decide) rfl (fun h32 => ?_) (fun h32 => ?_)
          · have hm := b_f h32 hm
            exact wX12_solves_B58 l E out G hr hk v0 v1 v2 g0 (mX12_solves_L10 v0 v1 v2 x88 n) x88 ih hx88 v3 b25 _ _ _ _ hm hM (lv_sub hl [1, 3, 4, 0] rfl)
          · have hm := b_t h32 hm
            refine r_goto (np := 82) G dX12_solves_55 (by decide) ?_
            obtain ⟨a33, e34, hm⟩ := bnd_t hm
            refine r_iinc (np := 85) G hl 4 rfl e34 [(3, vI a33), (4, vI b25), (0, .ref (eA E v0)), (1, vI v1), (2, vI v2)] dX12_solves_82 rfl (by decide) rfl (fun ls hl => ?_)
            refine r_goto (np := 10) G dX12_solves_85 (by decide) ?_
            exact ih a33 _ _ _ _ hm hM (lv_sub hl [2, 3, 4, 0] rfl)
set_option maxRecDepth 100000 in
set_option maxHeartbeats 4000000 in
theorem wX12_solves_L2 (l : Launch) (E : mE) (out : Int × mSt) {p : Program} {e : Env} {s : State} {m : MethodId} {args : Array Value} {below : List Frame} {meth : Method} {c : Code} (G : CallFix p m c cX12_solves 5 s args mTs RX12) (hr : meth.sig.returnType = (some .boolean)) (hk : meth.locks = false) (v0 : Nat) (v1 : Int) (g0 : isC v0 11) (x94 : mSt → Option (Int × mSt)) (hx94 : ∀ (σ : mSt) (H : Heap) (locs : List Loc) (ls : Array Slot), x94 σ = some out → mM (mA E 276) E 276 σ s H locs → lv_has ls 5 [] → mGo l p e 1 21 s m args below meth c E (some (vI out.1)) out.2 H locs (F0 m 94 ls [])) : ∀ (n : Nat) (v2 : Int) (σ : mSt) (H : Heap) (locs : List Loc) (ls : Array Slot), mX12_solves_L2 v0 v1 x94 n v2 σ = some out → mM (mA E 276) E 276 σ s H locs → lv_has ls 5 [(0, .ref (eA E v0)), (1, vI v1), (2, vI v2)] → mGo l p e 1 21 s m args below meth c E (some (vI out.1)) out.2 H locs (F0 m 2 ls []) := by
  intro n
  induction n with
  | zero =>
    intro v2 σ H locs ls hm hM hl
    exact absurd hm (by rw [mX12_solves_L2.eq_1]; exact fun h => nomatch h)
  | succ n ih =>
    intro v2 σ H locs ls hm hM hl
    rw [mX12_solves_L2.eq_2] at hm
    refine r_iload_n (np := 3) G hl 2 rfl dX12_solves_2 rfl rfl ?_
    refine r_bipush (np := 5) G 8 dX12_solves_3 (by decide) rfl ?_
    refine r_icmp_ge (np := 8) (tgt := 94) G rfl (wIk 8 rfl) dX12_solves_5 (by decide) rfl (fun h35 => ?_) (fun h35 => ?_)
    · have hm := b_t h35 hm
      exact hx94 _ _ _ _ hm hM (lv_sub hl [] rfl)
    · have hm := b_f h35 hm
      refine r_iconst (np := 9) G 0 dX12_solves_8 rfl ?_
      refine r_istore_n (np := 10) G hl rfl [(3, vI 0), (0, .ref (eA E v0)), (1, vI v1), (2, vI v2)] dX12_solves_9 rfl rfl (by decide) rfl (fun ls hl => ?_)
      exact wX12_solves_L10 l E out G hr hk v0 v1 v2 g0 (fun zσ => mX12_solves_B88 v0 v1 (mX12_solves_L2 v0 v1 x94 n) x94 v2 zσ) (fun zσ zH zl zs zm zM zv => wX12_solves_B88 l E out G hr hk v0 v1 g0 (mX12_solves_L2 v0 v1 x94 n) x94 ih hx94 v2 zσ zH zl zs zm zM zv) mF 0 _ _ _ _ hm hM (lv_sub hl [1, 2, 3, 0] rfl)
set_option maxRecDepth 100000 in
set_option maxHeartbeats 4000000 in
theorem qX12_solves (l : Launch) (E : mE) (σ : mSt) (v0 : Nat) (v1 : Int) (out : Int × mSt) (hm : mX12_solves v0 v1 σ = some out) : mMet l yX12_solves cX12_solves 5 (some .boolean) 1 21 E 276 [.ref (eA E v0), vI v1] σ (some (vI out.1)) out.2 := by
  unfold mX12_solves at hm
  obtain ⟨g0, hm⟩ := g_t hm
  refine m_entry (by decide +kernel) (Nat.le_of_ble_eq_true rfl) (fun p e s m args below meth c G hr hk hM ls hl => ?_)
  have G : CallFix p m c cX12_solves 5 s args mTs RX12 := G
  have hl : lv_has ls 5 [(0, .ref (eA E v0)), (1, vI v1)] := hl
  refine r_iconst (np := 1) G 0 dX12_solves_0 rfl ?_
  refine r_istore_n (np := 2) G hl rfl [(2, vI 0), (0, .ref (eA E v0)), (1, vI v1)] dX12_solves_1 rfl rfl (by decide) rfl (fun ls hl => ?_)
  exact wX12_solves_L2 l E out G hr hk v0 v1 g0 (fun zσ => mX12_solves_B94 v0 v1 zσ) (fun zσ zH zl zs zm zM zv => wX12_solves_B94 l E out G hr hk v0 v1 g0 zσ zH zl zs zm zM zv) mF 0 _ _ _ _ hm hM (lv_sub hl [1, 2, 0] rfl)
theorem gX12_solves {v0 : Nat} {v1 : Int} {σ : mSt} {out : Int × mSt} (hm : mX12_solves v0 v1 σ = some out) : isC v0 11 := (g_t hm).1
set_option maxRecDepth 100000 in
set_option maxHeartbeats 4000000 in
theorem wX12_solution_B53 (l : Launch) (E : mE) (out : Int × mSt) {p : Program} {e : Env} {s : State} {m : MethodId} {args : Array Value} {below : List Frame} {meth : Method} {c : Code} (G : CallFix p m c cX12_solution 3 s args mTs RX12) (hr : meth.sig.returnType = (some .int)) (hk : meth.locks = false) (v0 : Nat) (v1 : Int) (v2 : Int) (g0 : isC v0 11) : ∀ (σ : mSt) (H : Heap) (locs : List Loc) (ls : Array Slot), mX12_solution_B53 v0 v1 v2 σ = some out → mM (mA E 276) E 276 σ s H locs → lv_has ls 3 [] → mGo l p e 17 415 s m args below meth c E (some (vI out.1)) out.2 H locs (F0 m 53 ls []) := by
  intro σ H locs ls hm hM hl
  unfold mX12_solution_B53 at hm
  refine r_bipush (np := 55) G (-2) dX12_solution_53 (by decide) rfl ?_
  exact r_iret G hr hk hM hm dX12_solution_55
set_option maxRecDepth 100000 in
set_option maxHeartbeats 4000000 in
theorem qX12_solution (l : Launch) (E : mE) (σ : mSt) (v0 : Nat) (v1 : Int) (v2 : Int) (out : Int × mSt) (hm : mX12_solution v0 v1 v2 σ = some out) : mMet l yX12_solution cX12_solution 3 (some .int) 17 415 E 276 [.ref (eA E v0), vI v1, vI v2] σ (some (vI out.1)) out.2 := by
  unfold mX12_solution at hm
  obtain ⟨g0, hm⟩ := g_t hm
  refine m_entry (by decide +kernel) (Nat.le_of_ble_eq_true rfl) (fun p e s m args below meth c G hr hk hM ls hl => ?_)
  have G : CallFix p m c cX12_solution 3 s args mTs RX12 := G
  have hl : lv_has ls 3 [(0, .ref (eA E v0)), (1, vI v1), (2, vI v2)] := hl
  refine r_aload_n (np := 1) G hl 0 rfl dX12_solution_0 rfl rfl ?_
  refine r_iconst (np := 2) G 0 dX12_solution_1 rfl ?_
  obtain ⟨s1, e2, hm⟩ := bnd_t hm
  refine r_putI (np := 5) G hM (shp_lt g0 (by decide)) g0 ptX12_0 rfl lkX12_75 s1 e2 dX12_solution_2 rfl (fun H locs hM => ?_)
  refine r_aload_n (np := 6) G hl 0 rfl dX12_solution_5 rfl rfl ?_
  refine r_iload_n (np := 7) G hl 1 rfl dX12_solution_6 rfl rfl ?_
  obtain ⟨b3, s4, e5, hm⟩ := call_t hm
  refine m_callVI (np := 10) G hM hl.1 [vI v1] (qX12_isQuaternion l E s1 v0 v1 _ e5) myX12_isQuaternion (shp_lt (gX12_isQuaternion e5) (by decide)) (gX12_isQuaternion e5) rfl (by decide) lkX12_288 ⟨Nat.le_of_ble_eq_true rfl, Nat.le_of_ble_eq_true rfl⟩ ⟨Nat.le_of_ble_eq_true rfl, Nat.le_of_ble_eq_true rfl⟩ [] rfl (Nat.le_of_ble_eq_true rfl) dX12_solution_7 rfl (fun H locs hM => ?_)
  refine r_if_eq (np := 13) (tgt := 25) G rfl dX12_solution_10 (by decide) rfl (fun h6 => ?_) (fun h6 => ?_)
  · have hm := b_t h6 hm
    refine r_iconst (np := 26) G (-1) dX12_solution_25 rfl ?_
    exact r_iret G hr hk hM hm dX12_solution_26
  · have hm := b_f h6 hm
    refine r_iload_n (np := 14) G hl 2 rfl dX12_solution_13 rfl rfl ?_
    refine r_i2l (np := 15) G rfl dX12_solution_14 rfl ?_
    refine r_lconst (np := 16) G 0 dX12_solution_15 rfl rfl ?_
    refine r_ldc2 (np := 19) G 2 dX12_solution_16 lkX12_264 rfl rfl ?_
    obtain ⟨b7, s8, e9, hm⟩ := call_t hm
    refine m_callSI (np := 22) G hM hl.1 [vL (wI v2), vL 0, vL 2] (qX12_within l E s4 (wI v2) 0 2 _ e9) myX12_within lkX12_113 ⟨Nat.le_of_ble_eq_true rfl, Nat.le_of_ble_eq_true rfl⟩ ⟨Nat.le_of_ble_eq_true rfl, Nat.le_of_ble_eq_true rfl⟩ [] rfl (Nat.le_of_ble_eq_true rfl) dX12_solution_19 rfl (fun H locs hM => ?_)
    refine r_if_ne (np := 25) (tgt := 27) G rfl dX12_solution_22 (by decide) rfl (fun h10 => ?_) (fun h10 => ?_)
    · have hm := b_f h10 hm
      refine r_aload_n (np := 28) G hl 0 rfl dX12_solution_27 rfl rfl ?_
      refine r_iload_n (np := 29) G hl 1 rfl dX12_solution_28 rfl rfl ?_
      obtain ⟨b11, s12, e13, hm⟩ := call_t hm
      refine m_callVI (np := 32) G hM hl.1 [vI v1] (qX12_indexOf l E s8 v0 v1 _ e13) myX12_indexOf (shp_lt (gX12_indexOf e13) (by decide)) (gX12_indexOf e13) rfl (by decide) lkX12_271 ⟨Nat.le_of_ble_eq_true rfl, Nat.le_of_ble_eq_true rfl⟩ ⟨Nat.le_of_ble_eq_true rfl, Nat.le_of_ble_eq_true rfl⟩ [] rfl (Nat.le_of_ble_eq_true rfl) dX12_solution_29 rfl (fun H locs hM => ?_)
      refine r_iconst (np := 33) G 1 dX12_solution_32 rfl ?_
      refine r_icmp_ne (np := 36) (tgt := 53) G rfl (wIk 1 rfl) dX12_solution_33 (by decide) rfl (fun h14 => ?_) (fun h14 => ?_)
      · have hm := b_f h14 hm
        exact wX12_solution_B53 l E out G hr hk v0 v1 v2 g0 _ _ _ _ hm hM (lv_sub hl [] rfl)
      · have hm := b_t h14 hm
        refine r_aload_n (np := 37) G hl 0 rfl dX12_solution_36 rfl rfl ?_
        refine r_iload_n (np := 38) G hl 1 rfl dX12_solution_37 rfl rfl ?_
        obtain ⟨b15, s16, e17, hm⟩ := call_t hm
        refine m_callVI (np := 41) G hM hl.1 [vI v1] (qX12_solves l E s12 v0 v1 _ e17) myX12_solves (shp_lt (gX12_solves e17) (by decide)) (gX12_solves e17) rfl (by decide) lkX12_341 ⟨Nat.le_of_ble_eq_true rfl, Nat.le_of_ble_eq_true rfl⟩ ⟨Nat.le_of_ble_eq_true rfl, Nat.le_of_ble_eq_true rfl⟩ [] rfl (Nat.le_of_ble_eq_true rfl) dX12_solution_38 rfl (fun H locs hM => ?_)
        refine r_if_eq (np := 44) (tgt := 53) G rfl dX12_solution_41 (by decide) rfl (fun h18 => ?_) (fun h18 => ?_)
        · have hm := b_t h18 hm
          exact wX12_solution_B53 l E out G hr hk v0 v1 v2 g0 _ _ _ _ hm hM (lv_sub hl [] rfl)
        · have hm := b_f h18 hm
          refine r_aload_n (np := 45) G hl 0 rfl dX12_solution_44 rfl rfl ?_
          obtain ⟨r19, e20, hm⟩ := ref_t hm
          refine r_getR (np := 48) G hM (shp_lt g0 (by decide)) g0 e20 fdX12_28 lkX12_54 dX12_solution_45 rfl ?_
          refine r_iload_n (np := 49) G hl 2 rfl dX12_solution_48 rfl rfl ?_
          obtain ⟨g21, hm⟩ := g_t hm
          refine r_iaload (np := 50) G hM g21 rfl dX12_solution_49 rfl ?_
          refine r_goto (np := 55) G dX12_solution_50 (by decide) ?_
          exact r_iret G hr hk hM hm dX12_solution_55
    · have hm := b_t h10 hm
      refine r_iconst (np := 26) G (-1) dX12_solution_25 rfl ?_
      exact r_iret G hr hk hM hm dX12_solution_26
theorem gX12_solution {v0 : Nat} {v1 : Int} {v2 : Int} {σ : mSt} {out : Int × mSt} (hm : mX12_solution v0 v1 v2 σ = some out) : isC v0 11 := (g_t hm).1
