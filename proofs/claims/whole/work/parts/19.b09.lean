theorem lkX12_437 : Cond.methodLink RX12 437 yX12_putsProducts ∈ mTs := mTs_in 1836 (by decide +kernel) (by decide +kernel)
theorem myX12_putsProducts : mYV yX12_putsProducts cX12_putsProducts 9 none 2 := ⟨⟨mTs_in 1839 (by decide +kernel) (by decide +kernel), mTs_in 127 (by decide +kernel) (by decide +kernel), ⟨by decide, by decide⟩, by decide +kernel⟩, mTs_in 1838 (by decide +kernel) (by decide +kernel), mTs_in 111 (by decide +kernel) (by decide +kernel)⟩
theorem lkX12_440 : Cond.methodLink RX12 440 yX12_refusal ∈ mTs := mTs_in 1822 (by decide +kernel) (by decide +kernel)
theorem myX12_refusal : mYV yX12_refusal cX12_refusal 3 (some .int) 2 := ⟨⟨mTs_in 1825 (by decide +kernel) (by decide +kernel), mTs_in 127 (by decide +kernel) (by decide +kernel), ⟨by decide, by decide⟩, by decide +kernel⟩, mTs_in 1824 (by decide +kernel) (by decide +kernel), mTs_in 108 (by decide +kernel) (by decide +kernel)⟩
theorem lkX12_443 : Cond.methodLink RX12 443 yX12_laysIdeal ∈ mTs := mTs_in 1832 (by decide +kernel) (by decide +kernel)
theorem myX12_laysIdeal : mYV yX12_laysIdeal cX12_laysIdeal 7 none 2 := ⟨⟨mTs_in 1835 (by decide +kernel) (by decide +kernel), mTs_in 127 (by decide +kernel) (by decide +kernel), ⟨by decide, by decide⟩, by decide +kernel⟩, mTs_in 1834 (by decide +kernel) (by decide +kernel), mTs_in 110 (by decide +kernel) (by decide +kernel)⟩
theorem lkX12_446 : Cond.methodLink RX12 446 yX12_holdsBy ∈ mTs := mTs_in 1844 (by decide +kernel) (by decide +kernel)
theorem myX12_holdsBy : mYV yX12_holdsBy cX12_holdsBy 9 (some .boolean) 1 := ⟨⟨mTs_in 1847 (by decide +kernel) (by decide +kernel), mTs_in 127 (by decide +kernel) (by decide +kernel), ⟨by decide, by decide⟩, by decide +kernel⟩, mTs_in 1846 (by decide +kernel) (by decide +kernel), mTs_in 112 (by decide +kernel) (by decide +kernel)⟩
theorem lkX12_449 : Cond.methodLink RX12 449 yX12_staysIn ∈ mTs := mTs_in 1852 (by decide +kernel) (by decide +kernel)
theorem myX12_staysIn : mYV yX12_staysIn cX12_staysIn 14 (some .boolean) 6 := ⟨⟨mTs_in 1855 (by decide +kernel) (by decide +kernel), mTs_in 127 (by decide +kernel) (by decide +kernel), ⟨by decide, by decide⟩, by decide +kernel⟩, mTs_in 1854 (by decide +kernel) (by decide +kernel), mTs_in 113 (by decide +kernel) (by decide +kernel)⟩
theorem lkX12_72 : Cond.fieldLink RX12 72 (TX12 36).1 (TX12 36).2.1 (TX12 36).2.2.1 ∈ mTs := mTs_in 1328 (by decide +kernel) (by decide +kernel)
theorem fdX12_36 : mFld 11 36 2 37 RX12 TX12 := ⟨rfl, inX12, by decide, rfl, by decide⟩
theorem lkX12_456 : Cond.methodLink RX12 456 yX12_counts ∈ mTs := mTs_in 1861 (by decide +kernel) (by decide +kernel)
theorem myX12_counts : mYV yX12_counts cX12_counts 19 none 3 := ⟨⟨mTs_in 1864 (by decide +kernel) (by decide +kernel), mTs_in 127 (by decide +kernel) (by decide +kernel), ⟨by decide, by decide⟩, by decide +kernel⟩, mTs_in 1863 (by decide +kernel) (by decide +kernel), mTs_in 114 (by decide +kernel) (by decide +kernel)⟩
theorem lkX12_453 : Cond.fieldLink RX12 453 (TX12 35).1 (TX12 35).2.1 (TX12 35).2.2.1 ∈ mTs := mTs_in 1327 (by decide +kernel) (by decide +kernel)
theorem fdX12_35 : mFld 11 35 0 37 RX12 TX12 := ⟨rfl, inX12, by decide, rfl, by decide⟩
theorem ptX12_35 : mPut 11 35 0 37 RX12 TX12 tyX12 .int := ⟨fdX12_35, tyX12_ok, nmX12, (by decide +kernel), rfl⟩
theorem lkX12_460 : Cond.constantLong RX12 460 (12) ∈ mTs := mTs_in 1860 (by decide +kernel) (by decide +kernel)
theorem dX12_laysIdeal_0 : decode cX12_laysIdeal 0 = .ok (.aload_n 0, 1) := by decide +kernel
theorem dX12_laysIdeal_1 : decode cX12_laysIdeal 1 = .ok (.getfield 36, 3) := by decide +kernel
theorem dX12_laysIdeal_4 : decode cX12_laysIdeal 4 = .ok (.iload_n 1, 1) := by decide +kernel
theorem dX12_laysIdeal_5 : decode cX12_laysIdeal 5 = .ok (.iaload, 1) := by decide +kernel
theorem dX12_laysIdeal_6 : decode cX12_laysIdeal 6 = .ok (.istore_n 3, 1) := by decide +kernel
theorem dX12_laysIdeal_7 : decode cX12_laysIdeal 7 = .ok (.aload_n 0, 1) := by decide +kernel
theorem dX12_laysIdeal_8 : decode cX12_laysIdeal 8 = .ok (.iload_n 3, 1) := by decide +kernel
theorem dX12_laysIdeal_9 : decode cX12_laysIdeal 9 = .ok (.bipush 9, 2) := by decide +kernel
theorem dX12_laysIdeal_11 : decode cX12_laysIdeal 11 = .ok (.invokevirtual 399, 3) := by decide +kernel
theorem dX12_laysIdeal_14 : decode cX12_laysIdeal 14 = .ok (.aload_n 0, 1) := by decide +kernel
theorem dX12_laysIdeal_15 : decode cX12_laysIdeal 15 = .ok (.iload_n 1, 1) := by decide +kernel
theorem dX12_laysIdeal_16 : decode cX12_laysIdeal 16 = .ok (.invokevirtual 330, 3) := by decide +kernel
theorem dX12_laysIdeal_19 : decode cX12_laysIdeal 19 = .ok (.aload_n 0, 1) := by decide +kernel
theorem dX12_laysIdeal_20 : decode cX12_laysIdeal 20 = .ok (.iload_n 1, 1) := by decide +kernel
theorem dX12_laysIdeal_21 : decode cX12_laysIdeal 21 = .ok (.iconst 4, 1) := by decide +kernel
theorem dX12_laysIdeal_22 : decode cX12_laysIdeal 22 = .ok (.invokevirtual 294, 3) := by decide +kernel
theorem dX12_laysIdeal_25 : decode cX12_laysIdeal 25 = .ok (.aload_n 0, 1) := by decide +kernel
theorem dX12_laysIdeal_26 : decode cX12_laysIdeal 26 = .ok (.iload_n 1, 1) := by decide +kernel
theorem dX12_laysIdeal_27 : decode cX12_laysIdeal 27 = .ok (.iconst 4, 1) := by decide +kernel
theorem dX12_laysIdeal_28 : decode cX12_laysIdeal 28 = .ok (.invokevirtual 294, 3) := by decide +kernel
theorem dX12_laysIdeal_31 : decode cX12_laysIdeal 31 = .ok (.lmul, 1) := by decide +kernel
theorem dX12_laysIdeal_32 : decode cX12_laysIdeal 32 = .ok (.ldiv, 1) := by decide +kernel
theorem dX12_laysIdeal_33 : decode cX12_laysIdeal 33 = .ok (.lstore 4, 2) := by decide +kernel
theorem dX12_laysIdeal_35 : decode cX12_laysIdeal 35 = .ok (.lload 4, 2) := by decide +kernel
theorem dX12_laysIdeal_37 : decode cX12_laysIdeal 37 = .ok (.lconst 0, 1) := by decide +kernel
theorem dX12_laysIdeal_38 : decode cX12_laysIdeal 38 = .ok (.lcmp, 1) := by decide +kernel
theorem dX12_laysIdeal_39 : decode cX12_laysIdeal 39 = .ok (.ifCond .ge 9, 3) := by decide +kernel
theorem dX12_laysIdeal_42 : decode cX12_laysIdeal 42 = .ok (.lload 4, 2) := by decide +kernel
theorem dX12_laysIdeal_44 : decode cX12_laysIdeal 44 = .ok (.lneg, 1) := by decide +kernel
theorem dX12_laysIdeal_45 : decode cX12_laysIdeal 45 = .ok (.goto 5, 3) := by decide +kernel
theorem dX12_laysIdeal_48 : decode cX12_laysIdeal 48 = .ok (.lload 4, 2) := by decide +kernel
theorem dX12_laysIdeal_50 : decode cX12_laysIdeal 50 = .ok (.lstore 4, 2) := by decide +kernel
theorem dX12_laysIdeal_52 : decode cX12_laysIdeal 52 = .ok (.iconst 0, 1) := by decide +kernel
theorem dX12_laysIdeal_53 : decode cX12_laysIdeal 53 = .ok (.istore 6, 2) := by decide +kernel
theorem dX12_laysIdeal_55 : decode cX12_laysIdeal 55 = .ok (.iload 6, 2) := by decide +kernel
theorem dX12_laysIdeal_57 : decode cX12_laysIdeal 57 = .ok (.bipush 16, 2) := by decide +kernel
theorem dX12_laysIdeal_59 : decode cX12_laysIdeal 59 = .ok (.if_icmp .ge 25, 3) := by decide +kernel
theorem dX12_laysIdeal_62 : decode cX12_laysIdeal 62 = .ok (.aload_n 0, 1) := by decide +kernel
theorem dX12_laysIdeal_63 : decode cX12_laysIdeal 63 = .ok (.getfield 57, 3) := by decide +kernel
theorem dX12_laysIdeal_66 : decode cX12_laysIdeal 66 = .ok (.sipush 144, 3) := by decide +kernel
theorem dX12_laysIdeal_69 : decode cX12_laysIdeal 69 = .ok (.iload 6, 2) := by decide +kernel
theorem dX12_laysIdeal_71 : decode cX12_laysIdeal 71 = .ok (.iadd, 1) := by decide +kernel
theorem dX12_laysIdeal_72 : decode cX12_laysIdeal 72 = .ok (.dup2, 1) := by decide +kernel
theorem dX12_laysIdeal_73 : decode cX12_laysIdeal 73 = .ok (.laload, 1) := by decide +kernel
theorem dX12_laysIdeal_74 : decode cX12_laysIdeal 74 = .ok (.lload 4, 2) := by decide +kernel
theorem dX12_laysIdeal_76 : decode cX12_laysIdeal 76 = .ok (.lmul, 1) := by decide +kernel
theorem dX12_laysIdeal_77 : decode cX12_laysIdeal 77 = .ok (.lastore, 1) := by decide +kernel
theorem dX12_laysIdeal_78 : decode cX12_laysIdeal 78 = .ok (.iinc 6 1, 3) := by decide +kernel
theorem dX12_laysIdeal_81 : decode cX12_laysIdeal 81 = .ok (.goto (-26), 3) := by decide +kernel
theorem dX12_laysIdeal_84 : decode cX12_laysIdeal 84 = .ok (.aload_n 0, 1) := by decide +kernel
theorem dX12_laysIdeal_85 : decode cX12_laysIdeal 85 = .ok (.getfield 63, 3) := by decide +kernel
theorem dX12_laysIdeal_88 : decode cX12_laysIdeal 88 = .ok (.bipush 9, 2) := by decide +kernel
theorem dX12_laysIdeal_90 : decode cX12_laysIdeal 90 = .ok (.aload_n 0, 1) := by decide +kernel
theorem dX12_laysIdeal_91 : decode cX12_laysIdeal 91 = .ok (.getfield 60, 3) := by decide +kernel
theorem dX12_laysIdeal_94 : decode cX12_laysIdeal 94 = .ok (.bipush 9, 2) := by decide +kernel
theorem dX12_laysIdeal_96 : decode cX12_laysIdeal 96 = .ok (.laload, 1) := by decide +kernel
theorem dX12_laysIdeal_97 : decode cX12_laysIdeal 97 = .ok (.lload 4, 2) := by decide +kernel
theorem dX12_laysIdeal_99 : decode cX12_laysIdeal 99 = .ok (.lmul, 1) := by decide +kernel
theorem dX12_laysIdeal_100 : decode cX12_laysIdeal 100 = .ok (.lastore, 1) := by decide +kernel
theorem dX12_laysIdeal_101 : decode cX12_laysIdeal 101 = .ok (.aload_n 0, 1) := by decide +kernel
theorem dX12_laysIdeal_102 : decode cX12_laysIdeal 102 = .ok (.iconst 0, 1) := by decide +kernel
theorem dX12_laysIdeal_103 : decode cX12_laysIdeal 103 = .ok (.putfield 433, 3) := by decide +kernel
theorem dX12_laysIdeal_106 : decode cX12_laysIdeal 106 = .ok (.aload_n 0, 1) := by decide +kernel
theorem dX12_laysIdeal_107 : decode cX12_laysIdeal 107 = .ok (.iload_n 3, 1) := by decide +kernel
theorem dX12_laysIdeal_108 : decode cX12_laysIdeal 108 = .ok (.iload_n 1, 1) := by decide +kernel
theorem dX12_laysIdeal_109 : decode cX12_laysIdeal 109 = .ok (.invokevirtual 437, 3) := by decide +kernel
theorem dX12_laysIdeal_112 : decode cX12_laysIdeal 112 = .ok (.iload_n 2, 1) := by decide +kernel
theorem dX12_laysIdeal_113 : decode cX12_laysIdeal 113 = .ok (.iconst (-1), 1) := by decide +kernel
theorem dX12_laysIdeal_114 : decode cX12_laysIdeal 114 = .ok (.if_icmp .eq 9, 3) := by decide +kernel
theorem dX12_laysIdeal_117 : decode cX12_laysIdeal 117 = .ok (.aload_n 0, 1) := by decide +kernel
theorem dX12_laysIdeal_118 : decode cX12_laysIdeal 118 = .ok (.iload_n 3, 1) := by decide +kernel
theorem dX12_laysIdeal_119 : decode cX12_laysIdeal 119 = .ok (.iload_n 2, 1) := by decide +kernel
theorem dX12_laysIdeal_120 : decode cX12_laysIdeal 120 = .ok (.invokevirtual 437, 3) := by decide +kernel
theorem dX12_laysIdeal_123 : decode cX12_laysIdeal 123 = .ok (.return_, 1) := by decide +kernel
theorem dX12_ideal_0 : decode cX12_ideal 0 = .ok (.aload_n 0, 1) := by decide +kernel
theorem dX12_ideal_1 : decode cX12_ideal 1 = .ok (.iconst 0, 1) := by decide +kernel
theorem dX12_ideal_2 : decode cX12_ideal 2 = .ok (.putfield 75, 3) := by decide +kernel
theorem dX12_ideal_5 : decode cX12_ideal 5 = .ok (.aload_n 0, 1) := by decide +kernel
theorem dX12_ideal_6 : decode cX12_ideal 6 = .ok (.iload_n 1, 1) := by decide +kernel
theorem dX12_ideal_7 : decode cX12_ideal 7 = .ok (.iload_n 2, 1) := by decide +kernel
theorem dX12_ideal_8 : decode cX12_ideal 8 = .ok (.invokevirtual 440, 3) := by decide +kernel
theorem dX12_ideal_11 : decode cX12_ideal 11 = .ok (.istore_n 3, 1) := by decide +kernel
theorem dX12_ideal_12 : decode cX12_ideal 12 = .ok (.iload_n 3, 1) := by decide +kernel
theorem dX12_ideal_13 : decode cX12_ideal 13 = .ok (.ifCond .ge 6, 3) := by decide +kernel
theorem dX12_ideal_16 : decode cX12_ideal 16 = .ok (.iload_n 3, 1) := by decide +kernel
theorem dX12_ideal_17 : decode cX12_ideal 17 = .ok (.i2l, 1) := by decide +kernel
theorem dX12_ideal_18 : decode cX12_ideal 18 = .ok (.lreturn, 1) := by decide +kernel
theorem dX12_ideal_19 : decode cX12_ideal 19 = .ok (.aload_n 0, 1) := by decide +kernel
theorem dX12_ideal_20 : decode cX12_ideal 20 = .ok (.iload_n 1, 1) := by decide +kernel
theorem dX12_ideal_21 : decode cX12_ideal 21 = .ok (.iload_n 2, 1) := by decide +kernel
theorem dX12_ideal_22 : decode cX12_ideal 22 = .ok (.invokevirtual 443, 3) := by decide +kernel
theorem dX12_ideal_25 : decode cX12_ideal 25 = .ok (.aload_n 0, 1) := by decide +kernel
theorem dX12_ideal_26 : decode cX12_ideal 26 = .ok (.getfield 36, 3) := by decide +kernel
theorem dX12_ideal_29 : decode cX12_ideal 29 = .ok (.iload_n 1, 1) := by decide +kernel
theorem dX12_ideal_30 : decode cX12_ideal 30 = .ok (.iaload, 1) := by decide +kernel
theorem dX12_ideal_31 : decode cX12_ideal 31 = .ok (.istore 4, 2) := by decide +kernel
theorem dX12_ideal_33 : decode cX12_ideal 33 = .ok (.lconst 1, 1) := by decide +kernel
theorem dX12_ideal_34 : decode cX12_ideal 34 = .ok (.lstore 5, 2) := by decide +kernel
theorem dX12_ideal_36 : decode cX12_ideal 36 = .ok (.lconst 1, 1) := by decide +kernel
theorem dX12_ideal_37 : decode cX12_ideal 37 = .ok (.lstore 7, 2) := by decide +kernel
theorem dX12_ideal_39 : decode cX12_ideal 39 = .ok (.iconst 0, 1) := by decide +kernel
theorem dX12_ideal_40 : decode cX12_ideal 40 = .ok (.istore 9, 2) := by decide +kernel
theorem dX12_ideal_42 : decode cX12_ideal 42 = .ok (.iload 9, 2) := by decide +kernel
theorem dX12_ideal_44 : decode cX12_ideal 44 = .ok (.iconst 4, 1) := by decide +kernel
theorem dX12_ideal_45 : decode cX12_ideal 45 = .ok (.if_icmp .ge 132, 3) := by decide +kernel
theorem dX12_ideal_48 : decode cX12_ideal 48 = .ok (.aload_n 0, 1) := by decide +kernel
theorem dX12_ideal_49 : decode cX12_ideal 49 = .ok (.bipush 9, 2) := by decide +kernel
theorem dX12_ideal_51 : decode cX12_ideal 51 = .ok (.iload 9, 2) := by decide +kernel
theorem dX12_ideal_53 : decode cX12_ideal 53 = .ok (.iload 9, 2) := by decide +kernel
theorem dX12_ideal_55 : decode cX12_ideal 55 = .ok (.invokevirtual 355, 3) := by decide +kernel
theorem dX12_ideal_58 : decode cX12_ideal 58 = .ok (.lstore 10, 2) := by decide +kernel
theorem dX12_ideal_60 : decode cX12_ideal 60 = .ok (.aload_n 0, 1) := by decide +kernel
theorem dX12_ideal_61 : decode cX12_ideal 61 = .ok (.getfield 60, 3) := by decide +kernel
theorem dX12_ideal_64 : decode cX12_ideal 64 = .ok (.bipush 9, 2) := by decide +kernel
theorem dX12_ideal_66 : decode cX12_ideal 66 = .ok (.laload, 1) := by decide +kernel
theorem dX12_ideal_67 : decode cX12_ideal 67 = .ok (.aload_n 0, 1) := by decide +kernel
theorem dX12_ideal_68 : decode cX12_ideal 68 = .ok (.getfield 60, 3) := by decide +kernel
theorem dX12_ideal_71 : decode cX12_ideal 71 = .ok (.iload 4, 2) := by decide +kernel
theorem dX12_ideal_73 : decode cX12_ideal 73 = .ok (.laload, 1) := by decide +kernel
theorem dX12_ideal_74 : decode cX12_ideal 74 = .ok (.ldiv, 1) := by decide +kernel
theorem dX12_ideal_75 : decode cX12_ideal 75 = .ok (.aload_n 0, 1) := by decide +kernel
theorem dX12_ideal_76 : decode cX12_ideal 76 = .ok (.iload 4, 2) := by decide +kernel
theorem dX12_ideal_78 : decode cX12_ideal 78 = .ok (.iload 9, 2) := by decide +kernel
theorem dX12_ideal_80 : decode cX12_ideal 80 = .ok (.iload 9, 2) := by decide +kernel
theorem dX12_ideal_82 : decode cX12_ideal 82 = .ok (.invokevirtual 355, 3) := by decide +kernel
theorem dX12_ideal_85 : decode cX12_ideal 85 = .ok (.lmul, 1) := by decide +kernel
theorem dX12_ideal_86 : decode cX12_ideal 86 = .ok (.lstore 12, 2) := by decide +kernel
theorem dX12_ideal_88 : decode cX12_ideal 88 = .ok (.lload 10, 2) := by decide +kernel
theorem dX12_ideal_90 : decode cX12_ideal 90 = .ok (.lload 12, 2) := by decide +kernel
theorem dX12_ideal_92 : decode cX12_ideal 92 = .ok (.invokestatic 280, 3) := by decide +kernel
theorem dX12_ideal_95 : decode cX12_ideal 95 = .ok (.lstore 14, 2) := by decide +kernel
theorem dX12_ideal_97 : decode cX12_ideal 97 = .ok (.lload 10, 2) := by decide +kernel
theorem dX12_ideal_99 : decode cX12_ideal 99 = .ok (.lload 14, 2) := by decide +kernel
theorem dX12_ideal_101 : decode cX12_ideal 101 = .ok (.ldiv, 1) := by decide +kernel
theorem dX12_ideal_102 : decode cX12_ideal 102 = .ok (.lstore 10, 2) := by decide +kernel
theorem dX12_ideal_104 : decode cX12_ideal 104 = .ok (.lload 12, 2) := by decide +kernel
theorem dX12_ideal_106 : decode cX12_ideal 106 = .ok (.lload 14, 2) := by decide +kernel
theorem dX12_ideal_108 : decode cX12_ideal 108 = .ok (.ldiv, 1) := by decide +kernel
theorem dX12_ideal_109 : decode cX12_ideal 109 = .ok (.lstore 12, 2) := by decide +kernel
theorem dX12_ideal_111 : decode cX12_ideal 111 = .ok (.lload 10, 2) := by decide +kernel
theorem dX12_ideal_113 : decode cX12_ideal 113 = .ok (.lload 7, 2) := by decide +kernel
theorem dX12_ideal_115 : decode cX12_ideal 115 = .ok (.invokestatic 280, 3) := by decide +kernel
theorem dX12_ideal_118 : decode cX12_ideal 118 = .ok (.lstore 14, 2) := by decide +kernel
theorem dX12_ideal_120 : decode cX12_ideal 120 = .ok (.lload 10, 2) := by decide +kernel
theorem dX12_ideal_122 : decode cX12_ideal 122 = .ok (.lload 14, 2) := by decide +kernel
theorem dX12_ideal_124 : decode cX12_ideal 124 = .ok (.ldiv, 1) := by decide +kernel
theorem dX12_ideal_125 : decode cX12_ideal 125 = .ok (.lstore 10, 2) := by decide +kernel
theorem dX12_ideal_127 : decode cX12_ideal 127 = .ok (.lload 7, 2) := by decide +kernel
theorem dX12_ideal_129 : decode cX12_ideal 129 = .ok (.lload 14, 2) := by decide +kernel
theorem dX12_ideal_131 : decode cX12_ideal 131 = .ok (.ldiv, 1) := by decide +kernel
theorem dX12_ideal_132 : decode cX12_ideal 132 = .ok (.lstore 7, 2) := by decide +kernel
theorem dX12_ideal_134 : decode cX12_ideal 134 = .ok (.lload 12, 2) := by decide +kernel
theorem dX12_ideal_136 : decode cX12_ideal 136 = .ok (.lload 5, 2) := by decide +kernel
theorem dX12_ideal_138 : decode cX12_ideal 138 = .ok (.invokestatic 280, 3) := by decide +kernel
theorem dX12_ideal_141 : decode cX12_ideal 141 = .ok (.lstore 14, 2) := by decide +kernel
theorem dX12_ideal_143 : decode cX12_ideal 143 = .ok (.lload 12, 2) := by decide +kernel
theorem dX12_ideal_145 : decode cX12_ideal 145 = .ok (.lload 14, 2) := by decide +kernel
theorem dX12_ideal_147 : decode cX12_ideal 147 = .ok (.ldiv, 1) := by decide +kernel
theorem dX12_ideal_148 : decode cX12_ideal 148 = .ok (.lstore 12, 2) := by decide +kernel
theorem dX12_ideal_150 : decode cX12_ideal 150 = .ok (.lload 5, 2) := by decide +kernel
theorem dX12_ideal_152 : decode cX12_ideal 152 = .ok (.lload 14, 2) := by decide +kernel
theorem dX12_ideal_154 : decode cX12_ideal 154 = .ok (.ldiv, 1) := by decide +kernel
theorem dX12_ideal_155 : decode cX12_ideal 155 = .ok (.lstore 5, 2) := by decide +kernel
theorem dX12_ideal_157 : decode cX12_ideal 157 = .ok (.lload 5, 2) := by decide +kernel
theorem dX12_ideal_159 : decode cX12_ideal 159 = .ok (.lload 10, 2) := by decide +kernel
theorem dX12_ideal_161 : decode cX12_ideal 161 = .ok (.lmul, 1) := by decide +kernel
theorem dX12_ideal_162 : decode cX12_ideal 162 = .ok (.lstore 5, 2) := by decide +kernel
theorem dX12_ideal_164 : decode cX12_ideal 164 = .ok (.lload 7, 2) := by decide +kernel
theorem dX12_ideal_166 : decode cX12_ideal 166 = .ok (.lload 12, 2) := by decide +kernel
theorem dX12_ideal_168 : decode cX12_ideal 168 = .ok (.lmul, 1) := by decide +kernel
theorem dX12_ideal_169 : decode cX12_ideal 169 = .ok (.lstore 7, 2) := by decide +kernel
theorem dX12_ideal_171 : decode cX12_ideal 171 = .ok (.iinc 9 1, 3) := by decide +kernel
theorem dX12_ideal_174 : decode cX12_ideal 174 = .ok (.goto (-132), 3) := by decide +kernel
theorem dX12_ideal_177 : decode cX12_ideal 177 = .ok (.lload 5, 2) := by decide +kernel
theorem dX12_ideal_179 : decode cX12_ideal 179 = .ok (.lload 7, 2) := by decide +kernel
theorem dX12_ideal_181 : decode cX12_ideal 181 = .ok (.ldiv, 1) := by decide +kernel
theorem dX12_ideal_182 : decode cX12_ideal 182 = .ok (.lreturn, 1) := by decide +kernel
theorem dX12_holdsBy_0 : decode cX12_holdsBy 0 = .ok (.aload_n 0, 1) := by decide +kernel
theorem dX12_holdsBy_1 : decode cX12_holdsBy 1 = .ok (.getfield 60, 3) := by decide +kernel
theorem dX12_holdsBy_4 : decode cX12_holdsBy 4 = .ok (.bipush 9, 2) := by decide +kernel
theorem dX12_holdsBy_6 : decode cX12_holdsBy 6 = .ok (.laload, 1) := by decide +kernel
theorem dX12_holdsBy_7 : decode cX12_holdsBy 7 = .ok (.lload_n 1, 1) := by decide +kernel
theorem dX12_holdsBy_8 : decode cX12_holdsBy 8 = .ok (.invokestatic 280, 3) := by decide +kernel
theorem dX12_holdsBy_11 : decode cX12_holdsBy 11 = .ok (.lstore_n 3, 1) := by decide +kernel
theorem dX12_holdsBy_12 : decode cX12_holdsBy 12 = .ok (.iconst 0, 1) := by decide +kernel
theorem dX12_holdsBy_13 : decode cX12_holdsBy 13 = .ok (.istore 5, 2) := by decide +kernel
theorem dX12_holdsBy_15 : decode cX12_holdsBy 15 = .ok (.iload 5, 2) := by decide +kernel
theorem dX12_holdsBy_17 : decode cX12_holdsBy 17 = .ok (.iconst 4, 1) := by decide +kernel
theorem dX12_holdsBy_18 : decode cX12_holdsBy 18 = .ok (.if_icmp .ge 27, 3) := by decide +kernel
theorem dX12_holdsBy_21 : decode cX12_holdsBy 21 = .ok (.aload_n 0, 1) := by decide +kernel
theorem dX12_holdsBy_22 : decode cX12_holdsBy 22 = .ok (.getfield 66, 3) := by decide +kernel
theorem dX12_holdsBy_25 : decode cX12_holdsBy 25 = .ok (.iload 5, 2) := by decide +kernel
theorem dX12_holdsBy_27 : decode cX12_holdsBy 27 = .ok (.laload, 1) := by decide +kernel
theorem dX12_holdsBy_28 : decode cX12_holdsBy 28 = .ok (.lload_n 1, 1) := by decide +kernel
theorem dX12_holdsBy_29 : decode cX12_holdsBy 29 = .ok (.lload_n 3, 1) := by decide +kernel
theorem dX12_holdsBy_30 : decode cX12_holdsBy 30 = .ok (.ldiv, 1) := by decide +kernel
theorem dX12_holdsBy_31 : decode cX12_holdsBy 31 = .ok (.lrem, 1) := by decide +kernel
theorem dX12_holdsBy_32 : decode cX12_holdsBy 32 = .ok (.lconst 0, 1) := by decide +kernel
theorem dX12_holdsBy_33 : decode cX12_holdsBy 33 = .ok (.lcmp, 1) := by decide +kernel
theorem dX12_holdsBy_34 : decode cX12_holdsBy 34 = .ok (.ifCond .eq 5, 3) := by decide +kernel
theorem dX12_holdsBy_37 : decode cX12_holdsBy 37 = .ok (.iconst 0, 1) := by decide +kernel
theorem dX12_holdsBy_38 : decode cX12_holdsBy 38 = .ok (.ireturn, 1) := by decide +kernel
theorem dX12_holdsBy_39 : decode cX12_holdsBy 39 = .ok (.iinc 5 1, 3) := by decide +kernel
theorem dX12_holdsBy_42 : decode cX12_holdsBy 42 = .ok (.goto (-27), 3) := by decide +kernel
theorem dX12_holdsBy_45 : decode cX12_holdsBy 45 = .ok (.iconst 0, 1) := by decide +kernel
theorem dX12_holdsBy_46 : decode cX12_holdsBy 46 = .ok (.istore 5, 2) := by decide +kernel
theorem dX12_holdsBy_48 : decode cX12_holdsBy 48 = .ok (.iload 5, 2) := by decide +kernel
theorem dX12_holdsBy_50 : decode cX12_holdsBy 50 = .ok (.iconst 4, 1) := by decide +kernel
theorem dX12_holdsBy_51 : decode cX12_holdsBy 51 = .ok (.if_icmp .ge 46, 3) := by decide +kernel
theorem dX12_holdsBy_54 : decode cX12_holdsBy 54 = .ok (.aload_n 0, 1) := by decide +kernel
theorem dX12_holdsBy_55 : decode cX12_holdsBy 55 = .ok (.getfield 66, 3) := by decide +kernel
theorem dX12_holdsBy_58 : decode cX12_holdsBy 58 = .ok (.iload 5, 2) := by decide +kernel
theorem dX12_holdsBy_60 : decode cX12_holdsBy 60 = .ok (.aload_n 0, 1) := by decide +kernel
theorem dX12_holdsBy_61 : decode cX12_holdsBy 61 = .ok (.getfield 66, 3) := by decide +kernel
theorem dX12_holdsBy_64 : decode cX12_holdsBy 64 = .ok (.iload 5, 2) := by decide +kernel
theorem dX12_holdsBy_66 : decode cX12_holdsBy 66 = .ok (.laload, 1) := by decide +kernel
theorem dX12_holdsBy_67 : decode cX12_holdsBy 67 = .ok (.lload_n 1, 1) := by decide +kernel
theorem dX12_holdsBy_68 : decode cX12_holdsBy 68 = .ok (.lload_n 3, 1) := by decide +kernel
theorem dX12_holdsBy_69 : decode cX12_holdsBy 69 = .ok (.ldiv, 1) := by decide +kernel
theorem dX12_holdsBy_70 : decode cX12_holdsBy 70 = .ok (.ldiv, 1) := by decide +kernel
theorem dX12_holdsBy_71 : decode cX12_holdsBy 71 = .ok (.aload_n 0, 1) := by decide +kernel
theorem dX12_holdsBy_72 : decode cX12_holdsBy 72 = .ok (.getfield 60, 3) := by decide +kernel
theorem dX12_holdsBy_75 : decode cX12_holdsBy 75 = .ok (.bipush 9, 2) := by decide +kernel
theorem dX12_holdsBy_77 : decode cX12_holdsBy 77 = .ok (.laload, 1) := by decide +kernel
theorem dX12_holdsBy_78 : decode cX12_holdsBy 78 = .ok (.lload_n 3, 1) := by decide +kernel
theorem dX12_holdsBy_79 : decode cX12_holdsBy 79 = .ok (.ldiv, 1) := by decide +kernel
theorem dX12_holdsBy_80 : decode cX12_holdsBy 80 = .ok (.aload_n 0, 1) := by decide +kernel
theorem dX12_holdsBy_81 : decode cX12_holdsBy 81 = .ok (.getfield 63, 3) := by decide +kernel
theorem dX12_holdsBy_84 : decode cX12_holdsBy 84 = .ok (.bipush 9, 2) := by decide +kernel
theorem dX12_holdsBy_86 : decode cX12_holdsBy 86 = .ok (.laload, 1) := by decide +kernel
theorem dX12_holdsBy_87 : decode cX12_holdsBy 87 = .ok (.invokestatic 358, 3) := by decide +kernel
theorem dX12_holdsBy_90 : decode cX12_holdsBy 90 = .ok (.lastore, 1) := by decide +kernel
theorem dX12_holdsBy_91 : decode cX12_holdsBy 91 = .ok (.iinc 5 1, 3) := by decide +kernel
theorem dX12_holdsBy_94 : decode cX12_holdsBy 94 = .ok (.goto (-46), 3) := by decide +kernel
theorem dX12_holdsBy_97 : decode cX12_holdsBy 97 = .ok (.iconst 0, 1) := by decide +kernel
theorem dX12_holdsBy_98 : decode cX12_holdsBy 98 = .ok (.istore 5, 2) := by decide +kernel
theorem dX12_holdsBy_100 : decode cX12_holdsBy 100 = .ok (.iload 5, 2) := by decide +kernel
theorem dX12_holdsBy_102 : decode cX12_holdsBy 102 = .ok (.iconst 4, 1) := by decide +kernel
theorem dX12_holdsBy_103 : decode cX12_holdsBy 103 = .ok (.if_icmp .ge 117, 3) := by decide +kernel
theorem dX12_holdsBy_106 : decode cX12_holdsBy 106 = .ok (.aload_n 0, 1) := by decide +kernel
theorem dX12_holdsBy_107 : decode cX12_holdsBy 107 = .ok (.getfield 66, 3) := by decide +kernel
theorem dX12_holdsBy_110 : decode cX12_holdsBy 110 = .ok (.iload 5, 2) := by decide +kernel
theorem dX12_holdsBy_112 : decode cX12_holdsBy 112 = .ok (.laload, 1) := by decide +kernel
theorem dX12_holdsBy_113 : decode cX12_holdsBy 113 = .ok (.aload_n 0, 1) := by decide +kernel
theorem dX12_holdsBy_114 : decode cX12_holdsBy 114 = .ok (.bipush 9, 2) := by decide +kernel
theorem dX12_holdsBy_116 : decode cX12_holdsBy 116 = .ok (.iload 5, 2) := by decide +kernel
theorem dX12_holdsBy_118 : decode cX12_holdsBy 118 = .ok (.iload 5, 2) := by decide +kernel
theorem dX12_holdsBy_120 : decode cX12_holdsBy 120 = .ok (.invokevirtual 355, 3) := by decide +kernel
theorem dX12_holdsBy_123 : decode cX12_holdsBy 123 = .ok (.lrem, 1) := by decide +kernel
theorem dX12_holdsBy_124 : decode cX12_holdsBy 124 = .ok (.lconst 0, 1) := by decide +kernel
theorem dX12_holdsBy_125 : decode cX12_holdsBy 125 = .ok (.lcmp, 1) := by decide +kernel
theorem dX12_holdsBy_126 : decode cX12_holdsBy 126 = .ok (.ifCond .eq 5, 3) := by decide +kernel
theorem dX12_holdsBy_129 : decode cX12_holdsBy 129 = .ok (.iconst 0, 1) := by decide +kernel
theorem dX12_holdsBy_130 : decode cX12_holdsBy 130 = .ok (.ireturn, 1) := by decide +kernel
theorem dX12_holdsBy_131 : decode cX12_holdsBy 131 = .ok (.aload_n 0, 1) := by decide +kernel
theorem dX12_holdsBy_132 : decode cX12_holdsBy 132 = .ok (.getfield 66, 3) := by decide +kernel
theorem dX12_holdsBy_135 : decode cX12_holdsBy 135 = .ok (.iload 5, 2) := by decide +kernel
theorem dX12_holdsBy_137 : decode cX12_holdsBy 137 = .ok (.laload, 1) := by decide +kernel
theorem dX12_holdsBy_138 : decode cX12_holdsBy 138 = .ok (.aload_n 0, 1) := by decide +kernel
theorem dX12_holdsBy_139 : decode cX12_holdsBy 139 = .ok (.bipush 9, 2) := by decide +kernel
theorem dX12_holdsBy_141 : decode cX12_holdsBy 141 = .ok (.iload 5, 2) := by decide +kernel
theorem dX12_holdsBy_143 : decode cX12_holdsBy 143 = .ok (.iload 5, 2) := by decide +kernel
theorem dX12_holdsBy_145 : decode cX12_holdsBy 145 = .ok (.invokevirtual 355, 3) := by decide +kernel
theorem dX12_holdsBy_148 : decode cX12_holdsBy 148 = .ok (.ldiv, 1) := by decide +kernel
theorem dX12_holdsBy_149 : decode cX12_holdsBy 149 = .ok (.lstore 6, 2) := by decide +kernel
theorem dX12_holdsBy_151 : decode cX12_holdsBy 151 = .ok (.iload 5, 2) := by decide +kernel
theorem dX12_holdsBy_153 : decode cX12_holdsBy 153 = .ok (.istore 8, 2) := by decide +kernel
theorem dX12_holdsBy_155 : decode cX12_holdsBy 155 = .ok (.iload 8, 2) := by decide +kernel
theorem dX12_holdsBy_157 : decode cX12_holdsBy 157 = .ok (.iconst 4, 1) := by decide +kernel
theorem dX12_holdsBy_158 : decode cX12_holdsBy 158 = .ok (.if_icmp .ge 56, 3) := by decide +kernel
theorem dX12_holdsBy_161 : decode cX12_holdsBy 161 = .ok (.aload_n 0, 1) := by decide +kernel
theorem dX12_holdsBy_162 : decode cX12_holdsBy 162 = .ok (.getfield 66, 3) := by decide +kernel
theorem dX12_holdsBy_165 : decode cX12_holdsBy 165 = .ok (.iload 8, 2) := by decide +kernel
theorem dX12_holdsBy_167 : decode cX12_holdsBy 167 = .ok (.aload_n 0, 1) := by decide +kernel
theorem dX12_holdsBy_168 : decode cX12_holdsBy 168 = .ok (.getfield 66, 3) := by decide +kernel
theorem dX12_holdsBy_171 : decode cX12_holdsBy 171 = .ok (.iload 8, 2) := by decide +kernel
theorem dX12_holdsBy_173 : decode cX12_holdsBy 173 = .ok (.laload, 1) := by decide +kernel
theorem dX12_holdsBy_174 : decode cX12_holdsBy 174 = .ok (.lload 6, 2) := by decide +kernel
theorem dX12_holdsBy_176 : decode cX12_holdsBy 176 = .ok (.aload_n 0, 1) := by decide +kernel
theorem dX12_holdsBy_177 : decode cX12_holdsBy 177 = .ok (.bipush 9, 2) := by decide +kernel
theorem dX12_holdsBy_179 : decode cX12_holdsBy 179 = .ok (.iload 5, 2) := by decide +kernel
theorem dX12_holdsBy_181 : decode cX12_holdsBy 181 = .ok (.iload 8, 2) := by decide +kernel
theorem dX12_holdsBy_183 : decode cX12_holdsBy 183 = .ok (.invokevirtual 355, 3) := by decide +kernel
theorem dX12_holdsBy_186 : decode cX12_holdsBy 186 = .ok (.aload_n 0, 1) := by decide +kernel
theorem dX12_holdsBy_187 : decode cX12_holdsBy 187 = .ok (.getfield 63, 3) := by decide +kernel
theorem dX12_holdsBy_190 : decode cX12_holdsBy 190 = .ok (.bipush 9, 2) := by decide +kernel
theorem dX12_holdsBy_192 : decode cX12_holdsBy 192 = .ok (.laload, 1) := by decide +kernel
theorem dX12_holdsBy_193 : decode cX12_holdsBy 193 = .ok (.invokestatic 358, 3) := by decide +kernel
theorem dX12_holdsBy_196 : decode cX12_holdsBy 196 = .ok (.lsub, 1) := by decide +kernel
theorem dX12_holdsBy_197 : decode cX12_holdsBy 197 = .ok (.aload_n 0, 1) := by decide +kernel
theorem dX12_holdsBy_198 : decode cX12_holdsBy 198 = .ok (.getfield 63, 3) := by decide +kernel
theorem dX12_holdsBy_201 : decode cX12_holdsBy 201 = .ok (.bipush 9, 2) := by decide +kernel
theorem dX12_holdsBy_203 : decode cX12_holdsBy 203 = .ok (.laload, 1) := by decide +kernel
theorem dX12_holdsBy_204 : decode cX12_holdsBy 204 = .ok (.invokestatic 352, 3) := by decide +kernel
theorem dX12_holdsBy_207 : decode cX12_holdsBy 207 = .ok (.lastore, 1) := by decide +kernel
theorem dX12_holdsBy_208 : decode cX12_holdsBy 208 = .ok (.iinc 8 1, 3) := by decide +kernel
theorem dX12_holdsBy_211 : decode cX12_holdsBy 211 = .ok (.goto (-56), 3) := by decide +kernel
theorem dX12_holdsBy_214 : decode cX12_holdsBy 214 = .ok (.iinc 5 1, 3) := by decide +kernel
theorem dX12_holdsBy_217 : decode cX12_holdsBy 217 = .ok (.goto (-117), 3) := by decide +kernel
theorem dX12_holdsBy_220 : decode cX12_holdsBy 220 = .ok (.iconst 1, 1) := by decide +kernel
theorem dX12_holdsBy_221 : decode cX12_holdsBy 221 = .ok (.ireturn, 1) := by decide +kernel
theorem dX12_isInIdeal_0 : decode cX12_isInIdeal 0 = .ok (.aload_n 0, 1) := by decide +kernel
theorem dX12_isInIdeal_1 : decode cX12_isInIdeal 1 = .ok (.iconst 0, 1) := by decide +kernel
theorem dX12_isInIdeal_2 : decode cX12_isInIdeal 2 = .ok (.putfield 75, 3) := by decide +kernel
theorem dX12_isInIdeal_5 : decode cX12_isInIdeal 5 = .ok (.aload_n 0, 1) := by decide +kernel
theorem dX12_isInIdeal_6 : decode cX12_isInIdeal 6 = .ok (.iload_n 1, 1) := by decide +kernel
theorem dX12_isInIdeal_7 : decode cX12_isInIdeal 7 = .ok (.invokevirtual 297, 3) := by decide +kernel
theorem dX12_isInIdeal_10 : decode cX12_isInIdeal 10 = .ok (.ifCond .eq 26, 3) := by decide +kernel
theorem dX12_isInIdeal_13 : decode cX12_isInIdeal 13 = .ok (.aload_n 0, 1) := by decide +kernel
theorem dX12_isInIdeal_14 : decode cX12_isInIdeal 14 = .ok (.iload_n 3, 1) := by decide +kernel
theorem dX12_isInIdeal_15 : decode cX12_isInIdeal 15 = .ok (.invokevirtual 297, 3) := by decide +kernel
theorem dX12_isInIdeal_18 : decode cX12_isInIdeal 18 = .ok (.ifCond .eq 18, 3) := by decide +kernel
theorem dX12_isInIdeal_21 : decode cX12_isInIdeal 21 = .ok (.aload_n 0, 1) := by decide +kernel
theorem dX12_isInIdeal_22 : decode cX12_isInIdeal 22 = .ok (.getfield 36, 3) := by decide +kernel
theorem dX12_isInIdeal_25 : decode cX12_isInIdeal 25 = .ok (.iload_n 3, 1) := by decide +kernel
theorem dX12_isInIdeal_26 : decode cX12_isInIdeal 26 = .ok (.iaload, 1) := by decide +kernel
theorem dX12_isInIdeal_27 : decode cX12_isInIdeal 27 = .ok (.aload_n 0, 1) := by decide +kernel
theorem dX12_isInIdeal_28 : decode cX12_isInIdeal 28 = .ok (.getfield 36, 3) := by decide +kernel
theorem dX12_isInIdeal_31 : decode cX12_isInIdeal 31 = .ok (.iload_n 1, 1) := by decide +kernel
theorem dX12_isInIdeal_32 : decode cX12_isInIdeal 32 = .ok (.iaload, 1) := by decide +kernel
theorem dX12_isInIdeal_33 : decode cX12_isInIdeal 33 = .ok (.if_icmp .eq 5, 3) := by decide +kernel
theorem dX12_isInIdeal_36 : decode cX12_isInIdeal 36 = .ok (.iconst (-1), 1) := by decide +kernel
theorem dX12_isInIdeal_37 : decode cX12_isInIdeal 37 = .ok (.ireturn, 1) := by decide +kernel
theorem dX12_isInIdeal_38 : decode cX12_isInIdeal 38 = .ok (.aload_n 0, 1) := by decide +kernel
theorem dX12_isInIdeal_39 : decode cX12_isInIdeal 39 = .ok (.iload_n 1, 1) := by decide +kernel
theorem dX12_isInIdeal_40 : decode cX12_isInIdeal 40 = .ok (.iload_n 2, 1) := by decide +kernel
theorem dX12_isInIdeal_41 : decode cX12_isInIdeal 41 = .ok (.invokevirtual 440, 3) := by decide +kernel
theorem dX12_isInIdeal_44 : decode cX12_isInIdeal 44 = .ok (.istore 4, 2) := by decide +kernel
theorem dX12_isInIdeal_46 : decode cX12_isInIdeal 46 = .ok (.iload 4, 2) := by decide +kernel
theorem dX12_isInIdeal_48 : decode cX12_isInIdeal 48 = .ok (.ifCond .ge 6, 3) := by decide +kernel
theorem dX12_isInIdeal_51 : decode cX12_isInIdeal 51 = .ok (.iload 4, 2) := by decide +kernel
theorem dX12_isInIdeal_53 : decode cX12_isInIdeal 53 = .ok (.ireturn, 1) := by decide +kernel
theorem dX12_isInIdeal_54 : decode cX12_isInIdeal 54 = .ok (.aload_n 0, 1) := by decide +kernel
theorem dX12_isInIdeal_55 : decode cX12_isInIdeal 55 = .ok (.iload_n 1, 1) := by decide +kernel
theorem dX12_isInIdeal_56 : decode cX12_isInIdeal 56 = .ok (.iload_n 2, 1) := by decide +kernel
theorem dX12_isInIdeal_57 : decode cX12_isInIdeal 57 = .ok (.invokevirtual 443, 3) := by decide +kernel
theorem dX12_isInIdeal_60 : decode cX12_isInIdeal 60 = .ok (.iconst 0, 1) := by decide +kernel
theorem dX12_isInIdeal_61 : decode cX12_isInIdeal 61 = .ok (.istore 5, 2) := by decide +kernel
theorem dX12_isInIdeal_63 : decode cX12_isInIdeal 63 = .ok (.iload 5, 2) := by decide +kernel
theorem dX12_isInIdeal_65 : decode cX12_isInIdeal 65 = .ok (.iconst 4, 1) := by decide +kernel
theorem dX12_isInIdeal_66 : decode cX12_isInIdeal 66 = .ok (.if_icmp .ge 23, 3) := by decide +kernel
theorem dX12_isInIdeal_69 : decode cX12_isInIdeal 69 = .ok (.aload_n 0, 1) := by decide +kernel
theorem dX12_isInIdeal_70 : decode cX12_isInIdeal 70 = .ok (.getfield 66, 3) := by decide +kernel
theorem dX12_isInIdeal_73 : decode cX12_isInIdeal 73 = .ok (.iload 5, 2) := by decide +kernel
theorem dX12_isInIdeal_75 : decode cX12_isInIdeal 75 = .ok (.aload_n 0, 1) := by decide +kernel
theorem dX12_isInIdeal_76 : decode cX12_isInIdeal 76 = .ok (.iload_n 3, 1) := by decide +kernel
theorem dX12_isInIdeal_77 : decode cX12_isInIdeal 77 = .ok (.iload 5, 2) := by decide +kernel
theorem dX12_isInIdeal_79 : decode cX12_isInIdeal 79 = .ok (.invokevirtual 294, 3) := by decide +kernel
theorem dX12_isInIdeal_82 : decode cX12_isInIdeal 82 = .ok (.lastore, 1) := by decide +kernel
theorem dX12_isInIdeal_83 : decode cX12_isInIdeal 83 = .ok (.iinc 5 1, 3) := by decide +kernel
theorem dX12_isInIdeal_86 : decode cX12_isInIdeal 86 = .ok (.goto (-23), 3) := by decide +kernel
theorem dX12_isInIdeal_89 : decode cX12_isInIdeal 89 = .ok (.aload_n 0, 1) := by decide +kernel
theorem dX12_isInIdeal_90 : decode cX12_isInIdeal 90 = .ok (.aload_n 0, 1) := by decide +kernel
theorem dX12_isInIdeal_91 : decode cX12_isInIdeal 91 = .ok (.iload_n 3, 1) := by decide +kernel
theorem dX12_isInIdeal_92 : decode cX12_isInIdeal 92 = .ok (.iconst 4, 1) := by decide +kernel
theorem dX12_isInIdeal_93 : decode cX12_isInIdeal 93 = .ok (.invokevirtual 294, 3) := by decide +kernel
theorem dX12_isInIdeal_96 : decode cX12_isInIdeal 96 = .ok (.invokevirtual 446, 3) := by decide +kernel
theorem dX12_isInIdeal_99 : decode cX12_isInIdeal 99 = .ok (.ifCond .eq 7, 3) := by decide +kernel
theorem dX12_isInIdeal_102 : decode cX12_isInIdeal 102 = .ok (.iconst 1, 1) := by decide +kernel
theorem dX12_isInIdeal_103 : decode cX12_isInIdeal 103 = .ok (.goto 4, 3) := by decide +kernel
theorem dX12_isInIdeal_106 : decode cX12_isInIdeal 106 = .ok (.iconst 0, 1) := by decide +kernel
theorem dX12_isInIdeal_107 : decode cX12_isInIdeal 107 = .ok (.ireturn, 1) := by decide +kernel
theorem dX12_staysIn_0 : decode cX12_staysIn 0 = .ok (.aload_n 0, 1) := by decide +kernel
theorem dX12_staysIn_1 : decode cX12_staysIn 1 = .ok (.iload_n 1, 1) := by decide +kernel
theorem dX12_staysIn_2 : decode cX12_staysIn 2 = .ok (.iload_n 2, 1) := by decide +kernel
theorem dX12_staysIn_3 : decode cX12_staysIn 3 = .ok (.iconst 0, 1) := by decide +kernel
theorem dX12_staysIn_4 : decode cX12_staysIn 4 = .ok (.invokevirtual 377, 3) := by decide +kernel
theorem dX12_staysIn_7 : decode cX12_staysIn 7 = .ok (.aload_n 0, 1) := by decide +kernel
theorem dX12_staysIn_8 : decode cX12_staysIn 8 = .ok (.iload_n 3, 1) := by decide +kernel
theorem dX12_staysIn_9 : decode cX12_staysIn 9 = .ok (.invokevirtual 315, 3) := by decide +kernel
theorem dX12_staysIn_12 : decode cX12_staysIn 12 = .ok (.aload_n 0, 1) := by decide +kernel
theorem dX12_staysIn_13 : decode cX12_staysIn 13 = .ok (.lload 5, 2) := by decide +kernel
theorem dX12_staysIn_15 : decode cX12_staysIn 15 = .ok (.lload 7, 2) := by decide +kernel
theorem dX12_staysIn_17 : decode cX12_staysIn 17 = .ok (.invokevirtual 318, 3) := by decide +kernel
theorem dX12_staysIn_20 : decode cX12_staysIn 20 = .ok (.aload_n 0, 1) := by decide +kernel
theorem dX12_staysIn_21 : decode cX12_staysIn 21 = .ok (.getfield 60, 3) := by decide +kernel
theorem dX12_staysIn_24 : decode cX12_staysIn 24 = .ok (.iload_n 1, 1) := by decide +kernel
theorem dX12_staysIn_25 : decode cX12_staysIn 25 = .ok (.laload, 1) := by decide +kernel
theorem dX12_staysIn_26 : decode cX12_staysIn 26 = .ok (.aload_n 0, 1) := by decide +kernel
theorem dX12_staysIn_27 : decode cX12_staysIn 27 = .ok (.iload_n 3, 1) := by decide +kernel
theorem dX12_staysIn_28 : decode cX12_staysIn 28 = .ok (.iconst 4, 1) := by decide +kernel
theorem dX12_staysIn_29 : decode cX12_staysIn 29 = .ok (.invokevirtual 294, 3) := by decide +kernel
theorem dX12_staysIn_32 : decode cX12_staysIn 32 = .ok (.lmul, 1) := by decide +kernel
theorem dX12_staysIn_33 : decode cX12_staysIn 33 = .ok (.lstore 9, 2) := by decide +kernel
theorem dX12_staysIn_35 : decode cX12_staysIn 35 = .ok (.lload 9, 2) := by decide +kernel
theorem dX12_staysIn_37 : decode cX12_staysIn 37 = .ok (.lstore 11, 2) := by decide +kernel
theorem dX12_staysIn_39 : decode cX12_staysIn 39 = .ok (.iconst 0, 1) := by decide +kernel
theorem dX12_staysIn_40 : decode cX12_staysIn 40 = .ok (.istore 13, 2) := by decide +kernel
theorem dX12_staysIn_42 : decode cX12_staysIn 42 = .ok (.iload 13, 2) := by decide +kernel
theorem dX12_staysIn_44 : decode cX12_staysIn 44 = .ok (.iconst 4, 1) := by decide +kernel
theorem dX12_staysIn_45 : decode cX12_staysIn 45 = .ok (.if_icmp .ge 23, 3) := by decide +kernel
theorem dX12_staysIn_48 : decode cX12_staysIn 48 = .ok (.lload 11, 2) := by decide +kernel
theorem dX12_staysIn_50 : decode cX12_staysIn 50 = .ok (.aload_n 0, 1) := by decide +kernel
theorem dX12_staysIn_51 : decode cX12_staysIn 51 = .ok (.getfield 51, 3) := by decide +kernel
theorem dX12_staysIn_54 : decode cX12_staysIn 54 = .ok (.iload 13, 2) := by decide +kernel
theorem dX12_staysIn_56 : decode cX12_staysIn 56 = .ok (.laload, 1) := by decide +kernel
theorem dX12_staysIn_57 : decode cX12_staysIn 57 = .ok (.invokestatic 280, 3) := by decide +kernel
theorem dX12_staysIn_60 : decode cX12_staysIn 60 = .ok (.lstore 11, 2) := by decide +kernel
theorem dX12_staysIn_62 : decode cX12_staysIn 62 = .ok (.iinc 13 1, 3) := by decide +kernel
theorem dX12_staysIn_65 : decode cX12_staysIn 65 = .ok (.goto (-23), 3) := by decide +kernel
theorem dX12_staysIn_68 : decode cX12_staysIn 68 = .ok (.iconst 0, 1) := by decide +kernel
theorem dX12_staysIn_69 : decode cX12_staysIn 69 = .ok (.istore 13, 2) := by decide +kernel
theorem dX12_staysIn_71 : decode cX12_staysIn 71 = .ok (.iload 13, 2) := by decide +kernel
theorem dX12_staysIn_73 : decode cX12_staysIn 73 = .ok (.iconst 4, 1) := by decide +kernel
theorem dX12_staysIn_74 : decode cX12_staysIn 74 = .ok (.if_icmp .ge 26, 3) := by decide +kernel
theorem dX12_staysIn_77 : decode cX12_staysIn 77 = .ok (.aload_n 0, 1) := by decide +kernel
theorem dX12_staysIn_78 : decode cX12_staysIn 78 = .ok (.getfield 45, 3) := by decide +kernel
theorem dX12_staysIn_81 : decode cX12_staysIn 81 = .ok (.iload 13, 2) := by decide +kernel
theorem dX12_staysIn_83 : decode cX12_staysIn 83 = .ok (.aload_n 0, 1) := by decide +kernel
theorem dX12_staysIn_84 : decode cX12_staysIn 84 = .ok (.getfield 51, 3) := by decide +kernel
theorem dX12_staysIn_87 : decode cX12_staysIn 87 = .ok (.iload 13, 2) := by decide +kernel
theorem dX12_staysIn_89 : decode cX12_staysIn 89 = .ok (.laload, 1) := by decide +kernel
theorem dX12_staysIn_90 : decode cX12_staysIn 90 = .ok (.lload 11, 2) := by decide +kernel
theorem dX12_staysIn_92 : decode cX12_staysIn 92 = .ok (.ldiv, 1) := by decide +kernel
theorem dX12_staysIn_93 : decode cX12_staysIn 93 = .ok (.lastore, 1) := by decide +kernel
theorem dX12_staysIn_94 : decode cX12_staysIn 94 = .ok (.iinc 13 1, 3) := by decide +kernel
theorem dX12_staysIn_97 : decode cX12_staysIn 97 = .ok (.goto (-26), 3) := by decide +kernel
theorem dX12_staysIn_100 : decode cX12_staysIn 100 = .ok (.lload 9, 2) := by decide +kernel
theorem dX12_staysIn_102 : decode cX12_staysIn 102 = .ok (.lload 11, 2) := by decide +kernel
theorem dX12_staysIn_104 : decode cX12_staysIn 104 = .ok (.ldiv, 1) := by decide +kernel
theorem dX12_staysIn_105 : decode cX12_staysIn 105 = .ok (.lstore 9, 2) := by decide +kernel
theorem dX12_staysIn_107 : decode cX12_staysIn 107 = .ok (.aload_n 0, 1) := by decide +kernel
theorem dX12_staysIn_108 : decode cX12_staysIn 108 = .ok (.iload_n 1, 1) := by decide +kernel
theorem dX12_staysIn_109 : decode cX12_staysIn 109 = .ok (.iload 4, 2) := by decide +kernel
theorem dX12_staysIn_111 : decode cX12_staysIn 111 = .ok (.iconst 1, 1) := by decide +kernel
theorem dX12_staysIn_112 : decode cX12_staysIn 112 = .ok (.invokevirtual 377, 3) := by decide +kernel
theorem dX12_staysIn_115 : decode cX12_staysIn 115 = .ok (.aload_n 0, 1) := by decide +kernel
theorem dX12_staysIn_116 : decode cX12_staysIn 116 = .ok (.lload 5, 2) := by decide +kernel
theorem dX12_staysIn_118 : decode cX12_staysIn 118 = .ok (.lload 7, 2) := by decide +kernel
theorem dX12_staysIn_120 : decode cX12_staysIn 120 = .ok (.invokevirtual 318, 3) := by decide +kernel
theorem dX12_staysIn_123 : decode cX12_staysIn 123 = .ok (.lload 9, 2) := by decide +kernel
theorem dX12_staysIn_125 : decode cX12_staysIn 125 = .ok (.aload_n 0, 1) := by decide +kernel
theorem dX12_staysIn_126 : decode cX12_staysIn 126 = .ok (.getfield 60, 3) := by decide +kernel
theorem dX12_staysIn_129 : decode cX12_staysIn 129 = .ok (.iload_n 1, 1) := by decide +kernel
theorem dX12_staysIn_130 : decode cX12_staysIn 130 = .ok (.laload, 1) := by decide +kernel
theorem dX12_staysIn_131 : decode cX12_staysIn 131 = .ok (.lmul, 1) := by decide +kernel
theorem dX12_staysIn_132 : decode cX12_staysIn 132 = .ok (.lstore 9, 2) := by decide +kernel
theorem dX12_staysIn_134 : decode cX12_staysIn 134 = .ok (.lload 9, 2) := by decide +kernel
theorem dX12_staysIn_136 : decode cX12_staysIn 136 = .ok (.lstore 11, 2) := by decide +kernel
theorem dX12_staysIn_138 : decode cX12_staysIn 138 = .ok (.iconst 0, 1) := by decide +kernel
theorem dX12_staysIn_139 : decode cX12_staysIn 139 = .ok (.istore 13, 2) := by decide +kernel
theorem dX12_staysIn_141 : decode cX12_staysIn 141 = .ok (.iload 13, 2) := by decide +kernel
theorem dX12_staysIn_143 : decode cX12_staysIn 143 = .ok (.iconst 4, 1) := by decide +kernel
theorem dX12_staysIn_144 : decode cX12_staysIn 144 = .ok (.if_icmp .ge 23, 3) := by decide +kernel
theorem dX12_staysIn_147 : decode cX12_staysIn 147 = .ok (.lload 11, 2) := by decide +kernel
theorem dX12_staysIn_149 : decode cX12_staysIn 149 = .ok (.aload_n 0, 1) := by decide +kernel
theorem dX12_staysIn_150 : decode cX12_staysIn 150 = .ok (.getfield 51, 3) := by decide +kernel
theorem dX12_staysIn_153 : decode cX12_staysIn 153 = .ok (.iload 13, 2) := by decide +kernel
theorem dX12_staysIn_155 : decode cX12_staysIn 155 = .ok (.laload, 1) := by decide +kernel
theorem dX12_staysIn_156 : decode cX12_staysIn 156 = .ok (.invokestatic 280, 3) := by decide +kernel
theorem dX12_staysIn_159 : decode cX12_staysIn 159 = .ok (.lstore 11, 2) := by decide +kernel
theorem dX12_staysIn_161 : decode cX12_staysIn 161 = .ok (.iinc 13 1, 3) := by decide +kernel
theorem dX12_staysIn_164 : decode cX12_staysIn 164 = .ok (.goto (-23), 3) := by decide +kernel
theorem dX12_staysIn_167 : decode cX12_staysIn 167 = .ok (.iconst 0, 1) := by decide +kernel
theorem dX12_staysIn_168 : decode cX12_staysIn 168 = .ok (.istore 13, 2) := by decide +kernel
theorem dX12_staysIn_170 : decode cX12_staysIn 170 = .ok (.iload 13, 2) := by decide +kernel
theorem dX12_staysIn_172 : decode cX12_staysIn 172 = .ok (.iconst 4, 1) := by decide +kernel
theorem dX12_staysIn_173 : decode cX12_staysIn 173 = .ok (.if_icmp .ge 26, 3) := by decide +kernel
theorem dX12_staysIn_176 : decode cX12_staysIn 176 = .ok (.aload_n 0, 1) := by decide +kernel
theorem dX12_staysIn_177 : decode cX12_staysIn 177 = .ok (.getfield 66, 3) := by decide +kernel
theorem dX12_staysIn_180 : decode cX12_staysIn 180 = .ok (.iload 13, 2) := by decide +kernel
theorem dX12_staysIn_182 : decode cX12_staysIn 182 = .ok (.aload_n 0, 1) := by decide +kernel
theorem dX12_staysIn_183 : decode cX12_staysIn 183 = .ok (.getfield 51, 3) := by decide +kernel
theorem dX12_staysIn_186 : decode cX12_staysIn 186 = .ok (.iload 13, 2) := by decide +kernel
theorem dX12_staysIn_188 : decode cX12_staysIn 188 = .ok (.laload, 1) := by decide +kernel
theorem dX12_staysIn_189 : decode cX12_staysIn 189 = .ok (.lload 11, 2) := by decide +kernel
theorem dX12_staysIn_191 : decode cX12_staysIn 191 = .ok (.ldiv, 1) := by decide +kernel
theorem dX12_staysIn_192 : decode cX12_staysIn 192 = .ok (.lastore, 1) := by decide +kernel
theorem dX12_staysIn_193 : decode cX12_staysIn 193 = .ok (.iinc 13 1, 3) := by decide +kernel
theorem dX12_staysIn_196 : decode cX12_staysIn 196 = .ok (.goto (-26), 3) := by decide +kernel
theorem dX12_staysIn_199 : decode cX12_staysIn 199 = .ok (.aload_n 0, 1) := by decide +kernel
theorem dX12_staysIn_200 : decode cX12_staysIn 200 = .ok (.lload 9, 2) := by decide +kernel
theorem dX12_staysIn_202 : decode cX12_staysIn 202 = .ok (.lload 11, 2) := by decide +kernel
theorem dX12_staysIn_204 : decode cX12_staysIn 204 = .ok (.ldiv, 1) := by decide +kernel
theorem dX12_staysIn_205 : decode cX12_staysIn 205 = .ok (.invokevirtual 446, 3) := by decide +kernel
theorem dX12_staysIn_208 : decode cX12_staysIn 208 = .ok (.ireturn, 1) := by decide +kernel
theorem dX12_isTwoSided_0 : decode cX12_isTwoSided 0 = .ok (.aload_n 0, 1) := by decide +kernel
theorem dX12_isTwoSided_1 : decode cX12_isTwoSided 1 = .ok (.iconst 0, 1) := by decide +kernel
theorem dX12_isTwoSided_2 : decode cX12_isTwoSided 2 = .ok (.putfield 75, 3) := by decide +kernel
theorem dX12_isTwoSided_5 : decode cX12_isTwoSided 5 = .ok (.aload_n 0, 1) := by decide +kernel
theorem dX12_isTwoSided_6 : decode cX12_isTwoSided 6 = .ok (.iload_n 1, 1) := by decide +kernel
theorem dX12_isTwoSided_7 : decode cX12_isTwoSided 7 = .ok (.iload_n 2, 1) := by decide +kernel
theorem dX12_isTwoSided_8 : decode cX12_isTwoSided 8 = .ok (.invokevirtual 440, 3) := by decide +kernel
theorem dX12_isTwoSided_11 : decode cX12_isTwoSided 11 = .ok (.istore_n 3, 1) := by decide +kernel
theorem dX12_isTwoSided_12 : decode cX12_isTwoSided 12 = .ok (.iload_n 3, 1) := by decide +kernel
theorem dX12_isTwoSided_13 : decode cX12_isTwoSided 13 = .ok (.ifCond .ge 5, 3) := by decide +kernel
theorem dX12_isTwoSided_16 : decode cX12_isTwoSided 16 = .ok (.iload_n 3, 1) := by decide +kernel
theorem dX12_isTwoSided_17 : decode cX12_isTwoSided 17 = .ok (.ireturn, 1) := by decide +kernel
theorem dX12_isTwoSided_18 : decode cX12_isTwoSided 18 = .ok (.aload_n 0, 1) := by decide +kernel
theorem dX12_isTwoSided_19 : decode cX12_isTwoSided 19 = .ok (.iload_n 1, 1) := by decide +kernel
theorem dX12_isTwoSided_20 : decode cX12_isTwoSided 20 = .ok (.iload_n 2, 1) := by decide +kernel
theorem dX12_isTwoSided_21 : decode cX12_isTwoSided 21 = .ok (.invokevirtual 443, 3) := by decide +kernel
theorem dX12_isTwoSided_24 : decode cX12_isTwoSided 24 = .ok (.aload_n 0, 1) := by decide +kernel
theorem dX12_isTwoSided_25 : decode cX12_isTwoSided 25 = .ok (.getfield 36, 3) := by decide +kernel
theorem dX12_isTwoSided_28 : decode cX12_isTwoSided 28 = .ok (.iload_n 1, 1) := by decide +kernel
theorem dX12_isTwoSided_29 : decode cX12_isTwoSided 29 = .ok (.iaload, 1) := by decide +kernel
theorem dX12_isTwoSided_30 : decode cX12_isTwoSided 30 = .ok (.istore 4, 2) := by decide +kernel
theorem dX12_isTwoSided_32 : decode cX12_isTwoSided 32 = .ok (.aload_n 0, 1) := by decide +kernel
theorem dX12_isTwoSided_33 : decode cX12_isTwoSided 33 = .ok (.getfield 24, 3) := by decide +kernel
theorem dX12_isTwoSided_36 : decode cX12_isTwoSided 36 = .ok (.iload 4, 2) := by decide +kernel
theorem dX12_isTwoSided_38 : decode cX12_isTwoSided 38 = .ok (.iaload, 1) := by decide +kernel
theorem dX12_isTwoSided_39 : decode cX12_isTwoSided 39 = .ok (.i2l, 1) := by decide +kernel
theorem dX12_isTwoSided_40 : decode cX12_isTwoSided 40 = .ok (.lstore 5, 2) := by decide +kernel
theorem dX12_isTwoSided_42 : decode cX12_isTwoSided 42 = .ok (.aload_n 0, 1) := by decide +kernel
theorem dX12_isTwoSided_43 : decode cX12_isTwoSided 43 = .ok (.getfield 27, 3) := by decide +kernel
theorem dX12_isTwoSided_46 : decode cX12_isTwoSided 46 = .ok (.iload 4, 2) := by decide +kernel
theorem dX12_isTwoSided_48 : decode cX12_isTwoSided 48 = .ok (.iaload, 1) := by decide +kernel
theorem dX12_isTwoSided_49 : decode cX12_isTwoSided 49 = .ok (.i2l, 1) := by decide +kernel
theorem dX12_isTwoSided_50 : decode cX12_isTwoSided 50 = .ok (.lstore 7, 2) := by decide +kernel
theorem dX12_isTwoSided_52 : decode cX12_isTwoSided 52 = .ok (.iconst 0, 1) := by decide +kernel
theorem dX12_isTwoSided_53 : decode cX12_isTwoSided 53 = .ok (.istore 9, 2) := by decide +kernel
theorem dX12_isTwoSided_55 : decode cX12_isTwoSided 55 = .ok (.iload 9, 2) := by decide +kernel
theorem dX12_isTwoSided_57 : decode cX12_isTwoSided 57 = .ok (.iconst 4, 1) := by decide +kernel
theorem dX12_isTwoSided_58 : decode cX12_isTwoSided 58 = .ok (.if_icmp .ge 81, 3) := by decide +kernel
theorem dX12_isTwoSided_61 : decode cX12_isTwoSided 61 = .ok (.iconst 0, 1) := by decide +kernel
theorem dX12_isTwoSided_62 : decode cX12_isTwoSided 62 = .ok (.istore 10, 2) := by decide +kernel
theorem dX12_isTwoSided_64 : decode cX12_isTwoSided 64 = .ok (.iload 10, 2) := by decide +kernel
theorem dX12_isTwoSided_66 : decode cX12_isTwoSided 66 = .ok (.iconst 2, 1) := by decide +kernel
theorem dX12_isTwoSided_67 : decode cX12_isTwoSided 67 = .ok (.if_icmp .ge 66, 3) := by decide +kernel
theorem dX12_isTwoSided_70 : decode cX12_isTwoSided 70 = .ok (.iload 10, 2) := by decide +kernel
theorem dX12_isTwoSided_72 : decode cX12_isTwoSided 72 = .ok (.ifCond .ne 7, 3) := by decide +kernel
theorem dX12_isTwoSided_75 : decode cX12_isTwoSided 75 = .ok (.iload_n 1, 1) := by decide +kernel
theorem dX12_isTwoSided_76 : decode cX12_isTwoSided 76 = .ok (.goto 4, 3) := by decide +kernel
theorem dX12_isTwoSided_79 : decode cX12_isTwoSided 79 = .ok (.iload_n 2, 1) := by decide +kernel
theorem dX12_isTwoSided_80 : decode cX12_isTwoSided 80 = .ok (.istore 11, 2) := by decide +kernel
theorem dX12_isTwoSided_82 : decode cX12_isTwoSided 82 = .ok (.iload 11, 2) := by decide +kernel
theorem dX12_isTwoSided_84 : decode cX12_isTwoSided 84 = .ok (.iconst (-1), 1) := by decide +kernel
theorem dX12_isTwoSided_85 : decode cX12_isTwoSided 85 = .ok (.if_icmp .ne 6, 3) := by decide +kernel
theorem dX12_isTwoSided_88 : decode cX12_isTwoSided 88 = .ok (.goto 39, 3) := by decide +kernel
theorem dX12_isTwoSided_91 : decode cX12_isTwoSided 91 = .ok (.iconst 0, 1) := by decide +kernel
theorem dX12_isTwoSided_92 : decode cX12_isTwoSided 92 = .ok (.istore 12, 2) := by decide +kernel
theorem dX12_isTwoSided_94 : decode cX12_isTwoSided 94 = .ok (.iload 12, 2) := by decide +kernel
theorem dX12_isTwoSided_96 : decode cX12_isTwoSided 96 = .ok (.iconst 4, 1) := by decide +kernel
theorem dX12_isTwoSided_97 : decode cX12_isTwoSided 97 = .ok (.if_icmp .ge 30, 3) := by decide +kernel
theorem dX12_isTwoSided_100 : decode cX12_isTwoSided 100 = .ok (.aload_n 0, 1) := by decide +kernel
theorem dX12_isTwoSided_101 : decode cX12_isTwoSided 101 = .ok (.iload 4, 2) := by decide +kernel
theorem dX12_isTwoSided_103 : decode cX12_isTwoSided 103 = .ok (.iload 12, 2) := by decide +kernel
theorem dX12_isTwoSided_105 : decode cX12_isTwoSided 105 = .ok (.iload 11, 2) := by decide +kernel
theorem dX12_isTwoSided_107 : decode cX12_isTwoSided 107 = .ok (.iload 9, 2) := by decide +kernel
theorem dX12_isTwoSided_109 : decode cX12_isTwoSided 109 = .ok (.lload 5, 2) := by decide +kernel
theorem dX12_isTwoSided_111 : decode cX12_isTwoSided 111 = .ok (.lload 7, 2) := by decide +kernel
theorem dX12_isTwoSided_113 : decode cX12_isTwoSided 113 = .ok (.invokevirtual 449, 3) := by decide +kernel
theorem dX12_isTwoSided_116 : decode cX12_isTwoSided 116 = .ok (.ifCond .ne 5, 3) := by decide +kernel
theorem dX12_isTwoSided_119 : decode cX12_isTwoSided 119 = .ok (.iconst 0, 1) := by decide +kernel
theorem dX12_isTwoSided_120 : decode cX12_isTwoSided 120 = .ok (.ireturn, 1) := by decide +kernel
theorem dX12_isTwoSided_121 : decode cX12_isTwoSided 121 = .ok (.iinc 12 1, 3) := by decide +kernel
theorem dX12_isTwoSided_124 : decode cX12_isTwoSided 124 = .ok (.goto (-30), 3) := by decide +kernel
theorem dX12_isTwoSided_127 : decode cX12_isTwoSided 127 = .ok (.iinc 10 1, 3) := by decide +kernel
theorem dX12_isTwoSided_130 : decode cX12_isTwoSided 130 = .ok (.goto (-66), 3) := by decide +kernel
theorem dX12_isTwoSided_133 : decode cX12_isTwoSided 133 = .ok (.iinc 9 1, 3) := by decide +kernel
theorem dX12_isTwoSided_136 : decode cX12_isTwoSided 136 = .ok (.goto (-81), 3) := by decide +kernel
theorem dX12_isTwoSided_139 : decode cX12_isTwoSided 139 = .ok (.iconst 1, 1) := by decide +kernel
theorem dX12_isTwoSided_140 : decode cX12_isTwoSided 140 = .ok (.ireturn, 1) := by decide +kernel
theorem dX12_counts_0 : decode cX12_counts 0 = .ok (.iload_n 2, 1) := by decide +kernel
theorem dX12_counts_1 : decode cX12_counts 1 = .ok (.iconst 4, 1) := by decide +kernel
theorem dX12_counts_2 : decode cX12_counts 2 = .ok (.if_icmp .ne 24, 3) := by decide +kernel
theorem dX12_counts_5 : decode cX12_counts 5 = .ok (.aload_n 0, 1) := by decide +kernel
theorem dX12_counts_6 : decode cX12_counts 6 = .ok (.dup, 1) := by decide +kernel
theorem dX12_counts_7 : decode cX12_counts 7 = .ok (.getfield 453, 3) := by decide +kernel
theorem dX12_counts_10 : decode cX12_counts 10 = .ok (.lload_n 3, 1) := by decide +kernel
theorem dX12_counts_11 : decode cX12_counts 11 = .ok (.lconst 0, 1) := by decide +kernel
theorem dX12_counts_12 : decode cX12_counts 12 = .ok (.lcmp, 1) := by decide +kernel
theorem dX12_counts_13 : decode cX12_counts 13 = .ok (.ifCond .ne 7, 3) := by decide +kernel
theorem dX12_counts_16 : decode cX12_counts 16 = .ok (.iconst 1, 1) := by decide +kernel
theorem dX12_counts_17 : decode cX12_counts 17 = .ok (.goto 4, 3) := by decide +kernel
theorem dX12_counts_20 : decode cX12_counts 20 = .ok (.iconst 0, 1) := by decide +kernel
theorem dX12_counts_21 : decode cX12_counts 21 = .ok (.iadd, 1) := by decide +kernel
theorem dX12_counts_22 : decode cX12_counts 22 = .ok (.putfield 453, 3) := by decide +kernel
theorem dX12_counts_25 : decode cX12_counts 25 = .ok (.return_, 1) := by decide +kernel
theorem dX12_counts_26 : decode cX12_counts 26 = .ok (.iload_n 2, 1) := by decide +kernel
theorem dX12_counts_27 : decode cX12_counts 27 = .ok (.ifCond .ne 7, 3) := by decide +kernel
theorem dX12_counts_30 : decode cX12_counts 30 = .ok (.lconst 1, 1) := by decide +kernel
theorem dX12_counts_31 : decode cX12_counts 31 = .ok (.goto 50, 3) := by decide +kernel
theorem dX12_counts_34 : decode cX12_counts 34 = .ok (.iload_n 2, 1) := by decide +kernel
theorem dX12_counts_35 : decode cX12_counts 35 = .ok (.iconst 1, 1) := by decide +kernel
theorem dX12_counts_36 : decode cX12_counts 36 = .ok (.if_icmp .ne 14, 3) := by decide +kernel
theorem dX12_counts_39 : decode cX12_counts 39 = .ok (.aload_n 0, 1) := by decide +kernel
theorem dX12_counts_40 : decode cX12_counts 40 = .ok (.getfield 24, 3) := by decide +kernel
theorem dX12_counts_43 : decode cX12_counts 43 = .ok (.iload_n 1, 1) := by decide +kernel
theorem dX12_counts_44 : decode cX12_counts 44 = .ok (.iaload, 1) := by decide +kernel
theorem dX12_counts_45 : decode cX12_counts 45 = .ok (.ineg, 1) := by decide +kernel
theorem dX12_counts_46 : decode cX12_counts 46 = .ok (.i2l, 1) := by decide +kernel
theorem dX12_counts_47 : decode cX12_counts 47 = .ok (.goto 34, 3) := by decide +kernel
theorem dX12_counts_50 : decode cX12_counts 50 = .ok (.iload_n 2, 1) := by decide +kernel
theorem dX12_counts_51 : decode cX12_counts 51 = .ok (.iconst 2, 1) := by decide +kernel
theorem dX12_counts_52 : decode cX12_counts 52 = .ok (.if_icmp .ne 14, 3) := by decide +kernel
theorem dX12_counts_55 : decode cX12_counts 55 = .ok (.aload_n 0, 1) := by decide +kernel
theorem dX12_counts_56 : decode cX12_counts 56 = .ok (.getfield 27, 3) := by decide +kernel
theorem dX12_counts_59 : decode cX12_counts 59 = .ok (.iload_n 1, 1) := by decide +kernel
theorem dX12_counts_60 : decode cX12_counts 60 = .ok (.iaload, 1) := by decide +kernel
theorem dX12_counts_61 : decode cX12_counts 61 = .ok (.ineg, 1) := by decide +kernel
theorem dX12_counts_62 : decode cX12_counts 62 = .ok (.i2l, 1) := by decide +kernel
theorem dX12_counts_63 : decode cX12_counts 63 = .ok (.goto 18, 3) := by decide +kernel
theorem dX12_counts_66 : decode cX12_counts 66 = .ok (.aload_n 0, 1) := by decide +kernel
theorem dX12_counts_67 : decode cX12_counts 67 = .ok (.getfield 24, 3) := by decide +kernel
theorem dX12_counts_70 : decode cX12_counts 70 = .ok (.iload_n 1, 1) := by decide +kernel
theorem dX12_counts_71 : decode cX12_counts 71 = .ok (.iaload, 1) := by decide +kernel
theorem dX12_counts_72 : decode cX12_counts 72 = .ok (.i2l, 1) := by decide +kernel
theorem dX12_counts_73 : decode cX12_counts 73 = .ok (.aload_n 0, 1) := by decide +kernel
theorem dX12_counts_74 : decode cX12_counts 74 = .ok (.getfield 27, 3) := by decide +kernel
theorem dX12_counts_77 : decode cX12_counts 77 = .ok (.iload_n 1, 1) := by decide +kernel
theorem dX12_counts_78 : decode cX12_counts 78 = .ok (.iaload, 1) := by decide +kernel
theorem dX12_counts_79 : decode cX12_counts 79 = .ok (.i2l, 1) := by decide +kernel
theorem dX12_counts_80 : decode cX12_counts 80 = .ok (.lmul, 1) := by decide +kernel
theorem dX12_counts_81 : decode cX12_counts 81 = .ok (.lstore 5, 2) := by decide +kernel
theorem dX12_counts_83 : decode cX12_counts 83 = .ok (.aload_n 0, 1) := by decide +kernel
theorem dX12_counts_84 : decode cX12_counts 84 = .ok (.iload_n 1, 1) := by decide +kernel
theorem dX12_counts_85 : decode cX12_counts 85 = .ok (.iload_n 2, 1) := by decide +kernel
theorem dX12_counts_86 : decode cX12_counts 86 = .ok (.iload_n 2, 1) := by decide +kernel
theorem dX12_counts_87 : decode cX12_counts 87 = .ok (.invokevirtual 355, 3) := by decide +kernel
theorem dX12_counts_90 : decode cX12_counts 90 = .ok (.lstore 7, 2) := by decide +kernel
theorem dX12_counts_92 : decode cX12_counts 92 = .ok (.lconst 0, 1) := by decide +kernel
theorem dX12_counts_93 : decode cX12_counts 93 = .ok (.lstore 9, 2) := by decide +kernel
theorem dX12_counts_95 : decode cX12_counts 95 = .ok (.iconst 0, 1) := by decide +kernel
theorem dX12_counts_96 : decode cX12_counts 96 = .ok (.istore 11, 2) := by decide +kernel
theorem dX12_counts_98 : decode cX12_counts 98 = .ok (.iload 11, 2) := by decide +kernel
theorem dX12_counts_100 : decode cX12_counts 100 = .ok (.iload_n 2, 1) := by decide +kernel
theorem dX12_counts_101 : decode cX12_counts 101 = .ok (.if_icmp .ge 30, 3) := by decide +kernel
theorem dX12_counts_104 : decode cX12_counts 104 = .ok (.lload 9, 2) := by decide +kernel
theorem dX12_counts_106 : decode cX12_counts 106 = .ok (.aload_n 0, 1) := by decide +kernel
theorem dX12_counts_107 : decode cX12_counts 107 = .ok (.getfield 72, 3) := by decide +kernel
theorem dX12_counts_110 : decode cX12_counts 110 = .ok (.iload 11, 2) := by decide +kernel
theorem dX12_counts_112 : decode cX12_counts 112 = .ok (.laload, 1) := by decide +kernel
theorem dX12_counts_113 : decode cX12_counts 113 = .ok (.aload_n 0, 1) := by decide +kernel
theorem dX12_counts_114 : decode cX12_counts 114 = .ok (.iload_n 1, 1) := by decide +kernel
theorem dX12_counts_115 : decode cX12_counts 115 = .ok (.iload 11, 2) := by decide +kernel
theorem dX12_counts_117 : decode cX12_counts 117 = .ok (.iload_n 2, 1) := by decide +kernel
theorem dX12_counts_118 : decode cX12_counts 118 = .ok (.invokevirtual 355, 3) := by decide +kernel
theorem dX12_counts_121 : decode cX12_counts 121 = .ok (.lmul, 1) := by decide +kernel
theorem dX12_counts_122 : decode cX12_counts 122 = .ok (.ladd, 1) := by decide +kernel
theorem dX12_counts_123 : decode cX12_counts 123 = .ok (.lstore 9, 2) := by decide +kernel
theorem dX12_counts_125 : decode cX12_counts 125 = .ok (.iinc 11 1, 3) := by decide +kernel
theorem dX12_counts_128 : decode cX12_counts 128 = .ok (.goto (-30), 3) := by decide +kernel
theorem dX12_counts_131 : decode cX12_counts 131 = .ok (.lconst 0, 1) := by decide +kernel
theorem dX12_counts_132 : decode cX12_counts 132 = .ok (.lstore 11, 2) := by decide +kernel
theorem dX12_counts_134 : decode cX12_counts 134 = .ok (.lload 5, 2) := by decide +kernel
theorem dX12_counts_136 : decode cX12_counts 136 = .ok (.lload 11, 2) := by decide +kernel
theorem dX12_counts_138 : decode cX12_counts 138 = .ok (.lconst 1, 1) := by decide +kernel
theorem dX12_counts_139 : decode cX12_counts 139 = .ok (.ladd, 1) := by decide +kernel
theorem dX12_counts_140 : decode cX12_counts 140 = .ok (.lmul, 1) := by decide +kernel
theorem dX12_counts_141 : decode cX12_counts 141 = .ok (.lload 11, 2) := by decide +kernel
theorem dX12_counts_143 : decode cX12_counts 143 = .ok (.lconst 1, 1) := by decide +kernel
theorem dX12_counts_144 : decode cX12_counts 144 = .ok (.ladd, 1) := by decide +kernel
theorem dX12_counts_145 : decode cX12_counts 145 = .ok (.lmul, 1) := by decide +kernel
theorem dX12_counts_146 : decode cX12_counts 146 = .ok (.lload_n 3, 1) := by decide +kernel
theorem dX12_counts_147 : decode cX12_counts 147 = .ok (.lcmp, 1) := by decide +kernel
theorem dX12_counts_148 : decode cX12_counts 148 = .ok (.ifCond .gt 12, 3) := by decide +kernel
theorem dX12_counts_151 : decode cX12_counts 151 = .ok (.lload 11, 2) := by decide +kernel
theorem dX12_counts_153 : decode cX12_counts 153 = .ok (.lconst 1, 1) := by decide +kernel
theorem dX12_counts_154 : decode cX12_counts 154 = .ok (.ladd, 1) := by decide +kernel
theorem dX12_counts_155 : decode cX12_counts 155 = .ok (.lstore 11, 2) := by decide +kernel
theorem dX12_counts_157 : decode cX12_counts 157 = .ok (.goto (-23), 3) := by decide +kernel
theorem dX12_counts_160 : decode cX12_counts 160 = .ok (.lload 11, 2) := by decide +kernel
theorem dX12_counts_162 : decode cX12_counts 162 = .ok (.lload 9, 2) := by decide +kernel
theorem dX12_counts_164 : decode cX12_counts 164 = .ok (.lsub, 1) := by decide +kernel
theorem dX12_counts_165 : decode cX12_counts 165 = .ok (.lload 7, 2) := by decide +kernel
theorem dX12_counts_167 : decode cX12_counts 167 = .ok (.invokestatic 362, 3) := by decide +kernel
theorem dX12_counts_170 : decode cX12_counts 170 = .ok (.lstore 13, 2) := by decide +kernel
theorem dX12_counts_172 : decode cX12_counts 172 = .ok (.lload 13, 2) := by decide +kernel
theorem dX12_counts_174 : decode cX12_counts 174 = .ok (.lstore 15, 2) := by decide +kernel
theorem dX12_counts_176 : decode cX12_counts 176 = .ok (.lload 9, 2) := by decide +kernel
theorem dX12_counts_178 : decode cX12_counts 178 = .ok (.lload 15, 2) := by decide +kernel
theorem dX12_counts_180 : decode cX12_counts 180 = .ok (.lload 7, 2) := by decide +kernel
theorem dX12_counts_182 : decode cX12_counts 182 = .ok (.lmul, 1) := by decide +kernel
theorem dX12_counts_183 : decode cX12_counts 183 = .ok (.ladd, 1) := by decide +kernel
theorem dX12_counts_184 : decode cX12_counts 184 = .ok (.lload 11, 2) := by decide +kernel
theorem dX12_counts_186 : decode cX12_counts 186 = .ok (.lneg, 1) := by decide +kernel
theorem dX12_counts_187 : decode cX12_counts 187 = .ok (.lcmp, 1) := by decide +kernel
theorem dX12_counts_188 : decode cX12_counts 188 = .ok (.ifCond .lt 48, 3) := by decide +kernel
theorem dX12_counts_191 : decode cX12_counts 191 = .ok (.lload 9, 2) := by decide +kernel
theorem dX12_counts_193 : decode cX12_counts 193 = .ok (.lload 15, 2) := by decide +kernel
theorem dX12_counts_195 : decode cX12_counts 195 = .ok (.lload 7, 2) := by decide +kernel
theorem dX12_counts_197 : decode cX12_counts 197 = .ok (.lmul, 1) := by decide +kernel
theorem dX12_counts_198 : decode cX12_counts 198 = .ok (.ladd, 1) := by decide +kernel
theorem dX12_counts_199 : decode cX12_counts 199 = .ok (.lstore 17, 2) := by decide +kernel
theorem dX12_counts_201 : decode cX12_counts 201 = .ok (.aload_n 0, 1) := by decide +kernel
theorem dX12_counts_202 : decode cX12_counts 202 = .ok (.getfield 72, 3) := by decide +kernel
theorem dX12_counts_205 : decode cX12_counts 205 = .ok (.iload_n 2, 1) := by decide +kernel
theorem dX12_counts_206 : decode cX12_counts 206 = .ok (.lload 15, 2) := by decide +kernel
theorem dX12_counts_208 : decode cX12_counts 208 = .ok (.lastore, 1) := by decide +kernel
theorem dX12_counts_209 : decode cX12_counts 209 = .ok (.aload_n 0, 1) := by decide +kernel
theorem dX12_counts_210 : decode cX12_counts 210 = .ok (.iload_n 1, 1) := by decide +kernel
theorem dX12_counts_211 : decode cX12_counts 211 = .ok (.iload_n 2, 1) := by decide +kernel
theorem dX12_counts_212 : decode cX12_counts 212 = .ok (.iconst 1, 1) := by decide +kernel
theorem dX12_counts_213 : decode cX12_counts 213 = .ok (.iadd, 1) := by decide +kernel
theorem dX12_counts_214 : decode cX12_counts 214 = .ok (.lload_n 3, 1) := by decide +kernel
theorem dX12_counts_215 : decode cX12_counts 215 = .ok (.lload 5, 2) := by decide +kernel
theorem dX12_counts_217 : decode cX12_counts 217 = .ok (.lload 17, 2) := by decide +kernel
theorem dX12_counts_219 : decode cX12_counts 219 = .ok (.lmul, 1) := by decide +kernel
theorem dX12_counts_220 : decode cX12_counts 220 = .ok (.lload 17, 2) := by decide +kernel
theorem dX12_counts_222 : decode cX12_counts 222 = .ok (.lmul, 1) := by decide +kernel
theorem dX12_counts_223 : decode cX12_counts 223 = .ok (.lsub, 1) := by decide +kernel
theorem dX12_counts_224 : decode cX12_counts 224 = .ok (.invokevirtual 456, 3) := by decide +kernel
theorem dX12_counts_227 : decode cX12_counts 227 = .ok (.lload 15, 2) := by decide +kernel
theorem dX12_counts_229 : decode cX12_counts 229 = .ok (.lconst 1, 1) := by decide +kernel
theorem dX12_counts_230 : decode cX12_counts 230 = .ok (.lsub, 1) := by decide +kernel
theorem dX12_counts_231 : decode cX12_counts 231 = .ok (.lstore 15, 2) := by decide +kernel
theorem dX12_counts_233 : decode cX12_counts 233 = .ok (.goto (-57), 3) := by decide +kernel
theorem dX12_counts_236 : decode cX12_counts 236 = .ok (.return_, 1) := by decide +kernel
theorem dX12_many_0 : decode cX12_many 0 = .ok (.aload_n 0, 1) := by decide +kernel
theorem dX12_many_1 : decode cX12_many 1 = .ok (.iconst 0, 1) := by decide +kernel
theorem dX12_many_2 : decode cX12_many 2 = .ok (.putfield 75, 3) := by decide +kernel
theorem dX12_many_5 : decode cX12_many 5 = .ok (.aload_n 0, 1) := by decide +kernel
theorem dX12_many_6 : decode cX12_many 6 = .ok (.iload_n 1, 1) := by decide +kernel
theorem dX12_many_7 : decode cX12_many 7 = .ok (.invokevirtual 288, 3) := by decide +kernel
theorem dX12_many_10 : decode cX12_many 10 = .ok (.ifCond .eq 33, 3) := by decide +kernel
theorem dX12_many_13 : decode cX12_many 13 = .ok (.iload_n 2, 1) := by decide +kernel
theorem dX12_many_14 : decode cX12_many 14 = .ok (.i2l, 1) := by decide +kernel
theorem dX12_many_15 : decode cX12_many 15 = .ok (.lconst 0, 1) := by decide +kernel
theorem dX12_many_16 : decode cX12_many 16 = .ok (.ldc2_w 460, 3) := by decide +kernel
theorem dX12_many_19 : decode cX12_many 19 = .ok (.invokestatic 113, 3) := by decide +kernel
theorem dX12_many_22 : decode cX12_many 22 = .ok (.ifCond .eq 21, 3) := by decide +kernel
theorem dX12_many_25 : decode cX12_many 25 = .ok (.aload_n 0, 1) := by decide +kernel
theorem dX12_many_26 : decode cX12_many 26 = .ok (.getfield 24, 3) := by decide +kernel
theorem dX12_many_29 : decode cX12_many 29 = .ok (.iload_n 1, 1) := by decide +kernel
theorem dX12_many_30 : decode cX12_many 30 = .ok (.iaload, 1) := by decide +kernel
theorem dX12_many_31 : decode cX12_many 31 = .ok (.ifCond .gt 12, 3) := by decide +kernel
theorem dX12_many_34 : decode cX12_many 34 = .ok (.aload_n 0, 1) := by decide +kernel
theorem dX12_many_35 : decode cX12_many 35 = .ok (.getfield 27, 3) := by decide +kernel
theorem dX12_many_38 : decode cX12_many 38 = .ok (.iload_n 1, 1) := by decide +kernel
theorem dX12_many_39 : decode cX12_many 39 = .ok (.iaload, 1) := by decide +kernel
theorem dX12_many_40 : decode cX12_many 40 = .ok (.ifCond .le 5, 3) := by decide +kernel
theorem dX12_many_43 : decode cX12_many 43 = .ok (.iconst (-1), 1) := by decide +kernel
theorem dX12_many_44 : decode cX12_many 44 = .ok (.ireturn, 1) := by decide +kernel
theorem dX12_many_45 : decode cX12_many 45 = .ok (.aload_n 0, 1) := by decide +kernel
theorem dX12_many_46 : decode cX12_many 46 = .ok (.iconst 0, 1) := by decide +kernel
theorem dX12_many_47 : decode cX12_many 47 = .ok (.putfield 453, 3) := by decide +kernel
theorem dX12_many_50 : decode cX12_many 50 = .ok (.aload_n 0, 1) := by decide +kernel
theorem dX12_many_51 : decode cX12_many 51 = .ok (.iload_n 1, 1) := by decide +kernel
theorem dX12_many_52 : decode cX12_many 52 = .ok (.iconst 0, 1) := by decide +kernel
theorem dX12_many_53 : decode cX12_many 53 = .ok (.iload_n 2, 1) := by decide +kernel
theorem dX12_many_54 : decode cX12_many 54 = .ok (.i2l, 1) := by decide +kernel
theorem dX12_many_55 : decode cX12_many 55 = .ok (.aload_n 0, 1) := by decide +kernel
theorem dX12_many_56 : decode cX12_many 56 = .ok (.getfield 60, 3) := by decide +kernel
theorem dX12_many_59 : decode cX12_many 59 = .ok (.iload_n 1, 1) := by decide +kernel
theorem dX12_many_60 : decode cX12_many 60 = .ok (.laload, 1) := by decide +kernel
theorem dX12_many_61 : decode cX12_many 61 = .ok (.lmul, 1) := by decide +kernel
theorem dX12_many_62 : decode cX12_many 62 = .ok (.aload_n 0, 1) := by decide +kernel
theorem dX12_many_63 : decode cX12_many 63 = .ok (.getfield 60, 3) := by decide +kernel
theorem dX12_many_66 : decode cX12_many 66 = .ok (.iload_n 1, 1) := by decide +kernel
theorem dX12_many_67 : decode cX12_many 67 = .ok (.laload, 1) := by decide +kernel
theorem dX12_many_68 : decode cX12_many 68 = .ok (.lmul, 1) := by decide +kernel
theorem dX12_many_69 : decode cX12_many 69 = .ok (.invokevirtual 456, 3) := by decide +kernel
theorem dX12_many_72 : decode cX12_many 72 = .ok (.aload_n 0, 1) := by decide +kernel
theorem dX12_many_73 : decode cX12_many 73 = .ok (.getfield 453, 3) := by decide +kernel
theorem dX12_many_76 : decode cX12_many 76 = .ok (.ireturn, 1) := by decide +kernel
theorem dX12_count_0 : decode cX12_count 0 = .ok (.aload_n 0, 1) := by decide +kernel
theorem dX12_count_1 : decode cX12_count 1 = .ok (.iconst 0, 1) := by decide +kernel
theorem dX12_count_2 : decode cX12_count 2 = .ok (.putfield 75, 3) := by decide +kernel
theorem dX12_count_5 : decode cX12_count 5 = .ok (.iload_n 1, 1) := by decide +kernel
theorem dX12_count_6 : decode cX12_count 6 = .ok (.ifCond .ne 12, 3) := by decide +kernel
theorem dX12_count_9 : decode cX12_count 9 = .ok (.aload_n 0, 1) := by decide +kernel
theorem dX12_count_10 : decode cX12_count 10 = .ok (.getfield 13, 3) := by decide +kernel
theorem dX12_count_13 : decode cX12_count 13 = .ok (.iconst 0, 1) := by decide +kernel
theorem dX12_count_14 : decode cX12_count 14 = .ok (.iaload, 1) := by decide +kernel
theorem dX12_count_15 : decode cX12_count 15 = .ok (.goto 28, 3) := by decide +kernel
theorem dX12_count_18 : decode cX12_count 18 = .ok (.iload_n 1, 1) := by decide +kernel
theorem dX12_count_19 : decode cX12_count 19 = .ok (.iconst 1, 1) := by decide +kernel
theorem dX12_count_20 : decode cX12_count 20 = .ok (.if_icmp .ne 10, 3) := by decide +kernel
theorem dX12_count_23 : decode cX12_count 23 = .ok (.aload_n 0, 1) := by decide +kernel
theorem dX12_count_24 : decode cX12_count 24 = .ok (.getfield 213, 3) := by decide +kernel
theorem dX12_count_27 : decode cX12_count 27 = .ok (.goto 16, 3) := by decide +kernel
theorem dX12_count_30 : decode cX12_count 30 = .ok (.iload_n 1, 1) := by decide +kernel
theorem dX12_count_31 : decode cX12_count 31 = .ok (.iconst 2, 1) := by decide +kernel
theorem dX12_count_32 : decode cX12_count 32 = .ok (.if_icmp .ne 10, 3) := by decide +kernel
theorem dX12_count_35 : decode cX12_count 35 = .ok (.aload_n 0, 1) := by decide +kernel
theorem dX12_count_36 : decode cX12_count 36 = .ok (.getfield 79, 3) := by decide +kernel
theorem dX12_count_39 : decode cX12_count 39 = .ok (.goto 4, 3) := by decide +kernel
theorem dX12_count_42 : decode cX12_count 42 = .ok (.iconst (-1), 1) := by decide +kernel
theorem dX12_count_43 : decode cX12_count 43 = .ok (.ireturn, 1) := by decide +kernel
def mX12_laysIdeal_B84 (v0 : Nat) (v1 : Int) (v2 : Int) (v3 : Int) (v4 : Int) (σ : mSt) : Option (Int × mSt) := mRef (σ v0 31) fun r1 => mRef (σ v0 30) fun r3 => mG (ixOK r3 21 9) <| mG (ixOK r1 21 9) <| bnd (upS σ r1 9 ((σ r3 9) * v4)) fun s7 => bnd (upS s7 v0 34 0) fun s9 => mCall (mX12_putsProducts v0 v3 v1 s9) fun b11 s12 => if wI v2 = (-1) then (some (0, s12)) else mCall (mX12_putsProducts v0 v3 v2 s12) fun b15 s16 => some (0, s16)
def mX12_laysIdeal_L55 (v0 : Nat) (v1 : Int) (v2 : Int) (v3 : Int) (v4 : Int) (x84 : mSt → Option (Int × mSt)) : Nat → Int → mSt → Option (Int × mSt)
  | 0, _, _ => none
  | n + 1, v6, σ => if 16 ≤ wI v6 then (x84 σ) else mRef (σ v0 29) fun r19 => mG (ixOK r19 21 (144 + v6)) <| bnd (upS σ r19 (wI (144 + v6)).toNat ((σ r19 (wI (144 + v6)).toNat) * v4)) fun s22 => bnd (v6 + 1) fun a24 => mX12_laysIdeal_L55 v0 v1 v2 v3 v4 x84 n a24 s22
def mX12_laysIdeal_B50 (v0 : Nat) (v1 : Int) (v2 : Int) (v3 : Int) (t0 : Int) (σ : mSt) : Option (Int × mSt) := mX12_laysIdeal_L55 v0 v1 v2 v3 t0 (fun zσ => mX12_laysIdeal_B84 v0 v1 v2 v3 t0 zσ) mF 0 σ
def mX12_laysIdeal (v0 : Nat) (v1 : Int) (v2 : Int) (σ : mSt) : Option (Int × mSt) := mG (isC v0 11) <| mRef (σ v0 22) fun r26 => mG (ixOK r26 20 v1) <| bnd (σ r26 (wI v1).toNat) fun a29 => mCall (mX12_copies v0 a29 9 σ) fun b31 s32 => mCall (mX12_normAbove v0 v1 s32) fun b34 s35 => mCall (mX12_part v0 v1 4 s35) fun b37 s38 => mCall (mX12_part v0 v1 4 s38) fun b40 s41 => mG (wL (b37 * b40) ≠ 0) <| bnd ((wL b34).tdiv (wL (b37 * b40))) fun a44 => if 0 ≤ wL a44 then (mX12_laysIdeal_B50 v0 v1 v2 a29 a44 s41) else mX12_laysIdeal_B50 v0 v1 v2 a29 (-a44) s41
def mX12_ideal_B177 (v0 : Nat) (v1 : Int) (v2 : Int) (v5 : Int) (v7 : Int) (σ : mSt) : Option (Int × mSt) := mG (wL v7 ≠ 0) <| some ((wL v5).tdiv (wL v7), σ)
def mX12_ideal_L42 (v0 : Nat) (v1 : Int) (v2 : Int) (v4 : Int) (x177 : Int → Int → mSt → Option (Int × mSt)) : Nat → Int → Int → Int → mSt → Option (Int × mSt)
  | 0, _, _, _, _ => none
  | n + 1, v5, v7, v9, σ => if 4 ≤ wI v9 then (x177 v5 v7 σ) else mCall (mX12_get v0 9 v9 v9 σ) fun b3 s4 => mRef (s4 v0 30) fun r6 => mG (ixOK r6 21 9) <| mRef (s4 v0 30) fun r9 => mG (ixOK r9 21 v4) <| mG (wL (s4 r9 (wI v4).toNat) ≠ 0) <| mCall (mX12_get v0 v4 v9 v9 s4) fun b13 s14 => bnd (((wL (s4 r6 9)).tdiv (wL (s4 r9 (wI v4).toNat))) * b13) fun a16 => mCall (mX12_common b3 a16 s14) fun b18 s19 => mG (wL b18 ≠ 0) <| bnd ((wL b3).tdiv (wL b18)) fun a22 => bnd ((wL a16).tdiv (wL b18)) fun a24 => mCall (mX12_common a22 v7 s19) fun b26 s27 => mG (wL b26 ≠ 0) <| bnd ((wL a22).tdiv (wL b26)) fun a30 => bnd ((wL v7).tdiv (wL b26)) fun a32 => mCall (mX12_common a24 v5 s27) fun b34 s35 => mG (wL b34 ≠ 0) <| bnd ((wL a24).tdiv (wL b34)) fun a38 => bnd ((wL v5).tdiv (wL b34)) fun a40 => bnd (a40 * a30) fun a42 => bnd (a32 * a38) fun a44 => bnd (v9 + 1) fun a46 => mX12_ideal_L42 v0 v1 v2 v4 x177 n a42 a44 a46 s35
def mX12_ideal (v0 : Nat) (v1 : Int) (v2 : Int) (σ : mSt) : Option (Int × mSt) := mG (isC v0 11) <| bnd (upS σ v0 0 0) fun s48 => mCall (mX12_refusal v0 v1 v2 s48) fun b50 s51 => if 0 ≤ wI b50 then (mCall (mX12_laysIdeal v0 v1 v2 s51) fun b54 s55 => mRef (s55 v0 22) fun r57 => mG (ixOK r57 20 v1) <| bnd (s55 r57 (wI v1).toNat) fun a60 => mX12_ideal_L42 v0 v1 v2 a60 (fun z5 z7 zσ => mX12_ideal_B177 v0 v1 v2 z5 z7 zσ) mF 1 1 0 s55) else some (wI b50, s51)
def mX12_holdsBy_B220 (v0 : Nat) (v1 : Int) (σ : mSt) : Option (Int × mSt) := some (1, σ)
def mX12_holdsBy_B214 (v0 : Nat) (v1 : Int) (c100 : Int → mSt → Option (Int × mSt)) (x220 : mSt → Option (Int × mSt)) (v5 : Int) (σ : mSt) : Option (Int × mSt) := bnd (v5 + 1) fun a1 => c100 a1 σ
def mX12_holdsBy_L155 (v0 : Nat) (v1 : Int) (v5 : Int) (v6 : Int) (x214 : mSt → Option (Int × mSt)) : Nat → Int → mSt → Option (Int × mSt)
  | 0, _, _ => none
  | n + 1, v8, σ => if 4 ≤ wI v8 then (x214 σ) else mRef (σ v0 32) fun r4 => mRef (σ v0 32) fun r6 => mG (ixOK r6 21 v8) <| mCall (mX12_get v0 9 v5 v8 σ) fun b9 s10 => mRef (s10 v0 31) fun r12 => mG (ixOK r12 21 9) <| mCall (mX12_mulMod v6 b9 (s10 r12 9) s10) fun b15 s16 => mRef (s16 v0 31) fun r18 => mG (ixOK r18 21 9) <| mCall (mX12_mod ((σ r6 (wI v8).toNat) - b15) (s16 r18 9) s16) fun b21 s22 => mG (ixOK r4 21 v8) <| bnd (upS s22 r4 (wI v8).toNat b21) fun s25 => bnd (v8 + 1) fun a27 => mX12_holdsBy_L155 v0 v1 v5 v6 x214 n a27 s25
def mX12_holdsBy_L100 (v0 : Nat) (v1 : Int) (x220 : mSt → Option (Int × mSt)) : Nat → Int → mSt → Option (Int × mSt)
  | 0, _, _ => none
  | n + 1, v5, σ => if 4 ≤ wI v5 then (x220 σ) else mRef (σ v0 32) fun r30 => mG (ixOK r30 21 v5) <| mCall (mX12_get v0 9 v5 v5 σ) fun b33 s34 => mG (wL b33 ≠ 0) <| if wL ((wL (σ r30 (wI v5).toNat)).tmod (wL b33)) = 0 then (mRef (s34 v0 32) fun r38 => mG (ixOK r38 21 v5) <| mCall (mX12_get v0 9 v5 v5 s34) fun b41 s42 => mG (wL b41 ≠ 0) <| bnd ((wL (s34 r38 (wI v5).toNat)).tdiv (wL b41)) fun a45 => mX12_holdsBy_L155 v0 v1 v5 a45 (fun zσ => mX12_holdsBy_B214 v0 v1 (mX12_holdsBy_L100 v0 v1 x220 n) x220 v5 zσ) mF v5 s42) else some (0, s34)
def mX12_holdsBy_B97 (v0 : Nat) (v1 : Int) (σ : mSt) : Option (Int × mSt) := mX12_holdsBy_L100 v0 v1 (fun zσ => mX12_holdsBy_B220 v0 v1 zσ) mF 0 σ
def mX12_holdsBy_L48 (v0 : Nat) (v1 : Int) (v3 : Int) (x97 : mSt → Option (Int × mSt)) : Nat → Int → mSt → Option (Int × mSt)
  | 0, _, _ => none
  | n + 1, v5, σ => if 4 ≤ wI v5 then (x97 σ) else mRef (σ v0 32) fun r48 => mRef (σ v0 32) fun r50 => mG (ixOK r50 21 v5) <| mG (wL v3 ≠ 0) <| mG (wL ((wL v1).tdiv (wL v3)) ≠ 0) <| mRef (σ v0 30) fun r55 => mG (ixOK r55 21 9) <| mRef (σ v0 31) fun r58 => mG (ixOK r58 21 9) <| mCall (mX12_mulMod ((wL (σ r50 (wI v5).toNat)).tdiv (wL ((wL v1).tdiv (wL v3)))) ((wL (σ r55 9)).tdiv (wL v3)) (σ r58 9) σ) fun b61 s62 => mG (ixOK r48 21 v5) <| bnd (upS s62 r48 (wI v5).toNat b61) fun s65 => bnd (v5 + 1) fun a67 => mX12_holdsBy_L48 v0 v1 v3 x97 n a67 s65
def mX12_holdsBy_B45 (v0 : Nat) (v1 : Int) (v3 : Int) (σ : mSt) : Option (Int × mSt) := mX12_holdsBy_L48 v0 v1 v3 (fun zσ => mX12_holdsBy_B97 v0 v1 zσ) mF 0 σ
def mX12_holdsBy_L15 (v0 : Nat) (v1 : Int) (v3 : Int) (x45 : mSt → Option (Int × mSt)) : Nat → Int → mSt → Option (Int × mSt)
  | 0, _, _ => none
  | n + 1, v5, σ => if 4 ≤ wI v5 then (x45 σ) else mRef (σ v0 32) fun r70 => mG (ixOK r70 21 v5) <| mG (wL v3 ≠ 0) <| mG (wL ((wL v1).tdiv (wL v3)) ≠ 0) <| if wL ((wL (σ r70 (wI v5).toNat)).tmod (wL ((wL v1).tdiv (wL v3)))) = 0 then (bnd (v5 + 1) fun a76 => mX12_holdsBy_L15 v0 v1 v3 x45 n a76 σ) else some (0, σ)
def mX12_holdsBy (v0 : Nat) (v1 : Int) (σ : mSt) : Option (Int × mSt) := mG (isC v0 11) <| mRef (σ v0 30) fun r78 => mG (ixOK r78 21 9) <| mCall (mX12_common (σ r78 9) v1 σ) fun b81 s82 => mX12_holdsBy_L15 v0 v1 b81 (fun zσ => mX12_holdsBy_B45 v0 v1 b81 zσ) mF 0 s82
def mX12_isInIdeal_B89 (v0 : Nat) (v1 : Int) (v2 : Int) (v3 : Int) (σ : mSt) : Option (Int × mSt) := mCall (mX12_part v0 v3 4 σ) fun b1 s2 => mCall (mX12_holdsBy v0 b1 s2) fun b4 s5 => if wI b4 = 0 then (some (0, s5)) else some (1, s5)
def mX12_isInIdeal_L63 (v0 : Nat) (v1 : Int) (v2 : Int) (v3 : Int) (x89 : mSt → Option (Int × mSt)) : Nat → Int → mSt → Option (Int × mSt)
  | 0, _, _ => none
  | n + 1, v5, σ => if 4 ≤ wI v5 then (x89 σ) else mRef (σ v0 32) fun r9 => mCall (mX12_part v0 v3 v5 σ) fun b11 s12 => mG (ixOK r9 21 v5) <| bnd (upS s12 r9 (wI v5).toNat b11) fun s15 => bnd (v5 + 1) fun a17 => mX12_isInIdeal_L63 v0 v1 v2 v3 x89 n a17 s15
def mX12_isInIdeal (v0 : Nat) (v1 : Int) (v2 : Int) (v3 : Int) (σ : mSt) : Option (Int × mSt) := mG (isC v0 11) <| bnd (upS σ v0 0 0) fun s19 => mCall (mX12_isKept v0 v1 s19) fun b21 s22 => if wI b21 = 0 then (some ((-1), s22)) else mCall (mX12_isKept v0 v3 s22) fun b25 s26 => if wI b25 = 0 then (some ((-1), s26)) else mRef (s26 v0 22) fun r29 => mG (ixOK r29 20 v3) <| mRef (s26 v0 22) fun r32 => mG (ixOK r32 20 v1) <| if wI (s26 r29 (wI v3).toNat) = wI (s26 r32 (wI v1).toNat) then (mCall (mX12_refusal v0 v1 v2 s26) fun b36 s37 => if 0 ≤ wI b36 then (mCall (mX12_laysIdeal v0 v1 v2 s37) fun b40 s41 => mX12_isInIdeal_L63 v0 v1 v2 v3 (fun zσ => mX12_isInIdeal_B89 v0 v1 v2 v3 zσ) mF 0 s41) else some (b36, s37)) else some ((-1), s26)
def mX12_staysIn_B199 (v0 : Nat) (v1 : Int) (v2 : Int) (v3 : Int) (v4 : Int) (v5 : Int) (v7 : Int) (v9 : Int) (v11 : Int) (σ : mSt) : Option (Int × mSt) := mG (wL v11 ≠ 0) <| mCall (mX12_holdsBy v0 ((wL v9).tdiv (wL v11)) σ) fun b2 s3 => mG (b2 = 0 ∨ b2 = 1) <| some (b2, s3)
def mX12_staysIn_L170 (v0 : Nat) (v1 : Int) (v2 : Int) (v3 : Int) (v4 : Int) (v5 : Int) (v7 : Int) (v9 : Int) (v11 : Int) (x199 : mSt → Option (Int × mSt)) : Nat → Int → mSt → Option (Int × mSt)
  | 0, _, _ => none
  | n + 1, v13, σ => if 4 ≤ wI v13 then (x199 σ) else mRef (σ v0 32) fun r7 => mRef (σ v0 27) fun r9 => mG (ixOK r9 21 v13) <| mG (wL v11 ≠ 0) <| mG (ixOK r7 21 v13) <| bnd (upS σ r7 (wI v13).toNat ((wL (σ r9 (wI v13).toNat)).tdiv (wL v11))) fun s14 => bnd (v13 + 1) fun a16 => mX12_staysIn_L170 v0 v1 v2 v3 v4 v5 v7 v9 v11 x199 n a16 s14
def mX12_staysIn_B167 (v0 : Nat) (v1 : Int) (v2 : Int) (v3 : Int) (v4 : Int) (v5 : Int) (v7 : Int) (v9 : Int) (v11 : Int) (σ : mSt) : Option (Int × mSt) := mX12_staysIn_L170 v0 v1 v2 v3 v4 v5 v7 v9 v11 (fun zσ => mX12_staysIn_B199 v0 v1 v2 v3 v4 v5 v7 v9 v11 zσ) mF 0 σ
def mX12_staysIn_L141 (v0 : Nat) (v1 : Int) (v2 : Int) (v3 : Int) (v4 : Int) (v5 : Int) (v7 : Int) (v9 : Int) (x167 : Int → mSt → Option (Int × mSt)) : Nat → Int → Int → mSt → Option (Int × mSt)
  | 0, _, _, _ => none
  | n + 1, v11, v13, σ => if 4 ≤ wI v13 then (x167 v11 σ) else mRef (σ v0 27) fun r19 => mG (ixOK r19 21 v13) <| mCall (mX12_common v11 (σ r19 (wI v13).toNat) σ) fun b22 s23 => bnd (v13 + 1) fun a25 => mX12_staysIn_L141 v0 v1 v2 v3 v4 v5 v7 v9 x167 n b22 a25 s23
def mX12_staysIn_B100 (v0 : Nat) (v1 : Int) (v2 : Int) (v3 : Int) (v4 : Int) (v5 : Int) (v7 : Int) (v9 : Int) (v11 : Int) (σ : mSt) : Option (Int × mSt) := mG (wL v11 ≠ 0) <| bnd ((wL v9).tdiv (wL v11)) fun a28 => mCall (mX12_takesRow v0 v1 v4 1 σ) fun b30 s31 => mCall (mX12_multiplies v0 v5 v7 s31) fun b33 s34 => mRef (s34 v0 30) fun r36 => mG (ixOK r36 21 v1) <| bnd (a28 * (s34 r36 (wI v1).toNat)) fun a39 => mX12_staysIn_L141 v0 v1 v2 v3 v4 v5 v7 a39 (fun z11 zσ => mX12_staysIn_B167 v0 v1 v2 v3 v4 v5 v7 a39 z11 zσ) mF a39 0 s34
def mX12_staysIn_L71 (v0 : Nat) (v1 : Int) (v2 : Int) (v3 : Int) (v4 : Int) (v5 : Int) (v7 : Int) (v9 : Int) (v11 : Int) (x100 : mSt → Option (Int × mSt)) : Nat → Int → mSt → Option (Int × mSt)
  | 0, _, _ => none
  | n + 1, v13, σ => if 4 ≤ wI v13 then (x100 σ) else mRef (σ v0 25) fun r42 => mRef (σ v0 27) fun r44 => mG (ixOK r44 21 v13) <| mG (wL v11 ≠ 0) <| mG (ixOK r42 21 v13) <| bnd (upS σ r42 (wI v13).toNat ((wL (σ r44 (wI v13).toNat)).tdiv (wL v11))) fun s49 => bnd (v13 + 1) fun a51 => mX12_staysIn_L71 v0 v1 v2 v3 v4 v5 v7 v9 v11 x100 n a51 s49
def mX12_staysIn_B68 (v0 : Nat) (v1 : Int) (v2 : Int) (v3 : Int) (v4 : Int) (v5 : Int) (v7 : Int) (v9 : Int) (v11 : Int) (σ : mSt) : Option (Int × mSt) := mX12_staysIn_L71 v0 v1 v2 v3 v4 v5 v7 v9 v11 (fun zσ => mX12_staysIn_B100 v0 v1 v2 v3 v4 v5 v7 v9 v11 zσ) mF 0 σ
def mX12_staysIn_L42 (v0 : Nat) (v1 : Int) (v2 : Int) (v3 : Int) (v4 : Int) (v5 : Int) (v7 : Int) (v9 : Int) (x68 : Int → mSt → Option (Int × mSt)) : Nat → Int → Int → mSt → Option (Int × mSt)
  | 0, _, _, _ => none
  | n + 1, v11, v13, σ => if 4 ≤ wI v13 then (x68 v11 σ) else mRef (σ v0 27) fun r54 => mG (ixOK r54 21 v13) <| mCall (mX12_common v11 (σ r54 (wI v13).toNat) σ) fun b57 s58 => bnd (v13 + 1) fun a60 => mX12_staysIn_L42 v0 v1 v2 v3 v4 v5 v7 v9 x68 n b57 a60 s58
def mX12_staysIn (v0 : Nat) (v1 : Int) (v2 : Int) (v3 : Int) (v4 : Int) (v5 : Int) (v7 : Int) (σ : mSt) : Option (Int × mSt) := mG (isC v0 11) <| mCall (mX12_takesRow v0 v1 v2 0 σ) fun b62 s63 => mCall (mX12_takesOther v0 v3 s63) fun b65 s66 => mCall (mX12_multiplies v0 v5 v7 s66) fun b68 s69 => mRef (s69 v0 30) fun r71 => mG (ixOK r71 21 v1) <| mCall (mX12_part v0 v3 4 s69) fun b74 s75 => bnd ((s69 r71 (wI v1).toNat) * b74) fun a77 => mX12_staysIn_L42 v0 v1 v2 v3 v4 v5 v7 a77 (fun z11 zσ => mX12_staysIn_B68 v0 v1 v2 v3 v4 v5 v7 a77 z11 zσ) mF a77 0 s75
def mX12_isTwoSided_B139 (v0 : Nat) (v1 : Int) (v2 : Int) (σ : mSt) : Option (Int × mSt) := some (1, σ)
def mX12_isTwoSided_B133 (v0 : Nat) (v1 : Int) (v2 : Int) (v4 : Int) (v5 : Int) (v7 : Int) (c55 : Int → mSt → Option (Int × mSt)) (x139 : mSt → Option (Int × mSt)) (v9 : Int) (σ : mSt) : Option (Int × mSt) := bnd (v9 + 1) fun a1 => c55 a1 σ
def mX12_isTwoSided_B127 (v0 : Nat) (v1 : Int) (v2 : Int) (v4 : Int) (v5 : Int) (v7 : Int) (v9 : Int) (c64 : Int → mSt → Option (Int × mSt)) (x133 : mSt → Option (Int × mSt)) (v10 : Int) (σ : mSt) : Option (Int × mSt) := bnd (v10 + 1) fun a3 => c64 a3 σ
def mX12_isTwoSided_L94 (v0 : Nat) (v1 : Int) (v2 : Int) (v4 : Int) (v5 : Int) (v7 : Int) (v9 : Int) (v10 : Int) (v11 : Int) (x127 : mSt → Option (Int × mSt)) : Nat → Int → mSt → Option (Int × mSt)
  | 0, _, _ => none
  | n + 1, v12, σ => if 4 ≤ wI v12 then (x127 σ) else mCall (mX12_staysIn v0 v4 v12 v11 v9 v5 v7 σ) fun b6 s7 => if wI b6 = 0 then (some (0, s7)) else bnd (v12 + 1) fun a10 => mX12_isTwoSided_L94 v0 v1 v2 v4 v5 v7 v9 v10 v11 x127 n a10 s7
def mX12_isTwoSided_B80 (v0 : Nat) (v1 : Int) (v2 : Int) (v4 : Int) (v5 : Int) (v7 : Int) (v9 : Int) (c64 : Int → mSt → Option (Int × mSt)) (x133 : mSt → Option (Int × mSt)) (v10 : Int) (t0 : Int) (σ : mSt) : Option (Int × mSt) := if wI t0 = (-1) then (mX12_isTwoSided_B127 v0 v1 v2 v4 v5 v7 v9 c64 x133 v10 σ) else mX12_isTwoSided_L94 v0 v1 v2 v4 v5 v7 v9 v10 t0 (fun zσ => mX12_isTwoSided_B127 v0 v1 v2 v4 v5 v7 v9 c64 x133 v10 zσ) mF 0 σ
def mX12_isTwoSided_L64 (v0 : Nat) (v1 : Int) (v2 : Int) (v4 : Int) (v5 : Int) (v7 : Int) (v9 : Int) (x133 : mSt → Option (Int × mSt)) : Nat → Int → mSt → Option (Int × mSt)
  | 0, _, _ => none
  | n + 1, v10, σ => if 2 ≤ wI v10 then (x133 σ) else if wI v10 = 0 then (mX12_isTwoSided_B80 v0 v1 v2 v4 v5 v7 v9 (mX12_isTwoSided_L64 v0 v1 v2 v4 v5 v7 v9 x133 n) x133 v10 v1 σ) else mX12_isTwoSided_B80 v0 v1 v2 v4 v5 v7 v9 (mX12_isTwoSided_L64 v0 v1 v2 v4 v5 v7 v9 x133 n) x133 v10 v2 σ
def mX12_isTwoSided_L55 (v0 : Nat) (v1 : Int) (v2 : Int) (v4 : Int) (v5 : Int) (v7 : Int) (x139 : mSt → Option (Int × mSt)) : Nat → Int → mSt → Option (Int × mSt)
  | 0, _, _ => none
  | n + 1, v9, σ => if 4 ≤ wI v9 then (x139 σ) else mX12_isTwoSided_L64 v0 v1 v2 v4 v5 v7 v9 (fun zσ => mX12_isTwoSided_B133 v0 v1 v2 v4 v5 v7 (mX12_isTwoSided_L55 v0 v1 v2 v4 v5 v7 x139 n) x139 v9 zσ) mF 0 σ
def mX12_isTwoSided (v0 : Nat) (v1 : Int) (v2 : Int) (σ : mSt) : Option (Int × mSt) := mG (isC v0 11) <| bnd (upS σ v0 0 0) fun s16 => mCall (mX12_refusal v0 v1 v2 s16) fun b18 s19 => if 0 ≤ wI b18 then (mCall (mX12_laysIdeal v0 v1 v2 s19) fun b22 s23 => mRef (s23 v0 22) fun r25 => mG (ixOK r25 20 v1) <| bnd (s23 r25 (wI v1).toNat) fun a28 => mRef (s23 v0 15) fun r30 => mG (ixOK r30 20 a28) <| bnd (wI (s23 r30 (wI a28).toNat)) fun a33 => mRef (s23 v0 16) fun r35 => mG (ixOK r35 20 a28) <| bnd (wI (s23 r35 (wI a28).toNat)) fun a38 => mX12_isTwoSided_L55 v0 v1 v2 a28 a33 a38 (fun zσ => mX12_isTwoSided_B139 v0 v1 v2 zσ) mF 0 s23) else some (b18, s19)
def mX12_counts_B236 (rec : Nat → Int → Int → Int → mSt → Option (Int × mSt)) (v0 : Nat) (v1 : Int) (v2 : Int) (v3 : Int) (σ : mSt) : Option (Int × mSt) := some (0, σ)
def mX12_counts_L176 (rec : Nat → Int → Int → Int → mSt → Option (Int × mSt)) (v0 : Nat) (v1 : Int) (v2 : Int) (v3 : Int) (v5 : Int) (v7 : Int) (v9 : Int) (v11 : Int) (x236 : mSt → Option (Int × mSt)) : Nat → Int → mSt → Option (Int × mSt)
  | 0, _, _ => none
  | n + 1, v15, σ => if wL (v9 + (v15 * v7)) < wL (-v11) then (x236 σ) else bnd (v9 + (v15 * v7)) fun a2 => mRef (σ v0 36) fun r4 => mG (ixOK r4 21 v2) <| bnd (upS σ r4 (wI v2).toNat v15) fun s7 => mCall (rec v0 v1 (v2 + 1) (v3 - ((v5 * a2) * a2)) s7) fun b9 s10 => bnd (v15 - 1) fun a12 => mX12_counts_L176 rec v0 v1 v2 v3 v5 v7 v9 v11 x236 n a12 s10
def mX12_counts_B160 (rec : Nat → Int → Int → Int → mSt → Option (Int × mSt)) (v0 : Nat) (v1 : Int) (v2 : Int) (v3 : Int) (v5 : Int) (v7 : Int) (v9 : Int) (v11 : Int) (σ : mSt) : Option (Int × mSt) := mCall (mJ9_floorDiv_f86c9 (v11 - v9) v7 σ) fun b14 s15 => mX12_counts_L176 rec v0 v1 v2 v3 v5 v7 v9 v11 (fun zσ => mX12_counts_B236 rec v0 v1 v2 v3 zσ) mF b14 s15
def mX12_counts_L134 (rec : Nat → Int → Int → Int → mSt → Option (Int × mSt)) (v0 : Nat) (v1 : Int) (v2 : Int) (v3 : Int) (v5 : Int) (v7 : Int) (v9 : Int) (x160 : Int → mSt → Option (Int × mSt)) : Nat → Int → mSt → Option (Int × mSt)
  | 0, _, _ => none
  | n + 1, v11, σ => if wL v3 < wL ((v5 * (v11 + 1)) * (v11 + 1)) then (x160 v11 σ) else bnd (v11 + 1) fun a18 => mX12_counts_L134 rec v0 v1 v2 v3 v5 v7 v9 x160 n a18 σ
def mX12_counts_B131 (rec : Nat → Int → Int → Int → mSt → Option (Int × mSt)) (v0 : Nat) (v1 : Int) (v2 : Int) (v3 : Int) (v5 : Int) (v7 : Int) (v9 : Int) (σ : mSt) : Option (Int × mSt) := mX12_counts_L134 rec v0 v1 v2 v3 v5 v7 v9 (fun z11 zσ => mX12_counts_B160 rec v0 v1 v2 v3 v5 v7 v9 z11 zσ) mF 0 σ
def mX12_counts_L98 (rec : Nat → Int → Int → Int → mSt → Option (Int × mSt)) (v0 : Nat) (v1 : Int) (v2 : Int) (v3 : Int) (v5 : Int) (v7 : Int) (x131 : Int → mSt → Option (Int × mSt)) : Nat → Int → Int → mSt → Option (Int × mSt)
  | 0, _, _, _ => none
  | n + 1, v9, v11, σ => if wI v2 ≤ wI v11 then (x131 v9 σ) else mRef (σ v0 36) fun r21 => mG (ixOK r21 21 v11) <| mCall (mX12_get v0 v1 v11 v2 σ) fun b24 s25 => bnd (v9 + ((σ r21 (wI v11).toNat) * b24)) fun a27 => bnd (v11 + 1) fun a29 => mX12_counts_L98 rec v0 v1 v2 v3 v5 v7 x131 n a27 a29 s25
def mX12_counts_B81 (rec : Nat → Int → Int → Int → mSt → Option (Int × mSt)) (v0 : Nat) (v1 : Int) (v2 : Int) (v3 : Int) (t0 : Int) (σ : mSt) : Option (Int × mSt) := mCall (mX12_get v0 v1 v2 v2 σ) fun b31 s32 => mX12_counts_L98 rec v0 v1 v2 v3 t0 b31 (fun z9 zσ => mX12_counts_B131 rec v0 v1 v2 v3 t0 b31 z9 zσ) mF 0 0 s32
def mX12_counts_body (rec : Nat → Int → Int → Int → mSt → Option (Int × mSt)) (v0 : Nat) (v1 : Int) (v2 : Int) (v3 : Int) (σ : mSt) : Option (Int × mSt) := mG (isC v0 11) <| if wI v2 = 4 then (if wL v3 = 0 then (bnd (upS σ v0 35 ((σ v0 35) + 1)) fun s53 => some (0, s53)) else bnd (upS σ v0 35 ((σ v0 35) + 0)) fun s51 => some (0, s51)) else if wI v2 = 0 then (mX12_counts_B81 rec v0 v1 v2 v3 1 σ) else if wI v2 = 1 then (mRef (σ v0 15) fun r47 => mG (ixOK r47 20 v1) <| mX12_counts_B81 rec v0 v1 v2 v3 (wI (-(σ r47 (wI v1).toNat))) σ) else if wI v2 = 2 then (mRef (σ v0 16) fun r44 => mG (ixOK r44 20 v1) <| mX12_counts_B81 rec v0 v1 v2 v3 (wI (-(σ r44 (wI v1).toNat))) σ) else mRef (σ v0 15) fun r38 => mG (ixOK r38 20 v1) <| mRef (σ v0 16) fun r41 => mG (ixOK r41 20 v1) <| mX12_counts_B81 rec v0 v1 v2 v3 ((wI (σ r38 (wI v1).toNat)) * (wI (σ r41 (wI v1).toNat))) σ
def mX12_counts : Nat → Nat → Int → Int → Int → mSt → Option (Int × mSt)
  | 0, _, _, _, _, _ => none
  | d + 1, v0, v1, v2, v3, σ => mX12_counts_body (mX12_counts d) v0 v1 v2 v3 σ
def mX12_many (v0 : Nat) (v1 : Int) (v2 : Int) (σ : mSt) : Option (Int × mSt) := mG (isC v0 11) <| bnd (upS σ v0 0 0) fun s1 => mCall (mX12_isQuaternion v0 v1 s1) fun b3 s4 => if wI b3 = 0 then (some ((-1), s4)) else mCall (mX12_within (wI v2) 0 12 s4) fun b7 s8 => if wI b7 = 0 then (some ((-1), s8)) else mRef (s8 v0 15) fun r11 => mG (ixOK r11 20 v1) <| if 0 < wI (s8 r11 (wI v1).toNat) then (some ((-1), s8)) else mRef (s8 v0 16) fun r15 => mG (ixOK r15 20 v1) <| if wI (s8 r15 (wI v1).toNat) ≤ 0 then (bnd (upS s8 v0 35 0) fun s19 => mRef (s19 v0 30) fun r21 => mG (ixOK r21 21 v1) <| mRef (s19 v0 30) fun r24 => mG (ixOK r24 21 v1) <| mCall (mX12_counts 6 v0 v1 0 (((wI v2) * (s19 r21 (wI v1).toNat)) * (s19 r24 (wI v1).toNat)) s19) fun b27 s28 => some (s28 v0 35, s28)) else some ((-1), s8)
def mX12_count (v0 : Nat) (v1 : Int) (σ : mSt) : Option (Int × mSt) := mG (isC v0 11) <| bnd (upS σ v0 0 0) fun s1 => if wI v1 = 0 then (mRef (s1 v0 12) fun r6 => mG (ixOK r6 20 0) <| some (s1 r6 0, s1)) else if wI v1 = 1 then (some (s1 v0 21, s1)) else if wI v1 = 2 then (some (s1 v0 2, s1)) else some ((-1), s1)
set_option maxRecDepth 100000 in
set_option maxHeartbeats 4000000 in
theorem wX12_laysIdeal_B84 (l : Launch) (E : mE) (out : Int × mSt) {p : Program} {e : Env} {s : State} {m : MethodId} {args : Array Value} {below : List Frame} {meth : Method} {c : Code} (G : CallFix p m c cX12_laysIdeal 7 s args mTs RX12) (hr : meth.sig.returnType = none) (hk : meth.locks = false) (v0 : Nat) (v1 : Int) (v2 : Int) (g0 : isC v0 11) : ∀ (v3 : Int) (v4 : Int) (σ : mSt) (H : Heap) (locs : List Loc) (ls : Array Slot), mX12_laysIdeal_B84 v0 v1 v2 v3 v4 σ = some out → mM (mA E 276) E 276 σ s H locs → lv_has ls 7 [(0, .ref (eA E v0)), (1, vI v1), (2, vI v2), (3, vI v3), (4, vL v4)] → mGo l p e 5 140 s m args below meth c E none out.2 H locs (F0 m 84 ls []) := by
  intro v3 v4 σ H locs ls hm hM hl
  unfold mX12_laysIdeal_B84 at hm
  refine r_aload_n (np := 85) G hl 0 rfl dX12_laysIdeal_84 rfl rfl ?_
  obtain ⟨r1, e2, hm⟩ := ref_t hm
  refine r_getR (np := 88) G hM (shp_lt g0 (by decide)) g0 e2 fdX12_31 lkX12_63 dX12_laysIdeal_85 rfl ?_
  refine r_bipush (np := 90) G 9 dX12_laysIdeal_88 (by decide) rfl ?_
  refine r_aload_n (np := 91) G hl 0 rfl dX12_laysIdeal_90 rfl rfl ?_
  obtain ⟨r3, e4, hm⟩ := ref_t hm
  refine r_getR (np := 94) G hM (shp_lt g0 (by decide)) g0 e4 fdX12_30 lkX12_60 dX12_laysIdeal_91 rfl ?_
  refine r_bipush (np := 96) G 9 dX12_laysIdeal_94 (by decide) rfl ?_
  obtain ⟨g5, hm⟩ := g_t hm
  refine r_laload (np := 97) G hM g5 rfl dX12_laysIdeal_96 rfl ?_
  refine r_lload (np := 99) G hl 4 rfl dX12_laysIdeal_97 rfl ?_
  refine r_lmul (np := 100) G dX12_laysIdeal_99 rfl ?_
  obtain ⟨g6, hm⟩ := g_t hm
  obtain ⟨s7, e8, hm⟩ := bnd_t hm
  refine r_lastore (np := 101) G hM g6 rfl s7 e8 dX12_laysIdeal_100 rfl (fun H locs hM => ?_)
  refine r_aload_n (np := 102) G hl 0 rfl dX12_laysIdeal_101 rfl rfl ?_
  refine r_iconst (np := 103) G 0 dX12_laysIdeal_102 rfl ?_
  obtain ⟨s9, e10, hm⟩ := bnd_t hm
  refine r_putZ (np := 106) G hM (shp_lt g0 (by decide)) g0 ptX12_34 rfl lkX12_433 (Or.inl rfl) s9 e10 dX12_laysIdeal_103 rfl (fun H locs hM => ?_)
  refine r_aload_n (np := 107) G hl 0 rfl dX12_laysIdeal_106 rfl rfl ?_
  refine r_iload_n (np := 108) G hl 3 rfl dX12_laysIdeal_107 rfl rfl ?_
  refine r_iload_n (np := 109) G hl 1 rfl dX12_laysIdeal_108 rfl rfl ?_
  obtain ⟨b11, s12, e13, hm⟩ := call_t hm
  refine m_callVV (np := 112) G hM hl.1 [vI v3, vI v1] (qX12_putsProducts l E s9 v0 v3 v1 _ e13) myX12_putsProducts (shp_lt (gX12_putsProducts e13) (by decide)) (gX12_putsProducts e13) rfl (by decide) lkX12_437 ⟨Nat.le_of_ble_eq_true rfl, Nat.le_of_ble_eq_true rfl⟩ ⟨Nat.le_of_ble_eq_true rfl, Nat.le_of_ble_eq_true rfl⟩ [] rfl (Nat.le_of_ble_eq_true rfl) dX12_laysIdeal_109 rfl (fun H locs hM => ?_)
  refine r_iload_n (np := 113) G hl 2 rfl dX12_laysIdeal_112 rfl rfl ?_
  refine r_iconst (np := 114) G (-1) dX12_laysIdeal_113 rfl ?_
  refine r_icmp_eq (np := 117) (tgt := 123) G rfl (wIk (-1) rfl) dX12_laysIdeal_114 (by decide) rfl (fun h14 => ?_) (fun h14 => ?_)
  · have hm := b_t h14 hm
    exact r_vret G hr hk hM hm dX12_laysIdeal_123
  · have hm := b_f h14 hm
    refine r_aload_n (np := 118) G hl 0 rfl dX12_laysIdeal_117 rfl rfl ?_
    refine r_iload_n (np := 119) G hl 3 rfl dX12_laysIdeal_118 rfl rfl ?_
    refine r_iload_n (np := 120) G hl 2 rfl dX12_laysIdeal_119 rfl rfl ?_
    obtain ⟨b15, s16, e17, hm⟩ := call_t hm
    refine m_callVV (np := 123) G hM hl.1 [vI v3, vI v2] (qX12_putsProducts l E s12 v0 v3 v2 _ e17) myX12_putsProducts (shp_lt (gX12_putsProducts e17) (by decide)) (gX12_putsProducts e17) rfl (by decide) lkX12_437 ⟨Nat.le_of_ble_eq_true rfl, Nat.le_of_ble_eq_true rfl⟩ ⟨Nat.le_of_ble_eq_true rfl, Nat.le_of_ble_eq_true rfl⟩ [] rfl (Nat.le_of_ble_eq_true rfl) dX12_laysIdeal_120 rfl (fun H locs hM => ?_)
    exact r_vret G hr hk hM hm dX12_laysIdeal_123
set_option maxRecDepth 100000 in
set_option maxHeartbeats 4000000 in
theorem wX12_laysIdeal_L55 (l : Launch) (E : mE) (out : Int × mSt) {p : Program} {e : Env} {s : State} {m : MethodId} {args : Array Value} {below : List Frame} {meth : Method} {c : Code} (G : CallFix p m c cX12_laysIdeal 7 s args mTs RX12) (hr : meth.sig.returnType = none) (hk : meth.locks = false) (v0 : Nat) (v1 : Int) (v2 : Int) (v3 : Int) (v4 : Int) (g0 : isC v0 11) (x84 : mSt → Option (Int × mSt)) (hx84 : ∀ (σ : mSt) (H : Heap) (locs : List Loc) (ls : Array Slot), x84 σ = some out → mM (mA E 276) E 276 σ s H locs → lv_has ls 7 [(0, .ref (eA E v0)), (1, vI v1), (2, vI v2), (3, vI v3), (4, vL v4)] → mGo l p e 5 140 s m args below meth c E none out.2 H locs (F0 m 84 ls [])) : ∀ (n : Nat) (v6 : Int) (σ : mSt) (H : Heap) (locs : List Loc) (ls : Array Slot), mX12_laysIdeal_L55 v0 v1 v2 v3 v4 x84 n v6 σ = some out → mM (mA E 276) E 276 σ s H locs → lv_has ls 7 [(0, .ref (eA E v0)), (1, vI v1), (2, vI v2), (3, vI v3), (4, vL v4), (6, vI v6)] → mGo l p e 5 140 s m args below meth c E none out.2 H locs (F0 m 55 ls []) := by
  intro n
  induction n with
  | zero =>
    intro v6 σ H locs ls hm hM hl
    exact absurd hm (by rw [mX12_laysIdeal_L55.eq_1]; exact fun h => nomatch h)
  | succ n ih =>
    intro v6 σ H locs ls hm hM hl
    rw [mX12_laysIdeal_L55.eq_2] at hm
    refine r_iload (np := 57) G hl 5 rfl dX12_laysIdeal_55 rfl ?_
    refine r_bipush (np := 59) G 16 dX12_laysIdeal_57 (by decide) rfl ?_
    refine r_icmp_ge (np := 62) (tgt := 84) G rfl (wIk 16 rfl) dX12_laysIdeal_59 (by decide) rfl (fun h18 => ?_) (fun h18 => ?_)
    · have hm := b_t h18 hm
      exact hx84 _ _ _ _ hm hM (lv_sub hl [0, 1, 2, 3, 4] rfl)
    · have hm := b_f h18 hm
      refine r_aload_n (np := 63) G hl 0 rfl dX12_laysIdeal_62 rfl rfl ?_
      obtain ⟨r19, e20, hm⟩ := ref_t hm
      refine r_getR (np := 66) G hM (shp_lt g0 (by decide)) g0 e20 fdX12_29 lkX12_57 dX12_laysIdeal_63 rfl ?_
      refine r_sipush (np := 69) G 144 dX12_laysIdeal_66 (by decide) rfl ?_
      refine r_iload (np := 71) G hl 5 rfl dX12_laysIdeal_69 rfl ?_
      refine r_iadd (np := 72) G dX12_laysIdeal_71 rfl ?_
      refine r_dup2 (np := 73) G dX12_laysIdeal_72 rfl rfl rfl ?_
      obtain ⟨g21, hm⟩ := g_t hm
      refine r_laload (np := 74) G hM g21 rfl dX12_laysIdeal_73 rfl ?_
      refine r_lload (np := 76) G hl 4 rfl dX12_laysIdeal_74 rfl ?_
      refine r_lmul (np := 77) G dX12_laysIdeal_76 rfl ?_
      obtain ⟨s22, e23, hm⟩ := bnd_t hm
      refine r_lastore (np := 78) G hM g21 rfl s22 e23 dX12_laysIdeal_77 rfl (fun H locs hM => ?_)
      obtain ⟨a24, e25, hm⟩ := bnd_t hm
      refine r_iinc (np := 81) G hl 5 rfl e25 [(6, vI a24), (0, .ref (eA E v0)), (1, vI v1), (2, vI v2), (3, vI v3), (4, vL v4)] dX12_laysIdeal_78 rfl (by decide) rfl (fun ls hl => ?_)
      refine r_goto (np := 55) G dX12_laysIdeal_81 (by decide) ?_
      exact ih a24 _ _ _ _ hm hM (lv_sub hl [1, 2, 3, 4, 5, 0] rfl)
set_option maxRecDepth 100000 in
set_option maxHeartbeats 4000000 in
theorem wX12_laysIdeal_B50 (l : Launch) (E : mE) (out : Int × mSt) {p : Program} {e : Env} {s : State} {m : MethodId} {args : Array Value} {below : List Frame} {meth : Method} {c : Code} (G : CallFix p m c cX12_laysIdeal 7 s args mTs RX12) (hr : meth.sig.returnType = none) (hk : meth.locks = false) (v0 : Nat) (v1 : Int) (v2 : Int) (g0 : isC v0 11) : ∀ (v3 : Int) (t0 : Int) (σ : mSt) (H : Heap) (locs : List Loc) (ls : Array Slot), mX12_laysIdeal_B50 v0 v1 v2 v3 t0 σ = some out → mM (mA E 276) E 276 σ s H locs → lv_has ls 7 [(0, .ref (eA E v0)), (1, vI v1), (2, vI v2), (3, vI v3)] → mGo l p e 5 140 s m args below meth c E none out.2 H locs (F0 m 50 ls [vL t0]) := by
  intro v3 t0 σ H locs ls hm hM hl
  unfold mX12_laysIdeal_B50 at hm
  refine r_lstore (np := 52) G hl rfl [(4, vL t0), (0, .ref (eA E v0)), (1, vI v1), (2, vI v2), (3, vI v3)] dX12_laysIdeal_50 rfl (by decide) rfl (fun ls hl => ?_)
  refine r_iconst (np := 53) G 0 dX12_laysIdeal_52 rfl ?_
  refine r_istore (np := 55) G hl rfl [(6, vI 0), (4, vL t0), (0, .ref (eA E v0)), (1, vI v1), (2, vI v2), (3, vI v3)] dX12_laysIdeal_53 rfl (by decide) rfl (fun ls hl => ?_)
  exact wX12_laysIdeal_L55 l E out G hr hk v0 v1 v2 v3 t0 g0 (fun zσ => mX12_laysIdeal_B84 v0 v1 v2 v3 t0 zσ) (fun zσ zH zl zs zm zM zv => wX12_laysIdeal_B84 l E out G hr hk v0 v1 v2 g0 v3 t0 zσ zH zl zs zm zM zv) mF 0 _ _ _ _ hm hM (lv_sub hl [2, 3, 4, 5, 1, 0] rfl)
set_option maxRecDepth 100000 in
set_option maxHeartbeats 4000000 in
theorem qX12_laysIdeal (l : Launch) (E : mE) (σ : mSt) (v0 : Nat) (v1 : Int) (v2 : Int) (out : Int × mSt) (hm : mX12_laysIdeal v0 v1 v2 σ = some out) : mMet l yX12_laysIdeal cX12_laysIdeal 7 none 5 140 E 276 [.ref (eA E v0), vI v1, vI v2] σ none out.2 := by
  unfold mX12_laysIdeal at hm
  obtain ⟨g0, hm⟩ := g_t hm
  refine m_entry (by decide +kernel) (Nat.le_of_ble_eq_true rfl) (fun p e s m args below meth c G hr hk hM ls hl => ?_)
  have G : CallFix p m c cX12_laysIdeal 7 s args mTs RX12 := G
  have hl : lv_has ls 7 [(0, .ref (eA E v0)), (1, vI v1), (2, vI v2)] := hl
  refine r_aload_n (np := 1) G hl 0 rfl dX12_laysIdeal_0 rfl rfl ?_
  obtain ⟨r26, e27, hm⟩ := ref_t hm
  refine r_getR (np := 4) G hM (shp_lt g0 (by decide)) g0 e27 fdX12_22 lkX12_36 dX12_laysIdeal_1 rfl ?_
  refine r_iload_n (np := 5) G hl 1 rfl dX12_laysIdeal_4 rfl rfl ?_
  obtain ⟨g28, hm⟩ := g_t hm
  refine r_iaload (np := 6) G hM g28 rfl dX12_laysIdeal_5 rfl ?_
  obtain ⟨a29, e30, hm⟩ := bnd_t hm
  refine r_istore_n (np := 7) G hl e30 [(3, vI a29), (0, .ref (eA E v0)), (1, vI v1), (2, vI v2)] dX12_laysIdeal_6 rfl rfl (by decide) rfl (fun ls hl => ?_)
  refine r_aload_n (np := 8) G hl 1 rfl dX12_laysIdeal_7 rfl rfl ?_
  refine r_iload_n (np := 9) G hl 0 rfl dX12_laysIdeal_8 rfl rfl ?_
  refine r_bipush (np := 11) G 9 dX12_laysIdeal_9 (by decide) rfl ?_
  obtain ⟨b31, s32, e33, hm⟩ := call_t hm
  refine m_callVV (np := 14) G hM hl.1 [vI a29, vI 9] (qX12_copies l E σ v0 a29 9 _ e33) myX12_copies (shp_lt (gX12_copies e33) (by decide)) (gX12_copies e33) rfl (by decide) lkX12_399 ⟨Nat.le_of_ble_eq_true rfl, Nat.le_of_ble_eq_true rfl⟩ ⟨Nat.le_of_ble_eq_true rfl, Nat.le_of_ble_eq_true rfl⟩ [] rfl (Nat.le_of_ble_eq_true rfl) dX12_laysIdeal_11 rfl (fun H locs hM => ?_)
  refine r_aload_n (np := 15) G hl 1 rfl dX12_laysIdeal_14 rfl rfl ?_
  refine r_iload_n (np := 16) G hl 2 rfl dX12_laysIdeal_15 rfl rfl ?_
  obtain ⟨b34, s35, e36, hm⟩ := call_t hm
  refine m_callVL (np := 19) G hM hl.1 [vI v1] (qX12_normAbove l E s32 v0 v1 _ e36) myX12_normAbove (shp_lt (gX12_normAbove e36) (by decide)) (gX12_normAbove e36) rfl (by decide) lkX12_330 ⟨Nat.le_of_ble_eq_true rfl, Nat.le_of_ble_eq_true rfl⟩ ⟨Nat.le_of_ble_eq_true rfl, Nat.le_of_ble_eq_true rfl⟩ [] rfl (Nat.le_of_ble_eq_true rfl) dX12_laysIdeal_16 rfl (fun H locs hM => ?_)
  refine r_aload_n (np := 20) G hl 1 rfl dX12_laysIdeal_19 rfl rfl ?_
  refine r_iload_n (np := 21) G hl 2 rfl dX12_laysIdeal_20 rfl rfl ?_
  refine r_iconst (np := 22) G 4 dX12_laysIdeal_21 rfl ?_
  obtain ⟨b37, s38, e39, hm⟩ := call_t hm
  refine m_callVL (np := 25) G hM hl.1 [vI v1, vI 4] (qX12_part l E s35 v0 v1 4 _ e39) myX12_part (shp_lt (gX12_part e39) (by decide)) (gX12_part e39) rfl (by decide) lkX12_294 ⟨Nat.le_of_ble_eq_true rfl, Nat.le_of_ble_eq_true rfl⟩ ⟨Nat.le_of_ble_eq_true rfl, Nat.le_of_ble_eq_true rfl⟩ [vL b34] rfl (Nat.le_of_ble_eq_true rfl) dX12_laysIdeal_22 rfl (fun H locs hM => ?_)
  refine r_aload_n (np := 26) G hl 1 rfl dX12_laysIdeal_25 rfl rfl ?_
  refine r_iload_n (np := 27) G hl 2 rfl dX12_laysIdeal_26 rfl rfl ?_
  refine r_iconst (np := 28) G 4 dX12_laysIdeal_27 rfl ?_
  obtain ⟨b40, s41, e42, hm⟩ := call_t hm
  refine m_callVL (np := 31) G hM hl.1 [vI v1, vI 4] (qX12_part l E s38 v0 v1 4 _ e42) myX12_part (shp_lt (gX12_part e42) (by decide)) (gX12_part e42) rfl (by decide) lkX12_294 ⟨Nat.le_of_ble_eq_true rfl, Nat.le_of_ble_eq_true rfl⟩ ⟨Nat.le_of_ble_eq_true rfl, Nat.le_of_ble_eq_true rfl⟩ [vL b37, vL b34] rfl (Nat.le_of_ble_eq_true rfl) dX12_laysIdeal_28 rfl (fun H locs hM => ?_)
  refine r_lmul (np := 32) G dX12_laysIdeal_31 rfl ?_
  obtain ⟨g43, hm⟩ := g_t hm
  refine r_ldiv (np := 33) G g43 dX12_laysIdeal_32 rfl ?_
  obtain ⟨a44, e45, hm⟩ := bnd_t hm
  refine r_lstore (np := 35) G hl e45 [(4, vL a44), (3, vI a29), (0, .ref (eA E v0)), (1, vI v1), (2, vI v2)] dX12_laysIdeal_33 rfl (by decide) rfl (fun ls hl => ?_)
  refine r_lload (np := 37) G hl 0 rfl dX12_laysIdeal_35 rfl ?_
  refine r_lconst (np := 38) G 0 dX12_laysIdeal_37 rfl rfl ?_
  refine r_lcmp_ge (np := 42) (tgt := 48) G rfl (wLk 0 rfl) dX12_laysIdeal_38 dX12_laysIdeal_39 (by decide) rfl (fun h46 => ?_) (fun h46 => ?_)
  · have hm := b_t h46 hm
    refine r_lload (np := 50) G hl 0 rfl dX12_laysIdeal_48 rfl ?_
    exact wX12_laysIdeal_B50 l E out G hr hk v0 v1 v2 g0 a29 a44 _ _ _ _ hm hM (lv_sub hl [2, 3, 4, 1] rfl)
  · have hm := b_f h46 hm
    refine r_lload (np := 44) G hl 0 rfl dX12_laysIdeal_42 rfl ?_
    refine r_lneg (np := 45) G dX12_laysIdeal_44 rfl ?_
    refine r_goto (np := 50) G dX12_laysIdeal_45 (by decide) ?_
    exact wX12_laysIdeal_B50 l E out G hr hk v0 v1 v2 g0 a29 (-a44) _ _ _ _ hm hM (lv_sub hl [2, 3, 4, 1] rfl)
theorem gX12_laysIdeal {v0 : Nat} {v1 : Int} {v2 : Int} {σ : mSt} {out : Int × mSt} (hm : mX12_laysIdeal v0 v1 v2 σ = some out) : isC v0 11 := (g_t hm).1
set_option maxRecDepth 100000 in
set_option maxHeartbeats 4000000 in
theorem wX12_ideal_B177 (l : Launch) (E : mE) (out : Int × mSt) {p : Program} {e : Env} {s : State} {m : MethodId} {args : Array Value} {below : List Frame} {meth : Method} {c : Code} (G : CallFix p m c cX12_ideal 16 s args mTs RX12) (hr : meth.sig.returnType = (some .long)) (hk : meth.locks = false) (v0 : Nat) (v1 : Int) (v2 : Int) (g0 : isC v0 11) : ∀ (v5 : Int) (v7 : Int) (σ : mSt) (H : Heap) (locs : List Loc) (ls : Array Slot), mX12_ideal_B177 v0 v1 v2 v5 v7 σ = some out → mM (mA E 276) E 276 σ s H locs → lv_has ls 16 [(5, vL v5), (7, vL v7)] → mGo l p e 6 166 s m args below meth c E (some (vL out.1)) out.2 H locs (F0 m 177 ls []) := by
  intro v5 v7 σ H locs ls hm hM hl
  unfold mX12_ideal_B177 at hm
  refine r_lload (np := 179) G hl 0 rfl dX12_ideal_177 rfl ?_
  refine r_lload (np := 181) G hl 1 rfl dX12_ideal_179 rfl ?_
  obtain ⟨g1, hm⟩ := g_t hm
  refine r_ldiv (np := 182) G g1 dX12_ideal_181 rfl ?_
  exact r_lret G hr hk hM hm dX12_ideal_182
set_option maxRecDepth 100000 in
set_option maxHeartbeats 4000000 in
theorem wX12_ideal_L42 (l : Launch) (E : mE) (out : Int × mSt) {p : Program} {e : Env} {s : State} {m : MethodId} {args : Array Value} {below : List Frame} {meth : Method} {c : Code} (G : CallFix p m c cX12_ideal 16 s args mTs RX12) (hr : meth.sig.returnType = (some .long)) (hk : meth.locks = false) (v0 : Nat) (v1 : Int) (v2 : Int) (v4 : Int) (g0 : isC v0 11) (x177 : Int → Int → mSt → Option (Int × mSt)) (hx177 : ∀ (v5 : Int) (v7 : Int) (σ : mSt) (H : Heap) (locs : List Loc) (ls : Array Slot), x177 v5 v7 σ = some out → mM (mA E 276) E 276 σ s H locs → lv_has ls 16 [(5, vL v5), (7, vL v7)] → mGo l p e 6 166 s m args below meth c E (some (vL out.1)) out.2 H locs (F0 m 177 ls [])) : ∀ (n : Nat) (v5 : Int) (v7 : Int) (v9 : Int) (σ : mSt) (H : Heap) (locs : List Loc) (ls : Array Slot), mX12_ideal_L42 v0 v1 v2 v4 x177 n v5 v7 v9 σ = some out → mM (mA E 276) E 276 σ s H locs → lv_has ls 16 [(0, .ref (eA E v0)), (4, vI v4), (5, vL v5), (7, vL v7), (9, vI v9)] → mGo l p e 6 166 s m args below meth c E (some (vL out.1)) out.2 H locs (F0 m 42 ls []) := by
  intro n
  induction n with
  | zero =>
    intro v5 v7 v9 σ H locs ls hm hM hl
    exact absurd hm (by rw [mX12_ideal_L42.eq_1]; exact fun h => nomatch h)
  | succ n ih =>
    intro v5 v7 v9 σ H locs ls hm hM hl
    rw [mX12_ideal_L42.eq_2] at hm
    refine r_iload (np := 44) G hl 4 rfl dX12_ideal_42 rfl ?_
    refine r_iconst (np := 45) G 4 dX12_ideal_44 rfl ?_
    refine r_icmp_ge (np := 48) (tgt := 177) G rfl (wIk 4 rfl) dX12_ideal_45 (by decide) rfl (fun h2 => ?_) (fun h2 => ?_)
    · have hm := b_t h2 hm
      exact hx177 v5 v7 _ _ _ _ hm hM (lv_sub hl [2, 3] rfl)
    · have hm := b_f h2 hm
      refine r_aload_n (np := 49) G hl 0 rfl dX12_ideal_48 rfl rfl ?_
      refine r_bipush (np := 51) G 9 dX12_ideal_49 (by decide) rfl ?_
      refine r_iload (np := 53) G hl 4 rfl dX12_ideal_51 rfl ?_
      refine r_iload (np := 55) G hl 4 rfl dX12_ideal_53 rfl ?_
      obtain ⟨b3, s4, e5, hm⟩ := call_t hm
      refine m_callVL (np := 58) G hM hl.1 [vI 9, vI v9, vI v9] (qX12_get l E σ v0 9 v9 v9 _ e5) myX12_get (shp_lt (gX12_get e5) (by decide)) (gX12_get e5) rfl (by decide) lkX12_355 ⟨Nat.le_of_ble_eq_true rfl, Nat.le_of_ble_eq_true rfl⟩ ⟨Nat.le_of_ble_eq_true rfl, Nat.le_of_ble_eq_true rfl⟩ [] rfl (Nat.le_of_ble_eq_true rfl) dX12_ideal_55 rfl (fun H locs hM => ?_)
      refine r_lstore (np := 60) G hl rfl [(10, vL b3), (0, .ref (eA E v0)), (4, vI v4), (5, vL v5), (7, vL v7), (9, vI v9)] dX12_ideal_58 rfl (by decide) rfl (fun ls hl => ?_)
      refine r_aload_n (np := 61) G hl 1 rfl dX12_ideal_60 rfl rfl ?_
      obtain ⟨r6, e7, hm⟩ := ref_t hm
      refine r_getR (np := 64) G hM (shp_lt g0 (by decide)) g0 e7 fdX12_30 lkX12_60 dX12_ideal_61 rfl ?_
      refine r_bipush (np := 66) G 9 dX12_ideal_64 (by decide) rfl ?_
      obtain ⟨g8, hm⟩ := g_t hm
      refine r_laload (np := 67) G hM g8 rfl dX12_ideal_66 rfl ?_
      refine r_aload_n (np := 68) G hl 1 rfl dX12_ideal_67 rfl rfl ?_
      obtain ⟨r9, e10, hm⟩ := ref_t hm
      refine r_getR (np := 71) G hM (shp_lt g0 (by decide)) g0 e10 fdX12_30 lkX12_60 dX12_ideal_68 rfl ?_
      refine r_iload (np := 73) G hl 2 rfl dX12_ideal_71 rfl ?_
      obtain ⟨g11, hm⟩ := g_t hm
      refine r_laload (np := 74) G hM g11 rfl dX12_ideal_73 rfl ?_
      obtain ⟨g12, hm⟩ := g_t hm
      refine r_ldiv (np := 75) G g12 dX12_ideal_74 rfl ?_
      refine r_aload_n (np := 76) G hl 1 rfl dX12_ideal_75 rfl rfl ?_
      refine r_iload (np := 78) G hl 2 rfl dX12_ideal_76 rfl ?_
      refine r_iload (np := 80) G hl 5 rfl dX12_ideal_78 rfl ?_
      refine r_iload (np := 82) G hl 5 rfl dX12_ideal_80 rfl ?_
      obtain ⟨b13, s14, e15, hm⟩ := call_t hm
      refine m_callVL (np := 85) G hM hl.1 [vI v4, vI v9, vI v9] (qX12_get l E s4 v0 v4 v9 v9 _ e15) myX12_get (shp_lt (gX12_get e15) (by decide)) (gX12_get e15) rfl (by decide) lkX12_355 ⟨Nat.le_of_ble_eq_true rfl, Nat.le_of_ble_eq_true rfl⟩ ⟨Nat.le_of_ble_eq_true rfl, Nat.le_of_ble_eq_true rfl⟩ [vL ((wL (s4 r6 9)).tdiv (wL (s4 r9 (wI v4).toNat)))] rfl (Nat.le_of_ble_eq_true rfl) dX12_ideal_82 rfl (fun H locs hM => ?_)
      refine r_lmul (np := 86) G dX12_ideal_85 rfl ?_
      obtain ⟨a16, e17, hm⟩ := bnd_t hm
      refine r_lstore (np := 88) G hl e17 [(12, vL a16), (10, vL b3), (0, .ref (eA E v0)), (4, vI v4), (5, vL v5), (7, vL v7), (9, vI v9)] dX12_ideal_86 rfl (by decide) rfl (fun ls hl => ?_)
      refine r_lload (np := 90) G hl 1 rfl dX12_ideal_88 rfl ?_
      refine r_lload (np := 92) G hl 0 rfl dX12_ideal_90 rfl ?_
      obtain ⟨b18, s19, e20, hm⟩ := call_t hm
      refine m_callSL (np := 95) G hM hl.1 [vL b3, vL a16] (qX12_common l E s14 b3 a16 _ e20) myX12_common lkX12_280 ⟨Nat.le_of_ble_eq_true rfl, Nat.le_of_ble_eq_true rfl⟩ ⟨Nat.le_of_ble_eq_true rfl, Nat.le_of_ble_eq_true rfl⟩ [] rfl (Nat.le_of_ble_eq_true rfl) dX12_ideal_92 rfl (fun H locs hM => ?_)
      refine r_lstore (np := 97) G hl rfl [(14, vL b18), (12, vL a16), (10, vL b3), (0, .ref (eA E v0)), (4, vI v4), (5, vL v5), (7, vL v7), (9, vI v9)] dX12_ideal_95 rfl (by decide) rfl (fun ls hl => ?_)
      refine r_lload (np := 99) G hl 2 rfl dX12_ideal_97 rfl ?_
      refine r_lload (np := 101) G hl 0 rfl dX12_ideal_99 rfl ?_
      obtain ⟨g21, hm⟩ := g_t hm
      refine r_ldiv (np := 102) G g21 dX12_ideal_101 rfl ?_
      obtain ⟨a22, e23, hm⟩ := bnd_t hm
      refine r_lstore (np := 104) G hl e23 [(10, vL a22), (14, vL b18), (12, vL a16), (0, .ref (eA E v0)), (4, vI v4), (5, vL v5), (7, vL v7), (9, vI v9)] dX12_ideal_102 rfl (by decide) rfl (fun ls hl => ?_)
      refine r_lload (np := 106) G hl 2 rfl dX12_ideal_104 rfl ?_
      refine r_lload (np := 108) G hl 1 rfl dX12_ideal_106 rfl ?_
      refine r_ldiv (np := 109) G g21 dX12_ideal_108 rfl ?_
      obtain ⟨a24, e25, hm⟩ := bnd_t hm
      refine r_lstore (np := 111) G hl e25 [(12, vL a24), (10, vL a22), (14, vL b18), (0, .ref (eA E v0)), (4, vI v4), (5, vL v5), (7, vL v7), (9, vI v9)] dX12_ideal_109 rfl (by decide) rfl (fun ls hl => ?_)
      refine r_lload (np := 113) G hl 1 rfl dX12_ideal_111 rfl ?_
      refine r_lload (np := 115) G hl 6 rfl dX12_ideal_113 rfl ?_
      obtain ⟨b26, s27, e28, hm⟩ := call_t hm
      refine m_callSL (np := 118) G hM hl.1 [vL a22, vL v7] (qX12_common l E s19 a22 v7 _ e28) myX12_common lkX12_280 ⟨Nat.le_of_ble_eq_true rfl, Nat.le_of_ble_eq_true rfl⟩ ⟨Nat.le_of_ble_eq_true rfl, Nat.le_of_ble_eq_true rfl⟩ [] rfl (Nat.le_of_ble_eq_true rfl) dX12_ideal_115 rfl (fun H locs hM => ?_)
      refine r_lstore (np := 120) G hl rfl [(14, vL b26), (12, vL a24), (10, vL a22), (0, .ref (eA E v0)), (4, vI v4), (5, vL v5), (7, vL v7), (9, vI v9)] dX12_ideal_118 rfl (by decide) rfl (fun ls hl => ?_)
      refine r_lload (np := 122) G hl 2 rfl dX12_ideal_120 rfl ?_
      refine r_lload (np := 124) G hl 0 rfl dX12_ideal_122 rfl ?_
      obtain ⟨g29, hm⟩ := g_t hm
      refine r_ldiv (np := 125) G g29 dX12_ideal_124 rfl ?_
      obtain ⟨a30, e31, hm⟩ := bnd_t hm
      refine r_lstore (np := 127) G hl e31 [(10, vL a30), (14, vL b26), (12, vL a24), (0, .ref (eA E v0)), (4, vI v4), (5, vL v5), (7, vL v7), (9, vI v9)] dX12_ideal_125 rfl (by decide) rfl (fun ls hl => ?_)
      refine r_lload (np := 129) G hl 6 rfl dX12_ideal_127 rfl ?_
      refine r_lload (np := 131) G hl 1 rfl dX12_ideal_129 rfl ?_
      refine r_ldiv (np := 132) G g29 dX12_ideal_131 rfl ?_
      obtain ⟨a32, e33, hm⟩ := bnd_t hm
      refine r_lstore (np := 134) G hl e33 [(7, vL a32), (10, vL a30), (14, vL b26), (12, vL a24), (0, .ref (eA E v0)), (4, vI v4), (5, vL v5), (9, vI v9)] dX12_ideal_132 rfl (by decide) rfl (fun ls hl => ?_)
      refine r_lload (np := 136) G hl 3 rfl dX12_ideal_134 rfl ?_
      refine r_lload (np := 138) G hl 6 rfl dX12_ideal_136 rfl ?_
      obtain ⟨b34, s35, e36, hm⟩ := call_t hm
      refine m_callSL (np := 141) G hM hl.1 [vL a24, vL v5] (qX12_common l E s27 a24 v5 _ e36) myX12_common lkX12_280 ⟨Nat.le_of_ble_eq_true rfl, Nat.le_of_ble_eq_true rfl⟩ ⟨Nat.le_of_ble_eq_true rfl, Nat.le_of_ble_eq_true rfl⟩ [] rfl (Nat.le_of_ble_eq_true rfl) dX12_ideal_138 rfl (fun H locs hM => ?_)
      refine r_lstore (np := 143) G hl rfl [(14, vL b34), (7, vL a32), (10, vL a30), (12, vL a24), (0, .ref (eA E v0)), (4, vI v4), (5, vL v5), (9, vI v9)] dX12_ideal_141 rfl (by decide) rfl (fun ls hl => ?_)
      refine r_lload (np := 145) G hl 3 rfl dX12_ideal_143 rfl ?_
      refine r_lload (np := 147) G hl 0 rfl dX12_ideal_145 rfl ?_
      obtain ⟨g37, hm⟩ := g_t hm
      refine r_ldiv (np := 148) G g37 dX12_ideal_147 rfl ?_
      obtain ⟨a38, e39, hm⟩ := bnd_t hm
      refine r_lstore (np := 150) G hl e39 [(12, vL a38), (14, vL b34), (7, vL a32), (10, vL a30), (0, .ref (eA E v0)), (4, vI v4), (5, vL v5), (9, vI v9)] dX12_ideal_148 rfl (by decide) rfl (fun ls hl => ?_)
      refine r_lload (np := 152) G hl 6 rfl dX12_ideal_150 rfl ?_
      refine r_lload (np := 154) G hl 1 rfl dX12_ideal_152 rfl ?_
      refine r_ldiv (np := 155) G g37 dX12_ideal_154 rfl ?_
      obtain ⟨a40, e41, hm⟩ := bnd_t hm
      refine r_lstore (np := 157) G hl e41 [(5, vL a40), (12, vL a38), (14, vL b34), (7, vL a32), (10, vL a30), (0, .ref (eA E v0)), (4, vI v4), (9, vI v9)] dX12_ideal_155 rfl (by decide) rfl (fun ls hl => ?_)
      refine r_lload (np := 159) G hl 0 rfl dX12_ideal_157 rfl ?_
      refine r_lload (np := 161) G hl 4 rfl dX12_ideal_159 rfl ?_
      refine r_lmul (np := 162) G dX12_ideal_161 rfl ?_
      obtain ⟨a42, e43, hm⟩ := bnd_t hm
      refine r_lstore (np := 164) G hl e43 [(5, vL a42), (12, vL a38), (14, vL b34), (7, vL a32), (10, vL a30), (0, .ref (eA E v0)), (4, vI v4), (9, vI v9)] dX12_ideal_162 rfl (by decide) rfl (fun ls hl => ?_)
      refine r_lload (np := 166) G hl 3 rfl dX12_ideal_164 rfl ?_
      refine r_lload (np := 168) G hl 1 rfl dX12_ideal_166 rfl ?_
      refine r_lmul (np := 169) G dX12_ideal_168 rfl ?_
      obtain ⟨a44, e45, hm⟩ := bnd_t hm
      refine r_lstore (np := 171) G hl e45 [(7, vL a44), (5, vL a42), (12, vL a38), (14, vL b34), (10, vL a30), (0, .ref (eA E v0)), (4, vI v4), (9, vI v9)] dX12_ideal_169 rfl (by decide) rfl (fun ls hl => ?_)
      obtain ⟨a46, e47, hm⟩ := bnd_t hm
      refine r_iinc (np := 174) G hl 7 rfl e47 [(9, vI a46), (7, vL a44), (5, vL a42), (12, vL a38), (14, vL b34), (10, vL a30), (0, .ref (eA E v0)), (4, vI v4)] dX12_ideal_171 rfl (by decide) rfl (fun ls hl => ?_)
      refine r_goto (np := 42) G dX12_ideal_174 (by decide) ?_
      exact ih a42 a44 a46 _ _ _ _ hm hM (lv_sub hl [6, 7, 2, 1, 0] rfl)
set_option maxRecDepth 100000 in
set_option maxHeartbeats 4000000 in
theorem qX12_ideal (l : Launch) (E : mE) (σ : mSt) (v0 : Nat) (v1 : Int) (v2 : Int) (out : Int × mSt) (hm : mX12_ideal v0 v1 v2 σ = some out) : mMet l yX12_ideal cX12_ideal 16 (some .long) 6 166 E 276 [.ref (eA E v0), vI v1, vI v2] σ (some (vL out.1)) out.2 := by
  unfold mX12_ideal at hm
  obtain ⟨g0, hm⟩ := g_t hm
  refine m_entry (by decide +kernel) (Nat.le_of_ble_eq_true rfl) (fun p e s m args below meth c G hr hk hM ls hl => ?_)
  have G : CallFix p m c cX12_ideal 16 s args mTs RX12 := G
  have hl : lv_has ls 16 [(0, .ref (eA E v0)), (1, vI v1), (2, vI v2)] := hl
  refine r_aload_n (np := 1) G hl 0 rfl dX12_ideal_0 rfl rfl ?_
  refine r_iconst (np := 2) G 0 dX12_ideal_1 rfl ?_
  obtain ⟨s48, e49, hm⟩ := bnd_t hm
  refine r_putI (np := 5) G hM (shp_lt g0 (by decide)) g0 ptX12_0 rfl lkX12_75 s48 e49 dX12_ideal_2 rfl (fun H locs hM => ?_)
  refine r_aload_n (np := 6) G hl 0 rfl dX12_ideal_5 rfl rfl ?_
  refine r_iload_n (np := 7) G hl 1 rfl dX12_ideal_6 rfl rfl ?_
  refine r_iload_n (np := 8) G hl 2 rfl dX12_ideal_7 rfl rfl ?_
  obtain ⟨b50, s51, e52, hm⟩ := call_t hm
  refine m_callVI (np := 11) G hM hl.1 [vI v1, vI v2] (qX12_refusal l E s48 v0 v1 v2 _ e52) myX12_refusal (shp_lt (gX12_refusal e52) (by decide)) (gX12_refusal e52) rfl (by decide) lkX12_440 ⟨Nat.le_of_ble_eq_true rfl, Nat.le_of_ble_eq_true rfl⟩ ⟨Nat.le_of_ble_eq_true rfl, Nat.le_of_ble_eq_true rfl⟩ [] rfl (Nat.le_of_ble_eq_true rfl) dX12_ideal_8 rfl (fun H locs hM => ?_)
  refine r_istore_n (np := 12) G hl rfl [(3, vI b50), (0, .ref (eA E v0)), (1, vI v1), (2, vI v2)] dX12_ideal_11 rfl rfl (by decide) rfl (fun ls hl => ?_)
  refine r_iload_n (np := 13) G hl 0 rfl dX12_ideal_12 rfl rfl ?_
  refine r_if_ge (np := 16) (tgt := 19) G rfl dX12_ideal_13 (by decide) rfl (fun h53 => ?_) (fun h53 => ?_)
  · have hm := b_t h53 hm
    refine r_aload_n (np := 20) G hl 1 rfl dX12_ideal_19 rfl rfl ?_
    refine r_iload_n (np := 21) G hl 2 rfl dX12_ideal_20 rfl rfl ?_
    refine r_iload_n (np := 22) G hl 3 rfl dX12_ideal_21 rfl rfl ?_
    obtain ⟨b54, s55, e56, hm⟩ := call_t hm
    refine m_callVV (np := 25) G hM hl.1 [vI v1, vI v2] (qX12_laysIdeal l E s51 v0 v1 v2 _ e56) myX12_laysIdeal (shp_lt (gX12_laysIdeal e56) (by decide)) (gX12_laysIdeal e56) rfl (by decide) lkX12_443 ⟨Nat.le_of_ble_eq_true rfl, Nat.le_of_ble_eq_true rfl⟩ ⟨Nat.le_of_ble_eq_true rfl, Nat.le_of_ble_eq_true rfl⟩ [] rfl (Nat.le_of_ble_eq_true rfl) dX12_ideal_22 rfl (fun H locs hM => ?_)
    refine r_aload_n (np := 26) G hl 1 rfl dX12_ideal_25 rfl rfl ?_
    obtain ⟨r57, e58, hm⟩ := ref_t hm
    refine r_getR (np := 29) G hM (shp_lt g0 (by decide)) g0 e58 fdX12_22 lkX12_36 dX12_ideal_26 rfl ?_
    refine r_iload_n (np := 30) G hl 2 rfl dX12_ideal_29 rfl rfl ?_
    obtain ⟨g59, hm⟩ := g_t hm
    refine r_iaload (np := 31) G hM g59 rfl dX12_ideal_30 rfl ?_
    obtain ⟨a60, e61, hm⟩ := bnd_t hm
    refine r_istore (np := 33) G hl e61 [(4, vI a60), (3, vI b50), (0, .ref (eA E v0)), (1, vI v1), (2, vI v2)] dX12_ideal_31 rfl (by decide) rfl (fun ls hl => ?_)
    refine r_lconst (np := 34) G 1 dX12_ideal_33 rfl rfl ?_
    refine r_lstore (np := 36) G hl rfl [(5, vL 1), (4, vI a60), (3, vI b50), (0, .ref (eA E v0)), (1, vI v1), (2, vI v2)] dX12_ideal_34 rfl (by decide) rfl (fun ls hl => ?_)
    refine r_lconst (np := 37) G 1 dX12_ideal_36 rfl rfl ?_
    refine r_lstore (np := 39) G hl rfl [(7, vL 1), (5, vL 1), (4, vI a60), (3, vI b50), (0, .ref (eA E v0)), (1, vI v1), (2, vI v2)] dX12_ideal_37 rfl (by decide) rfl (fun ls hl => ?_)
    refine r_iconst (np := 40) G 0 dX12_ideal_39 rfl ?_
    refine r_istore (np := 42) G hl rfl [(9, vI 0), (7, vL 1), (5, vL 1), (4, vI a60), (3, vI b50), (0, .ref (eA E v0)), (1, vI v1), (2, vI v2)] dX12_ideal_40 rfl (by decide) rfl (fun ls hl => ?_)
    exact wX12_ideal_L42 l E out G hr hk v0 v1 v2 a60 g0 (fun z5 z7 zσ => mX12_ideal_B177 v0 v1 v2 z5 z7 zσ) (fun z5 z7 zσ zH zl zs zm zM zv => wX12_ideal_B177 l E out G hr hk v0 v1 v2 g0 z5 z7 zσ zH zl zs zm zM zv) mF 1 1 0 _ _ _ _ hm hM (lv_sub hl [5, 3, 2, 1, 0] rfl)
  · have hm := b_f h53 hm
    refine r_iload_n (np := 17) G hl 0 rfl dX12_ideal_16 rfl rfl ?_
    refine r_i2l (np := 18) G rfl dX12_ideal_17 rfl ?_
    exact r_lret G hr hk hM hm dX12_ideal_18
theorem gX12_ideal {v0 : Nat} {v1 : Int} {v2 : Int} {σ : mSt} {out : Int × mSt} (hm : mX12_ideal v0 v1 v2 σ = some out) : isC v0 11 := (g_t hm).1
set_option maxRecDepth 100000 in
set_option maxHeartbeats 4000000 in
theorem wX12_holdsBy_B220 (l : Launch) (E : mE) (out : Int × mSt) {p : Program} {e : Env} {s : State} {m : MethodId} {args : Array Value} {below : List Frame} {meth : Method} {c : Code} (G : CallFix p m c cX12_holdsBy 9 s args mTs RX12) (hr : meth.sig.returnType = (some .boolean)) (hk : meth.locks = false) (v0 : Nat) (v1 : Int) (g0 : isC v0 11) : ∀ (σ : mSt) (H : Heap) (locs : List Loc) (ls : Array Slot), mX12_holdsBy_B220 v0 v1 σ = some out → mM (mA E 276) E 276 σ s H locs → lv_has ls 9 [] → mGo l p e 2 56 s m args below meth c E (some (vI out.1)) out.2 H locs (F0 m 220 ls []) := by
  intro σ H locs ls hm hM hl
  unfold mX12_holdsBy_B220 at hm
  refine r_iconst (np := 221) G 1 dX12_holdsBy_220 rfl ?_
  exact r_zret G hr hk hM (Or.inr rfl) hm dX12_holdsBy_221
set_option maxRecDepth 100000 in
set_option maxHeartbeats 4000000 in
theorem wX12_holdsBy_B214 (l : Launch) (E : mE) (out : Int × mSt) {p : Program} {e : Env} {s : State} {m : MethodId} {args : Array Value} {below : List Frame} {meth : Method} {c : Code} (G : CallFix p m c cX12_holdsBy 9 s args mTs RX12) (hr : meth.sig.returnType = (some .boolean)) (hk : meth.locks = false) (v0 : Nat) (v1 : Int) (g0 : isC v0 11) (c100 : Int → mSt → Option (Int × mSt)) (x220 : mSt → Option (Int × mSt)) (hc100 : ∀ (v5 : Int) (σ : mSt) (H : Heap) (locs : List Loc) (ls : Array Slot), c100 v5 σ = some out → mM (mA E 276) E 276 σ s H locs → lv_has ls 9 [(0, .ref (eA E v0)), (5, vI v5)] → mGo l p e 2 56 s m args below meth c E (some (vI out.1)) out.2 H locs (F0 m 100 ls [])) (hx220 : ∀ (σ : mSt) (H : Heap) (locs : List Loc) (ls : Array Slot), x220 σ = some out → mM (mA E 276) E 276 σ s H locs → lv_has ls 9 [] → mGo l p e 2 56 s m args below meth c E (some (vI out.1)) out.2 H locs (F0 m 220 ls [])) : ∀ (v5 : Int) (σ : mSt) (H : Heap) (locs : List Loc) (ls : Array Slot), mX12_holdsBy_B214 v0 v1 c100 x220 v5 σ = some out → mM (mA E 276) E 276 σ s H locs → lv_has ls 9 [(0, .ref (eA E v0)), (5, vI v5)] → mGo l p e 2 56 s m args below meth c E (some (vI out.1)) out.2 H locs (F0 m 214 ls []) := by
  intro v5 σ H locs ls hm hM hl
  unfold mX12_holdsBy_B214 at hm
  obtain ⟨a1, e2, hm⟩ := bnd_t hm
  refine r_iinc (np := 217) G hl 1 rfl e2 [(5, vI a1), (0, .ref (eA E v0))] dX12_holdsBy_214 rfl (by decide) rfl (fun ls hl => ?_)
  refine r_goto (np := 100) G dX12_holdsBy_217 (by decide) ?_
  exact hc100 a1 _ _ _ _ hm hM (lv_sub hl [1, 0] rfl)
set_option maxRecDepth 100000 in
set_option maxHeartbeats 4000000 in
theorem wX12_holdsBy_L155 (l : Launch) (E : mE) (out : Int × mSt) {p : Program} {e : Env} {s : State} {m : MethodId} {args : Array Value} {below : List Frame} {meth : Method} {c : Code} (G : CallFix p m c cX12_holdsBy 9 s args mTs RX12) (hr : meth.sig.returnType = (some .boolean)) (hk : meth.locks = false) (v0 : Nat) (v1 : Int) (v5 : Int) (v6 : Int) (g0 : isC v0 11) (x214 : mSt → Option (Int × mSt)) (hx214 : ∀ (σ : mSt) (H : Heap) (locs : List Loc) (ls : Array Slot), x214 σ = some out → mM (mA E 276) E 276 σ s H locs → lv_has ls 9 [(0, .ref (eA E v0)), (5, vI v5)] → mGo l p e 2 56 s m args below meth c E (some (vI out.1)) out.2 H locs (F0 m 214 ls [])) : ∀ (n : Nat) (v8 : Int) (σ : mSt) (H : Heap) (locs : List Loc) (ls : Array Slot), mX12_holdsBy_L155 v0 v1 v5 v6 x214 n v8 σ = some out → mM (mA E 276) E 276 σ s H locs → lv_has ls 9 [(0, .ref (eA E v0)), (5, vI v5), (6, vL v6), (8, vI v8)] → mGo l p e 2 56 s m args below meth c E (some (vI out.1)) out.2 H locs (F0 m 155 ls []) := by
  intro n
  induction n with
  | zero =>
    intro v8 σ H locs ls hm hM hl
    exact absurd hm (by rw [mX12_holdsBy_L155.eq_1]; exact fun h => nomatch h)
  | succ n ih =>
    intro v8 σ H locs ls hm hM hl
    rw [mX12_holdsBy_L155.eq_2] at hm
    refine r_iload (np := 157) G hl 3 rfl dX12_holdsBy_155 rfl ?_
    refine r_iconst (np := 158) G 4 dX12_holdsBy_157 rfl ?_
    refine r_icmp_ge (np := 161) (tgt := 214) G rfl (wIk 4 rfl) dX12_holdsBy_158 (by decide) rfl (fun h3 => ?_) (fun h3 => ?_)
    · have hm := b_t h3 hm
      exact hx214 _ _ _ _ hm hM (lv_sub hl [0, 1] rfl)
    · have hm := b_f h3 hm
      refine r_aload_n (np := 162) G hl 0 rfl dX12_holdsBy_161 rfl rfl ?_
      obtain ⟨r4, e5, hm⟩ := ref_t hm
      refine r_getR (np := 165) G hM (shp_lt g0 (by decide)) g0 e5 fdX12_32 lkX12_66 dX12_holdsBy_162 rfl ?_
      refine r_iload (np := 167) G hl 3 rfl dX12_holdsBy_165 rfl ?_
      refine r_aload_n (np := 168) G hl 0 rfl dX12_holdsBy_167 rfl rfl ?_
      obtain ⟨r6, e7, hm⟩ := ref_t hm
      refine r_getR (np := 171) G hM (shp_lt g0 (by decide)) g0 e7 fdX12_32 lkX12_66 dX12_holdsBy_168 rfl ?_
      refine r_iload (np := 173) G hl 3 rfl dX12_holdsBy_171 rfl ?_
      obtain ⟨g8, hm⟩ := g_t hm
      refine r_laload (np := 174) G hM g8 rfl dX12_holdsBy_173 rfl ?_
      refine r_lload (np := 176) G hl 2 rfl dX12_holdsBy_174 rfl ?_
      refine r_aload_n (np := 177) G hl 0 rfl dX12_holdsBy_176 rfl rfl ?_
      refine r_bipush (np := 179) G 9 dX12_holdsBy_177 (by decide) rfl ?_
      refine r_iload (np := 181) G hl 1 rfl dX12_holdsBy_179 rfl ?_
      refine r_iload (np := 183) G hl 3 rfl dX12_holdsBy_181 rfl ?_
      obtain ⟨b9, s10, e11, hm⟩ := call_t hm
      refine m_callVL (np := 186) G hM hl.1 [vI 9, vI v5, vI v8] (qX12_get l E σ v0 9 v5 v8 _ e11) myX12_get (shp_lt (gX12_get e11) (by decide)) (gX12_get e11) rfl (by decide) lkX12_355 ⟨Nat.le_of_ble_eq_true rfl, Nat.le_of_ble_eq_true rfl⟩ ⟨Nat.le_of_ble_eq_true rfl, Nat.le_of_ble_eq_true rfl⟩ [vL v6, vL (σ r6 (wI v8).toNat), vI v8, .ref (eA E r4)] rfl (Nat.le_of_ble_eq_true rfl) dX12_holdsBy_183 rfl (fun H locs hM => ?_)
      refine r_aload_n (np := 187) G hl 0 rfl dX12_holdsBy_186 rfl rfl ?_
      obtain ⟨r12, e13, hm⟩ := ref_t hm
      refine r_getR (np := 190) G hM (shp_lt g0 (by decide)) g0 e13 fdX12_31 lkX12_63 dX12_holdsBy_187 rfl ?_
      refine r_bipush (np := 192) G 9 dX12_holdsBy_190 (by decide) rfl ?_
      obtain ⟨g14, hm⟩ := g_t hm
      refine r_laload (np := 193) G hM g14 rfl dX12_holdsBy_192 rfl ?_
      obtain ⟨b15, s16, e17, hm⟩ := call_t hm
      refine m_callSL (np := 196) G hM hl.1 [vL v6, vL b9, vL (s10 r12 9)] (qX12_mulMod l E s10 v6 b9 (s10 r12 9) _ e17) myX12_mulMod lkX12_358 ⟨Nat.le_of_ble_eq_true rfl, Nat.le_of_ble_eq_true rfl⟩ ⟨Nat.le_of_ble_eq_true rfl, Nat.le_of_ble_eq_true rfl⟩ [vL (σ r6 (wI v8).toNat), vI v8, .ref (eA E r4)] rfl (Nat.le_of_ble_eq_true rfl) dX12_holdsBy_193 rfl (fun H locs hM => ?_)
      refine r_lsub (np := 197) G dX12_holdsBy_196 rfl ?_
      refine r_aload_n (np := 198) G hl 0 rfl dX12_holdsBy_197 rfl rfl ?_
      obtain ⟨r18, e19, hm⟩ := ref_t hm
      refine r_getR (np := 201) G hM (shp_lt g0 (by decide)) g0 e19 fdX12_31 lkX12_63 dX12_holdsBy_198 rfl ?_
      refine r_bipush (np := 203) G 9 dX12_holdsBy_201 (by decide) rfl ?_
      obtain ⟨g20, hm⟩ := g_t hm
      refine r_laload (np := 204) G hM g20 rfl dX12_holdsBy_203 rfl ?_
      obtain ⟨b21, s22, e23, hm⟩ := call_t hm
      refine m_callSL (np := 207) G hM hl.1 [vL ((σ r6 (wI v8).toNat) - b15), vL (s16 r18 9)] (qX12_mod l E s16 ((σ r6 (wI v8).toNat) - b15) (s16 r18 9) _ e23) myX12_mod lkX12_352 ⟨Nat.le_of_ble_eq_true rfl, Nat.le_of_ble_eq_true rfl⟩ ⟨Nat.le_of_ble_eq_true rfl, Nat.le_of_ble_eq_true rfl⟩ [vI v8, .ref (eA E r4)] rfl (Nat.le_of_ble_eq_true rfl) dX12_holdsBy_204 rfl (fun H locs hM => ?_)
      obtain ⟨g24, hm⟩ := g_t hm
      obtain ⟨s25, e26, hm⟩ := bnd_t hm
      refine r_lastore (np := 208) G hM g24 rfl s25 e26 dX12_holdsBy_207 rfl (fun H locs hM => ?_)
      obtain ⟨a27, e28, hm⟩ := bnd_t hm
      refine r_iinc (np := 211) G hl 3 rfl e28 [(8, vI a27), (0, .ref (eA E v0)), (5, vI v5), (6, vL v6)] dX12_holdsBy_208 rfl (by decide) rfl (fun ls hl => ?_)
      refine r_goto (np := 155) G dX12_holdsBy_211 (by decide) ?_
      exact ih a27 _ _ _ _ hm hM (lv_sub hl [1, 2, 3, 0] rfl)
set_option maxRecDepth 100000 in
set_option maxHeartbeats 4000000 in
theorem wX12_holdsBy_L100 (l : Launch) (E : mE) (out : Int × mSt) {p : Program} {e : Env} {s : State} {m : MethodId} {args : Array Value} {below : List Frame} {meth : Method} {c : Code} (G : CallFix p m c cX12_holdsBy 9 s args mTs RX12) (hr : meth.sig.returnType = (some .boolean)) (hk : meth.locks = false) (v0 : Nat) (v1 : Int) (g0 : isC v0 11) (x220 : mSt → Option (Int × mSt)) (hx220 : ∀ (σ : mSt) (H : Heap) (locs : List Loc) (ls : Array Slot), x220 σ = some out → mM (mA E 276) E 276 σ s H locs → lv_has ls 9 [] → mGo l p e 2 56 s m args below meth c E (some (vI out.1)) out.2 H locs (F0 m 220 ls [])) : ∀ (n : Nat) (v5 : Int) (σ : mSt) (H : Heap) (locs : List Loc) (ls : Array Slot), mX12_holdsBy_L100 v0 v1 x220 n v5 σ = some out → mM (mA E 276) E 276 σ s H locs → lv_has ls 9 [(0, .ref (eA E v0)), (5, vI v5)] → mGo l p e 2 56 s m args below meth c E (some (vI out.1)) out.2 H locs (F0 m 100 ls []) := by
  intro n
  induction n with
  | zero =>
    intro v5 σ H locs ls hm hM hl
    exact absurd hm (by rw [mX12_holdsBy_L100.eq_1]; exact fun h => nomatch h)
  | succ n ih =>
    intro v5 σ H locs ls hm hM hl
    rw [mX12_holdsBy_L100.eq_2] at hm
    refine r_iload (np := 102) G hl 1 rfl dX12_holdsBy_100 rfl ?_
    refine r_iconst (np := 103) G 4 dX12_holdsBy_102 rfl ?_
    refine r_icmp_ge (np := 106) (tgt := 220) G rfl (wIk 4 rfl) dX12_holdsBy_103 (by decide) rfl (fun h29 => ?_) (fun h29 => ?_)
    · have hm := b_t h29 hm
      exact hx220 _ _ _ _ hm hM (lv_sub hl [] rfl)
    · have hm := b_f h29 hm
      refine r_aload_n (np := 107) G hl 0 rfl dX12_holdsBy_106 rfl rfl ?_
      obtain ⟨r30, e31, hm⟩ := ref_t hm
      refine r_getR (np := 110) G hM (shp_lt g0 (by decide)) g0 e31 fdX12_32 lkX12_66 dX12_holdsBy_107 rfl ?_
      refine r_iload (np := 112) G hl 1 rfl dX12_holdsBy_110 rfl ?_
      obtain ⟨g32, hm⟩ := g_t hm
      refine r_laload (np := 113) G hM g32 rfl dX12_holdsBy_112 rfl ?_
      refine r_aload_n (np := 114) G hl 0 rfl dX12_holdsBy_113 rfl rfl ?_
      refine r_bipush (np := 116) G 9 dX12_holdsBy_114 (by decide) rfl ?_
      refine r_iload (np := 118) G hl 1 rfl dX12_holdsBy_116 rfl ?_
      refine r_iload (np := 120) G hl 1 rfl dX12_holdsBy_118 rfl ?_
      obtain ⟨b33, s34, e35, hm⟩ := call_t hm
      refine m_callVL (np := 123) G hM hl.1 [vI 9, vI v5, vI v5] (qX12_get l E σ v0 9 v5 v5 _ e35) myX12_get (shp_lt (gX12_get e35) (by decide)) (gX12_get e35) rfl (by decide) lkX12_355 ⟨Nat.le_of_ble_eq_true rfl, Nat.le_of_ble_eq_true rfl⟩ ⟨Nat.le_of_ble_eq_true rfl, Nat.le_of_ble_eq_true rfl⟩ [vL (σ r30 (wI v5).toNat)] rfl (Nat.le_of_ble_eq_true rfl) dX12_holdsBy_120 rfl (fun H locs hM => ?_)
      obtain ⟨g36, hm⟩ := g_t hm
      refine r_lrem (np := 124) G g36 dX12_holdsBy_123 rfl ?_
      refine r_lconst (np := 125) G 0 dX12_holdsBy_124 rfl rfl ?_
      refine r_lcmp_eq (np := 129) (tgt := 131) G rfl (wLk 0 rfl) dX12_holdsBy_125 dX12_holdsBy_126 (by decide) rfl (fun h37 => ?_) (fun h37 => ?_)
      · have hm := b_t h37 hm
        refine r_aload_n (np := 132) G hl 0 rfl dX12_holdsBy_131 rfl rfl ?_
        obtain ⟨r38, e39, hm⟩ := ref_t hm
        refine r_getR (np := 135) G hM (shp_lt g0 (by decide)) g0 e39 fdX12_32 lkX12_66 dX12_holdsBy_132 rfl ?_
        refine r_iload (np := 137) G hl 1 rfl dX12_holdsBy_135 rfl ?_
        obtain ⟨g40, hm⟩ := g_t hm
        refine r_laload (np := 138) G hM g40 rfl dX12_holdsBy_137 rfl ?_
        refine r_aload_n (np := 139) G hl 0 rfl dX12_holdsBy_138 rfl rfl ?_
        refine r_bipush (np := 141) G 9 dX12_holdsBy_139 (by decide) rfl ?_
        refine r_iload (np := 143) G hl 1 rfl dX12_holdsBy_141 rfl ?_
        refine r_iload (np := 145) G hl 1 rfl dX12_holdsBy_143 rfl ?_
        obtain ⟨b41, s42, e43, hm⟩ := call_t hm
        refine m_callVL (np := 148) G hM hl.1 [vI 9, vI v5, vI v5] (qX12_get l E s34 v0 9 v5 v5 _ e43) myX12_get (shp_lt (gX12_get e43) (by decide)) (gX12_get e43) rfl (by decide) lkX12_355 ⟨Nat.le_of_ble_eq_true rfl, Nat.le_of_ble_eq_true rfl⟩ ⟨Nat.le_of_ble_eq_true rfl, Nat.le_of_ble_eq_true rfl⟩ [vL (s34 r38 (wI v5).toNat)] rfl (Nat.le_of_ble_eq_true rfl) dX12_holdsBy_145 rfl (fun H locs hM => ?_)
        obtain ⟨g44, hm⟩ := g_t hm
        refine r_ldiv (np := 149) G g44 dX12_holdsBy_148 rfl ?_
        obtain ⟨a45, e46, hm⟩ := bnd_t hm
        refine r_lstore (np := 151) G hl e46 [(6, vL a45), (0, .ref (eA E v0)), (5, vI v5)] dX12_holdsBy_149 rfl (by decide) rfl (fun ls hl => ?_)
        refine r_iload (np := 153) G hl 2 rfl dX12_holdsBy_151 rfl ?_
        refine r_istore (np := 155) G hl rfl [(8, vI v5), (6, vL a45), (0, .ref (eA E v0)), (5, vI v5)] dX12_holdsBy_153 rfl (by decide) rfl (fun ls hl => ?_)
        exact wX12_holdsBy_L155 l E out G hr hk v0 v1 v5 a45 g0 (fun zσ => mX12_holdsBy_B214 v0 v1 (mX12_holdsBy_L100 v0 v1 x220 n) x220 v5 zσ) (fun zσ zH zl zs zm zM zv => wX12_holdsBy_B214 l E out G hr hk v0 v1 g0 (mX12_holdsBy_L100 v0 v1 x220 n) x220 ih hx220 v5 zσ zH zl zs zm zM zv) mF v5 _ _ _ _ hm hM (lv_sub hl [2, 3, 1, 0] rfl)
      · have hm := b_f h37 hm
        refine r_iconst (np := 130) G 0 dX12_holdsBy_129 rfl ?_
        exact r_zret G hr hk hM (Or.inl rfl) hm dX12_holdsBy_130
set_option maxRecDepth 100000 in
set_option maxHeartbeats 4000000 in
theorem wX12_holdsBy_B97 (l : Launch) (E : mE) (out : Int × mSt) {p : Program} {e : Env} {s : State} {m : MethodId} {args : Array Value} {below : List Frame} {meth : Method} {c : Code} (G : CallFix p m c cX12_holdsBy 9 s args mTs RX12) (hr : meth.sig.returnType = (some .boolean)) (hk : meth.locks = false) (v0 : Nat) (v1 : Int) (g0 : isC v0 11) : ∀ (σ : mSt) (H : Heap) (locs : List Loc) (ls : Array Slot), mX12_holdsBy_B97 v0 v1 σ = some out → mM (mA E 276) E 276 σ s H locs → lv_has ls 9 [(0, .ref (eA E v0))] → mGo l p e 2 56 s m args below meth c E (some (vI out.1)) out.2 H locs (F0 m 97 ls []) := by
  intro σ H locs ls hm hM hl
  unfold mX12_holdsBy_B97 at hm
  refine r_iconst (np := 98) G 0 dX12_holdsBy_97 rfl ?_
  refine r_istore (np := 100) G hl rfl [(5, vI 0), (0, .ref (eA E v0))] dX12_holdsBy_98 rfl (by decide) rfl (fun ls hl => ?_)
  exact wX12_holdsBy_L100 l E out G hr hk v0 v1 g0 (fun zσ => mX12_holdsBy_B220 v0 v1 zσ) (fun zσ zH zl zs zm zM zv => wX12_holdsBy_B220 l E out G hr hk v0 v1 g0 zσ zH zl zs zm zM zv) mF 0 _ _ _ _ hm hM (lv_sub hl [1, 0] rfl)
set_option maxRecDepth 100000 in
set_option maxHeartbeats 4000000 in
theorem wX12_holdsBy_L48 (l : Launch) (E : mE) (out : Int × mSt) {p : Program} {e : Env} {s : State} {m : MethodId} {args : Array Value} {below : List Frame} {meth : Method} {c : Code} (G : CallFix p m c cX12_holdsBy 9 s args mTs RX12) (hr : meth.sig.returnType = (some .boolean)) (hk : meth.locks = false) (v0 : Nat) (v1 : Int) (v3 : Int) (g0 : isC v0 11) (x97 : mSt → Option (Int × mSt)) (hx97 : ∀ (σ : mSt) (H : Heap) (locs : List Loc) (ls : Array Slot), x97 σ = some out → mM (mA E 276) E 276 σ s H locs → lv_has ls 9 [(0, .ref (eA E v0))] → mGo l p e 2 56 s m args below meth c E (some (vI out.1)) out.2 H locs (F0 m 97 ls [])) : ∀ (n : Nat) (v5 : Int) (σ : mSt) (H : Heap) (locs : List Loc) (ls : Array Slot), mX12_holdsBy_L48 v0 v1 v3 x97 n v5 σ = some out → mM (mA E 276) E 276 σ s H locs → lv_has ls 9 [(0, .ref (eA E v0)), (1, vL v1), (3, vL v3), (5, vI v5)] → mGo l p e 2 56 s m args below meth c E (some (vI out.1)) out.2 H locs (F0 m 48 ls []) := by
  intro n
  induction n with
  | zero =>
    intro v5 σ H locs ls hm hM hl
    exact absurd hm (by rw [mX12_holdsBy_L48.eq_1]; exact fun h => nomatch h)
  | succ n ih =>
    intro v5 σ H locs ls hm hM hl
    rw [mX12_holdsBy_L48.eq_2] at hm
    refine r_iload (np := 50) G hl 3 rfl dX12_holdsBy_48 rfl ?_
    refine r_iconst (np := 51) G 4 dX12_holdsBy_50 rfl ?_
    refine r_icmp_ge (np := 54) (tgt := 97) G rfl (wIk 4 rfl) dX12_holdsBy_51 (by decide) rfl (fun h47 => ?_) (fun h47 => ?_)
    · have hm := b_t h47 hm
      exact hx97 _ _ _ _ hm hM (lv_sub hl [0] rfl)
    · have hm := b_f h47 hm
      refine r_aload_n (np := 55) G hl 0 rfl dX12_holdsBy_54 rfl rfl ?_
      obtain ⟨r48, e49, hm⟩ := ref_t hm
      refine r_getR (np := 58) G hM (shp_lt g0 (by decide)) g0 e49 fdX12_32 lkX12_66 dX12_holdsBy_55 rfl ?_
      refine r_iload (np := 60) G hl 3 rfl dX12_holdsBy_58 rfl ?_
      refine r_aload_n (np := 61) G hl 0 rfl dX12_holdsBy_60 rfl rfl ?_
      obtain ⟨r50, e51, hm⟩ := ref_t hm
      refine r_getR (np := 64) G hM (shp_lt g0 (by decide)) g0 e51 fdX12_32 lkX12_66 dX12_holdsBy_61 rfl ?_
      refine r_iload (np := 66) G hl 3 rfl dX12_holdsBy_64 rfl ?_
      obtain ⟨g52, hm⟩ := g_t hm
      refine r_laload (np := 67) G hM g52 rfl dX12_holdsBy_66 rfl ?_
      refine r_lload_n (np := 68) G hl 1 rfl dX12_holdsBy_67 rfl rfl ?_
      refine r_lload_n (np := 69) G hl 2 rfl dX12_holdsBy_68 rfl rfl ?_
      obtain ⟨g53, hm⟩ := g_t hm
      refine r_ldiv (np := 70) G g53 dX12_holdsBy_69 rfl ?_
      obtain ⟨g54, hm⟩ := g_t hm
      refine r_ldiv (np := 71) G g54 dX12_holdsBy_70 rfl ?_
      refine r_aload_n (np := 72) G hl 0 rfl dX12_holdsBy_71 rfl rfl ?_
      obtain ⟨r55, e56, hm⟩ := ref_t hm
      refine r_getR (np := 75) G hM (shp_lt g0 (by decide)) g0 e56 fdX12_30 lkX12_60 dX12_holdsBy_72 rfl ?_
      refine r_bipush (np := 77) G 9 dX12_holdsBy_75 (by decide) rfl ?_
      obtain ⟨g57, hm⟩ := g_t hm
      refine r_laload (np := 78) G hM g57 rfl dX12_holdsBy_77 rfl ?_
      refine r_lload_n (np := 79) G hl 2 rfl dX12_holdsBy_78 rfl rfl ?_
      refine r_ldiv (np := 80) G g53 dX12_holdsBy_79 rfl ?_
      refine r_aload_n (np := 81) G hl 0 rfl dX12_holdsBy_80 rfl rfl ?_
      obtain ⟨r58, e59, hm⟩ := ref_t hm
      refine r_getR (np := 84) G hM (shp_lt g0 (by decide)) g0 e59 fdX12_31 lkX12_63 dX12_holdsBy_81 rfl ?_
      refine r_bipush (np := 86) G 9 dX12_holdsBy_84 (by decide) rfl ?_
      obtain ⟨g60, hm⟩ := g_t hm
      refine r_laload (np := 87) G hM g60 rfl dX12_holdsBy_86 rfl ?_
      obtain ⟨b61, s62, e63, hm⟩ := call_t hm
      refine m_callSL (np := 90) G hM hl.1 [vL ((wL (σ r50 (wI v5).toNat)).tdiv (wL ((wL v1).tdiv (wL v3)))), vL ((wL (σ r55 9)).tdiv (wL v3)), vL (σ r58 9)] (qX12_mulMod l E σ ((wL (σ r50 (wI v5).toNat)).tdiv (wL ((wL v1).tdiv (wL v3)))) ((wL (σ r55 9)).tdiv (wL v3)) (σ r58 9) _ e63) myX12_mulMod lkX12_358 ⟨Nat.le_of_ble_eq_true rfl, Nat.le_of_ble_eq_true rfl⟩ ⟨Nat.le_of_ble_eq_true rfl, Nat.le_of_ble_eq_true rfl⟩ [vI v5, .ref (eA E r48)] rfl (Nat.le_of_ble_eq_true rfl) dX12_holdsBy_87 rfl (fun H locs hM => ?_)
      obtain ⟨g64, hm⟩ := g_t hm
      obtain ⟨s65, e66, hm⟩ := bnd_t hm
      refine r_lastore (np := 91) G hM g64 rfl s65 e66 dX12_holdsBy_90 rfl (fun H locs hM => ?_)
      obtain ⟨a67, e68, hm⟩ := bnd_t hm
      refine r_iinc (np := 94) G hl 3 rfl e68 [(5, vI a67), (0, .ref (eA E v0)), (1, vL v1), (3, vL v3)] dX12_holdsBy_91 rfl (by decide) rfl (fun ls hl => ?_)
      refine r_goto (np := 48) G dX12_holdsBy_94 (by decide) ?_
      exact ih a67 _ _ _ _ hm hM (lv_sub hl [1, 2, 3, 0] rfl)
set_option maxRecDepth 100000 in
set_option maxHeartbeats 4000000 in
theorem wX12_holdsBy_B45 (l : Launch) (E : mE) (out : Int × mSt) {p : Program} {e : Env} {s : State} {m : MethodId} {args : Array Value} {below : List Frame} {meth : Method} {c : Code} (G : CallFix p m c cX12_holdsBy 9 s args mTs RX12) (hr : meth.sig.returnType = (some .boolean)) (hk : meth.locks = false) (v0 : Nat) (v1 : Int) (g0 : isC v0 11) : ∀ (v3 : Int) (σ : mSt) (H : Heap) (locs : List Loc) (ls : Array Slot), mX12_holdsBy_B45 v0 v1 v3 σ = some out → mM (mA E 276) E 276 σ s H locs → lv_has ls 9 [(0, .ref (eA E v0)), (1, vL v1), (3, vL v3)] → mGo l p e 2 56 s m args below meth c E (some (vI out.1)) out.2 H locs (F0 m 45 ls []) := by
  intro v3 σ H locs ls hm hM hl
  unfold mX12_holdsBy_B45 at hm
  refine r_iconst (np := 46) G 0 dX12_holdsBy_45 rfl ?_
  refine r_istore (np := 48) G hl rfl [(5, vI 0), (0, .ref (eA E v0)), (1, vL v1), (3, vL v3)] dX12_holdsBy_46 rfl (by decide) rfl (fun ls hl => ?_)
  exact wX12_holdsBy_L48 l E out G hr hk v0 v1 v3 g0 (fun zσ => mX12_holdsBy_B97 v0 v1 zσ) (fun zσ zH zl zs zm zM zv => wX12_holdsBy_B97 l E out G hr hk v0 v1 g0 zσ zH zl zs zm zM zv) mF 0 _ _ _ _ hm hM (lv_sub hl [1, 2, 3, 0] rfl)
set_option maxRecDepth 100000 in
set_option maxHeartbeats 4000000 in
theorem wX12_holdsBy_L15 (l : Launch) (E : mE) (out : Int × mSt) {p : Program} {e : Env} {s : State} {m : MethodId} {args : Array Value} {below : List Frame} {meth : Method} {c : Code} (G : CallFix p m c cX12_holdsBy 9 s args mTs RX12) (hr : meth.sig.returnType = (some .boolean)) (hk : meth.locks = false) (v0 : Nat) (v1 : Int) (v3 : Int) (g0 : isC v0 11) (x45 : mSt → Option (Int × mSt)) (hx45 : ∀ (σ : mSt) (H : Heap) (locs : List Loc) (ls : Array Slot), x45 σ = some out → mM (mA E 276) E 276 σ s H locs → lv_has ls 9 [(0, .ref (eA E v0)), (1, vL v1), (3, vL v3)] → mGo l p e 2 56 s m args below meth c E (some (vI out.1)) out.2 H locs (F0 m 45 ls [])) : ∀ (n : Nat) (v5 : Int) (σ : mSt) (H : Heap) (locs : List Loc) (ls : Array Slot), mX12_holdsBy_L15 v0 v1 v3 x45 n v5 σ = some out → mM (mA E 276) E 276 σ s H locs → lv_has ls 9 [(0, .ref (eA E v0)), (1, vL v1), (3, vL v3), (5, vI v5)] → mGo l p e 2 56 s m args below meth c E (some (vI out.1)) out.2 H locs (F0 m 15 ls []) := by
  intro n
  induction n with
  | zero =>
    intro v5 σ H locs ls hm hM hl
    exact absurd hm (by rw [mX12_holdsBy_L15.eq_1]; exact fun h => nomatch h)
  | succ n ih =>
    intro v5 σ H locs ls hm hM hl
    rw [mX12_holdsBy_L15.eq_2] at hm
    refine r_iload (np := 17) G hl 3 rfl dX12_holdsBy_15 rfl ?_
    refine r_iconst (np := 18) G 4 dX12_holdsBy_17 rfl ?_
    refine r_icmp_ge (np := 21) (tgt := 45) G rfl (wIk 4 rfl) dX12_holdsBy_18 (by decide) rfl (fun h69 => ?_) (fun h69 => ?_)
    · have hm := b_t h69 hm
      exact hx45 _ _ _ _ hm hM (lv_sub hl [0, 1, 2] rfl)
    · have hm := b_f h69 hm
      refine r_aload_n (np := 22) G hl 0 rfl dX12_holdsBy_21 rfl rfl ?_
      obtain ⟨r70, e71, hm⟩ := ref_t hm
      refine r_getR (np := 25) G hM (shp_lt g0 (by decide)) g0 e71 fdX12_32 lkX12_66 dX12_holdsBy_22 rfl ?_
      refine r_iload (np := 27) G hl 3 rfl dX12_holdsBy_25 rfl ?_
      obtain ⟨g72, hm⟩ := g_t hm
      refine r_laload (np := 28) G hM g72 rfl dX12_holdsBy_27 rfl ?_
      refine r_lload_n (np := 29) G hl 1 rfl dX12_holdsBy_28 rfl rfl ?_
      refine r_lload_n (np := 30) G hl 2 rfl dX12_holdsBy_29 rfl rfl ?_
      obtain ⟨g73, hm⟩ := g_t hm
      refine r_ldiv (np := 31) G g73 dX12_holdsBy_30 rfl ?_
      obtain ⟨g74, hm⟩ := g_t hm
      refine r_lrem (np := 32) G g74 dX12_holdsBy_31 rfl ?_
      refine r_lconst (np := 33) G 0 dX12_holdsBy_32 rfl rfl ?_
      refine r_lcmp_eq (np := 37) (tgt := 39) G rfl (wLk 0 rfl) dX12_holdsBy_33 dX12_holdsBy_34 (by decide) rfl (fun h75 => ?_) (fun h75 => ?_)
      · have hm := b_t h75 hm
        obtain ⟨a76, e77, hm⟩ := bnd_t hm
        refine r_iinc (np := 42) G hl 3 rfl e77 [(5, vI a76), (0, .ref (eA E v0)), (1, vL v1), (3, vL v3)] dX12_holdsBy_39 rfl (by decide) rfl (fun ls hl => ?_)
        refine r_goto (np := 15) G dX12_holdsBy_42 (by decide) ?_
        exact ih a76 _ _ _ _ hm hM (lv_sub hl [1, 2, 3, 0] rfl)
      · have hm := b_f h75 hm
        refine r_iconst (np := 38) G 0 dX12_holdsBy_37 rfl ?_
        exact r_zret G hr hk hM (Or.inl rfl) hm dX12_holdsBy_38
set_option maxRecDepth 100000 in
set_option maxHeartbeats 4000000 in
theorem qX12_holdsBy (l : Launch) (E : mE) (σ : mSt) (v0 : Nat) (v1 : Int) (out : Int × mSt) (hm : mX12_holdsBy v0 v1 σ = some out) : mMet l yX12_holdsBy cX12_holdsBy 9 (some .boolean) 2 56 E 276 [.ref (eA E v0), vL v1] σ (some (vI out.1)) out.2 := by
  unfold mX12_holdsBy at hm
  obtain ⟨g0, hm⟩ := g_t hm
  refine m_entry (by decide +kernel) (Nat.le_of_ble_eq_true rfl) (fun p e s m args below meth c G hr hk hM ls hl => ?_)
  have G : CallFix p m c cX12_holdsBy 9 s args mTs RX12 := G
  have hl : lv_has ls 9 [(0, .ref (eA E v0)), (1, vL v1)] := hl
  refine r_aload_n (np := 1) G hl 0 rfl dX12_holdsBy_0 rfl rfl ?_
  obtain ⟨r78, e79, hm⟩ := ref_t hm
  refine r_getR (np := 4) G hM (shp_lt g0 (by decide)) g0 e79 fdX12_30 lkX12_60 dX12_holdsBy_1 rfl ?_
  refine r_bipush (np := 6) G 9 dX12_holdsBy_4 (by decide) rfl ?_
  obtain ⟨g80, hm⟩ := g_t hm
  refine r_laload (np := 7) G hM g80 rfl dX12_holdsBy_6 rfl ?_
  refine r_lload_n (np := 8) G hl 1 rfl dX12_holdsBy_7 rfl rfl ?_
  obtain ⟨b81, s82, e83, hm⟩ := call_t hm
  refine m_callSL (np := 11) G hM hl.1 [vL (σ r78 9), vL v1] (qX12_common l E σ (σ r78 9) v1 _ e83) myX12_common lkX12_280 ⟨Nat.le_of_ble_eq_true rfl, Nat.le_of_ble_eq_true rfl⟩ ⟨Nat.le_of_ble_eq_true rfl, Nat.le_of_ble_eq_true rfl⟩ [] rfl (Nat.le_of_ble_eq_true rfl) dX12_holdsBy_8 rfl (fun H locs hM => ?_)
  refine r_lstore_n (np := 12) G hl rfl [(3, vL b81), (0, .ref (eA E v0)), (1, vL v1)] dX12_holdsBy_11 rfl rfl (by decide) rfl (fun ls hl => ?_)
  refine r_iconst (np := 13) G 0 dX12_holdsBy_12 rfl ?_
  refine r_istore (np := 15) G hl rfl [(5, vI 0), (3, vL b81), (0, .ref (eA E v0)), (1, vL v1)] dX12_holdsBy_13 rfl (by decide) rfl (fun ls hl => ?_)
  exact wX12_holdsBy_L15 l E out G hr hk v0 v1 b81 g0 (fun zσ => mX12_holdsBy_B45 v0 v1 b81 zσ) (fun zσ zH zl zs zm zM zv => wX12_holdsBy_B45 l E out G hr hk v0 v1 g0 b81 zσ zH zl zs zm zM zv) mF 0 _ _ _ _ hm hM (lv_sub hl [2, 3, 1, 0] rfl)
theorem gX12_holdsBy {v0 : Nat} {v1 : Int} {σ : mSt} {out : Int × mSt} (hm : mX12_holdsBy v0 v1 σ = some out) : isC v0 11 := (g_t hm).1
set_option maxRecDepth 100000 in
set_option maxHeartbeats 4000000 in
theorem wX12_isInIdeal_B89 (l : Launch) (E : mE) (out : Int × mSt) {p : Program} {e : Env} {s : State} {m : MethodId} {args : Array Value} {below : List Frame} {meth : Method} {c : Code} (G : CallFix p m c cX12_isInIdeal 6 s args mTs RX12) (hr : meth.sig.returnType = (some .int)) (hk : meth.locks = false) (v0 : Nat) (v1 : Int) (v2 : Int) (v3 : Int) (g0 : isC v0 11) : ∀ (σ : mSt) (H : Heap) (locs : List Loc) (ls : Array Slot), mX12_isInIdeal_B89 v0 v1 v2 v3 σ = some out → mM (mA E 276) E 276 σ s H locs → lv_has ls 6 [(0, .ref (eA E v0)), (3, vI v3)] → mGo l p e 6 166 s m args below meth c E (some (vI out.1)) out.2 H locs (F0 m 89 ls []) := by
  intro σ H locs ls hm hM hl
  unfold mX12_isInIdeal_B89 at hm
  refine r_aload_n (np := 90) G hl 0 rfl dX12_isInIdeal_89 rfl rfl ?_
  refine r_aload_n (np := 91) G hl 0 rfl dX12_isInIdeal_90 rfl rfl ?_
  refine r_iload_n (np := 92) G hl 1 rfl dX12_isInIdeal_91 rfl rfl ?_
  refine r_iconst (np := 93) G 4 dX12_isInIdeal_92 rfl ?_
  obtain ⟨b1, s2, e3, hm⟩ := call_t hm
  refine m_callVL (np := 96) G hM hl.1 [vI v3, vI 4] (qX12_part l E σ v0 v3 4 _ e3) myX12_part (shp_lt (gX12_part e3) (by decide)) (gX12_part e3) rfl (by decide) lkX12_294 ⟨Nat.le_of_ble_eq_true rfl, Nat.le_of_ble_eq_true rfl⟩ ⟨Nat.le_of_ble_eq_true rfl, Nat.le_of_ble_eq_true rfl⟩ [.ref (eA E v0)] rfl (Nat.le_of_ble_eq_true rfl) dX12_isInIdeal_93 rfl (fun H locs hM => ?_)
  obtain ⟨b4, s5, e6, hm⟩ := call_t hm
  refine m_callVI (np := 99) G hM hl.1 [vL b1] (qX12_holdsBy l E s2 v0 b1 _ e6) myX12_holdsBy (shp_lt (gX12_holdsBy e6) (by decide)) (gX12_holdsBy e6) rfl (by decide) lkX12_446 ⟨Nat.le_of_ble_eq_true rfl, Nat.le_of_ble_eq_true rfl⟩ ⟨Nat.le_of_ble_eq_true rfl, Nat.le_of_ble_eq_true rfl⟩ [] rfl (Nat.le_of_ble_eq_true rfl) dX12_isInIdeal_96 rfl (fun H locs hM => ?_)
  refine r_if_eq (np := 102) (tgt := 106) G rfl dX12_isInIdeal_99 (by decide) rfl (fun h7 => ?_) (fun h7 => ?_)
  · have hm := b_t h7 hm
    refine r_iconst (np := 107) G 0 dX12_isInIdeal_106 rfl ?_
    exact r_iret G hr hk hM hm dX12_isInIdeal_107
  · have hm := b_f h7 hm
    refine r_iconst (np := 103) G 1 dX12_isInIdeal_102 rfl ?_
    refine r_goto (np := 107) G dX12_isInIdeal_103 (by decide) ?_
    exact r_iret G hr hk hM hm dX12_isInIdeal_107
set_option maxRecDepth 100000 in
set_option maxHeartbeats 4000000 in
theorem wX12_isInIdeal_L63 (l : Launch) (E : mE) (out : Int × mSt) {p : Program} {e : Env} {s : State} {m : MethodId} {args : Array Value} {below : List Frame} {meth : Method} {c : Code} (G : CallFix p m c cX12_isInIdeal 6 s args mTs RX12) (hr : meth.sig.returnType = (some .int)) (hk : meth.locks = false) (v0 : Nat) (v1 : Int) (v2 : Int) (v3 : Int) (g0 : isC v0 11) (x89 : mSt → Option (Int × mSt)) (hx89 : ∀ (σ : mSt) (H : Heap) (locs : List Loc) (ls : Array Slot), x89 σ = some out → mM (mA E 276) E 276 σ s H locs → lv_has ls 6 [(0, .ref (eA E v0)), (3, vI v3)] → mGo l p e 6 166 s m args below meth c E (some (vI out.1)) out.2 H locs (F0 m 89 ls [])) : ∀ (n : Nat) (v5 : Int) (σ : mSt) (H : Heap) (locs : List Loc) (ls : Array Slot), mX12_isInIdeal_L63 v0 v1 v2 v3 x89 n v5 σ = some out → mM (mA E 276) E 276 σ s H locs → lv_has ls 6 [(0, .ref (eA E v0)), (3, vI v3), (5, vI v5)] → mGo l p e 6 166 s m args below meth c E (some (vI out.1)) out.2 H locs (F0 m 63 ls []) := by
  intro n
  induction n with
  | zero =>
    intro v5 σ H locs ls hm hM hl
    exact absurd hm (by rw [mX12_isInIdeal_L63.eq_1]; exact fun h => nomatch h)
  | succ n ih =>
    intro v5 σ H locs ls hm hM hl
    rw [mX12_isInIdeal_L63.eq_2] at hm
    refine r_iload (np := 65) G hl 2 rfl dX12_isInIdeal_63 rfl ?_
    refine r_iconst (np := 66) G 4 dX12_isInIdeal_65 rfl ?_
    refine r_icmp_ge (np := 69) (tgt := 89) G rfl (wIk 4 rfl) dX12_isInIdeal_66 (by decide) rfl (fun h8 => ?_) (fun h8 => ?_)
    · have hm := b_t h8 hm
      exact hx89 _ _ _ _ hm hM (lv_sub hl [0, 1] rfl)
    · have hm := b_f h8 hm
      refine r_aload_n (np := 70) G hl 0 rfl dX12_isInIdeal_69 rfl rfl ?_
      obtain ⟨r9, e10, hm⟩ := ref_t hm
      refine r_getR (np := 73) G hM (shp_lt g0 (by decide)) g0 e10 fdX12_32 lkX12_66 dX12_isInIdeal_70 rfl ?_
      refine r_iload (np := 75) G hl 2 rfl dX12_isInIdeal_73 rfl ?_
      refine r_aload_n (np := 76) G hl 0 rfl dX12_isInIdeal_75 rfl rfl ?_
      refine r_iload_n (np := 77) G hl 1 rfl dX12_isInIdeal_76 rfl rfl ?_
      refine r_iload (np := 79) G hl 2 rfl dX12_isInIdeal_77 rfl ?_
      obtain ⟨b11, s12, e13, hm⟩ := call_t hm
      refine m_callVL (np := 82) G hM hl.1 [vI v3, vI v5] (qX12_part l E σ v0 v3 v5 _ e13) myX12_part (shp_lt (gX12_part e13) (by decide)) (gX12_part e13) rfl (by decide) lkX12_294 ⟨Nat.le_of_ble_eq_true rfl, Nat.le_of_ble_eq_true rfl⟩ ⟨Nat.le_of_ble_eq_true rfl, Nat.le_of_ble_eq_true rfl⟩ [vI v5, .ref (eA E r9)] rfl (Nat.le_of_ble_eq_true rfl) dX12_isInIdeal_79 rfl (fun H locs hM => ?_)
      obtain ⟨g14, hm⟩ := g_t hm
      obtain ⟨s15, e16, hm⟩ := bnd_t hm
      refine r_lastore (np := 83) G hM g14 rfl s15 e16 dX12_isInIdeal_82 rfl (fun H locs hM => ?_)
      obtain ⟨a17, e18, hm⟩ := bnd_t hm
      refine r_iinc (np := 86) G hl 2 rfl e18 [(5, vI a17), (0, .ref (eA E v0)), (3, vI v3)] dX12_isInIdeal_83 rfl (by decide) rfl (fun ls hl => ?_)
      refine r_goto (np := 63) G dX12_isInIdeal_86 (by decide) ?_
      exact ih a17 _ _ _ _ hm hM (lv_sub hl [1, 2, 0] rfl)
set_option maxRecDepth 100000 in
set_option maxHeartbeats 4000000 in
theorem qX12_isInIdeal (l : Launch) (E : mE) (σ : mSt) (v0 : Nat) (v1 : Int) (v2 : Int) (v3 : Int) (out : Int × mSt) (hm : mX12_isInIdeal v0 v1 v2 v3 σ = some out) : mMet l yX12_isInIdeal cX12_isInIdeal 6 (some .int) 6 166 E 276 [.ref (eA E v0), vI v1, vI v2, vI v3] σ (some (vI out.1)) out.2 := by
  unfold mX12_isInIdeal at hm
  obtain ⟨g0, hm⟩ := g_t hm
  refine m_entry (by decide +kernel) (Nat.le_of_ble_eq_true rfl) (fun p e s m args below meth c G hr hk hM ls hl => ?_)
  have G : CallFix p m c cX12_isInIdeal 6 s args mTs RX12 := G
  have hl : lv_has ls 6 [(0, .ref (eA E v0)), (1, vI v1), (2, vI v2), (3, vI v3)] := hl
  refine r_aload_n (np := 1) G hl 0 rfl dX12_isInIdeal_0 rfl rfl ?_
  refine r_iconst (np := 2) G 0 dX12_isInIdeal_1 rfl ?_
  obtain ⟨s19, e20, hm⟩ := bnd_t hm
  refine r_putI (np := 5) G hM (shp_lt g0 (by decide)) g0 ptX12_0 rfl lkX12_75 s19 e20 dX12_isInIdeal_2 rfl (fun H locs hM => ?_)
  refine r_aload_n (np := 6) G hl 0 rfl dX12_isInIdeal_5 rfl rfl ?_
  refine r_iload_n (np := 7) G hl 1 rfl dX12_isInIdeal_6 rfl rfl ?_
  obtain ⟨b21, s22, e23, hm⟩ := call_t hm
  refine m_callVI (np := 10) G hM hl.1 [vI v1] (qX12_isKept l E s19 v0 v1 _ e23) myX12_isKept (shp_lt (gX12_isKept e23) (by decide)) (gX12_isKept e23) rfl (by decide) lkX12_297 ⟨Nat.le_of_ble_eq_true rfl, Nat.le_of_ble_eq_true rfl⟩ ⟨Nat.le_of_ble_eq_true rfl, Nat.le_of_ble_eq_true rfl⟩ [] rfl (Nat.le_of_ble_eq_true rfl) dX12_isInIdeal_7 rfl (fun H locs hM => ?_)
  refine r_if_eq (np := 13) (tgt := 36) G rfl dX12_isInIdeal_10 (by decide) rfl (fun h24 => ?_) (fun h24 => ?_)
  · have hm := b_t h24 hm
    refine r_iconst (np := 37) G (-1) dX12_isInIdeal_36 rfl ?_
    exact r_iret G hr hk hM hm dX12_isInIdeal_37
  · have hm := b_f h24 hm
    refine r_aload_n (np := 14) G hl 0 rfl dX12_isInIdeal_13 rfl rfl ?_
    refine r_iload_n (np := 15) G hl 3 rfl dX12_isInIdeal_14 rfl rfl ?_
    obtain ⟨b25, s26, e27, hm⟩ := call_t hm
    refine m_callVI (np := 18) G hM hl.1 [vI v3] (qX12_isKept l E s22 v0 v3 _ e27) myX12_isKept (shp_lt (gX12_isKept e27) (by decide)) (gX12_isKept e27) rfl (by decide) lkX12_297 ⟨Nat.le_of_ble_eq_true rfl, Nat.le_of_ble_eq_true rfl⟩ ⟨Nat.le_of_ble_eq_true rfl, Nat.le_of_ble_eq_true rfl⟩ [] rfl (Nat.le_of_ble_eq_true rfl) dX12_isInIdeal_15 rfl (fun H locs hM => ?_)
    refine r_if_eq (np := 21) (tgt := 36) G rfl dX12_isInIdeal_18 (by decide) rfl (fun h28 => ?_) (fun h28 => ?_)
    · have hm := b_t h28 hm
      refine r_iconst (np := 37) G (-1) dX12_isInIdeal_36 rfl ?_
      exact r_iret G hr hk hM hm dX12_isInIdeal_37
    · have hm := b_f h28 hm
      refine r_aload_n (np := 22) G hl 0 rfl dX12_isInIdeal_21 rfl rfl ?_
      obtain ⟨r29, e30, hm⟩ := ref_t hm
      refine r_getR (np := 25) G hM (shp_lt g0 (by decide)) g0 e30 fdX12_22 lkX12_36 dX12_isInIdeal_22 rfl ?_
      refine r_iload_n (np := 26) G hl 3 rfl dX12_isInIdeal_25 rfl rfl ?_
      obtain ⟨g31, hm⟩ := g_t hm
      refine r_iaload (np := 27) G hM g31 rfl dX12_isInIdeal_26 rfl ?_
      refine r_aload_n (np := 28) G hl 0 rfl dX12_isInIdeal_27 rfl rfl ?_
      obtain ⟨r32, e33, hm⟩ := ref_t hm
      refine r_getR (np := 31) G hM (shp_lt g0 (by decide)) g0 e33 fdX12_22 lkX12_36 dX12_isInIdeal_28 rfl ?_
      refine r_iload_n (np := 32) G hl 1 rfl dX12_isInIdeal_31 rfl rfl ?_
      obtain ⟨g34, hm⟩ := g_t hm
      refine r_iaload (np := 33) G hM g34 rfl dX12_isInIdeal_32 rfl ?_
      refine r_icmp_eq (np := 36) (tgt := 38) G rfl rfl dX12_isInIdeal_33 (by decide) rfl (fun h35 => ?_) (fun h35 => ?_)
      · have hm := b_t h35 hm
        refine r_aload_n (np := 39) G hl 0 rfl dX12_isInIdeal_38 rfl rfl ?_
        refine r_iload_n (np := 40) G hl 1 rfl dX12_isInIdeal_39 rfl rfl ?_
        refine r_iload_n (np := 41) G hl 2 rfl dX12_isInIdeal_40 rfl rfl ?_
        obtain ⟨b36, s37, e38, hm⟩ := call_t hm
        refine m_callVI (np := 44) G hM hl.1 [vI v1, vI v2] (qX12_refusal l E s26 v0 v1 v2 _ e38) myX12_refusal (shp_lt (gX12_refusal e38) (by decide)) (gX12_refusal e38) rfl (by decide) lkX12_440 ⟨Nat.le_of_ble_eq_true rfl, Nat.le_of_ble_eq_true rfl⟩ ⟨Nat.le_of_ble_eq_true rfl, Nat.le_of_ble_eq_true rfl⟩ [] rfl (Nat.le_of_ble_eq_true rfl) dX12_isInIdeal_41 rfl (fun H locs hM => ?_)
        refine r_istore (np := 46) G hl rfl [(4, vI b36), (0, .ref (eA E v0)), (1, vI v1), (2, vI v2), (3, vI v3)] dX12_isInIdeal_44 rfl (by decide) rfl (fun ls hl => ?_)
        refine r_iload (np := 48) G hl 0 rfl dX12_isInIdeal_46 rfl ?_
        refine r_if_ge (np := 51) (tgt := 54) G rfl dX12_isInIdeal_48 (by decide) rfl (fun h39 => ?_) (fun h39 => ?_)
        · have hm := b_t h39 hm
          refine r_aload_n (np := 55) G hl 1 rfl dX12_isInIdeal_54 rfl rfl ?_
          refine r_iload_n (np := 56) G hl 2 rfl dX12_isInIdeal_55 rfl rfl ?_
          refine r_iload_n (np := 57) G hl 3 rfl dX12_isInIdeal_56 rfl rfl ?_
          obtain ⟨b40, s41, e42, hm⟩ := call_t hm
          refine m_callVV (np := 60) G hM hl.1 [vI v1, vI v2] (qX12_laysIdeal l E s37 v0 v1 v2 _ e42) myX12_laysIdeal (shp_lt (gX12_laysIdeal e42) (by decide)) (gX12_laysIdeal e42) rfl (by decide) lkX12_443 ⟨Nat.le_of_ble_eq_true rfl, Nat.le_of_ble_eq_true rfl⟩ ⟨Nat.le_of_ble_eq_true rfl, Nat.le_of_ble_eq_true rfl⟩ [] rfl (Nat.le_of_ble_eq_true rfl) dX12_isInIdeal_57 rfl (fun H locs hM => ?_)
          refine r_iconst (np := 61) G 0 dX12_isInIdeal_60 rfl ?_
          refine r_istore (np := 63) G hl rfl [(5, vI 0), (4, vI b36), (0, .ref (eA E v0)), (1, vI v1), (2, vI v2), (3, vI v3)] dX12_isInIdeal_61 rfl (by decide) rfl (fun ls hl => ?_)
          exact wX12_isInIdeal_L63 l E out G hr hk v0 v1 v2 v3 g0 (fun zσ => mX12_isInIdeal_B89 v0 v1 v2 v3 zσ) (fun zσ zH zl zs zm zM zv => wX12_isInIdeal_B89 l E out G hr hk v0 v1 v2 v3 g0 zσ zH zl zs zm zM zv) mF 0 _ _ _ _ hm hM (lv_sub hl [2, 5, 0] rfl)
        · have hm := b_f h39 hm
          refine r_iload (np := 53) G hl 0 rfl dX12_isInIdeal_51 rfl ?_
          exact r_iret G hr hk hM hm dX12_isInIdeal_53
      · have hm := b_f h35 hm
        refine r_iconst (np := 37) G (-1) dX12_isInIdeal_36 rfl ?_
        exact r_iret G hr hk hM hm dX12_isInIdeal_37
theorem gX12_isInIdeal {v0 : Nat} {v1 : Int} {v2 : Int} {v3 : Int} {σ : mSt} {out : Int × mSt} (hm : mX12_isInIdeal v0 v1 v2 v3 σ = some out) : isC v0 11 := (g_t hm).1
set_option maxRecDepth 100000 in
set_option maxHeartbeats 4000000 in
theorem wX12_staysIn_B199 (l : Launch) (E : mE) (out : Int × mSt) {p : Program} {e : Env} {s : State} {m : MethodId} {args : Array Value} {below : List Frame} {meth : Method} {c : Code} (G : CallFix p m c cX12_staysIn 14 s args mTs RX12) (hr : meth.sig.returnType = (some .boolean)) (hk : meth.locks = false) (v0 : Nat) (v1 : Int) (v2 : Int) (v3 : Int) (v4 : Int) (v5 : Int) (v7 : Int) (g0 : isC v0 11) : ∀ (v9 : Int) (v11 : Int) (σ : mSt) (H : Heap) (locs : List Loc) (ls : Array Slot), mX12_staysIn_B199 v0 v1 v2 v3 v4 v5 v7 v9 v11 σ = some out → mM (mA E 276) E 276 σ s H locs → lv_has ls 14 [(0, .ref (eA E v0)), (9, vL v9), (11, vL v11)] → mGo l p e 3 84 s m args below meth c E (some (vI out.1)) out.2 H locs (F0 m 199 ls []) := by
  intro v9 v11 σ H locs ls hm hM hl
  unfold mX12_staysIn_B199 at hm
  refine r_aload_n (np := 200) G hl 0 rfl dX12_staysIn_199 rfl rfl ?_
  refine r_lload (np := 202) G hl 1 rfl dX12_staysIn_200 rfl ?_
  refine r_lload (np := 204) G hl 2 rfl dX12_staysIn_202 rfl ?_
  obtain ⟨g1, hm⟩ := g_t hm
  refine r_ldiv (np := 205) G g1 dX12_staysIn_204 rfl ?_
  obtain ⟨b2, s3, e4, hm⟩ := call_t hm
  refine m_callVI (np := 208) G hM hl.1 [vL ((wL v9).tdiv (wL v11))] (qX12_holdsBy l E σ v0 ((wL v9).tdiv (wL v11)) _ e4) myX12_holdsBy (shp_lt (gX12_holdsBy e4) (by decide)) (gX12_holdsBy e4) rfl (by decide) lkX12_446 ⟨Nat.le_of_ble_eq_true rfl, Nat.le_of_ble_eq_true rfl⟩ ⟨Nat.le_of_ble_eq_true rfl, Nat.le_of_ble_eq_true rfl⟩ [] rfl (Nat.le_of_ble_eq_true rfl) dX12_staysIn_205 rfl (fun H locs hM => ?_)
  obtain ⟨g5, hm⟩ := g_t hm
  exact r_zret G hr hk hM g5 hm dX12_staysIn_208
set_option maxRecDepth 100000 in
set_option maxHeartbeats 4000000 in
theorem wX12_staysIn_L170 (l : Launch) (E : mE) (out : Int × mSt) {p : Program} {e : Env} {s : State} {m : MethodId} {args : Array Value} {below : List Frame} {meth : Method} {c : Code} (G : CallFix p m c cX12_staysIn 14 s args mTs RX12) (hr : meth.sig.returnType = (some .boolean)) (hk : meth.locks = false) (v0 : Nat) (v1 : Int) (v2 : Int) (v3 : Int) (v4 : Int) (v5 : Int) (v7 : Int) (v9 : Int) (v11 : Int) (g0 : isC v0 11) (x199 : mSt → Option (Int × mSt)) (hx199 : ∀ (σ : mSt) (H : Heap) (locs : List Loc) (ls : Array Slot), x199 σ = some out → mM (mA E 276) E 276 σ s H locs → lv_has ls 14 [(0, .ref (eA E v0)), (9, vL v9), (11, vL v11)] → mGo l p e 3 84 s m args below meth c E (some (vI out.1)) out.2 H locs (F0 m 199 ls [])) : ∀ (n : Nat) (v13 : Int) (σ : mSt) (H : Heap) (locs : List Loc) (ls : Array Slot), mX12_staysIn_L170 v0 v1 v2 v3 v4 v5 v7 v9 v11 x199 n v13 σ = some out → mM (mA E 276) E 276 σ s H locs → lv_has ls 14 [(0, .ref (eA E v0)), (9, vL v9), (11, vL v11), (13, vI v13)] → mGo l p e 3 84 s m args below meth c E (some (vI out.1)) out.2 H locs (F0 m 170 ls []) := by
  intro n
  induction n with
  | zero =>
    intro v13 σ H locs ls hm hM hl
    exact absurd hm (by rw [mX12_staysIn_L170.eq_1]; exact fun h => nomatch h)
  | succ n ih =>
    intro v13 σ H locs ls hm hM hl
    rw [mX12_staysIn_L170.eq_2] at hm
    refine r_iload (np := 172) G hl 3 rfl dX12_staysIn_170 rfl ?_
    refine r_iconst (np := 173) G 4 dX12_staysIn_172 rfl ?_
    refine r_icmp_ge (np := 176) (tgt := 199) G rfl (wIk 4 rfl) dX12_staysIn_173 (by decide) rfl (fun h6 => ?_) (fun h6 => ?_)
    · have hm := b_t h6 hm
      exact hx199 _ _ _ _ hm hM (lv_sub hl [0, 1, 2] rfl)
    · have hm := b_f h6 hm
      refine r_aload_n (np := 177) G hl 0 rfl dX12_staysIn_176 rfl rfl ?_
      obtain ⟨r7, e8, hm⟩ := ref_t hm
      refine r_getR (np := 180) G hM (shp_lt g0 (by decide)) g0 e8 fdX12_32 lkX12_66 dX12_staysIn_177 rfl ?_
      refine r_iload (np := 182) G hl 3 rfl dX12_staysIn_180 rfl ?_
      refine r_aload_n (np := 183) G hl 0 rfl dX12_staysIn_182 rfl rfl ?_
      obtain ⟨r9, e10, hm⟩ := ref_t hm
      refine r_getR (np := 186) G hM (shp_lt g0 (by decide)) g0 e10 fdX12_27 lkX12_51 dX12_staysIn_183 rfl ?_
      refine r_iload (np := 188) G hl 3 rfl dX12_staysIn_186 rfl ?_
      obtain ⟨g11, hm⟩ := g_t hm
      refine r_laload (np := 189) G hM g11 rfl dX12_staysIn_188 rfl ?_
      refine r_lload (np := 191) G hl 2 rfl dX12_staysIn_189 rfl ?_
      obtain ⟨g12, hm⟩ := g_t hm
      refine r_ldiv (np := 192) G g12 dX12_staysIn_191 rfl ?_
      obtain ⟨g13, hm⟩ := g_t hm
      obtain ⟨s14, e15, hm⟩ := bnd_t hm
      refine r_lastore (np := 193) G hM g13 rfl s14 e15 dX12_staysIn_192 rfl (fun H locs hM => ?_)
      obtain ⟨a16, e17, hm⟩ := bnd_t hm
      refine r_iinc (np := 196) G hl 3 rfl e17 [(13, vI a16), (0, .ref (eA E v0)), (9, vL v9), (11, vL v11)] dX12_staysIn_193 rfl (by decide) rfl (fun ls hl => ?_)
      refine r_goto (np := 170) G dX12_staysIn_196 (by decide) ?_
      exact ih a16 _ _ _ _ hm hM (lv_sub hl [1, 2, 3, 0] rfl)
set_option maxRecDepth 100000 in
set_option maxHeartbeats 4000000 in
theorem wX12_staysIn_B167 (l : Launch) (E : mE) (out : Int × mSt) {p : Program} {e : Env} {s : State} {m : MethodId} {args : Array Value} {below : List Frame} {meth : Method} {c : Code} (G : CallFix p m c cX12_staysIn 14 s args mTs RX12) (hr : meth.sig.returnType = (some .boolean)) (hk : meth.locks = false) (v0 : Nat) (v1 : Int) (v2 : Int) (v3 : Int) (v4 : Int) (v5 : Int) (v7 : Int) (g0 : isC v0 11) : ∀ (v9 : Int) (v11 : Int) (σ : mSt) (H : Heap) (locs : List Loc) (ls : Array Slot), mX12_staysIn_B167 v0 v1 v2 v3 v4 v5 v7 v9 v11 σ = some out → mM (mA E 276) E 276 σ s H locs → lv_has ls 14 [(0, .ref (eA E v0)), (9, vL v9), (11, vL v11)] → mGo l p e 3 84 s m args below meth c E (some (vI out.1)) out.2 H locs (F0 m 167 ls []) := by
  intro v9 v11 σ H locs ls hm hM hl
  unfold mX12_staysIn_B167 at hm
  refine r_iconst (np := 168) G 0 dX12_staysIn_167 rfl ?_
  refine r_istore (np := 170) G hl rfl [(13, vI 0), (0, .ref (eA E v0)), (9, vL v9), (11, vL v11)] dX12_staysIn_168 rfl (by decide) rfl (fun ls hl => ?_)
  exact wX12_staysIn_L170 l E out G hr hk v0 v1 v2 v3 v4 v5 v7 v9 v11 g0 (fun zσ => mX12_staysIn_B199 v0 v1 v2 v3 v4 v5 v7 v9 v11 zσ) (fun zσ zH zl zs zm zM zv => wX12_staysIn_B199 l E out G hr hk v0 v1 v2 v3 v4 v5 v7 g0 v9 v11 zσ zH zl zs zm zM zv) mF 0 _ _ _ _ hm hM (lv_sub hl [1, 2, 3, 0] rfl)
set_option maxRecDepth 100000 in
set_option maxHeartbeats 4000000 in
theorem wX12_staysIn_L141 (l : Launch) (E : mE) (out : Int × mSt) {p : Program} {e : Env} {s : State} {m : MethodId} {args : Array Value} {below : List Frame} {meth : Method} {c : Code} (G : CallFix p m c cX12_staysIn 14 s args mTs RX12) (hr : meth.sig.returnType = (some .boolean)) (hk : meth.locks = false) (v0 : Nat) (v1 : Int) (v2 : Int) (v3 : Int) (v4 : Int) (v5 : Int) (v7 : Int) (v9 : Int) (g0 : isC v0 11) (x167 : Int → mSt → Option (Int × mSt)) (hx167 : ∀ (v11 : Int) (σ : mSt) (H : Heap) (locs : List Loc) (ls : Array Slot), x167 v11 σ = some out → mM (mA E 276) E 276 σ s H locs → lv_has ls 14 [(0, .ref (eA E v0)), (9, vL v9), (11, vL v11)] → mGo l p e 3 84 s m args below meth c E (some (vI out.1)) out.2 H locs (F0 m 167 ls [])) : ∀ (n : Nat) (v11 : Int) (v13 : Int) (σ : mSt) (H : Heap) (locs : List Loc) (ls : Array Slot), mX12_staysIn_L141 v0 v1 v2 v3 v4 v5 v7 v9 x167 n v11 v13 σ = some out → mM (mA E 276) E 276 σ s H locs → lv_has ls 14 [(0, .ref (eA E v0)), (9, vL v9), (11, vL v11), (13, vI v13)] → mGo l p e 3 84 s m args below meth c E (some (vI out.1)) out.2 H locs (F0 m 141 ls []) := by
  intro n
  induction n with
  | zero =>
    intro v11 v13 σ H locs ls hm hM hl
    exact absurd hm (by rw [mX12_staysIn_L141.eq_1]; exact fun h => nomatch h)
  | succ n ih =>
    intro v11 v13 σ H locs ls hm hM hl
    rw [mX12_staysIn_L141.eq_2] at hm
    refine r_iload (np := 143) G hl 3 rfl dX12_staysIn_141 rfl ?_
    refine r_iconst (np := 144) G 4 dX12_staysIn_143 rfl ?_
    refine r_icmp_ge (np := 147) (tgt := 167) G rfl (wIk 4 rfl) dX12_staysIn_144 (by decide) rfl (fun h18 => ?_) (fun h18 => ?_)
    · have hm := b_t h18 hm
      exact hx167 v11 _ _ _ _ hm hM (lv_sub hl [0, 1, 2] rfl)
    · have hm := b_f h18 hm
      refine r_lload (np := 149) G hl 2 rfl dX12_staysIn_147 rfl ?_
      refine r_aload_n (np := 150) G hl 0 rfl dX12_staysIn_149 rfl rfl ?_
      obtain ⟨r19, e20, hm⟩ := ref_t hm
      refine r_getR (np := 153) G hM (shp_lt g0 (by decide)) g0 e20 fdX12_27 lkX12_51 dX12_staysIn_150 rfl ?_
      refine r_iload (np := 155) G hl 3 rfl dX12_staysIn_153 rfl ?_
      obtain ⟨g21, hm⟩ := g_t hm
      refine r_laload (np := 156) G hM g21 rfl dX12_staysIn_155 rfl ?_
      obtain ⟨b22, s23, e24, hm⟩ := call_t hm
      refine m_callSL (np := 159) G hM hl.1 [vL v11, vL (σ r19 (wI v13).toNat)] (qX12_common l E σ v11 (σ r19 (wI v13).toNat) _ e24) myX12_common lkX12_280 ⟨Nat.le_of_ble_eq_true rfl, Nat.le_of_ble_eq_true rfl⟩ ⟨Nat.le_of_ble_eq_true rfl, Nat.le_of_ble_eq_true rfl⟩ [] rfl (Nat.le_of_ble_eq_true rfl) dX12_staysIn_156 rfl (fun H locs hM => ?_)
      refine r_lstore (np := 161) G hl rfl [(11, vL b22), (0, .ref (eA E v0)), (9, vL v9), (13, vI v13)] dX12_staysIn_159 rfl (by decide) rfl (fun ls hl => ?_)
      obtain ⟨a25, e26, hm⟩ := bnd_t hm
      refine r_iinc (np := 164) G hl 3 rfl e26 [(13, vI a25), (11, vL b22), (0, .ref (eA E v0)), (9, vL v9)] dX12_staysIn_161 rfl (by decide) rfl (fun ls hl => ?_)
      refine r_goto (np := 141) G dX12_staysIn_164 (by decide) ?_
      exact ih b22 a25 _ _ _ _ hm hM (lv_sub hl [2, 3, 1, 0] rfl)
set_option maxRecDepth 100000 in
set_option maxHeartbeats 4000000 in
theorem wX12_staysIn_B100 (l : Launch) (E : mE) (out : Int × mSt) {p : Program} {e : Env} {s : State} {m : MethodId} {args : Array Value} {below : List Frame} {meth : Method} {c : Code} (G : CallFix p m c cX12_staysIn 14 s args mTs RX12) (hr : meth.sig.returnType = (some .boolean)) (hk : meth.locks = false) (v0 : Nat) (v1 : Int) (v2 : Int) (v3 : Int) (v4 : Int) (v5 : Int) (v7 : Int) (g0 : isC v0 11) : ∀ (v9 : Int) (v11 : Int) (σ : mSt) (H : Heap) (locs : List Loc) (ls : Array Slot), mX12_staysIn_B100 v0 v1 v2 v3 v4 v5 v7 v9 v11 σ = some out → mM (mA E 276) E 276 σ s H locs → lv_has ls 14 [(0, .ref (eA E v0)), (1, vI v1), (4, vI v4), (5, vL v5), (7, vL v7), (9, vL v9), (11, vL v11)] → mGo l p e 3 84 s m args below meth c E (some (vI out.1)) out.2 H locs (F0 m 100 ls []) := by
  intro v9 v11 σ H locs ls hm hM hl
  unfold mX12_staysIn_B100 at hm
  refine r_lload (np := 102) G hl 5 rfl dX12_staysIn_100 rfl ?_
  refine r_lload (np := 104) G hl 6 rfl dX12_staysIn_102 rfl ?_
  obtain ⟨g27, hm⟩ := g_t hm
  refine r_ldiv (np := 105) G g27 dX12_staysIn_104 rfl ?_
  obtain ⟨a28, e29, hm⟩ := bnd_t hm
  refine r_lstore (np := 107) G hl e29 [(9, vL a28), (0, .ref (eA E v0)), (1, vI v1), (4, vI v4), (5, vL v5), (7, vL v7), (11, vL v11)] dX12_staysIn_105 rfl (by decide) rfl (fun ls hl => ?_)
  refine r_aload_n (np := 108) G hl 1 rfl dX12_staysIn_107 rfl rfl ?_
  refine r_iload_n (np := 109) G hl 2 rfl dX12_staysIn_108 rfl rfl ?_
  refine r_iload (np := 111) G hl 3 rfl dX12_staysIn_109 rfl ?_
  refine r_iconst (np := 112) G 1 dX12_staysIn_111 rfl ?_
  obtain ⟨b30, s31, e32, hm⟩ := call_t hm
  refine m_callVV (np := 115) G hM hl.1 [vI v1, vI v4, vI 1] (qX12_takesRow l E σ v0 v1 v4 1 _ e32) myX12_takesRow (shp_lt (gX12_takesRow e32) (by decide)) (gX12_takesRow e32) rfl (by decide) lkX12_377 ⟨Nat.le_of_ble_eq_true rfl, Nat.le_of_ble_eq_true rfl⟩ ⟨Nat.le_of_ble_eq_true rfl, Nat.le_of_ble_eq_true rfl⟩ [] rfl (Nat.le_of_ble_eq_true rfl) dX12_staysIn_112 rfl (fun H locs hM => ?_)
  refine r_aload_n (np := 116) G hl 1 rfl dX12_staysIn_115 rfl rfl ?_
  refine r_lload (np := 118) G hl 4 rfl dX12_staysIn_116 rfl ?_
  refine r_lload (np := 120) G hl 5 rfl dX12_staysIn_118 rfl ?_
  obtain ⟨b33, s34, e35, hm⟩ := call_t hm
  refine m_callVV (np := 123) G hM hl.1 [vL v5, vL v7] (qX12_multiplies l E s31 v0 v5 v7 _ e35) myX12_multiplies (shp_lt (gX12_multiplies e35) (by decide)) (gX12_multiplies e35) rfl (by decide) lkX12_318 ⟨Nat.le_of_ble_eq_true rfl, Nat.le_of_ble_eq_true rfl⟩ ⟨Nat.le_of_ble_eq_true rfl, Nat.le_of_ble_eq_true rfl⟩ [] rfl (Nat.le_of_ble_eq_true rfl) dX12_staysIn_120 rfl (fun H locs hM => ?_)
  refine r_lload (np := 125) G hl 0 rfl dX12_staysIn_123 rfl ?_
  refine r_aload_n (np := 126) G hl 1 rfl dX12_staysIn_125 rfl rfl ?_
  obtain ⟨r36, e37, hm⟩ := ref_t hm
  refine r_getR (np := 129) G hM (shp_lt g0 (by decide)) g0 e37 fdX12_30 lkX12_60 dX12_staysIn_126 rfl ?_
  refine r_iload_n (np := 130) G hl 2 rfl dX12_staysIn_129 rfl rfl ?_
  obtain ⟨g38, hm⟩ := g_t hm
  refine r_laload (np := 131) G hM g38 rfl dX12_staysIn_130 rfl ?_
  refine r_lmul (np := 132) G dX12_staysIn_131 rfl ?_
  obtain ⟨a39, e40, hm⟩ := bnd_t hm
  refine r_lstore (np := 134) G hl e40 [(9, vL a39), (0, .ref (eA E v0)), (1, vI v1), (4, vI v4), (5, vL v5), (7, vL v7), (11, vL v11)] dX12_staysIn_132 rfl (by decide) rfl (fun ls hl => ?_)
  refine r_lload (np := 136) G hl 0 rfl dX12_staysIn_134 rfl ?_
  refine r_lstore (np := 138) G hl rfl [(11, vL a39), (9, vL a39), (0, .ref (eA E v0)), (1, vI v1), (4, vI v4), (5, vL v5), (7, vL v7)] dX12_staysIn_136 rfl (by decide) rfl (fun ls hl => ?_)
  refine r_iconst (np := 139) G 0 dX12_staysIn_138 rfl ?_
  refine r_istore (np := 141) G hl rfl [(13, vI 0), (11, vL a39), (9, vL a39), (0, .ref (eA E v0)), (1, vI v1), (4, vI v4), (5, vL v5), (7, vL v7)] dX12_staysIn_139 rfl (by decide) rfl (fun ls hl => ?_)
  exact wX12_staysIn_L141 l E out G hr hk v0 v1 v2 v3 v4 v5 v7 a39 g0 (fun z11 zσ => mX12_staysIn_B167 v0 v1 v2 v3 v4 v5 v7 a39 z11 zσ) (fun z11 zσ zH zl zs zm zM zv => wX12_staysIn_B167 l E out G hr hk v0 v1 v2 v3 v4 v5 v7 g0 a39 z11 zσ zH zl zs zm zM zv) mF a39 0 _ _ _ _ hm hM (lv_sub hl [3, 2, 1, 0] rfl)
set_option maxRecDepth 100000 in
set_option maxHeartbeats 4000000 in
theorem wX12_staysIn_L71 (l : Launch) (E : mE) (out : Int × mSt) {p : Program} {e : Env} {s : State} {m : MethodId} {args : Array Value} {below : List Frame} {meth : Method} {c : Code} (G : CallFix p m c cX12_staysIn 14 s args mTs RX12) (hr : meth.sig.returnType = (some .boolean)) (hk : meth.locks = false) (v0 : Nat) (v1 : Int) (v2 : Int) (v3 : Int) (v4 : Int) (v5 : Int) (v7 : Int) (v9 : Int) (v11 : Int) (g0 : isC v0 11) (x100 : mSt → Option (Int × mSt)) (hx100 : ∀ (σ : mSt) (H : Heap) (locs : List Loc) (ls : Array Slot), x100 σ = some out → mM (mA E 276) E 276 σ s H locs → lv_has ls 14 [(0, .ref (eA E v0)), (1, vI v1), (4, vI v4), (5, vL v5), (7, vL v7), (9, vL v9), (11, vL v11)] → mGo l p e 3 84 s m args below meth c E (some (vI out.1)) out.2 H locs (F0 m 100 ls [])) : ∀ (n : Nat) (v13 : Int) (σ : mSt) (H : Heap) (locs : List Loc) (ls : Array Slot), mX12_staysIn_L71 v0 v1 v2 v3 v4 v5 v7 v9 v11 x100 n v13 σ = some out → mM (mA E 276) E 276 σ s H locs → lv_has ls 14 [(0, .ref (eA E v0)), (1, vI v1), (4, vI v4), (5, vL v5), (7, vL v7), (9, vL v9), (11, vL v11), (13, vI v13)] → mGo l p e 3 84 s m args below meth c E (some (vI out.1)) out.2 H locs (F0 m 71 ls []) := by
  intro n
  induction n with
  | zero =>
    intro v13 σ H locs ls hm hM hl
    exact absurd hm (by rw [mX12_staysIn_L71.eq_1]; exact fun h => nomatch h)
  | succ n ih =>
    intro v13 σ H locs ls hm hM hl
    rw [mX12_staysIn_L71.eq_2] at hm
    refine r_iload (np := 73) G hl 7 rfl dX12_staysIn_71 rfl ?_
    refine r_iconst (np := 74) G 4 dX12_staysIn_73 rfl ?_
    refine r_icmp_ge (np := 77) (tgt := 100) G rfl (wIk 4 rfl) dX12_staysIn_74 (by decide) rfl (fun h41 => ?_) (fun h41 => ?_)
    · have hm := b_t h41 hm
      exact hx100 _ _ _ _ hm hM (lv_sub hl [0, 1, 2, 3, 4, 5, 6] rfl)
    · have hm := b_f h41 hm
      refine r_aload_n (np := 78) G hl 0 rfl dX12_staysIn_77 rfl rfl ?_
      obtain ⟨r42, e43, hm⟩ := ref_t hm
      refine r_getR (np := 81) G hM (shp_lt g0 (by decide)) g0 e43 fdX12_25 lkX12_45 dX12_staysIn_78 rfl ?_
      refine r_iload (np := 83) G hl 7 rfl dX12_staysIn_81 rfl ?_
      refine r_aload_n (np := 84) G hl 0 rfl dX12_staysIn_83 rfl rfl ?_
      obtain ⟨r44, e45, hm⟩ := ref_t hm
      refine r_getR (np := 87) G hM (shp_lt g0 (by decide)) g0 e45 fdX12_27 lkX12_51 dX12_staysIn_84 rfl ?_
      refine r_iload (np := 89) G hl 7 rfl dX12_staysIn_87 rfl ?_
      obtain ⟨g46, hm⟩ := g_t hm
      refine r_laload (np := 90) G hM g46 rfl dX12_staysIn_89 rfl ?_
      refine r_lload (np := 92) G hl 6 rfl dX12_staysIn_90 rfl ?_
      obtain ⟨g47, hm⟩ := g_t hm
      refine r_ldiv (np := 93) G g47 dX12_staysIn_92 rfl ?_
      obtain ⟨g48, hm⟩ := g_t hm
      obtain ⟨s49, e50, hm⟩ := bnd_t hm
      refine r_lastore (np := 94) G hM g48 rfl s49 e50 dX12_staysIn_93 rfl (fun H locs hM => ?_)
      obtain ⟨a51, e52, hm⟩ := bnd_t hm
      refine r_iinc (np := 97) G hl 7 rfl e52 [(13, vI a51), (0, .ref (eA E v0)), (1, vI v1), (4, vI v4), (5, vL v5), (7, vL v7), (9, vL v9), (11, vL v11)] dX12_staysIn_94 rfl (by decide) rfl (fun ls hl => ?_)
      refine r_goto (np := 71) G dX12_staysIn_97 (by decide) ?_
      exact ih a51 _ _ _ _ hm hM (lv_sub hl [1, 2, 3, 4, 5, 6, 7, 0] rfl)
set_option maxRecDepth 100000 in
set_option maxHeartbeats 4000000 in
theorem wX12_staysIn_B68 (l : Launch) (E : mE) (out : Int × mSt) {p : Program} {e : Env} {s : State} {m : MethodId} {args : Array Value} {below : List Frame} {meth : Method} {c : Code} (G : CallFix p m c cX12_staysIn 14 s args mTs RX12) (hr : meth.sig.returnType = (some .boolean)) (hk : meth.locks = false) (v0 : Nat) (v1 : Int) (v2 : Int) (v3 : Int) (v4 : Int) (v5 : Int) (v7 : Int) (g0 : isC v0 11) : ∀ (v9 : Int) (v11 : Int) (σ : mSt) (H : Heap) (locs : List Loc) (ls : Array Slot), mX12_staysIn_B68 v0 v1 v2 v3 v4 v5 v7 v9 v11 σ = some out → mM (mA E 276) E 276 σ s H locs → lv_has ls 14 [(0, .ref (eA E v0)), (1, vI v1), (4, vI v4), (5, vL v5), (7, vL v7), (9, vL v9), (11, vL v11)] → mGo l p e 3 84 s m args below meth c E (some (vI out.1)) out.2 H locs (F0 m 68 ls []) := by
  intro v9 v11 σ H locs ls hm hM hl
  unfold mX12_staysIn_B68 at hm
  refine r_iconst (np := 69) G 0 dX12_staysIn_68 rfl ?_
  refine r_istore (np := 71) G hl rfl [(13, vI 0), (0, .ref (eA E v0)), (1, vI v1), (4, vI v4), (5, vL v5), (7, vL v7), (9, vL v9), (11, vL v11)] dX12_staysIn_69 rfl (by decide) rfl (fun ls hl => ?_)
  exact wX12_staysIn_L71 l E out G hr hk v0 v1 v2 v3 v4 v5 v7 v9 v11 g0 (fun zσ => mX12_staysIn_B100 v0 v1 v2 v3 v4 v5 v7 v9 v11 zσ) (fun zσ zH zl zs zm zM zv => wX12_staysIn_B100 l E out G hr hk v0 v1 v2 v3 v4 v5 v7 g0 v9 v11 zσ zH zl zs zm zM zv) mF 0 _ _ _ _ hm hM (lv_sub hl [1, 2, 3, 4, 5, 6, 7, 0] rfl)
set_option maxRecDepth 100000 in
set_option maxHeartbeats 4000000 in
theorem wX12_staysIn_L42 (l : Launch) (E : mE) (out : Int × mSt) {p : Program} {e : Env} {s : State} {m : MethodId} {args : Array Value} {below : List Frame} {meth : Method} {c : Code} (G : CallFix p m c cX12_staysIn 14 s args mTs RX12) (hr : meth.sig.returnType = (some .boolean)) (hk : meth.locks = false) (v0 : Nat) (v1 : Int) (v2 : Int) (v3 : Int) (v4 : Int) (v5 : Int) (v7 : Int) (v9 : Int) (g0 : isC v0 11) (x68 : Int → mSt → Option (Int × mSt)) (hx68 : ∀ (v11 : Int) (σ : mSt) (H : Heap) (locs : List Loc) (ls : Array Slot), x68 v11 σ = some out → mM (mA E 276) E 276 σ s H locs → lv_has ls 14 [(0, .ref (eA E v0)), (1, vI v1), (4, vI v4), (5, vL v5), (7, vL v7), (9, vL v9), (11, vL v11)] → mGo l p e 3 84 s m args below meth c E (some (vI out.1)) out.2 H locs (F0 m 68 ls [])) : ∀ (n : Nat) (v11 : Int) (v13 : Int) (σ : mSt) (H : Heap) (locs : List Loc) (ls : Array Slot), mX12_staysIn_L42 v0 v1 v2 v3 v4 v5 v7 v9 x68 n v11 v13 σ = some out → mM (mA E 276) E 276 σ s H locs → lv_has ls 14 [(0, .ref (eA E v0)), (1, vI v1), (4, vI v4), (5, vL v5), (7, vL v7), (9, vL v9), (11, vL v11), (13, vI v13)] → mGo l p e 3 84 s m args below meth c E (some (vI out.1)) out.2 H locs (F0 m 42 ls []) := by
  intro n
  induction n with
  | zero =>
    intro v11 v13 σ H locs ls hm hM hl
    exact absurd hm (by rw [mX12_staysIn_L42.eq_1]; exact fun h => nomatch h)
  | succ n ih =>
    intro v11 v13 σ H locs ls hm hM hl
    rw [mX12_staysIn_L42.eq_2] at hm
    refine r_iload (np := 44) G hl 7 rfl dX12_staysIn_42 rfl ?_
    refine r_iconst (np := 45) G 4 dX12_staysIn_44 rfl ?_
    refine r_icmp_ge (np := 48) (tgt := 68) G rfl (wIk 4 rfl) dX12_staysIn_45 (by decide) rfl (fun h53 => ?_) (fun h53 => ?_)
    · have hm := b_t h53 hm
      exact hx68 v11 _ _ _ _ hm hM (lv_sub hl [0, 1, 2, 3, 4, 5, 6] rfl)
    · have hm := b_f h53 hm
      refine r_lload (np := 50) G hl 6 rfl dX12_staysIn_48 rfl ?_
      refine r_aload_n (np := 51) G hl 0 rfl dX12_staysIn_50 rfl rfl ?_
      obtain ⟨r54, e55, hm⟩ := ref_t hm
      refine r_getR (np := 54) G hM (shp_lt g0 (by decide)) g0 e55 fdX12_27 lkX12_51 dX12_staysIn_51 rfl ?_
      refine r_iload (np := 56) G hl 7 rfl dX12_staysIn_54 rfl ?_
      obtain ⟨g56, hm⟩ := g_t hm
      refine r_laload (np := 57) G hM g56 rfl dX12_staysIn_56 rfl ?_
      obtain ⟨b57, s58, e59, hm⟩ := call_t hm
      refine m_callSL (np := 60) G hM hl.1 [vL v11, vL (σ r54 (wI v13).toNat)] (qX12_common l E σ v11 (σ r54 (wI v13).toNat) _ e59) myX12_common lkX12_280 ⟨Nat.le_of_ble_eq_true rfl, Nat.le_of_ble_eq_true rfl⟩ ⟨Nat.le_of_ble_eq_true rfl, Nat.le_of_ble_eq_true rfl⟩ [] rfl (Nat.le_of_ble_eq_true rfl) dX12_staysIn_57 rfl (fun H locs hM => ?_)
      refine r_lstore (np := 62) G hl rfl [(11, vL b57), (0, .ref (eA E v0)), (1, vI v1), (4, vI v4), (5, vL v5), (7, vL v7), (9, vL v9), (13, vI v13)] dX12_staysIn_60 rfl (by decide) rfl (fun ls hl => ?_)
      obtain ⟨a60, e61, hm⟩ := bnd_t hm
      refine r_iinc (np := 65) G hl 7 rfl e61 [(13, vI a60), (11, vL b57), (0, .ref (eA E v0)), (1, vI v1), (4, vI v4), (5, vL v5), (7, vL v7), (9, vL v9)] dX12_staysIn_62 rfl (by decide) rfl (fun ls hl => ?_)
      refine r_goto (np := 42) G dX12_staysIn_65 (by decide) ?_
      exact ih b57 a60 _ _ _ _ hm hM (lv_sub hl [2, 3, 4, 5, 6, 7, 1, 0] rfl)
set_option maxRecDepth 100000 in
set_option maxHeartbeats 4000000 in
theorem qX12_staysIn (l : Launch) (E : mE) (σ : mSt) (v0 : Nat) (v1 : Int) (v2 : Int) (v3 : Int) (v4 : Int) (v5 : Int) (v7 : Int) (out : Int × mSt) (hm : mX12_staysIn v0 v1 v2 v3 v4 v5 v7 σ = some out) : mMet l yX12_staysIn cX12_staysIn 14 (some .boolean) 3 84 E 276 [.ref (eA E v0), vI v1, vI v2, vI v3, vI v4, vL v5, vL v7] σ (some (vI out.1)) out.2 := by
  unfold mX12_staysIn at hm
  obtain ⟨g0, hm⟩ := g_t hm
  refine m_entry (by decide +kernel) (Nat.le_of_ble_eq_true rfl) (fun p e s m args below meth c G hr hk hM ls hl => ?_)
  have G : CallFix p m c cX12_staysIn 14 s args mTs RX12 := G
  have hl : lv_has ls 14 [(0, .ref (eA E v0)), (1, vI v1), (2, vI v2), (3, vI v3), (4, vI v4), (5, vL v5), (7, vL v7)] := hl
  refine r_aload_n (np := 1) G hl 0 rfl dX12_staysIn_0 rfl rfl ?_
  refine r_iload_n (np := 2) G hl 1 rfl dX12_staysIn_1 rfl rfl ?_
  refine r_iload_n (np := 3) G hl 2 rfl dX12_staysIn_2 rfl rfl ?_
  refine r_iconst (np := 4) G 0 dX12_staysIn_3 rfl ?_
  obtain ⟨b62, s63, e64, hm⟩ := call_t hm
  refine m_callVV (np := 7) G hM hl.1 [vI v1, vI v2, vI 0] (qX12_takesRow l E σ v0 v1 v2 0 _ e64) myX12_takesRow (shp_lt (gX12_takesRow e64) (by decide)) (gX12_takesRow e64) rfl (by decide) lkX12_377 ⟨Nat.le_of_ble_eq_true rfl, Nat.le_of_ble_eq_true rfl⟩ ⟨Nat.le_of_ble_eq_true rfl, Nat.le_of_ble_eq_true rfl⟩ [] rfl (Nat.le_of_ble_eq_true rfl) dX12_staysIn_4 rfl (fun H locs hM => ?_)
  refine r_aload_n (np := 8) G hl 0 rfl dX12_staysIn_7 rfl rfl ?_
  refine r_iload_n (np := 9) G hl 3 rfl dX12_staysIn_8 rfl rfl ?_
  obtain ⟨b65, s66, e67, hm⟩ := call_t hm
  refine m_callVV (np := 12) G hM hl.1 [vI v3] (qX12_takesOther l E s63 v0 v3 _ e67) myX12_takesOther (shp_lt (gX12_takesOther e67) (by decide)) (gX12_takesOther e67) rfl (by decide) lkX12_315 ⟨Nat.le_of_ble_eq_true rfl, Nat.le_of_ble_eq_true rfl⟩ ⟨Nat.le_of_ble_eq_true rfl, Nat.le_of_ble_eq_true rfl⟩ [] rfl (Nat.le_of_ble_eq_true rfl) dX12_staysIn_9 rfl (fun H locs hM => ?_)
  refine r_aload_n (np := 13) G hl 0 rfl dX12_staysIn_12 rfl rfl ?_
  refine r_lload (np := 15) G hl 5 rfl dX12_staysIn_13 rfl ?_
  refine r_lload (np := 17) G hl 6 rfl dX12_staysIn_15 rfl ?_
  obtain ⟨b68, s69, e70, hm⟩ := call_t hm
  refine m_callVV (np := 20) G hM hl.1 [vL v5, vL v7] (qX12_multiplies l E s66 v0 v5 v7 _ e70) myX12_multiplies (shp_lt (gX12_multiplies e70) (by decide)) (gX12_multiplies e70) rfl (by decide) lkX12_318 ⟨Nat.le_of_ble_eq_true rfl, Nat.le_of_ble_eq_true rfl⟩ ⟨Nat.le_of_ble_eq_true rfl, Nat.le_of_ble_eq_true rfl⟩ [] rfl (Nat.le_of_ble_eq_true rfl) dX12_staysIn_17 rfl (fun H locs hM => ?_)
  refine r_aload_n (np := 21) G hl 0 rfl dX12_staysIn_20 rfl rfl ?_
  obtain ⟨r71, e72, hm⟩ := ref_t hm
  refine r_getR (np := 24) G hM (shp_lt g0 (by decide)) g0 e72 fdX12_30 lkX12_60 dX12_staysIn_21 rfl ?_
  refine r_iload_n (np := 25) G hl 1 rfl dX12_staysIn_24 rfl rfl ?_
  obtain ⟨g73, hm⟩ := g_t hm
  refine r_laload (np := 26) G hM g73 rfl dX12_staysIn_25 rfl ?_
  refine r_aload_n (np := 27) G hl 0 rfl dX12_staysIn_26 rfl rfl ?_
  refine r_iload_n (np := 28) G hl 3 rfl dX12_staysIn_27 rfl rfl ?_
  refine r_iconst (np := 29) G 4 dX12_staysIn_28 rfl ?_
  obtain ⟨b74, s75, e76, hm⟩ := call_t hm
  refine m_callVL (np := 32) G hM hl.1 [vI v3, vI 4] (qX12_part l E s69 v0 v3 4 _ e76) myX12_part (shp_lt (gX12_part e76) (by decide)) (gX12_part e76) rfl (by decide) lkX12_294 ⟨Nat.le_of_ble_eq_true rfl, Nat.le_of_ble_eq_true rfl⟩ ⟨Nat.le_of_ble_eq_true rfl, Nat.le_of_ble_eq_true rfl⟩ [vL (s69 r71 (wI v1).toNat)] rfl (Nat.le_of_ble_eq_true rfl) dX12_staysIn_29 rfl (fun H locs hM => ?_)
  refine r_lmul (np := 33) G dX12_staysIn_32 rfl ?_
  obtain ⟨a77, e78, hm⟩ := bnd_t hm
  refine r_lstore (np := 35) G hl e78 [(9, vL a77), (0, .ref (eA E v0)), (1, vI v1), (2, vI v2), (3, vI v3), (4, vI v4), (5, vL v5), (7, vL v7)] dX12_staysIn_33 rfl (by decide) rfl (fun ls hl => ?_)
  refine r_lload (np := 37) G hl 0 rfl dX12_staysIn_35 rfl ?_
  refine r_lstore (np := 39) G hl rfl [(11, vL a77), (9, vL a77), (0, .ref (eA E v0)), (1, vI v1), (2, vI v2), (3, vI v3), (4, vI v4), (5, vL v5), (7, vL v7)] dX12_staysIn_37 rfl (by decide) rfl (fun ls hl => ?_)
  refine r_iconst (np := 40) G 0 dX12_staysIn_39 rfl ?_
  refine r_istore (np := 42) G hl rfl [(13, vI 0), (11, vL a77), (9, vL a77), (0, .ref (eA E v0)), (1, vI v1), (2, vI v2), (3, vI v3), (4, vI v4), (5, vL v5), (7, vL v7)] dX12_staysIn_40 rfl (by decide) rfl (fun ls hl => ?_)
  exact wX12_staysIn_L42 l E out G hr hk v0 v1 v2 v3 v4 v5 v7 a77 g0 (fun z11 zσ => mX12_staysIn_B68 v0 v1 v2 v3 v4 v5 v7 a77 z11 zσ) (fun z11 zσ zH zl zs zm zM zv => wX12_staysIn_B68 l E out G hr hk v0 v1 v2 v3 v4 v5 v7 g0 a77 z11 zσ zH zl zs zm zM zv) mF a77 0 _ _ _ _ hm hM (lv_sub hl [3, 4, 7, 8, 9, 2, 1, 0] rfl)
theorem gX12_staysIn {v0 : Nat} {v1 : Int} {v2 : Int} {v3 : Int} {v4 : Int} {v5 : Int} {v7 : Int} {σ : mSt} {out : Int × mSt} (hm : mX12_staysIn v0 v1 v2 v3 v4 v5 v7 σ = some out) : isC v0 11 := (g_t hm).1
set_option maxRecDepth 100000 in
set_option maxHeartbeats 4000000 in
theorem wX12_isTwoSided_B139 (l : Launch) (E : mE) (out : Int × mSt) {p : Program} {e : Env} {s : State} {m : MethodId} {args : Array Value} {below : List Frame} {meth : Method} {c : Code} (G : CallFix p m c cX12_isTwoSided 13 s args mTs RX12) (hr : meth.sig.returnType = (some .int)) (hk : meth.locks = false) (v0 : Nat) (v1 : Int) (v2 : Int) (g0 : isC v0 11) : ∀ (σ : mSt) (H : Heap) (locs : List Loc) (ls : Array Slot), mX12_isTwoSided_B139 v0 v1 v2 σ = some out → mM (mA E 276) E 276 σ s H locs → lv_has ls 13 [] → mGo l p e 6 166 s m args below meth c E (some (vI out.1)) out.2 H locs (F0 m 139 ls []) := by
  intro σ H locs ls hm hM hl
  unfold mX12_isTwoSided_B139 at hm
  refine r_iconst (np := 140) G 1 dX12_isTwoSided_139 rfl ?_
  exact r_iret G hr hk hM hm dX12_isTwoSided_140
set_option maxRecDepth 100000 in
set_option maxHeartbeats 4000000 in
theorem wX12_isTwoSided_B133 (l : Launch) (E : mE) (out : Int × mSt) {p : Program} {e : Env} {s : State} {m : MethodId} {args : Array Value} {below : List Frame} {meth : Method} {c : Code} (G : CallFix p m c cX12_isTwoSided 13 s args mTs RX12) (hr : meth.sig.returnType = (some .int)) (hk : meth.locks = false) (v0 : Nat) (v1 : Int) (v2 : Int) (v4 : Int) (v5 : Int) (v7 : Int) (g0 : isC v0 11) (c55 : Int → mSt → Option (Int × mSt)) (x139 : mSt → Option (Int × mSt)) (hc55 : ∀ (v9 : Int) (σ : mSt) (H : Heap) (locs : List Loc) (ls : Array Slot), c55 v9 σ = some out → mM (mA E 276) E 276 σ s H locs → lv_has ls 13 [(0, .ref (eA E v0)), (1, vI v1), (2, vI v2), (4, vI v4), (5, vL v5), (7, vL v7), (9, vI v9)] → mGo l p e 6 166 s m args below meth c E (some (vI out.1)) out.2 H locs (F0 m 55 ls [])) (hx139 : ∀ (σ : mSt) (H : Heap) (locs : List Loc) (ls : Array Slot), x139 σ = some out → mM (mA E 276) E 276 σ s H locs → lv_has ls 13 [] → mGo l p e 6 166 s m args below meth c E (some (vI out.1)) out.2 H locs (F0 m 139 ls [])) : ∀ (v9 : Int) (σ : mSt) (H : Heap) (locs : List Loc) (ls : Array Slot), mX12_isTwoSided_B133 v0 v1 v2 v4 v5 v7 c55 x139 v9 σ = some out → mM (mA E 276) E 276 σ s H locs → lv_has ls 13 [(0, .ref (eA E v0)), (1, vI v1), (2, vI v2), (4, vI v4), (5, vL v5), (7, vL v7), (9, vI v9)] → mGo l p e 6 166 s m args below meth c E (some (vI out.1)) out.2 H locs (F0 m 133 ls []) := by
  intro v9 σ H locs ls hm hM hl
  unfold mX12_isTwoSided_B133 at hm
  obtain ⟨a1, e2, hm⟩ := bnd_t hm
  refine r_iinc (np := 136) G hl 6 rfl e2 [(9, vI a1), (0, .ref (eA E v0)), (1, vI v1), (2, vI v2), (4, vI v4), (5, vL v5), (7, vL v7)] dX12_isTwoSided_133 rfl (by decide) rfl (fun ls hl => ?_)
  refine r_goto (np := 55) G dX12_isTwoSided_136 (by decide) ?_
  exact hc55 a1 _ _ _ _ hm hM (lv_sub hl [1, 2, 3, 4, 5, 6, 0] rfl)
set_option maxRecDepth 100000 in
set_option maxHeartbeats 4000000 in
theorem wX12_isTwoSided_B127 (l : Launch) (E : mE) (out : Int × mSt) {p : Program} {e : Env} {s : State} {m : MethodId} {args : Array Value} {below : List Frame} {meth : Method} {c : Code} (G : CallFix p m c cX12_isTwoSided 13 s args mTs RX12) (hr : meth.sig.returnType = (some .int)) (hk : meth.locks = false) (v0 : Nat) (v1 : Int) (v2 : Int) (v4 : Int) (v5 : Int) (v7 : Int) (v9 : Int) (g0 : isC v0 11) (c64 : Int → mSt → Option (Int × mSt)) (x133 : mSt → Option (Int × mSt)) (hc64 : ∀ (v10 : Int) (σ : mSt) (H : Heap) (locs : List Loc) (ls : Array Slot), c64 v10 σ = some out → mM (mA E 276) E 276 σ s H locs → lv_has ls 13 [(0, .ref (eA E v0)), (1, vI v1), (2, vI v2), (4, vI v4), (5, vL v5), (7, vL v7), (9, vI v9), (10, vI v10)] → mGo l p e 6 166 s m args below meth c E (some (vI out.1)) out.2 H locs (F0 m 64 ls [])) (hx133 : ∀ (σ : mSt) (H : Heap) (locs : List Loc) (ls : Array Slot), x133 σ = some out → mM (mA E 276) E 276 σ s H locs → lv_has ls 13 [(0, .ref (eA E v0)), (1, vI v1), (2, vI v2), (4, vI v4), (5, vL v5), (7, vL v7), (9, vI v9)] → mGo l p e 6 166 s m args below meth c E (some (vI out.1)) out.2 H locs (F0 m 133 ls [])) : ∀ (v10 : Int) (σ : mSt) (H : Heap) (locs : List Loc) (ls : Array Slot), mX12_isTwoSided_B127 v0 v1 v2 v4 v5 v7 v9 c64 x133 v10 σ = some out → mM (mA E 276) E 276 σ s H locs → lv_has ls 13 [(0, .ref (eA E v0)), (1, vI v1), (2, vI v2), (4, vI v4), (5, vL v5), (7, vL v7), (9, vI v9), (10, vI v10)] → mGo l p e 6 166 s m args below meth c E (some (vI out.1)) out.2 H locs (F0 m 127 ls []) := by
  intro v10 σ H locs ls hm hM hl
  unfold mX12_isTwoSided_B127 at hm
  obtain ⟨a3, e4, hm⟩ := bnd_t hm
  refine r_iinc (np := 130) G hl 7 rfl e4 [(10, vI a3), (0, .ref (eA E v0)), (1, vI v1), (2, vI v2), (4, vI v4), (5, vL v5), (7, vL v7), (9, vI v9)] dX12_isTwoSided_127 rfl (by decide) rfl (fun ls hl => ?_)
  refine r_goto (np := 64) G dX12_isTwoSided_130 (by decide) ?_
  exact hc64 a3 _ _ _ _ hm hM (lv_sub hl [1, 2, 3, 4, 5, 6, 7, 0] rfl)
set_option maxRecDepth 100000 in
set_option maxHeartbeats 4000000 in
theorem wX12_isTwoSided_L94 (l : Launch) (E : mE) (out : Int × mSt) {p : Program} {e : Env} {s : State} {m : MethodId} {args : Array Value} {below : List Frame} {meth : Method} {c : Code} (G : CallFix p m c cX12_isTwoSided 13 s args mTs RX12) (hr : meth.sig.returnType = (some .int)) (hk : meth.locks = false) (v0 : Nat) (v1 : Int) (v2 : Int) (v4 : Int) (v5 : Int) (v7 : Int) (v9 : Int) (v10 : Int) (v11 : Int) (g0 : isC v0 11) (x127 : mSt → Option (Int × mSt)) (hx127 : ∀ (σ : mSt) (H : Heap) (locs : List Loc) (ls : Array Slot), x127 σ = some out → mM (mA E 276) E 276 σ s H locs → lv_has ls 13 [(0, .ref (eA E v0)), (1, vI v1), (2, vI v2), (4, vI v4), (5, vL v5), (7, vL v7), (9, vI v9), (10, vI v10)] → mGo l p e 6 166 s m args below meth c E (some (vI out.1)) out.2 H locs (F0 m 127 ls [])) : ∀ (n : Nat) (v12 : Int) (σ : mSt) (H : Heap) (locs : List Loc) (ls : Array Slot), mX12_isTwoSided_L94 v0 v1 v2 v4 v5 v7 v9 v10 v11 x127 n v12 σ = some out → mM (mA E 276) E 276 σ s H locs → lv_has ls 13 [(0, .ref (eA E v0)), (1, vI v1), (2, vI v2), (4, vI v4), (5, vL v5), (7, vL v7), (9, vI v9), (10, vI v10), (11, vI v11), (12, vI v12)] → mGo l p e 6 166 s m args below meth c E (some (vI out.1)) out.2 H locs (F0 m 94 ls []) := by
  intro n
  induction n with
  | zero =>
    intro v12 σ H locs ls hm hM hl
    exact absurd hm (by rw [mX12_isTwoSided_L94.eq_1]; exact fun h => nomatch h)
  | succ n ih =>
    intro v12 σ H locs ls hm hM hl
    rw [mX12_isTwoSided_L94.eq_2] at hm
    refine r_iload (np := 96) G hl 9 rfl dX12_isTwoSided_94 rfl ?_
    refine r_iconst (np := 97) G 4 dX12_isTwoSided_96 rfl ?_
    refine r_icmp_ge (np := 100) (tgt := 127) G rfl (wIk 4 rfl) dX12_isTwoSided_97 (by decide) rfl (fun h5 => ?_) (fun h5 => ?_)
    · have hm := b_t h5 hm
      exact hx127 _ _ _ _ hm hM (lv_sub hl [0, 1, 2, 3, 4, 5, 6, 7] rfl)
    · have hm := b_f h5 hm
      refine r_aload_n (np := 101) G hl 0 rfl dX12_isTwoSided_100 rfl rfl ?_
      refine r_iload (np := 103) G hl 3 rfl dX12_isTwoSided_101 rfl ?_
      refine r_iload (np := 105) G hl 9 rfl dX12_isTwoSided_103 rfl ?_
      refine r_iload (np := 107) G hl 8 rfl dX12_isTwoSided_105 rfl ?_
      refine r_iload (np := 109) G hl 6 rfl dX12_isTwoSided_107 rfl ?_
      refine r_lload (np := 111) G hl 4 rfl dX12_isTwoSided_109 rfl ?_
      refine r_lload (np := 113) G hl 5 rfl dX12_isTwoSided_111 rfl ?_
      obtain ⟨b6, s7, e8, hm⟩ := call_t hm
      refine m_callVI (np := 116) G hM hl.1 [vI v4, vI v12, vI v11, vI v9, vL v5, vL v7] (qX12_staysIn l E σ v0 v4 v12 v11 v9 v5 v7 _ e8) myX12_staysIn (shp_lt (gX12_staysIn e8) (by decide)) (gX12_staysIn e8) rfl (by decide) lkX12_449 ⟨Nat.le_of_ble_eq_true rfl, Nat.le_of_ble_eq_true rfl⟩ ⟨Nat.le_of_ble_eq_true rfl, Nat.le_of_ble_eq_true rfl⟩ [] rfl (Nat.le_of_ble_eq_true rfl) dX12_isTwoSided_113 rfl (fun H locs hM => ?_)
      refine r_if_ne (np := 119) (tgt := 121) G rfl dX12_isTwoSided_116 (by decide) rfl (fun h9 => ?_) (fun h9 => ?_)
      · have hm := b_f h9 hm
        obtain ⟨a10, e11, hm⟩ := bnd_t hm
        refine r_iinc (np := 124) G hl 9 rfl e11 [(12, vI a10), (0, .ref (eA E v0)), (1, vI v1), (2, vI v2), (4, vI v4), (5, vL v5), (7, vL v7), (9, vI v9), (10, vI v10), (11, vI v11)] dX12_isTwoSided_121 rfl (by decide) rfl (fun ls hl => ?_)
        refine r_goto (np := 94) G dX12_isTwoSided_124 (by decide) ?_
        exact ih a10 _ _ _ _ hm hM (lv_sub hl [1, 2, 3, 4, 5, 6, 7, 8, 9, 0] rfl)
      · have hm := b_t h9 hm
        refine r_iconst (np := 120) G 0 dX12_isTwoSided_119 rfl ?_
        exact r_iret G hr hk hM hm dX12_isTwoSided_120
set_option maxRecDepth 100000 in
set_option maxHeartbeats 4000000 in
theorem wX12_isTwoSided_B80 (l : Launch) (E : mE) (out : Int × mSt) {p : Program} {e : Env} {s : State} {m : MethodId} {args : Array Value} {below : List Frame} {meth : Method} {c : Code} (G : CallFix p m c cX12_isTwoSided 13 s args mTs RX12) (hr : meth.sig.returnType = (some .int)) (hk : meth.locks = false) (v0 : Nat) (v1 : Int) (v2 : Int) (v4 : Int) (v5 : Int) (v7 : Int) (v9 : Int) (g0 : isC v0 11) (c64 : Int → mSt → Option (Int × mSt)) (x133 : mSt → Option (Int × mSt)) (hc64 : ∀ (v10 : Int) (σ : mSt) (H : Heap) (locs : List Loc) (ls : Array Slot), c64 v10 σ = some out → mM (mA E 276) E 276 σ s H locs → lv_has ls 13 [(0, .ref (eA E v0)), (1, vI v1), (2, vI v2), (4, vI v4), (5, vL v5), (7, vL v7), (9, vI v9), (10, vI v10)] → mGo l p e 6 166 s m args below meth c E (some (vI out.1)) out.2 H locs (F0 m 64 ls [])) (hx133 : ∀ (σ : mSt) (H : Heap) (locs : List Loc) (ls : Array Slot), x133 σ = some out → mM (mA E 276) E 276 σ s H locs → lv_has ls 13 [(0, .ref (eA E v0)), (1, vI v1), (2, vI v2), (4, vI v4), (5, vL v5), (7, vL v7), (9, vI v9)] → mGo l p e 6 166 s m args below meth c E (some (vI out.1)) out.2 H locs (F0 m 133 ls [])) : ∀ (v10 : Int) (t0 : Int) (σ : mSt) (H : Heap) (locs : List Loc) (ls : Array Slot), mX12_isTwoSided_B80 v0 v1 v2 v4 v5 v7 v9 c64 x133 v10 t0 σ = some out → mM (mA E 276) E 276 σ s H locs → lv_has ls 13 [(0, .ref (eA E v0)), (1, vI v1), (2, vI v2), (4, vI v4), (5, vL v5), (7, vL v7), (9, vI v9), (10, vI v10)] → mGo l p e 6 166 s m args below meth c E (some (vI out.1)) out.2 H locs (F0 m 80 ls [vI t0]) := by
  intro v10 t0 σ H locs ls hm hM hl
  unfold mX12_isTwoSided_B80 at hm
  refine r_istore (np := 82) G hl rfl [(11, vI t0), (0, .ref (eA E v0)), (1, vI v1), (2, vI v2), (4, vI v4), (5, vL v5), (7, vL v7), (9, vI v9), (10, vI v10)] dX12_isTwoSided_80 rfl (by decide) rfl (fun ls hl => ?_)
  refine r_iload (np := 84) G hl 0 rfl dX12_isTwoSided_82 rfl ?_
  refine r_iconst (np := 85) G (-1) dX12_isTwoSided_84 rfl ?_
  refine r_icmp_ne (np := 88) (tgt := 91) G rfl (wIk (-1) rfl) dX12_isTwoSided_85 (by decide) rfl (fun h12 => ?_) (fun h12 => ?_)
  · have hm := b_f h12 hm
    refine r_iconst (np := 92) G 0 dX12_isTwoSided_91 rfl ?_
    refine r_istore (np := 94) G hl rfl [(12, vI 0), (11, vI t0), (0, .ref (eA E v0)), (1, vI v1), (2, vI v2), (4, vI v4), (5, vL v5), (7, vL v7), (9, vI v9), (10, vI v10)] dX12_isTwoSided_92 rfl (by decide) rfl (fun ls hl => ?_)
    exact wX12_isTwoSided_L94 l E out G hr hk v0 v1 v2 v4 v5 v7 v9 v10 t0 g0 (fun zσ => mX12_isTwoSided_B127 v0 v1 v2 v4 v5 v7 v9 c64 x133 v10 zσ) (fun zσ zH zl zs zm zM zv => wX12_isTwoSided_B127 l E out G hr hk v0 v1 v2 v4 v5 v7 v9 g0 c64 x133 hc64 hx133 v10 zσ zH zl zs zm zM zv) mF 0 _ _ _ _ hm hM (lv_sub hl [2, 3, 4, 5, 6, 7, 8, 9, 1, 0] rfl)
  · have hm := b_t h12 hm
    refine r_goto (np := 127) G dX12_isTwoSided_88 (by decide) ?_
    exact wX12_isTwoSided_B127 l E out G hr hk v0 v1 v2 v4 v5 v7 v9 g0 c64 x133 hc64 hx133 v10 _ _ _ _ hm hM (lv_sub hl [1, 2, 3, 4, 5, 6, 7, 8] rfl)
set_option maxRecDepth 100000 in
set_option maxHeartbeats 4000000 in
theorem wX12_isTwoSided_L64 (l : Launch) (E : mE) (out : Int × mSt) {p : Program} {e : Env} {s : State} {m : MethodId} {args : Array Value} {below : List Frame} {meth : Method} {c : Code} (G : CallFix p m c cX12_isTwoSided 13 s args mTs RX12) (hr : meth.sig.returnType = (some .int)) (hk : meth.locks = false) (v0 : Nat) (v1 : Int) (v2 : Int) (v4 : Int) (v5 : Int) (v7 : Int) (v9 : Int) (g0 : isC v0 11) (x133 : mSt → Option (Int × mSt)) (hx133 : ∀ (σ : mSt) (H : Heap) (locs : List Loc) (ls : Array Slot), x133 σ = some out → mM (mA E 276) E 276 σ s H locs → lv_has ls 13 [(0, .ref (eA E v0)), (1, vI v1), (2, vI v2), (4, vI v4), (5, vL v5), (7, vL v7), (9, vI v9)] → mGo l p e 6 166 s m args below meth c E (some (vI out.1)) out.2 H locs (F0 m 133 ls [])) : ∀ (n : Nat) (v10 : Int) (σ : mSt) (H : Heap) (locs : List Loc) (ls : Array Slot), mX12_isTwoSided_L64 v0 v1 v2 v4 v5 v7 v9 x133 n v10 σ = some out → mM (mA E 276) E 276 σ s H locs → lv_has ls 13 [(0, .ref (eA E v0)), (1, vI v1), (2, vI v2), (4, vI v4), (5, vL v5), (7, vL v7), (9, vI v9), (10, vI v10)] → mGo l p e 6 166 s m args below meth c E (some (vI out.1)) out.2 H locs (F0 m 64 ls []) := by
  intro n
  induction n with
  | zero =>
    intro v10 σ H locs ls hm hM hl
    exact absurd hm (by rw [mX12_isTwoSided_L64.eq_1]; exact fun h => nomatch h)
  | succ n ih =>
    intro v10 σ H locs ls hm hM hl
    rw [mX12_isTwoSided_L64.eq_2] at hm
    refine r_iload (np := 66) G hl 7 rfl dX12_isTwoSided_64 rfl ?_
    refine r_iconst (np := 67) G 2 dX12_isTwoSided_66 rfl ?_
    refine r_icmp_ge (np := 70) (tgt := 133) G rfl (wIk 2 rfl) dX12_isTwoSided_67 (by decide) rfl (fun h13 => ?_) (fun h13 => ?_)
    · have hm := b_t h13 hm
      exact hx133 _ _ _ _ hm hM (lv_sub hl [0, 1, 2, 3, 4, 5, 6] rfl)
    · have hm := b_f h13 hm
      refine r_iload (np := 72) G hl 7 rfl dX12_isTwoSided_70 rfl ?_
      refine r_if_ne (np := 75) (tgt := 79) G rfl dX12_isTwoSided_72 (by decide) rfl (fun h14 => ?_) (fun h14 => ?_)
      · have hm := b_f h14 hm
        refine r_iload_n (np := 80) G hl 2 rfl dX12_isTwoSided_79 rfl rfl ?_
        exact wX12_isTwoSided_B80 l E out G hr hk v0 v1 v2 v4 v5 v7 v9 g0 (mX12_isTwoSided_L64 v0 v1 v2 v4 v5 v7 v9 x133 n) x133 ih hx133 v10 v2 _ _ _ _ hm hM (lv_sub hl [0, 1, 2, 3, 4, 5, 6, 7] rfl)
      · have hm := b_t h14 hm
        refine r_iload_n (np := 76) G hl 1 rfl dX12_isTwoSided_75 rfl rfl ?_
        refine r_goto (np := 80) G dX12_isTwoSided_76 (by decide) ?_
        exact wX12_isTwoSided_B80 l E out G hr hk v0 v1 v2 v4 v5 v7 v9 g0 (mX12_isTwoSided_L64 v0 v1 v2 v4 v5 v7 v9 x133 n) x133 ih hx133 v10 v1 _ _ _ _ hm hM (lv_sub hl [0, 1, 2, 3, 4, 5, 6, 7] rfl)
set_option maxRecDepth 100000 in
set_option maxHeartbeats 4000000 in
theorem wX12_isTwoSided_L55 (l : Launch) (E : mE) (out : Int × mSt) {p : Program} {e : Env} {s : State} {m : MethodId} {args : Array Value} {below : List Frame} {meth : Method} {c : Code} (G : CallFix p m c cX12_isTwoSided 13 s args mTs RX12) (hr : meth.sig.returnType = (some .int)) (hk : meth.locks = false) (v0 : Nat) (v1 : Int) (v2 : Int) (v4 : Int) (v5 : Int) (v7 : Int) (g0 : isC v0 11) (x139 : mSt → Option (Int × mSt)) (hx139 : ∀ (σ : mSt) (H : Heap) (locs : List Loc) (ls : Array Slot), x139 σ = some out → mM (mA E 276) E 276 σ s H locs → lv_has ls 13 [] → mGo l p e 6 166 s m args below meth c E (some (vI out.1)) out.2 H locs (F0 m 139 ls [])) : ∀ (n : Nat) (v9 : Int) (σ : mSt) (H : Heap) (locs : List Loc) (ls : Array Slot), mX12_isTwoSided_L55 v0 v1 v2 v4 v5 v7 x139 n v9 σ = some out → mM (mA E 276) E 276 σ s H locs → lv_has ls 13 [(0, .ref (eA E v0)), (1, vI v1), (2, vI v2), (4, vI v4), (5, vL v5), (7, vL v7), (9, vI v9)] → mGo l p e 6 166 s m args below meth c E (some (vI out.1)) out.2 H locs (F0 m 55 ls []) := by
  intro n
  induction n with
  | zero =>
    intro v9 σ H locs ls hm hM hl
    exact absurd hm (by rw [mX12_isTwoSided_L55.eq_1]; exact fun h => nomatch h)
  | succ n ih =>
    intro v9 σ H locs ls hm hM hl
    rw [mX12_isTwoSided_L55.eq_2] at hm
    refine r_iload (np := 57) G hl 6 rfl dX12_isTwoSided_55 rfl ?_
    refine r_iconst (np := 58) G 4 dX12_isTwoSided_57 rfl ?_
    refine r_icmp_ge (np := 61) (tgt := 139) G rfl (wIk 4 rfl) dX12_isTwoSided_58 (by decide) rfl (fun h15 => ?_) (fun h15 => ?_)
    · have hm := b_t h15 hm
      exact hx139 _ _ _ _ hm hM (lv_sub hl [] rfl)
    · have hm := b_f h15 hm
      refine r_iconst (np := 62) G 0 dX12_isTwoSided_61 rfl ?_
      refine r_istore (np := 64) G hl rfl [(10, vI 0), (0, .ref (eA E v0)), (1, vI v1), (2, vI v2), (4, vI v4), (5, vL v5), (7, vL v7), (9, vI v9)] dX12_isTwoSided_62 rfl (by decide) rfl (fun ls hl => ?_)
      exact wX12_isTwoSided_L64 l E out G hr hk v0 v1 v2 v4 v5 v7 v9 g0 (fun zσ => mX12_isTwoSided_B133 v0 v1 v2 v4 v5 v7 (mX12_isTwoSided_L55 v0 v1 v2 v4 v5 v7 x139 n) x139 v9 zσ) (fun zσ zH zl zs zm zM zv => wX12_isTwoSided_B133 l E out G hr hk v0 v1 v2 v4 v5 v7 g0 (mX12_isTwoSided_L55 v0 v1 v2 v4 v5 v7 x139 n) x139 ih hx139 v9 zσ zH zl zs zm zM zv) mF 0 _ _ _ _ hm hM (lv_sub hl [1, 2, 3, 4, 5, 6, 7, 0] rfl)
set_option maxRecDepth 100000 in
set_option maxHeartbeats 4000000 in
theorem qX12_isTwoSided (l : Launch) (E : mE) (σ : mSt) (v0 : Nat) (v1 : Int) (v2 : Int) (out : Int × mSt) (hm : mX12_isTwoSided v0 v1 v2 σ = some out) : mMet l yX12_isTwoSided cX12_isTwoSided 13 (some .int) 6 166 E 276 [.ref (eA E v0), vI v1, vI v2] σ (some (vI out.1)) out.2 := by
  unfold mX12_isTwoSided at hm
  obtain ⟨g0, hm⟩ := g_t hm
  refine m_entry (by decide +kernel) (Nat.le_of_ble_eq_true rfl) (fun p e s m args below meth c G hr hk hM ls hl => ?_)
  have G : CallFix p m c cX12_isTwoSided 13 s args mTs RX12 := G
  have hl : lv_has ls 13 [(0, .ref (eA E v0)), (1, vI v1), (2, vI v2)] := hl
  refine r_aload_n (np := 1) G hl 0 rfl dX12_isTwoSided_0 rfl rfl ?_
  refine r_iconst (np := 2) G 0 dX12_isTwoSided_1 rfl ?_
  obtain ⟨s16, e17, hm⟩ := bnd_t hm
  refine r_putI (np := 5) G hM (shp_lt g0 (by decide)) g0 ptX12_0 rfl lkX12_75 s16 e17 dX12_isTwoSided_2 rfl (fun H locs hM => ?_)
  refine r_aload_n (np := 6) G hl 0 rfl dX12_isTwoSided_5 rfl rfl ?_
  refine r_iload_n (np := 7) G hl 1 rfl dX12_isTwoSided_6 rfl rfl ?_
  refine r_iload_n (np := 8) G hl 2 rfl dX12_isTwoSided_7 rfl rfl ?_
  obtain ⟨b18, s19, e20, hm⟩ := call_t hm
  refine m_callVI (np := 11) G hM hl.1 [vI v1, vI v2] (qX12_refusal l E s16 v0 v1 v2 _ e20) myX12_refusal (shp_lt (gX12_refusal e20) (by decide)) (gX12_refusal e20) rfl (by decide) lkX12_440 ⟨Nat.le_of_ble_eq_true rfl, Nat.le_of_ble_eq_true rfl⟩ ⟨Nat.le_of_ble_eq_true rfl, Nat.le_of_ble_eq_true rfl⟩ [] rfl (Nat.le_of_ble_eq_true rfl) dX12_isTwoSided_8 rfl (fun H locs hM => ?_)
  refine r_istore_n (np := 12) G hl rfl [(3, vI b18), (0, .ref (eA E v0)), (1, vI v1), (2, vI v2)] dX12_isTwoSided_11 rfl rfl (by decide) rfl (fun ls hl => ?_)
  refine r_iload_n (np := 13) G hl 0 rfl dX12_isTwoSided_12 rfl rfl ?_
  refine r_if_ge (np := 16) (tgt := 18) G rfl dX12_isTwoSided_13 (by decide) rfl (fun h21 => ?_) (fun h21 => ?_)
  · have hm := b_t h21 hm
    refine r_aload_n (np := 19) G hl 1 rfl dX12_isTwoSided_18 rfl rfl ?_
    refine r_iload_n (np := 20) G hl 2 rfl dX12_isTwoSided_19 rfl rfl ?_
    refine r_iload_n (np := 21) G hl 3 rfl dX12_isTwoSided_20 rfl rfl ?_
    obtain ⟨b22, s23, e24, hm⟩ := call_t hm
    refine m_callVV (np := 24) G hM hl.1 [vI v1, vI v2] (qX12_laysIdeal l E s19 v0 v1 v2 _ e24) myX12_laysIdeal (shp_lt (gX12_laysIdeal e24) (by decide)) (gX12_laysIdeal e24) rfl (by decide) lkX12_443 ⟨Nat.le_of_ble_eq_true rfl, Nat.le_of_ble_eq_true rfl⟩ ⟨Nat.le_of_ble_eq_true rfl, Nat.le_of_ble_eq_true rfl⟩ [] rfl (Nat.le_of_ble_eq_true rfl) dX12_isTwoSided_21 rfl (fun H locs hM => ?_)
    refine r_aload_n (np := 25) G hl 1 rfl dX12_isTwoSided_24 rfl rfl ?_
    obtain ⟨r25, e26, hm⟩ := ref_t hm
    refine r_getR (np := 28) G hM (shp_lt g0 (by decide)) g0 e26 fdX12_22 lkX12_36 dX12_isTwoSided_25 rfl ?_
    refine r_iload_n (np := 29) G hl 2 rfl dX12_isTwoSided_28 rfl rfl ?_
    obtain ⟨g27, hm⟩ := g_t hm
    refine r_iaload (np := 30) G hM g27 rfl dX12_isTwoSided_29 rfl ?_
    obtain ⟨a28, e29, hm⟩ := bnd_t hm
    refine r_istore (np := 32) G hl e29 [(4, vI a28), (3, vI b18), (0, .ref (eA E v0)), (1, vI v1), (2, vI v2)] dX12_isTwoSided_30 rfl (by decide) rfl (fun ls hl => ?_)
    refine r_aload_n (np := 33) G hl 2 rfl dX12_isTwoSided_32 rfl rfl ?_
    obtain ⟨r30, e31, hm⟩ := ref_t hm
    refine r_getR (np := 36) G hM (shp_lt g0 (by decide)) g0 e31 fdX12_15 lkX12_24 dX12_isTwoSided_33 rfl ?_
    refine r_iload (np := 38) G hl 0 rfl dX12_isTwoSided_36 rfl ?_
    obtain ⟨g32, hm⟩ := g_t hm
    refine r_iaload (np := 39) G hM g32 rfl dX12_isTwoSided_38 rfl ?_
    refine r_i2l (np := 40) G rfl dX12_isTwoSided_39 rfl ?_
    obtain ⟨a33, e34, hm⟩ := bnd_t hm
    refine r_lstore (np := 42) G hl e34 [(5, vL a33), (4, vI a28), (3, vI b18), (0, .ref (eA E v0)), (1, vI v1), (2, vI v2)] dX12_isTwoSided_40 rfl (by decide) rfl (fun ls hl => ?_)
    refine r_aload_n (np := 43) G hl 3 rfl dX12_isTwoSided_42 rfl rfl ?_
    obtain ⟨r35, e36, hm⟩ := ref_t hm
    refine r_getR (np := 46) G hM (shp_lt g0 (by decide)) g0 e36 fdX12_16 lkX12_27 dX12_isTwoSided_43 rfl ?_
    refine r_iload (np := 48) G hl 1 rfl dX12_isTwoSided_46 rfl ?_
    obtain ⟨g37, hm⟩ := g_t hm
    refine r_iaload (np := 49) G hM g37 rfl dX12_isTwoSided_48 rfl ?_
    refine r_i2l (np := 50) G rfl dX12_isTwoSided_49 rfl ?_
    obtain ⟨a38, e39, hm⟩ := bnd_t hm
    refine r_lstore (np := 52) G hl e39 [(7, vL a38), (5, vL a33), (4, vI a28), (3, vI b18), (0, .ref (eA E v0)), (1, vI v1), (2, vI v2)] dX12_isTwoSided_50 rfl (by decide) rfl (fun ls hl => ?_)
    refine r_iconst (np := 53) G 0 dX12_isTwoSided_52 rfl ?_
    refine r_istore (np := 55) G hl rfl [(9, vI 0), (7, vL a38), (5, vL a33), (4, vI a28), (3, vI b18), (0, .ref (eA E v0)), (1, vI v1), (2, vI v2)] dX12_isTwoSided_53 rfl (by decide) rfl (fun ls hl => ?_)
    exact wX12_isTwoSided_L55 l E out G hr hk v0 v1 v2 a28 a33 a38 g0 (fun zσ => mX12_isTwoSided_B139 v0 v1 v2 zσ) (fun zσ zH zl zs zm zM zv => wX12_isTwoSided_B139 l E out G hr hk v0 v1 v2 g0 zσ zH zl zs zm zM zv) mF 0 _ _ _ _ hm hM (lv_sub hl [5, 6, 7, 3, 2, 1, 0] rfl)
  · have hm := b_f h21 hm
    refine r_iload_n (np := 17) G hl 0 rfl dX12_isTwoSided_16 rfl rfl ?_
    exact r_iret G hr hk hM hm dX12_isTwoSided_17
theorem gX12_isTwoSided {v0 : Nat} {v1 : Int} {v2 : Int} {σ : mSt} {out : Int × mSt} (hm : mX12_isTwoSided v0 v1 v2 σ = some out) : isC v0 11 := (g_t hm).1
set_option maxRecDepth 100000 in
set_option maxHeartbeats 4000000 in
theorem wX12_counts_B236 (l : Launch) (E : mE) (out : Int × mSt) {p : Program} {e : Env} {s : State} {m : MethodId} {args : Array Value} {below : List Frame} {meth : Method} {c : Code} (G : CallFix p m c cX12_counts 19 s args mTs RX12) (hr : meth.sig.returnType = none) (hk : meth.locks = false) (d : Nat) (rec : Nat → Int → Int → Int → mSt → Option (Int × mSt)) (hrec : ∀ (σ : mSt) (v0 : Nat) (v1 : Int) (v2 : Int) (v3 : Int) (out : Int × mSt), rec v0 v1 v2 v3 σ = some out → mMet l yX12_counts cX12_counts 19 none (1 + d) (25 + d * 38) E 276 [.ref (eA E v0), vI v1, vI v2, vL v3] σ none out.2) (v0 : Nat) (v1 : Int) (v2 : Int) (v3 : Int) (g0 : isC v0 11) : ∀ (σ : mSt) (H : Heap) (locs : List Loc) (ls : Array Slot), mX12_counts_B236 rec v0 v1 v2 v3 σ = some out → mM (mA E 276) E 276 σ s H locs → lv_has ls 19 [] → mGo l p e (1 + (d + 1)) (25 + (d + 1) * 38) s m args below meth c E none out.2 H locs (F0 m 236 ls []) := by
  intro σ H locs ls hm hM hl
  unfold mX12_counts_B236 at hm
  exact r_vret G hr hk hM hm dX12_counts_236
set_option maxRecDepth 100000 in
set_option maxHeartbeats 4000000 in
theorem wX12_counts_L176 (l : Launch) (E : mE) (out : Int × mSt) {p : Program} {e : Env} {s : State} {m : MethodId} {args : Array Value} {below : List Frame} {meth : Method} {c : Code} (G : CallFix p m c cX12_counts 19 s args mTs RX12) (hr : meth.sig.returnType = none) (hk : meth.locks = false) (d : Nat) (rec : Nat → Int → Int → Int → mSt → Option (Int × mSt)) (hrec : ∀ (σ : mSt) (v0 : Nat) (v1 : Int) (v2 : Int) (v3 : Int) (out : Int × mSt), rec v0 v1 v2 v3 σ = some out → mMet l yX12_counts cX12_counts 19 none (1 + d) (25 + d * 38) E 276 [.ref (eA E v0), vI v1, vI v2, vL v3] σ none out.2) (v0 : Nat) (v1 : Int) (v2 : Int) (v3 : Int) (v5 : Int) (v7 : Int) (v9 : Int) (v11 : Int) (g0 : isC v0 11) (x236 : mSt → Option (Int × mSt)) (hx236 : ∀ (σ : mSt) (H : Heap) (locs : List Loc) (ls : Array Slot), x236 σ = some out → mM (mA E 276) E 276 σ s H locs → lv_has ls 19 [] → mGo l p e (1 + (d + 1)) (25 + (d + 1) * 38) s m args below meth c E none out.2 H locs (F0 m 236 ls [])) : ∀ (n : Nat) (v15 : Int) (σ : mSt) (H : Heap) (locs : List Loc) (ls : Array Slot), mX12_counts_L176 rec v0 v1 v2 v3 v5 v7 v9 v11 x236 n v15 σ = some out → mM (mA E 276) E 276 σ s H locs → lv_has ls 19 [(0, .ref (eA E v0)), (1, vI v1), (2, vI v2), (3, vL v3), (5, vL v5), (7, vL v7), (9, vL v9), (11, vL v11), (15, vL v15)] → mGo l p e (1 + (d + 1)) (25 + (d + 1) * 38) s m args below meth c E none out.2 H locs (F0 m 176 ls []) := by
  intro n
  induction n with
  | zero =>
    intro v15 σ H locs ls hm hM hl
    exact absurd hm (by rw [mX12_counts_L176.eq_1]; exact fun h => nomatch h)
  | succ n ih =>
    intro v15 σ H locs ls hm hM hl
    rw [mX12_counts_L176.eq_2] at hm
    refine r_lload (np := 178) G hl 6 rfl dX12_counts_176 rfl ?_
    refine r_lload (np := 180) G hl 8 rfl dX12_counts_178 rfl ?_
    refine r_lload (np := 182) G hl 5 rfl dX12_counts_180 rfl ?_
    refine r_lmul (np := 183) G dX12_counts_182 rfl ?_
    refine r_ladd (np := 184) G dX12_counts_183 rfl ?_
    refine r_lload (np := 186) G hl 7 rfl dX12_counts_184 rfl ?_
    refine r_lneg (np := 187) G dX12_counts_186 rfl ?_
    refine r_lcmp_lt (np := 191) (tgt := 236) G rfl rfl dX12_counts_187 dX12_counts_188 (by decide) rfl (fun h1 => ?_) (fun h1 => ?_)
    · have hm := b_t h1 hm
      exact hx236 _ _ _ _ hm hM (lv_sub hl [] rfl)
    · have hm := b_f h1 hm
      refine r_lload (np := 193) G hl 6 rfl dX12_counts_191 rfl ?_
      refine r_lload (np := 195) G hl 8 rfl dX12_counts_193 rfl ?_
      refine r_lload (np := 197) G hl 5 rfl dX12_counts_195 rfl ?_
      refine r_lmul (np := 198) G dX12_counts_197 rfl ?_
      refine r_ladd (np := 199) G dX12_counts_198 rfl ?_
      obtain ⟨a2, e3, hm⟩ := bnd_t hm
      refine r_lstore (np := 201) G hl e3 [(17, vL a2), (0, .ref (eA E v0)), (1, vI v1), (2, vI v2), (3, vL v3), (5, vL v5), (7, vL v7), (9, vL v9), (11, vL v11), (15, vL v15)] dX12_counts_199 rfl (by decide) rfl (fun ls hl => ?_)
      refine r_aload_n (np := 202) G hl 1 rfl dX12_counts_201 rfl rfl ?_
      obtain ⟨r4, e5, hm⟩ := ref_t hm
      refine r_getR (np := 205) G hM (shp_lt g0 (by decide)) g0 e5 fdX12_36 lkX12_72 dX12_counts_202 rfl ?_
      refine r_iload_n (np := 206) G hl 3 rfl dX12_counts_205 rfl rfl ?_
      refine r_lload (np := 208) G hl 9 rfl dX12_counts_206 rfl ?_
      obtain ⟨g6, hm⟩ := g_t hm
      obtain ⟨s7, e8, hm⟩ := bnd_t hm
      refine r_lastore (np := 209) G hM g6 rfl s7 e8 dX12_counts_208 rfl (fun H locs hM => ?_)
      refine r_aload_n (np := 210) G hl 1 rfl dX12_counts_209 rfl rfl ?_
      refine r_iload_n (np := 211) G hl 2 rfl dX12_counts_210 rfl rfl ?_
      refine r_iload_n (np := 212) G hl 3 rfl dX12_counts_211 rfl rfl ?_
      refine r_iconst (np := 213) G 1 dX12_counts_212 rfl ?_
      refine r_iadd (np := 214) G dX12_counts_213 rfl ?_
      refine r_lload_n (np := 215) G hl 4 rfl dX12_counts_214 rfl rfl ?_
      refine r_lload (np := 217) G hl 5 rfl dX12_counts_215 rfl ?_
      refine r_lload (np := 219) G hl 0 rfl dX12_counts_217 rfl ?_
      refine r_lmul (np := 220) G dX12_counts_219 rfl ?_
      refine r_lload (np := 222) G hl 0 rfl dX12_counts_220 rfl ?_
      refine r_lmul (np := 223) G dX12_counts_222 rfl ?_
      refine r_lsub (np := 224) G dX12_counts_223 rfl ?_
      obtain ⟨b9, s10, e11, hm⟩ := call_t hm
      refine m_callVV (np := 227) G hM hl.1 [vI v1, vI (v2 + 1), vL (v3 - ((v5 * a2) * a2))] (hrec s7 v0 v1 (v2 + 1) (v3 - ((v5 * a2) * a2)) _ e11) myX12_counts (shp_lt g0 (by decide)) g0 rfl (by decide) lkX12_456 ⟨by show _ ≤ (1 + (d + 1)); omega, by show _ ≤ (25 + (d + 1) * 38); omega⟩ ⟨Nat.le_of_ble_eq_true rfl, Nat.le_of_ble_eq_true rfl⟩ [] rfl (Nat.le_of_ble_eq_true rfl) dX12_counts_224 rfl (fun H locs hM => ?_)
      refine r_lload (np := 229) G hl 9 rfl dX12_counts_227 rfl ?_
      refine r_lconst (np := 230) G 1 dX12_counts_229 rfl rfl ?_
      refine r_lsub (np := 231) G dX12_counts_230 rfl ?_
      obtain ⟨a12, e13, hm⟩ := bnd_t hm
      refine r_lstore (np := 233) G hl e13 [(15, vL a12), (17, vL a2), (0, .ref (eA E v0)), (1, vI v1), (2, vI v2), (3, vL v3), (5, vL v5), (7, vL v7), (9, vL v9), (11, vL v11)] dX12_counts_231 rfl (by decide) rfl (fun ls hl => ?_)
      refine r_goto (np := 176) G dX12_counts_233 (by decide) ?_
      exact ih a12 _ _ _ _ hm hM (lv_sub hl [2, 3, 4, 5, 6, 7, 8, 9, 0] rfl)
set_option maxRecDepth 100000 in
set_option maxHeartbeats 4000000 in
theorem wX12_counts_B160 (l : Launch) (E : mE) (out : Int × mSt) {p : Program} {e : Env} {s : State} {m : MethodId} {args : Array Value} {below : List Frame} {meth : Method} {c : Code} (G : CallFix p m c cX12_counts 19 s args mTs RX12) (hr : meth.sig.returnType = none) (hk : meth.locks = false) (d : Nat) (rec : Nat → Int → Int → Int → mSt → Option (Int × mSt)) (hrec : ∀ (σ : mSt) (v0 : Nat) (v1 : Int) (v2 : Int) (v3 : Int) (out : Int × mSt), rec v0 v1 v2 v3 σ = some out → mMet l yX12_counts cX12_counts 19 none (1 + d) (25 + d * 38) E 276 [.ref (eA E v0), vI v1, vI v2, vL v3] σ none out.2) (v0 : Nat) (v1 : Int) (v2 : Int) (v3 : Int) (g0 : isC v0 11) : ∀ (v5 : Int) (v7 : Int) (v9 : Int) (v11 : Int) (σ : mSt) (H : Heap) (locs : List Loc) (ls : Array Slot), mX12_counts_B160 rec v0 v1 v2 v3 v5 v7 v9 v11 σ = some out → mM (mA E 276) E 276 σ s H locs → lv_has ls 19 [(0, .ref (eA E v0)), (1, vI v1), (2, vI v2), (3, vL v3), (5, vL v5), (7, vL v7), (9, vL v9), (11, vL v11)] → mGo l p e (1 + (d + 1)) (25 + (d + 1) * 38) s m args below meth c E none out.2 H locs (F0 m 160 ls []) := by
  intro v5 v7 v9 v11 σ H locs ls hm hM hl
  unfold mX12_counts_B160 at hm
  refine r_lload (np := 162) G hl 7 rfl dX12_counts_160 rfl ?_
  refine r_lload (np := 164) G hl 6 rfl dX12_counts_162 rfl ?_
  refine r_lsub (np := 165) G dX12_counts_164 rfl ?_
  refine r_lload (np := 167) G hl 5 rfl dX12_counts_165 rfl ?_
  obtain ⟨b14, s15, e16, hm⟩ := call_t hm
  refine m_callSL (np := 170) G hM hl.1 [vL (v11 - v9), vL v7] (qJ9_floorDiv_f86c9 l E σ (v11 - v9) v7 _ e16) myJ9_floorDiv_f86c9 lkX12_362 ⟨by show _ ≤ (1 + (d + 1)); omega, by show _ ≤ (25 + (d + 1) * 38); omega⟩ ⟨Nat.le_of_ble_eq_true rfl, Nat.le_of_ble_eq_true rfl⟩ [] rfl (Nat.le_of_ble_eq_true rfl) dX12_counts_167 rfl (fun H locs hM => ?_)
  refine r_lstore (np := 172) G hl rfl [(13, vL b14), (0, .ref (eA E v0)), (1, vI v1), (2, vI v2), (3, vL v3), (5, vL v5), (7, vL v7), (9, vL v9), (11, vL v11)] dX12_counts_170 rfl (by decide) rfl (fun ls hl => ?_)
  refine r_lload (np := 174) G hl 0 rfl dX12_counts_172 rfl ?_
  refine r_lstore (np := 176) G hl rfl [(15, vL b14), (13, vL b14), (0, .ref (eA E v0)), (1, vI v1), (2, vI v2), (3, vL v3), (5, vL v5), (7, vL v7), (9, vL v9), (11, vL v11)] dX12_counts_174 rfl (by decide) rfl (fun ls hl => ?_)
  exact wX12_counts_L176 l E out G hr hk d rec hrec v0 v1 v2 v3 v5 v7 v9 v11 g0 (fun zσ => mX12_counts_B236 rec v0 v1 v2 v3 zσ) (fun zσ zH zl zs zm zM zv => wX12_counts_B236 l E out G hr hk d rec hrec v0 v1 v2 v3 g0 zσ zH zl zs zm zM zv) mF b14 _ _ _ _ hm hM (lv_sub hl [2, 3, 4, 5, 6, 7, 8, 9, 0] rfl)
set_option maxRecDepth 100000 in
set_option maxHeartbeats 4000000 in
theorem wX12_counts_L134 (l : Launch) (E : mE) (out : Int × mSt) {p : Program} {e : Env} {s : State} {m : MethodId} {args : Array Value} {below : List Frame} {meth : Method} {c : Code} (G : CallFix p m c cX12_counts 19 s args mTs RX12) (hr : meth.sig.returnType = none) (hk : meth.locks = false) (d : Nat) (rec : Nat → Int → Int → Int → mSt → Option (Int × mSt)) (hrec : ∀ (σ : mSt) (v0 : Nat) (v1 : Int) (v2 : Int) (v3 : Int) (out : Int × mSt), rec v0 v1 v2 v3 σ = some out → mMet l yX12_counts cX12_counts 19 none (1 + d) (25 + d * 38) E 276 [.ref (eA E v0), vI v1, vI v2, vL v3] σ none out.2) (v0 : Nat) (v1 : Int) (v2 : Int) (v3 : Int) (v5 : Int) (v7 : Int) (v9 : Int) (g0 : isC v0 11) (x160 : Int → mSt → Option (Int × mSt)) (hx160 : ∀ (v11 : Int) (σ : mSt) (H : Heap) (locs : List Loc) (ls : Array Slot), x160 v11 σ = some out → mM (mA E 276) E 276 σ s H locs → lv_has ls 19 [(0, .ref (eA E v0)), (1, vI v1), (2, vI v2), (3, vL v3), (5, vL v5), (7, vL v7), (9, vL v9), (11, vL v11)] → mGo l p e (1 + (d + 1)) (25 + (d + 1) * 38) s m args below meth c E none out.2 H locs (F0 m 160 ls [])) : ∀ (n : Nat) (v11 : Int) (σ : mSt) (H : Heap) (locs : List Loc) (ls : Array Slot), mX12_counts_L134 rec v0 v1 v2 v3 v5 v7 v9 x160 n v11 σ = some out → mM (mA E 276) E 276 σ s H locs → lv_has ls 19 [(0, .ref (eA E v0)), (1, vI v1), (2, vI v2), (3, vL v3), (5, vL v5), (7, vL v7), (9, vL v9), (11, vL v11)] → mGo l p e (1 + (d + 1)) (25 + (d + 1) * 38) s m args below meth c E none out.2 H locs (F0 m 134 ls []) := by
  intro n
  induction n with
  | zero =>
    intro v11 σ H locs ls hm hM hl
    exact absurd hm (by rw [mX12_counts_L134.eq_1]; exact fun h => nomatch h)
  | succ n ih =>
    intro v11 σ H locs ls hm hM hl
    rw [mX12_counts_L134.eq_2] at hm
    refine r_lload (np := 136) G hl 4 rfl dX12_counts_134 rfl ?_
    refine r_lload (np := 138) G hl 7 rfl dX12_counts_136 rfl ?_
    refine r_lconst (np := 139) G 1 dX12_counts_138 rfl rfl ?_
    refine r_ladd (np := 140) G dX12_counts_139 rfl ?_
    refine r_lmul (np := 141) G dX12_counts_140 rfl ?_
    refine r_lload (np := 143) G hl 7 rfl dX12_counts_141 rfl ?_
    refine r_lconst (np := 144) G 1 dX12_counts_143 rfl rfl ?_
    refine r_ladd (np := 145) G dX12_counts_144 rfl ?_
    refine r_lmul (np := 146) G dX12_counts_145 rfl ?_
    refine r_lload_n (np := 147) G hl 3 rfl dX12_counts_146 rfl rfl ?_
    refine r_lcmp_gt (np := 151) (tgt := 160) G rfl rfl dX12_counts_147 dX12_counts_148 (by decide) rfl (fun h17 => ?_) (fun h17 => ?_)
    · have hm := b_t h17 hm
      exact hx160 v11 _ _ _ _ hm hM (lv_sub hl [0, 1, 2, 3, 4, 5, 6, 7] rfl)
    · have hm := b_f h17 hm
      refine r_lload (np := 153) G hl 7 rfl dX12_counts_151 rfl ?_
      refine r_lconst (np := 154) G 1 dX12_counts_153 rfl rfl ?_
      refine r_ladd (np := 155) G dX12_counts_154 rfl ?_
      obtain ⟨a18, e19, hm⟩ := bnd_t hm
      refine r_lstore (np := 157) G hl e19 [(11, vL a18), (0, .ref (eA E v0)), (1, vI v1), (2, vI v2), (3, vL v3), (5, vL v5), (7, vL v7), (9, vL v9)] dX12_counts_155 rfl (by decide) rfl (fun ls hl => ?_)
      refine r_goto (np := 134) G dX12_counts_157 (by decide) ?_
      exact ih a18 _ _ _ _ hm hM (lv_sub hl [1, 2, 3, 4, 5, 6, 7, 0] rfl)
set_option maxRecDepth 100000 in
set_option maxHeartbeats 4000000 in
theorem wX12_counts_B131 (l : Launch) (E : mE) (out : Int × mSt) {p : Program} {e : Env} {s : State} {m : MethodId} {args : Array Value} {below : List Frame} {meth : Method} {c : Code} (G : CallFix p m c cX12_counts 19 s args mTs RX12) (hr : meth.sig.returnType = none) (hk : meth.locks = false) (d : Nat) (rec : Nat → Int → Int → Int → mSt → Option (Int × mSt)) (hrec : ∀ (σ : mSt) (v0 : Nat) (v1 : Int) (v2 : Int) (v3 : Int) (out : Int × mSt), rec v0 v1 v2 v3 σ = some out → mMet l yX12_counts cX12_counts 19 none (1 + d) (25 + d * 38) E 276 [.ref (eA E v0), vI v1, vI v2, vL v3] σ none out.2) (v0 : Nat) (v1 : Int) (v2 : Int) (v3 : Int) (g0 : isC v0 11) : ∀ (v5 : Int) (v7 : Int) (v9 : Int) (σ : mSt) (H : Heap) (locs : List Loc) (ls : Array Slot), mX12_counts_B131 rec v0 v1 v2 v3 v5 v7 v9 σ = some out → mM (mA E 276) E 276 σ s H locs → lv_has ls 19 [(0, .ref (eA E v0)), (1, vI v1), (2, vI v2), (3, vL v3), (5, vL v5), (7, vL v7), (9, vL v9)] → mGo l p e (1 + (d + 1)) (25 + (d + 1) * 38) s m args below meth c E none out.2 H locs (F0 m 131 ls []) := by
  intro v5 v7 v9 σ H locs ls hm hM hl
  unfold mX12_counts_B131 at hm
  refine r_lconst (np := 132) G 0 dX12_counts_131 rfl rfl ?_
  refine r_lstore (np := 134) G hl rfl [(11, vL 0), (0, .ref (eA E v0)), (1, vI v1), (2, vI v2), (3, vL v3), (5, vL v5), (7, vL v7), (9, vL v9)] dX12_counts_132 rfl (by decide) rfl (fun ls hl => ?_)
  exact wX12_counts_L134 l E out G hr hk d rec hrec v0 v1 v2 v3 v5 v7 v9 g0 (fun z11 zσ => mX12_counts_B160 rec v0 v1 v2 v3 v5 v7 v9 z11 zσ) (fun z11 zσ zH zl zs zm zM zv => wX12_counts_B160 l E out G hr hk d rec hrec v0 v1 v2 v3 g0 v5 v7 v9 z11 zσ zH zl zs zm zM zv) mF 0 _ _ _ _ hm hM (lv_sub hl [1, 2, 3, 4, 5, 6, 7, 0] rfl)
set_option maxRecDepth 100000 in
set_option maxHeartbeats 4000000 in
theorem wX12_counts_L98 (l : Launch) (E : mE) (out : Int × mSt) {p : Program} {e : Env} {s : State} {m : MethodId} {args : Array Value} {below : List Frame} {meth : Method} {c : Code} (G : CallFix p m c cX12_counts 19 s args mTs RX12) (hr : meth.sig.returnType = none) (hk : meth.locks = false) (d : Nat) (rec : Nat → Int → Int → Int → mSt → Option (Int × mSt)) (hrec : ∀ (σ : mSt) (v0 : Nat) (v1 : Int) (v2 : Int) (v3 : Int) (out : Int × mSt), rec v0 v1 v2 v3 σ = some out → mMet l yX12_counts cX12_counts 19 none (1 + d) (25 + d * 38) E 276 [.ref (eA E v0), vI v1, vI v2, vL v3] σ none out.2) (v0 : Nat) (v1 : Int) (v2 : Int) (v3 : Int) (v5 : Int) (v7 : Int) (g0 : isC v0 11) (x131 : Int → mSt → Option (Int × mSt)) (hx131 : ∀ (v9 : Int) (σ : mSt) (H : Heap) (locs : List Loc) (ls : Array Slot), x131 v9 σ = some out → mM (mA E 276) E 276 σ s H locs → lv_has ls 19 [(0, .ref (eA E v0)), (1, vI v1), (2, vI v2), (3, vL v3), (5, vL v5), (7, vL v7), (9, vL v9)] → mGo l p e (1 + (d + 1)) (25 + (d + 1) * 38) s m args below meth c E none out.2 H locs (F0 m 131 ls [])) : ∀ (n : Nat) (v9 : Int) (v11 : Int) (σ : mSt) (H : Heap) (locs : List Loc) (ls : Array Slot), mX12_counts_L98 rec v0 v1 v2 v3 v5 v7 x131 n v9 v11 σ = some out → mM (mA E 276) E 276 σ s H locs → lv_has ls 19 [(0, .ref (eA E v0)), (1, vI v1), (2, vI v2), (3, vL v3), (5, vL v5), (7, vL v7), (9, vL v9), (11, vI v11)] → mGo l p e (1 + (d + 1)) (25 + (d + 1) * 38) s m args below meth c E none out.2 H locs (F0 m 98 ls []) := by
  intro n
  induction n with
  | zero =>
    intro v9 v11 σ H locs ls hm hM hl
    exact absurd hm (by rw [mX12_counts_L98.eq_1]; exact fun h => nomatch h)
  | succ n ih =>
    intro v9 v11 σ H locs ls hm hM hl
    rw [mX12_counts_L98.eq_2] at hm
    refine r_iload (np := 100) G hl 7 rfl dX12_counts_98 rfl ?_
    refine r_iload_n (np := 101) G hl 2 rfl dX12_counts_100 rfl rfl ?_
    refine r_icmp_ge (np := 104) (tgt := 131) G rfl rfl dX12_counts_101 (by decide) rfl (fun h20 => ?_) (fun h20 => ?_)
    · have hm := b_t h20 hm
      exact hx131 v9 _ _ _ _ hm hM (lv_sub hl [0, 1, 2, 3, 4, 5, 6] rfl)
    · have hm := b_f h20 hm
      refine r_lload (np := 106) G hl 6 rfl dX12_counts_104 rfl ?_
      refine r_aload_n (np := 107) G hl 0 rfl dX12_counts_106 rfl rfl ?_
      obtain ⟨r21, e22, hm⟩ := ref_t hm
      refine r_getR (np := 110) G hM (shp_lt g0 (by decide)) g0 e22 fdX12_36 lkX12_72 dX12_counts_107 rfl ?_
      refine r_iload (np := 112) G hl 7 rfl dX12_counts_110 rfl ?_
      obtain ⟨g23, hm⟩ := g_t hm
      refine r_laload (np := 113) G hM g23 rfl dX12_counts_112 rfl ?_
      refine r_aload_n (np := 114) G hl 0 rfl dX12_counts_113 rfl rfl ?_
      refine r_iload_n (np := 115) G hl 1 rfl dX12_counts_114 rfl rfl ?_
      refine r_iload (np := 117) G hl 7 rfl dX12_counts_115 rfl ?_
      refine r_iload_n (np := 118) G hl 2 rfl dX12_counts_117 rfl rfl ?_
      obtain ⟨b24, s25, e26, hm⟩ := call_t hm
      refine m_callVL (np := 121) G hM hl.1 [vI v1, vI v11, vI v2] (qX12_get l E σ v0 v1 v11 v2 _ e26) myX12_get (shp_lt (gX12_get e26) (by decide)) (gX12_get e26) rfl (by decide) lkX12_355 ⟨by show _ ≤ (1 + (d + 1)); omega, by show _ ≤ (25 + (d + 1) * 38); omega⟩ ⟨Nat.le_of_ble_eq_true rfl, Nat.le_of_ble_eq_true rfl⟩ [vL (σ r21 (wI v11).toNat), vL v9] rfl (Nat.le_of_ble_eq_true rfl) dX12_counts_118 rfl (fun H locs hM => ?_)
      refine r_lmul (np := 122) G dX12_counts_121 rfl ?_
      refine r_ladd (np := 123) G dX12_counts_122 rfl ?_
      obtain ⟨a27, e28, hm⟩ := bnd_t hm
      refine r_lstore (np := 125) G hl e28 [(9, vL a27), (0, .ref (eA E v0)), (1, vI v1), (2, vI v2), (3, vL v3), (5, vL v5), (7, vL v7), (11, vI v11)] dX12_counts_123 rfl (by decide) rfl (fun ls hl => ?_)
      obtain ⟨a29, e30, hm⟩ := bnd_t hm
      refine r_iinc (np := 128) G hl 7 rfl e30 [(11, vI a29), (9, vL a27), (0, .ref (eA E v0)), (1, vI v1), (2, vI v2), (3, vL v3), (5, vL v5), (7, vL v7)] dX12_counts_125 rfl (by decide) rfl (fun ls hl => ?_)
      refine r_goto (np := 98) G dX12_counts_128 (by decide) ?_
      exact ih a27 a29 _ _ _ _ hm hM (lv_sub hl [2, 3, 4, 5, 6, 7, 1, 0] rfl)
set_option maxRecDepth 100000 in
set_option maxHeartbeats 4000000 in
theorem wX12_counts_B81 (l : Launch) (E : mE) (out : Int × mSt) {p : Program} {e : Env} {s : State} {m : MethodId} {args : Array Value} {below : List Frame} {meth : Method} {c : Code} (G : CallFix p m c cX12_counts 19 s args mTs RX12) (hr : meth.sig.returnType = none) (hk : meth.locks = false) (d : Nat) (rec : Nat → Int → Int → Int → mSt → Option (Int × mSt)) (hrec : ∀ (σ : mSt) (v0 : Nat) (v1 : Int) (v2 : Int) (v3 : Int) (out : Int × mSt), rec v0 v1 v2 v3 σ = some out → mMet l yX12_counts cX12_counts 19 none (1 + d) (25 + d * 38) E 276 [.ref (eA E v0), vI v1, vI v2, vL v3] σ none out.2) (v0 : Nat) (v1 : Int) (v2 : Int) (v3 : Int) (g0 : isC v0 11) : ∀ (t0 : Int) (σ : mSt) (H : Heap) (locs : List Loc) (ls : Array Slot), mX12_counts_B81 rec v0 v1 v2 v3 t0 σ = some out → mM (mA E 276) E 276 σ s H locs → lv_has ls 19 [(0, .ref (eA E v0)), (1, vI v1), (2, vI v2), (3, vL v3)] → mGo l p e (1 + (d + 1)) (25 + (d + 1) * 38) s m args below meth c E none out.2 H locs (F0 m 81 ls [vL t0]) := by
  intro t0 σ H locs ls hm hM hl
  unfold mX12_counts_B81 at hm
  refine r_lstore (np := 83) G hl rfl [(5, vL t0), (0, .ref (eA E v0)), (1, vI v1), (2, vI v2), (3, vL v3)] dX12_counts_81 rfl (by decide) rfl (fun ls hl => ?_)
  refine r_aload_n (np := 84) G hl 1 rfl dX12_counts_83 rfl rfl ?_
  refine r_iload_n (np := 85) G hl 2 rfl dX12_counts_84 rfl rfl ?_
  refine r_iload_n (np := 86) G hl 3 rfl dX12_counts_85 rfl rfl ?_
  refine r_iload_n (np := 87) G hl 3 rfl dX12_counts_86 rfl rfl ?_
  obtain ⟨b31, s32, e33, hm⟩ := call_t hm
  refine m_callVL (np := 90) G hM hl.1 [vI v1, vI v2, vI v2] (qX12_get l E σ v0 v1 v2 v2 _ e33) myX12_get (shp_lt (gX12_get e33) (by decide)) (gX12_get e33) rfl (by decide) lkX12_355 ⟨by show _ ≤ (1 + (d + 1)); omega, by show _ ≤ (25 + (d + 1) * 38); omega⟩ ⟨Nat.le_of_ble_eq_true rfl, Nat.le_of_ble_eq_true rfl⟩ [] rfl (Nat.le_of_ble_eq_true rfl) dX12_counts_87 rfl (fun H locs hM => ?_)
  refine r_lstore (np := 92) G hl rfl [(7, vL b31), (5, vL t0), (0, .ref (eA E v0)), (1, vI v1), (2, vI v2), (3, vL v3)] dX12_counts_90 rfl (by decide) rfl (fun ls hl => ?_)
  refine r_lconst (np := 93) G 0 dX12_counts_92 rfl rfl ?_
  refine r_lstore (np := 95) G hl rfl [(9, vL 0), (7, vL b31), (5, vL t0), (0, .ref (eA E v0)), (1, vI v1), (2, vI v2), (3, vL v3)] dX12_counts_93 rfl (by decide) rfl (fun ls hl => ?_)
  refine r_iconst (np := 96) G 0 dX12_counts_95 rfl ?_
  refine r_istore (np := 98) G hl rfl [(11, vI 0), (9, vL 0), (7, vL b31), (5, vL t0), (0, .ref (eA E v0)), (1, vI v1), (2, vI v2), (3, vL v3)] dX12_counts_96 rfl (by decide) rfl (fun ls hl => ?_)
  exact wX12_counts_L98 l E out G hr hk d rec hrec v0 v1 v2 v3 t0 b31 g0 (fun z9 zσ => mX12_counts_B131 rec v0 v1 v2 v3 t0 b31 z9 zσ) (fun z9 zσ zH zl zs zm zM zv => wX12_counts_B131 l E out G hr hk d rec hrec v0 v1 v2 v3 g0 t0 b31 z9 zσ zH zl zs zm zM zv) mF 0 0 _ _ _ _ hm hM (lv_sub hl [4, 5, 6, 7, 3, 2, 1, 0] rfl)
set_option maxRecDepth 100000 in
set_option maxHeartbeats 4000000 in
theorem qX12_counts_body (l : Launch) (E : mE) (d : Nat) (rec : Nat → Int → Int → Int → mSt → Option (Int × mSt)) (hrec : ∀ (σ : mSt) (v0 : Nat) (v1 : Int) (v2 : Int) (v3 : Int) (out : Int × mSt), rec v0 v1 v2 v3 σ = some out → mMet l yX12_counts cX12_counts 19 none (1 + d) (25 + d * 38) E 276 [.ref (eA E v0), vI v1, vI v2, vL v3] σ none out.2) (σ : mSt) (v0 : Nat) (v1 : Int) (v2 : Int) (v3 : Int) (out : Int × mSt) (hm : mX12_counts_body rec v0 v1 v2 v3 σ = some out) : mMet l yX12_counts cX12_counts 19 none (1 + (d + 1)) (25 + (d + 1) * 38) E 276 [.ref (eA E v0), vI v1, vI v2, vL v3] σ none out.2 := by
  unfold mX12_counts_body at hm
  obtain ⟨g0, hm⟩ := g_t hm
  refine m_entry (by decide +kernel) (Nat.le_of_ble_eq_true rfl) (fun p e s m args below meth c G hr hk hM ls hl => ?_)
  have G : CallFix p m c cX12_counts 19 s args mTs RX12 := G
  have hl : lv_has ls 19 [(0, .ref (eA E v0)), (1, vI v1), (2, vI v2), (3, vL v3)] := hl
  refine r_iload_n (np := 1) G hl 2 rfl dX12_counts_0 rfl rfl ?_
  refine r_iconst (np := 2) G 4 dX12_counts_1 rfl ?_
  refine r_icmp_ne (np := 5) (tgt := 26) G rfl (wIk 4 rfl) dX12_counts_2 (by decide) rfl (fun h34 => ?_) (fun h34 => ?_)
  · have hm := b_f h34 hm
    refine r_iload_n (np := 27) G hl 2 rfl dX12_counts_26 rfl rfl ?_
    refine r_if_ne (np := 30) (tgt := 34) G rfl dX12_counts_27 (by decide) rfl (fun h35 => ?_) (fun h35 => ?_)
    · have hm := b_f h35 hm
      refine r_iload_n (np := 35) G hl 2 rfl dX12_counts_34 rfl rfl ?_
      refine r_iconst (np := 36) G 1 dX12_counts_35 rfl ?_
      refine r_icmp_ne (np := 39) (tgt := 50) G rfl (wIk 1 rfl) dX12_counts_36 (by decide) rfl (fun h36 => ?_) (fun h36 => ?_)
      · have hm := b_f h36 hm
        refine r_iload_n (np := 51) G hl 2 rfl dX12_counts_50 rfl rfl ?_
        refine r_iconst (np := 52) G 2 dX12_counts_51 rfl ?_
        refine r_icmp_ne (np := 55) (tgt := 66) G rfl (wIk 2 rfl) dX12_counts_52 (by decide) rfl (fun h37 => ?_) (fun h37 => ?_)
        · have hm := b_f h37 hm
          refine r_aload_n (np := 67) G hl 0 rfl dX12_counts_66 rfl rfl ?_
          obtain ⟨r38, e39, hm⟩ := ref_t hm
          refine r_getR (np := 70) G hM (shp_lt g0 (by decide)) g0 e39 fdX12_15 lkX12_24 dX12_counts_67 rfl ?_
          refine r_iload_n (np := 71) G hl 1 rfl dX12_counts_70 rfl rfl ?_
          obtain ⟨g40, hm⟩ := g_t hm
          refine r_iaload (np := 72) G hM g40 rfl dX12_counts_71 rfl ?_
          refine r_i2l (np := 73) G rfl dX12_counts_72 rfl ?_
          refine r_aload_n (np := 74) G hl 0 rfl dX12_counts_73 rfl rfl ?_
          obtain ⟨r41, e42, hm⟩ := ref_t hm
          refine r_getR (np := 77) G hM (shp_lt g0 (by decide)) g0 e42 fdX12_16 lkX12_27 dX12_counts_74 rfl ?_
          refine r_iload_n (np := 78) G hl 1 rfl dX12_counts_77 rfl rfl ?_
          obtain ⟨g43, hm⟩ := g_t hm
          refine r_iaload (np := 79) G hM g43 rfl dX12_counts_78 rfl ?_
          refine r_i2l (np := 80) G rfl dX12_counts_79 rfl ?_
          refine r_lmul (np := 81) G dX12_counts_80 rfl ?_
          exact wX12_counts_B81 l E out G hr hk d rec hrec v0 v1 v2 v3 g0 ((wI (σ r38 (wI v1).toNat)) * (wI (σ r41 (wI v1).toNat))) _ _ _ _ hm hM (lv_sub hl [0, 1, 2, 3] rfl)
        · have hm := b_t h37 hm
          refine r_aload_n (np := 56) G hl 0 rfl dX12_counts_55 rfl rfl ?_
          obtain ⟨r44, e45, hm⟩ := ref_t hm
          refine r_getR (np := 59) G hM (shp_lt g0 (by decide)) g0 e45 fdX12_16 lkX12_27 dX12_counts_56 rfl ?_
          refine r_iload_n (np := 60) G hl 1 rfl dX12_counts_59 rfl rfl ?_
          obtain ⟨g46, hm⟩ := g_t hm
          refine r_iaload (np := 61) G hM g46 rfl dX12_counts_60 rfl ?_
          refine r_ineg (np := 62) G dX12_counts_61 rfl ?_
          refine r_i2l (np := 63) G rfl dX12_counts_62 rfl ?_
          refine r_goto (np := 81) G dX12_counts_63 (by decide) ?_
          exact wX12_counts_B81 l E out G hr hk d rec hrec v0 v1 v2 v3 g0 (wI (-(σ r44 (wI v1).toNat))) _ _ _ _ hm hM (lv_sub hl [0, 1, 2, 3] rfl)
      · have hm := b_t h36 hm
        refine r_aload_n (np := 40) G hl 0 rfl dX12_counts_39 rfl rfl ?_
        obtain ⟨r47, e48, hm⟩ := ref_t hm
        refine r_getR (np := 43) G hM (shp_lt g0 (by decide)) g0 e48 fdX12_15 lkX12_24 dX12_counts_40 rfl ?_
        refine r_iload_n (np := 44) G hl 1 rfl dX12_counts_43 rfl rfl ?_
        obtain ⟨g49, hm⟩ := g_t hm
        refine r_iaload (np := 45) G hM g49 rfl dX12_counts_44 rfl ?_
        refine r_ineg (np := 46) G dX12_counts_45 rfl ?_
        refine r_i2l (np := 47) G rfl dX12_counts_46 rfl ?_
        refine r_goto (np := 81) G dX12_counts_47 (by decide) ?_
        exact wX12_counts_B81 l E out G hr hk d rec hrec v0 v1 v2 v3 g0 (wI (-(σ r47 (wI v1).toNat))) _ _ _ _ hm hM (lv_sub hl [0, 1, 2, 3] rfl)
    · have hm := b_t h35 hm
      refine r_lconst (np := 31) G 1 dX12_counts_30 rfl rfl ?_
      refine r_goto (np := 81) G dX12_counts_31 (by decide) ?_
      exact wX12_counts_B81 l E out G hr hk d rec hrec v0 v1 v2 v3 g0 1 _ _ _ _ hm hM (lv_sub hl [0, 1, 2, 3] rfl)
  · have hm := b_t h34 hm
    refine r_aload_n (np := 6) G hl 0 rfl dX12_counts_5 rfl rfl ?_
    refine r_dup (np := 7) G dX12_counts_6 rfl rfl ?_
    refine r_getI (np := 10) G hM (shp_lt g0 (by decide)) g0 fdX12_35 lkX12_453 dX12_counts_7 rfl ?_
    refine r_lload_n (np := 11) G hl 3 rfl dX12_counts_10 rfl rfl ?_
    refine r_lconst (np := 12) G 0 dX12_counts_11 rfl rfl ?_
    refine r_lcmp_ne (np := 16) (tgt := 20) G rfl (wLk 0 rfl) dX12_counts_12 dX12_counts_13 (by decide) rfl (fun h50 => ?_) (fun h50 => ?_)
    · have hm := b_f h50 hm
      refine r_iconst (np := 21) G 0 dX12_counts_20 rfl ?_
      refine r_iadd (np := 22) G dX12_counts_21 rfl ?_
      obtain ⟨s51, e52, hm⟩ := bnd_t hm
      refine r_putI (np := 25) G hM (shp_lt g0 (by decide)) g0 ptX12_35 rfl lkX12_453 s51 e52 dX12_counts_22 rfl (fun H locs hM => ?_)
      exact r_vret G hr hk hM hm dX12_counts_25
    · have hm := b_t h50 hm
      refine r_iconst (np := 17) G 1 dX12_counts_16 rfl ?_
      refine r_goto (np := 21) G dX12_counts_17 (by decide) ?_
      refine r_iadd (np := 22) G dX12_counts_21 rfl ?_
      obtain ⟨s53, e54, hm⟩ := bnd_t hm
      refine r_putI (np := 25) G hM (shp_lt g0 (by decide)) g0 ptX12_35 rfl lkX12_453 s53 e54 dX12_counts_22 rfl (fun H locs hM => ?_)
      exact r_vret G hr hk hM hm dX12_counts_25
theorem qX12_counts (l : Launch) (E : mE) : ∀ (d : Nat) (σ : mSt) (v0 : Nat) (v1 : Int) (v2 : Int) (v3 : Int) (out : Int × mSt), mX12_counts d v0 v1 v2 v3 σ = some out → mMet l yX12_counts cX12_counts 19 none (1 + d) (25 + d * 38) E 276 [.ref (eA E v0), vI v1, vI v2, vL v3] σ none out.2 := by
  intro d
  induction d with
  | zero =>
    intro σ v0 v1 v2 v3 out hm
    rw [mX12_counts.eq_1] at hm
    cases hm
  | succ d ih =>
    intro σ v0 v1 v2 v3 out hm
    rw [mX12_counts.eq_2] at hm
    exact qX12_counts_body l E d _ ih σ v0 v1 v2 v3 out hm
theorem gX12_counts {d : Nat} {v0 : Nat} {v1 : Int} {v2 : Int} {v3 : Int} {σ : mSt} {out : Int × mSt} (hm : mX12_counts (d + 1) v0 v1 v2 v3 σ = some out) : isC v0 11 := by
  rw [mX12_counts.eq_2] at hm
  exact (g_t hm).1
set_option maxRecDepth 100000 in
set_option maxHeartbeats 4000000 in
theorem qX12_many (l : Launch) (E : mE) (σ : mSt) (v0 : Nat) (v1 : Int) (v2 : Int) (out : Int × mSt) (hm : mX12_many v0 v1 v2 σ = some out) : mMet l yX12_many cX12_many 3 (some .int) 8 291 E 276 [.ref (eA E v0), vI v1, vI v2] σ (some (vI out.1)) out.2 := by
  unfold mX12_many at hm
  obtain ⟨g0, hm⟩ := g_t hm
  refine m_entry (by decide +kernel) (Nat.le_of_ble_eq_true rfl) (fun p e s m args below meth c G hr hk hM ls hl => ?_)
  have G : CallFix p m c cX12_many 3 s args mTs RX12 := G
  have hl : lv_has ls 3 [(0, .ref (eA E v0)), (1, vI v1), (2, vI v2)] := hl
  refine r_aload_n (np := 1) G hl 0 rfl dX12_many_0 rfl rfl ?_
  refine r_iconst (np := 2) G 0 dX12_many_1 rfl ?_
  obtain ⟨s1, e2, hm⟩ := bnd_t hm
  refine r_putI (np := 5) G hM (shp_lt g0 (by decide)) g0 ptX12_0 rfl lkX12_75 s1 e2 dX12_many_2 rfl (fun H locs hM => ?_)
  refine r_aload_n (np := 6) G hl 0 rfl dX12_many_5 rfl rfl ?_
  refine r_iload_n (np := 7) G hl 1 rfl dX12_many_6 rfl rfl ?_
  obtain ⟨b3, s4, e5, hm⟩ := call_t hm
  refine m_callVI (np := 10) G hM hl.1 [vI v1] (qX12_isQuaternion l E s1 v0 v1 _ e5) myX12_isQuaternion (shp_lt (gX12_isQuaternion e5) (by decide)) (gX12_isQuaternion e5) rfl (by decide) lkX12_288 ⟨Nat.le_of_ble_eq_true rfl, Nat.le_of_ble_eq_true rfl⟩ ⟨Nat.le_of_ble_eq_true rfl, Nat.le_of_ble_eq_true rfl⟩ [] rfl (Nat.le_of_ble_eq_true rfl) dX12_many_7 rfl (fun H locs hM => ?_)
  refine r_if_eq (np := 13) (tgt := 43) G rfl dX12_many_10 (by decide) rfl (fun h6 => ?_) (fun h6 => ?_)
  · have hm := b_t h6 hm
    refine r_iconst (np := 44) G (-1) dX12_many_43 rfl ?_
    exact r_iret G hr hk hM hm dX12_many_44
  · have hm := b_f h6 hm
    refine r_iload_n (np := 14) G hl 2 rfl dX12_many_13 rfl rfl ?_
    refine r_i2l (np := 15) G rfl dX12_many_14 rfl ?_
    refine r_lconst (np := 16) G 0 dX12_many_15 rfl rfl ?_
    refine r_ldc2 (np := 19) G 12 dX12_many_16 lkX12_460 rfl rfl ?_
    obtain ⟨b7, s8, e9, hm⟩ := call_t hm
    refine m_callSI (np := 22) G hM hl.1 [vL (wI v2), vL 0, vL 12] (qX12_within l E s4 (wI v2) 0 12 _ e9) myX12_within lkX12_113 ⟨Nat.le_of_ble_eq_true rfl, Nat.le_of_ble_eq_true rfl⟩ ⟨Nat.le_of_ble_eq_true rfl, Nat.le_of_ble_eq_true rfl⟩ [] rfl (Nat.le_of_ble_eq_true rfl) dX12_many_19 rfl (fun H locs hM => ?_)
    refine r_if_eq (np := 25) (tgt := 43) G rfl dX12_many_22 (by decide) rfl (fun h10 => ?_) (fun h10 => ?_)
    · have hm := b_t h10 hm
      refine r_iconst (np := 44) G (-1) dX12_many_43 rfl ?_
      exact r_iret G hr hk hM hm dX12_many_44
    · have hm := b_f h10 hm
      refine r_aload_n (np := 26) G hl 0 rfl dX12_many_25 rfl rfl ?_
      obtain ⟨r11, e12, hm⟩ := ref_t hm
      refine r_getR (np := 29) G hM (shp_lt g0 (by decide)) g0 e12 fdX12_15 lkX12_24 dX12_many_26 rfl ?_
      refine r_iload_n (np := 30) G hl 1 rfl dX12_many_29 rfl rfl ?_
      obtain ⟨g13, hm⟩ := g_t hm
      refine r_iaload (np := 31) G hM g13 rfl dX12_many_30 rfl ?_
      refine r_if_gt (np := 34) (tgt := 43) G rfl dX12_many_31 (by decide) rfl (fun h14 => ?_) (fun h14 => ?_)
      · have hm := b_t h14 hm
        refine r_iconst (np := 44) G (-1) dX12_many_43 rfl ?_
        exact r_iret G hr hk hM hm dX12_many_44
      · have hm := b_f h14 hm
        refine r_aload_n (np := 35) G hl 0 rfl dX12_many_34 rfl rfl ?_
        obtain ⟨r15, e16, hm⟩ := ref_t hm
        refine r_getR (np := 38) G hM (shp_lt g0 (by decide)) g0 e16 fdX12_16 lkX12_27 dX12_many_35 rfl ?_
        refine r_iload_n (np := 39) G hl 1 rfl dX12_many_38 rfl rfl ?_
        obtain ⟨g17, hm⟩ := g_t hm
        refine r_iaload (np := 40) G hM g17 rfl dX12_many_39 rfl ?_
        refine r_if_le (np := 43) (tgt := 45) G rfl dX12_many_40 (by decide) rfl (fun h18 => ?_) (fun h18 => ?_)
        · have hm := b_t h18 hm
          refine r_aload_n (np := 46) G hl 0 rfl dX12_many_45 rfl rfl ?_
          refine r_iconst (np := 47) G 0 dX12_many_46 rfl ?_
          obtain ⟨s19, e20, hm⟩ := bnd_t hm
          refine r_putI (np := 50) G hM (shp_lt g0 (by decide)) g0 ptX12_35 rfl lkX12_453 s19 e20 dX12_many_47 rfl (fun H locs hM => ?_)
          refine r_aload_n (np := 51) G hl 0 rfl dX12_many_50 rfl rfl ?_
          refine r_iload_n (np := 52) G hl 1 rfl dX12_many_51 rfl rfl ?_
          refine r_iconst (np := 53) G 0 dX12_many_52 rfl ?_
          refine r_iload_n (np := 54) G hl 2 rfl dX12_many_53 rfl rfl ?_
          refine r_i2l (np := 55) G rfl dX12_many_54 rfl ?_
          refine r_aload_n (np := 56) G hl 0 rfl dX12_many_55 rfl rfl ?_
          obtain ⟨r21, e22, hm⟩ := ref_t hm
          refine r_getR (np := 59) G hM (shp_lt g0 (by decide)) g0 e22 fdX12_30 lkX12_60 dX12_many_56 rfl ?_
          refine r_iload_n (np := 60) G hl 1 rfl dX12_many_59 rfl rfl ?_
          obtain ⟨g23, hm⟩ := g_t hm
          refine r_laload (np := 61) G hM g23 rfl dX12_many_60 rfl ?_
          refine r_lmul (np := 62) G dX12_many_61 rfl ?_
          refine r_aload_n (np := 63) G hl 0 rfl dX12_many_62 rfl rfl ?_
          obtain ⟨r24, e25, hm⟩ := ref_t hm
          refine r_getR (np := 66) G hM (shp_lt g0 (by decide)) g0 e25 fdX12_30 lkX12_60 dX12_many_63 rfl ?_
          refine r_iload_n (np := 67) G hl 1 rfl dX12_many_66 rfl rfl ?_
          obtain ⟨g26, hm⟩ := g_t hm
          refine r_laload (np := 68) G hM g26 rfl dX12_many_67 rfl ?_
          refine r_lmul (np := 69) G dX12_many_68 rfl ?_
          obtain ⟨b27, s28, e29, hm⟩ := call_t hm
          refine m_callVV (np := 72) G hM hl.1 [vI v1, vI 0, vL (((wI v2) * (s19 r21 (wI v1).toNat)) * (s19 r24 (wI v1).toNat))] (qX12_counts l E 6 s19 v0 v1 0 (((wI v2) * (s19 r21 (wI v1).toNat)) * (s19 r24 (wI v1).toNat)) _ e29) myX12_counts (shp_lt (gX12_counts e29) (by decide)) (gX12_counts e29) rfl (by decide) lkX12_456 ⟨Nat.le_of_ble_eq_true rfl, Nat.le_of_ble_eq_true rfl⟩ ⟨Nat.le_of_ble_eq_true rfl, Nat.le_of_ble_eq_true rfl⟩ [] rfl (Nat.le_of_ble_eq_true rfl) dX12_many_69 rfl (fun H locs hM => ?_)
          refine r_aload_n (np := 73) G hl 0 rfl dX12_many_72 rfl rfl ?_
          refine r_getI (np := 76) G hM (shp_lt g0 (by decide)) g0 fdX12_35 lkX12_453 dX12_many_73 rfl ?_
          exact r_iret G hr hk hM hm dX12_many_76
        · have hm := b_f h18 hm
          refine r_iconst (np := 44) G (-1) dX12_many_43 rfl ?_
          exact r_iret G hr hk hM hm dX12_many_44
theorem gX12_many {v0 : Nat} {v1 : Int} {v2 : Int} {σ : mSt} {out : Int × mSt} (hm : mX12_many v0 v1 v2 σ = some out) : isC v0 11 := (g_t hm).1
set_option maxRecDepth 100000 in
set_option maxHeartbeats 4000000 in
theorem qX12_count (l : Launch) (E : mE) (σ : mSt) (v0 : Nat) (v1 : Int) (out : Int × mSt) (hm : mX12_count v0 v1 σ = some out) : mMet l yX12_count cX12_count 2 (some .int) 0 0 E 276 [.ref (eA E v0), vI v1] σ (some (vI out.1)) out.2 := by
  unfold mX12_count at hm
  obtain ⟨g0, hm⟩ := g_t hm
  refine m_entry (by decide +kernel) (Nat.le_of_ble_eq_true rfl) (fun p e s m args below meth c G hr hk hM ls hl => ?_)
  have G : CallFix p m c cX12_count 2 s args mTs RX12 := G
  have hl : lv_has ls 2 [(0, .ref (eA E v0)), (1, vI v1)] := hl
  refine r_aload_n (np := 1) G hl 0 rfl dX12_count_0 rfl rfl ?_
  refine r_iconst (np := 2) G 0 dX12_count_1 rfl ?_
  obtain ⟨s1, e2, hm⟩ := bnd_t hm
  refine r_putI (np := 5) G hM (shp_lt g0 (by decide)) g0 ptX12_0 rfl lkX12_75 s1 e2 dX12_count_2 rfl (fun H locs hM => ?_)
  refine r_iload_n (np := 6) G hl 1 rfl dX12_count_5 rfl rfl ?_
  refine r_if_ne (np := 9) (tgt := 18) G rfl dX12_count_6 (by decide) rfl (fun h3 => ?_) (fun h3 => ?_)
  · have hm := b_f h3 hm
    refine r_iload_n (np := 19) G hl 1 rfl dX12_count_18 rfl rfl ?_
    refine r_iconst (np := 20) G 1 dX12_count_19 rfl ?_
    refine r_icmp_ne (np := 23) (tgt := 30) G rfl (wIk 1 rfl) dX12_count_20 (by decide) rfl (fun h4 => ?_) (fun h4 => ?_)
    · have hm := b_f h4 hm
      refine r_iload_n (np := 31) G hl 1 rfl dX12_count_30 rfl rfl ?_
      refine r_iconst (np := 32) G 2 dX12_count_31 rfl ?_
      refine r_icmp_ne (np := 35) (tgt := 42) G rfl (wIk 2 rfl) dX12_count_32 (by decide) rfl (fun h5 => ?_) (fun h5 => ?_)
      · have hm := b_f h5 hm
        refine r_iconst (np := 43) G (-1) dX12_count_42 rfl ?_
        exact r_iret G hr hk hM hm dX12_count_43
      · have hm := b_t h5 hm
        refine r_aload_n (np := 36) G hl 0 rfl dX12_count_35 rfl rfl ?_
        refine r_getI (np := 39) G hM (shp_lt g0 (by decide)) g0 fdX12_2 lkX12_79 dX12_count_36 rfl ?_
        refine r_goto (np := 43) G dX12_count_39 (by decide) ?_
        exact r_iret G hr hk hM hm dX12_count_43
    · have hm := b_t h4 hm
      refine r_aload_n (np := 24) G hl 0 rfl dX12_count_23 rfl rfl ?_
      refine r_getI (np := 27) G hM (shp_lt g0 (by decide)) g0 fdX12_21 lkX12_213 dX12_count_24 rfl ?_
      refine r_goto (np := 43) G dX12_count_27 (by decide) ?_
      exact r_iret G hr hk hM hm dX12_count_43
  · have hm := b_t h3 hm
    refine r_aload_n (np := 10) G hl 0 rfl dX12_count_9 rfl rfl ?_
    obtain ⟨r6, e7, hm⟩ := ref_t hm
    refine r_getR (np := 13) G hM (shp_lt g0 (by decide)) g0 e7 fdX12_12 lkX12_13 dX12_count_10 rfl ?_
    refine r_iconst (np := 14) G 0 dX12_count_13 rfl ?_
    obtain ⟨g8, hm⟩ := g_t hm
    refine r_iaload (np := 15) G hM g8 rfl dX12_count_14 rfl ?_
    refine r_goto (np := 43) G dX12_count_15 (by decide) ?_
    exact r_iret G hr hk hM hm dX12_count_43
theorem gX12_count {v0 : Nat} {v1 : Int} {σ : mSt} {out : Int × mSt} (hm : mX12_count v0 v1 σ = some out) : isC v0 11 := (g_t hm).1
