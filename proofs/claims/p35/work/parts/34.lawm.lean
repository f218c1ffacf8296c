theorem lkL_123 : Cond.methodLink RL 123 yX11_place ∈ mTs := mTs_in 771 (by decide +kernel) (by decide +kernel)
theorem myX11_place : mYV yX11_place cX11_place 3 (some .int) 2 := ⟨⟨mTs_in 774 (by decide +kernel) (by decide +kernel), mTs_in 30 (by decide +kernel) (by decide +kernel), ⟨by decide, by decide⟩, by decide +kernel⟩, mTs_in 772 (by decide +kernel) (by decide +kernel), mTs_in 773 (by decide +kernel) (by decide +kernel)⟩
theorem lkL_95 : Cond.methodLink RL 95 yX11_index ∈ mTs := mTs_in 351 (by decide +kernel) (by decide +kernel)
theorem myX11_index : mYV yX11_index cX11_index 2 (some .int) 1 := ⟨⟨mTs_in 354 (by decide +kernel) (by decide +kernel), mTs_in 30 (by decide +kernel) (by decide +kernel), ⟨by decide, by decide⟩, by decide +kernel⟩, mTs_in 352 (by decide +kernel) (by decide +kernel), mTs_in 353 (by decide +kernel) (by decide +kernel)⟩
theorem lkL_110 : Cond.methodLink RL 110 yX11_alike ∈ mTs := mTs_in 372 (by decide +kernel) (by decide +kernel)
theorem myX11_alike : mYV yX11_alike cX11_alike 3 (some .int) 2 := ⟨⟨mTs_in 375 (by decide +kernel) (by decide +kernel), mTs_in 30 (by decide +kernel) (by decide +kernel), ⟨by decide, by decide⟩, by decide +kernel⟩, mTs_in 373 (by decide +kernel) (by decide +kernel), mTs_in 374 (by decide +kernel) (by decide +kernel)⟩
theorem lkL_102 : Cond.methodLink RL 102 yX11_local ∈ mTs := mTs_in 330 (by decide +kernel) (by decide +kernel)
theorem myX11_local : mYV yX11_local cX11_local 3 (some .int) 2 := ⟨⟨mTs_in 333 (by decide +kernel) (by decide +kernel), mTs_in 30 (by decide +kernel) (by decide +kernel), ⟨by decide, by decide⟩, by decide +kernel⟩, mTs_in 331 (by decide +kernel) (by decide +kernel), mTs_in 332 (by decide +kernel) (by decide +kernel)⟩
theorem lkL_117 : Cond.methodLink RL 117 yX11_solution ∈ mTs := mTs_in 384 (by decide +kernel) (by decide +kernel)
theorem myX11_solution : mYV yX11_solution cX11_solution 3 (some .int) 2 := ⟨⟨mTs_in 387 (by decide +kernel) (by decide +kernel), mTs_in 30 (by decide +kernel) (by decide +kernel), ⟨by decide, by decide⟩, by decide +kernel⟩, mTs_in 385 (by decide +kernel) (by decide +kernel), mTs_in 386 (by decide +kernel) (by decide +kernel)⟩
theorem dL_isWhole_0 : decode cL_isWhole 0 = .ok (.iconst 0, 1) := by decide +kernel
theorem dL_isWhole_1 : decode cL_isWhole 1 = .ok (.istore_n 2, 1) := by decide +kernel
theorem dL_isWhole_2 : decode cL_isWhole 2 = .ok (.iconst 0, 1) := by decide +kernel
theorem dL_isWhole_3 : decode cL_isWhole 3 = .ok (.istore_n 3, 1) := by decide +kernel
theorem dL_isWhole_4 : decode cL_isWhole 4 = .ok (.iconst 0, 1) := by decide +kernel
theorem dL_isWhole_5 : decode cL_isWhole 5 = .ok (.istore 4, 2) := by decide +kernel
theorem dL_isWhole_7 : decode cL_isWhole 7 = .ok (.iconst 0, 1) := by decide +kernel
theorem dL_isWhole_8 : decode cL_isWhole 8 = .ok (.istore 5, 2) := by decide +kernel
theorem dL_isWhole_10 : decode cL_isWhole 10 = .ok (.iconst 0, 1) := by decide +kernel
theorem dL_isWhole_11 : decode cL_isWhole 11 = .ok (.istore 6, 2) := by decide +kernel
theorem dL_isWhole_13 : decode cL_isWhole 13 = .ok (.iload 6, 2) := by decide +kernel
theorem dL_isWhole_15 : decode cL_isWhole 15 = .ok (.sipush 1000, 3) := by decide +kernel
theorem dL_isWhole_18 : decode cL_isWhole 18 = .ok (.if_icmp .ge 74, 3) := by decide +kernel
theorem dL_isWhole_21 : decode cL_isWhole 21 = .ok (.aload_n 0, 1) := by decide +kernel
theorem dL_isWhole_22 : decode cL_isWhole 22 = .ok (.iload_n 1, 1) := by decide +kernel
theorem dL_isWhole_23 : decode cL_isWhole 23 = .ok (.iload 6, 2) := by decide +kernel
theorem dL_isWhole_25 : decode cL_isWhole 25 = .ok (.invokevirtual 102, 3) := by decide +kernel
theorem dL_isWhole_28 : decode cL_isWhole 28 = .ok (.istore 7, 2) := by decide +kernel
theorem dL_isWhole_30 : decode cL_isWhole 30 = .ok (.iload 7, 2) := by decide +kernel
theorem dL_isWhole_32 : decode cL_isWhole 32 = .ok (.iconst 1, 1) := by decide +kernel
theorem dL_isWhole_33 : decode cL_isWhole 33 = .ok (.if_icmp .ge 6, 3) := by decide +kernel
theorem dL_isWhole_36 : decode cL_isWhole 36 = .ok (.goto 50, 3) := by decide +kernel
theorem dL_isWhole_39 : decode cL_isWhole 39 = .ok (.aload_n 0, 1) := by decide +kernel
theorem dL_isWhole_40 : decode cL_isWhole 40 = .ok (.iload_n 1, 1) := by decide +kernel
theorem dL_isWhole_41 : decode cL_isWhole 41 = .ok (.iload_n 3, 1) := by decide +kernel
theorem dL_isWhole_42 : decode cL_isWhole 42 = .ok (.invokevirtual 123, 3) := by decide +kernel
theorem dL_isWhole_45 : decode cL_isWhole 45 = .ok (.iload 6, 2) := by decide +kernel
theorem dL_isWhole_47 : decode cL_isWhole 47 = .ok (.if_icmp .eq 5, 3) := by decide +kernel
theorem dL_isWhole_50 : decode cL_isWhole 50 = .ok (.iconst 0, 1) := by decide +kernel
theorem dL_isWhole_51 : decode cL_isWhole 51 = .ok (.ireturn, 1) := by decide +kernel
theorem dL_isWhole_52 : decode cL_isWhole 52 = .ok (.iinc 3 1, 3) := by decide +kernel
theorem dL_isWhole_55 : decode cL_isWhole 55 = .ok (.iload_n 2, 1) := by decide +kernel
theorem dL_isWhole_56 : decode cL_isWhole 56 = .ok (.iload 7, 2) := by decide +kernel
theorem dL_isWhole_58 : decode cL_isWhole 58 = .ok (.iadd, 1) := by decide +kernel
theorem dL_isWhole_59 : decode cL_isWhole 59 = .ok (.istore_n 2, 1) := by decide +kernel
theorem dL_isWhole_60 : decode cL_isWhole 60 = .ok (.iload 4, 2) := by decide +kernel
theorem dL_isWhole_62 : decode cL_isWhole 62 = .ok (.iload 7, 2) := by decide +kernel
theorem dL_isWhole_64 : decode cL_isWhole 64 = .ok (.iconst 2, 1) := by decide +kernel
theorem dL_isWhole_65 : decode cL_isWhole 65 = .ok (.irem, 1) := by decide +kernel
theorem dL_isWhole_66 : decode cL_isWhole 66 = .ok (.ior, 1) := by decide +kernel
theorem dL_isWhole_67 : decode cL_isWhole 67 = .ok (.istore 4, 2) := by decide +kernel
theorem dL_isWhole_69 : decode cL_isWhole 69 = .ok (.iload 5, 2) := by decide +kernel
theorem dL_isWhole_71 : decode cL_isWhole 71 = .ok (.iload 7, 2) := by decide +kernel
theorem dL_isWhole_73 : decode cL_isWhole 73 = .ok (.iconst 3, 1) := by decide +kernel
theorem dL_isWhole_74 : decode cL_isWhole 74 = .ok (.irem, 1) := by decide +kernel
theorem dL_isWhole_75 : decode cL_isWhole 75 = .ok (.ifCond .le 7, 3) := by decide +kernel
theorem dL_isWhole_78 : decode cL_isWhole 78 = .ok (.iconst 1, 1) := by decide +kernel
theorem dL_isWhole_79 : decode cL_isWhole 79 = .ok (.goto 4, 3) := by decide +kernel
theorem dL_isWhole_82 : decode cL_isWhole 82 = .ok (.iconst 0, 1) := by decide +kernel
theorem dL_isWhole_83 : decode cL_isWhole 83 = .ok (.ior, 1) := by decide +kernel
theorem dL_isWhole_84 : decode cL_isWhole 84 = .ok (.istore 5, 2) := by decide +kernel
theorem dL_isWhole_86 : decode cL_isWhole 86 = .ok (.iinc 6 1, 3) := by decide +kernel
theorem dL_isWhole_89 : decode cL_isWhole 89 = .ok (.goto (-76), 3) := by decide +kernel
theorem dL_isWhole_92 : decode cL_isWhole 92 = .ok (.iload_n 2, 1) := by decide +kernel
theorem dL_isWhole_93 : decode cL_isWhole 93 = .ok (.bipush 6, 2) := by decide +kernel
theorem dL_isWhole_95 : decode cL_isWhole 95 = .ok (.irem, 1) := by decide +kernel
theorem dL_isWhole_96 : decode cL_isWhole 96 = .ok (.ifCond .ne 57, 3) := by decide +kernel
theorem dL_isWhole_99 : decode cL_isWhole 99 = .ok (.aload_n 0, 1) := by decide +kernel
theorem dL_isWhole_100 : decode cL_isWhole 100 = .ok (.iload_n 1, 1) := by decide +kernel
theorem dL_isWhole_101 : decode cL_isWhole 101 = .ok (.iconst (-1), 1) := by decide +kernel
theorem dL_isWhole_102 : decode cL_isWhole 102 = .ok (.invokevirtual 123, 3) := by decide +kernel
theorem dL_isWhole_105 : decode cL_isWhole 105 = .ok (.iload_n 3, 1) := by decide +kernel
theorem dL_isWhole_106 : decode cL_isWhole 106 = .ok (.if_icmp .ne 47, 3) := by decide +kernel
theorem dL_isWhole_109 : decode cL_isWhole 109 = .ok (.aload_n 0, 1) := by decide +kernel
theorem dL_isWhole_110 : decode cL_isWhole 110 = .ok (.iload_n 1, 1) := by decide +kernel
theorem dL_isWhole_111 : decode cL_isWhole 111 = .ok (.iload_n 3, 1) := by decide +kernel
theorem dL_isWhole_112 : decode cL_isWhole 112 = .ok (.invokevirtual 123, 3) := by decide +kernel
theorem dL_isWhole_115 : decode cL_isWhole 115 = .ok (.bipush (-2), 2) := by decide +kernel
theorem dL_isWhole_117 : decode cL_isWhole 117 = .ok (.if_icmp .ne 36, 3) := by decide +kernel
theorem dL_isWhole_120 : decode cL_isWhole 120 = .ok (.aload_n 0, 1) := by decide +kernel
theorem dL_isWhole_121 : decode cL_isWhole 121 = .ok (.iload_n 1, 1) := by decide +kernel
theorem dL_isWhole_122 : decode cL_isWhole 122 = .ok (.invokevirtual 95, 3) := by decide +kernel
theorem dL_isWhole_125 : decode cL_isWhole 125 = .ok (.iconst 1, 1) := by decide +kernel
theorem dL_isWhole_126 : decode cL_isWhole 126 = .ok (.iload 4, 2) := by decide +kernel
theorem dL_isWhole_128 : decode cL_isWhole 128 = .ok (.iadd, 1) := by decide +kernel
theorem dL_isWhole_129 : decode cL_isWhole 129 = .ok (.iconst 1, 1) := by decide +kernel
theorem dL_isWhole_130 : decode cL_isWhole 130 = .ok (.iconst 2, 1) := by decide +kernel
theorem dL_isWhole_131 : decode cL_isWhole 131 = .ok (.iload 5, 2) := by decide +kernel
theorem dL_isWhole_133 : decode cL_isWhole 133 = .ok (.imul, 1) := by decide +kernel
theorem dL_isWhole_134 : decode cL_isWhole 134 = .ok (.iadd, 1) := by decide +kernel
theorem dL_isWhole_135 : decode cL_isWhole 135 = .ok (.imul, 1) := by decide +kernel
theorem dL_isWhole_136 : decode cL_isWhole 136 = .ok (.if_icmp .ne 17, 3) := by decide +kernel
theorem dL_isWhole_139 : decode cL_isWhole 139 = .ok (.aload_n 0, 1) := by decide +kernel
theorem dL_isWhole_140 : decode cL_isWhole 140 = .ok (.iload_n 1, 1) := by decide +kernel
theorem dL_isWhole_141 : decode cL_isWhole 141 = .ok (.iload_n 1, 1) := by decide +kernel
theorem dL_isWhole_142 : decode cL_isWhole 142 = .ok (.invokevirtual 110, 3) := by decide +kernel
theorem dL_isWhole_145 : decode cL_isWhole 145 = .ok (.iconst 1, 1) := by decide +kernel
theorem dL_isWhole_146 : decode cL_isWhole 146 = .ok (.if_icmp .ne 7, 3) := by decide +kernel
theorem dL_isWhole_149 : decode cL_isWhole 149 = .ok (.iconst 1, 1) := by decide +kernel
theorem dL_isWhole_150 : decode cL_isWhole 150 = .ok (.goto 4, 3) := by decide +kernel
theorem dL_isWhole_153 : decode cL_isWhole 153 = .ok (.iconst 0, 1) := by decide +kernel
theorem dL_isWhole_154 : decode cL_isWhole 154 = .ok (.ireturn, 1) := by decide +kernel
theorem dL_isSolved_0 : decode cL_isSolved 0 = .ok (.aload_n 0, 1) := by decide +kernel
theorem dL_isSolved_1 : decode cL_isSolved 1 = .ok (.iload_n 1, 1) := by decide +kernel
theorem dL_isSolved_2 : decode cL_isSolved 2 = .ok (.iconst 0, 1) := by decide +kernel
theorem dL_isSolved_3 : decode cL_isSolved 3 = .ok (.invokevirtual 117, 3) := by decide +kernel
theorem dL_isSolved_6 : decode cL_isSolved 6 = .ok (.istore 4, 2) := by decide +kernel
theorem dL_isSolved_8 : decode cL_isSolved 8 = .ok (.aload_n 0, 1) := by decide +kernel
theorem dL_isSolved_9 : decode cL_isSolved 9 = .ok (.iload_n 1, 1) := by decide +kernel
theorem dL_isSolved_10 : decode cL_isSolved 10 = .ok (.iconst 1, 1) := by decide +kernel
theorem dL_isSolved_11 : decode cL_isSolved 11 = .ok (.invokevirtual 117, 3) := by decide +kernel
theorem dL_isSolved_14 : decode cL_isSolved 14 = .ok (.istore 5, 2) := by decide +kernel
theorem dL_isSolved_16 : decode cL_isSolved 16 = .ok (.aload_n 0, 1) := by decide +kernel
theorem dL_isSolved_17 : decode cL_isSolved 17 = .ok (.iload_n 1, 1) := by decide +kernel
theorem dL_isSolved_18 : decode cL_isSolved 18 = .ok (.iconst 2, 1) := by decide +kernel
theorem dL_isSolved_19 : decode cL_isSolved 19 = .ok (.invokevirtual 117, 3) := by decide +kernel
theorem dL_isSolved_22 : decode cL_isSolved 22 = .ok (.istore 6, 2) := by decide +kernel
theorem dL_isSolved_24 : decode cL_isSolved 24 = .ok (.aload_n 0, 1) := by decide +kernel
theorem dL_isSolved_25 : decode cL_isSolved 25 = .ok (.iload_n 1, 1) := by decide +kernel
theorem dL_isSolved_26 : decode cL_isSolved 26 = .ok (.invokevirtual 95, 3) := by decide +kernel
theorem dL_isSolved_29 : decode cL_isSolved 29 = .ok (.iconst 1, 1) := by decide +kernel
theorem dL_isSolved_30 : decode cL_isSolved 30 = .ok (.if_icmp .eq 30, 3) := by decide +kernel
theorem dL_isSolved_33 : decode cL_isSolved 33 = .ok (.iload 4, 2) := by decide +kernel
theorem dL_isSolved_35 : decode cL_isSolved 35 = .ok (.bipush (-2), 2) := by decide +kernel
theorem dL_isSolved_37 : decode cL_isSolved 37 = .ok (.if_icmp .ne 21, 3) := by decide +kernel
theorem dL_isSolved_40 : decode cL_isSolved 40 = .ok (.iload 5, 2) := by decide +kernel
theorem dL_isSolved_42 : decode cL_isSolved 42 = .ok (.bipush (-2), 2) := by decide +kernel
theorem dL_isSolved_44 : decode cL_isSolved 44 = .ok (.if_icmp .ne 14, 3) := by decide +kernel
theorem dL_isSolved_47 : decode cL_isSolved 47 = .ok (.iload 6, 2) := by decide +kernel
theorem dL_isSolved_49 : decode cL_isSolved 49 = .ok (.bipush (-2), 2) := by decide +kernel
theorem dL_isSolved_51 : decode cL_isSolved 51 = .ok (.if_icmp .ne 7, 3) := by decide +kernel
theorem dL_isSolved_54 : decode cL_isSolved 54 = .ok (.iconst 1, 1) := by decide +kernel
theorem dL_isSolved_55 : decode cL_isSolved 55 = .ok (.goto 4, 3) := by decide +kernel
theorem dL_isSolved_58 : decode cL_isSolved 58 = .ok (.iconst 0, 1) := by decide +kernel
theorem dL_isSolved_59 : decode cL_isSolved 59 = .ok (.ireturn, 1) := by decide +kernel
theorem dL_isSolved_60 : decode cL_isSolved 60 = .ok (.iload 4, 2) := by decide +kernel
theorem dL_isSolved_62 : decode cL_isSolved 62 = .ok (.ifCond .lt 61, 3) := by decide +kernel
theorem dL_isSolved_65 : decode cL_isSolved 65 = .ok (.iload 5, 2) := by decide +kernel
theorem dL_isSolved_67 : decode cL_isSolved 67 = .ok (.ifCond .lt 56, 3) := by decide +kernel
theorem dL_isSolved_70 : decode cL_isSolved 70 = .ok (.iload 6, 2) := by decide +kernel
theorem dL_isSolved_72 : decode cL_isSolved 72 = .ok (.ifCond .lt 51, 3) := by decide +kernel
theorem dL_isSolved_75 : decode cL_isSolved 75 = .ok (.iload 5, 2) := by decide +kernel
theorem dL_isSolved_77 : decode cL_isSolved 77 = .ok (.bipush 7, 2) := by decide +kernel
theorem dL_isSolved_79 : decode cL_isSolved 79 = .ok (.if_icmp .gt 44, 3) := by decide +kernel
theorem dL_isSolved_82 : decode cL_isSolved 82 = .ok (.iload 6, 2) := by decide +kernel
theorem dL_isSolved_84 : decode cL_isSolved 84 = .ok (.bipush 7, 2) := by decide +kernel
theorem dL_isSolved_86 : decode cL_isSolved 86 = .ok (.if_icmp .gt 37, 3) := by decide +kernel
theorem dL_isSolved_89 : decode cL_isSolved 89 = .ok (.iload 4, 2) := by decide +kernel
theorem dL_isSolved_91 : decode cL_isSolved 91 = .ok (.iload 5, 2) := by decide +kernel
theorem dL_isSolved_93 : decode cL_isSolved 93 = .ok (.iadd, 1) := by decide +kernel
theorem dL_isSolved_94 : decode cL_isSolved 94 = .ok (.iload 6, 2) := by decide +kernel
theorem dL_isSolved_96 : decode cL_isSolved 96 = .ok (.iadd, 1) := by decide +kernel
theorem dL_isSolved_97 : decode cL_isSolved 97 = .ok (.ifCond .eq 26, 3) := by decide +kernel
theorem dL_isSolved_100 : decode cL_isSolved 100 = .ok (.iload 4, 2) := by decide +kernel
theorem dL_isSolved_102 : decode cL_isSolved 102 = .ok (.iload 4, 2) := by decide +kernel
theorem dL_isSolved_104 : decode cL_isSolved 104 = .ok (.imul, 1) := by decide +kernel
theorem dL_isSolved_105 : decode cL_isSolved 105 = .ok (.iload_n 2, 1) := by decide +kernel
theorem dL_isSolved_106 : decode cL_isSolved 106 = .ok (.iload 5, 2) := by decide +kernel
theorem dL_isSolved_108 : decode cL_isSolved 108 = .ok (.imul, 1) := by decide +kernel
theorem dL_isSolved_109 : decode cL_isSolved 109 = .ok (.iload 5, 2) := by decide +kernel
theorem dL_isSolved_111 : decode cL_isSolved 111 = .ok (.imul, 1) := by decide +kernel
theorem dL_isSolved_112 : decode cL_isSolved 112 = .ok (.iload_n 3, 1) := by decide +kernel
theorem dL_isSolved_113 : decode cL_isSolved 113 = .ok (.iload 6, 2) := by decide +kernel
theorem dL_isSolved_115 : decode cL_isSolved 115 = .ok (.imul, 1) := by decide +kernel
theorem dL_isSolved_116 : decode cL_isSolved 116 = .ok (.iload 6, 2) := by decide +kernel
theorem dL_isSolved_118 : decode cL_isSolved 118 = .ok (.imul, 1) := by decide +kernel
theorem dL_isSolved_119 : decode cL_isSolved 119 = .ok (.iadd, 1) := by decide +kernel
theorem dL_isSolved_120 : decode cL_isSolved 120 = .ok (.if_icmp .eq 5, 3) := by decide +kernel
theorem dL_isSolved_123 : decode cL_isSolved 123 = .ok (.iconst 0, 1) := by decide +kernel
theorem dL_isSolved_124 : decode cL_isSolved 124 = .ok (.ireturn, 1) := by decide +kernel
theorem dL_isSolved_125 : decode cL_isSolved 125 = .ok (.iconst 0, 1) := by decide +kernel
theorem dL_isSolved_126 : decode cL_isSolved 126 = .ok (.istore 7, 2) := by decide +kernel
theorem dL_isSolved_128 : decode cL_isSolved 128 = .ok (.iload 7, 2) := by decide +kernel
theorem dL_isSolved_130 : decode cL_isSolved 130 = .ok (.iload 6, 2) := by decide +kernel
theorem dL_isSolved_132 : decode cL_isSolved 132 = .ok (.if_icmp .gt 93, 3) := by decide +kernel
theorem dL_isSolved_135 : decode cL_isSolved 135 = .ok (.iconst 0, 1) := by decide +kernel
theorem dL_isSolved_136 : decode cL_isSolved 136 = .ok (.istore 8, 2) := by decide +kernel
theorem dL_isSolved_138 : decode cL_isSolved 138 = .ok (.iload 8, 2) := by decide +kernel
theorem dL_isSolved_140 : decode cL_isSolved 140 = .ok (.iload 7, 2) := by decide +kernel
theorem dL_isSolved_142 : decode cL_isSolved 142 = .ok (.iload 6, 2) := by decide +kernel
theorem dL_isSolved_144 : decode cL_isSolved 144 = .ok (.if_icmp .ne 8, 3) := by decide +kernel
theorem dL_isSolved_147 : decode cL_isSolved 147 = .ok (.iload 5, 2) := by decide +kernel
theorem dL_isSolved_149 : decode cL_isSolved 149 = .ok (.goto 5, 3) := by decide +kernel
theorem dL_isSolved_152 : decode cL_isSolved 152 = .ok (.bipush 8, 2) := by decide +kernel
theorem dL_isSolved_154 : decode cL_isSolved 154 = .ok (.if_icmp .ge 65, 3) := by decide +kernel
theorem dL_isSolved_157 : decode cL_isSolved 157 = .ok (.iload_n 2, 1) := by decide +kernel
theorem dL_isSolved_158 : decode cL_isSolved 158 = .ok (.iload 8, 2) := by decide +kernel
theorem dL_isSolved_160 : decode cL_isSolved 160 = .ok (.imul, 1) := by decide +kernel
theorem dL_isSolved_161 : decode cL_isSolved 161 = .ok (.iload 8, 2) := by decide +kernel
theorem dL_isSolved_163 : decode cL_isSolved 163 = .ok (.imul, 1) := by decide +kernel
theorem dL_isSolved_164 : decode cL_isSolved 164 = .ok (.iload_n 3, 1) := by decide +kernel
theorem dL_isSolved_165 : decode cL_isSolved 165 = .ok (.iload 7, 2) := by decide +kernel
theorem dL_isSolved_167 : decode cL_isSolved 167 = .ok (.imul, 1) := by decide +kernel
theorem dL_isSolved_168 : decode cL_isSolved 168 = .ok (.iload 7, 2) := by decide +kernel
theorem dL_isSolved_170 : decode cL_isSolved 170 = .ok (.imul, 1) := by decide +kernel
theorem dL_isSolved_171 : decode cL_isSolved 171 = .ok (.iadd, 1) := by decide +kernel
theorem dL_isSolved_172 : decode cL_isSolved 172 = .ok (.istore 9, 2) := by decide +kernel
theorem dL_isSolved_174 : decode cL_isSolved 174 = .ok (.iconst 0, 1) := by decide +kernel
theorem dL_isSolved_175 : decode cL_isSolved 175 = .ok (.istore 10, 2) := by decide +kernel
theorem dL_isSolved_177 : decode cL_isSolved 177 = .ok (.iload 10, 2) := by decide +kernel
theorem dL_isSolved_179 : decode cL_isSolved 179 = .ok (.iload 10, 2) := by decide +kernel
theorem dL_isSolved_181 : decode cL_isSolved 181 = .ok (.imul, 1) := by decide +kernel
theorem dL_isSolved_182 : decode cL_isSolved 182 = .ok (.iload 9, 2) := by decide +kernel
theorem dL_isSolved_184 : decode cL_isSolved 184 = .ok (.if_icmp .ge 9, 3) := by decide +kernel
theorem dL_isSolved_187 : decode cL_isSolved 187 = .ok (.iinc 10 1, 3) := by decide +kernel
theorem dL_isSolved_190 : decode cL_isSolved 190 = .ok (.goto (-13), 3) := by decide +kernel
theorem dL_isSolved_193 : decode cL_isSolved 193 = .ok (.iload 7, 2) := by decide +kernel
theorem dL_isSolved_195 : decode cL_isSolved 195 = .ok (.iload 8, 2) := by decide +kernel
theorem dL_isSolved_197 : decode cL_isSolved 197 = .ok (.iadd, 1) := by decide +kernel
theorem dL_isSolved_198 : decode cL_isSolved 198 = .ok (.ifCond .le 15, 3) := by decide +kernel
theorem dL_isSolved_201 : decode cL_isSolved 201 = .ok (.iload 10, 2) := by decide +kernel
theorem dL_isSolved_203 : decode cL_isSolved 203 = .ok (.iload 10, 2) := by decide +kernel
theorem dL_isSolved_205 : decode cL_isSolved 205 = .ok (.imul, 1) := by decide +kernel
theorem dL_isSolved_206 : decode cL_isSolved 206 = .ok (.iload 9, 2) := by decide +kernel
theorem dL_isSolved_208 : decode cL_isSolved 208 = .ok (.if_icmp .ne 5, 3) := by decide +kernel
theorem dL_isSolved_211 : decode cL_isSolved 211 = .ok (.iconst 0, 1) := by decide +kernel
theorem dL_isSolved_212 : decode cL_isSolved 212 = .ok (.ireturn, 1) := by decide +kernel
theorem dL_isSolved_213 : decode cL_isSolved 213 = .ok (.iinc 8 1, 3) := by decide +kernel
theorem dL_isSolved_216 : decode cL_isSolved 216 = .ok (.goto (-78), 3) := by decide +kernel
theorem dL_isSolved_219 : decode cL_isSolved 219 = .ok (.iinc 7 1, 3) := by decide +kernel
theorem dL_isSolved_222 : decode cL_isSolved 222 = .ok (.goto (-94), 3) := by decide +kernel
theorem dL_isSolved_225 : decode cL_isSolved 225 = .ok (.iconst 1, 1) := by decide +kernel
theorem dL_isSolved_226 : decode cL_isSolved 226 = .ok (.ireturn, 1) := by decide +kernel
def mL_isWhole_B92 (v0 : Nat) (v1 : Int) (v2 : Int) (v3 : Int) (v4 : Int) (v5 : Int) (σ : mSt) : Option (Int × mSt) := mG (wI 6 ≠ 0) <| if wI ((wI v2).tmod (wI 6)) = 0 then (mCall (mX11_place v0 v1 (-1) σ) fun b3 s4 => if wI b3 = wI v3 then (mCall (mX11_place v0 v1 v3 s4) fun b7 s8 => if wI b7 = (-2) then (mCall (mX11_index v0 v1 s8) fun b11 s12 => if wI b11 = wI ((1 + v4) * (1 + (2 * v5))) then (mCall (mX11_alike v0 v1 v1 s12) fun b15 s16 => if wI b15 = 1 then (some (1, s16)) else some (0, s16)) else some (0, s12)) else some (0, s8)) else some (0, s4)) else some (0, σ)
def mL_isWhole_B83 (v0 : Nat) (v1 : Int) (c13 : Int → Int → Int → Int → Int → mSt → Option (Int × mSt)) (x92 : Int → Int → Int → Int → mSt → Option (Int × mSt)) (v2 : Int) (v3 : Int) (v4 : Int) (v6 : Int) (t0 : Int) (t1 : Int) (σ : mSt) : Option (Int × mSt) := bnd (oOr t0 t1) fun a19 => bnd (v6 + 1) fun a21 => c13 v2 v3 v4 a19 a21 σ
def mL_isWhole_L13 (v0 : Nat) (v1 : Int) (x92 : Int → Int → Int → Int → mSt → Option (Int × mSt)) : Nat → Int → Int → Int → Int → Int → mSt → Option (Int × mSt)
  | 0, _, _, _, _, _, _ => none
  | n + 1, v2, v3, v4, v5, v6, σ => if 1000 ≤ wI v6 then (x92 v2 v3 v4 v5 σ) else mCall (mX11_local v0 v1 v6 σ) fun b24 s25 => if 1 ≤ wI b24 then (mCall (mX11_place v0 v1 v3 s25) fun b28 s29 => if wI b28 = wI v6 then (bnd (v3 + 1) fun a32 => bnd (v2 + b24) fun a34 => mG (wI 2 ≠ 0) <| bnd (oOr v4 ((wI b24).tmod (wI 2))) fun a37 => mG (wI 3 ≠ 0) <| if wI ((wI b24).tmod (wI 3)) ≤ 0 then (mL_isWhole_B83 v0 v1 (mL_isWhole_L13 v0 v1 x92 n) x92 a34 a32 a37 v6 v5 0 s29) else mL_isWhole_B83 v0 v1 (mL_isWhole_L13 v0 v1 x92 n) x92 a34 a32 a37 v6 v5 1 s29) else some (0, s29)) else bnd (v6 + 1) fun a41 => mL_isWhole_L13 v0 v1 x92 n v2 v3 v4 v5 a41 s25
def mL_isWhole (v0 : Nat) (v1 : Int) (σ : mSt) : Option (Int × mSt) := mL_isWhole_L13 v0 v1 (fun z2 z3 z4 z5 zσ => mL_isWhole_B92 v0 v1 z2 z3 z4 z5 zσ) mF 0 0 0 0 0 σ
def mL_isSolved_B225 (v0 : Nat) (v1 : Int) (v2 : Int) (v3 : Int) (σ : mSt) : Option (Int × mSt) := some (1, σ)
def mL_isSolved_B219 (v0 : Nat) (v1 : Int) (v2 : Int) (v3 : Int) (v5 : Int) (v6 : Int) (c128 : Int → mSt → Option (Int × mSt)) (x225 : mSt → Option (Int × mSt)) (v7 : Int) (σ : mSt) : Option (Int × mSt) := bnd (v7 + 1) fun a1 => c128 a1 σ
def mL_isSolved_B193 (v0 : Nat) (v1 : Int) (v2 : Int) (v3 : Int) (v5 : Int) (v6 : Int) (v7 : Int) (c138 : Int → mSt → Option (Int × mSt)) (x219 : mSt → Option (Int × mSt)) (v8 : Int) (v9 : Int) (v10 : Int) (σ : mSt) : Option (Int × mSt) := if wI (v7 + v8) ≤ 0 then (bnd (v8 + 1) fun a4 => c138 a4 σ) else if wI (v10 * v10) = wI v9 then (some (0, σ)) else bnd (v8 + 1) fun a7 => c138 a7 σ
def mL_isSolved_L177 (v0 : Nat) (v1 : Int) (v2 : Int) (v3 : Int) (v5 : Int) (v6 : Int) (v7 : Int) (v8 : Int) (v9 : Int) (x193 : Int → mSt → Option (Int × mSt)) : Nat → Int → mSt → Option (Int × mSt)
  | 0, _, _ => none
  | n + 1, v10, σ => if wI v9 ≤ wI (v10 * v10) then (x193 v10 σ) else bnd (v10 + 1) fun a10 => mL_isSolved_L177 v0 v1 v2 v3 v5 v6 v7 v8 v9 x193 n a10 σ
def mL_isSolved_B154 (v0 : Nat) (v1 : Int) (v2 : Int) (v3 : Int) (v5 : Int) (v6 : Int) (v7 : Int) (c138 : Int → mSt → Option (Int × mSt)) (x219 : mSt → Option (Int × mSt)) (v8 : Int) (t0 : Int) (t1 : Int) (σ : mSt) : Option (Int × mSt) := if wI t1 ≤ wI t0 then (x219 σ) else bnd (((v2 * v8) * v8) + ((v3 * v7) * v7)) fun a13 => mL_isSolved_L177 v0 v1 v2 v3 v5 v6 v7 v8 a13 (fun z10 zσ => mL_isSolved_B193 v0 v1 v2 v3 v5 v6 v7 c138 x219 v8 a13 z10 zσ) mF 0 σ
def mL_isSolved_L138 (v0 : Nat) (v1 : Int) (v2 : Int) (v3 : Int) (v5 : Int) (v6 : Int) (v7 : Int) (x219 : mSt → Option (Int × mSt)) : Nat → Int → mSt → Option (Int × mSt)
  | 0, _, _ => none
  | n + 1, v8, σ => if wI v7 = wI v6 then (mL_isSolved_B154 v0 v1 v2 v3 v5 v6 v7 (mL_isSolved_L138 v0 v1 v2 v3 v5 v6 v7 x219 n) x219 v8 v8 v5 σ) else mL_isSolved_B154 v0 v1 v2 v3 v5 v6 v7 (mL_isSolved_L138 v0 v1 v2 v3 v5 v6 v7 x219 n) x219 v8 v8 8 σ
def mL_isSolved_L128 (v0 : Nat) (v1 : Int) (v2 : Int) (v3 : Int) (v5 : Int) (v6 : Int) (x225 : mSt → Option (Int × mSt)) : Nat → Int → mSt → Option (Int × mSt)
  | 0, _, _ => none
  | n + 1, v7, σ => if wI v6 < wI v7 then (x225 σ) else mL_isSolved_L138 v0 v1 v2 v3 v5 v6 v7 (fun zσ => mL_isSolved_B219 v0 v1 v2 v3 v5 v6 (mL_isSolved_L128 v0 v1 v2 v3 v5 v6 x225 n) x225 v7 zσ) mF 0 σ
def mL_isSolved (v0 : Nat) (v1 : Int) (v2 : Int) (v3 : Int) (σ : mSt) : Option (Int × mSt) := mCall (mX11_solution v0 v1 0 σ) fun b17 s18 => mCall (mX11_solution v0 v1 1 s18) fun b20 s21 => mCall (mX11_solution v0 v1 2 s21) fun b23 s24 => mCall (mX11_index v0 v1 s24) fun b26 s27 => if wI b26 = 1 then (if wI b17 < 0 then (some (0, s27)) else if wI b20 < 0 then (some (0, s27)) else if wI b23 < 0 then (some (0, s27)) else if 7 < wI b20 then (some (0, s27)) else if 7 < wI b23 then (some (0, s27)) else if wI ((b17 + b20) + b23) = 0 then (some (0, s27)) else if wI (b17 * b17) = wI (((v2 * b20) * b20) + ((v3 * b23) * b23)) then (mL_isSolved_L128 v0 v1 v2 v3 b20 b23 (fun zσ => mL_isSolved_B225 v0 v1 v2 v3 zσ) mF 0 s27) else some (0, s27)) else if wI b17 = (-2) then (if wI b20 = (-2) then (if wI b23 = (-2) then (some (1, s27)) else some (0, s27)) else some (0, s27)) else some (0, s27)
set_option maxRecDepth 100000 in
set_option maxHeartbeats 4000000 in
theorem wL_isWhole_B92 (l : Launch) (E : mE) (out : Int × mSt) {p : Program} {e : Env} {s : State} {m : MethodId} {args : Array Value} {below : List Frame} {meth : Method} {c : Code} (G : CallFix p m c cL_isWhole 8 s args mTs RL) (hr : meth.sig.returnType = (some .boolean)) (hk : meth.locks = false) (v0 : Nat) (v1 : Int) : ∀ (v2 : Int) (v3 : Int) (v4 : Int) (v5 : Int) (σ : mSt) (H : Heap) (locs : List Loc) (ls : Array Slot), mL_isWhole_B92 v0 v1 v2 v3 v4 v5 σ = some out → mM (mA E 257) E 257 σ s H locs → lv_has ls 8 [(0, .ref (eA E v0)), (1, vI v1), (2, vI v2), (3, vI v3), (4, vI v4), (5, vI v5)] → mGo l p e 4 96 s m args below meth c E (some (vI out.1)) out.2 H locs (F0 m 92 ls []) := by
  intro v2 v3 v4 v5 σ H locs ls hm hM hl
  unfold mL_isWhole_B92 at hm
  refine r_iload_n (np := 93) G hl 2 rfl dL_isWhole_92 rfl rfl ?_
  refine r_bipush (np := 95) G 6 dL_isWhole_93 (by decide) rfl ?_
  obtain ⟨g1, hm⟩ := g_t hm
  refine r_irem (np := 96) G g1 dL_isWhole_95 rfl ?_
  refine r_if_ne (np := 99) (tgt := 153) G rfl dL_isWhole_96 (by decide) rfl (fun h2 => ?_) (fun h2 => ?_)
  · have hm := b_f h2 hm
    refine r_iconst (np := 154) G 0 dL_isWhole_153 rfl ?_
    exact r_zret G hr hk hM (Or.inl rfl) hm dL_isWhole_154
  · have hm := b_t h2 hm
    refine r_aload_n (np := 100) G hl 0 rfl dL_isWhole_99 rfl rfl ?_
    refine r_iload_n (np := 101) G hl 1 rfl dL_isWhole_100 rfl rfl ?_
    refine r_iconst (np := 102) G (-1) dL_isWhole_101 rfl ?_
    obtain ⟨b3, s4, e5, hm⟩ := call_t hm
    refine m_callVI (np := 105) G hM hl.1 [vI v1, vI (-1)] (qX11_place l E σ v0 v1 (-1) _ e5) myX11_place (shp_lt (gX11_place e5) (by decide)) (gX11_place e5) rfl (by decide) lkL_123 ⟨Nat.le_of_ble_eq_true rfl, Nat.le_of_ble_eq_true rfl⟩ ⟨Nat.le_of_ble_eq_true rfl, Nat.le_of_ble_eq_true rfl⟩ [] rfl (Nat.le_of_ble_eq_true rfl) dL_isWhole_102 rfl (fun H locs hM => ?_)
    refine r_iload_n (np := 106) G hl 3 rfl dL_isWhole_105 rfl rfl ?_
    refine r_icmp_ne (np := 109) (tgt := 153) G rfl rfl dL_isWhole_106 (by decide) rfl (fun h6 => ?_) (fun h6 => ?_)
    · have hm := b_f h6 hm
      refine r_iconst (np := 154) G 0 dL_isWhole_153 rfl ?_
      exact r_zret G hr hk hM (Or.inl rfl) hm dL_isWhole_154
    · have hm := b_t h6 hm
      refine r_aload_n (np := 110) G hl 0 rfl dL_isWhole_109 rfl rfl ?_
      refine r_iload_n (np := 111) G hl 1 rfl dL_isWhole_110 rfl rfl ?_
      refine r_iload_n (np := 112) G hl 3 rfl dL_isWhole_111 rfl rfl ?_
      obtain ⟨b7, s8, e9, hm⟩ := call_t hm
      refine m_callVI (np := 115) G hM hl.1 [vI v1, vI v3] (qX11_place l E s4 v0 v1 v3 _ e9) myX11_place (shp_lt (gX11_place e9) (by decide)) (gX11_place e9) rfl (by decide) lkL_123 ⟨Nat.le_of_ble_eq_true rfl, Nat.le_of_ble_eq_true rfl⟩ ⟨Nat.le_of_ble_eq_true rfl, Nat.le_of_ble_eq_true rfl⟩ [] rfl (Nat.le_of_ble_eq_true rfl) dL_isWhole_112 rfl (fun H locs hM => ?_)
      refine r_bipush (np := 117) G (-2) dL_isWhole_115 (by decide) rfl ?_
      refine r_icmp_ne (np := 120) (tgt := 153) G rfl (wIk (-2) rfl) dL_isWhole_117 (by decide) rfl (fun h10 => ?_) (fun h10 => ?_)
      · have hm := b_f h10 hm
        refine r_iconst (np := 154) G 0 dL_isWhole_153 rfl ?_
        exact r_zret G hr hk hM (Or.inl rfl) hm dL_isWhole_154
      · have hm := b_t h10 hm
        refine r_aload_n (np := 121) G hl 0 rfl dL_isWhole_120 rfl rfl ?_
        refine r_iload_n (np := 122) G hl 1 rfl dL_isWhole_121 rfl rfl ?_
        obtain ⟨b11, s12, e13, hm⟩ := call_t hm
        refine m_callVI (np := 125) G hM hl.1 [vI v1] (qX11_index l E s8 v0 v1 _ e13) myX11_index (shp_lt (gX11_index e13) (by decide)) (gX11_index e13) rfl (by decide) lkL_95 ⟨Nat.le_of_ble_eq_true rfl, Nat.le_of_ble_eq_true rfl⟩ ⟨Nat.le_of_ble_eq_true rfl, Nat.le_of_ble_eq_true rfl⟩ [] rfl (Nat.le_of_ble_eq_true rfl) dL_isWhole_122 rfl (fun H locs hM => ?_)
        refine r_iconst (np := 126) G 1 dL_isWhole_125 rfl ?_
        refine r_iload (np := 128) G hl 4 rfl dL_isWhole_126 rfl ?_
        refine r_iadd (np := 129) G dL_isWhole_128 rfl ?_
        refine r_iconst (np := 130) G 1 dL_isWhole_129 rfl ?_
        refine r_iconst (np := 131) G 2 dL_isWhole_130 rfl ?_
        refine r_iload (np := 133) G hl 5 rfl dL_isWhole_131 rfl ?_
        refine r_imul (np := 134) G dL_isWhole_133 rfl ?_
        refine r_iadd (np := 135) G dL_isWhole_134 rfl ?_
        refine r_imul (np := 136) G dL_isWhole_135 rfl ?_
        refine r_icmp_ne (np := 139) (tgt := 153) G rfl rfl dL_isWhole_136 (by decide) rfl (fun h14 => ?_) (fun h14 => ?_)
        · have hm := b_f h14 hm
          refine r_iconst (np := 154) G 0 dL_isWhole_153 rfl ?_
          exact r_zret G hr hk hM (Or.inl rfl) hm dL_isWhole_154
        · have hm := b_t h14 hm
          refine r_aload_n (np := 140) G hl 0 rfl dL_isWhole_139 rfl rfl ?_
          refine r_iload_n (np := 141) G hl 1 rfl dL_isWhole_140 rfl rfl ?_
          refine r_iload_n (np := 142) G hl 1 rfl dL_isWhole_141 rfl rfl ?_
          obtain ⟨b15, s16, e17, hm⟩ := call_t hm
          refine m_callVI (np := 145) G hM hl.1 [vI v1, vI v1] (qX11_alike l E s12 v0 v1 v1 _ e17) myX11_alike (shp_lt (gX11_alike e17) (by decide)) (gX11_alike e17) rfl (by decide) lkL_110 ⟨Nat.le_of_ble_eq_true rfl, Nat.le_of_ble_eq_true rfl⟩ ⟨Nat.le_of_ble_eq_true rfl, Nat.le_of_ble_eq_true rfl⟩ [] rfl (Nat.le_of_ble_eq_true rfl) dL_isWhole_142 rfl (fun H locs hM => ?_)
          refine r_iconst (np := 146) G 1 dL_isWhole_145 rfl ?_
          refine r_icmp_ne (np := 149) (tgt := 153) G rfl (wIk 1 rfl) dL_isWhole_146 (by decide) rfl (fun h18 => ?_) (fun h18 => ?_)
          · have hm := b_f h18 hm
            refine r_iconst (np := 154) G 0 dL_isWhole_153 rfl ?_
            exact r_zret G hr hk hM (Or.inl rfl) hm dL_isWhole_154
          · have hm := b_t h18 hm
            refine r_iconst (np := 150) G 1 dL_isWhole_149 rfl ?_
            refine r_goto (np := 154) G dL_isWhole_150 (by decide) ?_
            exact r_zret G hr hk hM (Or.inr rfl) hm dL_isWhole_154
set_option maxRecDepth 100000 in
set_option maxHeartbeats 4000000 in
theorem wL_isWhole_B83 (l : Launch) (E : mE) (out : Int × mSt) {p : Program} {e : Env} {s : State} {m : MethodId} {args : Array Value} {below : List Frame} {meth : Method} {c : Code} (G : CallFix p m c cL_isWhole 8 s args mTs RL) (hr : meth.sig.returnType = (some .boolean)) (hk : meth.locks = false) (v0 : Nat) (v1 : Int) (c13 : Int → Int → Int → Int → Int → mSt → Option (Int × mSt)) (x92 : Int → Int → Int → Int → mSt → Option (Int × mSt)) (hc13 : ∀ (v2 : Int) (v3 : Int) (v4 : Int) (v5 : Int) (v6 : Int) (σ : mSt) (H : Heap) (locs : List Loc) (ls : Array Slot), c13 v2 v3 v4 v5 v6 σ = some out → mM (mA E 257) E 257 σ s H locs → lv_has ls 8 [(0, .ref (eA E v0)), (1, vI v1), (2, vI v2), (3, vI v3), (4, vI v4), (5, vI v5), (6, vI v6)] → mGo l p e 4 96 s m args below meth c E (some (vI out.1)) out.2 H locs (F0 m 13 ls [])) (hx92 : ∀ (v2 : Int) (v3 : Int) (v4 : Int) (v5 : Int) (σ : mSt) (H : Heap) (locs : List Loc) (ls : Array Slot), x92 v2 v3 v4 v5 σ = some out → mM (mA E 257) E 257 σ s H locs → lv_has ls 8 [(0, .ref (eA E v0)), (1, vI v1), (2, vI v2), (3, vI v3), (4, vI v4), (5, vI v5)] → mGo l p e 4 96 s m args below meth c E (some (vI out.1)) out.2 H locs (F0 m 92 ls [])) : ∀ (v2 : Int) (v3 : Int) (v4 : Int) (v6 : Int) (t0 : Int) (t1 : Int) (σ : mSt) (H : Heap) (locs : List Loc) (ls : Array Slot), mL_isWhole_B83 v0 v1 c13 x92 v2 v3 v4 v6 t0 t1 σ = some out → mM (mA E 257) E 257 σ s H locs → lv_has ls 8 [(0, .ref (eA E v0)), (1, vI v1), (2, vI v2), (3, vI v3), (4, vI v4), (6, vI v6)] → mGo l p e 4 96 s m args below meth c E (some (vI out.1)) out.2 H locs (F0 m 83 ls [vI t1, vI t0]) := by
  intro v2 v3 v4 v6 t0 t1 σ H locs ls hm hM hl
  unfold mL_isWhole_B83 at hm
  refine r_ior (np := 84) G dL_isWhole_83 rfl ?_
  obtain ⟨a19, e20, hm⟩ := bnd_t hm
  refine r_istore (np := 86) G hl e20 [(5, vI a19), (0, .ref (eA E v0)), (1, vI v1), (2, vI v2), (3, vI v3), (4, vI v4), (6, vI v6)] dL_isWhole_84 rfl (by decide) rfl (fun ls hl => ?_)
  obtain ⟨a21, e22, hm⟩ := bnd_t hm
  refine r_iinc (np := 89) G hl 6 rfl e22 [(6, vI a21), (5, vI a19), (0, .ref (eA E v0)), (1, vI v1), (2, vI v2), (3, vI v3), (4, vI v4)] dL_isWhole_86 rfl (by decide) rfl (fun ls hl => ?_)
  refine r_goto (np := 13) G dL_isWhole_89 (by decide) ?_
  exact hc13 v2 v3 v4 a19 a21 _ _ _ _ hm hM (lv_sub hl [2, 3, 4, 5, 6, 1, 0] rfl)
set_option maxRecDepth 100000 in
set_option maxHeartbeats 4000000 in
theorem wL_isWhole_L13 (l : Launch) (E : mE) (out : Int × mSt) {p : Program} {e : Env} {s : State} {m : MethodId} {args : Array Value} {below : List Frame} {meth : Method} {c : Code} (G : CallFix p m c cL_isWhole 8 s args mTs RL) (hr : meth.sig.returnType = (some .boolean)) (hk : meth.locks = false) (v0 : Nat) (v1 : Int) (x92 : Int → Int → Int → Int → mSt → Option (Int × mSt)) (hx92 : ∀ (v2 : Int) (v3 : Int) (v4 : Int) (v5 : Int) (σ : mSt) (H : Heap) (locs : List Loc) (ls : Array Slot), x92 v2 v3 v4 v5 σ = some out → mM (mA E 257) E 257 σ s H locs → lv_has ls 8 [(0, .ref (eA E v0)), (1, vI v1), (2, vI v2), (3, vI v3), (4, vI v4), (5, vI v5)] → mGo l p e 4 96 s m args below meth c E (some (vI out.1)) out.2 H locs (F0 m 92 ls [])) : ∀ (n : Nat) (v2 : Int) (v3 : Int) (v4 : Int) (v5 : Int) (v6 : Int) (σ : mSt) (H : Heap) (locs : List Loc) (ls : Array Slot), mL_isWhole_L13 v0 v1 x92 n v2 v3 v4 v5 v6 σ = some out → mM (mA E 257) E 257 σ s H locs → lv_has ls 8 [(0, .ref (eA E v0)), (1, vI v1), (2, vI v2), (3, vI v3), (4, vI v4), (5, vI v5), (6, vI v6)] → mGo l p e 4 96 s m args below meth c E (some (vI out.1)) out.2 H locs (F0 m 13 ls []) := by
  intro n
  induction n with
  | zero =>
    intro v2 v3 v4 v5 v6 σ H locs ls hm hM hl
    exact absurd hm (by rw [mL_isWhole_L13.eq_1]; exact fun h => nomatch h)
  | succ n ih =>
    intro v2 v3 v4 v5 v6 σ H locs ls hm hM hl
    rw [mL_isWhole_L13.eq_2] at hm
    refine r_iload (np := 15) G hl 6 rfl dL_isWhole_13 rfl ?_
    refine r_sipush (np := 18) G 1000 dL_isWhole_15 (by decide) rfl ?_
    refine r_icmp_ge (np := 21) (tgt := 92) G rfl (wIk 1000 rfl) dL_isWhole_18 (by decide) rfl (fun h23 => ?_) (fun h23 => ?_)
    · have hm := b_t h23 hm
      exact hx92 v2 v3 v4 v5 _ _ _ _ hm hM (lv_sub hl [0, 1, 2, 3, 4, 5] rfl)
    · have hm := b_f h23 hm
      refine r_aload_n (np := 22) G hl 0 rfl dL_isWhole_21 rfl rfl ?_
      refine r_iload_n (np := 23) G hl 1 rfl dL_isWhole_22 rfl rfl ?_
      refine r_iload (np := 25) G hl 6 rfl dL_isWhole_23 rfl ?_
      obtain ⟨b24, s25, e26, hm⟩ := call_t hm
      refine m_callVI (np := 28) G hM hl.1 [vI v1, vI v6] (qX11_local l E σ v0 v1 v6 _ e26) myX11_local (shp_lt (gX11_local e26) (by decide)) (gX11_local e26) rfl (by decide) lkL_102 ⟨Nat.le_of_ble_eq_true rfl, Nat.le_of_ble_eq_true rfl⟩ ⟨Nat.le_of_ble_eq_true rfl, Nat.le_of_ble_eq_true rfl⟩ [] rfl (Nat.le_of_ble_eq_true rfl) dL_isWhole_25 rfl (fun H locs hM => ?_)
      refine r_istore (np := 30) G hl rfl [(7, vI b24), (0, .ref (eA E v0)), (1, vI v1), (2, vI v2), (3, vI v3), (4, vI v4), (5, vI v5), (6, vI v6)] dL_isWhole_28 rfl (by decide) rfl (fun ls hl => ?_)
      refine r_iload (np := 32) G hl 0 rfl dL_isWhole_30 rfl ?_
      refine r_iconst (np := 33) G 1 dL_isWhole_32 rfl ?_
      refine r_icmp_ge (np := 36) (tgt := 39) G rfl (wIk 1 rfl) dL_isWhole_33 (by decide) rfl (fun h27 => ?_) (fun h27 => ?_)
      · have hm := b_t h27 hm
        refine r_aload_n (np := 40) G hl 1 rfl dL_isWhole_39 rfl rfl ?_
        refine r_iload_n (np := 41) G hl 2 rfl dL_isWhole_40 rfl rfl ?_
        refine r_iload_n (np := 42) G hl 4 rfl dL_isWhole_41 rfl rfl ?_
        obtain ⟨b28, s29, e30, hm⟩ := call_t hm
        refine m_callVI (np := 45) G hM hl.1 [vI v1, vI v3] (qX11_place l E s25 v0 v1 v3 _ e30) myX11_place (shp_lt (gX11_place e30) (by decide)) (gX11_place e30) rfl (by decide) lkL_123 ⟨Nat.le_of_ble_eq_true rfl, Nat.le_of_ble_eq_true rfl⟩ ⟨Nat.le_of_ble_eq_true rfl, Nat.le_of_ble_eq_true rfl⟩ [] rfl (Nat.le_of_ble_eq_true rfl) dL_isWhole_42 rfl (fun H locs hM => ?_)
        refine r_iload (np := 47) G hl 7 rfl dL_isWhole_45 rfl ?_
        refine r_icmp_eq (np := 50) (tgt := 52) G rfl rfl dL_isWhole_47 (by decide) rfl (fun h31 => ?_) (fun h31 => ?_)
        · have hm := b_t h31 hm
          obtain ⟨a32, e33, hm⟩ := bnd_t hm
          refine r_iinc (np := 55) G hl 4 rfl e33 [(3, vI a32), (7, vI b24), (0, .ref (eA E v0)), (1, vI v1), (2, vI v2), (4, vI v4), (5, vI v5), (6, vI v6)] dL_isWhole_52 rfl (by decide) rfl (fun ls hl => ?_)
          refine r_iload_n (np := 56) G hl 4 rfl dL_isWhole_55 rfl rfl ?_
          refine r_iload (np := 58) G hl 1 rfl dL_isWhole_56 rfl ?_
          refine r_iadd (np := 59) G dL_isWhole_58 rfl ?_
          obtain ⟨a34, e35, hm⟩ := bnd_t hm
          refine r_istore_n (np := 60) G hl e35 [(2, vI a34), (3, vI a32), (7, vI b24), (0, .ref (eA E v0)), (1, vI v1), (4, vI v4), (5, vI v5), (6, vI v6)] dL_isWhole_59 rfl rfl (by decide) rfl (fun ls hl => ?_)
          refine r_iload (np := 62) G hl 5 rfl dL_isWhole_60 rfl ?_
          refine r_iload (np := 64) G hl 2 rfl dL_isWhole_62 rfl ?_
          refine r_iconst (np := 65) G 2 dL_isWhole_64 rfl ?_
          obtain ⟨g36, hm⟩ := g_t hm
          refine r_irem (np := 66) G g36 dL_isWhole_65 rfl ?_
          refine r_ior (np := 67) G dL_isWhole_66 rfl ?_
          obtain ⟨a37, e38, hm⟩ := bnd_t hm
          refine r_istore (np := 69) G hl e38 [(4, vI a37), (2, vI a34), (3, vI a32), (7, vI b24), (0, .ref (eA E v0)), (1, vI v1), (5, vI v5), (6, vI v6)] dL_isWhole_67 rfl (by decide) rfl (fun ls hl => ?_)
          refine r_iload (np := 71) G hl 6 rfl dL_isWhole_69 rfl ?_
          refine r_iload (np := 73) G hl 3 rfl dL_isWhole_71 rfl ?_
          refine r_iconst (np := 74) G 3 dL_isWhole_73 rfl ?_
          obtain ⟨g39, hm⟩ := g_t hm
          refine r_irem (np := 75) G g39 dL_isWhole_74 rfl ?_
          refine r_if_le (np := 78) (tgt := 82) G rfl dL_isWhole_75 (by decide) rfl (fun h40 => ?_) (fun h40 => ?_)
          · have hm := b_t h40 hm
            refine r_iconst (np := 83) G 0 dL_isWhole_82 rfl ?_
            exact wL_isWhole_B83 l E out G hr hk v0 v1 (mL_isWhole_L13 v0 v1 x92 n) x92 ih hx92 a34 a32 a37 v6 v5 0 _ _ _ _ hm hM (lv_sub hl [4, 5, 1, 2, 0, 7] rfl)
          · have hm := b_f h40 hm
            refine r_iconst (np := 79) G 1 dL_isWhole_78 rfl ?_
            refine r_goto (np := 83) G dL_isWhole_79 (by decide) ?_
            exact wL_isWhole_B83 l E out G hr hk v0 v1 (mL_isWhole_L13 v0 v1 x92 n) x92 ih hx92 a34 a32 a37 v6 v5 1 _ _ _ _ hm hM (lv_sub hl [4, 5, 1, 2, 0, 7] rfl)
        · have hm := b_f h31 hm
          refine r_iconst (np := 51) G 0 dL_isWhole_50 rfl ?_
          exact r_zret G hr hk hM (Or.inl rfl) hm dL_isWhole_51
      · have hm := b_f h27 hm
        refine r_goto (np := 86) G dL_isWhole_36 (by decide) ?_
        obtain ⟨a41, e42, hm⟩ := bnd_t hm
        refine r_iinc (np := 89) G hl 7 rfl e42 [(6, vI a41), (7, vI b24), (0, .ref (eA E v0)), (1, vI v1), (2, vI v2), (3, vI v3), (4, vI v4), (5, vI v5)] dL_isWhole_86 rfl (by decide) rfl (fun ls hl => ?_)
        refine r_goto (np := 13) G dL_isWhole_89 (by decide) ?_
        exact ih v2 v3 v4 v5 a41 _ _ _ _ hm hM (lv_sub hl [2, 3, 4, 5, 6, 7, 0] rfl)
set_option maxRecDepth 100000 in
set_option maxHeartbeats 4000000 in
theorem qL_isWhole (l : Launch) (E : mE) (σ : mSt) (v0 : Nat) (v1 : Int) (out : Int × mSt) (hm : mL_isWhole v0 v1 σ = some out) : mMet l yL_isWhole cL_isWhole 8 (some .boolean) 4 96 E 257 [.ref (eA E v0), vI v1] σ (some (vI out.1)) out.2 := by
  unfold mL_isWhole at hm
  refine m_entry (by decide +kernel) (Nat.le_of_ble_eq_true rfl) (fun p e s m args below meth c G hr hk hM ls hl => ?_)
  have G : CallFix p m c cL_isWhole 8 s args mTs RL := G
  have hl : lv_has ls 8 [(0, .ref (eA E v0)), (1, vI v1)] := hl
  refine r_iconst (np := 1) G 0 dL_isWhole_0 rfl ?_
  refine r_istore_n (np := 2) G hl rfl [(2, vI 0), (0, .ref (eA E v0)), (1, vI v1)] dL_isWhole_1 rfl rfl (by decide) rfl (fun ls hl => ?_)
  refine r_iconst (np := 3) G 0 dL_isWhole_2 rfl ?_
  refine r_istore_n (np := 4) G hl rfl [(3, vI 0), (2, vI 0), (0, .ref (eA E v0)), (1, vI v1)] dL_isWhole_3 rfl rfl (by decide) rfl (fun ls hl => ?_)
  refine r_iconst (np := 5) G 0 dL_isWhole_4 rfl ?_
  refine r_istore (np := 7) G hl rfl [(4, vI 0), (3, vI 0), (2, vI 0), (0, .ref (eA E v0)), (1, vI v1)] dL_isWhole_5 rfl (by decide) rfl (fun ls hl => ?_)
  refine r_iconst (np := 8) G 0 dL_isWhole_7 rfl ?_
  refine r_istore (np := 10) G hl rfl [(5, vI 0), (4, vI 0), (3, vI 0), (2, vI 0), (0, .ref (eA E v0)), (1, vI v1)] dL_isWhole_8 rfl (by decide) rfl (fun ls hl => ?_)
  refine r_iconst (np := 11) G 0 dL_isWhole_10 rfl ?_
  refine r_istore (np := 13) G hl rfl [(6, vI 0), (5, vI 0), (4, vI 0), (3, vI 0), (2, vI 0), (0, .ref (eA E v0)), (1, vI v1)] dL_isWhole_11 rfl (by decide) rfl (fun ls hl => ?_)
  exact wL_isWhole_L13 l E out G hr hk v0 v1 (fun z2 z3 z4 z5 zσ => mL_isWhole_B92 v0 v1 z2 z3 z4 z5 zσ) (fun z2 z3 z4 z5 zσ zH zl zs zm zM zv => wL_isWhole_B92 l E out G hr hk v0 v1 z2 z3 z4 z5 zσ zH zl zs zm zM zv) mF 0 0 0 0 0 _ _ _ _ hm hM (lv_sub hl [5, 6, 4, 3, 2, 1, 0] rfl)
set_option maxRecDepth 100000 in
set_option maxHeartbeats 4000000 in
theorem wL_isSolved_B225 (l : Launch) (E : mE) (out : Int × mSt) {p : Program} {e : Env} {s : State} {m : MethodId} {args : Array Value} {below : List Frame} {meth : Method} {c : Code} (G : CallFix p m c cL_isSolved 11 s args mTs RL) (hr : meth.sig.returnType = (some .boolean)) (hk : meth.locks = false) (v0 : Nat) (v1 : Int) (v2 : Int) (v3 : Int) : ∀ (σ : mSt) (H : Heap) (locs : List Loc) (ls : Array Slot), mL_isSolved_B225 v0 v1 v2 v3 σ = some out → mM (mA E 257) E 257 σ s H locs → lv_has ls 11 [] → mGo l p e 5 118 s m args below meth c E (some (vI out.1)) out.2 H locs (F0 m 225 ls []) := by
  intro σ H locs ls hm hM hl
  unfold mL_isSolved_B225 at hm
  refine r_iconst (np := 226) G 1 dL_isSolved_225 rfl ?_
  exact r_zret G hr hk hM (Or.inr rfl) hm dL_isSolved_226
set_option maxRecDepth 100000 in
set_option maxHeartbeats 4000000 in
theorem wL_isSolved_B219 (l : Launch) (E : mE) (out : Int × mSt) {p : Program} {e : Env} {s : State} {m : MethodId} {args : Array Value} {below : List Frame} {meth : Method} {c : Code} (G : CallFix p m c cL_isSolved 11 s args mTs RL) (hr : meth.sig.returnType = (some .boolean)) (hk : meth.locks = false) (v0 : Nat) (v1 : Int) (v2 : Int) (v3 : Int) (v5 : Int) (v6 : Int) (c128 : Int → mSt → Option (Int × mSt)) (x225 : mSt → Option (Int × mSt)) (hc128 : ∀ (v7 : Int) (σ : mSt) (H : Heap) (locs : List Loc) (ls : Array Slot), c128 v7 σ = some out → mM (mA E 257) E 257 σ s H locs → lv_has ls 11 [(2, vI v2), (3, vI v3), (5, vI v5), (6, vI v6), (7, vI v7)] → mGo l p e 5 118 s m args below meth c E (some (vI out.1)) out.2 H locs (F0 m 128 ls [])) (hx225 : ∀ (σ : mSt) (H : Heap) (locs : List Loc) (ls : Array Slot), x225 σ = some out → mM (mA E 257) E 257 σ s H locs → lv_has ls 11 [] → mGo l p e 5 118 s m args below meth c E (some (vI out.1)) out.2 H locs (F0 m 225 ls [])) : ∀ (v7 : Int) (σ : mSt) (H : Heap) (locs : List Loc) (ls : Array Slot), mL_isSolved_B219 v0 v1 v2 v3 v5 v6 c128 x225 v7 σ = some out → mM (mA E 257) E 257 σ s H locs → lv_has ls 11 [(2, vI v2), (3, vI v3), (5, vI v5), (6, vI v6), (7, vI v7)] → mGo l p e 5 118 s m args below meth c E (some (vI out.1)) out.2 H locs (F0 m 219 ls []) := by
  intro v7 σ H locs ls hm hM hl
  unfold mL_isSolved_B219 at hm
  obtain ⟨a1, e2, hm⟩ := bnd_t hm
  refine r_iinc (np := 222) G hl 4 rfl e2 [(7, vI a1), (2, vI v2), (3, vI v3), (5, vI v5), (6, vI v6)] dL_isSolved_219 rfl (by decide) rfl (fun ls hl => ?_)
  refine r_goto (np := 128) G dL_isSolved_222 (by decide) ?_
  exact hc128 a1 _ _ _ _ hm hM (lv_sub hl [1, 2, 3, 4, 0] rfl)
set_option maxRecDepth 100000 in
set_option maxHeartbeats 4000000 in
theorem wL_isSolved_B193 (l : Launch) (E : mE) (out : Int × mSt) {p : Program} {e : Env} {s : State} {m : MethodId} {args : Array Value} {below : List Frame} {meth : Method} {c : Code} (G : CallFix p m c cL_isSolved 11 s args mTs RL) (hr : meth.sig.returnType = (some .boolean)) (hk : meth.locks = false) (v0 : Nat) (v1 : Int) (v2 : Int) (v3 : Int) (v5 : Int) (v6 : Int) (v7 : Int) (c138 : Int → mSt → Option (Int × mSt)) (x219 : mSt → Option (Int × mSt)) (hc138 : ∀ (v8 : Int) (σ : mSt) (H : Heap) (locs : List Loc) (ls : Array Slot), c138 v8 σ = some out → mM (mA E 257) E 257 σ s H locs → lv_has ls 11 [(2, vI v2), (3, vI v3), (5, vI v5), (6, vI v6), (7, vI v7), (8, vI v8)] → mGo l p e 5 118 s m args below meth c E (some (vI out.1)) out.2 H locs (F0 m 138 ls [])) (hx219 : ∀ (σ : mSt) (H : Heap) (locs : List Loc) (ls : Array Slot), x219 σ = some out → mM (mA E 257) E 257 σ s H locs → lv_has ls 11 [(2, vI v2), (3, vI v3), (5, vI v5), (6, vI v6), (7, vI v7)] → mGo l p e 5 118 s m args below meth c E (some (vI out.1)) out.2 H locs (F0 m 219 ls [])) : ∀ (v8 : Int) (v9 : Int) (v10 : Int) (σ : mSt) (H : Heap) (locs : List Loc) (ls : Array Slot), mL_isSolved_B193 v0 v1 v2 v3 v5 v6 v7 c138 x219 v8 v9 v10 σ = some out → mM (mA E 257) E 257 σ s H locs → lv_has ls 11 [(2, vI v2), (3, vI v3), (5, vI v5), (6, vI v6), (7, vI v7), (8, vI v8), (9, vI v9), (10, vI v10)] → mGo l p e 5 118 s m args below meth c E (some (vI out.1)) out.2 H locs (F0 m 193 ls []) := by
  intro v8 v9 v10 σ H locs ls hm hM hl
  unfold mL_isSolved_B193 at hm
  refine r_iload (np := 195) G hl 4 rfl dL_isSolved_193 rfl ?_
  refine r_iload (np := 197) G hl 5 rfl dL_isSolved_195 rfl ?_
  refine r_iadd (np := 198) G dL_isSolved_197 rfl ?_
  refine r_if_le (np := 201) (tgt := 213) G rfl dL_isSolved_198 (by decide) rfl (fun h3 => ?_) (fun h3 => ?_)
  · have hm := b_t h3 hm
    obtain ⟨a4, e5, hm⟩ := bnd_t hm
    refine r_iinc (np := 216) G hl 5 rfl e5 [(8, vI a4), (2, vI v2), (3, vI v3), (5, vI v5), (6, vI v6), (7, vI v7), (9, vI v9), (10, vI v10)] dL_isSolved_213 rfl (by decide) rfl (fun ls hl => ?_)
    refine r_goto (np := 138) G dL_isSolved_216 (by decide) ?_
    exact hc138 a4 _ _ _ _ hm hM (lv_sub hl [1, 2, 3, 4, 5, 0] rfl)
  · have hm := b_f h3 hm
    refine r_iload (np := 203) G hl 7 rfl dL_isSolved_201 rfl ?_
    refine r_iload (np := 205) G hl 7 rfl dL_isSolved_203 rfl ?_
    refine r_imul (np := 206) G dL_isSolved_205 rfl ?_
    refine r_iload (np := 208) G hl 6 rfl dL_isSolved_206 rfl ?_
    refine r_icmp_ne (np := 211) (tgt := 213) G rfl rfl dL_isSolved_208 (by decide) rfl (fun h6 => ?_) (fun h6 => ?_)
    · have hm := b_f h6 hm
      obtain ⟨a7, e8, hm⟩ := bnd_t hm
      refine r_iinc (np := 216) G hl 5 rfl e8 [(8, vI a7), (2, vI v2), (3, vI v3), (5, vI v5), (6, vI v6), (7, vI v7), (9, vI v9), (10, vI v10)] dL_isSolved_213 rfl (by decide) rfl (fun ls hl => ?_)
      refine r_goto (np := 138) G dL_isSolved_216 (by decide) ?_
      exact hc138 a7 _ _ _ _ hm hM (lv_sub hl [1, 2, 3, 4, 5, 0] rfl)
    · have hm := b_t h6 hm
      refine r_iconst (np := 212) G 0 dL_isSolved_211 rfl ?_
      exact r_zret G hr hk hM (Or.inl rfl) hm dL_isSolved_212
set_option maxRecDepth 100000 in
set_option maxHeartbeats 4000000 in
theorem wL_isSolved_L177 (l : Launch) (E : mE) (out : Int × mSt) {p : Program} {e : Env} {s : State} {m : MethodId} {args : Array Value} {below : List Frame} {meth : Method} {c : Code} (G : CallFix p m c cL_isSolved 11 s args mTs RL) (hr : meth.sig.returnType = (some .boolean)) (hk : meth.locks = false) (v0 : Nat) (v1 : Int) (v2 : Int) (v3 : Int) (v5 : Int) (v6 : Int) (v7 : Int) (v8 : Int) (v9 : Int) (x193 : Int → mSt → Option (Int × mSt)) (hx193 : ∀ (v10 : Int) (σ : mSt) (H : Heap) (locs : List Loc) (ls : Array Slot), x193 v10 σ = some out → mM (mA E 257) E 257 σ s H locs → lv_has ls 11 [(2, vI v2), (3, vI v3), (5, vI v5), (6, vI v6), (7, vI v7), (8, vI v8), (9, vI v9), (10, vI v10)] → mGo l p e 5 118 s m args below meth c E (some (vI out.1)) out.2 H locs (F0 m 193 ls [])) : ∀ (n : Nat) (v10 : Int) (σ : mSt) (H : Heap) (locs : List Loc) (ls : Array Slot), mL_isSolved_L177 v0 v1 v2 v3 v5 v6 v7 v8 v9 x193 n v10 σ = some out → mM (mA E 257) E 257 σ s H locs → lv_has ls 11 [(2, vI v2), (3, vI v3), (5, vI v5), (6, vI v6), (7, vI v7), (8, vI v8), (9, vI v9), (10, vI v10)] → mGo l p e 5 118 s m args below meth c E (some (vI out.1)) out.2 H locs (F0 m 177 ls []) := by
  intro n
  induction n with
  | zero =>
    intro v10 σ H locs ls hm hM hl
    exact absurd hm (by rw [mL_isSolved_L177.eq_1]; exact fun h => nomatch h)
  | succ n ih =>
    intro v10 σ H locs ls hm hM hl
    rw [mL_isSolved_L177.eq_2] at hm
    refine r_iload (np := 179) G hl 7 rfl dL_isSolved_177 rfl ?_
    refine r_iload (np := 181) G hl 7 rfl dL_isSolved_179 rfl ?_
    refine r_imul (np := 182) G dL_isSolved_181 rfl ?_
    refine r_iload (np := 184) G hl 6 rfl dL_isSolved_182 rfl ?_
    refine r_icmp_ge (np := 187) (tgt := 193) G rfl rfl dL_isSolved_184 (by decide) rfl (fun h9 => ?_) (fun h9 => ?_)
    · have hm := b_t h9 hm
      exact hx193 v10 _ _ _ _ hm hM (lv_sub hl [0, 1, 2, 3, 4, 5, 6, 7] rfl)
    · have hm := b_f h9 hm
      obtain ⟨a10, e11, hm⟩ := bnd_t hm
      refine r_iinc (np := 190) G hl 7 rfl e11 [(10, vI a10), (2, vI v2), (3, vI v3), (5, vI v5), (6, vI v6), (7, vI v7), (8, vI v8), (9, vI v9)] dL_isSolved_187 rfl (by decide) rfl (fun ls hl => ?_)
      refine r_goto (np := 177) G dL_isSolved_190 (by decide) ?_
      exact ih a10 _ _ _ _ hm hM (lv_sub hl [1, 2, 3, 4, 5, 6, 7, 0] rfl)
set_option maxRecDepth 100000 in
set_option maxHeartbeats 4000000 in
theorem wL_isSolved_B154 (l : Launch) (E : mE) (out : Int × mSt) {p : Program} {e : Env} {s : State} {m : MethodId} {args : Array Value} {below : List Frame} {meth : Method} {c : Code} (G : CallFix p m c cL_isSolved 11 s args mTs RL) (hr : meth.sig.returnType = (some .boolean)) (hk : meth.locks = false) (v0 : Nat) (v1 : Int) (v2 : Int) (v3 : Int) (v5 : Int) (v6 : Int) (v7 : Int) (c138 : Int → mSt → Option (Int × mSt)) (x219 : mSt → Option (Int × mSt)) (hc138 : ∀ (v8 : Int) (σ : mSt) (H : Heap) (locs : List Loc) (ls : Array Slot), c138 v8 σ = some out → mM (mA E 257) E 257 σ s H locs → lv_has ls 11 [(2, vI v2), (3, vI v3), (5, vI v5), (6, vI v6), (7, vI v7), (8, vI v8)] → mGo l p e 5 118 s m args below meth c E (some (vI out.1)) out.2 H locs (F0 m 138 ls [])) (hx219 : ∀ (σ : mSt) (H : Heap) (locs : List Loc) (ls : Array Slot), x219 σ = some out → mM (mA E 257) E 257 σ s H locs → lv_has ls 11 [(2, vI v2), (3, vI v3), (5, vI v5), (6, vI v6), (7, vI v7)] → mGo l p e 5 118 s m args below meth c E (some (vI out.1)) out.2 H locs (F0 m 219 ls [])) : ∀ (v8 : Int) (t0 : Int) (t1 : Int) (σ : mSt) (H : Heap) (locs : List Loc) (ls : Array Slot), mL_isSolved_B154 v0 v1 v2 v3 v5 v6 v7 c138 x219 v8 t0 t1 σ = some out → mM (mA E 257) E 257 σ s H locs → lv_has ls 11 [(2, vI v2), (3, vI v3), (5, vI v5), (6, vI v6), (7, vI v7), (8, vI v8)] → mGo l p e 5 118 s m args below meth c E (some (vI out.1)) out.2 H locs (F0 m 154 ls [vI t1, vI t0]) := by
  intro v8 t0 t1 σ H locs ls hm hM hl
  unfold mL_isSolved_B154 at hm
  refine r_icmp_ge (np := 157) (tgt := 219) G rfl rfl dL_isSolved_154 (by decide) rfl (fun h12 => ?_) (fun h12 => ?_)
  · have hm := b_t h12 hm
    exact hx219 _ _ _ _ hm hM (lv_sub hl [0, 1, 2, 3, 4] rfl)
  · have hm := b_f h12 hm
    refine r_iload_n (np := 158) G hl 0 rfl dL_isSolved_157 rfl rfl ?_
    refine r_iload (np := 160) G hl 5 rfl dL_isSolved_158 rfl ?_
    refine r_imul (np := 161) G dL_isSolved_160 rfl ?_
    refine r_iload (np := 163) G hl 5 rfl dL_isSolved_161 rfl ?_
    refine r_imul (np := 164) G dL_isSolved_163 rfl ?_
    refine r_iload_n (np := 165) G hl 1 rfl dL_isSolved_164 rfl rfl ?_
    refine r_iload (np := 167) G hl 4 rfl dL_isSolved_165 rfl ?_
    refine r_imul (np := 168) G dL_isSolved_167 rfl ?_
    refine r_iload (np := 170) G hl 4 rfl dL_isSolved_168 rfl ?_
    refine r_imul (np := 171) G dL_isSolved_170 rfl ?_
    refine r_iadd (np := 172) G dL_isSolved_171 rfl ?_
    obtain ⟨a13, e14, hm⟩ := bnd_t hm
    refine r_istore (np := 174) G hl e14 [(9, vI a13), (2, vI v2), (3, vI v3), (5, vI v5), (6, vI v6), (7, vI v7), (8, vI v8)] dL_isSolved_172 rfl (by decide) rfl (fun ls hl => ?_)
    refine r_iconst (np := 175) G 0 dL_isSolved_174 rfl ?_
    refine r_istore (np := 177) G hl rfl [(10, vI 0), (9, vI a13), (2, vI v2), (3, vI v3), (5, vI v5), (6, vI v6), (7, vI v7), (8, vI v8)] dL_isSolved_175 rfl (by decide) rfl (fun ls hl => ?_)
    exact wL_isSolved_L177 l E out G hr hk v0 v1 v2 v3 v5 v6 v7 v8 a13 (fun z10 zσ => mL_isSolved_B193 v0 v1 v2 v3 v5 v6 v7 c138 x219 v8 a13 z10 zσ) (fun z10 zσ zH zl zs zm zM zv => wL_isSolved_B193 l E out G hr hk v0 v1 v2 v3 v5 v6 v7 c138 x219 hc138 hx219 v8 a13 z10 zσ zH zl zs zm zM zv) mF 0 _ _ _ _ hm hM (lv_sub hl [2, 3, 4, 5, 6, 7, 1, 0] rfl)
set_option maxRecDepth 100000 in
set_option maxHeartbeats 4000000 in
theorem wL_isSolved_L138 (l : Launch) (E : mE) (out : Int × mSt) {p : Program} {e : Env} {s : State} {m : MethodId} {args : Array Value} {below : List Frame} {meth : Method} {c : Code} (G : CallFix p m c cL_isSolved 11 s args mTs RL) (hr : meth.sig.returnType = (some .boolean)) (hk : meth.locks = false) (v0 : Nat) (v1 : Int) (v2 : Int) (v3 : Int) (v5 : Int) (v6 : Int) (v7 : Int) (x219 : mSt → Option (Int × mSt)) (hx219 : ∀ (σ : mSt) (H : Heap) (locs : List Loc) (ls : Array Slot), x219 σ = some out → mM (mA E 257) E 257 σ s H locs → lv_has ls 11 [(2, vI v2), (3, vI v3), (5, vI v5), (6, vI v6), (7, vI v7)] → mGo l p e 5 118 s m args below meth c E (some (vI out.1)) out.2 H locs (F0 m 219 ls [])) : ∀ (n : Nat) (v8 : Int) (σ : mSt) (H : Heap) (locs : List Loc) (ls : Array Slot), mL_isSolved_L138 v0 v1 v2 v3 v5 v6 v7 x219 n v8 σ = some out → mM (mA E 257) E 257 σ s H locs → lv_has ls 11 [(2, vI v2), (3, vI v3), (5, vI v5), (6, vI v6), (7, vI v7), (8, vI v8)] → mGo l p e 5 118 s m args below meth c E (some (vI out.1)) out.2 H locs (F0 m 138 ls []) := by
  intro n
  induction n with
  | zero =>
    intro v8 σ H locs ls hm hM hl
    exact absurd hm (by rw [mL_isSolved_L138.eq_1]; exact fun h => nomatch h)
  | succ n ih =>
    intro v8 σ H locs ls hm hM hl
    rw [mL_isSolved_L138.eq_2] at hm
    refine r_iload (np := 140) G hl 5 rfl dL_isSolved_138 rfl ?_
    refine r_iload (np := 142) G hl 4 rfl dL_isSolved_140 rfl ?_
    refine r_iload (np := 144) G hl 3 rfl dL_isSolved_142 rfl ?_
    refine r_icmp_ne (np := 147) (tgt := 152) G rfl rfl dL_isSolved_144 (by decide) rfl (fun h15 => ?_) (fun h15 => ?_)
    · have hm := b_f h15 hm
      refine r_bipush (np := 154) G 8 dL_isSolved_152 (by decide) rfl ?_
      exact wL_isSolved_B154 l E out G hr hk v0 v1 v2 v3 v5 v6 v7 (mL_isSolved_L138 v0 v1 v2 v3 v5 v6 v7 x219 n) x219 ih hx219 v8 v8 8 _ _ _ _ hm hM (lv_sub hl [0, 1, 2, 3, 4, 5] rfl)
    · have hm := b_t h15 hm
      refine r_iload (np := 149) G hl 2 rfl dL_isSolved_147 rfl ?_
      refine r_goto (np := 154) G dL_isSolved_149 (by decide) ?_
      exact wL_isSolved_B154 l E out G hr hk v0 v1 v2 v3 v5 v6 v7 (mL_isSolved_L138 v0 v1 v2 v3 v5 v6 v7 x219 n) x219 ih hx219 v8 v8 v5 _ _ _ _ hm hM (lv_sub hl [0, 1, 2, 3, 4, 5] rfl)
set_option maxRecDepth 100000 in
set_option maxHeartbeats 4000000 in
theorem wL_isSolved_L128 (l : Launch) (E : mE) (out : Int × mSt) {p : Program} {e : Env} {s : State} {m : MethodId} {args : Array Value} {below : List Frame} {meth : Method} {c : Code} (G : CallFix p m c cL_isSolved 11 s args mTs RL) (hr : meth.sig.returnType = (some .boolean)) (hk : meth.locks = false) (v0 : Nat) (v1 : Int) (v2 : Int) (v3 : Int) (v5 : Int) (v6 : Int) (x225 : mSt → Option (Int × mSt)) (hx225 : ∀ (σ : mSt) (H : Heap) (locs : List Loc) (ls : Array Slot), x225 σ = some out → mM (mA E 257) E 257 σ s H locs → lv_has ls 11 [] → mGo l p e 5 118 s m args below meth c E (some (vI out.1)) out.2 H locs (F0 m 225 ls [])) : ∀ (n : Nat) (v7 : Int) (σ : mSt) (H : Heap) (locs : List Loc) (ls : Array Slot), mL_isSolved_L128 v0 v1 v2 v3 v5 v6 x225 n v7 σ = some out → mM (mA E 257) E 257 σ s H locs → lv_has ls 11 [(2, vI v2), (3, vI v3), (5, vI v5), (6, vI v6), (7, vI v7)] → mGo l p e 5 118 s m args below meth c E (some (vI out.1)) out.2 H locs (F0 m 128 ls []) := by
  intro n
  induction n with
  | zero =>
    intro v7 σ H locs ls hm hM hl
    exact absurd hm (by rw [mL_isSolved_L128.eq_1]; exact fun h => nomatch h)
  | succ n ih =>
    intro v7 σ H locs ls hm hM hl
    rw [mL_isSolved_L128.eq_2] at hm
    refine r_iload (np := 130) G hl 4 rfl dL_isSolved_128 rfl ?_
    refine r_iload (np := 132) G hl 3 rfl dL_isSolved_130 rfl ?_
    refine r_icmp_gt (np := 135) (tgt := 225) G rfl rfl dL_isSolved_132 (by decide) rfl (fun h16 => ?_) (fun h16 => ?_)
    · have hm := b_t h16 hm
      exact hx225 _ _ _ _ hm hM (lv_sub hl [] rfl)
    · have hm := b_f h16 hm
      refine r_iconst (np := 136) G 0 dL_isSolved_135 rfl ?_
      refine r_istore (np := 138) G hl rfl [(8, vI 0), (2, vI v2), (3, vI v3), (5, vI v5), (6, vI v6), (7, vI v7)] dL_isSolved_136 rfl (by decide) rfl (fun ls hl => ?_)
      exact wL_isSolved_L138 l E out G hr hk v0 v1 v2 v3 v5 v6 v7 (fun zσ => mL_isSolved_B219 v0 v1 v2 v3 v5 v6 (mL_isSolved_L128 v0 v1 v2 v3 v5 v6 x225 n) x225 v7 zσ) (fun zσ zH zl zs zm zM zv => wL_isSolved_B219 l E out G hr hk v0 v1 v2 v3 v5 v6 (mL_isSolved_L128 v0 v1 v2 v3 v5 v6 x225 n) x225 ih hx225 v7 zσ zH zl zs zm zM zv) mF 0 _ _ _ _ hm hM (lv_sub hl [1, 2, 3, 4, 5, 0] rfl)
set_option maxRecDepth 100000 in
set_option maxHeartbeats 4000000 in
theorem qL_isSolved (l : Launch) (E : mE) (σ : mSt) (v0 : Nat) (v1 : Int) (v2 : Int) (v3 : Int) (out : Int × mSt) (hm : mL_isSolved v0 v1 v2 v3 σ = some out) : mMet l yL_isSolved cL_isSolved 11 (some .boolean) 5 118 E 257 [.ref (eA E v0), vI v1, vI v2, vI v3] σ (some (vI out.1)) out.2 := by
  unfold mL_isSolved at hm
  refine m_entry (by decide +kernel) (Nat.le_of_ble_eq_true rfl) (fun p e s m args below meth c G hr hk hM ls hl => ?_)
  have G : CallFix p m c cL_isSolved 11 s args mTs RL := G
  have hl : lv_has ls 11 [(0, .ref (eA E v0)), (1, vI v1), (2, vI v2), (3, vI v3)] := hl
  refine r_aload_n (np := 1) G hl 0 rfl dL_isSolved_0 rfl rfl ?_
  refine r_iload_n (np := 2) G hl 1 rfl dL_isSolved_1 rfl rfl ?_
  refine r_iconst (np := 3) G 0 dL_isSolved_2 rfl ?_
  obtain ⟨b17, s18, e19, hm⟩ := call_t hm
  refine m_callVI (np := 6) G hM hl.1 [vI v1, vI 0] (qX11_solution l E σ v0 v1 0 _ e19) myX11_solution (shp_lt (gX11_solution e19) (by decide)) (gX11_solution e19) rfl (by decide) lkL_117 ⟨Nat.le_of_ble_eq_true rfl, Nat.le_of_ble_eq_true rfl⟩ ⟨Nat.le_of_ble_eq_true rfl, Nat.le_of_ble_eq_true rfl⟩ [] rfl (Nat.le_of_ble_eq_true rfl) dL_isSolved_3 rfl (fun H locs hM => ?_)
  refine r_istore (np := 8) G hl rfl [(4, vI b17), (0, .ref (eA E v0)), (1, vI v1), (2, vI v2), (3, vI v3)] dL_isSolved_6 rfl (by decide) rfl (fun ls hl => ?_)
  refine r_aload_n (np := 9) G hl 1 rfl dL_isSolved_8 rfl rfl ?_
  refine r_iload_n (np := 10) G hl 2 rfl dL_isSolved_9 rfl rfl ?_
  refine r_iconst (np := 11) G 1 dL_isSolved_10 rfl ?_
  obtain ⟨b20, s21, e22, hm⟩ := call_t hm
  refine m_callVI (np := 14) G hM hl.1 [vI v1, vI 1] (qX11_solution l E s18 v0 v1 1 _ e22) myX11_solution (shp_lt (gX11_solution e22) (by decide)) (gX11_solution e22) rfl (by decide) lkL_117 ⟨Nat.le_of_ble_eq_true rfl, Nat.le_of_ble_eq_true rfl⟩ ⟨Nat.le_of_ble_eq_true rfl, Nat.le_of_ble_eq_true rfl⟩ [] rfl (Nat.le_of_ble_eq_true rfl) dL_isSolved_11 rfl (fun H locs hM => ?_)
  refine r_istore (np := 16) G hl rfl [(5, vI b20), (4, vI b17), (0, .ref (eA E v0)), (1, vI v1), (2, vI v2), (3, vI v3)] dL_isSolved_14 rfl (by decide) rfl (fun ls hl => ?_)
  refine r_aload_n (np := 17) G hl 2 rfl dL_isSolved_16 rfl rfl ?_
  refine r_iload_n (np := 18) G hl 3 rfl dL_isSolved_17 rfl rfl ?_
  refine r_iconst (np := 19) G 2 dL_isSolved_18 rfl ?_
  obtain ⟨b23, s24, e25, hm⟩ := call_t hm
  refine m_callVI (np := 22) G hM hl.1 [vI v1, vI 2] (qX11_solution l E s21 v0 v1 2 _ e25) myX11_solution (shp_lt (gX11_solution e25) (by decide)) (gX11_solution e25) rfl (by decide) lkL_117 ⟨Nat.le_of_ble_eq_true rfl, Nat.le_of_ble_eq_true rfl⟩ ⟨Nat.le_of_ble_eq_true rfl, Nat.le_of_ble_eq_true rfl⟩ [] rfl (Nat.le_of_ble_eq_true rfl) dL_isSolved_19 rfl (fun H locs hM => ?_)
  refine r_istore (np := 24) G hl rfl [(6, vI b23), (5, vI b20), (4, vI b17), (0, .ref (eA E v0)), (1, vI v1), (2, vI v2), (3, vI v3)] dL_isSolved_22 rfl (by decide) rfl (fun ls hl => ?_)
  refine r_aload_n (np := 25) G hl 3 rfl dL_isSolved_24 rfl rfl ?_
  refine r_iload_n (np := 26) G hl 4 rfl dL_isSolved_25 rfl rfl ?_
  obtain ⟨b26, s27, e28, hm⟩ := call_t hm
  refine m_callVI (np := 29) G hM hl.1 [vI v1] (qX11_index l E s24 v0 v1 _ e28) myX11_index (shp_lt (gX11_index e28) (by decide)) (gX11_index e28) rfl (by decide) lkL_95 ⟨Nat.le_of_ble_eq_true rfl, Nat.le_of_ble_eq_true rfl⟩ ⟨Nat.le_of_ble_eq_true rfl, Nat.le_of_ble_eq_true rfl⟩ [] rfl (Nat.le_of_ble_eq_true rfl) dL_isSolved_26 rfl (fun H locs hM => ?_)
  refine r_iconst (np := 30) G 1 dL_isSolved_29 rfl ?_
  refine r_icmp_eq (np := 33) (tgt := 60) G rfl (wIk 1 rfl) dL_isSolved_30 (by decide) rfl (fun h29 => ?_) (fun h29 => ?_)
  · have hm := b_t h29 hm
    refine r_iload (np := 62) G hl 2 rfl dL_isSolved_60 rfl ?_
    refine r_if_lt (np := 65) (tgt := 123) G rfl dL_isSolved_62 (by decide) rfl (fun h30 => ?_) (fun h30 => ?_)
    · have hm := b_t h30 hm
      refine r_iconst (np := 124) G 0 dL_isSolved_123 rfl ?_
      exact r_zret G hr hk hM (Or.inl rfl) hm dL_isSolved_124
    · have hm := b_f h30 hm
      refine r_iload (np := 67) G hl 1 rfl dL_isSolved_65 rfl ?_
      refine r_if_lt (np := 70) (tgt := 123) G rfl dL_isSolved_67 (by decide) rfl (fun h31 => ?_) (fun h31 => ?_)
      · have hm := b_t h31 hm
        refine r_iconst (np := 124) G 0 dL_isSolved_123 rfl ?_
        exact r_zret G hr hk hM (Or.inl rfl) hm dL_isSolved_124
      · have hm := b_f h31 hm
        refine r_iload (np := 72) G hl 0 rfl dL_isSolved_70 rfl ?_
        refine r_if_lt (np := 75) (tgt := 123) G rfl dL_isSolved_72 (by decide) rfl (fun h32 => ?_) (fun h32 => ?_)
        · have hm := b_t h32 hm
          refine r_iconst (np := 124) G 0 dL_isSolved_123 rfl ?_
          exact r_zret G hr hk hM (Or.inl rfl) hm dL_isSolved_124
        · have hm := b_f h32 hm
          refine r_iload (np := 77) G hl 1 rfl dL_isSolved_75 rfl ?_
          refine r_bipush (np := 79) G 7 dL_isSolved_77 (by decide) rfl ?_
          refine r_icmp_gt (np := 82) (tgt := 123) G rfl (wIk 7 rfl) dL_isSolved_79 (by decide) rfl (fun h33 => ?_) (fun h33 => ?_)
          · have hm := b_t h33 hm
            refine r_iconst (np := 124) G 0 dL_isSolved_123 rfl ?_
            exact r_zret G hr hk hM (Or.inl rfl) hm dL_isSolved_124
          · have hm := b_f h33 hm
            refine r_iload (np := 84) G hl 0 rfl dL_isSolved_82 rfl ?_
            refine r_bipush (np := 86) G 7 dL_isSolved_84 (by decide) rfl ?_
            refine r_icmp_gt (np := 89) (tgt := 123) G rfl (wIk 7 rfl) dL_isSolved_86 (by decide) rfl (fun h34 => ?_) (fun h34 => ?_)
            · have hm := b_t h34 hm
              refine r_iconst (np := 124) G 0 dL_isSolved_123 rfl ?_
              exact r_zret G hr hk hM (Or.inl rfl) hm dL_isSolved_124
            · have hm := b_f h34 hm
              refine r_iload (np := 91) G hl 2 rfl dL_isSolved_89 rfl ?_
              refine r_iload (np := 93) G hl 1 rfl dL_isSolved_91 rfl ?_
              refine r_iadd (np := 94) G dL_isSolved_93 rfl ?_
              refine r_iload (np := 96) G hl 0 rfl dL_isSolved_94 rfl ?_
              refine r_iadd (np := 97) G dL_isSolved_96 rfl ?_
              refine r_if_eq (np := 100) (tgt := 123) G rfl dL_isSolved_97 (by decide) rfl (fun h35 => ?_) (fun h35 => ?_)
              · have hm := b_t h35 hm
                refine r_iconst (np := 124) G 0 dL_isSolved_123 rfl ?_
                exact r_zret G hr hk hM (Or.inl rfl) hm dL_isSolved_124
              · have hm := b_f h35 hm
                refine r_iload (np := 102) G hl 2 rfl dL_isSolved_100 rfl ?_
                refine r_iload (np := 104) G hl 2 rfl dL_isSolved_102 rfl ?_
                refine r_imul (np := 105) G dL_isSolved_104 rfl ?_
                refine r_iload_n (np := 106) G hl 5 rfl dL_isSolved_105 rfl rfl ?_
                refine r_iload (np := 108) G hl 1 rfl dL_isSolved_106 rfl ?_
                refine r_imul (np := 109) G dL_isSolved_108 rfl ?_
                refine r_iload (np := 111) G hl 1 rfl dL_isSolved_109 rfl ?_
                refine r_imul (np := 112) G dL_isSolved_111 rfl ?_
                refine r_iload_n (np := 113) G hl 6 rfl dL_isSolved_112 rfl rfl ?_
                refine r_iload (np := 115) G hl 0 rfl dL_isSolved_113 rfl ?_
                refine r_imul (np := 116) G dL_isSolved_115 rfl ?_
                refine r_iload (np := 118) G hl 0 rfl dL_isSolved_116 rfl ?_
                refine r_imul (np := 119) G dL_isSolved_118 rfl ?_
                refine r_iadd (np := 120) G dL_isSolved_119 rfl ?_
                refine r_icmp_eq (np := 123) (tgt := 125) G rfl rfl dL_isSolved_120 (by decide) rfl (fun h36 => ?_) (fun h36 => ?_)
                · have hm := b_t h36 hm
                  refine r_iconst (np := 126) G 0 dL_isSolved_125 rfl ?_
                  refine r_istore (np := 128) G hl rfl [(7, vI 0), (6, vI b23), (5, vI b20), (4, vI b17), (0, .ref (eA E v0)), (1, vI v1), (2, vI v2), (3, vI v3)] dL_isSolved_126 rfl (by decide) rfl (fun ls hl => ?_)
                  exact wL_isSolved_L128 l E out G hr hk v0 v1 v2 v3 b20 b23 (fun zσ => mL_isSolved_B225 v0 v1 v2 v3 zσ) (fun zσ zH zl zs zm zM zv => wL_isSolved_B225 l E out G hr hk v0 v1 v2 v3 zσ zH zl zs zm zM zv) mF 0 _ _ _ _ hm hM (lv_sub hl [6, 7, 2, 1, 0] rfl)
                · have hm := b_f h36 hm
                  refine r_iconst (np := 124) G 0 dL_isSolved_123 rfl ?_
                  exact r_zret G hr hk hM (Or.inl rfl) hm dL_isSolved_124
  · have hm := b_f h29 hm
    refine r_iload (np := 35) G hl 2 rfl dL_isSolved_33 rfl ?_
    refine r_bipush (np := 37) G (-2) dL_isSolved_35 (by decide) rfl ?_
    refine r_icmp_ne (np := 40) (tgt := 58) G rfl (wIk (-2) rfl) dL_isSolved_37 (by decide) rfl (fun h37 => ?_) (fun h37 => ?_)
    · have hm := b_f h37 hm
      refine r_iconst (np := 59) G 0 dL_isSolved_58 rfl ?_
      exact r_zret G hr hk hM (Or.inl rfl) hm dL_isSolved_59
    · have hm := b_t h37 hm
      refine r_iload (np := 42) G hl 1 rfl dL_isSolved_40 rfl ?_
      refine r_bipush (np := 44) G (-2) dL_isSolved_42 (by decide) rfl ?_
      refine r_icmp_ne (np := 47) (tgt := 58) G rfl (wIk (-2) rfl) dL_isSolved_44 (by decide) rfl (fun h38 => ?_) (fun h38 => ?_)
      · have hm := b_f h38 hm
        refine r_iconst (np := 59) G 0 dL_isSolved_58 rfl ?_
        exact r_zret G hr hk hM (Or.inl rfl) hm dL_isSolved_59
      · have hm := b_t h38 hm
        refine r_iload (np := 49) G hl 0 rfl dL_isSolved_47 rfl ?_
        refine r_bipush (np := 51) G (-2) dL_isSolved_49 (by decide) rfl ?_
        refine r_icmp_ne (np := 54) (tgt := 58) G rfl (wIk (-2) rfl) dL_isSolved_51 (by decide) rfl (fun h39 => ?_) (fun h39 => ?_)
        · have hm := b_f h39 hm
          refine r_iconst (np := 59) G 0 dL_isSolved_58 rfl ?_
          exact r_zret G hr hk hM (Or.inl rfl) hm dL_isSolved_59
        · have hm := b_t h39 hm
          refine r_iconst (np := 55) G 1 dL_isSolved_54 rfl ?_
          refine r_goto (np := 59) G dL_isSolved_55 (by decide) ?_
          exact r_zret G hr hk hM (Or.inr rfl) hm dL_isSolved_59
