theorem lkX12_344 : Cond.methodLink RX12 344 yX12_entry ∈ mTs := mTs_in 1701 (by decide +kernel) (by decide +kernel)
theorem myX12_entry : mYV yX12_entry cX12_entry 14 (some .long) 3 := ⟨⟨mTs_in 1704 (by decide +kernel) (by decide +kernel), mTs_in 127 (by decide +kernel) (by decide +kernel), ⟨by decide, by decide⟩, by decide +kernel⟩, mTs_in 1703 (by decide +kernel) (by decide +kernel), mTs_in 89 (by decide +kernel) (by decide +kernel)⟩
theorem lkX12_352 : Cond.methodLink RX12 352 yX12_mod ∈ mTs := mTs_in 1766 (by decide +kernel) (by decide +kernel)
theorem myX12_mod : mYS yX12_mod cX12_mod 6 (some .long) 2 := ⟨⟨mTs_in 1768 (by decide +kernel) (by decide +kernel), mTs_in 127 (by decide +kernel) (by decide +kernel), ⟨by decide, by decide⟩, by decide +kernel⟩, mTs_in 1767 (by decide +kernel) (by decide +kernel)⟩
theorem lkX12_66 : Cond.fieldLink RX12 66 (TX12 32).1 (TX12 32).2.1 (TX12 32).2.2.1 ∈ mTs := mTs_in 1324 (by decide +kernel) (by decide +kernel)
theorem fdX12_32 : mFld 11 32 2 37 RX12 TX12 := ⟨rfl, inX12, by decide, rfl, by decide⟩
theorem lkX12_355 : Cond.methodLink RX12 355 yX12_get ∈ mTs := mTs_in 1714 (by decide +kernel) (by decide +kernel)
theorem myX12_get : mYV yX12_get cX12_get 4 (some .long) 3 := ⟨⟨mTs_in 1717 (by decide +kernel) (by decide +kernel), mTs_in 127 (by decide +kernel) (by decide +kernel), ⟨by decide, by decide⟩, by decide +kernel⟩, mTs_in 1716 (by decide +kernel) (by decide +kernel), mTs_in 91 (by decide +kernel) (by decide +kernel)⟩
theorem lkX12_358 : Cond.methodLink RX12 358 yX12_mulMod ∈ mTs := mTs_in 1763 (by decide +kernel) (by decide +kernel)
theorem myX12_mulMod : mYS yX12_mulMod cX12_mulMod 12 (some .long) 3 := ⟨⟨mTs_in 1765 (by decide +kernel) (by decide +kernel), mTs_in 127 (by decide +kernel) (by decide +kernel), ⟨by decide, by decide⟩, by decide +kernel⟩, mTs_in 1764 (by decide +kernel) (by decide +kernel)⟩
theorem lkX12_362 : Cond.methodLink RX12 362 yJ9_floorDiv_f86c9 ∈ mTs := mTs_in 1777 (by decide +kernel) (by decide +kernel)
theorem lkX12_374 : Cond.methodLink RX12 374 yX12_settles ∈ mTs := mTs_in 1773 (by decide +kernel) (by decide +kernel)
theorem myX12_settles : mYV yX12_settles cX12_settles 7 none 1 := ⟨⟨mTs_in 1776 (by decide +kernel) (by decide +kernel), mTs_in 127 (by decide +kernel) (by decide +kernel), ⟨by decide, by decide⟩, by decide +kernel⟩, mTs_in 1775 (by decide +kernel) (by decide +kernel), mTs_in 101 (by decide +kernel) (by decide +kernel)⟩
theorem lkX12_370 : Cond.methodLink RX12 370 yX12_meets ∈ mTs := mTs_in 1769 (by decide +kernel) (by decide +kernel)
theorem myX12_meets : mYV yX12_meets cX12_meets 8 none 2 := ⟨⟨mTs_in 1772 (by decide +kernel) (by decide +kernel), mTs_in 127 (by decide +kernel) (by decide +kernel), ⟨by decide, by decide⟩, by decide +kernel⟩, mTs_in 1771 (by decide +kernel) (by decide +kernel), mTs_in 100 (by decide +kernel) (by decide +kernel)⟩
theorem lkX12_367 : Cond.methodLink RX12 367 yX12_scales ∈ mTs := mTs_in 1755 (by decide +kernel) (by decide +kernel)
theorem myX12_scales : mYV yX12_scales cX12_scales 5 none 2 := ⟨⟨mTs_in 1758 (by decide +kernel) (by decide +kernel), mTs_in 127 (by decide +kernel) (by decide +kernel), ⟨by decide, by decide⟩, by decide +kernel⟩, mTs_in 1757 (by decide +kernel) (by decide +kernel), mTs_in 98 (by decide +kernel) (by decide +kernel)⟩
theorem lkX12_377 : Cond.methodLink RX12 377 yX12_takesRow ∈ mTs := mTs_in 1786 (by decide +kernel) (by decide +kernel)
theorem myX12_takesRow : mYV yX12_takesRow cX12_takesRow 5 none 3 := ⟨⟨mTs_in 1789 (by decide +kernel) (by decide +kernel), mTs_in 127 (by decide +kernel) (by decide +kernel), ⟨by decide, by decide⟩, by decide +kernel⟩, mTs_in 1788 (by decide +kernel) (by decide +kernel), mTs_in 104 (by decide +kernel) (by decide +kernel)⟩
theorem lkX12_388 : Cond.methodLink RX12 388 yX12_puts_ ∈ mTs := mTs_in 1759 (by decide +kernel) (by decide +kernel)
theorem myX12_puts_ : mYV yX12_puts_ cX12_puts_ 10 (some .boolean) 2 := ⟨⟨mTs_in 1762 (by decide +kernel) (by decide +kernel), mTs_in 127 (by decide +kernel) (by decide +kernel), ⟨by decide, by decide⟩, by decide +kernel⟩, mTs_in 1761 (by decide +kernel) (by decide +kernel), mTs_in 99 (by decide +kernel) (by decide +kernel)⟩
theorem dX12_entry_0 : decode cX12_entry 0 = .ok (.aload_n 0, 1) := by decide +kernel
theorem dX12_entry_1 : decode cX12_entry 1 = .ok (.getfield 24, 3) := by decide +kernel
theorem dX12_entry_4 : decode cX12_entry 4 = .ok (.aload_n 0, 1) := by decide +kernel
theorem dX12_entry_5 : decode cX12_entry 5 = .ok (.getfield 36, 3) := by decide +kernel
theorem dX12_entry_8 : decode cX12_entry 8 = .ok (.iload_n 1, 1) := by decide +kernel
theorem dX12_entry_9 : decode cX12_entry 9 = .ok (.iaload, 1) := by decide +kernel
theorem dX12_entry_10 : decode cX12_entry 10 = .ok (.iaload, 1) := by decide +kernel
theorem dX12_entry_11 : decode cX12_entry 11 = .ok (.i2l, 1) := by decide +kernel
theorem dX12_entry_12 : decode cX12_entry 12 = .ok (.lstore 4, 2) := by decide +kernel
theorem dX12_entry_14 : decode cX12_entry 14 = .ok (.aload_n 0, 1) := by decide +kernel
theorem dX12_entry_15 : decode cX12_entry 15 = .ok (.getfield 27, 3) := by decide +kernel
theorem dX12_entry_18 : decode cX12_entry 18 = .ok (.aload_n 0, 1) := by decide +kernel
theorem dX12_entry_19 : decode cX12_entry 19 = .ok (.getfield 36, 3) := by decide +kernel
theorem dX12_entry_22 : decode cX12_entry 22 = .ok (.iload_n 1, 1) := by decide +kernel
theorem dX12_entry_23 : decode cX12_entry 23 = .ok (.iaload, 1) := by decide +kernel
theorem dX12_entry_24 : decode cX12_entry 24 = .ok (.iaload, 1) := by decide +kernel
theorem dX12_entry_25 : decode cX12_entry 25 = .ok (.i2l, 1) := by decide +kernel
theorem dX12_entry_26 : decode cX12_entry 26 = .ok (.lstore 6, 2) := by decide +kernel
theorem dX12_entry_28 : decode cX12_entry 28 = .ok (.aload_n 0, 1) := by decide +kernel
theorem dX12_entry_29 : decode cX12_entry 29 = .ok (.getfield 54, 3) := by decide +kernel
theorem dX12_entry_32 : decode cX12_entry 32 = .ok (.iconst 0, 1) := by decide +kernel
theorem dX12_entry_33 : decode cX12_entry 33 = .ok (.iaload, 1) := by decide +kernel
theorem dX12_entry_34 : decode cX12_entry 34 = .ok (.i2l, 1) := by decide +kernel
theorem dX12_entry_35 : decode cX12_entry 35 = .ok (.lstore 8, 2) := by decide +kernel
theorem dX12_entry_37 : decode cX12_entry 37 = .ok (.aload_n 0, 1) := by decide +kernel
theorem dX12_entry_38 : decode cX12_entry 38 = .ok (.getfield 54, 3) := by decide +kernel
theorem dX12_entry_41 : decode cX12_entry 41 = .ok (.iconst 1, 1) := by decide +kernel
theorem dX12_entry_42 : decode cX12_entry 42 = .ok (.iaload, 1) := by decide +kernel
theorem dX12_entry_43 : decode cX12_entry 43 = .ok (.i2l, 1) := by decide +kernel
theorem dX12_entry_44 : decode cX12_entry 44 = .ok (.lstore 10, 2) := by decide +kernel
theorem dX12_entry_46 : decode cX12_entry 46 = .ok (.aload_n 0, 1) := by decide +kernel
theorem dX12_entry_47 : decode cX12_entry 47 = .ok (.getfield 54, 3) := by decide +kernel
theorem dX12_entry_50 : decode cX12_entry 50 = .ok (.iconst 2, 1) := by decide +kernel
theorem dX12_entry_51 : decode cX12_entry 51 = .ok (.iaload, 1) := by decide +kernel
theorem dX12_entry_52 : decode cX12_entry 52 = .ok (.i2l, 1) := by decide +kernel
theorem dX12_entry_53 : decode cX12_entry 53 = .ok (.lstore 12, 2) := by decide +kernel
theorem dX12_entry_55 : decode cX12_entry 55 = .ok (.lload 12, 2) := by decide +kernel
theorem dX12_entry_57 : decode cX12_entry 57 = .ok (.lconst 0, 1) := by decide +kernel
theorem dX12_entry_58 : decode cX12_entry 58 = .ok (.lcmp, 1) := by decide +kernel
theorem dX12_entry_59 : decode cX12_entry 59 = .ok (.ifCond .ne 78, 3) := by decide +kernel
theorem dX12_entry_62 : decode cX12_entry 62 = .ok (.iload_n 2, 1) := by decide +kernel
theorem dX12_entry_63 : decode cX12_entry 63 = .ok (.ifCond .ne 40, 3) := by decide +kernel
theorem dX12_entry_66 : decode cX12_entry 66 = .ok (.iload_n 3, 1) := by decide +kernel
theorem dX12_entry_67 : decode cX12_entry 67 = .ok (.ifCond .ne 19, 3) := by decide +kernel
theorem dX12_entry_70 : decode cX12_entry 70 = .ok (.aload_n 0, 1) := by decide +kernel
theorem dX12_entry_71 : decode cX12_entry 71 = .ok (.iload_n 1, 1) := by decide +kernel
theorem dX12_entry_72 : decode cX12_entry 72 = .ok (.iconst 0, 1) := by decide +kernel
theorem dX12_entry_73 : decode cX12_entry 73 = .ok (.invokevirtual 294, 3) := by decide +kernel
theorem dX12_entry_76 : decode cX12_entry 76 = .ok (.aload_n 0, 1) := by decide +kernel
theorem dX12_entry_77 : decode cX12_entry 77 = .ok (.iload_n 1, 1) := by decide +kernel
theorem dX12_entry_78 : decode cX12_entry 78 = .ok (.iconst 1, 1) := by decide +kernel
theorem dX12_entry_79 : decode cX12_entry 79 = .ok (.invokevirtual 294, 3) := by decide +kernel
theorem dX12_entry_82 : decode cX12_entry 82 = .ok (.ladd, 1) := by decide +kernel
theorem dX12_entry_83 : decode cX12_entry 83 = .ok (.goto 19, 3) := by decide +kernel
theorem dX12_entry_86 : decode cX12_entry 86 = .ok (.lload 6, 2) := by decide +kernel
theorem dX12_entry_88 : decode cX12_entry 88 = .ok (.aload_n 0, 1) := by decide +kernel
theorem dX12_entry_89 : decode cX12_entry 89 = .ok (.iload_n 1, 1) := by decide +kernel
theorem dX12_entry_90 : decode cX12_entry 90 = .ok (.iconst 2, 1) := by decide +kernel
theorem dX12_entry_91 : decode cX12_entry 91 = .ok (.invokevirtual 294, 3) := by decide +kernel
theorem dX12_entry_94 : decode cX12_entry 94 = .ok (.aload_n 0, 1) := by decide +kernel
theorem dX12_entry_95 : decode cX12_entry 95 = .ok (.iload_n 1, 1) := by decide +kernel
theorem dX12_entry_96 : decode cX12_entry 96 = .ok (.iconst 3, 1) := by decide +kernel
theorem dX12_entry_97 : decode cX12_entry 97 = .ok (.invokevirtual 294, 3) := by decide +kernel
theorem dX12_entry_100 : decode cX12_entry 100 = .ok (.ladd, 1) := by decide +kernel
theorem dX12_entry_101 : decode cX12_entry 101 = .ok (.lmul, 1) := by decide +kernel
theorem dX12_entry_102 : decode cX12_entry 102 = .ok (.lreturn, 1) := by decide +kernel
theorem dX12_entry_103 : decode cX12_entry 103 = .ok (.iload_n 3, 1) := by decide +kernel
theorem dX12_entry_104 : decode cX12_entry 104 = .ok (.ifCond .ne 19, 3) := by decide +kernel
theorem dX12_entry_107 : decode cX12_entry 107 = .ok (.aload_n 0, 1) := by decide +kernel
theorem dX12_entry_108 : decode cX12_entry 108 = .ok (.iload_n 1, 1) := by decide +kernel
theorem dX12_entry_109 : decode cX12_entry 109 = .ok (.iconst 2, 1) := by decide +kernel
theorem dX12_entry_110 : decode cX12_entry 110 = .ok (.invokevirtual 294, 3) := by decide +kernel
theorem dX12_entry_113 : decode cX12_entry 113 = .ok (.aload_n 0, 1) := by decide +kernel
theorem dX12_entry_114 : decode cX12_entry 114 = .ok (.iload_n 1, 1) := by decide +kernel
theorem dX12_entry_115 : decode cX12_entry 115 = .ok (.iconst 3, 1) := by decide +kernel
theorem dX12_entry_116 : decode cX12_entry 116 = .ok (.invokevirtual 294, 3) := by decide +kernel
theorem dX12_entry_119 : decode cX12_entry 119 = .ok (.lsub, 1) := by decide +kernel
theorem dX12_entry_120 : decode cX12_entry 120 = .ok (.goto 16, 3) := by decide +kernel
theorem dX12_entry_123 : decode cX12_entry 123 = .ok (.aload_n 0, 1) := by decide +kernel
theorem dX12_entry_124 : decode cX12_entry 124 = .ok (.iload_n 1, 1) := by decide +kernel
theorem dX12_entry_125 : decode cX12_entry 125 = .ok (.iconst 0, 1) := by decide +kernel
theorem dX12_entry_126 : decode cX12_entry 126 = .ok (.invokevirtual 294, 3) := by decide +kernel
theorem dX12_entry_129 : decode cX12_entry 129 = .ok (.aload_n 0, 1) := by decide +kernel
theorem dX12_entry_130 : decode cX12_entry 130 = .ok (.iload_n 1, 1) := by decide +kernel
theorem dX12_entry_131 : decode cX12_entry 131 = .ok (.iconst 1, 1) := by decide +kernel
theorem dX12_entry_132 : decode cX12_entry 132 = .ok (.invokevirtual 294, 3) := by decide +kernel
theorem dX12_entry_135 : decode cX12_entry 135 = .ok (.lsub, 1) := by decide +kernel
theorem dX12_entry_136 : decode cX12_entry 136 = .ok (.lreturn, 1) := by decide +kernel
theorem dX12_entry_137 : decode cX12_entry 137 = .ok (.iload_n 2, 1) := by decide +kernel
theorem dX12_entry_138 : decode cX12_entry 138 = .ok (.ifCond .ne 40, 3) := by decide +kernel
theorem dX12_entry_141 : decode cX12_entry 141 = .ok (.iload_n 3, 1) := by decide +kernel
theorem dX12_entry_142 : decode cX12_entry 142 = .ok (.ifCond .ne 36, 3) := by decide +kernel
theorem dX12_entry_145 : decode cX12_entry 145 = .ok (.aload_n 0, 1) := by decide +kernel
theorem dX12_entry_146 : decode cX12_entry 146 = .ok (.iload_n 1, 1) := by decide +kernel
theorem dX12_entry_147 : decode cX12_entry 147 = .ok (.iconst 0, 1) := by decide +kernel
theorem dX12_entry_148 : decode cX12_entry 148 = .ok (.invokevirtual 294, 3) := by decide +kernel
theorem dX12_entry_151 : decode cX12_entry 151 = .ok (.lload 12, 2) := by decide +kernel
theorem dX12_entry_153 : decode cX12_entry 153 = .ok (.lmul, 1) := by decide +kernel
theorem dX12_entry_154 : decode cX12_entry 154 = .ok (.aload_n 0, 1) := by decide +kernel
theorem dX12_entry_155 : decode cX12_entry 155 = .ok (.iload_n 1, 1) := by decide +kernel
theorem dX12_entry_156 : decode cX12_entry 156 = .ok (.iconst 2, 1) := by decide +kernel
theorem dX12_entry_157 : decode cX12_entry 157 = .ok (.invokevirtual 294, 3) := by decide +kernel
theorem dX12_entry_160 : decode cX12_entry 160 = .ok (.lload 8, 2) := by decide +kernel
theorem dX12_entry_162 : decode cX12_entry 162 = .ok (.lmul, 1) := by decide +kernel
theorem dX12_entry_163 : decode cX12_entry 163 = .ok (.ladd, 1) := by decide +kernel
theorem dX12_entry_164 : decode cX12_entry 164 = .ok (.aload_n 0, 1) := by decide +kernel
theorem dX12_entry_165 : decode cX12_entry 165 = .ok (.iload_n 1, 1) := by decide +kernel
theorem dX12_entry_166 : decode cX12_entry 166 = .ok (.iconst 3, 1) := by decide +kernel
theorem dX12_entry_167 : decode cX12_entry 167 = .ok (.invokevirtual 294, 3) := by decide +kernel
theorem dX12_entry_170 : decode cX12_entry 170 = .ok (.lload 4, 2) := by decide +kernel
theorem dX12_entry_172 : decode cX12_entry 172 = .ok (.lmul, 1) := by decide +kernel
theorem dX12_entry_173 : decode cX12_entry 173 = .ok (.lload 10, 2) := by decide +kernel
theorem dX12_entry_175 : decode cX12_entry 175 = .ok (.lmul, 1) := by decide +kernel
theorem dX12_entry_176 : decode cX12_entry 176 = .ok (.ladd, 1) := by decide +kernel
theorem dX12_entry_177 : decode cX12_entry 177 = .ok (.lreturn, 1) := by decide +kernel
theorem dX12_entry_178 : decode cX12_entry 178 = .ok (.iload_n 2, 1) := by decide +kernel
theorem dX12_entry_179 : decode cX12_entry 179 = .ok (.ifCond .ne 42, 3) := by decide +kernel
theorem dX12_entry_182 : decode cX12_entry 182 = .ok (.aload_n 0, 1) := by decide +kernel
theorem dX12_entry_183 : decode cX12_entry 183 = .ok (.iload_n 1, 1) := by decide +kernel
theorem dX12_entry_184 : decode cX12_entry 184 = .ok (.iconst 1, 1) := by decide +kernel
theorem dX12_entry_185 : decode cX12_entry 185 = .ok (.invokevirtual 294, 3) := by decide +kernel
theorem dX12_entry_188 : decode cX12_entry 188 = .ok (.lload 4, 2) := by decide +kernel
theorem dX12_entry_190 : decode cX12_entry 190 = .ok (.lmul, 1) := by decide +kernel
theorem dX12_entry_191 : decode cX12_entry 191 = .ok (.lload 12, 2) := by decide +kernel
theorem dX12_entry_193 : decode cX12_entry 193 = .ok (.lmul, 1) := by decide +kernel
theorem dX12_entry_194 : decode cX12_entry 194 = .ok (.aload_n 0, 1) := by decide +kernel
theorem dX12_entry_195 : decode cX12_entry 195 = .ok (.iload_n 1, 1) := by decide +kernel
theorem dX12_entry_196 : decode cX12_entry 196 = .ok (.iconst 2, 1) := by decide +kernel
theorem dX12_entry_197 : decode cX12_entry 197 = .ok (.invokevirtual 294, 3) := by decide +kernel
theorem dX12_entry_200 : decode cX12_entry 200 = .ok (.lload 4, 2) := by decide +kernel
theorem dX12_entry_202 : decode cX12_entry 202 = .ok (.lmul, 1) := by decide +kernel
theorem dX12_entry_203 : decode cX12_entry 203 = .ok (.lload 10, 2) := by decide +kernel
theorem dX12_entry_205 : decode cX12_entry 205 = .ok (.lmul, 1) := by decide +kernel
theorem dX12_entry_206 : decode cX12_entry 206 = .ok (.lsub, 1) := by decide +kernel
theorem dX12_entry_207 : decode cX12_entry 207 = .ok (.aload_n 0, 1) := by decide +kernel
theorem dX12_entry_208 : decode cX12_entry 208 = .ok (.iload_n 1, 1) := by decide +kernel
theorem dX12_entry_209 : decode cX12_entry 209 = .ok (.iconst 3, 1) := by decide +kernel
theorem dX12_entry_210 : decode cX12_entry 210 = .ok (.invokevirtual 294, 3) := by decide +kernel
theorem dX12_entry_213 : decode cX12_entry 213 = .ok (.lload 4, 2) := by decide +kernel
theorem dX12_entry_215 : decode cX12_entry 215 = .ok (.lmul, 1) := by decide +kernel
theorem dX12_entry_216 : decode cX12_entry 216 = .ok (.lload 8, 2) := by decide +kernel
theorem dX12_entry_218 : decode cX12_entry 218 = .ok (.lmul, 1) := by decide +kernel
theorem dX12_entry_219 : decode cX12_entry 219 = .ok (.lsub, 1) := by decide +kernel
theorem dX12_entry_220 : decode cX12_entry 220 = .ok (.lreturn, 1) := by decide +kernel
theorem dX12_entry_221 : decode cX12_entry 221 = .ok (.iload_n 3, 1) := by decide +kernel
theorem dX12_entry_222 : decode cX12_entry 222 = .ok (.ifCond .ne 33, 3) := by decide +kernel
theorem dX12_entry_225 : decode cX12_entry 225 = .ok (.aload_n 0, 1) := by decide +kernel
theorem dX12_entry_226 : decode cX12_entry 226 = .ok (.iload_n 1, 1) := by decide +kernel
theorem dX12_entry_227 : decode cX12_entry 227 = .ok (.iconst 1, 1) := by decide +kernel
theorem dX12_entry_228 : decode cX12_entry 228 = .ok (.invokevirtual 294, 3) := by decide +kernel
theorem dX12_entry_231 : decode cX12_entry 231 = .ok (.lload 12, 2) := by decide +kernel
theorem dX12_entry_233 : decode cX12_entry 233 = .ok (.lmul, 1) := by decide +kernel
theorem dX12_entry_234 : decode cX12_entry 234 = .ok (.aload_n 0, 1) := by decide +kernel
theorem dX12_entry_235 : decode cX12_entry 235 = .ok (.iload_n 1, 1) := by decide +kernel
theorem dX12_entry_236 : decode cX12_entry 236 = .ok (.iconst 2, 1) := by decide +kernel
theorem dX12_entry_237 : decode cX12_entry 237 = .ok (.invokevirtual 294, 3) := by decide +kernel
theorem dX12_entry_240 : decode cX12_entry 240 = .ok (.lload 10, 2) := by decide +kernel
theorem dX12_entry_242 : decode cX12_entry 242 = .ok (.lmul, 1) := by decide +kernel
theorem dX12_entry_243 : decode cX12_entry 243 = .ok (.ladd, 1) := by decide +kernel
theorem dX12_entry_244 : decode cX12_entry 244 = .ok (.aload_n 0, 1) := by decide +kernel
theorem dX12_entry_245 : decode cX12_entry 245 = .ok (.iload_n 1, 1) := by decide +kernel
theorem dX12_entry_246 : decode cX12_entry 246 = .ok (.iconst 3, 1) := by decide +kernel
theorem dX12_entry_247 : decode cX12_entry 247 = .ok (.invokevirtual 294, 3) := by decide +kernel
theorem dX12_entry_250 : decode cX12_entry 250 = .ok (.lload 8, 2) := by decide +kernel
theorem dX12_entry_252 : decode cX12_entry 252 = .ok (.lmul, 1) := by decide +kernel
theorem dX12_entry_253 : decode cX12_entry 253 = .ok (.ladd, 1) := by decide +kernel
theorem dX12_entry_254 : decode cX12_entry 254 = .ok (.lreturn, 1) := by decide +kernel
theorem dX12_entry_255 : decode cX12_entry 255 = .ok (.aload_n 0, 1) := by decide +kernel
theorem dX12_entry_256 : decode cX12_entry 256 = .ok (.iload_n 1, 1) := by decide +kernel
theorem dX12_entry_257 : decode cX12_entry 257 = .ok (.iconst 0, 1) := by decide +kernel
theorem dX12_entry_258 : decode cX12_entry 258 = .ok (.invokevirtual 294, 3) := by decide +kernel
theorem dX12_entry_261 : decode cX12_entry 261 = .ok (.lload 12, 2) := by decide +kernel
theorem dX12_entry_263 : decode cX12_entry 263 = .ok (.lmul, 1) := by decide +kernel
theorem dX12_entry_264 : decode cX12_entry 264 = .ok (.aload_n 0, 1) := by decide +kernel
theorem dX12_entry_265 : decode cX12_entry 265 = .ok (.iload_n 1, 1) := by decide +kernel
theorem dX12_entry_266 : decode cX12_entry 266 = .ok (.iconst 2, 1) := by decide +kernel
theorem dX12_entry_267 : decode cX12_entry 267 = .ok (.invokevirtual 294, 3) := by decide +kernel
theorem dX12_entry_270 : decode cX12_entry 270 = .ok (.lload 8, 2) := by decide +kernel
theorem dX12_entry_272 : decode cX12_entry 272 = .ok (.lmul, 1) := by decide +kernel
theorem dX12_entry_273 : decode cX12_entry 273 = .ok (.lsub, 1) := by decide +kernel
theorem dX12_entry_274 : decode cX12_entry 274 = .ok (.aload_n 0, 1) := by decide +kernel
theorem dX12_entry_275 : decode cX12_entry 275 = .ok (.iload_n 1, 1) := by decide +kernel
theorem dX12_entry_276 : decode cX12_entry 276 = .ok (.iconst 3, 1) := by decide +kernel
theorem dX12_entry_277 : decode cX12_entry 277 = .ok (.invokevirtual 294, 3) := by decide +kernel
theorem dX12_entry_280 : decode cX12_entry 280 = .ok (.lload 4, 2) := by decide +kernel
theorem dX12_entry_282 : decode cX12_entry 282 = .ok (.lmul, 1) := by decide +kernel
theorem dX12_entry_283 : decode cX12_entry 283 = .ok (.lload 10, 2) := by decide +kernel
theorem dX12_entry_285 : decode cX12_entry 285 = .ok (.lmul, 1) := by decide +kernel
theorem dX12_entry_286 : decode cX12_entry 286 = .ok (.lsub, 1) := by decide +kernel
theorem dX12_entry_287 : decode cX12_entry 287 = .ok (.lreturn, 1) := by decide +kernel
theorem dX12_matrix_0 : decode cX12_matrix 0 = .ok (.aload_n 0, 1) := by decide +kernel
theorem dX12_matrix_1 : decode cX12_matrix 1 = .ok (.iload_n 1, 1) := by decide +kernel
theorem dX12_matrix_2 : decode cX12_matrix 2 = .ok (.invokevirtual 297, 3) := by decide +kernel
theorem dX12_matrix_5 : decode cX12_matrix 5 = .ok (.ifCond .eq 38, 3) := by decide +kernel
theorem dX12_matrix_8 : decode cX12_matrix 8 = .ok (.iload_n 2, 1) := by decide +kernel
theorem dX12_matrix_9 : decode cX12_matrix 9 = .ok (.i2l, 1) := by decide +kernel
theorem dX12_matrix_10 : decode cX12_matrix 10 = .ok (.lconst 0, 1) := by decide +kernel
theorem dX12_matrix_11 : decode cX12_matrix 11 = .ok (.lconst 1, 1) := by decide +kernel
theorem dX12_matrix_12 : decode cX12_matrix 12 = .ok (.invokestatic 113, 3) := by decide +kernel
theorem dX12_matrix_15 : decode cX12_matrix 15 = .ok (.ifCond .eq 28, 3) := by decide +kernel
theorem dX12_matrix_18 : decode cX12_matrix 18 = .ok (.iload_n 3, 1) := by decide +kernel
theorem dX12_matrix_19 : decode cX12_matrix 19 = .ok (.i2l, 1) := by decide +kernel
theorem dX12_matrix_20 : decode cX12_matrix 20 = .ok (.lconst 0, 1) := by decide +kernel
theorem dX12_matrix_21 : decode cX12_matrix 21 = .ok (.lconst 1, 1) := by decide +kernel
theorem dX12_matrix_22 : decode cX12_matrix 22 = .ok (.invokestatic 113, 3) := by decide +kernel
theorem dX12_matrix_25 : decode cX12_matrix 25 = .ok (.ifCond .eq 18, 3) := by decide +kernel
theorem dX12_matrix_28 : decode cX12_matrix 28 = .ok (.iload 4, 2) := by decide +kernel
theorem dX12_matrix_30 : decode cX12_matrix 30 = .ok (.i2l, 1) := by decide +kernel
theorem dX12_matrix_31 : decode cX12_matrix 31 = .ok (.lconst 0, 1) := by decide +kernel
theorem dX12_matrix_32 : decode cX12_matrix 32 = .ok (.lconst 1, 1) := by decide +kernel
theorem dX12_matrix_33 : decode cX12_matrix 33 = .ok (.invokestatic 113, 3) := by decide +kernel
theorem dX12_matrix_36 : decode cX12_matrix 36 = .ok (.ifCond .eq 7, 3) := by decide +kernel
theorem dX12_matrix_39 : decode cX12_matrix 39 = .ok (.iconst 1, 1) := by decide +kernel
theorem dX12_matrix_40 : decode cX12_matrix 40 = .ok (.goto 4, 3) := by decide +kernel
theorem dX12_matrix_43 : decode cX12_matrix 43 = .ok (.iconst 0, 1) := by decide +kernel
theorem dX12_matrix_44 : decode cX12_matrix 44 = .ok (.istore 5, 2) := by decide +kernel
theorem dX12_matrix_46 : decode cX12_matrix 46 = .ok (.aload_n 0, 1) := by decide +kernel
theorem dX12_matrix_47 : decode cX12_matrix 47 = .ok (.iload 5, 2) := by decide +kernel
theorem dX12_matrix_49 : decode cX12_matrix 49 = .ok (.ifCond .eq 34, 3) := by decide +kernel
theorem dX12_matrix_52 : decode cX12_matrix 52 = .ok (.aload_n 0, 1) := by decide +kernel
theorem dX12_matrix_53 : decode cX12_matrix 53 = .ok (.aload_n 0, 1) := by decide +kernel
theorem dX12_matrix_54 : decode cX12_matrix 54 = .ok (.getfield 36, 3) := by decide +kernel
theorem dX12_matrix_57 : decode cX12_matrix 57 = .ok (.iload_n 1, 1) := by decide +kernel
theorem dX12_matrix_58 : decode cX12_matrix 58 = .ok (.iaload, 1) := by decide +kernel
theorem dX12_matrix_59 : decode cX12_matrix 59 = .ok (.invokevirtual 271, 3) := by decide +kernel
theorem dX12_matrix_62 : decode cX12_matrix 62 = .ok (.iconst 1, 1) := by decide +kernel
theorem dX12_matrix_63 : decode cX12_matrix 63 = .ok (.if_icmp .ne 20, 3) := by decide +kernel
theorem dX12_matrix_66 : decode cX12_matrix 66 = .ok (.aload_n 0, 1) := by decide +kernel
theorem dX12_matrix_67 : decode cX12_matrix 67 = .ok (.aload_n 0, 1) := by decide +kernel
theorem dX12_matrix_68 : decode cX12_matrix 68 = .ok (.getfield 36, 3) := by decide +kernel
theorem dX12_matrix_71 : decode cX12_matrix 71 = .ok (.iload_n 1, 1) := by decide +kernel
theorem dX12_matrix_72 : decode cX12_matrix 72 = .ok (.iaload, 1) := by decide +kernel
theorem dX12_matrix_73 : decode cX12_matrix 73 = .ok (.invokevirtual 341, 3) := by decide +kernel
theorem dX12_matrix_76 : decode cX12_matrix 76 = .ok (.ifCond .eq 7, 3) := by decide +kernel
theorem dX12_matrix_79 : decode cX12_matrix 79 = .ok (.iconst 0, 1) := by decide +kernel
theorem dX12_matrix_80 : decode cX12_matrix 80 = .ok (.goto 4, 3) := by decide +kernel
theorem dX12_matrix_83 : decode cX12_matrix 83 = .ok (.iconst 1, 1) := by decide +kernel
theorem dX12_matrix_84 : decode cX12_matrix 84 = .ok (.putfield 75, 3) := by decide +kernel
theorem dX12_matrix_87 : decode cX12_matrix 87 = .ok (.aload_n 0, 1) := by decide +kernel
theorem dX12_matrix_88 : decode cX12_matrix 88 = .ok (.getfield 75, 3) := by decide +kernel
theorem dX12_matrix_91 : decode cX12_matrix 91 = .ok (.iconst 1, 1) := by decide +kernel
theorem dX12_matrix_92 : decode cX12_matrix 92 = .ok (.if_icmp .ne 5, 3) := by decide +kernel
theorem dX12_matrix_95 : decode cX12_matrix 95 = .ok (.lconst 0, 1) := by decide +kernel
theorem dX12_matrix_96 : decode cX12_matrix 96 = .ok (.lreturn, 1) := by decide +kernel
theorem dX12_matrix_97 : decode cX12_matrix 97 = .ok (.aload_n 0, 1) := by decide +kernel
theorem dX12_matrix_98 : decode cX12_matrix 98 = .ok (.iload_n 1, 1) := by decide +kernel
theorem dX12_matrix_99 : decode cX12_matrix 99 = .ok (.iload_n 2, 1) := by decide +kernel
theorem dX12_matrix_100 : decode cX12_matrix 100 = .ok (.iload_n 3, 1) := by decide +kernel
theorem dX12_matrix_101 : decode cX12_matrix 101 = .ok (.invokevirtual 344, 3) := by decide +kernel
theorem dX12_matrix_104 : decode cX12_matrix 104 = .ok (.aload_n 0, 1) := by decide +kernel
theorem dX12_matrix_105 : decode cX12_matrix 105 = .ok (.iload_n 1, 1) := by decide +kernel
theorem dX12_matrix_106 : decode cX12_matrix 106 = .ok (.iconst 4, 1) := by decide +kernel
theorem dX12_matrix_107 : decode cX12_matrix 107 = .ok (.invokevirtual 294, 3) := by decide +kernel
theorem dX12_matrix_110 : decode cX12_matrix 110 = .ok (.aload_n 0, 1) := by decide +kernel
theorem dX12_matrix_111 : decode cX12_matrix 111 = .ok (.getfield 54, 3) := by decide +kernel
theorem dX12_matrix_114 : decode cX12_matrix 114 = .ok (.iconst 2, 1) := by decide +kernel
theorem dX12_matrix_115 : decode cX12_matrix 115 = .ok (.iaload, 1) := by decide +kernel
theorem dX12_matrix_116 : decode cX12_matrix 116 = .ok (.ifCond .ne 7, 3) := by decide +kernel
theorem dX12_matrix_119 : decode cX12_matrix 119 = .ok (.iconst 1, 1) := by decide +kernel
theorem dX12_matrix_120 : decode cX12_matrix 120 = .ok (.goto 9, 3) := by decide +kernel
theorem dX12_matrix_123 : decode cX12_matrix 123 = .ok (.aload_n 0, 1) := by decide +kernel
theorem dX12_matrix_124 : decode cX12_matrix 124 = .ok (.getfield 54, 3) := by decide +kernel
theorem dX12_matrix_127 : decode cX12_matrix 127 = .ok (.iconst 2, 1) := by decide +kernel
theorem dX12_matrix_128 : decode cX12_matrix 128 = .ok (.iaload, 1) := by decide +kernel
theorem dX12_matrix_129 : decode cX12_matrix 129 = .ok (.i2l, 1) := by decide +kernel
theorem dX12_matrix_130 : decode cX12_matrix 130 = .ok (.lmul, 1) := by decide +kernel
theorem dX12_matrix_131 : decode cX12_matrix 131 = .ok (.iload 4, 2) := by decide +kernel
theorem dX12_matrix_133 : decode cX12_matrix 133 = .ok (.invokestatic 334, 3) := by decide +kernel
theorem dX12_matrix_136 : decode cX12_matrix 136 = .ok (.lreturn, 1) := by decide +kernel
theorem dX12_get_0 : decode cX12_get 0 = .ok (.aload_n 0, 1) := by decide +kernel
theorem dX12_get_1 : decode cX12_get 1 = .ok (.getfield 57, 3) := by decide +kernel
theorem dX12_get_4 : decode cX12_get 4 = .ok (.bipush 16, 2) := by decide +kernel
theorem dX12_get_6 : decode cX12_get 6 = .ok (.iload_n 1, 1) := by decide +kernel
theorem dX12_get_7 : decode cX12_get 7 = .ok (.imul, 1) := by decide +kernel
theorem dX12_get_8 : decode cX12_get 8 = .ok (.iconst 4, 1) := by decide +kernel
theorem dX12_get_9 : decode cX12_get 9 = .ok (.iload_n 2, 1) := by decide +kernel
theorem dX12_get_10 : decode cX12_get 10 = .ok (.imul, 1) := by decide +kernel
theorem dX12_get_11 : decode cX12_get 11 = .ok (.iadd, 1) := by decide +kernel
theorem dX12_get_12 : decode cX12_get 12 = .ok (.iload_n 3, 1) := by decide +kernel
theorem dX12_get_13 : decode cX12_get 13 = .ok (.iadd, 1) := by decide +kernel
theorem dX12_get_14 : decode cX12_get 14 = .ok (.laload, 1) := by decide +kernel
theorem dX12_get_15 : decode cX12_get 15 = .ok (.lreturn, 1) := by decide +kernel
theorem dX12_copies_0 : decode cX12_copies 0 = .ok (.iconst 0, 1) := by decide +kernel
theorem dX12_copies_1 : decode cX12_copies 1 = .ok (.istore_n 3, 1) := by decide +kernel
theorem dX12_copies_2 : decode cX12_copies 2 = .ok (.iload_n 3, 1) := by decide +kernel
theorem dX12_copies_3 : decode cX12_copies 3 = .ok (.bipush 16, 2) := by decide +kernel
theorem dX12_copies_5 : decode cX12_copies 5 = .ok (.if_icmp .ge 31, 3) := by decide +kernel
theorem dX12_copies_8 : decode cX12_copies 8 = .ok (.aload_n 0, 1) := by decide +kernel
theorem dX12_copies_9 : decode cX12_copies 9 = .ok (.getfield 57, 3) := by decide +kernel
theorem dX12_copies_12 : decode cX12_copies 12 = .ok (.bipush 16, 2) := by decide +kernel
theorem dX12_copies_14 : decode cX12_copies 14 = .ok (.iload_n 2, 1) := by decide +kernel
theorem dX12_copies_15 : decode cX12_copies 15 = .ok (.imul, 1) := by decide +kernel
theorem dX12_copies_16 : decode cX12_copies 16 = .ok (.iload_n 3, 1) := by decide +kernel
theorem dX12_copies_17 : decode cX12_copies 17 = .ok (.iadd, 1) := by decide +kernel
theorem dX12_copies_18 : decode cX12_copies 18 = .ok (.aload_n 0, 1) := by decide +kernel
theorem dX12_copies_19 : decode cX12_copies 19 = .ok (.getfield 57, 3) := by decide +kernel
theorem dX12_copies_22 : decode cX12_copies 22 = .ok (.bipush 16, 2) := by decide +kernel
theorem dX12_copies_24 : decode cX12_copies 24 = .ok (.iload_n 1, 1) := by decide +kernel
theorem dX12_copies_25 : decode cX12_copies 25 = .ok (.imul, 1) := by decide +kernel
theorem dX12_copies_26 : decode cX12_copies 26 = .ok (.iload_n 3, 1) := by decide +kernel
theorem dX12_copies_27 : decode cX12_copies 27 = .ok (.iadd, 1) := by decide +kernel
theorem dX12_copies_28 : decode cX12_copies 28 = .ok (.laload, 1) := by decide +kernel
theorem dX12_copies_29 : decode cX12_copies 29 = .ok (.lastore, 1) := by decide +kernel
theorem dX12_copies_30 : decode cX12_copies 30 = .ok (.iinc 3 1, 3) := by decide +kernel
theorem dX12_copies_33 : decode cX12_copies 33 = .ok (.goto (-31), 3) := by decide +kernel
theorem dX12_copies_36 : decode cX12_copies 36 = .ok (.aload_n 0, 1) := by decide +kernel
theorem dX12_copies_37 : decode cX12_copies 37 = .ok (.getfield 60, 3) := by decide +kernel
theorem dX12_copies_40 : decode cX12_copies 40 = .ok (.iload_n 2, 1) := by decide +kernel
theorem dX12_copies_41 : decode cX12_copies 41 = .ok (.aload_n 0, 1) := by decide +kernel
theorem dX12_copies_42 : decode cX12_copies 42 = .ok (.getfield 60, 3) := by decide +kernel
theorem dX12_copies_45 : decode cX12_copies 45 = .ok (.iload_n 1, 1) := by decide +kernel
theorem dX12_copies_46 : decode cX12_copies 46 = .ok (.laload, 1) := by decide +kernel
theorem dX12_copies_47 : decode cX12_copies 47 = .ok (.lastore, 1) := by decide +kernel
theorem dX12_copies_48 : decode cX12_copies 48 = .ok (.aload_n 0, 1) := by decide +kernel
theorem dX12_copies_49 : decode cX12_copies 49 = .ok (.getfield 63, 3) := by decide +kernel
theorem dX12_copies_52 : decode cX12_copies 52 = .ok (.iload_n 2, 1) := by decide +kernel
theorem dX12_copies_53 : decode cX12_copies 53 = .ok (.aload_n 0, 1) := by decide +kernel
theorem dX12_copies_54 : decode cX12_copies 54 = .ok (.getfield 63, 3) := by decide +kernel
theorem dX12_copies_57 : decode cX12_copies 57 = .ok (.iload_n 1, 1) := by decide +kernel
theorem dX12_copies_58 : decode cX12_copies 58 = .ok (.laload, 1) := by decide +kernel
theorem dX12_copies_59 : decode cX12_copies 59 = .ok (.lastore, 1) := by decide +kernel
theorem dX12_copies_60 : decode cX12_copies 60 = .ok (.return_, 1) := by decide +kernel
theorem dX12_mod_0 : decode cX12_mod 0 = .ok (.lload_n 0, 1) := by decide +kernel
theorem dX12_mod_1 : decode cX12_mod 1 = .ok (.lload_n 2, 1) := by decide +kernel
theorem dX12_mod_2 : decode cX12_mod 2 = .ok (.lrem, 1) := by decide +kernel
theorem dX12_mod_3 : decode cX12_mod 3 = .ok (.lstore 4, 2) := by decide +kernel
theorem dX12_mod_5 : decode cX12_mod 5 = .ok (.lload 4, 2) := by decide +kernel
theorem dX12_mod_7 : decode cX12_mod 7 = .ok (.lconst 0, 1) := by decide +kernel
theorem dX12_mod_8 : decode cX12_mod 8 = .ok (.lcmp, 1) := by decide +kernel
theorem dX12_mod_9 : decode cX12_mod 9 = .ok (.ifCond .ge 10, 3) := by decide +kernel
theorem dX12_mod_12 : decode cX12_mod 12 = .ok (.lload 4, 2) := by decide +kernel
theorem dX12_mod_14 : decode cX12_mod 14 = .ok (.lload_n 2, 1) := by decide +kernel
theorem dX12_mod_15 : decode cX12_mod 15 = .ok (.ladd, 1) := by decide +kernel
theorem dX12_mod_16 : decode cX12_mod 16 = .ok (.goto 5, 3) := by decide +kernel
theorem dX12_mod_19 : decode cX12_mod 19 = .ok (.lload 4, 2) := by decide +kernel
theorem dX12_mod_21 : decode cX12_mod 21 = .ok (.lreturn, 1) := by decide +kernel
theorem dX12_mulMod_0 : decode cX12_mulMod 0 = .ok (.lconst 0, 1) := by decide +kernel
theorem dX12_mulMod_1 : decode cX12_mulMod 1 = .ok (.lstore 6, 2) := by decide +kernel
theorem dX12_mulMod_3 : decode cX12_mulMod 3 = .ok (.lload_n 2, 1) := by decide +kernel
theorem dX12_mulMod_4 : decode cX12_mulMod 4 = .ok (.lload 4, 2) := by decide +kernel
theorem dX12_mulMod_6 : decode cX12_mulMod 6 = .ok (.invokestatic 352, 3) := by decide +kernel
theorem dX12_mulMod_9 : decode cX12_mulMod 9 = .ok (.lstore 8, 2) := by decide +kernel
theorem dX12_mulMod_11 : decode cX12_mulMod 11 = .ok (.lload_n 0, 1) := by decide +kernel
theorem dX12_mulMod_12 : decode cX12_mulMod 12 = .ok (.lload 4, 2) := by decide +kernel
theorem dX12_mulMod_14 : decode cX12_mulMod 14 = .ok (.invokestatic 352, 3) := by decide +kernel
theorem dX12_mulMod_17 : decode cX12_mulMod 17 = .ok (.lstore 10, 2) := by decide +kernel
theorem dX12_mulMod_19 : decode cX12_mulMod 19 = .ok (.lload 10, 2) := by decide +kernel
theorem dX12_mulMod_21 : decode cX12_mulMod 21 = .ok (.lconst 0, 1) := by decide +kernel
theorem dX12_mulMod_22 : decode cX12_mulMod 22 = .ok (.lcmp, 1) := by decide +kernel
theorem dX12_mulMod_23 : decode cX12_mulMod 23 = .ok (.ifCond .le 41, 3) := by decide +kernel
theorem dX12_mulMod_26 : decode cX12_mulMod 26 = .ok (.lload 10, 2) := by decide +kernel
theorem dX12_mulMod_28 : decode cX12_mulMod 28 = .ok (.lconst 1, 1) := by decide +kernel
theorem dX12_mulMod_29 : decode cX12_mulMod 29 = .ok (.land, 1) := by decide +kernel
theorem dX12_mulMod_30 : decode cX12_mulMod 30 = .ok (.lconst 1, 1) := by decide +kernel
theorem dX12_mulMod_31 : decode cX12_mulMod 31 = .ok (.lcmp, 1) := by decide +kernel
theorem dX12_mulMod_32 : decode cX12_mulMod 32 = .ok (.ifCond .ne 13, 3) := by decide +kernel
theorem dX12_mulMod_35 : decode cX12_mulMod 35 = .ok (.lload 6, 2) := by decide +kernel
theorem dX12_mulMod_37 : decode cX12_mulMod 37 = .ok (.lload 8, 2) := by decide +kernel
theorem dX12_mulMod_39 : decode cX12_mulMod 39 = .ok (.ladd, 1) := by decide +kernel
theorem dX12_mulMod_40 : decode cX12_mulMod 40 = .ok (.lload 4, 2) := by decide +kernel
theorem dX12_mulMod_42 : decode cX12_mulMod 42 = .ok (.lrem, 1) := by decide +kernel
theorem dX12_mulMod_43 : decode cX12_mulMod 43 = .ok (.lstore 6, 2) := by decide +kernel
theorem dX12_mulMod_45 : decode cX12_mulMod 45 = .ok (.lload 8, 2) := by decide +kernel
theorem dX12_mulMod_47 : decode cX12_mulMod 47 = .ok (.lload 8, 2) := by decide +kernel
theorem dX12_mulMod_49 : decode cX12_mulMod 49 = .ok (.ladd, 1) := by decide +kernel
theorem dX12_mulMod_50 : decode cX12_mulMod 50 = .ok (.lload 4, 2) := by decide +kernel
theorem dX12_mulMod_52 : decode cX12_mulMod 52 = .ok (.lrem, 1) := by decide +kernel
theorem dX12_mulMod_53 : decode cX12_mulMod 53 = .ok (.lstore 8, 2) := by decide +kernel
theorem dX12_mulMod_55 : decode cX12_mulMod 55 = .ok (.lload 10, 2) := by decide +kernel
theorem dX12_mulMod_57 : decode cX12_mulMod 57 = .ok (.iconst 1, 1) := by decide +kernel
theorem dX12_mulMod_58 : decode cX12_mulMod 58 = .ok (.lshr, 1) := by decide +kernel
theorem dX12_mulMod_59 : decode cX12_mulMod 59 = .ok (.lstore 10, 2) := by decide +kernel
theorem dX12_mulMod_61 : decode cX12_mulMod 61 = .ok (.goto (-42), 3) := by decide +kernel
theorem dX12_mulMod_64 : decode cX12_mulMod 64 = .ok (.lload 6, 2) := by decide +kernel
theorem dX12_mulMod_66 : decode cX12_mulMod 66 = .ok (.lreturn, 1) := by decide +kernel
theorem dX12_scales_0 : decode cX12_scales 0 = .ok (.iconst 0, 1) := by decide +kernel
theorem dX12_scales_1 : decode cX12_scales 1 = .ok (.istore 4, 2) := by decide +kernel
theorem dX12_scales_3 : decode cX12_scales 3 = .ok (.iload 4, 2) := by decide +kernel
theorem dX12_scales_5 : decode cX12_scales 5 = .ok (.bipush 16, 2) := by decide +kernel
theorem dX12_scales_7 : decode cX12_scales 7 = .ok (.if_icmp .ge 25, 3) := by decide +kernel
theorem dX12_scales_10 : decode cX12_scales 10 = .ok (.aload_n 0, 1) := by decide +kernel
theorem dX12_scales_11 : decode cX12_scales 11 = .ok (.getfield 57, 3) := by decide +kernel
theorem dX12_scales_14 : decode cX12_scales 14 = .ok (.bipush 16, 2) := by decide +kernel
theorem dX12_scales_16 : decode cX12_scales 16 = .ok (.iload_n 1, 1) := by decide +kernel
theorem dX12_scales_17 : decode cX12_scales 17 = .ok (.imul, 1) := by decide +kernel
theorem dX12_scales_18 : decode cX12_scales 18 = .ok (.iload 4, 2) := by decide +kernel
theorem dX12_scales_20 : decode cX12_scales 20 = .ok (.iadd, 1) := by decide +kernel
theorem dX12_scales_21 : decode cX12_scales 21 = .ok (.dup2, 1) := by decide +kernel
theorem dX12_scales_22 : decode cX12_scales 22 = .ok (.laload, 1) := by decide +kernel
theorem dX12_scales_23 : decode cX12_scales 23 = .ok (.lload_n 2, 1) := by decide +kernel
theorem dX12_scales_24 : decode cX12_scales 24 = .ok (.lmul, 1) := by decide +kernel
theorem dX12_scales_25 : decode cX12_scales 25 = .ok (.lastore, 1) := by decide +kernel
theorem dX12_scales_26 : decode cX12_scales 26 = .ok (.iinc 4 1, 3) := by decide +kernel
theorem dX12_scales_29 : decode cX12_scales 29 = .ok (.goto (-26), 3) := by decide +kernel
theorem dX12_scales_32 : decode cX12_scales 32 = .ok (.aload_n 0, 1) := by decide +kernel
theorem dX12_scales_33 : decode cX12_scales 33 = .ok (.getfield 60, 3) := by decide +kernel
theorem dX12_scales_36 : decode cX12_scales 36 = .ok (.iload_n 1, 1) := by decide +kernel
theorem dX12_scales_37 : decode cX12_scales 37 = .ok (.dup2, 1) := by decide +kernel
theorem dX12_scales_38 : decode cX12_scales 38 = .ok (.laload, 1) := by decide +kernel
theorem dX12_scales_39 : decode cX12_scales 39 = .ok (.lload_n 2, 1) := by decide +kernel
theorem dX12_scales_40 : decode cX12_scales 40 = .ok (.lmul, 1) := by decide +kernel
theorem dX12_scales_41 : decode cX12_scales 41 = .ok (.lastore, 1) := by decide +kernel
theorem dX12_scales_42 : decode cX12_scales 42 = .ok (.aload_n 0, 1) := by decide +kernel
theorem dX12_scales_43 : decode cX12_scales 43 = .ok (.getfield 63, 3) := by decide +kernel
theorem dX12_scales_46 : decode cX12_scales 46 = .ok (.iload_n 1, 1) := by decide +kernel
theorem dX12_scales_47 : decode cX12_scales 47 = .ok (.dup2, 1) := by decide +kernel
theorem dX12_scales_48 : decode cX12_scales 48 = .ok (.laload, 1) := by decide +kernel
theorem dX12_scales_49 : decode cX12_scales 49 = .ok (.lload_n 2, 1) := by decide +kernel
theorem dX12_scales_50 : decode cX12_scales 50 = .ok (.lmul, 1) := by decide +kernel
theorem dX12_scales_51 : decode cX12_scales 51 = .ok (.lastore, 1) := by decide +kernel
theorem dX12_scales_52 : decode cX12_scales 52 = .ok (.return_, 1) := by decide +kernel
theorem dX12_meets_0 : decode cX12_meets 0 = .ok (.aload_n 0, 1) := by decide +kernel
theorem dX12_meets_1 : decode cX12_meets 1 = .ok (.getfield 66, 3) := by decide +kernel
theorem dX12_meets_4 : decode cX12_meets 4 = .ok (.iload_n 2, 1) := by decide +kernel
theorem dX12_meets_5 : decode cX12_meets 5 = .ok (.laload, 1) := by decide +kernel
theorem dX12_meets_6 : decode cX12_meets 6 = .ok (.lconst 0, 1) := by decide +kernel
theorem dX12_meets_7 : decode cX12_meets 7 = .ok (.lcmp, 1) := by decide +kernel
theorem dX12_meets_8 : decode cX12_meets 8 = .ok (.ifCond .eq 122, 3) := by decide +kernel
theorem dX12_meets_11 : decode cX12_meets 11 = .ok (.aload_n 0, 1) := by decide +kernel
theorem dX12_meets_12 : decode cX12_meets 12 = .ok (.iload_n 1, 1) := by decide +kernel
theorem dX12_meets_13 : decode cX12_meets 13 = .ok (.iload_n 2, 1) := by decide +kernel
theorem dX12_meets_14 : decode cX12_meets 14 = .ok (.iload_n 2, 1) := by decide +kernel
theorem dX12_meets_15 : decode cX12_meets 15 = .ok (.invokevirtual 355, 3) := by decide +kernel
theorem dX12_meets_18 : decode cX12_meets 18 = .ok (.aload_n 0, 1) := by decide +kernel
theorem dX12_meets_19 : decode cX12_meets 19 = .ok (.getfield 66, 3) := by decide +kernel
theorem dX12_meets_22 : decode cX12_meets 22 = .ok (.iload_n 2, 1) := by decide +kernel
theorem dX12_meets_23 : decode cX12_meets 23 = .ok (.laload, 1) := by decide +kernel
theorem dX12_meets_24 : decode cX12_meets 24 = .ok (.ldiv, 1) := by decide +kernel
theorem dX12_meets_25 : decode cX12_meets 25 = .ok (.lstore_n 3, 1) := by decide +kernel
theorem dX12_meets_26 : decode cX12_meets 26 = .ok (.iload_n 2, 1) := by decide +kernel
theorem dX12_meets_27 : decode cX12_meets 27 = .ok (.istore 5, 2) := by decide +kernel
theorem dX12_meets_29 : decode cX12_meets 29 = .ok (.iload 5, 2) := by decide +kernel
theorem dX12_meets_31 : decode cX12_meets 31 = .ok (.iconst 4, 1) := by decide +kernel
theorem dX12_meets_32 : decode cX12_meets 32 = .ok (.if_icmp .ge 95, 3) := by decide +kernel
theorem dX12_meets_35 : decode cX12_meets 35 = .ok (.iload 5, 2) := by decide +kernel
theorem dX12_meets_37 : decode cX12_meets 37 = .ok (.iload_n 2, 1) := by decide +kernel
theorem dX12_meets_38 : decode cX12_meets 38 = .ok (.if_icmp .ne 22, 3) := by decide +kernel
theorem dX12_meets_41 : decode cX12_meets 41 = .ok (.aload_n 0, 1) := by decide +kernel
theorem dX12_meets_42 : decode cX12_meets 42 = .ok (.iload_n 1, 1) := by decide +kernel
theorem dX12_meets_43 : decode cX12_meets 43 = .ok (.iload_n 2, 1) := by decide +kernel
theorem dX12_meets_44 : decode cX12_meets 44 = .ok (.iload_n 2, 1) := by decide +kernel
theorem dX12_meets_45 : decode cX12_meets 45 = .ok (.invokevirtual 355, 3) := by decide +kernel
theorem dX12_meets_48 : decode cX12_meets 48 = .ok (.lload_n 3, 1) := by decide +kernel
theorem dX12_meets_49 : decode cX12_meets 49 = .ok (.aload_n 0, 1) := by decide +kernel
theorem dX12_meets_50 : decode cX12_meets 50 = .ok (.getfield 66, 3) := by decide +kernel
theorem dX12_meets_53 : decode cX12_meets 53 = .ok (.iload_n 2, 1) := by decide +kernel
theorem dX12_meets_54 : decode cX12_meets 54 = .ok (.laload, 1) := by decide +kernel
theorem dX12_meets_55 : decode cX12_meets 55 = .ok (.lmul, 1) := by decide +kernel
theorem dX12_meets_56 : decode cX12_meets 56 = .ok (.lsub, 1) := by decide +kernel
theorem dX12_meets_57 : decode cX12_meets 57 = .ok (.goto 38, 3) := by decide +kernel
theorem dX12_meets_60 : decode cX12_meets 60 = .ok (.aload_n 0, 1) := by decide +kernel
theorem dX12_meets_61 : decode cX12_meets 61 = .ok (.iload_n 1, 1) := by decide +kernel
theorem dX12_meets_62 : decode cX12_meets 62 = .ok (.iload_n 2, 1) := by decide +kernel
theorem dX12_meets_63 : decode cX12_meets 63 = .ok (.iload 5, 2) := by decide +kernel
theorem dX12_meets_65 : decode cX12_meets 65 = .ok (.invokevirtual 355, 3) := by decide +kernel
theorem dX12_meets_68 : decode cX12_meets 68 = .ok (.lload_n 3, 1) := by decide +kernel
theorem dX12_meets_69 : decode cX12_meets 69 = .ok (.aload_n 0, 1) := by decide +kernel
theorem dX12_meets_70 : decode cX12_meets 70 = .ok (.getfield 66, 3) := by decide +kernel
theorem dX12_meets_73 : decode cX12_meets 73 = .ok (.iload 5, 2) := by decide +kernel
theorem dX12_meets_75 : decode cX12_meets 75 = .ok (.laload, 1) := by decide +kernel
theorem dX12_meets_76 : decode cX12_meets 76 = .ok (.aload_n 0, 1) := by decide +kernel
theorem dX12_meets_77 : decode cX12_meets 77 = .ok (.getfield 63, 3) := by decide +kernel
theorem dX12_meets_80 : decode cX12_meets 80 = .ok (.iload_n 1, 1) := by decide +kernel
theorem dX12_meets_81 : decode cX12_meets 81 = .ok (.laload, 1) := by decide +kernel
theorem dX12_meets_82 : decode cX12_meets 82 = .ok (.invokestatic 358, 3) := by decide +kernel
theorem dX12_meets_85 : decode cX12_meets 85 = .ok (.lsub, 1) := by decide +kernel
theorem dX12_meets_86 : decode cX12_meets 86 = .ok (.aload_n 0, 1) := by decide +kernel
theorem dX12_meets_87 : decode cX12_meets 87 = .ok (.getfield 63, 3) := by decide +kernel
theorem dX12_meets_90 : decode cX12_meets 90 = .ok (.iload_n 1, 1) := by decide +kernel
theorem dX12_meets_91 : decode cX12_meets 91 = .ok (.laload, 1) := by decide +kernel
theorem dX12_meets_92 : decode cX12_meets 92 = .ok (.invokestatic 352, 3) := by decide +kernel
theorem dX12_meets_95 : decode cX12_meets 95 = .ok (.lstore 6, 2) := by decide +kernel
theorem dX12_meets_97 : decode cX12_meets 97 = .ok (.aload_n 0, 1) := by decide +kernel
theorem dX12_meets_98 : decode cX12_meets 98 = .ok (.iload_n 1, 1) := by decide +kernel
theorem dX12_meets_99 : decode cX12_meets 99 = .ok (.iload_n 2, 1) := by decide +kernel
theorem dX12_meets_100 : decode cX12_meets 100 = .ok (.iload 5, 2) := by decide +kernel
theorem dX12_meets_102 : decode cX12_meets 102 = .ok (.aload_n 0, 1) := by decide +kernel
theorem dX12_meets_103 : decode cX12_meets 103 = .ok (.getfield 66, 3) := by decide +kernel
theorem dX12_meets_106 : decode cX12_meets 106 = .ok (.iload 5, 2) := by decide +kernel
theorem dX12_meets_108 : decode cX12_meets 108 = .ok (.laload, 1) := by decide +kernel
theorem dX12_meets_109 : decode cX12_meets 109 = .ok (.invokevirtual 348, 3) := by decide +kernel
theorem dX12_meets_112 : decode cX12_meets 112 = .ok (.aload_n 0, 1) := by decide +kernel
theorem dX12_meets_113 : decode cX12_meets 113 = .ok (.getfield 66, 3) := by decide +kernel
theorem dX12_meets_116 : decode cX12_meets 116 = .ok (.iload 5, 2) := by decide +kernel
theorem dX12_meets_118 : decode cX12_meets 118 = .ok (.lload 6, 2) := by decide +kernel
theorem dX12_meets_120 : decode cX12_meets 120 = .ok (.lastore, 1) := by decide +kernel
theorem dX12_meets_121 : decode cX12_meets 121 = .ok (.iinc 5 1, 3) := by decide +kernel
theorem dX12_meets_124 : decode cX12_meets 124 = .ok (.goto (-95), 3) := by decide +kernel
theorem dX12_meets_127 : decode cX12_meets 127 = .ok (.goto (-127), 3) := by decide +kernel
theorem dX12_meets_130 : decode cX12_meets 130 = .ok (.return_, 1) := by decide +kernel
theorem dX12_settles_0 : decode cX12_settles 0 = .ok (.iconst 1, 1) := by decide +kernel
theorem dX12_settles_1 : decode cX12_settles 1 = .ok (.istore_n 2, 1) := by decide +kernel
theorem dX12_settles_2 : decode cX12_settles 2 = .ok (.iload_n 2, 1) := by decide +kernel
theorem dX12_settles_3 : decode cX12_settles 3 = .ok (.iconst 4, 1) := by decide +kernel
theorem dX12_settles_4 : decode cX12_settles 4 = .ok (.if_icmp .ge 128, 3) := by decide +kernel
theorem dX12_settles_7 : decode cX12_settles 7 = .ok (.iconst 0, 1) := by decide +kernel
theorem dX12_settles_8 : decode cX12_settles 8 = .ok (.istore_n 3, 1) := by decide +kernel
theorem dX12_settles_9 : decode cX12_settles 9 = .ok (.iload_n 3, 1) := by decide +kernel
theorem dX12_settles_10 : decode cX12_settles 10 = .ok (.iload_n 2, 1) := by decide +kernel
theorem dX12_settles_11 : decode cX12_settles 11 = .ok (.if_icmp .ge 115, 3) := by decide +kernel
theorem dX12_settles_14 : decode cX12_settles 14 = .ok (.aload_n 0, 1) := by decide +kernel
theorem dX12_settles_15 : decode cX12_settles 15 = .ok (.iload_n 1, 1) := by decide +kernel
theorem dX12_settles_16 : decode cX12_settles 16 = .ok (.iload_n 3, 1) := by decide +kernel
theorem dX12_settles_17 : decode cX12_settles 17 = .ok (.iload_n 2, 1) := by decide +kernel
theorem dX12_settles_18 : decode cX12_settles 18 = .ok (.invokevirtual 355, 3) := by decide +kernel
theorem dX12_settles_21 : decode cX12_settles 21 = .ok (.aload_n 0, 1) := by decide +kernel
theorem dX12_settles_22 : decode cX12_settles 22 = .ok (.iload_n 1, 1) := by decide +kernel
theorem dX12_settles_23 : decode cX12_settles 23 = .ok (.iload_n 2, 1) := by decide +kernel
theorem dX12_settles_24 : decode cX12_settles 24 = .ok (.iload_n 2, 1) := by decide +kernel
theorem dX12_settles_25 : decode cX12_settles 25 = .ok (.invokevirtual 355, 3) := by decide +kernel
theorem dX12_settles_28 : decode cX12_settles 28 = .ok (.invokestatic 362, 3) := by decide +kernel
theorem dX12_settles_31 : decode cX12_settles 31 = .ok (.lstore 4, 2) := by decide +kernel
theorem dX12_settles_33 : decode cX12_settles 33 = .ok (.aload_n 0, 1) := by decide +kernel
theorem dX12_settles_34 : decode cX12_settles 34 = .ok (.iload_n 1, 1) := by decide +kernel
theorem dX12_settles_35 : decode cX12_settles 35 = .ok (.iload_n 3, 1) := by decide +kernel
theorem dX12_settles_36 : decode cX12_settles 36 = .ok (.iload_n 2, 1) := by decide +kernel
theorem dX12_settles_37 : decode cX12_settles 37 = .ok (.aload_n 0, 1) := by decide +kernel
theorem dX12_settles_38 : decode cX12_settles 38 = .ok (.iload_n 1, 1) := by decide +kernel
theorem dX12_settles_39 : decode cX12_settles 39 = .ok (.iload_n 3, 1) := by decide +kernel
theorem dX12_settles_40 : decode cX12_settles 40 = .ok (.iload_n 2, 1) := by decide +kernel
theorem dX12_settles_41 : decode cX12_settles 41 = .ok (.invokevirtual 355, 3) := by decide +kernel
theorem dX12_settles_44 : decode cX12_settles 44 = .ok (.lload 4, 2) := by decide +kernel
theorem dX12_settles_46 : decode cX12_settles 46 = .ok (.aload_n 0, 1) := by decide +kernel
theorem dX12_settles_47 : decode cX12_settles 47 = .ok (.iload_n 1, 1) := by decide +kernel
theorem dX12_settles_48 : decode cX12_settles 48 = .ok (.iload_n 2, 1) := by decide +kernel
theorem dX12_settles_49 : decode cX12_settles 49 = .ok (.iload_n 2, 1) := by decide +kernel
theorem dX12_settles_50 : decode cX12_settles 50 = .ok (.invokevirtual 355, 3) := by decide +kernel
theorem dX12_settles_53 : decode cX12_settles 53 = .ok (.lmul, 1) := by decide +kernel
theorem dX12_settles_54 : decode cX12_settles 54 = .ok (.lsub, 1) := by decide +kernel
theorem dX12_settles_55 : decode cX12_settles 55 = .ok (.invokevirtual 348, 3) := by decide +kernel
theorem dX12_settles_58 : decode cX12_settles 58 = .ok (.iload_n 2, 1) := by decide +kernel
theorem dX12_settles_59 : decode cX12_settles 59 = .ok (.iconst 1, 1) := by decide +kernel
theorem dX12_settles_60 : decode cX12_settles 60 = .ok (.iadd, 1) := by decide +kernel
theorem dX12_settles_61 : decode cX12_settles 61 = .ok (.istore 6, 2) := by decide +kernel
theorem dX12_settles_63 : decode cX12_settles 63 = .ok (.iload 6, 2) := by decide +kernel
theorem dX12_settles_65 : decode cX12_settles 65 = .ok (.iconst 4, 1) := by decide +kernel
theorem dX12_settles_66 : decode cX12_settles 66 = .ok (.if_icmp .ge 54, 3) := by decide +kernel
theorem dX12_settles_69 : decode cX12_settles 69 = .ok (.aload_n 0, 1) := by decide +kernel
theorem dX12_settles_70 : decode cX12_settles 70 = .ok (.iload_n 1, 1) := by decide +kernel
theorem dX12_settles_71 : decode cX12_settles 71 = .ok (.iload_n 3, 1) := by decide +kernel
theorem dX12_settles_72 : decode cX12_settles 72 = .ok (.iload 6, 2) := by decide +kernel
theorem dX12_settles_74 : decode cX12_settles 74 = .ok (.aload_n 0, 1) := by decide +kernel
theorem dX12_settles_75 : decode cX12_settles 75 = .ok (.iload_n 1, 1) := by decide +kernel
theorem dX12_settles_76 : decode cX12_settles 76 = .ok (.iload_n 3, 1) := by decide +kernel
theorem dX12_settles_77 : decode cX12_settles 77 = .ok (.iload 6, 2) := by decide +kernel
theorem dX12_settles_79 : decode cX12_settles 79 = .ok (.invokevirtual 355, 3) := by decide +kernel
theorem dX12_settles_82 : decode cX12_settles 82 = .ok (.lload 4, 2) := by decide +kernel
theorem dX12_settles_84 : decode cX12_settles 84 = .ok (.aload_n 0, 1) := by decide +kernel
theorem dX12_settles_85 : decode cX12_settles 85 = .ok (.iload_n 1, 1) := by decide +kernel
theorem dX12_settles_86 : decode cX12_settles 86 = .ok (.iload_n 2, 1) := by decide +kernel
theorem dX12_settles_87 : decode cX12_settles 87 = .ok (.iload 6, 2) := by decide +kernel
theorem dX12_settles_89 : decode cX12_settles 89 = .ok (.invokevirtual 355, 3) := by decide +kernel
theorem dX12_settles_92 : decode cX12_settles 92 = .ok (.aload_n 0, 1) := by decide +kernel
theorem dX12_settles_93 : decode cX12_settles 93 = .ok (.getfield 63, 3) := by decide +kernel
theorem dX12_settles_96 : decode cX12_settles 96 = .ok (.iload_n 1, 1) := by decide +kernel
theorem dX12_settles_97 : decode cX12_settles 97 = .ok (.laload, 1) := by decide +kernel
theorem dX12_settles_98 : decode cX12_settles 98 = .ok (.invokestatic 358, 3) := by decide +kernel
theorem dX12_settles_101 : decode cX12_settles 101 = .ok (.lsub, 1) := by decide +kernel
theorem dX12_settles_102 : decode cX12_settles 102 = .ok (.aload_n 0, 1) := by decide +kernel
theorem dX12_settles_103 : decode cX12_settles 103 = .ok (.getfield 63, 3) := by decide +kernel
theorem dX12_settles_106 : decode cX12_settles 106 = .ok (.iload_n 1, 1) := by decide +kernel
theorem dX12_settles_107 : decode cX12_settles 107 = .ok (.laload, 1) := by decide +kernel
theorem dX12_settles_108 : decode cX12_settles 108 = .ok (.invokestatic 352, 3) := by decide +kernel
theorem dX12_settles_111 : decode cX12_settles 111 = .ok (.invokevirtual 348, 3) := by decide +kernel
theorem dX12_settles_114 : decode cX12_settles 114 = .ok (.iinc 6 1, 3) := by decide +kernel
theorem dX12_settles_117 : decode cX12_settles 117 = .ok (.goto (-54), 3) := by decide +kernel
theorem dX12_settles_120 : decode cX12_settles 120 = .ok (.iinc 3 1, 3) := by decide +kernel
theorem dX12_settles_123 : decode cX12_settles 123 = .ok (.goto (-114), 3) := by decide +kernel
theorem dX12_settles_126 : decode cX12_settles 126 = .ok (.iinc 2 1, 3) := by decide +kernel
theorem dX12_settles_129 : decode cX12_settles 129 = .ok (.goto (-127), 3) := by decide +kernel
theorem dX12_settles_132 : decode cX12_settles 132 = .ok (.return_, 1) := by decide +kernel
theorem dX12_puts__0 : decode cX12_puts_ 0 = .ok (.aload_n 0, 1) := by decide +kernel
theorem dX12_puts__1 : decode cX12_puts_ 1 = .ok (.getfield 60, 3) := by decide +kernel
theorem dX12_puts__4 : decode cX12_puts_ 4 = .ok (.iload_n 1, 1) := by decide +kernel
theorem dX12_puts__5 : decode cX12_puts_ 5 = .ok (.laload, 1) := by decide +kernel
theorem dX12_puts__6 : decode cX12_puts_ 6 = .ok (.aload_n 0, 1) := by decide +kernel
theorem dX12_puts__7 : decode cX12_puts_ 7 = .ok (.getfield 60, 3) := by decide +kernel
theorem dX12_puts__10 : decode cX12_puts_ 10 = .ok (.iload_n 1, 1) := by decide +kernel
theorem dX12_puts__11 : decode cX12_puts_ 11 = .ok (.laload, 1) := by decide +kernel
theorem dX12_puts__12 : decode cX12_puts_ 12 = .ok (.lload_n 2, 1) := by decide +kernel
theorem dX12_puts__13 : decode cX12_puts_ 13 = .ok (.invokestatic 280, 3) := by decide +kernel
theorem dX12_puts__16 : decode cX12_puts_ 16 = .ok (.ldiv, 1) := by decide +kernel
theorem dX12_puts__17 : decode cX12_puts_ 17 = .ok (.lload_n 2, 1) := by decide +kernel
theorem dX12_puts__18 : decode cX12_puts_ 18 = .ok (.lmul, 1) := by decide +kernel
theorem dX12_puts__19 : decode cX12_puts_ 19 = .ok (.lstore 4, 2) := by decide +kernel
theorem dX12_puts__21 : decode cX12_puts_ 21 = .ok (.lload 4, 2) := by decide +kernel
theorem dX12_puts__23 : decode cX12_puts_ 23 = .ok (.aload_n 0, 1) := by decide +kernel
theorem dX12_puts__24 : decode cX12_puts_ 24 = .ok (.getfield 60, 3) := by decide +kernel
theorem dX12_puts__27 : decode cX12_puts_ 27 = .ok (.iload_n 1, 1) := by decide +kernel
theorem dX12_puts__28 : decode cX12_puts_ 28 = .ok (.laload, 1) := by decide +kernel
theorem dX12_puts__29 : decode cX12_puts_ 29 = .ok (.lcmp, 1) := by decide +kernel
theorem dX12_puts__30 : decode cX12_puts_ 30 = .ok (.ifCond .eq 17, 3) := by decide +kernel
theorem dX12_puts__33 : decode cX12_puts_ 33 = .ok (.aload_n 0, 1) := by decide +kernel
theorem dX12_puts__34 : decode cX12_puts_ 34 = .ok (.iload_n 1, 1) := by decide +kernel
theorem dX12_puts__35 : decode cX12_puts_ 35 = .ok (.lload 4, 2) := by decide +kernel
theorem dX12_puts__37 : decode cX12_puts_ 37 = .ok (.aload_n 0, 1) := by decide +kernel
theorem dX12_puts__38 : decode cX12_puts_ 38 = .ok (.getfield 60, 3) := by decide +kernel
theorem dX12_puts__41 : decode cX12_puts_ 41 = .ok (.iload_n 1, 1) := by decide +kernel
theorem dX12_puts__42 : decode cX12_puts_ 42 = .ok (.laload, 1) := by decide +kernel
theorem dX12_puts__43 : decode cX12_puts_ 43 = .ok (.ldiv, 1) := by decide +kernel
theorem dX12_puts__44 : decode cX12_puts_ 44 = .ok (.invokevirtual 367, 3) := by decide +kernel
theorem dX12_puts__47 : decode cX12_puts_ 47 = .ok (.iconst 0, 1) := by decide +kernel
theorem dX12_puts__48 : decode cX12_puts_ 48 = .ok (.istore 6, 2) := by decide +kernel
theorem dX12_puts__50 : decode cX12_puts_ 50 = .ok (.iload 6, 2) := by decide +kernel
theorem dX12_puts__52 : decode cX12_puts_ 52 = .ok (.iconst 4, 1) := by decide +kernel
theorem dX12_puts__53 : decode cX12_puts_ 53 = .ok (.if_icmp .ge 36, 3) := by decide +kernel
theorem dX12_puts__56 : decode cX12_puts_ 56 = .ok (.aload_n 0, 1) := by decide +kernel
theorem dX12_puts__57 : decode cX12_puts_ 57 = .ok (.getfield 66, 3) := by decide +kernel
theorem dX12_puts__60 : decode cX12_puts_ 60 = .ok (.iload 6, 2) := by decide +kernel
theorem dX12_puts__62 : decode cX12_puts_ 62 = .ok (.aload_n 0, 1) := by decide +kernel
theorem dX12_puts__63 : decode cX12_puts_ 63 = .ok (.getfield 66, 3) := by decide +kernel
theorem dX12_puts__66 : decode cX12_puts_ 66 = .ok (.iload 6, 2) := by decide +kernel
theorem dX12_puts__68 : decode cX12_puts_ 68 = .ok (.laload, 1) := by decide +kernel
theorem dX12_puts__69 : decode cX12_puts_ 69 = .ok (.lload 4, 2) := by decide +kernel
theorem dX12_puts__71 : decode cX12_puts_ 71 = .ok (.lload_n 2, 1) := by decide +kernel
theorem dX12_puts__72 : decode cX12_puts_ 72 = .ok (.ldiv, 1) := by decide +kernel
theorem dX12_puts__73 : decode cX12_puts_ 73 = .ok (.aload_n 0, 1) := by decide +kernel
theorem dX12_puts__74 : decode cX12_puts_ 74 = .ok (.getfield 63, 3) := by decide +kernel
theorem dX12_puts__77 : decode cX12_puts_ 77 = .ok (.iload_n 1, 1) := by decide +kernel
theorem dX12_puts__78 : decode cX12_puts_ 78 = .ok (.laload, 1) := by decide +kernel
theorem dX12_puts__79 : decode cX12_puts_ 79 = .ok (.invokestatic 358, 3) := by decide +kernel
theorem dX12_puts__82 : decode cX12_puts_ 82 = .ok (.lastore, 1) := by decide +kernel
theorem dX12_puts__83 : decode cX12_puts_ 83 = .ok (.iinc 6 1, 3) := by decide +kernel
theorem dX12_puts__86 : decode cX12_puts_ 86 = .ok (.goto (-36), 3) := by decide +kernel
theorem dX12_puts__89 : decode cX12_puts_ 89 = .ok (.iconst 0, 1) := by decide +kernel
theorem dX12_puts__90 : decode cX12_puts_ 90 = .ok (.istore 6, 2) := by decide +kernel
theorem dX12_puts__92 : decode cX12_puts_ 92 = .ok (.iconst 0, 1) := by decide +kernel
theorem dX12_puts__93 : decode cX12_puts_ 93 = .ok (.istore 7, 2) := by decide +kernel
theorem dX12_puts__95 : decode cX12_puts_ 95 = .ok (.iload 7, 2) := by decide +kernel
theorem dX12_puts__97 : decode cX12_puts_ 97 = .ok (.iconst 4, 1) := by decide +kernel
theorem dX12_puts__98 : decode cX12_puts_ 98 = .ok (.if_icmp .ge 52, 3) := by decide +kernel
theorem dX12_puts__101 : decode cX12_puts_ 101 = .ok (.aload_n 0, 1) := by decide +kernel
theorem dX12_puts__102 : decode cX12_puts_ 102 = .ok (.iload_n 1, 1) := by decide +kernel
theorem dX12_puts__103 : decode cX12_puts_ 103 = .ok (.iload 7, 2) := by decide +kernel
theorem dX12_puts__105 : decode cX12_puts_ 105 = .ok (.iload 7, 2) := by decide +kernel
theorem dX12_puts__107 : decode cX12_puts_ 107 = .ok (.invokevirtual 355, 3) := by decide +kernel
theorem dX12_puts__110 : decode cX12_puts_ 110 = .ok (.lstore 8, 2) := by decide +kernel
theorem dX12_puts__112 : decode cX12_puts_ 112 = .ok (.aload_n 0, 1) := by decide +kernel
theorem dX12_puts__113 : decode cX12_puts_ 113 = .ok (.iload_n 1, 1) := by decide +kernel
theorem dX12_puts__114 : decode cX12_puts_ 114 = .ok (.iload 7, 2) := by decide +kernel
theorem dX12_puts__116 : decode cX12_puts_ 116 = .ok (.invokevirtual 370, 3) := by decide +kernel
theorem dX12_puts__119 : decode cX12_puts_ 119 = .ok (.iload 6, 2) := by decide +kernel
theorem dX12_puts__121 : decode cX12_puts_ 121 = .ok (.aload_n 0, 1) := by decide +kernel
theorem dX12_puts__122 : decode cX12_puts_ 122 = .ok (.iload_n 1, 1) := by decide +kernel
theorem dX12_puts__123 : decode cX12_puts_ 123 = .ok (.iload 7, 2) := by decide +kernel
theorem dX12_puts__125 : decode cX12_puts_ 125 = .ok (.iload 7, 2) := by decide +kernel
theorem dX12_puts__127 : decode cX12_puts_ 127 = .ok (.invokevirtual 355, 3) := by decide +kernel
theorem dX12_puts__130 : decode cX12_puts_ 130 = .ok (.lload 8, 2) := by decide +kernel
theorem dX12_puts__132 : decode cX12_puts_ 132 = .ok (.lcmp, 1) := by decide +kernel
theorem dX12_puts__133 : decode cX12_puts_ 133 = .ok (.ifCond .eq 7, 3) := by decide +kernel
theorem dX12_puts__136 : decode cX12_puts_ 136 = .ok (.iconst 1, 1) := by decide +kernel
theorem dX12_puts__137 : decode cX12_puts_ 137 = .ok (.goto 4, 3) := by decide +kernel
theorem dX12_puts__140 : decode cX12_puts_ 140 = .ok (.iconst 0, 1) := by decide +kernel
theorem dX12_puts__141 : decode cX12_puts_ 141 = .ok (.ior, 1) := by decide +kernel
theorem dX12_puts__142 : decode cX12_puts_ 142 = .ok (.istore 6, 2) := by decide +kernel
theorem dX12_puts__144 : decode cX12_puts_ 144 = .ok (.iinc 7 1, 3) := by decide +kernel
theorem dX12_puts__147 : decode cX12_puts_ 147 = .ok (.goto (-52), 3) := by decide +kernel
theorem dX12_puts__150 : decode cX12_puts_ 150 = .ok (.aload_n 0, 1) := by decide +kernel
theorem dX12_puts__151 : decode cX12_puts_ 151 = .ok (.iload_n 1, 1) := by decide +kernel
theorem dX12_puts__152 : decode cX12_puts_ 152 = .ok (.invokevirtual 374, 3) := by decide +kernel
theorem dX12_puts__155 : decode cX12_puts_ 155 = .ok (.iload 6, 2) := by decide +kernel
theorem dX12_puts__157 : decode cX12_puts_ 157 = .ok (.ireturn, 1) := by decide +kernel
theorem dX12_lessens_0 : decode cX12_lessens 0 = .ok (.aload_n 0, 1) := by decide +kernel
theorem dX12_lessens_1 : decode cX12_lessens 1 = .ok (.getfield 60, 3) := by decide +kernel
theorem dX12_lessens_4 : decode cX12_lessens 4 = .ok (.iload_n 1, 1) := by decide +kernel
theorem dX12_lessens_5 : decode cX12_lessens 5 = .ok (.laload, 1) := by decide +kernel
theorem dX12_lessens_6 : decode cX12_lessens 6 = .ok (.lstore_n 2, 1) := by decide +kernel
theorem dX12_lessens_7 : decode cX12_lessens 7 = .ok (.iconst 0, 1) := by decide +kernel
theorem dX12_lessens_8 : decode cX12_lessens 8 = .ok (.istore 4, 2) := by decide +kernel
theorem dX12_lessens_10 : decode cX12_lessens 10 = .ok (.iload 4, 2) := by decide +kernel
theorem dX12_lessens_12 : decode cX12_lessens 12 = .ok (.bipush 16, 2) := by decide +kernel
theorem dX12_lessens_14 : decode cX12_lessens 14 = .ok (.if_icmp .ge 26, 3) := by decide +kernel
theorem dX12_lessens_17 : decode cX12_lessens 17 = .ok (.lload_n 2, 1) := by decide +kernel
theorem dX12_lessens_18 : decode cX12_lessens 18 = .ok (.aload_n 0, 1) := by decide +kernel
theorem dX12_lessens_19 : decode cX12_lessens 19 = .ok (.getfield 57, 3) := by decide +kernel
theorem dX12_lessens_22 : decode cX12_lessens 22 = .ok (.bipush 16, 2) := by decide +kernel
theorem dX12_lessens_24 : decode cX12_lessens 24 = .ok (.iload_n 1, 1) := by decide +kernel
theorem dX12_lessens_25 : decode cX12_lessens 25 = .ok (.imul, 1) := by decide +kernel
theorem dX12_lessens_26 : decode cX12_lessens 26 = .ok (.iload 4, 2) := by decide +kernel
theorem dX12_lessens_28 : decode cX12_lessens 28 = .ok (.iadd, 1) := by decide +kernel
theorem dX12_lessens_29 : decode cX12_lessens 29 = .ok (.laload, 1) := by decide +kernel
theorem dX12_lessens_30 : decode cX12_lessens 30 = .ok (.invokestatic 280, 3) := by decide +kernel
theorem dX12_lessens_33 : decode cX12_lessens 33 = .ok (.lstore_n 2, 1) := by decide +kernel
theorem dX12_lessens_34 : decode cX12_lessens 34 = .ok (.iinc 4 1, 3) := by decide +kernel
theorem dX12_lessens_37 : decode cX12_lessens 37 = .ok (.goto (-27), 3) := by decide +kernel
theorem dX12_lessens_40 : decode cX12_lessens 40 = .ok (.iconst 0, 1) := by decide +kernel
theorem dX12_lessens_41 : decode cX12_lessens 41 = .ok (.istore 4, 2) := by decide +kernel
theorem dX12_lessens_43 : decode cX12_lessens 43 = .ok (.iload 4, 2) := by decide +kernel
theorem dX12_lessens_45 : decode cX12_lessens 45 = .ok (.bipush 16, 2) := by decide +kernel
theorem dX12_lessens_47 : decode cX12_lessens 47 = .ok (.if_icmp .ge 25, 3) := by decide +kernel
theorem dX12_lessens_50 : decode cX12_lessens 50 = .ok (.aload_n 0, 1) := by decide +kernel
theorem dX12_lessens_51 : decode cX12_lessens 51 = .ok (.getfield 57, 3) := by decide +kernel
theorem dX12_lessens_54 : decode cX12_lessens 54 = .ok (.bipush 16, 2) := by decide +kernel
theorem dX12_lessens_56 : decode cX12_lessens 56 = .ok (.iload_n 1, 1) := by decide +kernel
theorem dX12_lessens_57 : decode cX12_lessens 57 = .ok (.imul, 1) := by decide +kernel
theorem dX12_lessens_58 : decode cX12_lessens 58 = .ok (.iload 4, 2) := by decide +kernel
theorem dX12_lessens_60 : decode cX12_lessens 60 = .ok (.iadd, 1) := by decide +kernel
theorem dX12_lessens_61 : decode cX12_lessens 61 = .ok (.dup2, 1) := by decide +kernel
theorem dX12_lessens_62 : decode cX12_lessens 62 = .ok (.laload, 1) := by decide +kernel
theorem dX12_lessens_63 : decode cX12_lessens 63 = .ok (.lload_n 2, 1) := by decide +kernel
theorem dX12_lessens_64 : decode cX12_lessens 64 = .ok (.ldiv, 1) := by decide +kernel
theorem dX12_lessens_65 : decode cX12_lessens 65 = .ok (.lastore, 1) := by decide +kernel
theorem dX12_lessens_66 : decode cX12_lessens 66 = .ok (.iinc 4 1, 3) := by decide +kernel
theorem dX12_lessens_69 : decode cX12_lessens 69 = .ok (.goto (-26), 3) := by decide +kernel
theorem dX12_lessens_72 : decode cX12_lessens 72 = .ok (.aload_n 0, 1) := by decide +kernel
theorem dX12_lessens_73 : decode cX12_lessens 73 = .ok (.getfield 60, 3) := by decide +kernel
theorem dX12_lessens_76 : decode cX12_lessens 76 = .ok (.iload_n 1, 1) := by decide +kernel
theorem dX12_lessens_77 : decode cX12_lessens 77 = .ok (.dup2, 1) := by decide +kernel
theorem dX12_lessens_78 : decode cX12_lessens 78 = .ok (.laload, 1) := by decide +kernel
theorem dX12_lessens_79 : decode cX12_lessens 79 = .ok (.lload_n 2, 1) := by decide +kernel
theorem dX12_lessens_80 : decode cX12_lessens 80 = .ok (.ldiv, 1) := by decide +kernel
theorem dX12_lessens_81 : decode cX12_lessens 81 = .ok (.lastore, 1) := by decide +kernel
theorem dX12_lessens_82 : decode cX12_lessens 82 = .ok (.aload_n 0, 1) := by decide +kernel
theorem dX12_lessens_83 : decode cX12_lessens 83 = .ok (.getfield 63, 3) := by decide +kernel
theorem dX12_lessens_86 : decode cX12_lessens 86 = .ok (.iload_n 1, 1) := by decide +kernel
theorem dX12_lessens_87 : decode cX12_lessens 87 = .ok (.aload_n 0, 1) := by decide +kernel
theorem dX12_lessens_88 : decode cX12_lessens 88 = .ok (.getfield 63, 3) := by decide +kernel
theorem dX12_lessens_91 : decode cX12_lessens 91 = .ok (.iload_n 1, 1) := by decide +kernel
theorem dX12_lessens_92 : decode cX12_lessens 92 = .ok (.laload, 1) := by decide +kernel
theorem dX12_lessens_93 : decode cX12_lessens 93 = .ok (.lload_n 2, 1) := by decide +kernel
theorem dX12_lessens_94 : decode cX12_lessens 94 = .ok (.ldiv, 1) := by decide +kernel
theorem dX12_lessens_95 : decode cX12_lessens 95 = .ok (.lastore, 1) := by decide +kernel
theorem dX12_lessens_96 : decode cX12_lessens 96 = .ok (.return_, 1) := by decide +kernel
theorem dX12_takesRow_0 : decode cX12_takesRow 0 = .ok (.iconst 0, 1) := by decide +kernel
theorem dX12_takesRow_1 : decode cX12_takesRow 1 = .ok (.istore 4, 2) := by decide +kernel
theorem dX12_takesRow_3 : decode cX12_takesRow 3 = .ok (.iload 4, 2) := by decide +kernel
theorem dX12_takesRow_5 : decode cX12_takesRow 5 = .ok (.iconst 4, 1) := by decide +kernel
theorem dX12_takesRow_6 : decode cX12_takesRow 6 = .ok (.if_icmp .ge 46, 3) := by decide +kernel
theorem dX12_takesRow_9 : decode cX12_takesRow 9 = .ok (.iload_n 3, 1) := by decide +kernel
theorem dX12_takesRow_10 : decode cX12_takesRow 10 = .ok (.ifCond .eq 21, 3) := by decide +kernel
theorem dX12_takesRow_13 : decode cX12_takesRow 13 = .ok (.aload_n 0, 1) := by decide +kernel
theorem dX12_takesRow_14 : decode cX12_takesRow 14 = .ok (.getfield 48, 3) := by decide +kernel
theorem dX12_takesRow_17 : decode cX12_takesRow 17 = .ok (.iload 4, 2) := by decide +kernel
theorem dX12_takesRow_19 : decode cX12_takesRow 19 = .ok (.aload_n 0, 1) := by decide +kernel
theorem dX12_takesRow_20 : decode cX12_takesRow 20 = .ok (.iload_n 1, 1) := by decide +kernel
theorem dX12_takesRow_21 : decode cX12_takesRow 21 = .ok (.iload_n 2, 1) := by decide +kernel
theorem dX12_takesRow_22 : decode cX12_takesRow 22 = .ok (.iload 4, 2) := by decide +kernel
theorem dX12_takesRow_24 : decode cX12_takesRow 24 = .ok (.invokevirtual 355, 3) := by decide +kernel
theorem dX12_takesRow_27 : decode cX12_takesRow 27 = .ok (.lastore, 1) := by decide +kernel
theorem dX12_takesRow_28 : decode cX12_takesRow 28 = .ok (.goto 18, 3) := by decide +kernel
theorem dX12_takesRow_31 : decode cX12_takesRow 31 = .ok (.aload_n 0, 1) := by decide +kernel
theorem dX12_takesRow_32 : decode cX12_takesRow 32 = .ok (.getfield 45, 3) := by decide +kernel
theorem dX12_takesRow_35 : decode cX12_takesRow 35 = .ok (.iload 4, 2) := by decide +kernel
theorem dX12_takesRow_37 : decode cX12_takesRow 37 = .ok (.aload_n 0, 1) := by decide +kernel
theorem dX12_takesRow_38 : decode cX12_takesRow 38 = .ok (.iload_n 1, 1) := by decide +kernel
theorem dX12_takesRow_39 : decode cX12_takesRow 39 = .ok (.iload_n 2, 1) := by decide +kernel
theorem dX12_takesRow_40 : decode cX12_takesRow 40 = .ok (.iload 4, 2) := by decide +kernel
theorem dX12_takesRow_42 : decode cX12_takesRow 42 = .ok (.invokevirtual 355, 3) := by decide +kernel
theorem dX12_takesRow_45 : decode cX12_takesRow 45 = .ok (.lastore, 1) := by decide +kernel
theorem dX12_takesRow_46 : decode cX12_takesRow 46 = .ok (.iinc 4 1, 3) := by decide +kernel
theorem dX12_takesRow_49 : decode cX12_takesRow 49 = .ok (.goto (-46), 3) := by decide +kernel
theorem dX12_takesRow_52 : decode cX12_takesRow 52 = .ok (.return_, 1) := by decide +kernel
theorem dX12_isWhole_0 : decode cX12_isWhole 0 = .ok (.aload_n 0, 1) := by decide +kernel
theorem dX12_isWhole_1 : decode cX12_isWhole 1 = .ok (.getfield 24, 3) := by decide +kernel
theorem dX12_isWhole_4 : decode cX12_isWhole 4 = .ok (.iload_n 2, 1) := by decide +kernel
theorem dX12_isWhole_5 : decode cX12_isWhole 5 = .ok (.iaload, 1) := by decide +kernel
theorem dX12_isWhole_6 : decode cX12_isWhole 6 = .ok (.i2l, 1) := by decide +kernel
theorem dX12_isWhole_7 : decode cX12_isWhole 7 = .ok (.lstore_n 3, 1) := by decide +kernel
theorem dX12_isWhole_8 : decode cX12_isWhole 8 = .ok (.aload_n 0, 1) := by decide +kernel
theorem dX12_isWhole_9 : decode cX12_isWhole 9 = .ok (.getfield 27, 3) := by decide +kernel
theorem dX12_isWhole_12 : decode cX12_isWhole 12 = .ok (.iload_n 2, 1) := by decide +kernel
theorem dX12_isWhole_13 : decode cX12_isWhole 13 = .ok (.iaload, 1) := by decide +kernel
theorem dX12_isWhole_14 : decode cX12_isWhole 14 = .ok (.i2l, 1) := by decide +kernel
theorem dX12_isWhole_15 : decode cX12_isWhole 15 = .ok (.lstore 5, 2) := by decide +kernel
theorem dX12_isWhole_17 : decode cX12_isWhole 17 = .ok (.aload_n 0, 1) := by decide +kernel
theorem dX12_isWhole_18 : decode cX12_isWhole 18 = .ok (.getfield 60, 3) := by decide +kernel
theorem dX12_isWhole_21 : decode cX12_isWhole 21 = .ok (.iload_n 1, 1) := by decide +kernel
theorem dX12_isWhole_22 : decode cX12_isWhole 22 = .ok (.laload, 1) := by decide +kernel
theorem dX12_isWhole_23 : decode cX12_isWhole 23 = .ok (.lstore 7, 2) := by decide +kernel
theorem dX12_isWhole_25 : decode cX12_isWhole 25 = .ok (.iconst 0, 1) := by decide +kernel
theorem dX12_isWhole_26 : decode cX12_isWhole 26 = .ok (.istore 9, 2) := by decide +kernel
theorem dX12_isWhole_28 : decode cX12_isWhole 28 = .ok (.iload 9, 2) := by decide +kernel
theorem dX12_isWhole_30 : decode cX12_isWhole 30 = .ok (.iconst 4, 1) := by decide +kernel
theorem dX12_isWhole_31 : decode cX12_isWhole 31 = .ok (.if_icmp .ge 189, 3) := by decide +kernel
theorem dX12_isWhole_34 : decode cX12_isWhole 34 = .ok (.aload_n 0, 1) := by decide +kernel
theorem dX12_isWhole_35 : decode cX12_isWhole 35 = .ok (.iload_n 1, 1) := by decide +kernel
theorem dX12_isWhole_36 : decode cX12_isWhole 36 = .ok (.iload 9, 2) := by decide +kernel
theorem dX12_isWhole_38 : decode cX12_isWhole 38 = .ok (.iconst 0, 1) := by decide +kernel
theorem dX12_isWhole_39 : decode cX12_isWhole 39 = .ok (.invokevirtual 377, 3) := by decide +kernel
theorem dX12_isWhole_42 : decode cX12_isWhole 42 = .ok (.ldc2_w 264, 3) := by decide +kernel
theorem dX12_isWhole_45 : decode cX12_isWhole 45 = .ok (.aload_n 0, 1) := by decide +kernel
theorem dX12_isWhole_46 : decode cX12_isWhole 46 = .ok (.getfield 45, 3) := by decide +kernel
theorem dX12_isWhole_49 : decode cX12_isWhole 49 = .ok (.iconst 0, 1) := by decide +kernel
theorem dX12_isWhole_50 : decode cX12_isWhole 50 = .ok (.laload, 1) := by decide +kernel
theorem dX12_isWhole_51 : decode cX12_isWhole 51 = .ok (.lmul, 1) := by decide +kernel
theorem dX12_isWhole_52 : decode cX12_isWhole 52 = .ok (.lload 7, 2) := by decide +kernel
theorem dX12_isWhole_54 : decode cX12_isWhole 54 = .ok (.lrem, 1) := by decide +kernel
theorem dX12_isWhole_55 : decode cX12_isWhole 55 = .ok (.lconst 0, 1) := by decide +kernel
theorem dX12_isWhole_56 : decode cX12_isWhole 56 = .ok (.lcmp, 1) := by decide +kernel
theorem dX12_isWhole_57 : decode cX12_isWhole 57 = .ok (.ifCond .ne 45, 3) := by decide +kernel
theorem dX12_isWhole_60 : decode cX12_isWhole 60 = .ok (.aload_n 0, 1) := by decide +kernel
theorem dX12_isWhole_61 : decode cX12_isWhole 61 = .ok (.aload_n 0, 1) := by decide +kernel
theorem dX12_isWhole_62 : decode cX12_isWhole 62 = .ok (.getfield 45, 3) := by decide +kernel
theorem dX12_isWhole_65 : decode cX12_isWhole 65 = .ok (.iconst 0, 1) := by decide +kernel
theorem dX12_isWhole_66 : decode cX12_isWhole 66 = .ok (.laload, 1) := by decide +kernel
theorem dX12_isWhole_67 : decode cX12_isWhole 67 = .ok (.aload_n 0, 1) := by decide +kernel
theorem dX12_isWhole_68 : decode cX12_isWhole 68 = .ok (.getfield 45, 3) := by decide +kernel
theorem dX12_isWhole_71 : decode cX12_isWhole 71 = .ok (.iconst 1, 1) := by decide +kernel
theorem dX12_isWhole_72 : decode cX12_isWhole 72 = .ok (.laload, 1) := by decide +kernel
theorem dX12_isWhole_73 : decode cX12_isWhole 73 = .ok (.aload_n 0, 1) := by decide +kernel
theorem dX12_isWhole_74 : decode cX12_isWhole 74 = .ok (.getfield 45, 3) := by decide +kernel
theorem dX12_isWhole_77 : decode cX12_isWhole 77 = .ok (.iconst 2, 1) := by decide +kernel
theorem dX12_isWhole_78 : decode cX12_isWhole 78 = .ok (.laload, 1) := by decide +kernel
theorem dX12_isWhole_79 : decode cX12_isWhole 79 = .ok (.aload_n 0, 1) := by decide +kernel
theorem dX12_isWhole_80 : decode cX12_isWhole 80 = .ok (.getfield 45, 3) := by decide +kernel
theorem dX12_isWhole_83 : decode cX12_isWhole 83 = .ok (.iconst 3, 1) := by decide +kernel
theorem dX12_isWhole_84 : decode cX12_isWhole 84 = .ok (.laload, 1) := by decide +kernel
theorem dX12_isWhole_85 : decode cX12_isWhole 85 = .ok (.lload_n 3, 1) := by decide +kernel
theorem dX12_isWhole_86 : decode cX12_isWhole 86 = .ok (.lload 5, 2) := by decide +kernel
theorem dX12_isWhole_88 : decode cX12_isWhole 88 = .ok (.invokevirtual 326, 3) := by decide +kernel
theorem dX12_isWhole_91 : decode cX12_isWhole 91 = .ok (.lload 7, 2) := by decide +kernel
theorem dX12_isWhole_93 : decode cX12_isWhole 93 = .ok (.lload 7, 2) := by decide +kernel
theorem dX12_isWhole_95 : decode cX12_isWhole 95 = .ok (.lmul, 1) := by decide +kernel
theorem dX12_isWhole_96 : decode cX12_isWhole 96 = .ok (.lrem, 1) := by decide +kernel
theorem dX12_isWhole_97 : decode cX12_isWhole 97 = .ok (.lconst 0, 1) := by decide +kernel
theorem dX12_isWhole_98 : decode cX12_isWhole 98 = .ok (.lcmp, 1) := by decide +kernel
theorem dX12_isWhole_99 : decode cX12_isWhole 99 = .ok (.ifCond .eq 5, 3) := by decide +kernel
theorem dX12_isWhole_102 : decode cX12_isWhole 102 = .ok (.iconst 0, 1) := by decide +kernel
theorem dX12_isWhole_103 : decode cX12_isWhole 103 = .ok (.ireturn, 1) := by decide +kernel
theorem dX12_isWhole_104 : decode cX12_isWhole 104 = .ok (.iconst 0, 1) := by decide +kernel
theorem dX12_isWhole_105 : decode cX12_isWhole 105 = .ok (.istore 10, 2) := by decide +kernel
theorem dX12_isWhole_107 : decode cX12_isWhole 107 = .ok (.iload 10, 2) := by decide +kernel
theorem dX12_isWhole_109 : decode cX12_isWhole 109 = .ok (.iload 9, 2) := by decide +kernel
theorem dX12_isWhole_111 : decode cX12_isWhole 111 = .ok (.if_icmp .ge 103, 3) := by decide +kernel
theorem dX12_isWhole_114 : decode cX12_isWhole 114 = .ok (.aload_n 0, 1) := by decide +kernel
theorem dX12_isWhole_115 : decode cX12_isWhole 115 = .ok (.iload_n 1, 1) := by decide +kernel
theorem dX12_isWhole_116 : decode cX12_isWhole 116 = .ok (.iload 10, 2) := by decide +kernel
theorem dX12_isWhole_118 : decode cX12_isWhole 118 = .ok (.iconst 1, 1) := by decide +kernel
theorem dX12_isWhole_119 : decode cX12_isWhole 119 = .ok (.invokevirtual 377, 3) := by decide +kernel
theorem dX12_isWhole_122 : decode cX12_isWhole 122 = .ok (.aload_n 0, 1) := by decide +kernel
theorem dX12_isWhole_123 : decode cX12_isWhole 123 = .ok (.getfield 45, 3) := by decide +kernel
theorem dX12_isWhole_126 : decode cX12_isWhole 126 = .ok (.iconst 0, 1) := by decide +kernel
theorem dX12_isWhole_127 : decode cX12_isWhole 127 = .ok (.laload, 1) := by decide +kernel
theorem dX12_isWhole_128 : decode cX12_isWhole 128 = .ok (.aload_n 0, 1) := by decide +kernel
theorem dX12_isWhole_129 : decode cX12_isWhole 129 = .ok (.getfield 48, 3) := by decide +kernel
theorem dX12_isWhole_132 : decode cX12_isWhole 132 = .ok (.iconst 0, 1) := by decide +kernel
theorem dX12_isWhole_133 : decode cX12_isWhole 133 = .ok (.laload, 1) := by decide +kernel
theorem dX12_isWhole_134 : decode cX12_isWhole 134 = .ok (.lmul, 1) := by decide +kernel
theorem dX12_isWhole_135 : decode cX12_isWhole 135 = .ok (.lload_n 3, 1) := by decide +kernel
theorem dX12_isWhole_136 : decode cX12_isWhole 136 = .ok (.aload_n 0, 1) := by decide +kernel
theorem dX12_isWhole_137 : decode cX12_isWhole 137 = .ok (.getfield 45, 3) := by decide +kernel
theorem dX12_isWhole_140 : decode cX12_isWhole 140 = .ok (.iconst 1, 1) := by decide +kernel
theorem dX12_isWhole_141 : decode cX12_isWhole 141 = .ok (.laload, 1) := by decide +kernel
theorem dX12_isWhole_142 : decode cX12_isWhole 142 = .ok (.lmul, 1) := by decide +kernel
theorem dX12_isWhole_143 : decode cX12_isWhole 143 = .ok (.aload_n 0, 1) := by decide +kernel
theorem dX12_isWhole_144 : decode cX12_isWhole 144 = .ok (.getfield 48, 3) := by decide +kernel
theorem dX12_isWhole_147 : decode cX12_isWhole 147 = .ok (.iconst 1, 1) := by decide +kernel
theorem dX12_isWhole_148 : decode cX12_isWhole 148 = .ok (.laload, 1) := by decide +kernel
theorem dX12_isWhole_149 : decode cX12_isWhole 149 = .ok (.lmul, 1) := by decide +kernel
theorem dX12_isWhole_150 : decode cX12_isWhole 150 = .ok (.lsub, 1) := by decide +kernel
theorem dX12_isWhole_151 : decode cX12_isWhole 151 = .ok (.lload 5, 2) := by decide +kernel
theorem dX12_isWhole_153 : decode cX12_isWhole 153 = .ok (.aload_n 0, 1) := by decide +kernel
theorem dX12_isWhole_154 : decode cX12_isWhole 154 = .ok (.getfield 45, 3) := by decide +kernel
theorem dX12_isWhole_157 : decode cX12_isWhole 157 = .ok (.iconst 2, 1) := by decide +kernel
theorem dX12_isWhole_158 : decode cX12_isWhole 158 = .ok (.laload, 1) := by decide +kernel
theorem dX12_isWhole_159 : decode cX12_isWhole 159 = .ok (.lmul, 1) := by decide +kernel
theorem dX12_isWhole_160 : decode cX12_isWhole 160 = .ok (.aload_n 0, 1) := by decide +kernel
theorem dX12_isWhole_161 : decode cX12_isWhole 161 = .ok (.getfield 48, 3) := by decide +kernel
theorem dX12_isWhole_164 : decode cX12_isWhole 164 = .ok (.iconst 2, 1) := by decide +kernel
theorem dX12_isWhole_165 : decode cX12_isWhole 165 = .ok (.laload, 1) := by decide +kernel
theorem dX12_isWhole_166 : decode cX12_isWhole 166 = .ok (.lmul, 1) := by decide +kernel
theorem dX12_isWhole_167 : decode cX12_isWhole 167 = .ok (.lsub, 1) := by decide +kernel
theorem dX12_isWhole_168 : decode cX12_isWhole 168 = .ok (.lload_n 3, 1) := by decide +kernel
theorem dX12_isWhole_169 : decode cX12_isWhole 169 = .ok (.lload 5, 2) := by decide +kernel
theorem dX12_isWhole_171 : decode cX12_isWhole 171 = .ok (.lmul, 1) := by decide +kernel
theorem dX12_isWhole_172 : decode cX12_isWhole 172 = .ok (.aload_n 0, 1) := by decide +kernel
theorem dX12_isWhole_173 : decode cX12_isWhole 173 = .ok (.getfield 45, 3) := by decide +kernel
theorem dX12_isWhole_176 : decode cX12_isWhole 176 = .ok (.iconst 3, 1) := by decide +kernel
theorem dX12_isWhole_177 : decode cX12_isWhole 177 = .ok (.laload, 1) := by decide +kernel
theorem dX12_isWhole_178 : decode cX12_isWhole 178 = .ok (.lmul, 1) := by decide +kernel
theorem dX12_isWhole_179 : decode cX12_isWhole 179 = .ok (.aload_n 0, 1) := by decide +kernel
theorem dX12_isWhole_180 : decode cX12_isWhole 180 = .ok (.getfield 48, 3) := by decide +kernel
theorem dX12_isWhole_183 : decode cX12_isWhole 183 = .ok (.iconst 3, 1) := by decide +kernel
theorem dX12_isWhole_184 : decode cX12_isWhole 184 = .ok (.laload, 1) := by decide +kernel
theorem dX12_isWhole_185 : decode cX12_isWhole 185 = .ok (.lmul, 1) := by decide +kernel
theorem dX12_isWhole_186 : decode cX12_isWhole 186 = .ok (.ladd, 1) := by decide +kernel
theorem dX12_isWhole_187 : decode cX12_isWhole 187 = .ok (.lstore 11, 2) := by decide +kernel
theorem dX12_isWhole_189 : decode cX12_isWhole 189 = .ok (.ldc2_w 264, 3) := by decide +kernel
theorem dX12_isWhole_192 : decode cX12_isWhole 192 = .ok (.lload 11, 2) := by decide +kernel
theorem dX12_isWhole_194 : decode cX12_isWhole 194 = .ok (.lmul, 1) := by decide +kernel
theorem dX12_isWhole_195 : decode cX12_isWhole 195 = .ok (.lload 7, 2) := by decide +kernel
theorem dX12_isWhole_197 : decode cX12_isWhole 197 = .ok (.lload 7, 2) := by decide +kernel
theorem dX12_isWhole_199 : decode cX12_isWhole 199 = .ok (.lmul, 1) := by decide +kernel
theorem dX12_isWhole_200 : decode cX12_isWhole 200 = .ok (.lrem, 1) := by decide +kernel
theorem dX12_isWhole_201 : decode cX12_isWhole 201 = .ok (.lconst 0, 1) := by decide +kernel
theorem dX12_isWhole_202 : decode cX12_isWhole 202 = .ok (.lcmp, 1) := by decide +kernel
theorem dX12_isWhole_203 : decode cX12_isWhole 203 = .ok (.ifCond .eq 5, 3) := by decide +kernel
theorem dX12_isWhole_206 : decode cX12_isWhole 206 = .ok (.iconst 0, 1) := by decide +kernel
theorem dX12_isWhole_207 : decode cX12_isWhole 207 = .ok (.ireturn, 1) := by decide +kernel
theorem dX12_isWhole_208 : decode cX12_isWhole 208 = .ok (.iinc 10 1, 3) := by decide +kernel
theorem dX12_isWhole_211 : decode cX12_isWhole 211 = .ok (.goto (-104), 3) := by decide +kernel
theorem dX12_isWhole_214 : decode cX12_isWhole 214 = .ok (.iinc 9 1, 3) := by decide +kernel
theorem dX12_isWhole_217 : decode cX12_isWhole 217 = .ok (.goto (-189), 3) := by decide +kernel
theorem dX12_isWhole_220 : decode cX12_isWhole 220 = .ok (.iconst 1, 1) := by decide +kernel
theorem dX12_isWhole_221 : decode cX12_isWhole 221 = .ok (.ireturn, 1) := by decide +kernel
theorem dX12_putsLeast_0 : decode cX12_putsLeast 0 = .ok (.lload_n 1, 1) := by decide +kernel
theorem dX12_putsLeast_1 : decode cX12_putsLeast 1 = .ok (.lstore_n 3, 1) := by decide +kernel
theorem dX12_putsLeast_2 : decode cX12_putsLeast 2 = .ok (.iconst 0, 1) := by decide +kernel
theorem dX12_putsLeast_3 : decode cX12_putsLeast 3 = .ok (.istore 5, 2) := by decide +kernel
theorem dX12_putsLeast_5 : decode cX12_putsLeast 5 = .ok (.iload 5, 2) := by decide +kernel
theorem dX12_putsLeast_7 : decode cX12_putsLeast 7 = .ok (.iconst 4, 1) := by decide +kernel
theorem dX12_putsLeast_8 : decode cX12_putsLeast 8 = .ok (.if_icmp .ge 21, 3) := by decide +kernel
theorem dX12_putsLeast_11 : decode cX12_putsLeast 11 = .ok (.lload_n 3, 1) := by decide +kernel
theorem dX12_putsLeast_12 : decode cX12_putsLeast 12 = .ok (.aload_n 0, 1) := by decide +kernel
theorem dX12_putsLeast_13 : decode cX12_putsLeast 13 = .ok (.getfield 66, 3) := by decide +kernel
theorem dX12_putsLeast_16 : decode cX12_putsLeast 16 = .ok (.iload 5, 2) := by decide +kernel
theorem dX12_putsLeast_18 : decode cX12_putsLeast 18 = .ok (.laload, 1) := by decide +kernel
theorem dX12_putsLeast_19 : decode cX12_putsLeast 19 = .ok (.invokestatic 280, 3) := by decide +kernel
theorem dX12_putsLeast_22 : decode cX12_putsLeast 22 = .ok (.lstore_n 3, 1) := by decide +kernel
theorem dX12_putsLeast_23 : decode cX12_putsLeast 23 = .ok (.iinc 5 1, 3) := by decide +kernel
theorem dX12_putsLeast_26 : decode cX12_putsLeast 26 = .ok (.goto (-21), 3) := by decide +kernel
theorem dX12_putsLeast_29 : decode cX12_putsLeast 29 = .ok (.iconst 0, 1) := by decide +kernel
theorem dX12_putsLeast_30 : decode cX12_putsLeast 30 = .ok (.istore 5, 2) := by decide +kernel
theorem dX12_putsLeast_32 : decode cX12_putsLeast 32 = .ok (.iload 5, 2) := by decide +kernel
theorem dX12_putsLeast_34 : decode cX12_putsLeast 34 = .ok (.iconst 4, 1) := by decide +kernel
theorem dX12_putsLeast_35 : decode cX12_putsLeast 35 = .ok (.if_icmp .ge 20, 3) := by decide +kernel
theorem dX12_putsLeast_38 : decode cX12_putsLeast 38 = .ok (.aload_n 0, 1) := by decide +kernel
theorem dX12_putsLeast_39 : decode cX12_putsLeast 39 = .ok (.getfield 66, 3) := by decide +kernel
theorem dX12_putsLeast_42 : decode cX12_putsLeast 42 = .ok (.iload 5, 2) := by decide +kernel
theorem dX12_putsLeast_44 : decode cX12_putsLeast 44 = .ok (.dup2, 1) := by decide +kernel
theorem dX12_putsLeast_45 : decode cX12_putsLeast 45 = .ok (.laload, 1) := by decide +kernel
theorem dX12_putsLeast_46 : decode cX12_putsLeast 46 = .ok (.lload_n 3, 1) := by decide +kernel
theorem dX12_putsLeast_47 : decode cX12_putsLeast 47 = .ok (.ldiv, 1) := by decide +kernel
theorem dX12_putsLeast_48 : decode cX12_putsLeast 48 = .ok (.lastore, 1) := by decide +kernel
theorem dX12_putsLeast_49 : decode cX12_putsLeast 49 = .ok (.iinc 5 1, 3) := by decide +kernel
theorem dX12_putsLeast_52 : decode cX12_putsLeast 52 = .ok (.goto (-20), 3) := by decide +kernel
theorem dX12_putsLeast_55 : decode cX12_putsLeast 55 = .ok (.lload_n 1, 1) := by decide +kernel
theorem dX12_putsLeast_56 : decode cX12_putsLeast 56 = .ok (.lload_n 3, 1) := by decide +kernel
theorem dX12_putsLeast_57 : decode cX12_putsLeast 57 = .ok (.ldiv, 1) := by decide +kernel
theorem dX12_putsLeast_58 : decode cX12_putsLeast 58 = .ok (.lstore 5, 2) := by decide +kernel
theorem dX12_putsLeast_60 : decode cX12_putsLeast 60 = .ok (.aload_n 0, 1) := by decide +kernel
theorem dX12_putsLeast_61 : decode cX12_putsLeast 61 = .ok (.getfield 60, 3) := by decide +kernel
theorem dX12_putsLeast_64 : decode cX12_putsLeast 64 = .ok (.bipush 8, 2) := by decide +kernel
theorem dX12_putsLeast_66 : decode cX12_putsLeast 66 = .ok (.laload, 1) := by decide +kernel
theorem dX12_putsLeast_67 : decode cX12_putsLeast 67 = .ok (.aload_n 0, 1) := by decide +kernel
theorem dX12_putsLeast_68 : decode cX12_putsLeast 68 = .ok (.getfield 60, 3) := by decide +kernel
theorem dX12_putsLeast_71 : decode cX12_putsLeast 71 = .ok (.bipush 8, 2) := by decide +kernel
theorem dX12_putsLeast_73 : decode cX12_putsLeast 73 = .ok (.laload, 1) := by decide +kernel
theorem dX12_putsLeast_74 : decode cX12_putsLeast 74 = .ok (.lload 5, 2) := by decide +kernel
theorem dX12_putsLeast_76 : decode cX12_putsLeast 76 = .ok (.invokestatic 280, 3) := by decide +kernel
theorem dX12_putsLeast_79 : decode cX12_putsLeast 79 = .ok (.ldiv, 1) := by decide +kernel
theorem dX12_putsLeast_80 : decode cX12_putsLeast 80 = .ok (.lload 5, 2) := by decide +kernel
theorem dX12_putsLeast_82 : decode cX12_putsLeast 82 = .ok (.lmul, 1) := by decide +kernel
theorem dX12_putsLeast_83 : decode cX12_putsLeast 83 = .ok (.lstore 7, 2) := by decide +kernel
theorem dX12_putsLeast_85 : decode cX12_putsLeast 85 = .ok (.lload 7, 2) := by decide +kernel
theorem dX12_putsLeast_87 : decode cX12_putsLeast 87 = .ok (.aload_n 0, 1) := by decide +kernel
theorem dX12_putsLeast_88 : decode cX12_putsLeast 88 = .ok (.getfield 60, 3) := by decide +kernel
theorem dX12_putsLeast_91 : decode cX12_putsLeast 91 = .ok (.bipush 8, 2) := by decide +kernel
theorem dX12_putsLeast_93 : decode cX12_putsLeast 93 = .ok (.laload, 1) := by decide +kernel
theorem dX12_putsLeast_94 : decode cX12_putsLeast 94 = .ok (.lcmp, 1) := by decide +kernel
theorem dX12_putsLeast_95 : decode cX12_putsLeast 95 = .ok (.ifCond .eq 19, 3) := by decide +kernel
theorem dX12_putsLeast_98 : decode cX12_putsLeast 98 = .ok (.aload_n 0, 1) := by decide +kernel
theorem dX12_putsLeast_99 : decode cX12_putsLeast 99 = .ok (.bipush 8, 2) := by decide +kernel
theorem dX12_putsLeast_101 : decode cX12_putsLeast 101 = .ok (.lload 7, 2) := by decide +kernel
theorem dX12_putsLeast_103 : decode cX12_putsLeast 103 = .ok (.aload_n 0, 1) := by decide +kernel
theorem dX12_putsLeast_104 : decode cX12_putsLeast 104 = .ok (.getfield 60, 3) := by decide +kernel
theorem dX12_putsLeast_107 : decode cX12_putsLeast 107 = .ok (.bipush 8, 2) := by decide +kernel
theorem dX12_putsLeast_109 : decode cX12_putsLeast 109 = .ok (.laload, 1) := by decide +kernel
theorem dX12_putsLeast_110 : decode cX12_putsLeast 110 = .ok (.ldiv, 1) := by decide +kernel
theorem dX12_putsLeast_111 : decode cX12_putsLeast 111 = .ok (.invokevirtual 367, 3) := by decide +kernel
theorem dX12_putsLeast_114 : decode cX12_putsLeast 114 = .ok (.aload_n 0, 1) := by decide +kernel
theorem dX12_putsLeast_115 : decode cX12_putsLeast 115 = .ok (.bipush 8, 2) := by decide +kernel
theorem dX12_putsLeast_117 : decode cX12_putsLeast 117 = .ok (.lload 5, 2) := by decide +kernel
theorem dX12_putsLeast_119 : decode cX12_putsLeast 119 = .ok (.invokevirtual 388, 3) := by decide +kernel
theorem dX12_putsLeast_122 : decode cX12_putsLeast 122 = .ok (.ireturn, 1) := by decide +kernel
def mX12_entry_B178 (v0 : Nat) (v1 : Int) (v2 : Int) (v3 : Int) (v4 : Int) (v8 : Int) (v10 : Int) (v12 : Int) (σ : mSt) : Option (Int × mSt) := if wI v2 = 0 then (mCall (mX12_part v0 v1 1 σ) fun b21 s22 => mCall (mX12_part v0 v1 2 s22) fun b24 s25 => mCall (mX12_part v0 v1 3 s25) fun b27 s28 => some ((((b21 * v4) * v12) - ((b24 * v4) * v10)) - ((b27 * v4) * v8), s28)) else if wI v3 = 0 then (mCall (mX12_part v0 v1 1 σ) fun b12 s13 => mCall (mX12_part v0 v1 2 s13) fun b15 s16 => mCall (mX12_part v0 v1 3 s16) fun b18 s19 => some (((b12 * v12) + (b15 * v10)) + (b18 * v8), s19)) else mCall (mX12_part v0 v1 0 σ) fun b3 s4 => mCall (mX12_part v0 v1 2 s4) fun b6 s7 => mCall (mX12_part v0 v1 3 s7) fun b9 s10 => some (((b3 * v12) - (b6 * v8)) - ((b9 * v4) * v10), s10)
def mX12_entry (v0 : Nat) (v1 : Int) (v2 : Int) (v3 : Int) (σ : mSt) : Option (Int × mSt) := mG (isC v0 11) <| mRef (σ v0 15) fun r30 => mRef (σ v0 22) fun r32 => mG (ixOK r32 20 v1) <| mG (ixOK r30 20 (σ r32 (wI v1).toNat)) <| bnd (wI (σ r30 (wI (σ r32 (wI v1).toNat)).toNat)) fun a36 => mRef (σ v0 16) fun r38 => mRef (σ v0 22) fun r40 => mG (ixOK r40 20 v1) <| mG (ixOK r38 20 (σ r40 (wI v1).toNat)) <| bnd (wI (σ r38 (wI (σ r40 (wI v1).toNat)).toNat)) fun a44 => mRef (σ v0 28) fun r46 => mG (ixOK r46 20 0) <| bnd (wI (σ r46 0)) fun a49 => mRef (σ v0 28) fun r51 => mG (ixOK r51 20 1) <| bnd (wI (σ r51 1)) fun a54 => mRef (σ v0 28) fun r56 => mG (ixOK r56 20 2) <| bnd (wI (σ r56 2)) fun a59 => if wL a59 = 0 then (if wI v2 = 0 then (if wI v3 = 0 then (mCall (mX12_part v0 v1 0 σ) fun b94 s95 => mCall (mX12_part v0 v1 1 s95) fun b97 s98 => some (b94 + b97, s98)) else mCall (mX12_part v0 v1 2 σ) fun b88 s89 => mCall (mX12_part v0 v1 3 s89) fun b91 s92 => some (a44 * (b88 + b91), s92)) else if wI v3 = 0 then (mCall (mX12_part v0 v1 2 σ) fun b81 s82 => mCall (mX12_part v0 v1 3 s82) fun b84 s85 => some (b81 - b84, s85)) else mCall (mX12_part v0 v1 0 σ) fun b75 s76 => mCall (mX12_part v0 v1 1 s76) fun b78 s79 => some (b75 - b78, s79)) else if wI v2 = 0 then (if wI v3 = 0 then (mCall (mX12_part v0 v1 0 σ) fun b64 s65 => mCall (mX12_part v0 v1 2 s65) fun b67 s68 => mCall (mX12_part v0 v1 3 s68) fun b70 s71 => some (((b64 * a59) + (b67 * a49)) + ((b70 * a36) * a54), s71)) else mX12_entry_B178 v0 v1 v2 v3 a36 a49 a54 a59 σ) else mX12_entry_B178 v0 v1 v2 v3 a36 a49 a54 a59 σ
def mX12_matrix_B129 (v0 : Nat) (v1 : Int) (v2 : Int) (v3 : Int) (v4 : Int) (t0 : Int) (t1 : Int) (t2 : Int) (σ : mSt) : Option (Int × mSt) := mCall (mX12_told t0 (t1 * (wI t2)) v4 σ) fun b1 s2 => some (b1, s2)
def mX12_matrix_B84 (v0 : Nat) (v1 : Int) (v2 : Int) (v3 : Int) (v4 : Int) (t0 : Nat) (t1 : Int) (σ : mSt) : Option (Int × mSt) := mG (isC t0 11) <| bnd (upS σ t0 0 t1) fun s5 => if wI (s5 v0 0) = 1 then (some (0, s5)) else mCall (mX12_entry v0 v1 v2 v3 s5) fun b8 s9 => mCall (mX12_part v0 v1 4 s9) fun b11 s12 => mRef (s12 v0 28) fun r14 => mG (ixOK r14 20 2) <| if wI (s12 r14 2) = 0 then (mX12_matrix_B129 v0 v1 v2 v3 v4 b8 b11 1 s12) else mRef (s12 v0 28) fun r18 => mG (ixOK r18 20 2) <| mX12_matrix_B129 v0 v1 v2 v3 v4 b8 b11 (s12 r18 2) s12
def mX12_matrix_B83 (v0 : Nat) (v1 : Int) (v2 : Int) (v3 : Int) (v4 : Int) (t0 : Nat) (σ : mSt) : Option (Int × mSt) := mX12_matrix_B84 v0 v1 v2 v3 v4 t0 1 σ
def mX12_matrix_B44 (v0 : Nat) (v1 : Int) (v2 : Int) (v3 : Int) (v4 : Int) (t0 : Int) (σ : mSt) : Option (Int × mSt) := if wI t0 = 0 then (mX12_matrix_B83 v0 v1 v2 v3 v4 v0 σ) else mRef (σ v0 22) fun r22 => mG (ixOK r22 20 v1) <| mCall (mX12_indexOf v0 (σ r22 (wI v1).toNat) σ) fun b25 s26 => if wI b25 = 1 then (mRef (s26 v0 22) fun r29 => mG (ixOK r29 20 v1) <| mCall (mX12_solves v0 (s26 r29 (wI v1).toNat) s26) fun b32 s33 => if wI b32 = 0 then (mX12_matrix_B83 v0 v1 v2 v3 v4 v0 s33) else mX12_matrix_B84 v0 v1 v2 v3 v4 v0 0 s33) else mX12_matrix_B83 v0 v1 v2 v3 v4 v0 s26
def mX12_matrix_B43 (v0 : Nat) (v1 : Int) (v2 : Int) (v3 : Int) (v4 : Int) (σ : mSt) : Option (Int × mSt) := mX12_matrix_B44 v0 v1 v2 v3 v4 0 σ
def mX12_matrix (v0 : Nat) (v1 : Int) (v2 : Int) (v3 : Int) (v4 : Int) (σ : mSt) : Option (Int × mSt) := mG (isC v0 11) <| mCall (mX12_isKept v0 v1 σ) fun b36 s37 => if wI b36 = 0 then (mX12_matrix_B43 v0 v1 v2 v3 v4 s37) else mCall (mX12_within (wI v2) 0 1 s37) fun b40 s41 => if wI b40 = 0 then (mX12_matrix_B43 v0 v1 v2 v3 v4 s41) else mCall (mX12_within (wI v3) 0 1 s41) fun b44 s45 => if wI b44 = 0 then (mX12_matrix_B43 v0 v1 v2 v3 v4 s45) else mCall (mX12_within (wI v4) 0 1 s45) fun b48 s49 => if wI b48 = 0 then (mX12_matrix_B43 v0 v1 v2 v3 v4 s49) else mX12_matrix_B44 v0 v1 v2 v3 v4 1 s49
def mX12_get (v0 : Nat) (v1 : Int) (v2 : Int) (v3 : Int) (σ : mSt) : Option (Int × mSt) := mG (isC v0 11) <| mRef (σ v0 29) fun r1 => mG (ixOK r1 21 (((16 * v1) + (4 * v2)) + v3)) <| some (σ r1 (wI (((16 * v1) + (4 * v2)) + v3)).toNat, σ)
def mX12_copies_B36 (v0 : Nat) (v1 : Int) (v2 : Int) (σ : mSt) : Option (Int × mSt) := mRef (σ v0 30) fun r1 => mRef (σ v0 30) fun r3 => mG (ixOK r3 21 v1) <| mG (ixOK r1 21 v2) <| bnd (upS σ r1 (wI v2).toNat (σ r3 (wI v1).toNat)) fun s7 => mRef (s7 v0 31) fun r9 => mRef (s7 v0 31) fun r11 => mG (ixOK r11 21 v1) <| mG (ixOK r9 21 v2) <| bnd (upS s7 r9 (wI v2).toNat (s7 r11 (wI v1).toNat)) fun s15 => some (0, s15)
def mX12_copies_L2 (v0 : Nat) (v1 : Int) (v2 : Int) (x36 : mSt → Option (Int × mSt)) : Nat → Int → mSt → Option (Int × mSt)
  | 0, _, _ => none
  | n + 1, v3, σ => if 16 ≤ wI v3 then (x36 σ) else mRef (σ v0 29) fun r18 => mRef (σ v0 29) fun r20 => mG (ixOK r20 21 ((16 * v1) + v3)) <| mG (ixOK r18 21 ((16 * v2) + v3)) <| bnd (upS σ r18 (wI ((16 * v2) + v3)).toNat (σ r20 (wI ((16 * v1) + v3)).toNat)) fun s24 => bnd (v3 + 1) fun a26 => mX12_copies_L2 v0 v1 v2 x36 n a26 s24
def mX12_copies (v0 : Nat) (v1 : Int) (v2 : Int) (σ : mSt) : Option (Int × mSt) := mG (isC v0 11) <| mX12_copies_L2 v0 v1 v2 (fun zσ => mX12_copies_B36 v0 v1 v2 zσ) mF 0 σ
def mX12_mod (v0 : Int) (v2 : Int) (σ : mSt) : Option (Int × mSt) := mG (wL v2 ≠ 0) <| bnd ((wL v0).tmod (wL v2)) fun a2 => if 0 ≤ wL a2 then (some (a2, σ)) else some (a2 + v2, σ)
def mX12_mulMod_B64 (v0 : Int) (v2 : Int) (v4 : Int) (v6 : Int) (σ : mSt) : Option (Int × mSt) := some (v6, σ)
def mX12_mulMod_B45 (v0 : Int) (v2 : Int) (v4 : Int) (c19 : Int → Int → Int → mSt → Option (Int × mSt)) (x64 : Int → mSt → Option (Int × mSt)) (v6 : Int) (v8 : Int) (v10 : Int) (σ : mSt) : Option (Int × mSt) := mG (wL v4 ≠ 0) <| bnd ((wL (v8 + v8)).tmod (wL v4)) fun a2 => bnd (oShrL v10 1) fun a4 => c19 v6 a2 a4 σ
def mX12_mulMod_L19 (v0 : Int) (v2 : Int) (v4 : Int) (x64 : Int → mSt → Option (Int × mSt)) : Nat → Int → Int → Int → mSt → Option (Int × mSt)
  | 0, _, _, _, _ => none
  | n + 1, v6, v8, v10, σ => if wL v10 ≤ 0 then (x64 v6 σ) else if wL (oAndL v10 1) = 1 then (mG (wL v4 ≠ 0) <| bnd ((wL (v6 + v8)).tmod (wL v4)) fun a9 => mX12_mulMod_B45 v0 v2 v4 (mX12_mulMod_L19 v0 v2 v4 x64 n) x64 a9 v8 v10 σ) else mX12_mulMod_B45 v0 v2 v4 (mX12_mulMod_L19 v0 v2 v4 x64 n) x64 v6 v8 v10 σ
def mX12_mulMod (v0 : Int) (v2 : Int) (v4 : Int) (σ : mSt) : Option (Int × mSt) := mCall (mX12_mod v2 v4 σ) fun b11 s12 => mCall (mX12_mod v0 v4 s12) fun b14 s15 => mX12_mulMod_L19 v0 v2 v4 (fun z6 zσ => mX12_mulMod_B64 v0 v2 v4 z6 zσ) mF 0 b11 b14 s15
def mX12_scales_B32 (v0 : Nat) (v1 : Int) (v2 : Int) (σ : mSt) : Option (Int × mSt) := mRef (σ v0 30) fun r1 => mG (ixOK r1 21 v1) <| bnd (upS σ r1 (wI v1).toNat ((σ r1 (wI v1).toNat) * v2)) fun s4 => mRef (s4 v0 31) fun r6 => mG (ixOK r6 21 v1) <| bnd (upS s4 r6 (wI v1).toNat ((s4 r6 (wI v1).toNat) * v2)) fun s9 => some (0, s9)
def mX12_scales_L3 (v0 : Nat) (v1 : Int) (v2 : Int) (x32 : mSt → Option (Int × mSt)) : Nat → Int → mSt → Option (Int × mSt)
  | 0, _, _ => none
  | n + 1, v4, σ => if 16 ≤ wI v4 then (x32 σ) else mRef (σ v0 29) fun r12 => mG (ixOK r12 21 ((16 * v1) + v4)) <| bnd (upS σ r12 (wI ((16 * v1) + v4)).toNat ((σ r12 (wI ((16 * v1) + v4)).toNat) * v2)) fun s15 => bnd (v4 + 1) fun a17 => mX12_scales_L3 v0 v1 v2 x32 n a17 s15
def mX12_scales (v0 : Nat) (v1 : Int) (v2 : Int) (σ : mSt) : Option (Int × mSt) := mG (isC v0 11) <| mX12_scales_L3 v0 v1 v2 (fun zσ => mX12_scales_B32 v0 v1 v2 zσ) mF 0 σ
def mX12_meets_B130 (v0 : Nat) (v1 : Int) (v2 : Int) (σ : mSt) : Option (Int × mSt) := some (0, σ)
def mX12_meets_B127 (v0 : Nat) (v1 : Int) (v2 : Int) (c0 : mSt → Option (Int × mSt)) (x130 : mSt → Option (Int × mSt)) (σ : mSt) : Option (Int × mSt) := c0 σ
def mX12_meets_B95 (v0 : Nat) (v1 : Int) (v2 : Int) (v3 : Int) (c29 : Int → mSt → Option (Int × mSt)) (x127 : mSt → Option (Int × mSt)) (v5 : Int) (t0 : Int) (σ : mSt) : Option (Int × mSt) := mRef (σ v0 32) fun r1 => mG (ixOK r1 21 v5) <| mCall (mX12_set v0 v1 v2 v5 (σ r1 (wI v5).toNat) σ) fun b4 s5 => mRef (s5 v0 32) fun r7 => mG (ixOK r7 21 v5) <| bnd (upS s5 r7 (wI v5).toNat t0) fun s10 => bnd (v5 + 1) fun a12 => c29 a12 s10
def mX12_meets_L29 (v0 : Nat) (v1 : Int) (v2 : Int) (v3 : Int) (x127 : mSt → Option (Int × mSt)) : Nat → Int → mSt → Option (Int × mSt)
  | 0, _, _ => none
  | n + 1, v5, σ => if 4 ≤ wI v5 then (x127 σ) else if wI v5 = wI v2 then (mCall (mX12_get v0 v1 v2 v2 σ) fun b34 s35 => mRef (s35 v0 32) fun r37 => mG (ixOK r37 21 v2) <| mX12_meets_B95 v0 v1 v2 v3 (mX12_meets_L29 v0 v1 v2 v3 x127 n) x127 v5 (b34 - (v3 * (s35 r37 (wI v2).toNat))) s35) else mCall (mX12_get v0 v1 v2 v5 σ) fun b16 s17 => mRef (s17 v0 32) fun r19 => mG (ixOK r19 21 v5) <| mRef (s17 v0 31) fun r22 => mG (ixOK r22 21 v1) <| mCall (mX12_mulMod v3 (s17 r19 (wI v5).toNat) (s17 r22 (wI v1).toNat) s17) fun b25 s26 => mRef (s26 v0 31) fun r28 => mG (ixOK r28 21 v1) <| mCall (mX12_mod (b16 - b25) (s26 r28 (wI v1).toNat) s26) fun b31 s32 => mX12_meets_B95 v0 v1 v2 v3 (mX12_meets_L29 v0 v1 v2 v3 x127 n) x127 v5 b31 s32
def mX12_meets_L0 (v0 : Nat) (v1 : Int) (v2 : Int) (x130 : mSt → Option (Int × mSt)) : Nat → mSt → Option (Int × mSt)
  | 0, _ => none
  | n + 1, σ => mRef (σ v0 32) fun r40 => mG (ixOK r40 21 v2) <| if wL (σ r40 (wI v2).toNat) = 0 then (x130 σ) else mCall (mX12_get v0 v1 v2 v2 σ) fun b44 s45 => mRef (s45 v0 32) fun r47 => mG (ixOK r47 21 v2) <| mG (wL (s45 r47 (wI v2).toNat) ≠ 0) <| bnd ((wL b44).tdiv (wL (s45 r47 (wI v2).toNat))) fun a51 => mX12_meets_L29 v0 v1 v2 a51 (fun zσ => mX12_meets_B127 v0 v1 v2 (mX12_meets_L0 v0 v1 v2 x130 n) x130 zσ) mF v2 s45
def mX12_meets (v0 : Nat) (v1 : Int) (v2 : Int) (σ : mSt) : Option (Int × mSt) := mG (isC v0 11) <| mX12_meets_L0 v0 v1 v2 (fun zσ => mX12_meets_B130 v0 v1 v2 zσ) mF σ
def mX12_settles_B132 (v0 : Nat) (v1 : Int) (σ : mSt) : Option (Int × mSt) := some (0, σ)
def mX12_settles_B126 (v0 : Nat) (v1 : Int) (c2 : Int → mSt → Option (Int × mSt)) (x132 : mSt → Option (Int × mSt)) (v2 : Int) (σ : mSt) : Option (Int × mSt) := bnd (v2 + 1) fun a1 => c2 a1 σ
def mX12_settles_B120 (v0 : Nat) (v1 : Int) (v2 : Int) (c9 : Int → mSt → Option (Int × mSt)) (x126 : mSt → Option (Int × mSt)) (v3 : Int) (σ : mSt) : Option (Int × mSt) := bnd (v3 + 1) fun a3 => c9 a3 σ
def mX12_settles_L63 (v0 : Nat) (v1 : Int) (v2 : Int) (v3 : Int) (v4 : Int) (x120 : mSt → Option (Int × mSt)) : Nat → Int → mSt → Option (Int × mSt)
  | 0, _, _ => none
  | n + 1, v6, σ => if 4 ≤ wI v6 then (x120 σ) else mCall (mX12_get v0 v1 v3 v6 σ) fun b6 s7 => mCall (mX12_get v0 v1 v2 v6 s7) fun b9 s10 => mRef (s10 v0 31) fun r12 => mG (ixOK r12 21 v1) <| mCall (mX12_mulMod v4 b9 (s10 r12 (wI v1).toNat) s10) fun b15 s16 => mRef (s16 v0 31) fun r18 => mG (ixOK r18 21 v1) <| mCall (mX12_mod (b6 - b15) (s16 r18 (wI v1).toNat) s16) fun b21 s22 => mCall (mX12_set v0 v1 v3 v6 b21 s22) fun b24 s25 => bnd (v6 + 1) fun a27 => mX12_settles_L63 v0 v1 v2 v3 v4 x120 n a27 s25
def mX12_settles_L9 (v0 : Nat) (v1 : Int) (v2 : Int) (x126 : mSt → Option (Int × mSt)) : Nat → Int → mSt → Option (Int × mSt)
  | 0, _, _ => none
  | n + 1, v3, σ => if wI v2 ≤ wI v3 then (x126 σ) else mCall (mX12_get v0 v1 v3 v2 σ) fun b30 s31 => mCall (mX12_get v0 v1 v2 v2 s31) fun b33 s34 => mCall (mJ9_floorDiv_f86c9 b30 b33 s34) fun b36 s37 => mCall (mX12_get v0 v1 v3 v2 s37) fun b39 s40 => mCall (mX12_get v0 v1 v2 v2 s40) fun b42 s43 => mCall (mX12_set v0 v1 v3 v2 (b39 - (b36 * b42)) s43) fun b45 s46 => bnd (v2 + 1) fun a48 => mX12_settles_L63 v0 v1 v2 v3 b36 (fun zσ => mX12_settles_B120 v0 v1 v2 (mX12_settles_L9 v0 v1 v2 x126 n) x126 v3 zσ) mF a48 s46
def mX12_settles_L2 (v0 : Nat) (v1 : Int) (x132 : mSt → Option (Int × mSt)) : Nat → Int → mSt → Option (Int × mSt)
  | 0, _, _ => none
  | n + 1, v2, σ => if 4 ≤ wI v2 then (x132 σ) else mX12_settles_L9 v0 v1 v2 (fun zσ => mX12_settles_B126 v0 v1 (mX12_settles_L2 v0 v1 x132 n) x132 v2 zσ) mF 0 σ
def mX12_settles (v0 : Nat) (v1 : Int) (σ : mSt) : Option (Int × mSt) := mG (isC v0 11) <| mX12_settles_L2 v0 v1 (fun zσ => mX12_settles_B132 v0 v1 zσ) mF 1 σ
def mX12_puts__B150 (v0 : Nat) (v1 : Int) (v2 : Int) (v6 : Int) (σ : mSt) : Option (Int × mSt) := mCall (mX12_settles v0 v1 σ) fun b1 s2 => mG (v6 = 0 ∨ v6 = 1) <| some (v6, s2)
def mX12_puts__L95 (v0 : Nat) (v1 : Int) (v2 : Int) (x150 : Int → mSt → Option (Int × mSt)) : Nat → Int → Int → mSt → Option (Int × mSt)
  | 0, _, _, _ => none
  | n + 1, v6, v7, σ => if 4 ≤ wI v7 then (x150 v6 σ) else mCall (mX12_get v0 v1 v7 v7 σ) fun b6 s7 => mCall (mX12_meets v0 v1 v7 s7) fun b9 s10 => mCall (mX12_get v0 v1 v7 v7 s10) fun b12 s13 => if wL b12 = wL b6 then (bnd (oOr v6 0) fun a16 => bnd (v7 + 1) fun a18 => mX12_puts__L95 v0 v1 v2 x150 n a16 a18 s13) else bnd (oOr v6 1) fun a20 => bnd (v7 + 1) fun a22 => mX12_puts__L95 v0 v1 v2 x150 n a20 a22 s13
def mX12_puts__B89 (v0 : Nat) (v1 : Int) (v2 : Int) (σ : mSt) : Option (Int × mSt) := mX12_puts__L95 v0 v1 v2 (fun z6 zσ => mX12_puts__B150 v0 v1 v2 z6 zσ) mF 0 0 σ
def mX12_puts__L50 (v0 : Nat) (v1 : Int) (v2 : Int) (v4 : Int) (x89 : mSt → Option (Int × mSt)) : Nat → Int → mSt → Option (Int × mSt)
  | 0, _, _ => none
  | n + 1, v6, σ => if 4 ≤ wI v6 then (x89 σ) else mRef (σ v0 32) fun r25 => mRef (σ v0 32) fun r27 => mG (ixOK r27 21 v6) <| mG (wL v2 ≠ 0) <| mRef (σ v0 31) fun r31 => mG (ixOK r31 21 v1) <| mCall (mX12_mulMod (σ r27 (wI v6).toNat) ((wL v4).tdiv (wL v2)) (σ r31 (wI v1).toNat) σ) fun b34 s35 => mG (ixOK r25 21 v6) <| bnd (upS s35 r25 (wI v6).toNat b34) fun s38 => bnd (v6 + 1) fun a40 => mX12_puts__L50 v0 v1 v2 v4 x89 n a40 s38
def mX12_puts__B47 (v0 : Nat) (v1 : Int) (v2 : Int) (v4 : Int) (σ : mSt) : Option (Int × mSt) := mX12_puts__L50 v0 v1 v2 v4 (fun zσ => mX12_puts__B89 v0 v1 v2 zσ) mF 0 σ
def mX12_puts_ (v0 : Nat) (v1 : Int) (v2 : Int) (σ : mSt) : Option (Int × mSt) := mG (isC v0 11) <| mRef (σ v0 30) fun r42 => mG (ixOK r42 21 v1) <| mRef (σ v0 30) fun r45 => mG (ixOK r45 21 v1) <| mCall (mX12_common (σ r45 (wI v1).toNat) v2 σ) fun b48 s49 => mG (wL b48 ≠ 0) <| bnd (((wL (σ r42 (wI v1).toNat)).tdiv (wL b48)) * v2) fun a52 => mRef (s49 v0 30) fun r54 => mG (ixOK r54 21 v1) <| if wL a52 = wL (s49 r54 (wI v1).toNat) then (mX12_puts__B47 v0 v1 v2 a52 s49) else mRef (s49 v0 30) fun r58 => mG (ixOK r58 21 v1) <| mG (wL (s49 r58 (wI v1).toNat) ≠ 0) <| mCall (mX12_scales v0 v1 ((wL a52).tdiv (wL (s49 r58 (wI v1).toNat))) s49) fun b62 s63 => mX12_puts__B47 v0 v1 v2 a52 s63
def mX12_lessens_B72 (v0 : Nat) (v1 : Int) (v2 : Int) (σ : mSt) : Option (Int × mSt) := mRef (σ v0 30) fun r1 => mG (ixOK r1 21 v1) <| mG (wL v2 ≠ 0) <| bnd (upS σ r1 (wI v1).toNat ((wL (σ r1 (wI v1).toNat)).tdiv (wL v2))) fun s5 => mRef (s5 v0 31) fun r7 => mRef (s5 v0 31) fun r9 => mG (ixOK r9 21 v1) <| mG (ixOK r7 21 v1) <| bnd (upS s5 r7 (wI v1).toNat ((wL (s5 r9 (wI v1).toNat)).tdiv (wL v2))) fun s13 => some (0, s13)
def mX12_lessens_L43 (v0 : Nat) (v1 : Int) (v2 : Int) (x72 : mSt → Option (Int × mSt)) : Nat → Int → mSt → Option (Int × mSt)
  | 0, _, _ => none
  | n + 1, v4, σ => if 16 ≤ wI v4 then (x72 σ) else mRef (σ v0 29) fun r16 => mG (ixOK r16 21 ((16 * v1) + v4)) <| mG (wL v2 ≠ 0) <| bnd (upS σ r16 (wI ((16 * v1) + v4)).toNat ((wL (σ r16 (wI ((16 * v1) + v4)).toNat)).tdiv (wL v2))) fun s20 => bnd (v4 + 1) fun a22 => mX12_lessens_L43 v0 v1 v2 x72 n a22 s20
def mX12_lessens_B40 (v0 : Nat) (v1 : Int) (v2 : Int) (σ : mSt) : Option (Int × mSt) := mX12_lessens_L43 v0 v1 v2 (fun zσ => mX12_lessens_B72 v0 v1 v2 zσ) mF 0 σ
def mX12_lessens_L10 (v0 : Nat) (v1 : Int) (x40 : Int → mSt → Option (Int × mSt)) : Nat → Int → Int → mSt → Option (Int × mSt)
  | 0, _, _, _ => none
  | n + 1, v2, v4, σ => if 16 ≤ wI v4 then (x40 v2 σ) else mRef (σ v0 29) fun r25 => mG (ixOK r25 21 ((16 * v1) + v4)) <| mCall (mX12_common v2 (σ r25 (wI ((16 * v1) + v4)).toNat) σ) fun b28 s29 => bnd (v4 + 1) fun a31 => mX12_lessens_L10 v0 v1 x40 n b28 a31 s29
def mX12_lessens (v0 : Nat) (v1 : Int) (σ : mSt) : Option (Int × mSt) := mG (isC v0 11) <| mRef (σ v0 30) fun r33 => mG (ixOK r33 21 v1) <| bnd (σ r33 (wI v1).toNat) fun a36 => mX12_lessens_L10 v0 v1 (fun z2 zσ => mX12_lessens_B40 v0 v1 z2 zσ) mF a36 0 σ
def mX12_takesRow_B52 (v0 : Nat) (v1 : Int) (v2 : Int) (v3 : Int) (σ : mSt) : Option (Int × mSt) := some (0, σ)
def mX12_takesRow_L3 (v0 : Nat) (v1 : Int) (v2 : Int) (v3 : Int) (x52 : mSt → Option (Int × mSt)) : Nat → Int → mSt → Option (Int × mSt)
  | 0, _, _ => none
  | n + 1, v4, σ => if 4 ≤ wI v4 then (x52 σ) else if wI v3 = 0 then (mRef (σ v0 25) fun r3 => mCall (mX12_get v0 v1 v2 v4 σ) fun b5 s6 => mG (ixOK r3 21 v4) <| bnd (upS s6 r3 (wI v4).toNat b5) fun s9 => bnd (v4 + 1) fun a11 => mX12_takesRow_L3 v0 v1 v2 v3 x52 n a11 s9) else mRef (σ v0 26) fun r13 => mCall (mX12_get v0 v1 v2 v4 σ) fun b15 s16 => mG (ixOK r13 21 v4) <| bnd (upS s16 r13 (wI v4).toNat b15) fun s19 => bnd (v4 + 1) fun a21 => mX12_takesRow_L3 v0 v1 v2 v3 x52 n a21 s19
def mX12_takesRow (v0 : Nat) (v1 : Int) (v2 : Int) (v3 : Int) (σ : mSt) : Option (Int × mSt) := mG (isC v0 11) <| mX12_takesRow_L3 v0 v1 v2 v3 (fun zσ => mX12_takesRow_B52 v0 v1 v2 v3 zσ) mF 0 σ
def mX12_isWhole_B220 (v0 : Nat) (v1 : Int) (v2 : Int) (σ : mSt) : Option (Int × mSt) := some (1, σ)
def mX12_isWhole_B214 (v0 : Nat) (v1 : Int) (v2 : Int) (v3 : Int) (v5 : Int) (v7 : Int) (c28 : Int → mSt → Option (Int × mSt)) (x220 : mSt → Option (Int × mSt)) (v9 : Int) (σ : mSt) : Option (Int × mSt) := bnd (v9 + 1) fun a1 => c28 a1 σ
def mX12_isWhole_L107 (v0 : Nat) (v1 : Int) (v2 : Int) (v3 : Int) (v5 : Int) (v7 : Int) (v9 : Int) (x214 : mSt → Option (Int × mSt)) : Nat → Int → mSt → Option (Int × mSt)
  | 0, _, _ => none
  | n + 1, v10, σ => if wI v9 ≤ wI v10 then (x214 σ) else mCall (mX12_takesRow v0 v1 v10 1 σ) fun b4 s5 => mRef (s5 v0 25) fun r7 => mG (ixOK r7 21 0) <| mRef (s5 v0 26) fun r10 => mG (ixOK r10 21 0) <| mRef (s5 v0 25) fun r13 => mG (ixOK r13 21 1) <| mRef (s5 v0 26) fun r16 => mG (ixOK r16 21 1) <| mRef (s5 v0 25) fun r19 => mG (ixOK r19 21 2) <| mRef (s5 v0 26) fun r22 => mG (ixOK r22 21 2) <| mRef (s5 v0 25) fun r25 => mG (ixOK r25 21 3) <| mRef (s5 v0 26) fun r28 => mG (ixOK r28 21 3) <| bnd (((((s5 r7 0) * (s5 r10 0)) - ((v3 * (s5 r13 1)) * (s5 r16 1))) - ((v5 * (s5 r19 2)) * (s5 r22 2))) + (((v3 * v5) * (s5 r25 3)) * (s5 r28 3))) fun a31 => mG (wL (v7 * v7) ≠ 0) <| if wL ((wL (2 * a31)).tmod (wL (v7 * v7))) = 0 then (bnd (v10 + 1) fun a35 => mX12_isWhole_L107 v0 v1 v2 v3 v5 v7 v9 x214 n a35 s5) else some (0, s5)
def mX12_isWhole_L28 (v0 : Nat) (v1 : Int) (v2 : Int) (v3 : Int) (v5 : Int) (v7 : Int) (x220 : mSt → Option (Int × mSt)) : Nat → Int → mSt → Option (Int × mSt)
  | 0, _, _ => none
  | n + 1, v9, σ => if 4 ≤ wI v9 then (x220 σ) else mCall (mX12_takesRow v0 v1 v9 0 σ) fun b38 s39 => mRef (s39 v0 25) fun r41 => mG (ixOK r41 21 0) <| mG (wL v7 ≠ 0) <| if wL ((wL (2 * (s39 r41 0))).tmod (wL v7)) = 0 then (mRef (s39 v0 25) fun r46 => mG (ixOK r46 21 0) <| mRef (s39 v0 25) fun r49 => mG (ixOK r49 21 1) <| mRef (s39 v0 25) fun r52 => mG (ixOK r52 21 2) <| mRef (s39 v0 25) fun r55 => mG (ixOK r55 21 3) <| mCall (mX12_normOf v0 (s39 r46 0) (s39 r49 1) (s39 r52 2) (s39 r55 3) v3 v5 s39) fun b58 s59 => mG (wL (v7 * v7) ≠ 0) <| if wL ((wL b58).tmod (wL (v7 * v7))) = 0 then (mX12_isWhole_L107 v0 v1 v2 v3 v5 v7 v9 (fun zσ => mX12_isWhole_B214 v0 v1 v2 v3 v5 v7 (mX12_isWhole_L28 v0 v1 v2 v3 v5 v7 x220 n) x220 v9 zσ) mF 0 s59) else some (0, s59)) else some (0, s39)
def mX12_isWhole (v0 : Nat) (v1 : Int) (v2 : Int) (σ : mSt) : Option (Int × mSt) := mG (isC v0 11) <| mRef (σ v0 15) fun r63 => mG (ixOK r63 20 v2) <| bnd (wI (σ r63 (wI v2).toNat)) fun a66 => mRef (σ v0 16) fun r68 => mG (ixOK r68 20 v2) <| bnd (wI (σ r68 (wI v2).toNat)) fun a71 => mRef (σ v0 30) fun r73 => mG (ixOK r73 21 v1) <| bnd (σ r73 (wI v1).toNat) fun a76 => mX12_isWhole_L28 v0 v1 v2 a66 a71 a76 (fun zσ => mX12_isWhole_B220 v0 v1 v2 zσ) mF 0 σ
def mX12_putsLeast_B114 (v0 : Nat) (v1 : Int) (v5 : Int) (σ : mSt) : Option (Int × mSt) := mCall (mX12_puts_ v0 8 v5 σ) fun b1 s2 => mG (b1 = 0 ∨ b1 = 1) <| some (b1, s2)
def mX12_putsLeast_B55 (v0 : Nat) (v1 : Int) (v3 : Int) (σ : mSt) : Option (Int × mSt) := mG (wL v3 ≠ 0) <| bnd ((wL v1).tdiv (wL v3)) fun a6 => mRef (σ v0 30) fun r8 => mG (ixOK r8 21 8) <| mRef (σ v0 30) fun r11 => mG (ixOK r11 21 8) <| mCall (mX12_common (σ r11 8) a6 σ) fun b14 s15 => mG (wL b14 ≠ 0) <| bnd (((wL (σ r8 8)).tdiv (wL b14)) * a6) fun a18 => mRef (s15 v0 30) fun r20 => mG (ixOK r20 21 8) <| if wL a18 = wL (s15 r20 8) then (mX12_putsLeast_B114 v0 v1 a6 s15) else mRef (s15 v0 30) fun r24 => mG (ixOK r24 21 8) <| mG (wL (s15 r24 8) ≠ 0) <| mCall (mX12_scales v0 8 ((wL a18).tdiv (wL (s15 r24 8))) s15) fun b28 s29 => mX12_putsLeast_B114 v0 v1 a6 s29
def mX12_putsLeast_L32 (v0 : Nat) (v1 : Int) (v3 : Int) (x55 : mSt → Option (Int × mSt)) : Nat → Int → mSt → Option (Int × mSt)
  | 0, _, _ => none
  | n + 1, v5, σ => if 4 ≤ wI v5 then (x55 σ) else mRef (σ v0 32) fun r32 => mG (ixOK r32 21 v5) <| mG (wL v3 ≠ 0) <| bnd (upS σ r32 (wI v5).toNat ((wL (σ r32 (wI v5).toNat)).tdiv (wL v3))) fun s36 => bnd (v5 + 1) fun a38 => mX12_putsLeast_L32 v0 v1 v3 x55 n a38 s36
def mX12_putsLeast_B29 (v0 : Nat) (v1 : Int) (v3 : Int) (σ : mSt) : Option (Int × mSt) := mX12_putsLeast_L32 v0 v1 v3 (fun zσ => mX12_putsLeast_B55 v0 v1 v3 zσ) mF 0 σ
def mX12_putsLeast_L5 (v0 : Nat) (v1 : Int) (x29 : Int → mSt → Option (Int × mSt)) : Nat → Int → Int → mSt → Option (Int × mSt)
  | 0, _, _, _ => none
  | n + 1, v3, v5, σ => if 4 ≤ wI v5 then (x29 v3 σ) else mRef (σ v0 32) fun r41 => mG (ixOK r41 21 v5) <| mCall (mX12_common v3 (σ r41 (wI v5).toNat) σ) fun b44 s45 => bnd (v5 + 1) fun a47 => mX12_putsLeast_L5 v0 v1 x29 n b44 a47 s45
def mX12_putsLeast (v0 : Nat) (v1 : Int) (σ : mSt) : Option (Int × mSt) := mG (isC v0 11) <| mX12_putsLeast_L5 v0 v1 (fun z3 zσ => mX12_putsLeast_B29 v0 v1 z3 zσ) mF v1 0 σ
set_option maxRecDepth 100000 in
set_option maxHeartbeats 4000000 in
theorem wX12_entry_B178 (l : Launch) (E : mE) (out : Int × mSt) {p : Program} {e : Env} {s : State} {m : MethodId} {args : Array Value} {below : List Frame} {meth : Method} {c : Code} (G : CallFix p m c cX12_entry 14 s args mTs RX12) (hr : meth.sig.returnType = (some .long)) (hk : meth.locks = false) (v0 : Nat) (v1 : Int) (v2 : Int) (v3 : Int) (g0 : isC v0 11) : ∀ (v4 : Int) (v8 : Int) (v10 : Int) (v12 : Int) (σ : mSt) (H : Heap) (locs : List Loc) (ls : Array Slot), mX12_entry_B178 v0 v1 v2 v3 v4 v8 v10 v12 σ = some out → mM (mA E 276) E 276 σ s H locs → lv_has ls 14 [(0, .ref (eA E v0)), (1, vI v1), (2, vI v2), (3, vI v3), (4, vL v4), (8, vL v8), (10, vL v10), (12, vL v12)] → mGo l p e 1 22 s m args below meth c E (some (vL out.1)) out.2 H locs (F0 m 178 ls []) := by
  intro v4 v8 v10 v12 σ H locs ls hm hM hl
  unfold mX12_entry_B178 at hm
  refine r_iload_n (np := 179) G hl 2 rfl dX12_entry_178 rfl rfl ?_
  refine r_if_ne (np := 182) (tgt := 221) G rfl dX12_entry_179 (by decide) rfl (fun h1 => ?_) (fun h1 => ?_)
  · have hm := b_f h1 hm
    refine r_iload_n (np := 222) G hl 3 rfl dX12_entry_221 rfl rfl ?_
    refine r_if_ne (np := 225) (tgt := 255) G rfl dX12_entry_222 (by decide) rfl (fun h2 => ?_) (fun h2 => ?_)
    · have hm := b_f h2 hm
      refine r_aload_n (np := 256) G hl 0 rfl dX12_entry_255 rfl rfl ?_
      refine r_iload_n (np := 257) G hl 1 rfl dX12_entry_256 rfl rfl ?_
      refine r_iconst (np := 258) G 0 dX12_entry_257 rfl ?_
      obtain ⟨b3, s4, e5, hm⟩ := call_t hm
      refine m_callVL (np := 261) G hM hl.1 [vI v1, vI 0] (qX12_part l E σ v0 v1 0 _ e5) myX12_part (shp_lt (gX12_part e5) (by decide)) (gX12_part e5) rfl (by decide) lkX12_294 ⟨Nat.le_of_ble_eq_true rfl, Nat.le_of_ble_eq_true rfl⟩ ⟨Nat.le_of_ble_eq_true rfl, Nat.le_of_ble_eq_true rfl⟩ [] rfl (Nat.le_of_ble_eq_true rfl) dX12_entry_258 rfl (fun H locs hM => ?_)
      refine r_lload (np := 263) G hl 7 rfl dX12_entry_261 rfl ?_
      refine r_lmul (np := 264) G dX12_entry_263 rfl ?_
      refine r_aload_n (np := 265) G hl 0 rfl dX12_entry_264 rfl rfl ?_
      refine r_iload_n (np := 266) G hl 1 rfl dX12_entry_265 rfl rfl ?_
      refine r_iconst (np := 267) G 2 dX12_entry_266 rfl ?_
      obtain ⟨b6, s7, e8, hm⟩ := call_t hm
      refine m_callVL (np := 270) G hM hl.1 [vI v1, vI 2] (qX12_part l E s4 v0 v1 2 _ e8) myX12_part (shp_lt (gX12_part e8) (by decide)) (gX12_part e8) rfl (by decide) lkX12_294 ⟨Nat.le_of_ble_eq_true rfl, Nat.le_of_ble_eq_true rfl⟩ ⟨Nat.le_of_ble_eq_true rfl, Nat.le_of_ble_eq_true rfl⟩ [vL (b3 * v12)] rfl (Nat.le_of_ble_eq_true rfl) dX12_entry_267 rfl (fun H locs hM => ?_)
      refine r_lload (np := 272) G hl 5 rfl dX12_entry_270 rfl ?_
      refine r_lmul (np := 273) G dX12_entry_272 rfl ?_
      refine r_lsub (np := 274) G dX12_entry_273 rfl ?_
      refine r_aload_n (np := 275) G hl 0 rfl dX12_entry_274 rfl rfl ?_
      refine r_iload_n (np := 276) G hl 1 rfl dX12_entry_275 rfl rfl ?_
      refine r_iconst (np := 277) G 3 dX12_entry_276 rfl ?_
      obtain ⟨b9, s10, e11, hm⟩ := call_t hm
      refine m_callVL (np := 280) G hM hl.1 [vI v1, vI 3] (qX12_part l E s7 v0 v1 3 _ e11) myX12_part (shp_lt (gX12_part e11) (by decide)) (gX12_part e11) rfl (by decide) lkX12_294 ⟨Nat.le_of_ble_eq_true rfl, Nat.le_of_ble_eq_true rfl⟩ ⟨Nat.le_of_ble_eq_true rfl, Nat.le_of_ble_eq_true rfl⟩ [vL ((b3 * v12) - (b6 * v8))] rfl (Nat.le_of_ble_eq_true rfl) dX12_entry_277 rfl (fun H locs hM => ?_)
      refine r_lload (np := 282) G hl 4 rfl dX12_entry_280 rfl ?_
      refine r_lmul (np := 283) G dX12_entry_282 rfl ?_
      refine r_lload (np := 285) G hl 6 rfl dX12_entry_283 rfl ?_
      refine r_lmul (np := 286) G dX12_entry_285 rfl ?_
      refine r_lsub (np := 287) G dX12_entry_286 rfl ?_
      exact r_lret G hr hk hM hm dX12_entry_287
    · have hm := b_t h2 hm
      refine r_aload_n (np := 226) G hl 0 rfl dX12_entry_225 rfl rfl ?_
      refine r_iload_n (np := 227) G hl 1 rfl dX12_entry_226 rfl rfl ?_
      refine r_iconst (np := 228) G 1 dX12_entry_227 rfl ?_
      obtain ⟨b12, s13, e14, hm⟩ := call_t hm
      refine m_callVL (np := 231) G hM hl.1 [vI v1, vI 1] (qX12_part l E σ v0 v1 1 _ e14) myX12_part (shp_lt (gX12_part e14) (by decide)) (gX12_part e14) rfl (by decide) lkX12_294 ⟨Nat.le_of_ble_eq_true rfl, Nat.le_of_ble_eq_true rfl⟩ ⟨Nat.le_of_ble_eq_true rfl, Nat.le_of_ble_eq_true rfl⟩ [] rfl (Nat.le_of_ble_eq_true rfl) dX12_entry_228 rfl (fun H locs hM => ?_)
      refine r_lload (np := 233) G hl 7 rfl dX12_entry_231 rfl ?_
      refine r_lmul (np := 234) G dX12_entry_233 rfl ?_
      refine r_aload_n (np := 235) G hl 0 rfl dX12_entry_234 rfl rfl ?_
      refine r_iload_n (np := 236) G hl 1 rfl dX12_entry_235 rfl rfl ?_
      refine r_iconst (np := 237) G 2 dX12_entry_236 rfl ?_
      obtain ⟨b15, s16, e17, hm⟩ := call_t hm
      refine m_callVL (np := 240) G hM hl.1 [vI v1, vI 2] (qX12_part l E s13 v0 v1 2 _ e17) myX12_part (shp_lt (gX12_part e17) (by decide)) (gX12_part e17) rfl (by decide) lkX12_294 ⟨Nat.le_of_ble_eq_true rfl, Nat.le_of_ble_eq_true rfl⟩ ⟨Nat.le_of_ble_eq_true rfl, Nat.le_of_ble_eq_true rfl⟩ [vL (b12 * v12)] rfl (Nat.le_of_ble_eq_true rfl) dX12_entry_237 rfl (fun H locs hM => ?_)
      refine r_lload (np := 242) G hl 6 rfl dX12_entry_240 rfl ?_
      refine r_lmul (np := 243) G dX12_entry_242 rfl ?_
      refine r_ladd (np := 244) G dX12_entry_243 rfl ?_
      refine r_aload_n (np := 245) G hl 0 rfl dX12_entry_244 rfl rfl ?_
      refine r_iload_n (np := 246) G hl 1 rfl dX12_entry_245 rfl rfl ?_
      refine r_iconst (np := 247) G 3 dX12_entry_246 rfl ?_
      obtain ⟨b18, s19, e20, hm⟩ := call_t hm
      refine m_callVL (np := 250) G hM hl.1 [vI v1, vI 3] (qX12_part l E s16 v0 v1 3 _ e20) myX12_part (shp_lt (gX12_part e20) (by decide)) (gX12_part e20) rfl (by decide) lkX12_294 ⟨Nat.le_of_ble_eq_true rfl, Nat.le_of_ble_eq_true rfl⟩ ⟨Nat.le_of_ble_eq_true rfl, Nat.le_of_ble_eq_true rfl⟩ [vL ((b12 * v12) + (b15 * v10))] rfl (Nat.le_of_ble_eq_true rfl) dX12_entry_247 rfl (fun H locs hM => ?_)
      refine r_lload (np := 252) G hl 5 rfl dX12_entry_250 rfl ?_
      refine r_lmul (np := 253) G dX12_entry_252 rfl ?_
      refine r_ladd (np := 254) G dX12_entry_253 rfl ?_
      exact r_lret G hr hk hM hm dX12_entry_254
  · have hm := b_t h1 hm
    refine r_aload_n (np := 183) G hl 0 rfl dX12_entry_182 rfl rfl ?_
    refine r_iload_n (np := 184) G hl 1 rfl dX12_entry_183 rfl rfl ?_
    refine r_iconst (np := 185) G 1 dX12_entry_184 rfl ?_
    obtain ⟨b21, s22, e23, hm⟩ := call_t hm
    refine m_callVL (np := 188) G hM hl.1 [vI v1, vI 1] (qX12_part l E σ v0 v1 1 _ e23) myX12_part (shp_lt (gX12_part e23) (by decide)) (gX12_part e23) rfl (by decide) lkX12_294 ⟨Nat.le_of_ble_eq_true rfl, Nat.le_of_ble_eq_true rfl⟩ ⟨Nat.le_of_ble_eq_true rfl, Nat.le_of_ble_eq_true rfl⟩ [] rfl (Nat.le_of_ble_eq_true rfl) dX12_entry_185 rfl (fun H locs hM => ?_)
    refine r_lload (np := 190) G hl 4 rfl dX12_entry_188 rfl ?_
    refine r_lmul (np := 191) G dX12_entry_190 rfl ?_
    refine r_lload (np := 193) G hl 7 rfl dX12_entry_191 rfl ?_
    refine r_lmul (np := 194) G dX12_entry_193 rfl ?_
    refine r_aload_n (np := 195) G hl 0 rfl dX12_entry_194 rfl rfl ?_
    refine r_iload_n (np := 196) G hl 1 rfl dX12_entry_195 rfl rfl ?_
    refine r_iconst (np := 197) G 2 dX12_entry_196 rfl ?_
    obtain ⟨b24, s25, e26, hm⟩ := call_t hm
    refine m_callVL (np := 200) G hM hl.1 [vI v1, vI 2] (qX12_part l E s22 v0 v1 2 _ e26) myX12_part (shp_lt (gX12_part e26) (by decide)) (gX12_part e26) rfl (by decide) lkX12_294 ⟨Nat.le_of_ble_eq_true rfl, Nat.le_of_ble_eq_true rfl⟩ ⟨Nat.le_of_ble_eq_true rfl, Nat.le_of_ble_eq_true rfl⟩ [vL ((b21 * v4) * v12)] rfl (Nat.le_of_ble_eq_true rfl) dX12_entry_197 rfl (fun H locs hM => ?_)
    refine r_lload (np := 202) G hl 4 rfl dX12_entry_200 rfl ?_
    refine r_lmul (np := 203) G dX12_entry_202 rfl ?_
    refine r_lload (np := 205) G hl 6 rfl dX12_entry_203 rfl ?_
    refine r_lmul (np := 206) G dX12_entry_205 rfl ?_
    refine r_lsub (np := 207) G dX12_entry_206 rfl ?_
    refine r_aload_n (np := 208) G hl 0 rfl dX12_entry_207 rfl rfl ?_
    refine r_iload_n (np := 209) G hl 1 rfl dX12_entry_208 rfl rfl ?_
    refine r_iconst (np := 210) G 3 dX12_entry_209 rfl ?_
    obtain ⟨b27, s28, e29, hm⟩ := call_t hm
    refine m_callVL (np := 213) G hM hl.1 [vI v1, vI 3] (qX12_part l E s25 v0 v1 3 _ e29) myX12_part (shp_lt (gX12_part e29) (by decide)) (gX12_part e29) rfl (by decide) lkX12_294 ⟨Nat.le_of_ble_eq_true rfl, Nat.le_of_ble_eq_true rfl⟩ ⟨Nat.le_of_ble_eq_true rfl, Nat.le_of_ble_eq_true rfl⟩ [vL (((b21 * v4) * v12) - ((b24 * v4) * v10))] rfl (Nat.le_of_ble_eq_true rfl) dX12_entry_210 rfl (fun H locs hM => ?_)
    refine r_lload (np := 215) G hl 4 rfl dX12_entry_213 rfl ?_
    refine r_lmul (np := 216) G dX12_entry_215 rfl ?_
    refine r_lload (np := 218) G hl 5 rfl dX12_entry_216 rfl ?_
    refine r_lmul (np := 219) G dX12_entry_218 rfl ?_
    refine r_lsub (np := 220) G dX12_entry_219 rfl ?_
    exact r_lret G hr hk hM hm dX12_entry_220
set_option maxRecDepth 100000 in
set_option maxHeartbeats 4000000 in
theorem qX12_entry (l : Launch) (E : mE) (σ : mSt) (v0 : Nat) (v1 : Int) (v2 : Int) (v3 : Int) (out : Int × mSt) (hm : mX12_entry v0 v1 v2 v3 σ = some out) : mMet l yX12_entry cX12_entry 14 (some .long) 1 22 E 276 [.ref (eA E v0), vI v1, vI v2, vI v3] σ (some (vL out.1)) out.2 := by
  unfold mX12_entry at hm
  obtain ⟨g0, hm⟩ := g_t hm
  refine m_entry (by decide +kernel) (Nat.le_of_ble_eq_true rfl) (fun p e s m args below meth c G hr hk hM ls hl => ?_)
  have G : CallFix p m c cX12_entry 14 s args mTs RX12 := G
  have hl : lv_has ls 14 [(0, .ref (eA E v0)), (1, vI v1), (2, vI v2), (3, vI v3)] := hl
  refine r_aload_n (np := 1) G hl 0 rfl dX12_entry_0 rfl rfl ?_
  obtain ⟨r30, e31, hm⟩ := ref_t hm
  refine r_getR (np := 4) G hM (shp_lt g0 (by decide)) g0 e31 fdX12_15 lkX12_24 dX12_entry_1 rfl ?_
  refine r_aload_n (np := 5) G hl 0 rfl dX12_entry_4 rfl rfl ?_
  obtain ⟨r32, e33, hm⟩ := ref_t hm
  refine r_getR (np := 8) G hM (shp_lt g0 (by decide)) g0 e33 fdX12_22 lkX12_36 dX12_entry_5 rfl ?_
  refine r_iload_n (np := 9) G hl 1 rfl dX12_entry_8 rfl rfl ?_
  obtain ⟨g34, hm⟩ := g_t hm
  refine r_iaload (np := 10) G hM g34 rfl dX12_entry_9 rfl ?_
  obtain ⟨g35, hm⟩ := g_t hm
  refine r_iaload (np := 11) G hM g35 rfl dX12_entry_10 rfl ?_
  refine r_i2l (np := 12) G rfl dX12_entry_11 rfl ?_
  obtain ⟨a36, e37, hm⟩ := bnd_t hm
  refine r_lstore (np := 14) G hl e37 [(4, vL a36), (0, .ref (eA E v0)), (1, vI v1), (2, vI v2), (3, vI v3)] dX12_entry_12 rfl (by decide) rfl (fun ls hl => ?_)
  refine r_aload_n (np := 15) G hl 1 rfl dX12_entry_14 rfl rfl ?_
  obtain ⟨r38, e39, hm⟩ := ref_t hm
  refine r_getR (np := 18) G hM (shp_lt g0 (by decide)) g0 e39 fdX12_16 lkX12_27 dX12_entry_15 rfl ?_
  refine r_aload_n (np := 19) G hl 1 rfl dX12_entry_18 rfl rfl ?_
  obtain ⟨r40, e41, hm⟩ := ref_t hm
  refine r_getR (np := 22) G hM (shp_lt g0 (by decide)) g0 e41 fdX12_22 lkX12_36 dX12_entry_19 rfl ?_
  refine r_iload_n (np := 23) G hl 2 rfl dX12_entry_22 rfl rfl ?_
  obtain ⟨g42, hm⟩ := g_t hm
  refine r_iaload (np := 24) G hM g42 rfl dX12_entry_23 rfl ?_
  obtain ⟨g43, hm⟩ := g_t hm
  refine r_iaload (np := 25) G hM g43 rfl dX12_entry_24 rfl ?_
  refine r_i2l (np := 26) G rfl dX12_entry_25 rfl ?_
  obtain ⟨a44, e45, hm⟩ := bnd_t hm
  refine r_lstore (np := 28) G hl e45 [(6, vL a44), (4, vL a36), (0, .ref (eA E v0)), (1, vI v1), (2, vI v2), (3, vI v3)] dX12_entry_26 rfl (by decide) rfl (fun ls hl => ?_)
  refine r_aload_n (np := 29) G hl 2 rfl dX12_entry_28 rfl rfl ?_
  obtain ⟨r46, e47, hm⟩ := ref_t hm
  refine r_getR (np := 32) G hM (shp_lt g0 (by decide)) g0 e47 fdX12_28 lkX12_54 dX12_entry_29 rfl ?_
  refine r_iconst (np := 33) G 0 dX12_entry_32 rfl ?_
  obtain ⟨g48, hm⟩ := g_t hm
  refine r_iaload (np := 34) G hM g48 rfl dX12_entry_33 rfl ?_
  refine r_i2l (np := 35) G rfl dX12_entry_34 rfl ?_
  obtain ⟨a49, e50, hm⟩ := bnd_t hm
  refine r_lstore (np := 37) G hl e50 [(8, vL a49), (6, vL a44), (4, vL a36), (0, .ref (eA E v0)), (1, vI v1), (2, vI v2), (3, vI v3)] dX12_entry_35 rfl (by decide) rfl (fun ls hl => ?_)
  refine r_aload_n (np := 38) G hl 3 rfl dX12_entry_37 rfl rfl ?_
  obtain ⟨r51, e52, hm⟩ := ref_t hm
  refine r_getR (np := 41) G hM (shp_lt g0 (by decide)) g0 e52 fdX12_28 lkX12_54 dX12_entry_38 rfl ?_
  refine r_iconst (np := 42) G 1 dX12_entry_41 rfl ?_
  obtain ⟨g53, hm⟩ := g_t hm
  refine r_iaload (np := 43) G hM g53 rfl dX12_entry_42 rfl ?_
  refine r_i2l (np := 44) G rfl dX12_entry_43 rfl ?_
  obtain ⟨a54, e55, hm⟩ := bnd_t hm
  refine r_lstore (np := 46) G hl e55 [(10, vL a54), (8, vL a49), (6, vL a44), (4, vL a36), (0, .ref (eA E v0)), (1, vI v1), (2, vI v2), (3, vI v3)] dX12_entry_44 rfl (by decide) rfl (fun ls hl => ?_)
  refine r_aload_n (np := 47) G hl 4 rfl dX12_entry_46 rfl rfl ?_
  obtain ⟨r56, e57, hm⟩ := ref_t hm
  refine r_getR (np := 50) G hM (shp_lt g0 (by decide)) g0 e57 fdX12_28 lkX12_54 dX12_entry_47 rfl ?_
  refine r_iconst (np := 51) G 2 dX12_entry_50 rfl ?_
  obtain ⟨g58, hm⟩ := g_t hm
  refine r_iaload (np := 52) G hM g58 rfl dX12_entry_51 rfl ?_
  refine r_i2l (np := 53) G rfl dX12_entry_52 rfl ?_
  obtain ⟨a59, e60, hm⟩ := bnd_t hm
  refine r_lstore (np := 55) G hl e60 [(12, vL a59), (10, vL a54), (8, vL a49), (6, vL a44), (4, vL a36), (0, .ref (eA E v0)), (1, vI v1), (2, vI v2), (3, vI v3)] dX12_entry_53 rfl (by decide) rfl (fun ls hl => ?_)
  refine r_lload (np := 57) G hl 0 rfl dX12_entry_55 rfl ?_
  refine r_lconst (np := 58) G 0 dX12_entry_57 rfl rfl ?_
  refine r_lcmp_ne (np := 62) (tgt := 137) G rfl (wLk 0 rfl) dX12_entry_58 dX12_entry_59 (by decide) rfl (fun h61 => ?_) (fun h61 => ?_)
  · have hm := b_f h61 hm
    refine r_iload_n (np := 138) G hl 7 rfl dX12_entry_137 rfl rfl ?_
    refine r_if_ne (np := 141) (tgt := 178) G rfl dX12_entry_138 (by decide) rfl (fun h62 => ?_) (fun h62 => ?_)
    · have hm := b_f h62 hm
      exact wX12_entry_B178 l E out G hr hk v0 v1 v2 v3 g0 a36 a49 a54 a59 _ _ _ _ hm hM (lv_sub hl [5, 6, 7, 8, 4, 2, 1, 0] rfl)
    · have hm := b_t h62 hm
      refine r_iload_n (np := 142) G hl 8 rfl dX12_entry_141 rfl rfl ?_
      refine r_if_ne (np := 145) (tgt := 178) G rfl dX12_entry_142 (by decide) rfl (fun h63 => ?_) (fun h63 => ?_)
      · have hm := b_f h63 hm
        exact wX12_entry_B178 l E out G hr hk v0 v1 v2 v3 g0 a36 a49 a54 a59 _ _ _ _ hm hM (lv_sub hl [5, 6, 7, 8, 4, 2, 1, 0] rfl)
      · have hm := b_t h63 hm
        refine r_aload_n (np := 146) G hl 5 rfl dX12_entry_145 rfl rfl ?_
        refine r_iload_n (np := 147) G hl 6 rfl dX12_entry_146 rfl rfl ?_
        refine r_iconst (np := 148) G 0 dX12_entry_147 rfl ?_
        obtain ⟨b64, s65, e66, hm⟩ := call_t hm
        refine m_callVL (np := 151) G hM hl.1 [vI v1, vI 0] (qX12_part l E σ v0 v1 0 _ e66) myX12_part (shp_lt (gX12_part e66) (by decide)) (gX12_part e66) rfl (by decide) lkX12_294 ⟨Nat.le_of_ble_eq_true rfl, Nat.le_of_ble_eq_true rfl⟩ ⟨Nat.le_of_ble_eq_true rfl, Nat.le_of_ble_eq_true rfl⟩ [] rfl (Nat.le_of_ble_eq_true rfl) dX12_entry_148 rfl (fun H locs hM => ?_)
        refine r_lload (np := 153) G hl 0 rfl dX12_entry_151 rfl ?_
        refine r_lmul (np := 154) G dX12_entry_153 rfl ?_
        refine r_aload_n (np := 155) G hl 5 rfl dX12_entry_154 rfl rfl ?_
        refine r_iload_n (np := 156) G hl 6 rfl dX12_entry_155 rfl rfl ?_
        refine r_iconst (np := 157) G 2 dX12_entry_156 rfl ?_
        obtain ⟨b67, s68, e69, hm⟩ := call_t hm
        refine m_callVL (np := 160) G hM hl.1 [vI v1, vI 2] (qX12_part l E s65 v0 v1 2 _ e69) myX12_part (shp_lt (gX12_part e69) (by decide)) (gX12_part e69) rfl (by decide) lkX12_294 ⟨Nat.le_of_ble_eq_true rfl, Nat.le_of_ble_eq_true rfl⟩ ⟨Nat.le_of_ble_eq_true rfl, Nat.le_of_ble_eq_true rfl⟩ [vL (b64 * a59)] rfl (Nat.le_of_ble_eq_true rfl) dX12_entry_157 rfl (fun H locs hM => ?_)
        refine r_lload (np := 162) G hl 2 rfl dX12_entry_160 rfl ?_
        refine r_lmul (np := 163) G dX12_entry_162 rfl ?_
        refine r_ladd (np := 164) G dX12_entry_163 rfl ?_
        refine r_aload_n (np := 165) G hl 5 rfl dX12_entry_164 rfl rfl ?_
        refine r_iload_n (np := 166) G hl 6 rfl dX12_entry_165 rfl rfl ?_
        refine r_iconst (np := 167) G 3 dX12_entry_166 rfl ?_
        obtain ⟨b70, s71, e72, hm⟩ := call_t hm
        refine m_callVL (np := 170) G hM hl.1 [vI v1, vI 3] (qX12_part l E s68 v0 v1 3 _ e72) myX12_part (shp_lt (gX12_part e72) (by decide)) (gX12_part e72) rfl (by decide) lkX12_294 ⟨Nat.le_of_ble_eq_true rfl, Nat.le_of_ble_eq_true rfl⟩ ⟨Nat.le_of_ble_eq_true rfl, Nat.le_of_ble_eq_true rfl⟩ [vL ((b64 * a59) + (b67 * a49))] rfl (Nat.le_of_ble_eq_true rfl) dX12_entry_167 rfl (fun H locs hM => ?_)
        refine r_lload (np := 172) G hl 4 rfl dX12_entry_170 rfl ?_
        refine r_lmul (np := 173) G dX12_entry_172 rfl ?_
        refine r_lload (np := 175) G hl 1 rfl dX12_entry_173 rfl ?_
        refine r_lmul (np := 176) G dX12_entry_175 rfl ?_
        refine r_ladd (np := 177) G dX12_entry_176 rfl ?_
        exact r_lret G hr hk hM hm dX12_entry_177
  · have hm := b_t h61 hm
    refine r_iload_n (np := 63) G hl 7 rfl dX12_entry_62 rfl rfl ?_
    refine r_if_ne (np := 66) (tgt := 103) G rfl dX12_entry_63 (by decide) rfl (fun h73 => ?_) (fun h73 => ?_)
    · have hm := b_f h73 hm
      refine r_iload_n (np := 104) G hl 8 rfl dX12_entry_103 rfl rfl ?_
      refine r_if_ne (np := 107) (tgt := 123) G rfl dX12_entry_104 (by decide) rfl (fun h74 => ?_) (fun h74 => ?_)
      · have hm := b_f h74 hm
        refine r_aload_n (np := 124) G hl 5 rfl dX12_entry_123 rfl rfl ?_
        refine r_iload_n (np := 125) G hl 6 rfl dX12_entry_124 rfl rfl ?_
        refine r_iconst (np := 126) G 0 dX12_entry_125 rfl ?_
        obtain ⟨b75, s76, e77, hm⟩ := call_t hm
        refine m_callVL (np := 129) G hM hl.1 [vI v1, vI 0] (qX12_part l E σ v0 v1 0 _ e77) myX12_part (shp_lt (gX12_part e77) (by decide)) (gX12_part e77) rfl (by decide) lkX12_294 ⟨Nat.le_of_ble_eq_true rfl, Nat.le_of_ble_eq_true rfl⟩ ⟨Nat.le_of_ble_eq_true rfl, Nat.le_of_ble_eq_true rfl⟩ [] rfl (Nat.le_of_ble_eq_true rfl) dX12_entry_126 rfl (fun H locs hM => ?_)
        refine r_aload_n (np := 130) G hl 5 rfl dX12_entry_129 rfl rfl ?_
        refine r_iload_n (np := 131) G hl 6 rfl dX12_entry_130 rfl rfl ?_
        refine r_iconst (np := 132) G 1 dX12_entry_131 rfl ?_
        obtain ⟨b78, s79, e80, hm⟩ := call_t hm
        refine m_callVL (np := 135) G hM hl.1 [vI v1, vI 1] (qX12_part l E s76 v0 v1 1 _ e80) myX12_part (shp_lt (gX12_part e80) (by decide)) (gX12_part e80) rfl (by decide) lkX12_294 ⟨Nat.le_of_ble_eq_true rfl, Nat.le_of_ble_eq_true rfl⟩ ⟨Nat.le_of_ble_eq_true rfl, Nat.le_of_ble_eq_true rfl⟩ [vL b75] rfl (Nat.le_of_ble_eq_true rfl) dX12_entry_132 rfl (fun H locs hM => ?_)
        refine r_lsub (np := 136) G dX12_entry_135 rfl ?_
        exact r_lret G hr hk hM hm dX12_entry_136
      · have hm := b_t h74 hm
        refine r_aload_n (np := 108) G hl 5 rfl dX12_entry_107 rfl rfl ?_
        refine r_iload_n (np := 109) G hl 6 rfl dX12_entry_108 rfl rfl ?_
        refine r_iconst (np := 110) G 2 dX12_entry_109 rfl ?_
        obtain ⟨b81, s82, e83, hm⟩ := call_t hm
        refine m_callVL (np := 113) G hM hl.1 [vI v1, vI 2] (qX12_part l E σ v0 v1 2 _ e83) myX12_part (shp_lt (gX12_part e83) (by decide)) (gX12_part e83) rfl (by decide) lkX12_294 ⟨Nat.le_of_ble_eq_true rfl, Nat.le_of_ble_eq_true rfl⟩ ⟨Nat.le_of_ble_eq_true rfl, Nat.le_of_ble_eq_true rfl⟩ [] rfl (Nat.le_of_ble_eq_true rfl) dX12_entry_110 rfl (fun H locs hM => ?_)
        refine r_aload_n (np := 114) G hl 5 rfl dX12_entry_113 rfl rfl ?_
        refine r_iload_n (np := 115) G hl 6 rfl dX12_entry_114 rfl rfl ?_
        refine r_iconst (np := 116) G 3 dX12_entry_115 rfl ?_
        obtain ⟨b84, s85, e86, hm⟩ := call_t hm
        refine m_callVL (np := 119) G hM hl.1 [vI v1, vI 3] (qX12_part l E s82 v0 v1 3 _ e86) myX12_part (shp_lt (gX12_part e86) (by decide)) (gX12_part e86) rfl (by decide) lkX12_294 ⟨Nat.le_of_ble_eq_true rfl, Nat.le_of_ble_eq_true rfl⟩ ⟨Nat.le_of_ble_eq_true rfl, Nat.le_of_ble_eq_true rfl⟩ [vL b81] rfl (Nat.le_of_ble_eq_true rfl) dX12_entry_116 rfl (fun H locs hM => ?_)
        refine r_lsub (np := 120) G dX12_entry_119 rfl ?_
        refine r_goto (np := 136) G dX12_entry_120 (by decide) ?_
        exact r_lret G hr hk hM hm dX12_entry_136
    · have hm := b_t h73 hm
      refine r_iload_n (np := 67) G hl 8 rfl dX12_entry_66 rfl rfl ?_
      refine r_if_ne (np := 70) (tgt := 86) G rfl dX12_entry_67 (by decide) rfl (fun h87 => ?_) (fun h87 => ?_)
      · have hm := b_f h87 hm
        refine r_lload (np := 88) G hl 3 rfl dX12_entry_86 rfl ?_
        refine r_aload_n (np := 89) G hl 5 rfl dX12_entry_88 rfl rfl ?_
        refine r_iload_n (np := 90) G hl 6 rfl dX12_entry_89 rfl rfl ?_
        refine r_iconst (np := 91) G 2 dX12_entry_90 rfl ?_
        obtain ⟨b88, s89, e90, hm⟩ := call_t hm
        refine m_callVL (np := 94) G hM hl.1 [vI v1, vI 2] (qX12_part l E σ v0 v1 2 _ e90) myX12_part (shp_lt (gX12_part e90) (by decide)) (gX12_part e90) rfl (by decide) lkX12_294 ⟨Nat.le_of_ble_eq_true rfl, Nat.le_of_ble_eq_true rfl⟩ ⟨Nat.le_of_ble_eq_true rfl, Nat.le_of_ble_eq_true rfl⟩ [vL a44] rfl (Nat.le_of_ble_eq_true rfl) dX12_entry_91 rfl (fun H locs hM => ?_)
        refine r_aload_n (np := 95) G hl 5 rfl dX12_entry_94 rfl rfl ?_
        refine r_iload_n (np := 96) G hl 6 rfl dX12_entry_95 rfl rfl ?_
        refine r_iconst (np := 97) G 3 dX12_entry_96 rfl ?_
        obtain ⟨b91, s92, e93, hm⟩ := call_t hm
        refine m_callVL (np := 100) G hM hl.1 [vI v1, vI 3] (qX12_part l E s89 v0 v1 3 _ e93) myX12_part (shp_lt (gX12_part e93) (by decide)) (gX12_part e93) rfl (by decide) lkX12_294 ⟨Nat.le_of_ble_eq_true rfl, Nat.le_of_ble_eq_true rfl⟩ ⟨Nat.le_of_ble_eq_true rfl, Nat.le_of_ble_eq_true rfl⟩ [vL b88, vL a44] rfl (Nat.le_of_ble_eq_true rfl) dX12_entry_97 rfl (fun H locs hM => ?_)
        refine r_ladd (np := 101) G dX12_entry_100 rfl ?_
        refine r_lmul (np := 102) G dX12_entry_101 rfl ?_
        exact r_lret G hr hk hM hm dX12_entry_102
      · have hm := b_t h87 hm
        refine r_aload_n (np := 71) G hl 5 rfl dX12_entry_70 rfl rfl ?_
        refine r_iload_n (np := 72) G hl 6 rfl dX12_entry_71 rfl rfl ?_
        refine r_iconst (np := 73) G 0 dX12_entry_72 rfl ?_
        obtain ⟨b94, s95, e96, hm⟩ := call_t hm
        refine m_callVL (np := 76) G hM hl.1 [vI v1, vI 0] (qX12_part l E σ v0 v1 0 _ e96) myX12_part (shp_lt (gX12_part e96) (by decide)) (gX12_part e96) rfl (by decide) lkX12_294 ⟨Nat.le_of_ble_eq_true rfl, Nat.le_of_ble_eq_true rfl⟩ ⟨Nat.le_of_ble_eq_true rfl, Nat.le_of_ble_eq_true rfl⟩ [] rfl (Nat.le_of_ble_eq_true rfl) dX12_entry_73 rfl (fun H locs hM => ?_)
        refine r_aload_n (np := 77) G hl 5 rfl dX12_entry_76 rfl rfl ?_
        refine r_iload_n (np := 78) G hl 6 rfl dX12_entry_77 rfl rfl ?_
        refine r_iconst (np := 79) G 1 dX12_entry_78 rfl ?_
        obtain ⟨b97, s98, e99, hm⟩ := call_t hm
        refine m_callVL (np := 82) G hM hl.1 [vI v1, vI 1] (qX12_part l E s95 v0 v1 1 _ e99) myX12_part (shp_lt (gX12_part e99) (by decide)) (gX12_part e99) rfl (by decide) lkX12_294 ⟨Nat.le_of_ble_eq_true rfl, Nat.le_of_ble_eq_true rfl⟩ ⟨Nat.le_of_ble_eq_true rfl, Nat.le_of_ble_eq_true rfl⟩ [vL b94] rfl (Nat.le_of_ble_eq_true rfl) dX12_entry_79 rfl (fun H locs hM => ?_)
        refine r_ladd (np := 83) G dX12_entry_82 rfl ?_
        refine r_goto (np := 102) G dX12_entry_83 (by decide) ?_
        exact r_lret G hr hk hM hm dX12_entry_102
theorem gX12_entry {v0 : Nat} {v1 : Int} {v2 : Int} {v3 : Int} {σ : mSt} {out : Int × mSt} (hm : mX12_entry v0 v1 v2 v3 σ = some out) : isC v0 11 := (g_t hm).1
set_option maxRecDepth 100000 in
set_option maxHeartbeats 4000000 in
theorem wX12_matrix_B129 (l : Launch) (E : mE) (out : Int × mSt) {p : Program} {e : Env} {s : State} {m : MethodId} {args : Array Value} {below : List Frame} {meth : Method} {c : Code} (G : CallFix p m c cX12_matrix 6 s args mTs RX12) (hr : meth.sig.returnType = (some .long)) (hk : meth.locks = false) (v0 : Nat) (v1 : Int) (v2 : Int) (v3 : Int) (v4 : Int) (g0 : isC v0 11) : ∀ (t0 : Int) (t1 : Int) (t2 : Int) (σ : mSt) (H : Heap) (locs : List Loc) (ls : Array Slot), mX12_matrix_B129 v0 v1 v2 v3 v4 t0 t1 t2 σ = some out → mM (mA E 276) E 276 σ s H locs → lv_has ls 6 [(4, vI v4)] → mGo l p e 17 415 s m args below meth c E (some (vL out.1)) out.2 H locs (F0 m 129 ls [vI t2, vL t1, vL t0]) := by
  intro t0 t1 t2 σ H locs ls hm hM hl
  unfold mX12_matrix_B129 at hm
  refine r_i2l (np := 130) G rfl dX12_matrix_129 rfl ?_
  refine r_lmul (np := 131) G dX12_matrix_130 rfl ?_
  refine r_iload (np := 133) G hl 0 rfl dX12_matrix_131 rfl ?_
  obtain ⟨b1, s2, e3, hm⟩ := call_t hm
  refine m_callSL (np := 136) G hM hl.1 [vL t0, vL (t1 * (wI t2)), vI v4] (qX12_told l E σ t0 (t1 * (wI t2)) v4 _ e3) myX12_told lkX12_334 ⟨Nat.le_of_ble_eq_true rfl, Nat.le_of_ble_eq_true rfl⟩ ⟨Nat.le_of_ble_eq_true rfl, Nat.le_of_ble_eq_true rfl⟩ [] rfl (Nat.le_of_ble_eq_true rfl) dX12_matrix_133 rfl (fun H locs hM => ?_)
  exact r_lret G hr hk hM hm dX12_matrix_136
set_option maxRecDepth 100000 in
set_option maxHeartbeats 4000000 in
theorem wX12_matrix_B84 (l : Launch) (E : mE) (out : Int × mSt) {p : Program} {e : Env} {s : State} {m : MethodId} {args : Array Value} {below : List Frame} {meth : Method} {c : Code} (G : CallFix p m c cX12_matrix 6 s args mTs RX12) (hr : meth.sig.returnType = (some .long)) (hk : meth.locks = false) (v0 : Nat) (v1 : Int) (v2 : Int) (v3 : Int) (v4 : Int) (g0 : isC v0 11) : ∀ (t0 : Nat) (t1 : Int) (σ : mSt) (H : Heap) (locs : List Loc) (ls : Array Slot), mX12_matrix_B84 v0 v1 v2 v3 v4 t0 t1 σ = some out → mM (mA E 276) E 276 σ s H locs → lv_has ls 6 [(0, .ref (eA E v0)), (1, vI v1), (2, vI v2), (3, vI v3), (4, vI v4)] → mGo l p e 17 415 s m args below meth c E (some (vL out.1)) out.2 H locs (F0 m 84 ls [vI t1, .ref (eA E t0)]) := by
  intro t0 t1 σ H locs ls hm hM hl
  unfold mX12_matrix_B84 at hm
  obtain ⟨g4, hm⟩ := g_t hm
  obtain ⟨s5, e6, hm⟩ := bnd_t hm
  refine r_putI (np := 87) G hM (shp_lt g4 (by decide)) g4 ptX12_0 rfl lkX12_75 s5 e6 dX12_matrix_84 rfl (fun H locs hM => ?_)
  refine r_aload_n (np := 88) G hl 0 rfl dX12_matrix_87 rfl rfl ?_
  refine r_getI (np := 91) G hM (shp_lt g0 (by decide)) g0 fdX12_0 lkX12_75 dX12_matrix_88 rfl ?_
  refine r_iconst (np := 92) G 1 dX12_matrix_91 rfl ?_
  refine r_icmp_ne (np := 95) (tgt := 97) G rfl (wIk 1 rfl) dX12_matrix_92 (by decide) rfl (fun h7 => ?_) (fun h7 => ?_)
  · have hm := b_f h7 hm
    refine r_aload_n (np := 98) G hl 0 rfl dX12_matrix_97 rfl rfl ?_
    refine r_iload_n (np := 99) G hl 1 rfl dX12_matrix_98 rfl rfl ?_
    refine r_iload_n (np := 100) G hl 2 rfl dX12_matrix_99 rfl rfl ?_
    refine r_iload_n (np := 101) G hl 3 rfl dX12_matrix_100 rfl rfl ?_
    obtain ⟨b8, s9, e10, hm⟩ := call_t hm
    refine m_callVL (np := 104) G hM hl.1 [vI v1, vI v2, vI v3] (qX12_entry l E s5 v0 v1 v2 v3 _ e10) myX12_entry (shp_lt (gX12_entry e10) (by decide)) (gX12_entry e10) rfl (by decide) lkX12_344 ⟨Nat.le_of_ble_eq_true rfl, Nat.le_of_ble_eq_true rfl⟩ ⟨Nat.le_of_ble_eq_true rfl, Nat.le_of_ble_eq_true rfl⟩ [] rfl (Nat.le_of_ble_eq_true rfl) dX12_matrix_101 rfl (fun H locs hM => ?_)
    refine r_aload_n (np := 105) G hl 0 rfl dX12_matrix_104 rfl rfl ?_
    refine r_iload_n (np := 106) G hl 1 rfl dX12_matrix_105 rfl rfl ?_
    refine r_iconst (np := 107) G 4 dX12_matrix_106 rfl ?_
    obtain ⟨b11, s12, e13, hm⟩ := call_t hm
    refine m_callVL (np := 110) G hM hl.1 [vI v1, vI 4] (qX12_part l E s9 v0 v1 4 _ e13) myX12_part (shp_lt (gX12_part e13) (by decide)) (gX12_part e13) rfl (by decide) lkX12_294 ⟨Nat.le_of_ble_eq_true rfl, Nat.le_of_ble_eq_true rfl⟩ ⟨Nat.le_of_ble_eq_true rfl, Nat.le_of_ble_eq_true rfl⟩ [vL b8] rfl (Nat.le_of_ble_eq_true rfl) dX12_matrix_107 rfl (fun H locs hM => ?_)
    refine r_aload_n (np := 111) G hl 0 rfl dX12_matrix_110 rfl rfl ?_
    obtain ⟨r14, e15, hm⟩ := ref_t hm
    refine r_getR (np := 114) G hM (shp_lt g0 (by decide)) g0 e15 fdX12_28 lkX12_54 dX12_matrix_111 rfl ?_
    refine r_iconst (np := 115) G 2 dX12_matrix_114 rfl ?_
    obtain ⟨g16, hm⟩ := g_t hm
    refine r_iaload (np := 116) G hM g16 rfl dX12_matrix_115 rfl ?_
    refine r_if_ne (np := 119) (tgt := 123) G rfl dX12_matrix_116 (by decide) rfl (fun h17 => ?_) (fun h17 => ?_)
    · have hm := b_f h17 hm
      refine r_aload_n (np := 124) G hl 0 rfl dX12_matrix_123 rfl rfl ?_
      obtain ⟨r18, e19, hm⟩ := ref_t hm
      refine r_getR (np := 127) G hM (shp_lt g0 (by decide)) g0 e19 fdX12_28 lkX12_54 dX12_matrix_124 rfl ?_
      refine r_iconst (np := 128) G 2 dX12_matrix_127 rfl ?_
      obtain ⟨g20, hm⟩ := g_t hm
      refine r_iaload (np := 129) G hM g20 rfl dX12_matrix_128 rfl ?_
      exact wX12_matrix_B129 l E out G hr hk v0 v1 v2 v3 v4 g0 b8 b11 (s12 r18 2) _ _ _ _ hm hM (lv_sub hl [4] rfl)
    · have hm := b_t h17 hm
      refine r_iconst (np := 120) G 1 dX12_matrix_119 rfl ?_
      refine r_goto (np := 129) G dX12_matrix_120 (by decide) ?_
      exact wX12_matrix_B129 l E out G hr hk v0 v1 v2 v3 v4 g0 b8 b11 1 _ _ _ _ hm hM (lv_sub hl [4] rfl)
  · have hm := b_t h7 hm
    refine r_lconst (np := 96) G 0 dX12_matrix_95 rfl rfl ?_
    exact r_lret G hr hk hM hm dX12_matrix_96
set_option maxRecDepth 100000 in
set_option maxHeartbeats 4000000 in
theorem wX12_matrix_B83 (l : Launch) (E : mE) (out : Int × mSt) {p : Program} {e : Env} {s : State} {m : MethodId} {args : Array Value} {below : List Frame} {meth : Method} {c : Code} (G : CallFix p m c cX12_matrix 6 s args mTs RX12) (hr : meth.sig.returnType = (some .long)) (hk : meth.locks = false) (v0 : Nat) (v1 : Int) (v2 : Int) (v3 : Int) (v4 : Int) (g0 : isC v0 11) : ∀ (t0 : Nat) (σ : mSt) (H : Heap) (locs : List Loc) (ls : Array Slot), mX12_matrix_B83 v0 v1 v2 v3 v4 t0 σ = some out → mM (mA E 276) E 276 σ s H locs → lv_has ls 6 [(0, .ref (eA E v0)), (1, vI v1), (2, vI v2), (3, vI v3), (4, vI v4)] → mGo l p e 17 415 s m args below meth c E (some (vL out.1)) out.2 H locs (F0 m 83 ls [.ref (eA E t0)]) := by
  intro t0 σ H locs ls hm hM hl
  unfold mX12_matrix_B83 at hm
  refine r_iconst (np := 84) G 1 dX12_matrix_83 rfl ?_
  exact wX12_matrix_B84 l E out G hr hk v0 v1 v2 v3 v4 g0 t0 1 _ _ _ _ hm hM (lv_sub hl [0, 1, 2, 3, 4] rfl)
set_option maxRecDepth 100000 in
set_option maxHeartbeats 4000000 in
theorem wX12_matrix_B44 (l : Launch) (E : mE) (out : Int × mSt) {p : Program} {e : Env} {s : State} {m : MethodId} {args : Array Value} {below : List Frame} {meth : Method} {c : Code} (G : CallFix p m c cX12_matrix 6 s args mTs RX12) (hr : meth.sig.returnType = (some .long)) (hk : meth.locks = false) (v0 : Nat) (v1 : Int) (v2 : Int) (v3 : Int) (v4 : Int) (g0 : isC v0 11) : ∀ (t0 : Int) (σ : mSt) (H : Heap) (locs : List Loc) (ls : Array Slot), mX12_matrix_B44 v0 v1 v2 v3 v4 t0 σ = some out → mM (mA E 276) E 276 σ s H locs → lv_has ls 6 [(0, .ref (eA E v0)), (1, vI v1), (2, vI v2), (3, vI v3), (4, vI v4)] → mGo l p e 17 415 s m args below meth c E (some (vL out.1)) out.2 H locs (F0 m 44 ls [vI t0]) := by
  intro t0 σ H locs ls hm hM hl
  unfold mX12_matrix_B44 at hm
  refine r_istore (np := 46) G hl rfl [(5, vI t0), (0, .ref (eA E v0)), (1, vI v1), (2, vI v2), (3, vI v3), (4, vI v4)] dX12_matrix_44 rfl (by decide) rfl (fun ls hl => ?_)
  refine r_aload_n (np := 47) G hl 1 rfl dX12_matrix_46 rfl rfl ?_
  refine r_iload (np := 49) G hl 0 rfl dX12_matrix_47 rfl ?_
  refine r_if_eq (np := 52) (tgt := 83) G rfl dX12_matrix_49 (by decide) rfl (fun h21 => ?_) (fun h21 => ?_)
  · have hm := b_t h21 hm
    exact wX12_matrix_B83 l E out G hr hk v0 v1 v2 v3 v4 g0 v0 _ _ _ _ hm hM (lv_sub hl [1, 2, 3, 4, 5] rfl)
  · have hm := b_f h21 hm
    refine r_aload_n (np := 53) G hl 1 rfl dX12_matrix_52 rfl rfl ?_
    refine r_aload_n (np := 54) G hl 1 rfl dX12_matrix_53 rfl rfl ?_
    obtain ⟨r22, e23, hm⟩ := ref_t hm
    refine r_getR (np := 57) G hM (shp_lt g0 (by decide)) g0 e23 fdX12_22 lkX12_36 dX12_matrix_54 rfl ?_
    refine r_iload_n (np := 58) G hl 2 rfl dX12_matrix_57 rfl rfl ?_
    obtain ⟨g24, hm⟩ := g_t hm
    refine r_iaload (np := 59) G hM g24 rfl dX12_matrix_58 rfl ?_
    obtain ⟨b25, s26, e27, hm⟩ := call_t hm
    refine m_callVI (np := 62) G hM hl.1 [vI (σ r22 (wI v1).toNat)] (qX12_indexOf l E σ v0 (σ r22 (wI v1).toNat) _ e27) myX12_indexOf (shp_lt (gX12_indexOf e27) (by decide)) (gX12_indexOf e27) rfl (by decide) lkX12_271 ⟨Nat.le_of_ble_eq_true rfl, Nat.le_of_ble_eq_true rfl⟩ ⟨Nat.le_of_ble_eq_true rfl, Nat.le_of_ble_eq_true rfl⟩ [.ref (eA E v0)] rfl (Nat.le_of_ble_eq_true rfl) dX12_matrix_59 rfl (fun H locs hM => ?_)
    refine r_iconst (np := 63) G 1 dX12_matrix_62 rfl ?_
    refine r_icmp_ne (np := 66) (tgt := 83) G rfl (wIk 1 rfl) dX12_matrix_63 (by decide) rfl (fun h28 => ?_) (fun h28 => ?_)
    · have hm := b_f h28 hm
      exact wX12_matrix_B83 l E out G hr hk v0 v1 v2 v3 v4 g0 v0 _ _ _ _ hm hM (lv_sub hl [1, 2, 3, 4, 5] rfl)
    · have hm := b_t h28 hm
      refine r_aload_n (np := 67) G hl 1 rfl dX12_matrix_66 rfl rfl ?_
      refine r_aload_n (np := 68) G hl 1 rfl dX12_matrix_67 rfl rfl ?_
      obtain ⟨r29, e30, hm⟩ := ref_t hm
      refine r_getR (np := 71) G hM (shp_lt g0 (by decide)) g0 e30 fdX12_22 lkX12_36 dX12_matrix_68 rfl ?_
      refine r_iload_n (np := 72) G hl 2 rfl dX12_matrix_71 rfl rfl ?_
      obtain ⟨g31, hm⟩ := g_t hm
      refine r_iaload (np := 73) G hM g31 rfl dX12_matrix_72 rfl ?_
      obtain ⟨b32, s33, e34, hm⟩ := call_t hm
      refine m_callVI (np := 76) G hM hl.1 [vI (s26 r29 (wI v1).toNat)] (qX12_solves l E s26 v0 (s26 r29 (wI v1).toNat) _ e34) myX12_solves (shp_lt (gX12_solves e34) (by decide)) (gX12_solves e34) rfl (by decide) lkX12_341 ⟨Nat.le_of_ble_eq_true rfl, Nat.le_of_ble_eq_true rfl⟩ ⟨Nat.le_of_ble_eq_true rfl, Nat.le_of_ble_eq_true rfl⟩ [.ref (eA E v0)] rfl (Nat.le_of_ble_eq_true rfl) dX12_matrix_73 rfl (fun H locs hM => ?_)
      refine r_if_eq (np := 79) (tgt := 83) G rfl dX12_matrix_76 (by decide) rfl (fun h35 => ?_) (fun h35 => ?_)
      · have hm := b_t h35 hm
        exact wX12_matrix_B83 l E out G hr hk v0 v1 v2 v3 v4 g0 v0 _ _ _ _ hm hM (lv_sub hl [1, 2, 3, 4, 5] rfl)
      · have hm := b_f h35 hm
        refine r_iconst (np := 80) G 0 dX12_matrix_79 rfl ?_
        refine r_goto (np := 84) G dX12_matrix_80 (by decide) ?_
        exact wX12_matrix_B84 l E out G hr hk v0 v1 v2 v3 v4 g0 v0 0 _ _ _ _ hm hM (lv_sub hl [1, 2, 3, 4, 5] rfl)
set_option maxRecDepth 100000 in
set_option maxHeartbeats 4000000 in
theorem wX12_matrix_B43 (l : Launch) (E : mE) (out : Int × mSt) {p : Program} {e : Env} {s : State} {m : MethodId} {args : Array Value} {below : List Frame} {meth : Method} {c : Code} (G : CallFix p m c cX12_matrix 6 s args mTs RX12) (hr : meth.sig.returnType = (some .long)) (hk : meth.locks = false) (v0 : Nat) (v1 : Int) (v2 : Int) (v3 : Int) (v4 : Int) (g0 : isC v0 11) : ∀ (σ : mSt) (H : Heap) (locs : List Loc) (ls : Array Slot), mX12_matrix_B43 v0 v1 v2 v3 v4 σ = some out → mM (mA E 276) E 276 σ s H locs → lv_has ls 6 [(0, .ref (eA E v0)), (1, vI v1), (2, vI v2), (3, vI v3), (4, vI v4)] → mGo l p e 17 415 s m args below meth c E (some (vL out.1)) out.2 H locs (F0 m 43 ls []) := by
  intro σ H locs ls hm hM hl
  unfold mX12_matrix_B43 at hm
  refine r_iconst (np := 44) G 0 dX12_matrix_43 rfl ?_
  exact wX12_matrix_B44 l E out G hr hk v0 v1 v2 v3 v4 g0 0 _ _ _ _ hm hM (lv_sub hl [0, 1, 2, 3, 4] rfl)
set_option maxRecDepth 100000 in
set_option maxHeartbeats 4000000 in
theorem qX12_matrix (l : Launch) (E : mE) (σ : mSt) (v0 : Nat) (v1 : Int) (v2 : Int) (v3 : Int) (v4 : Int) (out : Int × mSt) (hm : mX12_matrix v0 v1 v2 v3 v4 σ = some out) : mMet l yX12_matrix cX12_matrix 6 (some .long) 17 415 E 276 [.ref (eA E v0), vI v1, vI v2, vI v3, vI v4] σ (some (vL out.1)) out.2 := by
  unfold mX12_matrix at hm
  obtain ⟨g0, hm⟩ := g_t hm
  refine m_entry (by decide +kernel) (Nat.le_of_ble_eq_true rfl) (fun p e s m args below meth c G hr hk hM ls hl => ?_)
  have G : CallFix p m c cX12_matrix 6 s args mTs RX12 := G
  have hl : lv_has ls 6 [(0, .ref (eA E v0)), (1, vI v1), (2, vI v2), (3, vI v3), (4, vI v4)] := hl
  refine r_aload_n (np := 1) G hl 0 rfl dX12_matrix_0 rfl rfl ?_
  refine r_iload_n (np := 2) G hl 1 rfl dX12_matrix_1 rfl rfl ?_
  obtain ⟨b36, s37, e38, hm⟩ := call_t hm
  refine m_callVI (np := 5) G hM hl.1 [vI v1] (qX12_isKept l E σ v0 v1 _ e38) myX12_isKept (shp_lt (gX12_isKept e38) (by decide)) (gX12_isKept e38) rfl (by decide) lkX12_297 ⟨Nat.le_of_ble_eq_true rfl, Nat.le_of_ble_eq_true rfl⟩ ⟨Nat.le_of_ble_eq_true rfl, Nat.le_of_ble_eq_true rfl⟩ [] rfl (Nat.le_of_ble_eq_true rfl) dX12_matrix_2 rfl (fun H locs hM => ?_)
  refine r_if_eq (np := 8) (tgt := 43) G rfl dX12_matrix_5 (by decide) rfl (fun h39 => ?_) (fun h39 => ?_)
  · have hm := b_t h39 hm
    exact wX12_matrix_B43 l E out G hr hk v0 v1 v2 v3 v4 g0 _ _ _ _ hm hM (lv_sub hl [0, 1, 2, 3, 4] rfl)
  · have hm := b_f h39 hm
    refine r_iload_n (np := 9) G hl 2 rfl dX12_matrix_8 rfl rfl ?_
    refine r_i2l (np := 10) G rfl dX12_matrix_9 rfl ?_
    refine r_lconst (np := 11) G 0 dX12_matrix_10 rfl rfl ?_
    refine r_lconst (np := 12) G 1 dX12_matrix_11 rfl rfl ?_
    obtain ⟨b40, s41, e42, hm⟩ := call_t hm
    refine m_callSI (np := 15) G hM hl.1 [vL (wI v2), vL 0, vL 1] (qX12_within l E s37 (wI v2) 0 1 _ e42) myX12_within lkX12_113 ⟨Nat.le_of_ble_eq_true rfl, Nat.le_of_ble_eq_true rfl⟩ ⟨Nat.le_of_ble_eq_true rfl, Nat.le_of_ble_eq_true rfl⟩ [] rfl (Nat.le_of_ble_eq_true rfl) dX12_matrix_12 rfl (fun H locs hM => ?_)
    refine r_if_eq (np := 18) (tgt := 43) G rfl dX12_matrix_15 (by decide) rfl (fun h43 => ?_) (fun h43 => ?_)
    · have hm := b_t h43 hm
      exact wX12_matrix_B43 l E out G hr hk v0 v1 v2 v3 v4 g0 _ _ _ _ hm hM (lv_sub hl [0, 1, 2, 3, 4] rfl)
    · have hm := b_f h43 hm
      refine r_iload_n (np := 19) G hl 3 rfl dX12_matrix_18 rfl rfl ?_
      refine r_i2l (np := 20) G rfl dX12_matrix_19 rfl ?_
      refine r_lconst (np := 21) G 0 dX12_matrix_20 rfl rfl ?_
      refine r_lconst (np := 22) G 1 dX12_matrix_21 rfl rfl ?_
      obtain ⟨b44, s45, e46, hm⟩ := call_t hm
      refine m_callSI (np := 25) G hM hl.1 [vL (wI v3), vL 0, vL 1] (qX12_within l E s41 (wI v3) 0 1 _ e46) myX12_within lkX12_113 ⟨Nat.le_of_ble_eq_true rfl, Nat.le_of_ble_eq_true rfl⟩ ⟨Nat.le_of_ble_eq_true rfl, Nat.le_of_ble_eq_true rfl⟩ [] rfl (Nat.le_of_ble_eq_true rfl) dX12_matrix_22 rfl (fun H locs hM => ?_)
      refine r_if_eq (np := 28) (tgt := 43) G rfl dX12_matrix_25 (by decide) rfl (fun h47 => ?_) (fun h47 => ?_)
      · have hm := b_t h47 hm
        exact wX12_matrix_B43 l E out G hr hk v0 v1 v2 v3 v4 g0 _ _ _ _ hm hM (lv_sub hl [0, 1, 2, 3, 4] rfl)
      · have hm := b_f h47 hm
        refine r_iload (np := 30) G hl 4 rfl dX12_matrix_28 rfl ?_
        refine r_i2l (np := 31) G rfl dX12_matrix_30 rfl ?_
        refine r_lconst (np := 32) G 0 dX12_matrix_31 rfl rfl ?_
        refine r_lconst (np := 33) G 1 dX12_matrix_32 rfl rfl ?_
        obtain ⟨b48, s49, e50, hm⟩ := call_t hm
        refine m_callSI (np := 36) G hM hl.1 [vL (wI v4), vL 0, vL 1] (qX12_within l E s45 (wI v4) 0 1 _ e50) myX12_within lkX12_113 ⟨Nat.le_of_ble_eq_true rfl, Nat.le_of_ble_eq_true rfl⟩ ⟨Nat.le_of_ble_eq_true rfl, Nat.le_of_ble_eq_true rfl⟩ [] rfl (Nat.le_of_ble_eq_true rfl) dX12_matrix_33 rfl (fun H locs hM => ?_)
        refine r_if_eq (np := 39) (tgt := 43) G rfl dX12_matrix_36 (by decide) rfl (fun h51 => ?_) (fun h51 => ?_)
        · have hm := b_t h51 hm
          exact wX12_matrix_B43 l E out G hr hk v0 v1 v2 v3 v4 g0 _ _ _ _ hm hM (lv_sub hl [0, 1, 2, 3, 4] rfl)
        · have hm := b_f h51 hm
          refine r_iconst (np := 40) G 1 dX12_matrix_39 rfl ?_
          refine r_goto (np := 44) G dX12_matrix_40 (by decide) ?_
          exact wX12_matrix_B44 l E out G hr hk v0 v1 v2 v3 v4 g0 1 _ _ _ _ hm hM (lv_sub hl [0, 1, 2, 3, 4] rfl)
theorem gX12_matrix {v0 : Nat} {v1 : Int} {v2 : Int} {v3 : Int} {v4 : Int} {σ : mSt} {out : Int × mSt} (hm : mX12_matrix v0 v1 v2 v3 v4 σ = some out) : isC v0 11 := (g_t hm).1
set_option maxRecDepth 100000 in
set_option maxHeartbeats 4000000 in
theorem qX12_get (l : Launch) (E : mE) (σ : mSt) (v0 : Nat) (v1 : Int) (v2 : Int) (v3 : Int) (out : Int × mSt) (hm : mX12_get v0 v1 v2 v3 σ = some out) : mMet l yX12_get cX12_get 4 (some .long) 0 0 E 276 [.ref (eA E v0), vI v1, vI v2, vI v3] σ (some (vL out.1)) out.2 := by
  unfold mX12_get at hm
  obtain ⟨g0, hm⟩ := g_t hm
  refine m_entry (by decide +kernel) (Nat.le_of_ble_eq_true rfl) (fun p e s m args below meth c G hr hk hM ls hl => ?_)
  have G : CallFix p m c cX12_get 4 s args mTs RX12 := G
  have hl : lv_has ls 4 [(0, .ref (eA E v0)), (1, vI v1), (2, vI v2), (3, vI v3)] := hl
  refine r_aload_n (np := 1) G hl 0 rfl dX12_get_0 rfl rfl ?_
  obtain ⟨r1, e2, hm⟩ := ref_t hm
  refine r_getR (np := 4) G hM (shp_lt g0 (by decide)) g0 e2 fdX12_29 lkX12_57 dX12_get_1 rfl ?_
  refine r_bipush (np := 6) G 16 dX12_get_4 (by decide) rfl ?_
  refine r_iload_n (np := 7) G hl 1 rfl dX12_get_6 rfl rfl ?_
  refine r_imul (np := 8) G dX12_get_7 rfl ?_
  refine r_iconst (np := 9) G 4 dX12_get_8 rfl ?_
  refine r_iload_n (np := 10) G hl 2 rfl dX12_get_9 rfl rfl ?_
  refine r_imul (np := 11) G dX12_get_10 rfl ?_
  refine r_iadd (np := 12) G dX12_get_11 rfl ?_
  refine r_iload_n (np := 13) G hl 3 rfl dX12_get_12 rfl rfl ?_
  refine r_iadd (np := 14) G dX12_get_13 rfl ?_
  obtain ⟨g3, hm⟩ := g_t hm
  refine r_laload (np := 15) G hM g3 rfl dX12_get_14 rfl ?_
  exact r_lret G hr hk hM hm dX12_get_15
theorem gX12_get {v0 : Nat} {v1 : Int} {v2 : Int} {v3 : Int} {σ : mSt} {out : Int × mSt} (hm : mX12_get v0 v1 v2 v3 σ = some out) : isC v0 11 := (g_t hm).1
set_option maxRecDepth 100000 in
set_option maxHeartbeats 4000000 in
theorem wX12_copies_B36 (l : Launch) (E : mE) (out : Int × mSt) {p : Program} {e : Env} {s : State} {m : MethodId} {args : Array Value} {below : List Frame} {meth : Method} {c : Code} (G : CallFix p m c cX12_copies 4 s args mTs RX12) (hr : meth.sig.returnType = none) (hk : meth.locks = false) (v0 : Nat) (v1 : Int) (v2 : Int) (g0 : isC v0 11) : ∀ (σ : mSt) (H : Heap) (locs : List Loc) (ls : Array Slot), mX12_copies_B36 v0 v1 v2 σ = some out → mM (mA E 276) E 276 σ s H locs → lv_has ls 4 [(0, .ref (eA E v0)), (1, vI v1), (2, vI v2)] → mGo l p e 0 0 s m args below meth c E none out.2 H locs (F0 m 36 ls []) := by
  intro σ H locs ls hm hM hl
  unfold mX12_copies_B36 at hm
  refine r_aload_n (np := 37) G hl 0 rfl dX12_copies_36 rfl rfl ?_
  obtain ⟨r1, e2, hm⟩ := ref_t hm
  refine r_getR (np := 40) G hM (shp_lt g0 (by decide)) g0 e2 fdX12_30 lkX12_60 dX12_copies_37 rfl ?_
  refine r_iload_n (np := 41) G hl 2 rfl dX12_copies_40 rfl rfl ?_
  refine r_aload_n (np := 42) G hl 0 rfl dX12_copies_41 rfl rfl ?_
  obtain ⟨r3, e4, hm⟩ := ref_t hm
  refine r_getR (np := 45) G hM (shp_lt g0 (by decide)) g0 e4 fdX12_30 lkX12_60 dX12_copies_42 rfl ?_
  refine r_iload_n (np := 46) G hl 1 rfl dX12_copies_45 rfl rfl ?_
  obtain ⟨g5, hm⟩ := g_t hm
  refine r_laload (np := 47) G hM g5 rfl dX12_copies_46 rfl ?_
  obtain ⟨g6, hm⟩ := g_t hm
  obtain ⟨s7, e8, hm⟩ := bnd_t hm
  refine r_lastore (np := 48) G hM g6 rfl s7 e8 dX12_copies_47 rfl (fun H locs hM => ?_)
  refine r_aload_n (np := 49) G hl 0 rfl dX12_copies_48 rfl rfl ?_
  obtain ⟨r9, e10, hm⟩ := ref_t hm
  refine r_getR (np := 52) G hM (shp_lt g0 (by decide)) g0 e10 fdX12_31 lkX12_63 dX12_copies_49 rfl ?_
  refine r_iload_n (np := 53) G hl 2 rfl dX12_copies_52 rfl rfl ?_
  refine r_aload_n (np := 54) G hl 0 rfl dX12_copies_53 rfl rfl ?_
  obtain ⟨r11, e12, hm⟩ := ref_t hm
  refine r_getR (np := 57) G hM (shp_lt g0 (by decide)) g0 e12 fdX12_31 lkX12_63 dX12_copies_54 rfl ?_
  refine r_iload_n (np := 58) G hl 1 rfl dX12_copies_57 rfl rfl ?_
  obtain ⟨g13, hm⟩ := g_t hm
  refine r_laload (np := 59) G hM g13 rfl dX12_copies_58 rfl ?_
  obtain ⟨g14, hm⟩ := g_t hm
  obtain ⟨s15, e16, hm⟩ := bnd_t hm
  refine r_lastore (np := 60) G hM g14 rfl s15 e16 dX12_copies_59 rfl (fun H locs hM => ?_)
  exact r_vret G hr hk hM hm dX12_copies_60
set_option maxRecDepth 100000 in
set_option maxHeartbeats 4000000 in
theorem wX12_copies_L2 (l : Launch) (E : mE) (out : Int × mSt) {p : Program} {e : Env} {s : State} {m : MethodId} {args : Array Value} {below : List Frame} {meth : Method} {c : Code} (G : CallFix p m c cX12_copies 4 s args mTs RX12) (hr : meth.sig.returnType = none) (hk : meth.locks = false) (v0 : Nat) (v1 : Int) (v2 : Int) (g0 : isC v0 11) (x36 : mSt → Option (Int × mSt)) (hx36 : ∀ (σ : mSt) (H : Heap) (locs : List Loc) (ls : Array Slot), x36 σ = some out → mM (mA E 276) E 276 σ s H locs → lv_has ls 4 [(0, .ref (eA E v0)), (1, vI v1), (2, vI v2)] → mGo l p e 0 0 s m args below meth c E none out.2 H locs (F0 m 36 ls [])) : ∀ (n : Nat) (v3 : Int) (σ : mSt) (H : Heap) (locs : List Loc) (ls : Array Slot), mX12_copies_L2 v0 v1 v2 x36 n v3 σ = some out → mM (mA E 276) E 276 σ s H locs → lv_has ls 4 [(0, .ref (eA E v0)), (1, vI v1), (2, vI v2), (3, vI v3)] → mGo l p e 0 0 s m args below meth c E none out.2 H locs (F0 m 2 ls []) := by
  intro n
  induction n with
  | zero =>
    intro v3 σ H locs ls hm hM hl
    exact absurd hm (by rw [mX12_copies_L2.eq_1]; exact fun h => nomatch h)
  | succ n ih =>
    intro v3 σ H locs ls hm hM hl
    rw [mX12_copies_L2.eq_2] at hm
    refine r_iload_n (np := 3) G hl 3 rfl dX12_copies_2 rfl rfl ?_
    refine r_bipush (np := 5) G 16 dX12_copies_3 (by decide) rfl ?_
    refine r_icmp_ge (np := 8) (tgt := 36) G rfl (wIk 16 rfl) dX12_copies_5 (by decide) rfl (fun h17 => ?_) (fun h17 => ?_)
    · have hm := b_t h17 hm
      exact hx36 _ _ _ _ hm hM (lv_sub hl [0, 1, 2] rfl)
    · have hm := b_f h17 hm
      refine r_aload_n (np := 9) G hl 0 rfl dX12_copies_8 rfl rfl ?_
      obtain ⟨r18, e19, hm⟩ := ref_t hm
      refine r_getR (np := 12) G hM (shp_lt g0 (by decide)) g0 e19 fdX12_29 lkX12_57 dX12_copies_9 rfl ?_
      refine r_bipush (np := 14) G 16 dX12_copies_12 (by decide) rfl ?_
      refine r_iload_n (np := 15) G hl 2 rfl dX12_copies_14 rfl rfl ?_
      refine r_imul (np := 16) G dX12_copies_15 rfl ?_
      refine r_iload_n (np := 17) G hl 3 rfl dX12_copies_16 rfl rfl ?_
      refine r_iadd (np := 18) G dX12_copies_17 rfl ?_
      refine r_aload_n (np := 19) G hl 0 rfl dX12_copies_18 rfl rfl ?_
      obtain ⟨r20, e21, hm⟩ := ref_t hm
      refine r_getR (np := 22) G hM (shp_lt g0 (by decide)) g0 e21 fdX12_29 lkX12_57 dX12_copies_19 rfl ?_
      refine r_bipush (np := 24) G 16 dX12_copies_22 (by decide) rfl ?_
      refine r_iload_n (np := 25) G hl 1 rfl dX12_copies_24 rfl rfl ?_
      refine r_imul (np := 26) G dX12_copies_25 rfl ?_
      refine r_iload_n (np := 27) G hl 3 rfl dX12_copies_26 rfl rfl ?_
      refine r_iadd (np := 28) G dX12_copies_27 rfl ?_
      obtain ⟨g22, hm⟩ := g_t hm
      refine r_laload (np := 29) G hM g22 rfl dX12_copies_28 rfl ?_
      obtain ⟨g23, hm⟩ := g_t hm
      obtain ⟨s24, e25, hm⟩ := bnd_t hm
      refine r_lastore (np := 30) G hM g23 rfl s24 e25 dX12_copies_29 rfl (fun H locs hM => ?_)
      obtain ⟨a26, e27, hm⟩ := bnd_t hm
      refine r_iinc (np := 33) G hl 3 rfl e27 [(3, vI a26), (0, .ref (eA E v0)), (1, vI v1), (2, vI v2)] dX12_copies_30 rfl (by decide) rfl (fun ls hl => ?_)
      refine r_goto (np := 2) G dX12_copies_33 (by decide) ?_
      exact ih a26 _ _ _ _ hm hM (lv_sub hl [1, 2, 3, 0] rfl)
set_option maxRecDepth 100000 in
set_option maxHeartbeats 4000000 in
theorem qX12_copies (l : Launch) (E : mE) (σ : mSt) (v0 : Nat) (v1 : Int) (v2 : Int) (out : Int × mSt) (hm : mX12_copies v0 v1 v2 σ = some out) : mMet l yX12_copies cX12_copies 4 none 0 0 E 276 [.ref (eA E v0), vI v1, vI v2] σ none out.2 := by
  unfold mX12_copies at hm
  obtain ⟨g0, hm⟩ := g_t hm
  refine m_entry (by decide +kernel) (Nat.le_of_ble_eq_true rfl) (fun p e s m args below meth c G hr hk hM ls hl => ?_)
  have G : CallFix p m c cX12_copies 4 s args mTs RX12 := G
  have hl : lv_has ls 4 [(0, .ref (eA E v0)), (1, vI v1), (2, vI v2)] := hl
  refine r_iconst (np := 1) G 0 dX12_copies_0 rfl ?_
  refine r_istore_n (np := 2) G hl rfl [(3, vI 0), (0, .ref (eA E v0)), (1, vI v1), (2, vI v2)] dX12_copies_1 rfl rfl (by decide) rfl (fun ls hl => ?_)
  exact wX12_copies_L2 l E out G hr hk v0 v1 v2 g0 (fun zσ => mX12_copies_B36 v0 v1 v2 zσ) (fun zσ zH zl zs zm zM zv => wX12_copies_B36 l E out G hr hk v0 v1 v2 g0 zσ zH zl zs zm zM zv) mF 0 _ _ _ _ hm hM (lv_sub hl [1, 2, 3, 0] rfl)
theorem gX12_copies {v0 : Nat} {v1 : Int} {v2 : Int} {σ : mSt} {out : Int × mSt} (hm : mX12_copies v0 v1 v2 σ = some out) : isC v0 11 := (g_t hm).1
set_option maxRecDepth 100000 in
set_option maxHeartbeats 4000000 in
theorem qX12_mod (l : Launch) (E : mE) (σ : mSt) (v0 : Int) (v2 : Int) (out : Int × mSt) (hm : mX12_mod v0 v2 σ = some out) : mMet l yX12_mod cX12_mod 6 (some .long) 0 0 E 276 [vL v0, vL v2] σ (some (vL out.1)) out.2 := by
  unfold mX12_mod at hm
  refine m_entry (by decide +kernel) (Nat.le_of_ble_eq_true rfl) (fun p e s m args below meth c G hr hk hM ls hl => ?_)
  have G : CallFix p m c cX12_mod 6 s args mTs RX12 := G
  have hl : lv_has ls 6 [(0, vL v0), (2, vL v2)] := hl
  refine r_lload_n (np := 1) G hl 0 rfl dX12_mod_0 rfl rfl ?_
  refine r_lload_n (np := 2) G hl 1 rfl dX12_mod_1 rfl rfl ?_
  obtain ⟨g1, hm⟩ := g_t hm
  refine r_lrem (np := 3) G g1 dX12_mod_2 rfl ?_
  obtain ⟨a2, e3, hm⟩ := bnd_t hm
  refine r_lstore (np := 5) G hl e3 [(4, vL a2), (0, vL v0), (2, vL v2)] dX12_mod_3 rfl (by decide) rfl (fun ls hl => ?_)
  refine r_lload (np := 7) G hl 0 rfl dX12_mod_5 rfl ?_
  refine r_lconst (np := 8) G 0 dX12_mod_7 rfl rfl ?_
  refine r_lcmp_ge (np := 12) (tgt := 19) G rfl (wLk 0 rfl) dX12_mod_8 dX12_mod_9 (by decide) rfl (fun h4 => ?_) (fun h4 => ?_)
  · have hm := b_t h4 hm
    refine r_lload (np := 21) G hl 0 rfl dX12_mod_19 rfl ?_
    exact r_lret G hr hk hM hm dX12_mod_21
  · have hm := b_f h4 hm
    refine r_lload (np := 14) G hl 0 rfl dX12_mod_12 rfl ?_
    refine r_lload_n (np := 15) G hl 2 rfl dX12_mod_14 rfl rfl ?_
    refine r_ladd (np := 16) G dX12_mod_15 rfl ?_
    refine r_goto (np := 21) G dX12_mod_16 (by decide) ?_
    exact r_lret G hr hk hM hm dX12_mod_21
set_option maxRecDepth 100000 in
set_option maxHeartbeats 4000000 in
theorem wX12_mulMod_B64 (l : Launch) (E : mE) (out : Int × mSt) {p : Program} {e : Env} {s : State} {m : MethodId} {args : Array Value} {below : List Frame} {meth : Method} {c : Code} (G : CallFix p m c cX12_mulMod 12 s args mTs RX12) (hr : meth.sig.returnType = (some .long)) (hk : meth.locks = false) (v0 : Int) (v2 : Int) (v4 : Int) : ∀ (v6 : Int) (σ : mSt) (H : Heap) (locs : List Loc) (ls : Array Slot), mX12_mulMod_B64 v0 v2 v4 v6 σ = some out → mM (mA E 276) E 276 σ s H locs → lv_has ls 12 [(6, vL v6)] → mGo l p e 1 25 s m args below meth c E (some (vL out.1)) out.2 H locs (F0 m 64 ls []) := by
  intro v6 σ H locs ls hm hM hl
  unfold mX12_mulMod_B64 at hm
  refine r_lload (np := 66) G hl 0 rfl dX12_mulMod_64 rfl ?_
  exact r_lret G hr hk hM hm dX12_mulMod_66
set_option maxRecDepth 100000 in
set_option maxHeartbeats 4000000 in
theorem wX12_mulMod_B45 (l : Launch) (E : mE) (out : Int × mSt) {p : Program} {e : Env} {s : State} {m : MethodId} {args : Array Value} {below : List Frame} {meth : Method} {c : Code} (G : CallFix p m c cX12_mulMod 12 s args mTs RX12) (hr : meth.sig.returnType = (some .long)) (hk : meth.locks = false) (v0 : Int) (v2 : Int) (v4 : Int) (c19 : Int → Int → Int → mSt → Option (Int × mSt)) (x64 : Int → mSt → Option (Int × mSt)) (hc19 : ∀ (v6 : Int) (v8 : Int) (v10 : Int) (σ : mSt) (H : Heap) (locs : List Loc) (ls : Array Slot), c19 v6 v8 v10 σ = some out → mM (mA E 276) E 276 σ s H locs → lv_has ls 12 [(4, vL v4), (6, vL v6), (8, vL v8), (10, vL v10)] → mGo l p e 1 25 s m args below meth c E (some (vL out.1)) out.2 H locs (F0 m 19 ls [])) (hx64 : ∀ (v6 : Int) (σ : mSt) (H : Heap) (locs : List Loc) (ls : Array Slot), x64 v6 σ = some out → mM (mA E 276) E 276 σ s H locs → lv_has ls 12 [(6, vL v6)] → mGo l p e 1 25 s m args below meth c E (some (vL out.1)) out.2 H locs (F0 m 64 ls [])) : ∀ (v6 : Int) (v8 : Int) (v10 : Int) (σ : mSt) (H : Heap) (locs : List Loc) (ls : Array Slot), mX12_mulMod_B45 v0 v2 v4 c19 x64 v6 v8 v10 σ = some out → mM (mA E 276) E 276 σ s H locs → lv_has ls 12 [(4, vL v4), (6, vL v6), (8, vL v8), (10, vL v10)] → mGo l p e 1 25 s m args below meth c E (some (vL out.1)) out.2 H locs (F0 m 45 ls []) := by
  intro v6 v8 v10 σ H locs ls hm hM hl
  unfold mX12_mulMod_B45 at hm
  refine r_lload (np := 47) G hl 2 rfl dX12_mulMod_45 rfl ?_
  refine r_lload (np := 49) G hl 2 rfl dX12_mulMod_47 rfl ?_
  refine r_ladd (np := 50) G dX12_mulMod_49 rfl ?_
  refine r_lload (np := 52) G hl 0 rfl dX12_mulMod_50 rfl ?_
  obtain ⟨g1, hm⟩ := g_t hm
  refine r_lrem (np := 53) G g1 dX12_mulMod_52 rfl ?_
  obtain ⟨a2, e3, hm⟩ := bnd_t hm
  refine r_lstore (np := 55) G hl e3 [(8, vL a2), (4, vL v4), (6, vL v6), (10, vL v10)] dX12_mulMod_53 rfl (by decide) rfl (fun ls hl => ?_)
  refine r_lload (np := 57) G hl 3 rfl dX12_mulMod_55 rfl ?_
  refine r_iconst (np := 58) G 1 dX12_mulMod_57 rfl ?_
  refine r_lshr (np := 59) G dX12_mulMod_58 rfl ?_
  obtain ⟨a4, e5, hm⟩ := bnd_t hm
  refine r_lstore (np := 61) G hl e5 [(10, vL a4), (8, vL a2), (4, vL v4), (6, vL v6)] dX12_mulMod_59 rfl (by decide) rfl (fun ls hl => ?_)
  refine r_goto (np := 19) G dX12_mulMod_61 (by decide) ?_
  exact hc19 v6 a2 a4 _ _ _ _ hm hM (lv_sub hl [2, 3, 1, 0] rfl)
set_option maxRecDepth 100000 in
set_option maxHeartbeats 4000000 in
theorem wX12_mulMod_L19 (l : Launch) (E : mE) (out : Int × mSt) {p : Program} {e : Env} {s : State} {m : MethodId} {args : Array Value} {below : List Frame} {meth : Method} {c : Code} (G : CallFix p m c cX12_mulMod 12 s args mTs RX12) (hr : meth.sig.returnType = (some .long)) (hk : meth.locks = false) (v0 : Int) (v2 : Int) (v4 : Int) (x64 : Int → mSt → Option (Int × mSt)) (hx64 : ∀ (v6 : Int) (σ : mSt) (H : Heap) (locs : List Loc) (ls : Array Slot), x64 v6 σ = some out → mM (mA E 276) E 276 σ s H locs → lv_has ls 12 [(6, vL v6)] → mGo l p e 1 25 s m args below meth c E (some (vL out.1)) out.2 H locs (F0 m 64 ls [])) : ∀ (n : Nat) (v6 : Int) (v8 : Int) (v10 : Int) (σ : mSt) (H : Heap) (locs : List Loc) (ls : Array Slot), mX12_mulMod_L19 v0 v2 v4 x64 n v6 v8 v10 σ = some out → mM (mA E 276) E 276 σ s H locs → lv_has ls 12 [(4, vL v4), (6, vL v6), (8, vL v8), (10, vL v10)] → mGo l p e 1 25 s m args below meth c E (some (vL out.1)) out.2 H locs (F0 m 19 ls []) := by
  intro n
  induction n with
  | zero =>
    intro v6 v8 v10 σ H locs ls hm hM hl
    exact absurd hm (by rw [mX12_mulMod_L19.eq_1]; exact fun h => nomatch h)
  | succ n ih =>
    intro v6 v8 v10 σ H locs ls hm hM hl
    rw [mX12_mulMod_L19.eq_2] at hm
    refine r_lload (np := 21) G hl 3 rfl dX12_mulMod_19 rfl ?_
    refine r_lconst (np := 22) G 0 dX12_mulMod_21 rfl rfl ?_
    refine r_lcmp_le (np := 26) (tgt := 64) G rfl (wLk 0 rfl) dX12_mulMod_22 dX12_mulMod_23 (by decide) rfl (fun h6 => ?_) (fun h6 => ?_)
    · have hm := b_t h6 hm
      exact hx64 v6 _ _ _ _ hm hM (lv_sub hl [1] rfl)
    · have hm := b_f h6 hm
      refine r_lload (np := 28) G hl 3 rfl dX12_mulMod_26 rfl ?_
      refine r_lconst (np := 29) G 1 dX12_mulMod_28 rfl rfl ?_
      refine r_land (np := 30) G dX12_mulMod_29 rfl ?_
      refine r_lconst (np := 31) G 1 dX12_mulMod_30 rfl rfl ?_
      refine r_lcmp_ne (np := 35) (tgt := 45) G rfl (wLk 1 rfl) dX12_mulMod_31 dX12_mulMod_32 (by decide) rfl (fun h7 => ?_) (fun h7 => ?_)
      · have hm := b_f h7 hm
        exact wX12_mulMod_B45 l E out G hr hk v0 v2 v4 (mX12_mulMod_L19 v0 v2 v4 x64 n) x64 ih hx64 v6 v8 v10 _ _ _ _ hm hM (lv_sub hl [0, 1, 2, 3] rfl)
      · have hm := b_t h7 hm
        refine r_lload (np := 37) G hl 1 rfl dX12_mulMod_35 rfl ?_
        refine r_lload (np := 39) G hl 2 rfl dX12_mulMod_37 rfl ?_
        refine r_ladd (np := 40) G dX12_mulMod_39 rfl ?_
        refine r_lload (np := 42) G hl 0 rfl dX12_mulMod_40 rfl ?_
        obtain ⟨g8, hm⟩ := g_t hm
        refine r_lrem (np := 43) G g8 dX12_mulMod_42 rfl ?_
        obtain ⟨a9, e10, hm⟩ := bnd_t hm
        refine r_lstore (np := 45) G hl e10 [(6, vL a9), (4, vL v4), (8, vL v8), (10, vL v10)] dX12_mulMod_43 rfl (by decide) rfl (fun ls hl => ?_)
        exact wX12_mulMod_B45 l E out G hr hk v0 v2 v4 (mX12_mulMod_L19 v0 v2 v4 x64 n) x64 ih hx64 a9 v8 v10 _ _ _ _ hm hM (lv_sub hl [1, 0, 2, 3] rfl)
set_option maxRecDepth 100000 in
set_option maxHeartbeats 4000000 in
theorem qX12_mulMod (l : Launch) (E : mE) (σ : mSt) (v0 : Int) (v2 : Int) (v4 : Int) (out : Int × mSt) (hm : mX12_mulMod v0 v2 v4 σ = some out) : mMet l yX12_mulMod cX12_mulMod 12 (some .long) 1 25 E 276 [vL v0, vL v2, vL v4] σ (some (vL out.1)) out.2 := by
  unfold mX12_mulMod at hm
  refine m_entry (by decide +kernel) (Nat.le_of_ble_eq_true rfl) (fun p e s m args below meth c G hr hk hM ls hl => ?_)
  have G : CallFix p m c cX12_mulMod 12 s args mTs RX12 := G
  have hl : lv_has ls 12 [(0, vL v0), (2, vL v2), (4, vL v4)] := hl
  refine r_lconst (np := 1) G 0 dX12_mulMod_0 rfl rfl ?_
  refine r_lstore (np := 3) G hl rfl [(6, vL 0), (0, vL v0), (2, vL v2), (4, vL v4)] dX12_mulMod_1 rfl (by decide) rfl (fun ls hl => ?_)
  refine r_lload_n (np := 4) G hl 2 rfl dX12_mulMod_3 rfl rfl ?_
  refine r_lload (np := 6) G hl 3 rfl dX12_mulMod_4 rfl ?_
  obtain ⟨b11, s12, e13, hm⟩ := call_t hm
  refine m_callSL (np := 9) G hM hl.1 [vL v2, vL v4] (qX12_mod l E σ v2 v4 _ e13) myX12_mod lkX12_352 ⟨Nat.le_of_ble_eq_true rfl, Nat.le_of_ble_eq_true rfl⟩ ⟨Nat.le_of_ble_eq_true rfl, Nat.le_of_ble_eq_true rfl⟩ [] rfl (Nat.le_of_ble_eq_true rfl) dX12_mulMod_6 rfl (fun H locs hM => ?_)
  refine r_lstore (np := 11) G hl rfl [(8, vL b11), (6, vL 0), (0, vL v0), (2, vL v2), (4, vL v4)] dX12_mulMod_9 rfl (by decide) rfl (fun ls hl => ?_)
  refine r_lload_n (np := 12) G hl 2 rfl dX12_mulMod_11 rfl rfl ?_
  refine r_lload (np := 14) G hl 4 rfl dX12_mulMod_12 rfl ?_
  obtain ⟨b14, s15, e16, hm⟩ := call_t hm
  refine m_callSL (np := 17) G hM hl.1 [vL v0, vL v4] (qX12_mod l E s12 v0 v4 _ e16) myX12_mod lkX12_352 ⟨Nat.le_of_ble_eq_true rfl, Nat.le_of_ble_eq_true rfl⟩ ⟨Nat.le_of_ble_eq_true rfl, Nat.le_of_ble_eq_true rfl⟩ [] rfl (Nat.le_of_ble_eq_true rfl) dX12_mulMod_14 rfl (fun H locs hM => ?_)
  refine r_lstore (np := 19) G hl rfl [(10, vL b14), (8, vL b11), (6, vL 0), (0, vL v0), (2, vL v2), (4, vL v4)] dX12_mulMod_17 rfl (by decide) rfl (fun ls hl => ?_)
  exact wX12_mulMod_L19 l E out G hr hk v0 v2 v4 (fun z6 zσ => mX12_mulMod_B64 v0 v2 v4 z6 zσ) (fun z6 zσ zH zl zs zm zM zv => wX12_mulMod_B64 l E out G hr hk v0 v2 v4 z6 zσ zH zl zs zm zM zv) mF 0 b11 b14 _ _ _ _ hm hM (lv_sub hl [5, 2, 1, 0] rfl)
set_option maxRecDepth 100000 in
set_option maxHeartbeats 4000000 in
theorem wX12_scales_B32 (l : Launch) (E : mE) (out : Int × mSt) {p : Program} {e : Env} {s : State} {m : MethodId} {args : Array Value} {below : List Frame} {meth : Method} {c : Code} (G : CallFix p m c cX12_scales 5 s args mTs RX12) (hr : meth.sig.returnType = none) (hk : meth.locks = false) (v0 : Nat) (v1 : Int) (v2 : Int) (g0 : isC v0 11) : ∀ (σ : mSt) (H : Heap) (locs : List Loc) (ls : Array Slot), mX12_scales_B32 v0 v1 v2 σ = some out → mM (mA E 276) E 276 σ s H locs → lv_has ls 5 [(0, .ref (eA E v0)), (1, vI v1), (2, vL v2)] → mGo l p e 0 0 s m args below meth c E none out.2 H locs (F0 m 32 ls []) := by
  intro σ H locs ls hm hM hl
  unfold mX12_scales_B32 at hm
  refine r_aload_n (np := 33) G hl 0 rfl dX12_scales_32 rfl rfl ?_
  obtain ⟨r1, e2, hm⟩ := ref_t hm
  refine r_getR (np := 36) G hM (shp_lt g0 (by decide)) g0 e2 fdX12_30 lkX12_60 dX12_scales_33 rfl ?_
  refine r_iload_n (np := 37) G hl 1 rfl dX12_scales_36 rfl rfl ?_
  refine r_dup2 (np := 38) G dX12_scales_37 rfl rfl rfl ?_
  obtain ⟨g3, hm⟩ := g_t hm
  refine r_laload (np := 39) G hM g3 rfl dX12_scales_38 rfl ?_
  refine r_lload_n (np := 40) G hl 2 rfl dX12_scales_39 rfl rfl ?_
  refine r_lmul (np := 41) G dX12_scales_40 rfl ?_
  obtain ⟨s4, e5, hm⟩ := bnd_t hm
  refine r_lastore (np := 42) G hM g3 rfl s4 e5 dX12_scales_41 rfl (fun H locs hM => ?_)
  refine r_aload_n (np := 43) G hl 0 rfl dX12_scales_42 rfl rfl ?_
  obtain ⟨r6, e7, hm⟩ := ref_t hm
  refine r_getR (np := 46) G hM (shp_lt g0 (by decide)) g0 e7 fdX12_31 lkX12_63 dX12_scales_43 rfl ?_
  refine r_iload_n (np := 47) G hl 1 rfl dX12_scales_46 rfl rfl ?_
  refine r_dup2 (np := 48) G dX12_scales_47 rfl rfl rfl ?_
  obtain ⟨g8, hm⟩ := g_t hm
  refine r_laload (np := 49) G hM g8 rfl dX12_scales_48 rfl ?_
  refine r_lload_n (np := 50) G hl 2 rfl dX12_scales_49 rfl rfl ?_
  refine r_lmul (np := 51) G dX12_scales_50 rfl ?_
  obtain ⟨s9, e10, hm⟩ := bnd_t hm
  refine r_lastore (np := 52) G hM g8 rfl s9 e10 dX12_scales_51 rfl (fun H locs hM => ?_)
  exact r_vret G hr hk hM hm dX12_scales_52
set_option maxRecDepth 100000 in
set_option maxHeartbeats 4000000 in
theorem wX12_scales_L3 (l : Launch) (E : mE) (out : Int × mSt) {p : Program} {e : Env} {s : State} {m : MethodId} {args : Array Value} {below : List Frame} {meth : Method} {c : Code} (G : CallFix p m c cX12_scales 5 s args mTs RX12) (hr : meth.sig.returnType = none) (hk : meth.locks = false) (v0 : Nat) (v1 : Int) (v2 : Int) (g0 : isC v0 11) (x32 : mSt → Option (Int × mSt)) (hx32 : ∀ (σ : mSt) (H : Heap) (locs : List Loc) (ls : Array Slot), x32 σ = some out → mM (mA E 276) E 276 σ s H locs → lv_has ls 5 [(0, .ref (eA E v0)), (1, vI v1), (2, vL v2)] → mGo l p e 0 0 s m args below meth c E none out.2 H locs (F0 m 32 ls [])) : ∀ (n : Nat) (v4 : Int) (σ : mSt) (H : Heap) (locs : List Loc) (ls : Array Slot), mX12_scales_L3 v0 v1 v2 x32 n v4 σ = some out → mM (mA E 276) E 276 σ s H locs → lv_has ls 5 [(0, .ref (eA E v0)), (1, vI v1), (2, vL v2), (4, vI v4)] → mGo l p e 0 0 s m args below meth c E none out.2 H locs (F0 m 3 ls []) := by
  intro n
  induction n with
  | zero =>
    intro v4 σ H locs ls hm hM hl
    exact absurd hm (by rw [mX12_scales_L3.eq_1]; exact fun h => nomatch h)
  | succ n ih =>
    intro v4 σ H locs ls hm hM hl
    rw [mX12_scales_L3.eq_2] at hm
    refine r_iload (np := 5) G hl 3 rfl dX12_scales_3 rfl ?_
    refine r_bipush (np := 7) G 16 dX12_scales_5 (by decide) rfl ?_
    refine r_icmp_ge (np := 10) (tgt := 32) G rfl (wIk 16 rfl) dX12_scales_7 (by decide) rfl (fun h11 => ?_) (fun h11 => ?_)
    · have hm := b_t h11 hm
      exact hx32 _ _ _ _ hm hM (lv_sub hl [0, 1, 2] rfl)
    · have hm := b_f h11 hm
      refine r_aload_n (np := 11) G hl 0 rfl dX12_scales_10 rfl rfl ?_
      obtain ⟨r12, e13, hm⟩ := ref_t hm
      refine r_getR (np := 14) G hM (shp_lt g0 (by decide)) g0 e13 fdX12_29 lkX12_57 dX12_scales_11 rfl ?_
      refine r_bipush (np := 16) G 16 dX12_scales_14 (by decide) rfl ?_
      refine r_iload_n (np := 17) G hl 1 rfl dX12_scales_16 rfl rfl ?_
      refine r_imul (np := 18) G dX12_scales_17 rfl ?_
      refine r_iload (np := 20) G hl 3 rfl dX12_scales_18 rfl ?_
      refine r_iadd (np := 21) G dX12_scales_20 rfl ?_
      refine r_dup2 (np := 22) G dX12_scales_21 rfl rfl rfl ?_
      obtain ⟨g14, hm⟩ := g_t hm
      refine r_laload (np := 23) G hM g14 rfl dX12_scales_22 rfl ?_
      refine r_lload_n (np := 24) G hl 2 rfl dX12_scales_23 rfl rfl ?_
      refine r_lmul (np := 25) G dX12_scales_24 rfl ?_
      obtain ⟨s15, e16, hm⟩ := bnd_t hm
      refine r_lastore (np := 26) G hM g14 rfl s15 e16 dX12_scales_25 rfl (fun H locs hM => ?_)
      obtain ⟨a17, e18, hm⟩ := bnd_t hm
      refine r_iinc (np := 29) G hl 3 rfl e18 [(4, vI a17), (0, .ref (eA E v0)), (1, vI v1), (2, vL v2)] dX12_scales_26 rfl (by decide) rfl (fun ls hl => ?_)
      refine r_goto (np := 3) G dX12_scales_29 (by decide) ?_
      exact ih a17 _ _ _ _ hm hM (lv_sub hl [1, 2, 3, 0] rfl)
set_option maxRecDepth 100000 in
set_option maxHeartbeats 4000000 in
theorem qX12_scales (l : Launch) (E : mE) (σ : mSt) (v0 : Nat) (v1 : Int) (v2 : Int) (out : Int × mSt) (hm : mX12_scales v0 v1 v2 σ = some out) : mMet l yX12_scales cX12_scales 5 none 0 0 E 276 [.ref (eA E v0), vI v1, vL v2] σ none out.2 := by
  unfold mX12_scales at hm
  obtain ⟨g0, hm⟩ := g_t hm
  refine m_entry (by decide +kernel) (Nat.le_of_ble_eq_true rfl) (fun p e s m args below meth c G hr hk hM ls hl => ?_)
  have G : CallFix p m c cX12_scales 5 s args mTs RX12 := G
  have hl : lv_has ls 5 [(0, .ref (eA E v0)), (1, vI v1), (2, vL v2)] := hl
  refine r_iconst (np := 1) G 0 dX12_scales_0 rfl ?_
  refine r_istore (np := 3) G hl rfl [(4, vI 0), (0, .ref (eA E v0)), (1, vI v1), (2, vL v2)] dX12_scales_1 rfl (by decide) rfl (fun ls hl => ?_)
  exact wX12_scales_L3 l E out G hr hk v0 v1 v2 g0 (fun zσ => mX12_scales_B32 v0 v1 v2 zσ) (fun zσ zH zl zs zm zM zv => wX12_scales_B32 l E out G hr hk v0 v1 v2 g0 zσ zH zl zs zm zM zv) mF 0 _ _ _ _ hm hM (lv_sub hl [1, 2, 3, 0] rfl)
theorem gX12_scales {v0 : Nat} {v1 : Int} {v2 : Int} {σ : mSt} {out : Int × mSt} (hm : mX12_scales v0 v1 v2 σ = some out) : isC v0 11 := (g_t hm).1
set_option maxRecDepth 100000 in
set_option maxHeartbeats 4000000 in
theorem wX12_meets_B130 (l : Launch) (E : mE) (out : Int × mSt) {p : Program} {e : Env} {s : State} {m : MethodId} {args : Array Value} {below : List Frame} {meth : Method} {c : Code} (G : CallFix p m c cX12_meets 8 s args mTs RX12) (hr : meth.sig.returnType = none) (hk : meth.locks = false) (v0 : Nat) (v1 : Int) (v2 : Int) (g0 : isC v0 11) : ∀ (σ : mSt) (H : Heap) (locs : List Loc) (ls : Array Slot), mX12_meets_B130 v0 v1 v2 σ = some out → mM (mA E 276) E 276 σ s H locs → lv_has ls 8 [] → mGo l p e 2 56 s m args below meth c E none out.2 H locs (F0 m 130 ls []) := by
  intro σ H locs ls hm hM hl
  unfold mX12_meets_B130 at hm
  exact r_vret G hr hk hM hm dX12_meets_130
set_option maxRecDepth 100000 in
set_option maxHeartbeats 4000000 in
theorem wX12_meets_B127 (l : Launch) (E : mE) (out : Int × mSt) {p : Program} {e : Env} {s : State} {m : MethodId} {args : Array Value} {below : List Frame} {meth : Method} {c : Code} (G : CallFix p m c cX12_meets 8 s args mTs RX12) (hr : meth.sig.returnType = none) (hk : meth.locks = false) (v0 : Nat) (v1 : Int) (v2 : Int) (g0 : isC v0 11) (c0 : mSt → Option (Int × mSt)) (x130 : mSt → Option (Int × mSt)) (hc0 : ∀ (σ : mSt) (H : Heap) (locs : List Loc) (ls : Array Slot), c0 σ = some out → mM (mA E 276) E 276 σ s H locs → lv_has ls 8 [(0, .ref (eA E v0)), (1, vI v1), (2, vI v2)] → mGo l p e 2 56 s m args below meth c E none out.2 H locs (F0 m 0 ls [])) (hx130 : ∀ (σ : mSt) (H : Heap) (locs : List Loc) (ls : Array Slot), x130 σ = some out → mM (mA E 276) E 276 σ s H locs → lv_has ls 8 [] → mGo l p e 2 56 s m args below meth c E none out.2 H locs (F0 m 130 ls [])) : ∀ (σ : mSt) (H : Heap) (locs : List Loc) (ls : Array Slot), mX12_meets_B127 v0 v1 v2 c0 x130 σ = some out → mM (mA E 276) E 276 σ s H locs → lv_has ls 8 [(0, .ref (eA E v0)), (1, vI v1), (2, vI v2)] → mGo l p e 2 56 s m args below meth c E none out.2 H locs (F0 m 127 ls []) := by
  intro σ H locs ls hm hM hl
  unfold mX12_meets_B127 at hm
  refine r_goto (np := 0) G dX12_meets_127 (by decide) ?_
  exact hc0 _ _ _ _ hm hM (lv_sub hl [0, 1, 2] rfl)
set_option maxRecDepth 100000 in
set_option maxHeartbeats 4000000 in
theorem wX12_meets_B95 (l : Launch) (E : mE) (out : Int × mSt) {p : Program} {e : Env} {s : State} {m : MethodId} {args : Array Value} {below : List Frame} {meth : Method} {c : Code} (G : CallFix p m c cX12_meets 8 s args mTs RX12) (hr : meth.sig.returnType = none) (hk : meth.locks = false) (v0 : Nat) (v1 : Int) (v2 : Int) (v3 : Int) (g0 : isC v0 11) (c29 : Int → mSt → Option (Int × mSt)) (x127 : mSt → Option (Int × mSt)) (hc29 : ∀ (v5 : Int) (σ : mSt) (H : Heap) (locs : List Loc) (ls : Array Slot), c29 v5 σ = some out → mM (mA E 276) E 276 σ s H locs → lv_has ls 8 [(0, .ref (eA E v0)), (1, vI v1), (2, vI v2), (3, vL v3), (5, vI v5)] → mGo l p e 2 56 s m args below meth c E none out.2 H locs (F0 m 29 ls [])) (hx127 : ∀ (σ : mSt) (H : Heap) (locs : List Loc) (ls : Array Slot), x127 σ = some out → mM (mA E 276) E 276 σ s H locs → lv_has ls 8 [(0, .ref (eA E v0)), (1, vI v1), (2, vI v2)] → mGo l p e 2 56 s m args below meth c E none out.2 H locs (F0 m 127 ls [])) : ∀ (v5 : Int) (t0 : Int) (σ : mSt) (H : Heap) (locs : List Loc) (ls : Array Slot), mX12_meets_B95 v0 v1 v2 v3 c29 x127 v5 t0 σ = some out → mM (mA E 276) E 276 σ s H locs → lv_has ls 8 [(0, .ref (eA E v0)), (1, vI v1), (2, vI v2), (3, vL v3), (5, vI v5)] → mGo l p e 2 56 s m args below meth c E none out.2 H locs (F0 m 95 ls [vL t0]) := by
  intro v5 t0 σ H locs ls hm hM hl
  unfold mX12_meets_B95 at hm
  refine r_lstore (np := 97) G hl rfl [(6, vL t0), (0, .ref (eA E v0)), (1, vI v1), (2, vI v2), (3, vL v3), (5, vI v5)] dX12_meets_95 rfl (by decide) rfl (fun ls hl => ?_)
  refine r_aload_n (np := 98) G hl 1 rfl dX12_meets_97 rfl rfl ?_
  refine r_iload_n (np := 99) G hl 2 rfl dX12_meets_98 rfl rfl ?_
  refine r_iload_n (np := 100) G hl 3 rfl dX12_meets_99 rfl rfl ?_
  refine r_iload (np := 102) G hl 5 rfl dX12_meets_100 rfl ?_
  refine r_aload_n (np := 103) G hl 1 rfl dX12_meets_102 rfl rfl ?_
  obtain ⟨r1, e2, hm⟩ := ref_t hm
  refine r_getR (np := 106) G hM (shp_lt g0 (by decide)) g0 e2 fdX12_32 lkX12_66 dX12_meets_103 rfl ?_
  refine r_iload (np := 108) G hl 5 rfl dX12_meets_106 rfl ?_
  obtain ⟨g3, hm⟩ := g_t hm
  refine r_laload (np := 109) G hM g3 rfl dX12_meets_108 rfl ?_
  obtain ⟨b4, s5, e6, hm⟩ := call_t hm
  refine m_callVV (np := 112) G hM hl.1 [vI v1, vI v2, vI v5, vL (σ r1 (wI v5).toNat)] (qX12_set l E σ v0 v1 v2 v5 (σ r1 (wI v5).toNat) _ e6) myX12_set (shp_lt (gX12_set e6) (by decide)) (gX12_set e6) rfl (by decide) lkX12_348 ⟨Nat.le_of_ble_eq_true rfl, Nat.le_of_ble_eq_true rfl⟩ ⟨Nat.le_of_ble_eq_true rfl, Nat.le_of_ble_eq_true rfl⟩ [] rfl (Nat.le_of_ble_eq_true rfl) dX12_meets_109 rfl (fun H locs hM => ?_)
  refine r_aload_n (np := 113) G hl 1 rfl dX12_meets_112 rfl rfl ?_
  obtain ⟨r7, e8, hm⟩ := ref_t hm
  refine r_getR (np := 116) G hM (shp_lt g0 (by decide)) g0 e8 fdX12_32 lkX12_66 dX12_meets_113 rfl ?_
  refine r_iload (np := 118) G hl 5 rfl dX12_meets_116 rfl ?_
  refine r_lload (np := 120) G hl 0 rfl dX12_meets_118 rfl ?_
  obtain ⟨g9, hm⟩ := g_t hm
  obtain ⟨s10, e11, hm⟩ := bnd_t hm
  refine r_lastore (np := 121) G hM g9 rfl s10 e11 dX12_meets_120 rfl (fun H locs hM => ?_)
  obtain ⟨a12, e13, hm⟩ := bnd_t hm
  refine r_iinc (np := 124) G hl 5 rfl e13 [(5, vI a12), (6, vL t0), (0, .ref (eA E v0)), (1, vI v1), (2, vI v2), (3, vL v3)] dX12_meets_121 rfl (by decide) rfl (fun ls hl => ?_)
  refine r_goto (np := 29) G dX12_meets_124 (by decide) ?_
  exact hc29 a12 _ _ _ _ hm hM (lv_sub hl [2, 3, 4, 5, 0] rfl)
set_option maxRecDepth 100000 in
set_option maxHeartbeats 4000000 in
theorem wX12_meets_L29 (l : Launch) (E : mE) (out : Int × mSt) {p : Program} {e : Env} {s : State} {m : MethodId} {args : Array Value} {below : List Frame} {meth : Method} {c : Code} (G : CallFix p m c cX12_meets 8 s args mTs RX12) (hr : meth.sig.returnType = none) (hk : meth.locks = false) (v0 : Nat) (v1 : Int) (v2 : Int) (v3 : Int) (g0 : isC v0 11) (x127 : mSt → Option (Int × mSt)) (hx127 : ∀ (σ : mSt) (H : Heap) (locs : List Loc) (ls : Array Slot), x127 σ = some out → mM (mA E 276) E 276 σ s H locs → lv_has ls 8 [(0, .ref (eA E v0)), (1, vI v1), (2, vI v2)] → mGo l p e 2 56 s m args below meth c E none out.2 H locs (F0 m 127 ls [])) : ∀ (n : Nat) (v5 : Int) (σ : mSt) (H : Heap) (locs : List Loc) (ls : Array Slot), mX12_meets_L29 v0 v1 v2 v3 x127 n v5 σ = some out → mM (mA E 276) E 276 σ s H locs → lv_has ls 8 [(0, .ref (eA E v0)), (1, vI v1), (2, vI v2), (3, vL v3), (5, vI v5)] → mGo l p e 2 56 s m args below meth c E none out.2 H locs (F0 m 29 ls []) := by
  intro n
  induction n with
  | zero =>
    intro v5 σ H locs ls hm hM hl
    exact absurd hm (by rw [mX12_meets_L29.eq_1]; exact fun h => nomatch h)
  | succ n ih =>
    intro v5 σ H locs ls hm hM hl
    rw [mX12_meets_L29.eq_2] at hm
    refine r_iload (np := 31) G hl 4 rfl dX12_meets_29 rfl ?_
    refine r_iconst (np := 32) G 4 dX12_meets_31 rfl ?_
    refine r_icmp_ge (np := 35) (tgt := 127) G rfl (wIk 4 rfl) dX12_meets_32 (by decide) rfl (fun h14 => ?_) (fun h14 => ?_)
    · have hm := b_t h14 hm
      exact hx127 _ _ _ _ hm hM (lv_sub hl [0, 1, 2] rfl)
    · have hm := b_f h14 hm
      refine r_iload (np := 37) G hl 4 rfl dX12_meets_35 rfl ?_
      refine r_iload_n (np := 38) G hl 2 rfl dX12_meets_37 rfl rfl ?_
      refine r_icmp_ne (np := 41) (tgt := 60) G rfl rfl dX12_meets_38 (by decide) rfl (fun h15 => ?_) (fun h15 => ?_)
      · have hm := b_f h15 hm
        refine r_aload_n (np := 61) G hl 0 rfl dX12_meets_60 rfl rfl ?_
        refine r_iload_n (np := 62) G hl 1 rfl dX12_meets_61 rfl rfl ?_
        refine r_iload_n (np := 63) G hl 2 rfl dX12_meets_62 rfl rfl ?_
        refine r_iload (np := 65) G hl 4 rfl dX12_meets_63 rfl ?_
        obtain ⟨b16, s17, e18, hm⟩ := call_t hm
        refine m_callVL (np := 68) G hM hl.1 [vI v1, vI v2, vI v5] (qX12_get l E σ v0 v1 v2 v5 _ e18) myX12_get (shp_lt (gX12_get e18) (by decide)) (gX12_get e18) rfl (by decide) lkX12_355 ⟨Nat.le_of_ble_eq_true rfl, Nat.le_of_ble_eq_true rfl⟩ ⟨Nat.le_of_ble_eq_true rfl, Nat.le_of_ble_eq_true rfl⟩ [] rfl (Nat.le_of_ble_eq_true rfl) dX12_meets_65 rfl (fun H locs hM => ?_)
        refine r_lload_n (np := 69) G hl 3 rfl dX12_meets_68 rfl rfl ?_
        refine r_aload_n (np := 70) G hl 0 rfl dX12_meets_69 rfl rfl ?_
        obtain ⟨r19, e20, hm⟩ := ref_t hm
        refine r_getR (np := 73) G hM (shp_lt g0 (by decide)) g0 e20 fdX12_32 lkX12_66 dX12_meets_70 rfl ?_
        refine r_iload (np := 75) G hl 4 rfl dX12_meets_73 rfl ?_
        obtain ⟨g21, hm⟩ := g_t hm
        refine r_laload (np := 76) G hM g21 rfl dX12_meets_75 rfl ?_
        refine r_aload_n (np := 77) G hl 0 rfl dX12_meets_76 rfl rfl ?_
        obtain ⟨r22, e23, hm⟩ := ref_t hm
        refine r_getR (np := 80) G hM (shp_lt g0 (by decide)) g0 e23 fdX12_31 lkX12_63 dX12_meets_77 rfl ?_
        refine r_iload_n (np := 81) G hl 1 rfl dX12_meets_80 rfl rfl ?_
        obtain ⟨g24, hm⟩ := g_t hm
        refine r_laload (np := 82) G hM g24 rfl dX12_meets_81 rfl ?_
        obtain ⟨b25, s26, e27, hm⟩ := call_t hm
        refine m_callSL (np := 85) G hM hl.1 [vL v3, vL (s17 r19 (wI v5).toNat), vL (s17 r22 (wI v1).toNat)] (qX12_mulMod l E s17 v3 (s17 r19 (wI v5).toNat) (s17 r22 (wI v1).toNat) _ e27) myX12_mulMod lkX12_358 ⟨Nat.le_of_ble_eq_true rfl, Nat.le_of_ble_eq_true rfl⟩ ⟨Nat.le_of_ble_eq_true rfl, Nat.le_of_ble_eq_true rfl⟩ [vL b16] rfl (Nat.le_of_ble_eq_true rfl) dX12_meets_82 rfl (fun H locs hM => ?_)
        refine r_lsub (np := 86) G dX12_meets_85 rfl ?_
        refine r_aload_n (np := 87) G hl 0 rfl dX12_meets_86 rfl rfl ?_
        obtain ⟨r28, e29, hm⟩ := ref_t hm
        refine r_getR (np := 90) G hM (shp_lt g0 (by decide)) g0 e29 fdX12_31 lkX12_63 dX12_meets_87 rfl ?_
        refine r_iload_n (np := 91) G hl 1 rfl dX12_meets_90 rfl rfl ?_
        obtain ⟨g30, hm⟩ := g_t hm
        refine r_laload (np := 92) G hM g30 rfl dX12_meets_91 rfl ?_
        obtain ⟨b31, s32, e33, hm⟩ := call_t hm
        refine m_callSL (np := 95) G hM hl.1 [vL (b16 - b25), vL (s26 r28 (wI v1).toNat)] (qX12_mod l E s26 (b16 - b25) (s26 r28 (wI v1).toNat) _ e33) myX12_mod lkX12_352 ⟨Nat.le_of_ble_eq_true rfl, Nat.le_of_ble_eq_true rfl⟩ ⟨Nat.le_of_ble_eq_true rfl, Nat.le_of_ble_eq_true rfl⟩ [] rfl (Nat.le_of_ble_eq_true rfl) dX12_meets_92 rfl (fun H locs hM => ?_)
        exact wX12_meets_B95 l E out G hr hk v0 v1 v2 v3 g0 (mX12_meets_L29 v0 v1 v2 v3 x127 n) x127 ih hx127 v5 b31 _ _ _ _ hm hM (lv_sub hl [0, 1, 2, 3, 4] rfl)
      · have hm := b_t h15 hm
        refine r_aload_n (np := 42) G hl 0 rfl dX12_meets_41 rfl rfl ?_
        refine r_iload_n (np := 43) G hl 1 rfl dX12_meets_42 rfl rfl ?_
        refine r_iload_n (np := 44) G hl 2 rfl dX12_meets_43 rfl rfl ?_
        refine r_iload_n (np := 45) G hl 2 rfl dX12_meets_44 rfl rfl ?_
        obtain ⟨b34, s35, e36, hm⟩ := call_t hm
        refine m_callVL (np := 48) G hM hl.1 [vI v1, vI v2, vI v2] (qX12_get l E σ v0 v1 v2 v2 _ e36) myX12_get (shp_lt (gX12_get e36) (by decide)) (gX12_get e36) rfl (by decide) lkX12_355 ⟨Nat.le_of_ble_eq_true rfl, Nat.le_of_ble_eq_true rfl⟩ ⟨Nat.le_of_ble_eq_true rfl, Nat.le_of_ble_eq_true rfl⟩ [] rfl (Nat.le_of_ble_eq_true rfl) dX12_meets_45 rfl (fun H locs hM => ?_)
        refine r_lload_n (np := 49) G hl 3 rfl dX12_meets_48 rfl rfl ?_
        refine r_aload_n (np := 50) G hl 0 rfl dX12_meets_49 rfl rfl ?_
        obtain ⟨r37, e38, hm⟩ := ref_t hm
        refine r_getR (np := 53) G hM (shp_lt g0 (by decide)) g0 e38 fdX12_32 lkX12_66 dX12_meets_50 rfl ?_
        refine r_iload_n (np := 54) G hl 2 rfl dX12_meets_53 rfl rfl ?_
        obtain ⟨g39, hm⟩ := g_t hm
        refine r_laload (np := 55) G hM g39 rfl dX12_meets_54 rfl ?_
        refine r_lmul (np := 56) G dX12_meets_55 rfl ?_
        refine r_lsub (np := 57) G dX12_meets_56 rfl ?_
        refine r_goto (np := 95) G dX12_meets_57 (by decide) ?_
        exact wX12_meets_B95 l E out G hr hk v0 v1 v2 v3 g0 (mX12_meets_L29 v0 v1 v2 v3 x127 n) x127 ih hx127 v5 (b34 - (v3 * (s35 r37 (wI v2).toNat))) _ _ _ _ hm hM (lv_sub hl [0, 1, 2, 3, 4] rfl)
set_option maxRecDepth 100000 in
set_option maxHeartbeats 4000000 in
theorem wX12_meets_L0 (l : Launch) (E : mE) (out : Int × mSt) {p : Program} {e : Env} {s : State} {m : MethodId} {args : Array Value} {below : List Frame} {meth : Method} {c : Code} (G : CallFix p m c cX12_meets 8 s args mTs RX12) (hr : meth.sig.returnType = none) (hk : meth.locks = false) (v0 : Nat) (v1 : Int) (v2 : Int) (g0 : isC v0 11) (x130 : mSt → Option (Int × mSt)) (hx130 : ∀ (σ : mSt) (H : Heap) (locs : List Loc) (ls : Array Slot), x130 σ = some out → mM (mA E 276) E 276 σ s H locs → lv_has ls 8 [] → mGo l p e 2 56 s m args below meth c E none out.2 H locs (F0 m 130 ls [])) : ∀ (n : Nat) (σ : mSt) (H : Heap) (locs : List Loc) (ls : Array Slot), mX12_meets_L0 v0 v1 v2 x130 n σ = some out → mM (mA E 276) E 276 σ s H locs → lv_has ls 8 [(0, .ref (eA E v0)), (1, vI v1), (2, vI v2)] → mGo l p e 2 56 s m args below meth c E none out.2 H locs (F0 m 0 ls []) := by
  intro n
  induction n with
  | zero =>
    intro σ H locs ls hm hM hl
    exact absurd hm (by rw [mX12_meets_L0.eq_1]; exact fun h => nomatch h)
  | succ n ih =>
    intro σ H locs ls hm hM hl
    rw [mX12_meets_L0.eq_2] at hm
    refine r_aload_n (np := 1) G hl 0 rfl dX12_meets_0 rfl rfl ?_
    obtain ⟨r40, e41, hm⟩ := ref_t hm
    refine r_getR (np := 4) G hM (shp_lt g0 (by decide)) g0 e41 fdX12_32 lkX12_66 dX12_meets_1 rfl ?_
    refine r_iload_n (np := 5) G hl 2 rfl dX12_meets_4 rfl rfl ?_
    obtain ⟨g42, hm⟩ := g_t hm
    refine r_laload (np := 6) G hM g42 rfl dX12_meets_5 rfl ?_
    refine r_lconst (np := 7) G 0 dX12_meets_6 rfl rfl ?_
    refine r_lcmp_eq (np := 11) (tgt := 130) G rfl (wLk 0 rfl) dX12_meets_7 dX12_meets_8 (by decide) rfl (fun h43 => ?_) (fun h43 => ?_)
    · have hm := b_t h43 hm
      exact hx130 _ _ _ _ hm hM (lv_sub hl [] rfl)
    · have hm := b_f h43 hm
      refine r_aload_n (np := 12) G hl 0 rfl dX12_meets_11 rfl rfl ?_
      refine r_iload_n (np := 13) G hl 1 rfl dX12_meets_12 rfl rfl ?_
      refine r_iload_n (np := 14) G hl 2 rfl dX12_meets_13 rfl rfl ?_
      refine r_iload_n (np := 15) G hl 2 rfl dX12_meets_14 rfl rfl ?_
      obtain ⟨b44, s45, e46, hm⟩ := call_t hm
      refine m_callVL (np := 18) G hM hl.1 [vI v1, vI v2, vI v2] (qX12_get l E σ v0 v1 v2 v2 _ e46) myX12_get (shp_lt (gX12_get e46) (by decide)) (gX12_get e46) rfl (by decide) lkX12_355 ⟨Nat.le_of_ble_eq_true rfl, Nat.le_of_ble_eq_true rfl⟩ ⟨Nat.le_of_ble_eq_true rfl, Nat.le_of_ble_eq_true rfl⟩ [] rfl (Nat.le_of_ble_eq_true rfl) dX12_meets_15 rfl (fun H locs hM => ?_)
      refine r_aload_n (np := 19) G hl 0 rfl dX12_meets_18 rfl rfl ?_
      obtain ⟨r47, e48, hm⟩ := ref_t hm
      refine r_getR (np := 22) G hM (shp_lt g0 (by decide)) g0 e48 fdX12_32 lkX12_66 dX12_meets_19 rfl ?_
      refine r_iload_n (np := 23) G hl 2 rfl dX12_meets_22 rfl rfl ?_
      obtain ⟨g49, hm⟩ := g_t hm
      refine r_laload (np := 24) G hM g49 rfl dX12_meets_23 rfl ?_
      obtain ⟨g50, hm⟩ := g_t hm
      refine r_ldiv (np := 25) G g50 dX12_meets_24 rfl ?_
      obtain ⟨a51, e52, hm⟩ := bnd_t hm
      refine r_lstore_n (np := 26) G hl e52 [(3, vL a51), (0, .ref (eA E v0)), (1, vI v1), (2, vI v2)] dX12_meets_25 rfl rfl (by decide) rfl (fun ls hl => ?_)
      refine r_iload_n (np := 27) G hl 3 rfl dX12_meets_26 rfl rfl ?_
      refine r_istore (np := 29) G hl rfl [(5, vI v2), (3, vL a51), (0, .ref (eA E v0)), (1, vI v1), (2, vI v2)] dX12_meets_27 rfl (by decide) rfl (fun ls hl => ?_)
      exact wX12_meets_L29 l E out G hr hk v0 v1 v2 a51 g0 (fun zσ => mX12_meets_B127 v0 v1 v2 (mX12_meets_L0 v0 v1 v2 x130 n) x130 zσ) (fun zσ zH zl zs zm zM zv => wX12_meets_B127 l E out G hr hk v0 v1 v2 g0 (mX12_meets_L0 v0 v1 v2 x130 n) x130 ih hx130 zσ zH zl zs zm zM zv) mF v2 _ _ _ _ hm hM (lv_sub hl [2, 3, 4, 1, 0] rfl)
set_option maxRecDepth 100000 in
set_option maxHeartbeats 4000000 in
theorem qX12_meets (l : Launch) (E : mE) (σ : mSt) (v0 : Nat) (v1 : Int) (v2 : Int) (out : Int × mSt) (hm : mX12_meets v0 v1 v2 σ = some out) : mMet l yX12_meets cX12_meets 8 none 2 56 E 276 [.ref (eA E v0), vI v1, vI v2] σ none out.2 := by
  unfold mX12_meets at hm
  obtain ⟨g0, hm⟩ := g_t hm
  refine m_entry (by decide +kernel) (Nat.le_of_ble_eq_true rfl) (fun p e s m args below meth c G hr hk hM ls hl => ?_)
  have G : CallFix p m c cX12_meets 8 s args mTs RX12 := G
  have hl : lv_has ls 8 [(0, .ref (eA E v0)), (1, vI v1), (2, vI v2)] := hl
  exact wX12_meets_L0 l E out G hr hk v0 v1 v2 g0 (fun zσ => mX12_meets_B130 v0 v1 v2 zσ) (fun zσ zH zl zs zm zM zv => wX12_meets_B130 l E out G hr hk v0 v1 v2 g0 zσ zH zl zs zm zM zv) mF _ _ _ _ hm hM (lv_sub hl [0, 1, 2] rfl)
theorem gX12_meets {v0 : Nat} {v1 : Int} {v2 : Int} {σ : mSt} {out : Int × mSt} (hm : mX12_meets v0 v1 v2 σ = some out) : isC v0 11 := (g_t hm).1
set_option maxRecDepth 100000 in
set_option maxHeartbeats 4000000 in
theorem wX12_settles_B132 (l : Launch) (E : mE) (out : Int × mSt) {p : Program} {e : Env} {s : State} {m : MethodId} {args : Array Value} {below : List Frame} {meth : Method} {c : Code} (G : CallFix p m c cX12_settles 7 s args mTs RX12) (hr : meth.sig.returnType = none) (hk : meth.locks = false) (v0 : Nat) (v1 : Int) (g0 : isC v0 11) : ∀ (σ : mSt) (H : Heap) (locs : List Loc) (ls : Array Slot), mX12_settles_B132 v0 v1 σ = some out → mM (mA E 276) E 276 σ s H locs → lv_has ls 7 [] → mGo l p e 2 56 s m args below meth c E none out.2 H locs (F0 m 132 ls []) := by
  intro σ H locs ls hm hM hl
  unfold mX12_settles_B132 at hm
  exact r_vret G hr hk hM hm dX12_settles_132
set_option maxRecDepth 100000 in
set_option maxHeartbeats 4000000 in
theorem wX12_settles_B126 (l : Launch) (E : mE) (out : Int × mSt) {p : Program} {e : Env} {s : State} {m : MethodId} {args : Array Value} {below : List Frame} {meth : Method} {c : Code} (G : CallFix p m c cX12_settles 7 s args mTs RX12) (hr : meth.sig.returnType = none) (hk : meth.locks = false) (v0 : Nat) (v1 : Int) (g0 : isC v0 11) (c2 : Int → mSt → Option (Int × mSt)) (x132 : mSt → Option (Int × mSt)) (hc2 : ∀ (v2 : Int) (σ : mSt) (H : Heap) (locs : List Loc) (ls : Array Slot), c2 v2 σ = some out → mM (mA E 276) E 276 σ s H locs → lv_has ls 7 [(0, .ref (eA E v0)), (1, vI v1), (2, vI v2)] → mGo l p e 2 56 s m args below meth c E none out.2 H locs (F0 m 2 ls [])) (hx132 : ∀ (σ : mSt) (H : Heap) (locs : List Loc) (ls : Array Slot), x132 σ = some out → mM (mA E 276) E 276 σ s H locs → lv_has ls 7 [] → mGo l p e 2 56 s m args below meth c E none out.2 H locs (F0 m 132 ls [])) : ∀ (v2 : Int) (σ : mSt) (H : Heap) (locs : List Loc) (ls : Array Slot), mX12_settles_B126 v0 v1 c2 x132 v2 σ = some out → mM (mA E 276) E 276 σ s H locs → lv_has ls 7 [(0, .ref (eA E v0)), (1, vI v1), (2, vI v2)] → mGo l p e 2 56 s m args below meth c E none out.2 H locs (F0 m 126 ls []) := by
  intro v2 σ H locs ls hm hM hl
  unfold mX12_settles_B126 at hm
  obtain ⟨a1, e2, hm⟩ := bnd_t hm
  refine r_iinc (np := 129) G hl 2 rfl e2 [(2, vI a1), (0, .ref (eA E v0)), (1, vI v1)] dX12_settles_126 rfl (by decide) rfl (fun ls hl => ?_)
  refine r_goto (np := 2) G dX12_settles_129 (by decide) ?_
  exact hc2 a1 _ _ _ _ hm hM (lv_sub hl [1, 2, 0] rfl)
set_option maxRecDepth 100000 in
set_option maxHeartbeats 4000000 in
theorem wX12_settles_B120 (l : Launch) (E : mE) (out : Int × mSt) {p : Program} {e : Env} {s : State} {m : MethodId} {args : Array Value} {below : List Frame} {meth : Method} {c : Code} (G : CallFix p m c cX12_settles 7 s args mTs RX12) (hr : meth.sig.returnType = none) (hk : meth.locks = false) (v0 : Nat) (v1 : Int) (v2 : Int) (g0 : isC v0 11) (c9 : Int → mSt → Option (Int × mSt)) (x126 : mSt → Option (Int × mSt)) (hc9 : ∀ (v3 : Int) (σ : mSt) (H : Heap) (locs : List Loc) (ls : Array Slot), c9 v3 σ = some out → mM (mA E 276) E 276 σ s H locs → lv_has ls 7 [(0, .ref (eA E v0)), (1, vI v1), (2, vI v2), (3, vI v3)] → mGo l p e 2 56 s m args below meth c E none out.2 H locs (F0 m 9 ls [])) (hx126 : ∀ (σ : mSt) (H : Heap) (locs : List Loc) (ls : Array Slot), x126 σ = some out → mM (mA E 276) E 276 σ s H locs → lv_has ls 7 [(0, .ref (eA E v0)), (1, vI v1), (2, vI v2)] → mGo l p e 2 56 s m args below meth c E none out.2 H locs (F0 m 126 ls [])) : ∀ (v3 : Int) (σ : mSt) (H : Heap) (locs : List Loc) (ls : Array Slot), mX12_settles_B120 v0 v1 v2 c9 x126 v3 σ = some out → mM (mA E 276) E 276 σ s H locs → lv_has ls 7 [(0, .ref (eA E v0)), (1, vI v1), (2, vI v2), (3, vI v3)] → mGo l p e 2 56 s m args below meth c E none out.2 H locs (F0 m 120 ls []) := by
  intro v3 σ H locs ls hm hM hl
  unfold mX12_settles_B120 at hm
  obtain ⟨a3, e4, hm⟩ := bnd_t hm
  refine r_iinc (np := 123) G hl 3 rfl e4 [(3, vI a3), (0, .ref (eA E v0)), (1, vI v1), (2, vI v2)] dX12_settles_120 rfl (by decide) rfl (fun ls hl => ?_)
  refine r_goto (np := 9) G dX12_settles_123 (by decide) ?_
  exact hc9 a3 _ _ _ _ hm hM (lv_sub hl [1, 2, 3, 0] rfl)
set_option maxRecDepth 100000 in
set_option maxHeartbeats 4000000 in
theorem wX12_settles_L63 (l : Launch) (E : mE) (out : Int × mSt) {p : Program} {e : Env} {s : State} {m : MethodId} {args : Array Value} {below : List Frame} {meth : Method} {c : Code} (G : CallFix p m c cX12_settles 7 s args mTs RX12) (hr : meth.sig.returnType = none) (hk : meth.locks = false) (v0 : Nat) (v1 : Int) (v2 : Int) (v3 : Int) (v4 : Int) (g0 : isC v0 11) (x120 : mSt → Option (Int × mSt)) (hx120 : ∀ (σ : mSt) (H : Heap) (locs : List Loc) (ls : Array Slot), x120 σ = some out → mM (mA E 276) E 276 σ s H locs → lv_has ls 7 [(0, .ref (eA E v0)), (1, vI v1), (2, vI v2), (3, vI v3)] → mGo l p e 2 56 s m args below meth c E none out.2 H locs (F0 m 120 ls [])) : ∀ (n : Nat) (v6 : Int) (σ : mSt) (H : Heap) (locs : List Loc) (ls : Array Slot), mX12_settles_L63 v0 v1 v2 v3 v4 x120 n v6 σ = some out → mM (mA E 276) E 276 σ s H locs → lv_has ls 7 [(0, .ref (eA E v0)), (1, vI v1), (2, vI v2), (3, vI v3), (4, vL v4), (6, vI v6)] → mGo l p e 2 56 s m args below meth c E none out.2 H locs (F0 m 63 ls []) := by
  intro n
  induction n with
  | zero =>
    intro v6 σ H locs ls hm hM hl
    exact absurd hm (by rw [mX12_settles_L63.eq_1]; exact fun h => nomatch h)
  | succ n ih =>
    intro v6 σ H locs ls hm hM hl
    rw [mX12_settles_L63.eq_2] at hm
    refine r_iload (np := 65) G hl 5 rfl dX12_settles_63 rfl ?_
    refine r_iconst (np := 66) G 4 dX12_settles_65 rfl ?_
    refine r_icmp_ge (np := 69) (tgt := 120) G rfl (wIk 4 rfl) dX12_settles_66 (by decide) rfl (fun h5 => ?_) (fun h5 => ?_)
    · have hm := b_t h5 hm
      exact hx120 _ _ _ _ hm hM (lv_sub hl [0, 1, 2, 3] rfl)
    · have hm := b_f h5 hm
      refine r_aload_n (np := 70) G hl 0 rfl dX12_settles_69 rfl rfl ?_
      refine r_iload_n (np := 71) G hl 1 rfl dX12_settles_70 rfl rfl ?_
      refine r_iload_n (np := 72) G hl 3 rfl dX12_settles_71 rfl rfl ?_
      refine r_iload (np := 74) G hl 5 rfl dX12_settles_72 rfl ?_
      refine r_aload_n (np := 75) G hl 0 rfl dX12_settles_74 rfl rfl ?_
      refine r_iload_n (np := 76) G hl 1 rfl dX12_settles_75 rfl rfl ?_
      refine r_iload_n (np := 77) G hl 3 rfl dX12_settles_76 rfl rfl ?_
      refine r_iload (np := 79) G hl 5 rfl dX12_settles_77 rfl ?_
      obtain ⟨b6, s7, e8, hm⟩ := call_t hm
      refine m_callVL (np := 82) G hM hl.1 [vI v1, vI v3, vI v6] (qX12_get l E σ v0 v1 v3 v6 _ e8) myX12_get (shp_lt (gX12_get e8) (by decide)) (gX12_get e8) rfl (by decide) lkX12_355 ⟨Nat.le_of_ble_eq_true rfl, Nat.le_of_ble_eq_true rfl⟩ ⟨Nat.le_of_ble_eq_true rfl, Nat.le_of_ble_eq_true rfl⟩ [vI v6, vI v3, vI v1, .ref (eA E v0)] rfl (Nat.le_of_ble_eq_true rfl) dX12_settles_79 rfl (fun H locs hM => ?_)
      refine r_lload (np := 84) G hl 4 rfl dX12_settles_82 rfl ?_
      refine r_aload_n (np := 85) G hl 0 rfl dX12_settles_84 rfl rfl ?_
      refine r_iload_n (np := 86) G hl 1 rfl dX12_settles_85 rfl rfl ?_
      refine r_iload_n (np := 87) G hl 2 rfl dX12_settles_86 rfl rfl ?_
      refine r_iload (np := 89) G hl 5 rfl dX12_settles_87 rfl ?_
      obtain ⟨b9, s10, e11, hm⟩ := call_t hm
      refine m_callVL (np := 92) G hM hl.1 [vI v1, vI v2, vI v6] (qX12_get l E s7 v0 v1 v2 v6 _ e11) myX12_get (shp_lt (gX12_get e11) (by decide)) (gX12_get e11) rfl (by decide) lkX12_355 ⟨Nat.le_of_ble_eq_true rfl, Nat.le_of_ble_eq_true rfl⟩ ⟨Nat.le_of_ble_eq_true rfl, Nat.le_of_ble_eq_true rfl⟩ [vL v4, vL b6, vI v6, vI v3, vI v1, .ref (eA E v0)] rfl (Nat.le_of_ble_eq_true rfl) dX12_settles_89 rfl (fun H locs hM => ?_)
      refine r_aload_n (np := 93) G hl 0 rfl dX12_settles_92 rfl rfl ?_
      obtain ⟨r12, e13, hm⟩ := ref_t hm
      refine r_getR (np := 96) G hM (shp_lt g0 (by decide)) g0 e13 fdX12_31 lkX12_63 dX12_settles_93 rfl ?_
      refine r_iload_n (np := 97) G hl 1 rfl dX12_settles_96 rfl rfl ?_
      obtain ⟨g14, hm⟩ := g_t hm
      refine r_laload (np := 98) G hM g14 rfl dX12_settles_97 rfl ?_
      obtain ⟨b15, s16, e17, hm⟩ := call_t hm
      refine m_callSL (np := 101) G hM hl.1 [vL v4, vL b9, vL (s10 r12 (wI v1).toNat)] (qX12_mulMod l E s10 v4 b9 (s10 r12 (wI v1).toNat) _ e17) myX12_mulMod lkX12_358 ⟨Nat.le_of_ble_eq_true rfl, Nat.le_of_ble_eq_true rfl⟩ ⟨Nat.le_of_ble_eq_true rfl, Nat.le_of_ble_eq_true rfl⟩ [vL b6, vI v6, vI v3, vI v1, .ref (eA E v0)] rfl (Nat.le_of_ble_eq_true rfl) dX12_settles_98 rfl (fun H locs hM => ?_)
      refine r_lsub (np := 102) G dX12_settles_101 rfl ?_
      refine r_aload_n (np := 103) G hl 0 rfl dX12_settles_102 rfl rfl ?_
      obtain ⟨r18, e19, hm⟩ := ref_t hm
      refine r_getR (np := 106) G hM (shp_lt g0 (by decide)) g0 e19 fdX12_31 lkX12_63 dX12_settles_103 rfl ?_
      refine r_iload_n (np := 107) G hl 1 rfl dX12_settles_106 rfl rfl ?_
      obtain ⟨g20, hm⟩ := g_t hm
      refine r_laload (np := 108) G hM g20 rfl dX12_settles_107 rfl ?_
      obtain ⟨b21, s22, e23, hm⟩ := call_t hm
      refine m_callSL (np := 111) G hM hl.1 [vL (b6 - b15), vL (s16 r18 (wI v1).toNat)] (qX12_mod l E s16 (b6 - b15) (s16 r18 (wI v1).toNat) _ e23) myX12_mod lkX12_352 ⟨Nat.le_of_ble_eq_true rfl, Nat.le_of_ble_eq_true rfl⟩ ⟨Nat.le_of_ble_eq_true rfl, Nat.le_of_ble_eq_true rfl⟩ [vI v6, vI v3, vI v1, .ref (eA E v0)] rfl (Nat.le_of_ble_eq_true rfl) dX12_settles_108 rfl (fun H locs hM => ?_)
      obtain ⟨b24, s25, e26, hm⟩ := call_t hm
      refine m_callVV (np := 114) G hM hl.1 [vI v1, vI v3, vI v6, vL b21] (qX12_set l E s22 v0 v1 v3 v6 b21 _ e26) myX12_set (shp_lt (gX12_set e26) (by decide)) (gX12_set e26) rfl (by decide) lkX12_348 ⟨Nat.le_of_ble_eq_true rfl, Nat.le_of_ble_eq_true rfl⟩ ⟨Nat.le_of_ble_eq_true rfl, Nat.le_of_ble_eq_true rfl⟩ [] rfl (Nat.le_of_ble_eq_true rfl) dX12_settles_111 rfl (fun H locs hM => ?_)
      obtain ⟨a27, e28, hm⟩ := bnd_t hm
      refine r_iinc (np := 117) G hl 5 rfl e28 [(6, vI a27), (0, .ref (eA E v0)), (1, vI v1), (2, vI v2), (3, vI v3), (4, vL v4)] dX12_settles_114 rfl (by decide) rfl (fun ls hl => ?_)
      refine r_goto (np := 63) G dX12_settles_117 (by decide) ?_
      exact ih a27 _ _ _ _ hm hM (lv_sub hl [1, 2, 3, 4, 5, 0] rfl)
set_option maxRecDepth 100000 in
set_option maxHeartbeats 4000000 in
theorem wX12_settles_L9 (l : Launch) (E : mE) (out : Int × mSt) {p : Program} {e : Env} {s : State} {m : MethodId} {args : Array Value} {below : List Frame} {meth : Method} {c : Code} (G : CallFix p m c cX12_settles 7 s args mTs RX12) (hr : meth.sig.returnType = none) (hk : meth.locks = false) (v0 : Nat) (v1 : Int) (v2 : Int) (g0 : isC v0 11) (x126 : mSt → Option (Int × mSt)) (hx126 : ∀ (σ : mSt) (H : Heap) (locs : List Loc) (ls : Array Slot), x126 σ = some out → mM (mA E 276) E 276 σ s H locs → lv_has ls 7 [(0, .ref (eA E v0)), (1, vI v1), (2, vI v2)] → mGo l p e 2 56 s m args below meth c E none out.2 H locs (F0 m 126 ls [])) : ∀ (n : Nat) (v3 : Int) (σ : mSt) (H : Heap) (locs : List Loc) (ls : Array Slot), mX12_settles_L9 v0 v1 v2 x126 n v3 σ = some out → mM (mA E 276) E 276 σ s H locs → lv_has ls 7 [(0, .ref (eA E v0)), (1, vI v1), (2, vI v2), (3, vI v3)] → mGo l p e 2 56 s m args below meth c E none out.2 H locs (F0 m 9 ls []) := by
  intro n
  induction n with
  | zero =>
    intro v3 σ H locs ls hm hM hl
    exact absurd hm (by rw [mX12_settles_L9.eq_1]; exact fun h => nomatch h)
  | succ n ih =>
    intro v3 σ H locs ls hm hM hl
    rw [mX12_settles_L9.eq_2] at hm
    refine r_iload_n (np := 10) G hl 3 rfl dX12_settles_9 rfl rfl ?_
    refine r_iload_n (np := 11) G hl 2 rfl dX12_settles_10 rfl rfl ?_
    refine r_icmp_ge (np := 14) (tgt := 126) G rfl rfl dX12_settles_11 (by decide) rfl (fun h29 => ?_) (fun h29 => ?_)
    · have hm := b_t h29 hm
      exact hx126 _ _ _ _ hm hM (lv_sub hl [0, 1, 2] rfl)
    · have hm := b_f h29 hm
      refine r_aload_n (np := 15) G hl 0 rfl dX12_settles_14 rfl rfl ?_
      refine r_iload_n (np := 16) G hl 1 rfl dX12_settles_15 rfl rfl ?_
      refine r_iload_n (np := 17) G hl 3 rfl dX12_settles_16 rfl rfl ?_
      refine r_iload_n (np := 18) G hl 2 rfl dX12_settles_17 rfl rfl ?_
      obtain ⟨b30, s31, e32, hm⟩ := call_t hm
      refine m_callVL (np := 21) G hM hl.1 [vI v1, vI v3, vI v2] (qX12_get l E σ v0 v1 v3 v2 _ e32) myX12_get (shp_lt (gX12_get e32) (by decide)) (gX12_get e32) rfl (by decide) lkX12_355 ⟨Nat.le_of_ble_eq_true rfl, Nat.le_of_ble_eq_true rfl⟩ ⟨Nat.le_of_ble_eq_true rfl, Nat.le_of_ble_eq_true rfl⟩ [] rfl (Nat.le_of_ble_eq_true rfl) dX12_settles_18 rfl (fun H locs hM => ?_)
      refine r_aload_n (np := 22) G hl 0 rfl dX12_settles_21 rfl rfl ?_
      refine r_iload_n (np := 23) G hl 1 rfl dX12_settles_22 rfl rfl ?_
      refine r_iload_n (np := 24) G hl 2 rfl dX12_settles_23 rfl rfl ?_
      refine r_iload_n (np := 25) G hl 2 rfl dX12_settles_24 rfl rfl ?_
      obtain ⟨b33, s34, e35, hm⟩ := call_t hm
      refine m_callVL (np := 28) G hM hl.1 [vI v1, vI v2, vI v2] (qX12_get l E s31 v0 v1 v2 v2 _ e35) myX12_get (shp_lt (gX12_get e35) (by decide)) (gX12_get e35) rfl (by decide) lkX12_355 ⟨Nat.le_of_ble_eq_true rfl, Nat.le_of_ble_eq_true rfl⟩ ⟨Nat.le_of_ble_eq_true rfl, Nat.le_of_ble_eq_true rfl⟩ [vL b30] rfl (Nat.le_of_ble_eq_true rfl) dX12_settles_25 rfl (fun H locs hM => ?_)
      obtain ⟨b36, s37, e38, hm⟩ := call_t hm
      refine m_callSL (np := 31) G hM hl.1 [vL b30, vL b33] (qJ9_floorDiv_f86c9 l E s34 b30 b33 _ e38) myJ9_floorDiv_f86c9 lkX12_362 ⟨Nat.le_of_ble_eq_true rfl, Nat.le_of_ble_eq_true rfl⟩ ⟨Nat.le_of_ble_eq_true rfl, Nat.le_of_ble_eq_true rfl⟩ [] rfl (Nat.le_of_ble_eq_true rfl) dX12_settles_28 rfl (fun H locs hM => ?_)
      refine r_lstore (np := 33) G hl rfl [(4, vL b36), (0, .ref (eA E v0)), (1, vI v1), (2, vI v2), (3, vI v3)] dX12_settles_31 rfl (by decide) rfl (fun ls hl => ?_)
      refine r_aload_n (np := 34) G hl 1 rfl dX12_settles_33 rfl rfl ?_
      refine r_iload_n (np := 35) G hl 2 rfl dX12_settles_34 rfl rfl ?_
      refine r_iload_n (np := 36) G hl 4 rfl dX12_settles_35 rfl rfl ?_
      refine r_iload_n (np := 37) G hl 3 rfl dX12_settles_36 rfl rfl ?_
      refine r_aload_n (np := 38) G hl 1 rfl dX12_settles_37 rfl rfl ?_
      refine r_iload_n (np := 39) G hl 2 rfl dX12_settles_38 rfl rfl ?_
      refine r_iload_n (np := 40) G hl 4 rfl dX12_settles_39 rfl rfl ?_
      refine r_iload_n (np := 41) G hl 3 rfl dX12_settles_40 rfl rfl ?_
      obtain ⟨b39, s40, e41, hm⟩ := call_t hm
      refine m_callVL (np := 44) G hM hl.1 [vI v1, vI v3, vI v2] (qX12_get l E s37 v0 v1 v3 v2 _ e41) myX12_get (shp_lt (gX12_get e41) (by decide)) (gX12_get e41) rfl (by decide) lkX12_355 ⟨Nat.le_of_ble_eq_true rfl, Nat.le_of_ble_eq_true rfl⟩ ⟨Nat.le_of_ble_eq_true rfl, Nat.le_of_ble_eq_true rfl⟩ [vI v2, vI v3, vI v1, .ref (eA E v0)] rfl (Nat.le_of_ble_eq_true rfl) dX12_settles_41 rfl (fun H locs hM => ?_)
      refine r_lload (np := 46) G hl 0 rfl dX12_settles_44 rfl ?_
      refine r_aload_n (np := 47) G hl 1 rfl dX12_settles_46 rfl rfl ?_
      refine r_iload_n (np := 48) G hl 2 rfl dX12_settles_47 rfl rfl ?_
      refine r_iload_n (np := 49) G hl 3 rfl dX12_settles_48 rfl rfl ?_
      refine r_iload_n (np := 50) G hl 3 rfl dX12_settles_49 rfl rfl ?_
      obtain ⟨b42, s43, e44, hm⟩ := call_t hm
      refine m_callVL (np := 53) G hM hl.1 [vI v1, vI v2, vI v2] (qX12_get l E s40 v0 v1 v2 v2 _ e44) myX12_get (shp_lt (gX12_get e44) (by decide)) (gX12_get e44) rfl (by decide) lkX12_355 ⟨Nat.le_of_ble_eq_true rfl, Nat.le_of_ble_eq_true rfl⟩ ⟨Nat.le_of_ble_eq_true rfl, Nat.le_of_ble_eq_true rfl⟩ [vL b36, vL b39, vI v2, vI v3, vI v1, .ref (eA E v0)] rfl (Nat.le_of_ble_eq_true rfl) dX12_settles_50 rfl (fun H locs hM => ?_)
      refine r_lmul (np := 54) G dX12_settles_53 rfl ?_
      refine r_lsub (np := 55) G dX12_settles_54 rfl ?_
      obtain ⟨b45, s46, e47, hm⟩ := call_t hm
      refine m_callVV (np := 58) G hM hl.1 [vI v1, vI v3, vI v2, vL (b39 - (b36 * b42))] (qX12_set l E s43 v0 v1 v3 v2 (b39 - (b36 * b42)) _ e47) myX12_set (shp_lt (gX12_set e47) (by decide)) (gX12_set e47) rfl (by decide) lkX12_348 ⟨Nat.le_of_ble_eq_true rfl, Nat.le_of_ble_eq_true rfl⟩ ⟨Nat.le_of_ble_eq_true rfl, Nat.le_of_ble_eq_true rfl⟩ [] rfl (Nat.le_of_ble_eq_true rfl) dX12_settles_55 rfl (fun H locs hM => ?_)
      refine r_iload_n (np := 59) G hl 3 rfl dX12_settles_58 rfl rfl ?_
      refine r_iconst (np := 60) G 1 dX12_settles_59 rfl ?_
      refine r_iadd (np := 61) G dX12_settles_60 rfl ?_
      obtain ⟨a48, e49, hm⟩ := bnd_t hm
      refine r_istore (np := 63) G hl e49 [(6, vI a48), (4, vL b36), (0, .ref (eA E v0)), (1, vI v1), (2, vI v2), (3, vI v3)] dX12_settles_61 rfl (by decide) rfl (fun ls hl => ?_)
      exact wX12_settles_L63 l E out G hr hk v0 v1 v2 v3 b36 g0 (fun zσ => mX12_settles_B120 v0 v1 v2 (mX12_settles_L9 v0 v1 v2 x126 n) x126 v3 zσ) (fun zσ zH zl zs zm zM zv => wX12_settles_B120 l E out G hr hk v0 v1 v2 g0 (mX12_settles_L9 v0 v1 v2 x126 n) x126 ih hx126 v3 zσ zH zl zs zm zM zv) mF a48 _ _ _ _ hm hM (lv_sub hl [2, 3, 4, 5, 1, 0] rfl)
set_option maxRecDepth 100000 in
set_option maxHeartbeats 4000000 in
theorem wX12_settles_L2 (l : Launch) (E : mE) (out : Int × mSt) {p : Program} {e : Env} {s : State} {m : MethodId} {args : Array Value} {below : List Frame} {meth : Method} {c : Code} (G : CallFix p m c cX12_settles 7 s args mTs RX12) (hr : meth.sig.returnType = none) (hk : meth.locks = false) (v0 : Nat) (v1 : Int) (g0 : isC v0 11) (x132 : mSt → Option (Int × mSt)) (hx132 : ∀ (σ : mSt) (H : Heap) (locs : List Loc) (ls : Array Slot), x132 σ = some out → mM (mA E 276) E 276 σ s H locs → lv_has ls 7 [] → mGo l p e 2 56 s m args below meth c E none out.2 H locs (F0 m 132 ls [])) : ∀ (n : Nat) (v2 : Int) (σ : mSt) (H : Heap) (locs : List Loc) (ls : Array Slot), mX12_settles_L2 v0 v1 x132 n v2 σ = some out → mM (mA E 276) E 276 σ s H locs → lv_has ls 7 [(0, .ref (eA E v0)), (1, vI v1), (2, vI v2)] → mGo l p e 2 56 s m args below meth c E none out.2 H locs (F0 m 2 ls []) := by
  intro n
  induction n with
  | zero =>
    intro v2 σ H locs ls hm hM hl
    exact absurd hm (by rw [mX12_settles_L2.eq_1]; exact fun h => nomatch h)
  | succ n ih =>
    intro v2 σ H locs ls hm hM hl
    rw [mX12_settles_L2.eq_2] at hm
    refine r_iload_n (np := 3) G hl 2 rfl dX12_settles_2 rfl rfl ?_
    refine r_iconst (np := 4) G 4 dX12_settles_3 rfl ?_
    refine r_icmp_ge (np := 7) (tgt := 132) G rfl (wIk 4 rfl) dX12_settles_4 (by decide) rfl (fun h50 => ?_) (fun h50 => ?_)
    · have hm := b_t h50 hm
      exact hx132 _ _ _ _ hm hM (lv_sub hl [] rfl)
    · have hm := b_f h50 hm
      refine r_iconst (np := 8) G 0 dX12_settles_7 rfl ?_
      refine r_istore_n (np := 9) G hl rfl [(3, vI 0), (0, .ref (eA E v0)), (1, vI v1), (2, vI v2)] dX12_settles_8 rfl rfl (by decide) rfl (fun ls hl => ?_)
      exact wX12_settles_L9 l E out G hr hk v0 v1 v2 g0 (fun zσ => mX12_settles_B126 v0 v1 (mX12_settles_L2 v0 v1 x132 n) x132 v2 zσ) (fun zσ zH zl zs zm zM zv => wX12_settles_B126 l E out G hr hk v0 v1 g0 (mX12_settles_L2 v0 v1 x132 n) x132 ih hx132 v2 zσ zH zl zs zm zM zv) mF 0 _ _ _ _ hm hM (lv_sub hl [1, 2, 3, 0] rfl)
set_option maxRecDepth 100000 in
set_option maxHeartbeats 4000000 in
theorem qX12_settles (l : Launch) (E : mE) (σ : mSt) (v0 : Nat) (v1 : Int) (out : Int × mSt) (hm : mX12_settles v0 v1 σ = some out) : mMet l yX12_settles cX12_settles 7 none 2 56 E 276 [.ref (eA E v0), vI v1] σ none out.2 := by
  unfold mX12_settles at hm
  obtain ⟨g0, hm⟩ := g_t hm
  refine m_entry (by decide +kernel) (Nat.le_of_ble_eq_true rfl) (fun p e s m args below meth c G hr hk hM ls hl => ?_)
  have G : CallFix p m c cX12_settles 7 s args mTs RX12 := G
  have hl : lv_has ls 7 [(0, .ref (eA E v0)), (1, vI v1)] := hl
  refine r_iconst (np := 1) G 1 dX12_settles_0 rfl ?_
  refine r_istore_n (np := 2) G hl rfl [(2, vI 1), (0, .ref (eA E v0)), (1, vI v1)] dX12_settles_1 rfl rfl (by decide) rfl (fun ls hl => ?_)
  exact wX12_settles_L2 l E out G hr hk v0 v1 g0 (fun zσ => mX12_settles_B132 v0 v1 zσ) (fun zσ zH zl zs zm zM zv => wX12_settles_B132 l E out G hr hk v0 v1 g0 zσ zH zl zs zm zM zv) mF 1 _ _ _ _ hm hM (lv_sub hl [1, 2, 0] rfl)
theorem gX12_settles {v0 : Nat} {v1 : Int} {σ : mSt} {out : Int × mSt} (hm : mX12_settles v0 v1 σ = some out) : isC v0 11 := (g_t hm).1
set_option maxRecDepth 100000 in
set_option maxHeartbeats 4000000 in
theorem wX12_puts__B150 (l : Launch) (E : mE) (out : Int × mSt) {p : Program} {e : Env} {s : State} {m : MethodId} {args : Array Value} {below : List Frame} {meth : Method} {c : Code} (G : CallFix p m c cX12_puts_ 10 s args mTs RX12) (hr : meth.sig.returnType = (some .boolean)) (hk : meth.locks = false) (v0 : Nat) (v1 : Int) (v2 : Int) (g0 : isC v0 11) : ∀ (v6 : Int) (σ : mSt) (H : Heap) (locs : List Loc) (ls : Array Slot), mX12_puts__B150 v0 v1 v2 v6 σ = some out → mM (mA E 276) E 276 σ s H locs → lv_has ls 10 [(0, .ref (eA E v0)), (1, vI v1), (6, vI v6)] → mGo l p e 3 83 s m args below meth c E (some (vI out.1)) out.2 H locs (F0 m 150 ls []) := by
  intro v6 σ H locs ls hm hM hl
  unfold mX12_puts__B150 at hm
  refine r_aload_n (np := 151) G hl 0 rfl dX12_puts__150 rfl rfl ?_
  refine r_iload_n (np := 152) G hl 1 rfl dX12_puts__151 rfl rfl ?_
  obtain ⟨b1, s2, e3, hm⟩ := call_t hm
  refine m_callVV (np := 155) G hM hl.1 [vI v1] (qX12_settles l E σ v0 v1 _ e3) myX12_settles (shp_lt (gX12_settles e3) (by decide)) (gX12_settles e3) rfl (by decide) lkX12_374 ⟨Nat.le_of_ble_eq_true rfl, Nat.le_of_ble_eq_true rfl⟩ ⟨Nat.le_of_ble_eq_true rfl, Nat.le_of_ble_eq_true rfl⟩ [] rfl (Nat.le_of_ble_eq_true rfl) dX12_puts__152 rfl (fun H locs hM => ?_)
  refine r_iload (np := 157) G hl 2 rfl dX12_puts__155 rfl ?_
  obtain ⟨g4, hm⟩ := g_t hm
  exact r_zret G hr hk hM g4 hm dX12_puts__157
set_option maxRecDepth 100000 in
set_option maxHeartbeats 4000000 in
theorem wX12_puts__L95 (l : Launch) (E : mE) (out : Int × mSt) {p : Program} {e : Env} {s : State} {m : MethodId} {args : Array Value} {below : List Frame} {meth : Method} {c : Code} (G : CallFix p m c cX12_puts_ 10 s args mTs RX12) (hr : meth.sig.returnType = (some .boolean)) (hk : meth.locks = false) (v0 : Nat) (v1 : Int) (v2 : Int) (g0 : isC v0 11) (x150 : Int → mSt → Option (Int × mSt)) (hx150 : ∀ (v6 : Int) (σ : mSt) (H : Heap) (locs : List Loc) (ls : Array Slot), x150 v6 σ = some out → mM (mA E 276) E 276 σ s H locs → lv_has ls 10 [(0, .ref (eA E v0)), (1, vI v1), (6, vI v6)] → mGo l p e 3 83 s m args below meth c E (some (vI out.1)) out.2 H locs (F0 m 150 ls [])) : ∀ (n : Nat) (v6 : Int) (v7 : Int) (σ : mSt) (H : Heap) (locs : List Loc) (ls : Array Slot), mX12_puts__L95 v0 v1 v2 x150 n v6 v7 σ = some out → mM (mA E 276) E 276 σ s H locs → lv_has ls 10 [(0, .ref (eA E v0)), (1, vI v1), (6, vI v6), (7, vI v7)] → mGo l p e 3 83 s m args below meth c E (some (vI out.1)) out.2 H locs (F0 m 95 ls []) := by
  intro n
  induction n with
  | zero =>
    intro v6 v7 σ H locs ls hm hM hl
    exact absurd hm (by rw [mX12_puts__L95.eq_1]; exact fun h => nomatch h)
  | succ n ih =>
    intro v6 v7 σ H locs ls hm hM hl
    rw [mX12_puts__L95.eq_2] at hm
    refine r_iload (np := 97) G hl 3 rfl dX12_puts__95 rfl ?_
    refine r_iconst (np := 98) G 4 dX12_puts__97 rfl ?_
    refine r_icmp_ge (np := 101) (tgt := 150) G rfl (wIk 4 rfl) dX12_puts__98 (by decide) rfl (fun h5 => ?_) (fun h5 => ?_)
    · have hm := b_t h5 hm
      exact hx150 v6 _ _ _ _ hm hM (lv_sub hl [0, 1, 2] rfl)
    · have hm := b_f h5 hm
      refine r_aload_n (np := 102) G hl 0 rfl dX12_puts__101 rfl rfl ?_
      refine r_iload_n (np := 103) G hl 1 rfl dX12_puts__102 rfl rfl ?_
      refine r_iload (np := 105) G hl 3 rfl dX12_puts__103 rfl ?_
      refine r_iload (np := 107) G hl 3 rfl dX12_puts__105 rfl ?_
      obtain ⟨b6, s7, e8, hm⟩ := call_t hm
      refine m_callVL (np := 110) G hM hl.1 [vI v1, vI v7, vI v7] (qX12_get l E σ v0 v1 v7 v7 _ e8) myX12_get (shp_lt (gX12_get e8) (by decide)) (gX12_get e8) rfl (by decide) lkX12_355 ⟨Nat.le_of_ble_eq_true rfl, Nat.le_of_ble_eq_true rfl⟩ ⟨Nat.le_of_ble_eq_true rfl, Nat.le_of_ble_eq_true rfl⟩ [] rfl (Nat.le_of_ble_eq_true rfl) dX12_puts__107 rfl (fun H locs hM => ?_)
      refine r_lstore (np := 112) G hl rfl [(8, vL b6), (0, .ref (eA E v0)), (1, vI v1), (6, vI v6), (7, vI v7)] dX12_puts__110 rfl (by decide) rfl (fun ls hl => ?_)
      refine r_aload_n (np := 113) G hl 1 rfl dX12_puts__112 rfl rfl ?_
      refine r_iload_n (np := 114) G hl 2 rfl dX12_puts__113 rfl rfl ?_
      refine r_iload (np := 116) G hl 4 rfl dX12_puts__114 rfl ?_
      obtain ⟨b9, s10, e11, hm⟩ := call_t hm
      refine m_callVV (np := 119) G hM hl.1 [vI v1, vI v7] (qX12_meets l E s7 v0 v1 v7 _ e11) myX12_meets (shp_lt (gX12_meets e11) (by decide)) (gX12_meets e11) rfl (by decide) lkX12_370 ⟨Nat.le_of_ble_eq_true rfl, Nat.le_of_ble_eq_true rfl⟩ ⟨Nat.le_of_ble_eq_true rfl, Nat.le_of_ble_eq_true rfl⟩ [] rfl (Nat.le_of_ble_eq_true rfl) dX12_puts__116 rfl (fun H locs hM => ?_)
      refine r_iload (np := 121) G hl 3 rfl dX12_puts__119 rfl ?_
      refine r_aload_n (np := 122) G hl 1 rfl dX12_puts__121 rfl rfl ?_
      refine r_iload_n (np := 123) G hl 2 rfl dX12_puts__122 rfl rfl ?_
      refine r_iload (np := 125) G hl 4 rfl dX12_puts__123 rfl ?_
      refine r_iload (np := 127) G hl 4 rfl dX12_puts__125 rfl ?_
      obtain ⟨b12, s13, e14, hm⟩ := call_t hm
      refine m_callVL (np := 130) G hM hl.1 [vI v1, vI v7, vI v7] (qX12_get l E s10 v0 v1 v7 v7 _ e14) myX12_get (shp_lt (gX12_get e14) (by decide)) (gX12_get e14) rfl (by decide) lkX12_355 ⟨Nat.le_of_ble_eq_true rfl, Nat.le_of_ble_eq_true rfl⟩ ⟨Nat.le_of_ble_eq_true rfl, Nat.le_of_ble_eq_true rfl⟩ [vI v6] rfl (Nat.le_of_ble_eq_true rfl) dX12_puts__127 rfl (fun H locs hM => ?_)
      refine r_lload (np := 132) G hl 0 rfl dX12_puts__130 rfl ?_
      refine r_lcmp_eq (np := 136) (tgt := 140) G rfl rfl dX12_puts__132 dX12_puts__133 (by decide) rfl (fun h15 => ?_) (fun h15 => ?_)
      · have hm := b_t h15 hm
        refine r_iconst (np := 141) G 0 dX12_puts__140 rfl ?_
        refine r_ior (np := 142) G dX12_puts__141 rfl ?_
        obtain ⟨a16, e17, hm⟩ := bnd_t hm
        refine r_istore (np := 144) G hl e17 [(6, vI a16), (8, vL b6), (0, .ref (eA E v0)), (1, vI v1), (7, vI v7)] dX12_puts__142 rfl (by decide) rfl (fun ls hl => ?_)
        obtain ⟨a18, e19, hm⟩ := bnd_t hm
        refine r_iinc (np := 147) G hl 4 rfl e19 [(7, vI a18), (6, vI a16), (8, vL b6), (0, .ref (eA E v0)), (1, vI v1)] dX12_puts__144 rfl (by decide) rfl (fun ls hl => ?_)
        refine r_goto (np := 95) G dX12_puts__147 (by decide) ?_
        exact ih a16 a18 _ _ _ _ hm hM (lv_sub hl [3, 4, 1, 0] rfl)
      · have hm := b_f h15 hm
        refine r_iconst (np := 137) G 1 dX12_puts__136 rfl ?_
        refine r_goto (np := 141) G dX12_puts__137 (by decide) ?_
        refine r_ior (np := 142) G dX12_puts__141 rfl ?_
        obtain ⟨a20, e21, hm⟩ := bnd_t hm
        refine r_istore (np := 144) G hl e21 [(6, vI a20), (8, vL b6), (0, .ref (eA E v0)), (1, vI v1), (7, vI v7)] dX12_puts__142 rfl (by decide) rfl (fun ls hl => ?_)
        obtain ⟨a22, e23, hm⟩ := bnd_t hm
        refine r_iinc (np := 147) G hl 4 rfl e23 [(7, vI a22), (6, vI a20), (8, vL b6), (0, .ref (eA E v0)), (1, vI v1)] dX12_puts__144 rfl (by decide) rfl (fun ls hl => ?_)
        refine r_goto (np := 95) G dX12_puts__147 (by decide) ?_
        exact ih a20 a22 _ _ _ _ hm hM (lv_sub hl [3, 4, 1, 0] rfl)
set_option maxRecDepth 100000 in
set_option maxHeartbeats 4000000 in
theorem wX12_puts__B89 (l : Launch) (E : mE) (out : Int × mSt) {p : Program} {e : Env} {s : State} {m : MethodId} {args : Array Value} {below : List Frame} {meth : Method} {c : Code} (G : CallFix p m c cX12_puts_ 10 s args mTs RX12) (hr : meth.sig.returnType = (some .boolean)) (hk : meth.locks = false) (v0 : Nat) (v1 : Int) (v2 : Int) (g0 : isC v0 11) : ∀ (σ : mSt) (H : Heap) (locs : List Loc) (ls : Array Slot), mX12_puts__B89 v0 v1 v2 σ = some out → mM (mA E 276) E 276 σ s H locs → lv_has ls 10 [(0, .ref (eA E v0)), (1, vI v1)] → mGo l p e 3 83 s m args below meth c E (some (vI out.1)) out.2 H locs (F0 m 89 ls []) := by
  intro σ H locs ls hm hM hl
  unfold mX12_puts__B89 at hm
  refine r_iconst (np := 90) G 0 dX12_puts__89 rfl ?_
  refine r_istore (np := 92) G hl rfl [(6, vI 0), (0, .ref (eA E v0)), (1, vI v1)] dX12_puts__90 rfl (by decide) rfl (fun ls hl => ?_)
  refine r_iconst (np := 93) G 0 dX12_puts__92 rfl ?_
  refine r_istore (np := 95) G hl rfl [(7, vI 0), (6, vI 0), (0, .ref (eA E v0)), (1, vI v1)] dX12_puts__93 rfl (by decide) rfl (fun ls hl => ?_)
  exact wX12_puts__L95 l E out G hr hk v0 v1 v2 g0 (fun z6 zσ => mX12_puts__B150 v0 v1 v2 z6 zσ) (fun z6 zσ zH zl zs zm zM zv => wX12_puts__B150 l E out G hr hk v0 v1 v2 g0 z6 zσ zH zl zs zm zM zv) mF 0 0 _ _ _ _ hm hM (lv_sub hl [2, 3, 1, 0] rfl)
set_option maxRecDepth 100000 in
set_option maxHeartbeats 4000000 in
theorem wX12_puts__L50 (l : Launch) (E : mE) (out : Int × mSt) {p : Program} {e : Env} {s : State} {m : MethodId} {args : Array Value} {below : List Frame} {meth : Method} {c : Code} (G : CallFix p m c cX12_puts_ 10 s args mTs RX12) (hr : meth.sig.returnType = (some .boolean)) (hk : meth.locks = false) (v0 : Nat) (v1 : Int) (v2 : Int) (v4 : Int) (g0 : isC v0 11) (x89 : mSt → Option (Int × mSt)) (hx89 : ∀ (σ : mSt) (H : Heap) (locs : List Loc) (ls : Array Slot), x89 σ = some out → mM (mA E 276) E 276 σ s H locs → lv_has ls 10 [(0, .ref (eA E v0)), (1, vI v1)] → mGo l p e 3 83 s m args below meth c E (some (vI out.1)) out.2 H locs (F0 m 89 ls [])) : ∀ (n : Nat) (v6 : Int) (σ : mSt) (H : Heap) (locs : List Loc) (ls : Array Slot), mX12_puts__L50 v0 v1 v2 v4 x89 n v6 σ = some out → mM (mA E 276) E 276 σ s H locs → lv_has ls 10 [(0, .ref (eA E v0)), (1, vI v1), (2, vL v2), (4, vL v4), (6, vI v6)] → mGo l p e 3 83 s m args below meth c E (some (vI out.1)) out.2 H locs (F0 m 50 ls []) := by
  intro n
  induction n with
  | zero =>
    intro v6 σ H locs ls hm hM hl
    exact absurd hm (by rw [mX12_puts__L50.eq_1]; exact fun h => nomatch h)
  | succ n ih =>
    intro v6 σ H locs ls hm hM hl
    rw [mX12_puts__L50.eq_2] at hm
    refine r_iload (np := 52) G hl 4 rfl dX12_puts__50 rfl ?_
    refine r_iconst (np := 53) G 4 dX12_puts__52 rfl ?_
    refine r_icmp_ge (np := 56) (tgt := 89) G rfl (wIk 4 rfl) dX12_puts__53 (by decide) rfl (fun h24 => ?_) (fun h24 => ?_)
    · have hm := b_t h24 hm
      exact hx89 _ _ _ _ hm hM (lv_sub hl [0, 1] rfl)
    · have hm := b_f h24 hm
      refine r_aload_n (np := 57) G hl 0 rfl dX12_puts__56 rfl rfl ?_
      obtain ⟨r25, e26, hm⟩ := ref_t hm
      refine r_getR (np := 60) G hM (shp_lt g0 (by decide)) g0 e26 fdX12_32 lkX12_66 dX12_puts__57 rfl ?_
      refine r_iload (np := 62) G hl 4 rfl dX12_puts__60 rfl ?_
      refine r_aload_n (np := 63) G hl 0 rfl dX12_puts__62 rfl rfl ?_
      obtain ⟨r27, e28, hm⟩ := ref_t hm
      refine r_getR (np := 66) G hM (shp_lt g0 (by decide)) g0 e28 fdX12_32 lkX12_66 dX12_puts__63 rfl ?_
      refine r_iload (np := 68) G hl 4 rfl dX12_puts__66 rfl ?_
      obtain ⟨g29, hm⟩ := g_t hm
      refine r_laload (np := 69) G hM g29 rfl dX12_puts__68 rfl ?_
      refine r_lload (np := 71) G hl 3 rfl dX12_puts__69 rfl ?_
      refine r_lload_n (np := 72) G hl 2 rfl dX12_puts__71 rfl rfl ?_
      obtain ⟨g30, hm⟩ := g_t hm
      refine r_ldiv (np := 73) G g30 dX12_puts__72 rfl ?_
      refine r_aload_n (np := 74) G hl 0 rfl dX12_puts__73 rfl rfl ?_
      obtain ⟨r31, e32, hm⟩ := ref_t hm
      refine r_getR (np := 77) G hM (shp_lt g0 (by decide)) g0 e32 fdX12_31 lkX12_63 dX12_puts__74 rfl ?_
      refine r_iload_n (np := 78) G hl 1 rfl dX12_puts__77 rfl rfl ?_
      obtain ⟨g33, hm⟩ := g_t hm
      refine r_laload (np := 79) G hM g33 rfl dX12_puts__78 rfl ?_
      obtain ⟨b34, s35, e36, hm⟩ := call_t hm
      refine m_callSL (np := 82) G hM hl.1 [vL (σ r27 (wI v6).toNat), vL ((wL v4).tdiv (wL v2)), vL (σ r31 (wI v1).toNat)] (qX12_mulMod l E σ (σ r27 (wI v6).toNat) ((wL v4).tdiv (wL v2)) (σ r31 (wI v1).toNat) _ e36) myX12_mulMod lkX12_358 ⟨Nat.le_of_ble_eq_true rfl, Nat.le_of_ble_eq_true rfl⟩ ⟨Nat.le_of_ble_eq_true rfl, Nat.le_of_ble_eq_true rfl⟩ [vI v6, .ref (eA E r25)] rfl (Nat.le_of_ble_eq_true rfl) dX12_puts__79 rfl (fun H locs hM => ?_)
      obtain ⟨g37, hm⟩ := g_t hm
      obtain ⟨s38, e39, hm⟩ := bnd_t hm
      refine r_lastore (np := 83) G hM g37 rfl s38 e39 dX12_puts__82 rfl (fun H locs hM => ?_)
      obtain ⟨a40, e41, hm⟩ := bnd_t hm
      refine r_iinc (np := 86) G hl 4 rfl e41 [(6, vI a40), (0, .ref (eA E v0)), (1, vI v1), (2, vL v2), (4, vL v4)] dX12_puts__83 rfl (by decide) rfl (fun ls hl => ?_)
      refine r_goto (np := 50) G dX12_puts__86 (by decide) ?_
      exact ih a40 _ _ _ _ hm hM (lv_sub hl [1, 2, 3, 4, 0] rfl)
set_option maxRecDepth 100000 in
set_option maxHeartbeats 4000000 in
theorem wX12_puts__B47 (l : Launch) (E : mE) (out : Int × mSt) {p : Program} {e : Env} {s : State} {m : MethodId} {args : Array Value} {below : List Frame} {meth : Method} {c : Code} (G : CallFix p m c cX12_puts_ 10 s args mTs RX12) (hr : meth.sig.returnType = (some .boolean)) (hk : meth.locks = false) (v0 : Nat) (v1 : Int) (v2 : Int) (g0 : isC v0 11) : ∀ (v4 : Int) (σ : mSt) (H : Heap) (locs : List Loc) (ls : Array Slot), mX12_puts__B47 v0 v1 v2 v4 σ = some out → mM (mA E 276) E 276 σ s H locs → lv_has ls 10 [(0, .ref (eA E v0)), (1, vI v1), (2, vL v2), (4, vL v4)] → mGo l p e 3 83 s m args below meth c E (some (vI out.1)) out.2 H locs (F0 m 47 ls []) := by
  intro v4 σ H locs ls hm hM hl
  unfold mX12_puts__B47 at hm
  refine r_iconst (np := 48) G 0 dX12_puts__47 rfl ?_
  refine r_istore (np := 50) G hl rfl [(6, vI 0), (0, .ref (eA E v0)), (1, vI v1), (2, vL v2), (4, vL v4)] dX12_puts__48 rfl (by decide) rfl (fun ls hl => ?_)
  exact wX12_puts__L50 l E out G hr hk v0 v1 v2 v4 g0 (fun zσ => mX12_puts__B89 v0 v1 v2 zσ) (fun zσ zH zl zs zm zM zv => wX12_puts__B89 l E out G hr hk v0 v1 v2 g0 zσ zH zl zs zm zM zv) mF 0 _ _ _ _ hm hM (lv_sub hl [1, 2, 3, 4, 0] rfl)
set_option maxRecDepth 100000 in
set_option maxHeartbeats 4000000 in
theorem qX12_puts_ (l : Launch) (E : mE) (σ : mSt) (v0 : Nat) (v1 : Int) (v2 : Int) (out : Int × mSt) (hm : mX12_puts_ v0 v1 v2 σ = some out) : mMet l yX12_puts_ cX12_puts_ 10 (some .boolean) 3 83 E 276 [.ref (eA E v0), vI v1, vL v2] σ (some (vI out.1)) out.2 := by
  unfold mX12_puts_ at hm
  obtain ⟨g0, hm⟩ := g_t hm
  refine m_entry (by decide +kernel) (Nat.le_of_ble_eq_true rfl) (fun p e s m args below meth c G hr hk hM ls hl => ?_)
  have G : CallFix p m c cX12_puts_ 10 s args mTs RX12 := G
  have hl : lv_has ls 10 [(0, .ref (eA E v0)), (1, vI v1), (2, vL v2)] := hl
  refine r_aload_n (np := 1) G hl 0 rfl dX12_puts__0 rfl rfl ?_
  obtain ⟨r42, e43, hm⟩ := ref_t hm
  refine r_getR (np := 4) G hM (shp_lt g0 (by decide)) g0 e43 fdX12_30 lkX12_60 dX12_puts__1 rfl ?_
  refine r_iload_n (np := 5) G hl 1 rfl dX12_puts__4 rfl rfl ?_
  obtain ⟨g44, hm⟩ := g_t hm
  refine r_laload (np := 6) G hM g44 rfl dX12_puts__5 rfl ?_
  refine r_aload_n (np := 7) G hl 0 rfl dX12_puts__6 rfl rfl ?_
  obtain ⟨r45, e46, hm⟩ := ref_t hm
  refine r_getR (np := 10) G hM (shp_lt g0 (by decide)) g0 e46 fdX12_30 lkX12_60 dX12_puts__7 rfl ?_
  refine r_iload_n (np := 11) G hl 1 rfl dX12_puts__10 rfl rfl ?_
  obtain ⟨g47, hm⟩ := g_t hm
  refine r_laload (np := 12) G hM g47 rfl dX12_puts__11 rfl ?_
  refine r_lload_n (np := 13) G hl 2 rfl dX12_puts__12 rfl rfl ?_
  obtain ⟨b48, s49, e50, hm⟩ := call_t hm
  refine m_callSL (np := 16) G hM hl.1 [vL (σ r45 (wI v1).toNat), vL v2] (qX12_common l E σ (σ r45 (wI v1).toNat) v2 _ e50) myX12_common lkX12_280 ⟨Nat.le_of_ble_eq_true rfl, Nat.le_of_ble_eq_true rfl⟩ ⟨Nat.le_of_ble_eq_true rfl, Nat.le_of_ble_eq_true rfl⟩ [vL (σ r42 (wI v1).toNat)] rfl (Nat.le_of_ble_eq_true rfl) dX12_puts__13 rfl (fun H locs hM => ?_)
  obtain ⟨g51, hm⟩ := g_t hm
  refine r_ldiv (np := 17) G g51 dX12_puts__16 rfl ?_
  refine r_lload_n (np := 18) G hl 2 rfl dX12_puts__17 rfl rfl ?_
  refine r_lmul (np := 19) G dX12_puts__18 rfl ?_
  obtain ⟨a52, e53, hm⟩ := bnd_t hm
  refine r_lstore (np := 21) G hl e53 [(4, vL a52), (0, .ref (eA E v0)), (1, vI v1), (2, vL v2)] dX12_puts__19 rfl (by decide) rfl (fun ls hl => ?_)
  refine r_lload (np := 23) G hl 0 rfl dX12_puts__21 rfl ?_
  refine r_aload_n (np := 24) G hl 1 rfl dX12_puts__23 rfl rfl ?_
  obtain ⟨r54, e55, hm⟩ := ref_t hm
  refine r_getR (np := 27) G hM (shp_lt g0 (by decide)) g0 e55 fdX12_30 lkX12_60 dX12_puts__24 rfl ?_
  refine r_iload_n (np := 28) G hl 2 rfl dX12_puts__27 rfl rfl ?_
  obtain ⟨g56, hm⟩ := g_t hm
  refine r_laload (np := 29) G hM g56 rfl dX12_puts__28 rfl ?_
  refine r_lcmp_eq (np := 33) (tgt := 47) G rfl rfl dX12_puts__29 dX12_puts__30 (by decide) rfl (fun h57 => ?_) (fun h57 => ?_)
  · have hm := b_t h57 hm
    exact wX12_puts__B47 l E out G hr hk v0 v1 v2 g0 a52 _ _ _ _ hm hM (lv_sub hl [1, 2, 3, 0] rfl)
  · have hm := b_f h57 hm
    refine r_aload_n (np := 34) G hl 1 rfl dX12_puts__33 rfl rfl ?_
    refine r_iload_n (np := 35) G hl 2 rfl dX12_puts__34 rfl rfl ?_
    refine r_lload (np := 37) G hl 0 rfl dX12_puts__35 rfl ?_
    refine r_aload_n (np := 38) G hl 1 rfl dX12_puts__37 rfl rfl ?_
    obtain ⟨r58, e59, hm⟩ := ref_t hm
    refine r_getR (np := 41) G hM (shp_lt g0 (by decide)) g0 e59 fdX12_30 lkX12_60 dX12_puts__38 rfl ?_
    refine r_iload_n (np := 42) G hl 2 rfl dX12_puts__41 rfl rfl ?_
    obtain ⟨g60, hm⟩ := g_t hm
    refine r_laload (np := 43) G hM g60 rfl dX12_puts__42 rfl ?_
    obtain ⟨g61, hm⟩ := g_t hm
    refine r_ldiv (np := 44) G g61 dX12_puts__43 rfl ?_
    obtain ⟨b62, s63, e64, hm⟩ := call_t hm
    refine m_callVV (np := 47) G hM hl.1 [vI v1, vL ((wL a52).tdiv (wL (s49 r58 (wI v1).toNat)))] (qX12_scales l E s49 v0 v1 ((wL a52).tdiv (wL (s49 r58 (wI v1).toNat))) _ e64) myX12_scales (shp_lt (gX12_scales e64) (by decide)) (gX12_scales e64) rfl (by decide) lkX12_367 ⟨Nat.le_of_ble_eq_true rfl, Nat.le_of_ble_eq_true rfl⟩ ⟨Nat.le_of_ble_eq_true rfl, Nat.le_of_ble_eq_true rfl⟩ [] rfl (Nat.le_of_ble_eq_true rfl) dX12_puts__44 rfl (fun H locs hM => ?_)
    exact wX12_puts__B47 l E out G hr hk v0 v1 v2 g0 a52 _ _ _ _ hm hM (lv_sub hl [1, 2, 3, 0] rfl)
theorem gX12_puts_ {v0 : Nat} {v1 : Int} {v2 : Int} {σ : mSt} {out : Int × mSt} (hm : mX12_puts_ v0 v1 v2 σ = some out) : isC v0 11 := (g_t hm).1
set_option maxRecDepth 100000 in
set_option maxHeartbeats 4000000 in
theorem wX12_lessens_B72 (l : Launch) (E : mE) (out : Int × mSt) {p : Program} {e : Env} {s : State} {m : MethodId} {args : Array Value} {below : List Frame} {meth : Method} {c : Code} (G : CallFix p m c cX12_lessens 5 s args mTs RX12) (hr : meth.sig.returnType = none) (hk : meth.locks = false) (v0 : Nat) (v1 : Int) (g0 : isC v0 11) : ∀ (v2 : Int) (σ : mSt) (H : Heap) (locs : List Loc) (ls : Array Slot), mX12_lessens_B72 v0 v1 v2 σ = some out → mM (mA E 276) E 276 σ s H locs → lv_has ls 5 [(0, .ref (eA E v0)), (1, vI v1), (2, vL v2)] → mGo l p e 1 29 s m args below meth c E none out.2 H locs (F0 m 72 ls []) := by
  intro v2 σ H locs ls hm hM hl
  unfold mX12_lessens_B72 at hm
  refine r_aload_n (np := 73) G hl 0 rfl dX12_lessens_72 rfl rfl ?_
  obtain ⟨r1, e2, hm⟩ := ref_t hm
  refine r_getR (np := 76) G hM (shp_lt g0 (by decide)) g0 e2 fdX12_30 lkX12_60 dX12_lessens_73 rfl ?_
  refine r_iload_n (np := 77) G hl 1 rfl dX12_lessens_76 rfl rfl ?_
  refine r_dup2 (np := 78) G dX12_lessens_77 rfl rfl rfl ?_
  obtain ⟨g3, hm⟩ := g_t hm
  refine r_laload (np := 79) G hM g3 rfl dX12_lessens_78 rfl ?_
  refine r_lload_n (np := 80) G hl 2 rfl dX12_lessens_79 rfl rfl ?_
  obtain ⟨g4, hm⟩ := g_t hm
  refine r_ldiv (np := 81) G g4 dX12_lessens_80 rfl ?_
  obtain ⟨s5, e6, hm⟩ := bnd_t hm
  refine r_lastore (np := 82) G hM g3 rfl s5 e6 dX12_lessens_81 rfl (fun H locs hM => ?_)
  refine r_aload_n (np := 83) G hl 0 rfl dX12_lessens_82 rfl rfl ?_
  obtain ⟨r7, e8, hm⟩ := ref_t hm
  refine r_getR (np := 86) G hM (shp_lt g0 (by decide)) g0 e8 fdX12_31 lkX12_63 dX12_lessens_83 rfl ?_
  refine r_iload_n (np := 87) G hl 1 rfl dX12_lessens_86 rfl rfl ?_
  refine r_aload_n (np := 88) G hl 0 rfl dX12_lessens_87 rfl rfl ?_
  obtain ⟨r9, e10, hm⟩ := ref_t hm
  refine r_getR (np := 91) G hM (shp_lt g0 (by decide)) g0 e10 fdX12_31 lkX12_63 dX12_lessens_88 rfl ?_
  refine r_iload_n (np := 92) G hl 1 rfl dX12_lessens_91 rfl rfl ?_
  obtain ⟨g11, hm⟩ := g_t hm
  refine r_laload (np := 93) G hM g11 rfl dX12_lessens_92 rfl ?_
  refine r_lload_n (np := 94) G hl 2 rfl dX12_lessens_93 rfl rfl ?_
  refine r_ldiv (np := 95) G g4 dX12_lessens_94 rfl ?_
  obtain ⟨g12, hm⟩ := g_t hm
  obtain ⟨s13, e14, hm⟩ := bnd_t hm
  refine r_lastore (np := 96) G hM g12 rfl s13 e14 dX12_lessens_95 rfl (fun H locs hM => ?_)
  exact r_vret G hr hk hM hm dX12_lessens_96
set_option maxRecDepth 100000 in
set_option maxHeartbeats 4000000 in
theorem wX12_lessens_L43 (l : Launch) (E : mE) (out : Int × mSt) {p : Program} {e : Env} {s : State} {m : MethodId} {args : Array Value} {below : List Frame} {meth : Method} {c : Code} (G : CallFix p m c cX12_lessens 5 s args mTs RX12) (hr : meth.sig.returnType = none) (hk : meth.locks = false) (v0 : Nat) (v1 : Int) (v2 : Int) (g0 : isC v0 11) (x72 : mSt → Option (Int × mSt)) (hx72 : ∀ (σ : mSt) (H : Heap) (locs : List Loc) (ls : Array Slot), x72 σ = some out → mM (mA E 276) E 276 σ s H locs → lv_has ls 5 [(0, .ref (eA E v0)), (1, vI v1), (2, vL v2)] → mGo l p e 1 29 s m args below meth c E none out.2 H locs (F0 m 72 ls [])) : ∀ (n : Nat) (v4 : Int) (σ : mSt) (H : Heap) (locs : List Loc) (ls : Array Slot), mX12_lessens_L43 v0 v1 v2 x72 n v4 σ = some out → mM (mA E 276) E 276 σ s H locs → lv_has ls 5 [(0, .ref (eA E v0)), (1, vI v1), (2, vL v2), (4, vI v4)] → mGo l p e 1 29 s m args below meth c E none out.2 H locs (F0 m 43 ls []) := by
  intro n
  induction n with
  | zero =>
    intro v4 σ H locs ls hm hM hl
    exact absurd hm (by rw [mX12_lessens_L43.eq_1]; exact fun h => nomatch h)
  | succ n ih =>
    intro v4 σ H locs ls hm hM hl
    rw [mX12_lessens_L43.eq_2] at hm
    refine r_iload (np := 45) G hl 3 rfl dX12_lessens_43 rfl ?_
    refine r_bipush (np := 47) G 16 dX12_lessens_45 (by decide) rfl ?_
    refine r_icmp_ge (np := 50) (tgt := 72) G rfl (wIk 16 rfl) dX12_lessens_47 (by decide) rfl (fun h15 => ?_) (fun h15 => ?_)
    · have hm := b_t h15 hm
      exact hx72 _ _ _ _ hm hM (lv_sub hl [0, 1, 2] rfl)
    · have hm := b_f h15 hm
      refine r_aload_n (np := 51) G hl 0 rfl dX12_lessens_50 rfl rfl ?_
      obtain ⟨r16, e17, hm⟩ := ref_t hm
      refine r_getR (np := 54) G hM (shp_lt g0 (by decide)) g0 e17 fdX12_29 lkX12_57 dX12_lessens_51 rfl ?_
      refine r_bipush (np := 56) G 16 dX12_lessens_54 (by decide) rfl ?_
      refine r_iload_n (np := 57) G hl 1 rfl dX12_lessens_56 rfl rfl ?_
      refine r_imul (np := 58) G dX12_lessens_57 rfl ?_
      refine r_iload (np := 60) G hl 3 rfl dX12_lessens_58 rfl ?_
      refine r_iadd (np := 61) G dX12_lessens_60 rfl ?_
      refine r_dup2 (np := 62) G dX12_lessens_61 rfl rfl rfl ?_
      obtain ⟨g18, hm⟩ := g_t hm
      refine r_laload (np := 63) G hM g18 rfl dX12_lessens_62 rfl ?_
      refine r_lload_n (np := 64) G hl 2 rfl dX12_lessens_63 rfl rfl ?_
      obtain ⟨g19, hm⟩ := g_t hm
      refine r_ldiv (np := 65) G g19 dX12_lessens_64 rfl ?_
      obtain ⟨s20, e21, hm⟩ := bnd_t hm
      refine r_lastore (np := 66) G hM g18 rfl s20 e21 dX12_lessens_65 rfl (fun H locs hM => ?_)
      obtain ⟨a22, e23, hm⟩ := bnd_t hm
      refine r_iinc (np := 69) G hl 3 rfl e23 [(4, vI a22), (0, .ref (eA E v0)), (1, vI v1), (2, vL v2)] dX12_lessens_66 rfl (by decide) rfl (fun ls hl => ?_)
      refine r_goto (np := 43) G dX12_lessens_69 (by decide) ?_
      exact ih a22 _ _ _ _ hm hM (lv_sub hl [1, 2, 3, 0] rfl)
set_option maxRecDepth 100000 in
set_option maxHeartbeats 4000000 in
theorem wX12_lessens_B40 (l : Launch) (E : mE) (out : Int × mSt) {p : Program} {e : Env} {s : State} {m : MethodId} {args : Array Value} {below : List Frame} {meth : Method} {c : Code} (G : CallFix p m c cX12_lessens 5 s args mTs RX12) (hr : meth.sig.returnType = none) (hk : meth.locks = false) (v0 : Nat) (v1 : Int) (g0 : isC v0 11) : ∀ (v2 : Int) (σ : mSt) (H : Heap) (locs : List Loc) (ls : Array Slot), mX12_lessens_B40 v0 v1 v2 σ = some out → mM (mA E 276) E 276 σ s H locs → lv_has ls 5 [(0, .ref (eA E v0)), (1, vI v1), (2, vL v2)] → mGo l p e 1 29 s m args below meth c E none out.2 H locs (F0 m 40 ls []) := by
  intro v2 σ H locs ls hm hM hl
  unfold mX12_lessens_B40 at hm
  refine r_iconst (np := 41) G 0 dX12_lessens_40 rfl ?_
  refine r_istore (np := 43) G hl rfl [(4, vI 0), (0, .ref (eA E v0)), (1, vI v1), (2, vL v2)] dX12_lessens_41 rfl (by decide) rfl (fun ls hl => ?_)
  exact wX12_lessens_L43 l E out G hr hk v0 v1 v2 g0 (fun zσ => mX12_lessens_B72 v0 v1 v2 zσ) (fun zσ zH zl zs zm zM zv => wX12_lessens_B72 l E out G hr hk v0 v1 g0 v2 zσ zH zl zs zm zM zv) mF 0 _ _ _ _ hm hM (lv_sub hl [1, 2, 3, 0] rfl)
set_option maxRecDepth 100000 in
set_option maxHeartbeats 4000000 in
theorem wX12_lessens_L10 (l : Launch) (E : mE) (out : Int × mSt) {p : Program} {e : Env} {s : State} {m : MethodId} {args : Array Value} {below : List Frame} {meth : Method} {c : Code} (G : CallFix p m c cX12_lessens 5 s args mTs RX12) (hr : meth.sig.returnType = none) (hk : meth.locks = false) (v0 : Nat) (v1 : Int) (g0 : isC v0 11) (x40 : Int → mSt → Option (Int × mSt)) (hx40 : ∀ (v2 : Int) (σ : mSt) (H : Heap) (locs : List Loc) (ls : Array Slot), x40 v2 σ = some out → mM (mA E 276) E 276 σ s H locs → lv_has ls 5 [(0, .ref (eA E v0)), (1, vI v1), (2, vL v2)] → mGo l p e 1 29 s m args below meth c E none out.2 H locs (F0 m 40 ls [])) : ∀ (n : Nat) (v2 : Int) (v4 : Int) (σ : mSt) (H : Heap) (locs : List Loc) (ls : Array Slot), mX12_lessens_L10 v0 v1 x40 n v2 v4 σ = some out → mM (mA E 276) E 276 σ s H locs → lv_has ls 5 [(0, .ref (eA E v0)), (1, vI v1), (2, vL v2), (4, vI v4)] → mGo l p e 1 29 s m args below meth c E none out.2 H locs (F0 m 10 ls []) := by
  intro n
  induction n with
  | zero =>
    intro v2 v4 σ H locs ls hm hM hl
    exact absurd hm (by rw [mX12_lessens_L10.eq_1]; exact fun h => nomatch h)
  | succ n ih =>
    intro v2 v4 σ H locs ls hm hM hl
    rw [mX12_lessens_L10.eq_2] at hm
    refine r_iload (np := 12) G hl 3 rfl dX12_lessens_10 rfl ?_
    refine r_bipush (np := 14) G 16 dX12_lessens_12 (by decide) rfl ?_
    refine r_icmp_ge (np := 17) (tgt := 40) G rfl (wIk 16 rfl) dX12_lessens_14 (by decide) rfl (fun h24 => ?_) (fun h24 => ?_)
    · have hm := b_t h24 hm
      exact hx40 v2 _ _ _ _ hm hM (lv_sub hl [0, 1, 2] rfl)
    · have hm := b_f h24 hm
      refine r_lload_n (np := 18) G hl 2 rfl dX12_lessens_17 rfl rfl ?_
      refine r_aload_n (np := 19) G hl 0 rfl dX12_lessens_18 rfl rfl ?_
      obtain ⟨r25, e26, hm⟩ := ref_t hm
      refine r_getR (np := 22) G hM (shp_lt g0 (by decide)) g0 e26 fdX12_29 lkX12_57 dX12_lessens_19 rfl ?_
      refine r_bipush (np := 24) G 16 dX12_lessens_22 (by decide) rfl ?_
      refine r_iload_n (np := 25) G hl 1 rfl dX12_lessens_24 rfl rfl ?_
      refine r_imul (np := 26) G dX12_lessens_25 rfl ?_
      refine r_iload (np := 28) G hl 3 rfl dX12_lessens_26 rfl ?_
      refine r_iadd (np := 29) G dX12_lessens_28 rfl ?_
      obtain ⟨g27, hm⟩ := g_t hm
      refine r_laload (np := 30) G hM g27 rfl dX12_lessens_29 rfl ?_
      obtain ⟨b28, s29, e30, hm⟩ := call_t hm
      refine m_callSL (np := 33) G hM hl.1 [vL v2, vL (σ r25 (wI ((16 * v1) + v4)).toNat)] (qX12_common l E σ v2 (σ r25 (wI ((16 * v1) + v4)).toNat) _ e30) myX12_common lkX12_280 ⟨Nat.le_of_ble_eq_true rfl, Nat.le_of_ble_eq_true rfl⟩ ⟨Nat.le_of_ble_eq_true rfl, Nat.le_of_ble_eq_true rfl⟩ [] rfl (Nat.le_of_ble_eq_true rfl) dX12_lessens_30 rfl (fun H locs hM => ?_)
      refine r_lstore_n (np := 34) G hl rfl [(2, vL b28), (0, .ref (eA E v0)), (1, vI v1), (4, vI v4)] dX12_lessens_33 rfl rfl (by decide) rfl (fun ls hl => ?_)
      obtain ⟨a31, e32, hm⟩ := bnd_t hm
      refine r_iinc (np := 37) G hl 3 rfl e32 [(4, vI a31), (2, vL b28), (0, .ref (eA E v0)), (1, vI v1)] dX12_lessens_34 rfl (by decide) rfl (fun ls hl => ?_)
      refine r_goto (np := 10) G dX12_lessens_37 (by decide) ?_
      exact ih b28 a31 _ _ _ _ hm hM (lv_sub hl [2, 3, 1, 0] rfl)
set_option maxRecDepth 100000 in
set_option maxHeartbeats 4000000 in
theorem qX12_lessens (l : Launch) (E : mE) (σ : mSt) (v0 : Nat) (v1 : Int) (out : Int × mSt) (hm : mX12_lessens v0 v1 σ = some out) : mMet l yX12_lessens cX12_lessens 5 none 1 29 E 276 [.ref (eA E v0), vI v1] σ none out.2 := by
  unfold mX12_lessens at hm
  obtain ⟨g0, hm⟩ := g_t hm
  refine m_entry (by decide +kernel) (Nat.le_of_ble_eq_true rfl) (fun p e s m args below meth c G hr hk hM ls hl => ?_)
  have G : CallFix p m c cX12_lessens 5 s args mTs RX12 := G
  have hl : lv_has ls 5 [(0, .ref (eA E v0)), (1, vI v1)] := hl
  refine r_aload_n (np := 1) G hl 0 rfl dX12_lessens_0 rfl rfl ?_
  obtain ⟨r33, e34, hm⟩ := ref_t hm
  refine r_getR (np := 4) G hM (shp_lt g0 (by decide)) g0 e34 fdX12_30 lkX12_60 dX12_lessens_1 rfl ?_
  refine r_iload_n (np := 5) G hl 1 rfl dX12_lessens_4 rfl rfl ?_
  obtain ⟨g35, hm⟩ := g_t hm
  refine r_laload (np := 6) G hM g35 rfl dX12_lessens_5 rfl ?_
  obtain ⟨a36, e37, hm⟩ := bnd_t hm
  refine r_lstore_n (np := 7) G hl e37 [(2, vL a36), (0, .ref (eA E v0)), (1, vI v1)] dX12_lessens_6 rfl rfl (by decide) rfl (fun ls hl => ?_)
  refine r_iconst (np := 8) G 0 dX12_lessens_7 rfl ?_
  refine r_istore (np := 10) G hl rfl [(4, vI 0), (2, vL a36), (0, .ref (eA E v0)), (1, vI v1)] dX12_lessens_8 rfl (by decide) rfl (fun ls hl => ?_)
  exact wX12_lessens_L10 l E out G hr hk v0 v1 g0 (fun z2 zσ => mX12_lessens_B40 v0 v1 z2 zσ) (fun z2 zσ zH zl zs zm zM zv => wX12_lessens_B40 l E out G hr hk v0 v1 g0 z2 zσ zH zl zs zm zM zv) mF a36 0 _ _ _ _ hm hM (lv_sub hl [2, 3, 1, 0] rfl)
theorem gX12_lessens {v0 : Nat} {v1 : Int} {σ : mSt} {out : Int × mSt} (hm : mX12_lessens v0 v1 σ = some out) : isC v0 11 := (g_t hm).1
set_option maxRecDepth 100000 in
set_option maxHeartbeats 4000000 in
theorem wX12_takesRow_B52 (l : Launch) (E : mE) (out : Int × mSt) {p : Program} {e : Env} {s : State} {m : MethodId} {args : Array Value} {below : List Frame} {meth : Method} {c : Code} (G : CallFix p m c cX12_takesRow 5 s args mTs RX12) (hr : meth.sig.returnType = none) (hk : meth.locks = false) (v0 : Nat) (v1 : Int) (v2 : Int) (v3 : Int) (g0 : isC v0 11) : ∀ (σ : mSt) (H : Heap) (locs : List Loc) (ls : Array Slot), mX12_takesRow_B52 v0 v1 v2 v3 σ = some out → mM (mA E 276) E 276 σ s H locs → lv_has ls 5 [] → mGo l p e 1 23 s m args below meth c E none out.2 H locs (F0 m 52 ls []) := by
  intro σ H locs ls hm hM hl
  unfold mX12_takesRow_B52 at hm
  exact r_vret G hr hk hM hm dX12_takesRow_52
set_option maxRecDepth 100000 in
set_option maxHeartbeats 4000000 in
theorem wX12_takesRow_L3 (l : Launch) (E : mE) (out : Int × mSt) {p : Program} {e : Env} {s : State} {m : MethodId} {args : Array Value} {below : List Frame} {meth : Method} {c : Code} (G : CallFix p m c cX12_takesRow 5 s args mTs RX12) (hr : meth.sig.returnType = none) (hk : meth.locks = false) (v0 : Nat) (v1 : Int) (v2 : Int) (v3 : Int) (g0 : isC v0 11) (x52 : mSt → Option (Int × mSt)) (hx52 : ∀ (σ : mSt) (H : Heap) (locs : List Loc) (ls : Array Slot), x52 σ = some out → mM (mA E 276) E 276 σ s H locs → lv_has ls 5 [] → mGo l p e 1 23 s m args below meth c E none out.2 H locs (F0 m 52 ls [])) : ∀ (n : Nat) (v4 : Int) (σ : mSt) (H : Heap) (locs : List Loc) (ls : Array Slot), mX12_takesRow_L3 v0 v1 v2 v3 x52 n v4 σ = some out → mM (mA E 276) E 276 σ s H locs → lv_has ls 5 [(0, .ref (eA E v0)), (1, vI v1), (2, vI v2), (3, vI v3), (4, vI v4)] → mGo l p e 1 23 s m args below meth c E none out.2 H locs (F0 m 3 ls []) := by
  intro n
  induction n with
  | zero =>
    intro v4 σ H locs ls hm hM hl
    exact absurd hm (by rw [mX12_takesRow_L3.eq_1]; exact fun h => nomatch h)
  | succ n ih =>
    intro v4 σ H locs ls hm hM hl
    rw [mX12_takesRow_L3.eq_2] at hm
    refine r_iload (np := 5) G hl 4 rfl dX12_takesRow_3 rfl ?_
    refine r_iconst (np := 6) G 4 dX12_takesRow_5 rfl ?_
    refine r_icmp_ge (np := 9) (tgt := 52) G rfl (wIk 4 rfl) dX12_takesRow_6 (by decide) rfl (fun h1 => ?_) (fun h1 => ?_)
    · have hm := b_t h1 hm
      exact hx52 _ _ _ _ hm hM (lv_sub hl [] rfl)
    · have hm := b_f h1 hm
      refine r_iload_n (np := 10) G hl 3 rfl dX12_takesRow_9 rfl rfl ?_
      refine r_if_eq (np := 13) (tgt := 31) G rfl dX12_takesRow_10 (by decide) rfl (fun h2 => ?_) (fun h2 => ?_)
      · have hm := b_t h2 hm
        refine r_aload_n (np := 32) G hl 0 rfl dX12_takesRow_31 rfl rfl ?_
        obtain ⟨r3, e4, hm⟩ := ref_t hm
        refine r_getR (np := 35) G hM (shp_lt g0 (by decide)) g0 e4 fdX12_25 lkX12_45 dX12_takesRow_32 rfl ?_
        refine r_iload (np := 37) G hl 4 rfl dX12_takesRow_35 rfl ?_
        refine r_aload_n (np := 38) G hl 0 rfl dX12_takesRow_37 rfl rfl ?_
        refine r_iload_n (np := 39) G hl 1 rfl dX12_takesRow_38 rfl rfl ?_
        refine r_iload_n (np := 40) G hl 2 rfl dX12_takesRow_39 rfl rfl ?_
        refine r_iload (np := 42) G hl 4 rfl dX12_takesRow_40 rfl ?_
        obtain ⟨b5, s6, e7, hm⟩ := call_t hm
        refine m_callVL (np := 45) G hM hl.1 [vI v1, vI v2, vI v4] (qX12_get l E σ v0 v1 v2 v4 _ e7) myX12_get (shp_lt (gX12_get e7) (by decide)) (gX12_get e7) rfl (by decide) lkX12_355 ⟨Nat.le_of_ble_eq_true rfl, Nat.le_of_ble_eq_true rfl⟩ ⟨Nat.le_of_ble_eq_true rfl, Nat.le_of_ble_eq_true rfl⟩ [vI v4, .ref (eA E r3)] rfl (Nat.le_of_ble_eq_true rfl) dX12_takesRow_42 rfl (fun H locs hM => ?_)
        obtain ⟨g8, hm⟩ := g_t hm
        obtain ⟨s9, e10, hm⟩ := bnd_t hm
        refine r_lastore (np := 46) G hM g8 rfl s9 e10 dX12_takesRow_45 rfl (fun H locs hM => ?_)
        obtain ⟨a11, e12, hm⟩ := bnd_t hm
        refine r_iinc (np := 49) G hl 4 rfl e12 [(4, vI a11), (0, .ref (eA E v0)), (1, vI v1), (2, vI v2), (3, vI v3)] dX12_takesRow_46 rfl (by decide) rfl (fun ls hl => ?_)
        refine r_goto (np := 3) G dX12_takesRow_49 (by decide) ?_
        exact ih a11 _ _ _ _ hm hM (lv_sub hl [1, 2, 3, 4, 0] rfl)
      · have hm := b_f h2 hm
        refine r_aload_n (np := 14) G hl 0 rfl dX12_takesRow_13 rfl rfl ?_
        obtain ⟨r13, e14, hm⟩ := ref_t hm
        refine r_getR (np := 17) G hM (shp_lt g0 (by decide)) g0 e14 fdX12_26 lkX12_48 dX12_takesRow_14 rfl ?_
        refine r_iload (np := 19) G hl 4 rfl dX12_takesRow_17 rfl ?_
        refine r_aload_n (np := 20) G hl 0 rfl dX12_takesRow_19 rfl rfl ?_
        refine r_iload_n (np := 21) G hl 1 rfl dX12_takesRow_20 rfl rfl ?_
        refine r_iload_n (np := 22) G hl 2 rfl dX12_takesRow_21 rfl rfl ?_
        refine r_iload (np := 24) G hl 4 rfl dX12_takesRow_22 rfl ?_
        obtain ⟨b15, s16, e17, hm⟩ := call_t hm
        refine m_callVL (np := 27) G hM hl.1 [vI v1, vI v2, vI v4] (qX12_get l E σ v0 v1 v2 v4 _ e17) myX12_get (shp_lt (gX12_get e17) (by decide)) (gX12_get e17) rfl (by decide) lkX12_355 ⟨Nat.le_of_ble_eq_true rfl, Nat.le_of_ble_eq_true rfl⟩ ⟨Nat.le_of_ble_eq_true rfl, Nat.le_of_ble_eq_true rfl⟩ [vI v4, .ref (eA E r13)] rfl (Nat.le_of_ble_eq_true rfl) dX12_takesRow_24 rfl (fun H locs hM => ?_)
        obtain ⟨g18, hm⟩ := g_t hm
        obtain ⟨s19, e20, hm⟩ := bnd_t hm
        refine r_lastore (np := 28) G hM g18 rfl s19 e20 dX12_takesRow_27 rfl (fun H locs hM => ?_)
        refine r_goto (np := 46) G dX12_takesRow_28 (by decide) ?_
        obtain ⟨a21, e22, hm⟩ := bnd_t hm
        refine r_iinc (np := 49) G hl 4 rfl e22 [(4, vI a21), (0, .ref (eA E v0)), (1, vI v1), (2, vI v2), (3, vI v3)] dX12_takesRow_46 rfl (by decide) rfl (fun ls hl => ?_)
        refine r_goto (np := 3) G dX12_takesRow_49 (by decide) ?_
        exact ih a21 _ _ _ _ hm hM (lv_sub hl [1, 2, 3, 4, 0] rfl)
set_option maxRecDepth 100000 in
set_option maxHeartbeats 4000000 in
theorem qX12_takesRow (l : Launch) (E : mE) (σ : mSt) (v0 : Nat) (v1 : Int) (v2 : Int) (v3 : Int) (out : Int × mSt) (hm : mX12_takesRow v0 v1 v2 v3 σ = some out) : mMet l yX12_takesRow cX12_takesRow 5 none 1 23 E 276 [.ref (eA E v0), vI v1, vI v2, vI v3] σ none out.2 := by
  unfold mX12_takesRow at hm
  obtain ⟨g0, hm⟩ := g_t hm
  refine m_entry (by decide +kernel) (Nat.le_of_ble_eq_true rfl) (fun p e s m args below meth c G hr hk hM ls hl => ?_)
  have G : CallFix p m c cX12_takesRow 5 s args mTs RX12 := G
  have hl : lv_has ls 5 [(0, .ref (eA E v0)), (1, vI v1), (2, vI v2), (3, vI v3)] := hl
  refine r_iconst (np := 1) G 0 dX12_takesRow_0 rfl ?_
  refine r_istore (np := 3) G hl rfl [(4, vI 0), (0, .ref (eA E v0)), (1, vI v1), (2, vI v2), (3, vI v3)] dX12_takesRow_1 rfl (by decide) rfl (fun ls hl => ?_)
  exact wX12_takesRow_L3 l E out G hr hk v0 v1 v2 v3 g0 (fun zσ => mX12_takesRow_B52 v0 v1 v2 v3 zσ) (fun zσ zH zl zs zm zM zv => wX12_takesRow_B52 l E out G hr hk v0 v1 v2 v3 g0 zσ zH zl zs zm zM zv) mF 0 _ _ _ _ hm hM (lv_sub hl [1, 2, 3, 4, 0] rfl)
theorem gX12_takesRow {v0 : Nat} {v1 : Int} {v2 : Int} {v3 : Int} {σ : mSt} {out : Int × mSt} (hm : mX12_takesRow v0 v1 v2 v3 σ = some out) : isC v0 11 := (g_t hm).1
set_option maxRecDepth 100000 in
set_option maxHeartbeats 4000000 in
theorem wX12_isWhole_B220 (l : Launch) (E : mE) (out : Int × mSt) {p : Program} {e : Env} {s : State} {m : MethodId} {args : Array Value} {below : List Frame} {meth : Method} {c : Code} (G : CallFix p m c cX12_isWhole 13 s args mTs RX12) (hr : meth.sig.returnType = (some .boolean)) (hk : meth.locks = false) (v0 : Nat) (v1 : Int) (v2 : Int) (g0 : isC v0 11) : ∀ (σ : mSt) (H : Heap) (locs : List Loc) (ls : Array Slot), mX12_isWhole_B220 v0 v1 v2 σ = some out → mM (mA E 276) E 276 σ s H locs → lv_has ls 13 [] → mGo l p e 2 47 s m args below meth c E (some (vI out.1)) out.2 H locs (F0 m 220 ls []) := by
  intro σ H locs ls hm hM hl
  unfold mX12_isWhole_B220 at hm
  refine r_iconst (np := 221) G 1 dX12_isWhole_220 rfl ?_
  exact r_zret G hr hk hM (Or.inr rfl) hm dX12_isWhole_221
set_option maxRecDepth 100000 in
set_option maxHeartbeats 4000000 in
theorem wX12_isWhole_B214 (l : Launch) (E : mE) (out : Int × mSt) {p : Program} {e : Env} {s : State} {m : MethodId} {args : Array Value} {below : List Frame} {meth : Method} {c : Code} (G : CallFix p m c cX12_isWhole 13 s args mTs RX12) (hr : meth.sig.returnType = (some .boolean)) (hk : meth.locks = false) (v0 : Nat) (v1 : Int) (v2 : Int) (v3 : Int) (v5 : Int) (v7 : Int) (g0 : isC v0 11) (c28 : Int → mSt → Option (Int × mSt)) (x220 : mSt → Option (Int × mSt)) (hc28 : ∀ (v9 : Int) (σ : mSt) (H : Heap) (locs : List Loc) (ls : Array Slot), c28 v9 σ = some out → mM (mA E 276) E 276 σ s H locs → lv_has ls 13 [(0, .ref (eA E v0)), (1, vI v1), (3, vL v3), (5, vL v5), (7, vL v7), (9, vI v9)] → mGo l p e 2 47 s m args below meth c E (some (vI out.1)) out.2 H locs (F0 m 28 ls [])) (hx220 : ∀ (σ : mSt) (H : Heap) (locs : List Loc) (ls : Array Slot), x220 σ = some out → mM (mA E 276) E 276 σ s H locs → lv_has ls 13 [] → mGo l p e 2 47 s m args below meth c E (some (vI out.1)) out.2 H locs (F0 m 220 ls [])) : ∀ (v9 : Int) (σ : mSt) (H : Heap) (locs : List Loc) (ls : Array Slot), mX12_isWhole_B214 v0 v1 v2 v3 v5 v7 c28 x220 v9 σ = some out → mM (mA E 276) E 276 σ s H locs → lv_has ls 13 [(0, .ref (eA E v0)), (1, vI v1), (3, vL v3), (5, vL v5), (7, vL v7), (9, vI v9)] → mGo l p e 2 47 s m args below meth c E (some (vI out.1)) out.2 H locs (F0 m 214 ls []) := by
  intro v9 σ H locs ls hm hM hl
  unfold mX12_isWhole_B214 at hm
  obtain ⟨a1, e2, hm⟩ := bnd_t hm
  refine r_iinc (np := 217) G hl 5 rfl e2 [(9, vI a1), (0, .ref (eA E v0)), (1, vI v1), (3, vL v3), (5, vL v5), (7, vL v7)] dX12_isWhole_214 rfl (by decide) rfl (fun ls hl => ?_)
  refine r_goto (np := 28) G dX12_isWhole_217 (by decide) ?_
  exact hc28 a1 _ _ _ _ hm hM (lv_sub hl [1, 2, 3, 4, 5, 0] rfl)
set_option maxRecDepth 100000 in
set_option maxHeartbeats 4000000 in
theorem wX12_isWhole_L107 (l : Launch) (E : mE) (out : Int × mSt) {p : Program} {e : Env} {s : State} {m : MethodId} {args : Array Value} {below : List Frame} {meth : Method} {c : Code} (G : CallFix p m c cX12_isWhole 13 s args mTs RX12) (hr : meth.sig.returnType = (some .boolean)) (hk : meth.locks = false) (v0 : Nat) (v1 : Int) (v2 : Int) (v3 : Int) (v5 : Int) (v7 : Int) (v9 : Int) (g0 : isC v0 11) (x214 : mSt → Option (Int × mSt)) (hx214 : ∀ (σ : mSt) (H : Heap) (locs : List Loc) (ls : Array Slot), x214 σ = some out → mM (mA E 276) E 276 σ s H locs → lv_has ls 13 [(0, .ref (eA E v0)), (1, vI v1), (3, vL v3), (5, vL v5), (7, vL v7), (9, vI v9)] → mGo l p e 2 47 s m args below meth c E (some (vI out.1)) out.2 H locs (F0 m 214 ls [])) : ∀ (n : Nat) (v10 : Int) (σ : mSt) (H : Heap) (locs : List Loc) (ls : Array Slot), mX12_isWhole_L107 v0 v1 v2 v3 v5 v7 v9 x214 n v10 σ = some out → mM (mA E 276) E 276 σ s H locs → lv_has ls 13 [(0, .ref (eA E v0)), (1, vI v1), (3, vL v3), (5, vL v5), (7, vL v7), (9, vI v9), (10, vI v10)] → mGo l p e 2 47 s m args below meth c E (some (vI out.1)) out.2 H locs (F0 m 107 ls []) := by
  intro n
  induction n with
  | zero =>
    intro v10 σ H locs ls hm hM hl
    exact absurd hm (by rw [mX12_isWhole_L107.eq_1]; exact fun h => nomatch h)
  | succ n ih =>
    intro v10 σ H locs ls hm hM hl
    rw [mX12_isWhole_L107.eq_2] at hm
    refine r_iload (np := 109) G hl 6 rfl dX12_isWhole_107 rfl ?_
    refine r_iload (np := 111) G hl 5 rfl dX12_isWhole_109 rfl ?_
    refine r_icmp_ge (np := 114) (tgt := 214) G rfl rfl dX12_isWhole_111 (by decide) rfl (fun h3 => ?_) (fun h3 => ?_)
    · have hm := b_t h3 hm
      exact hx214 _ _ _ _ hm hM (lv_sub hl [0, 1, 2, 3, 4, 5] rfl)
    · have hm := b_f h3 hm
      refine r_aload_n (np := 115) G hl 0 rfl dX12_isWhole_114 rfl rfl ?_
      refine r_iload_n (np := 116) G hl 1 rfl dX12_isWhole_115 rfl rfl ?_
      refine r_iload (np := 118) G hl 6 rfl dX12_isWhole_116 rfl ?_
      refine r_iconst (np := 119) G 1 dX12_isWhole_118 rfl ?_
      obtain ⟨b4, s5, e6, hm⟩ := call_t hm
      refine m_callVV (np := 122) G hM hl.1 [vI v1, vI v10, vI 1] (qX12_takesRow l E σ v0 v1 v10 1 _ e6) myX12_takesRow (shp_lt (gX12_takesRow e6) (by decide)) (gX12_takesRow e6) rfl (by decide) lkX12_377 ⟨Nat.le_of_ble_eq_true rfl, Nat.le_of_ble_eq_true rfl⟩ ⟨Nat.le_of_ble_eq_true rfl, Nat.le_of_ble_eq_true rfl⟩ [] rfl (Nat.le_of_ble_eq_true rfl) dX12_isWhole_119 rfl (fun H locs hM => ?_)
      refine r_aload_n (np := 123) G hl 0 rfl dX12_isWhole_122 rfl rfl ?_
      obtain ⟨r7, e8, hm⟩ := ref_t hm
      refine r_getR (np := 126) G hM (shp_lt g0 (by decide)) g0 e8 fdX12_25 lkX12_45 dX12_isWhole_123 rfl ?_
      refine r_iconst (np := 127) G 0 dX12_isWhole_126 rfl ?_
      obtain ⟨g9, hm⟩ := g_t hm
      refine r_laload (np := 128) G hM g9 rfl dX12_isWhole_127 rfl ?_
      refine r_aload_n (np := 129) G hl 0 rfl dX12_isWhole_128 rfl rfl ?_
      obtain ⟨r10, e11, hm⟩ := ref_t hm
      refine r_getR (np := 132) G hM (shp_lt g0 (by decide)) g0 e11 fdX12_26 lkX12_48 dX12_isWhole_129 rfl ?_
      refine r_iconst (np := 133) G 0 dX12_isWhole_132 rfl ?_
      obtain ⟨g12, hm⟩ := g_t hm
      refine r_laload (np := 134) G hM g12 rfl dX12_isWhole_133 rfl ?_
      refine r_lmul (np := 135) G dX12_isWhole_134 rfl ?_
      refine r_lload_n (np := 136) G hl 2 rfl dX12_isWhole_135 rfl rfl ?_
      refine r_aload_n (np := 137) G hl 0 rfl dX12_isWhole_136 rfl rfl ?_
      obtain ⟨r13, e14, hm⟩ := ref_t hm
      refine r_getR (np := 140) G hM (shp_lt g0 (by decide)) g0 e14 fdX12_25 lkX12_45 dX12_isWhole_137 rfl ?_
      refine r_iconst (np := 141) G 1 dX12_isWhole_140 rfl ?_
      obtain ⟨g15, hm⟩ := g_t hm
      refine r_laload (np := 142) G hM g15 rfl dX12_isWhole_141 rfl ?_
      refine r_lmul (np := 143) G dX12_isWhole_142 rfl ?_
      refine r_aload_n (np := 144) G hl 0 rfl dX12_isWhole_143 rfl rfl ?_
      obtain ⟨r16, e17, hm⟩ := ref_t hm
      refine r_getR (np := 147) G hM (shp_lt g0 (by decide)) g0 e17 fdX12_26 lkX12_48 dX12_isWhole_144 rfl ?_
      refine r_iconst (np := 148) G 1 dX12_isWhole_147 rfl ?_
      obtain ⟨g18, hm⟩ := g_t hm
      refine r_laload (np := 149) G hM g18 rfl dX12_isWhole_148 rfl ?_
      refine r_lmul (np := 150) G dX12_isWhole_149 rfl ?_
      refine r_lsub (np := 151) G dX12_isWhole_150 rfl ?_
      refine r_lload (np := 153) G hl 3 rfl dX12_isWhole_151 rfl ?_
      refine r_aload_n (np := 154) G hl 0 rfl dX12_isWhole_153 rfl rfl ?_
      obtain ⟨r19, e20, hm⟩ := ref_t hm
      refine r_getR (np := 157) G hM (shp_lt g0 (by decide)) g0 e20 fdX12_25 lkX12_45 dX12_isWhole_154 rfl ?_
      refine r_iconst (np := 158) G 2 dX12_isWhole_157 rfl ?_
      obtain ⟨g21, hm⟩ := g_t hm
      refine r_laload (np := 159) G hM g21 rfl dX12_isWhole_158 rfl ?_
      refine r_lmul (np := 160) G dX12_isWhole_159 rfl ?_
      refine r_aload_n (np := 161) G hl 0 rfl dX12_isWhole_160 rfl rfl ?_
      obtain ⟨r22, e23, hm⟩ := ref_t hm
      refine r_getR (np := 164) G hM (shp_lt g0 (by decide)) g0 e23 fdX12_26 lkX12_48 dX12_isWhole_161 rfl ?_
      refine r_iconst (np := 165) G 2 dX12_isWhole_164 rfl ?_
      obtain ⟨g24, hm⟩ := g_t hm
      refine r_laload (np := 166) G hM g24 rfl dX12_isWhole_165 rfl ?_
      refine r_lmul (np := 167) G dX12_isWhole_166 rfl ?_
      refine r_lsub (np := 168) G dX12_isWhole_167 rfl ?_
      refine r_lload_n (np := 169) G hl 2 rfl dX12_isWhole_168 rfl rfl ?_
      refine r_lload (np := 171) G hl 3 rfl dX12_isWhole_169 rfl ?_
      refine r_lmul (np := 172) G dX12_isWhole_171 rfl ?_
      refine r_aload_n (np := 173) G hl 0 rfl dX12_isWhole_172 rfl rfl ?_
      obtain ⟨r25, e26, hm⟩ := ref_t hm
      refine r_getR (np := 176) G hM (shp_lt g0 (by decide)) g0 e26 fdX12_25 lkX12_45 dX12_isWhole_173 rfl ?_
      refine r_iconst (np := 177) G 3 dX12_isWhole_176 rfl ?_
      obtain ⟨g27, hm⟩ := g_t hm
      refine r_laload (np := 178) G hM g27 rfl dX12_isWhole_177 rfl ?_
      refine r_lmul (np := 179) G dX12_isWhole_178 rfl ?_
      refine r_aload_n (np := 180) G hl 0 rfl dX12_isWhole_179 rfl rfl ?_
      obtain ⟨r28, e29, hm⟩ := ref_t hm
      refine r_getR (np := 183) G hM (shp_lt g0 (by decide)) g0 e29 fdX12_26 lkX12_48 dX12_isWhole_180 rfl ?_
      refine r_iconst (np := 184) G 3 dX12_isWhole_183 rfl ?_
      obtain ⟨g30, hm⟩ := g_t hm
      refine r_laload (np := 185) G hM g30 rfl dX12_isWhole_184 rfl ?_
      refine r_lmul (np := 186) G dX12_isWhole_185 rfl ?_
      refine r_ladd (np := 187) G dX12_isWhole_186 rfl ?_
      obtain ⟨a31, e32, hm⟩ := bnd_t hm
      refine r_lstore (np := 189) G hl e32 [(11, vL a31), (0, .ref (eA E v0)), (1, vI v1), (3, vL v3), (5, vL v5), (7, vL v7), (9, vI v9), (10, vI v10)] dX12_isWhole_187 rfl (by decide) rfl (fun ls hl => ?_)
      refine r_ldc2 (np := 192) G 2 dX12_isWhole_189 lkX12_264 rfl rfl ?_
      refine r_lload (np := 194) G hl 0 rfl dX12_isWhole_192 rfl ?_
      refine r_lmul (np := 195) G dX12_isWhole_194 rfl ?_
      refine r_lload (np := 197) G hl 5 rfl dX12_isWhole_195 rfl ?_
      refine r_lload (np := 199) G hl 5 rfl dX12_isWhole_197 rfl ?_
      refine r_lmul (np := 200) G dX12_isWhole_199 rfl ?_
      obtain ⟨g33, hm⟩ := g_t hm
      refine r_lrem (np := 201) G g33 dX12_isWhole_200 rfl ?_
      refine r_lconst (np := 202) G 0 dX12_isWhole_201 rfl rfl ?_
      refine r_lcmp_eq (np := 206) (tgt := 208) G rfl (wLk 0 rfl) dX12_isWhole_202 dX12_isWhole_203 (by decide) rfl (fun h34 => ?_) (fun h34 => ?_)
      · have hm := b_t h34 hm
        obtain ⟨a35, e36, hm⟩ := bnd_t hm
        refine r_iinc (np := 211) G hl 7 rfl e36 [(10, vI a35), (11, vL a31), (0, .ref (eA E v0)), (1, vI v1), (3, vL v3), (5, vL v5), (7, vL v7), (9, vI v9)] dX12_isWhole_208 rfl (by decide) rfl (fun ls hl => ?_)
        refine r_goto (np := 107) G dX12_isWhole_211 (by decide) ?_
        exact ih a35 _ _ _ _ hm hM (lv_sub hl [2, 3, 4, 5, 6, 7, 0] rfl)
      · have hm := b_f h34 hm
        refine r_iconst (np := 207) G 0 dX12_isWhole_206 rfl ?_
        exact r_zret G hr hk hM (Or.inl rfl) hm dX12_isWhole_207
set_option maxRecDepth 100000 in
set_option maxHeartbeats 4000000 in
theorem wX12_isWhole_L28 (l : Launch) (E : mE) (out : Int × mSt) {p : Program} {e : Env} {s : State} {m : MethodId} {args : Array Value} {below : List Frame} {meth : Method} {c : Code} (G : CallFix p m c cX12_isWhole 13 s args mTs RX12) (hr : meth.sig.returnType = (some .boolean)) (hk : meth.locks = false) (v0 : Nat) (v1 : Int) (v2 : Int) (v3 : Int) (v5 : Int) (v7 : Int) (g0 : isC v0 11) (x220 : mSt → Option (Int × mSt)) (hx220 : ∀ (σ : mSt) (H : Heap) (locs : List Loc) (ls : Array Slot), x220 σ = some out → mM (mA E 276) E 276 σ s H locs → lv_has ls 13 [] → mGo l p e 2 47 s m args below meth c E (some (vI out.1)) out.2 H locs (F0 m 220 ls [])) : ∀ (n : Nat) (v9 : Int) (σ : mSt) (H : Heap) (locs : List Loc) (ls : Array Slot), mX12_isWhole_L28 v0 v1 v2 v3 v5 v7 x220 n v9 σ = some out → mM (mA E 276) E 276 σ s H locs → lv_has ls 13 [(0, .ref (eA E v0)), (1, vI v1), (3, vL v3), (5, vL v5), (7, vL v7), (9, vI v9)] → mGo l p e 2 47 s m args below meth c E (some (vI out.1)) out.2 H locs (F0 m 28 ls []) := by
  intro n
  induction n with
  | zero =>
    intro v9 σ H locs ls hm hM hl
    exact absurd hm (by rw [mX12_isWhole_L28.eq_1]; exact fun h => nomatch h)
  | succ n ih =>
    intro v9 σ H locs ls hm hM hl
    rw [mX12_isWhole_L28.eq_2] at hm
    refine r_iload (np := 30) G hl 5 rfl dX12_isWhole_28 rfl ?_
    refine r_iconst (np := 31) G 4 dX12_isWhole_30 rfl ?_
    refine r_icmp_ge (np := 34) (tgt := 220) G rfl (wIk 4 rfl) dX12_isWhole_31 (by decide) rfl (fun h37 => ?_) (fun h37 => ?_)
    · have hm := b_t h37 hm
      exact hx220 _ _ _ _ hm hM (lv_sub hl [] rfl)
    · have hm := b_f h37 hm
      refine r_aload_n (np := 35) G hl 0 rfl dX12_isWhole_34 rfl rfl ?_
      refine r_iload_n (np := 36) G hl 1 rfl dX12_isWhole_35 rfl rfl ?_
      refine r_iload (np := 38) G hl 5 rfl dX12_isWhole_36 rfl ?_
      refine r_iconst (np := 39) G 0 dX12_isWhole_38 rfl ?_
      obtain ⟨b38, s39, e40, hm⟩ := call_t hm
      refine m_callVV (np := 42) G hM hl.1 [vI v1, vI v9, vI 0] (qX12_takesRow l E σ v0 v1 v9 0 _ e40) myX12_takesRow (shp_lt (gX12_takesRow e40) (by decide)) (gX12_takesRow e40) rfl (by decide) lkX12_377 ⟨Nat.le_of_ble_eq_true rfl, Nat.le_of_ble_eq_true rfl⟩ ⟨Nat.le_of_ble_eq_true rfl, Nat.le_of_ble_eq_true rfl⟩ [] rfl (Nat.le_of_ble_eq_true rfl) dX12_isWhole_39 rfl (fun H locs hM => ?_)
      refine r_ldc2 (np := 45) G 2 dX12_isWhole_42 lkX12_264 rfl rfl ?_
      refine r_aload_n (np := 46) G hl 0 rfl dX12_isWhole_45 rfl rfl ?_
      obtain ⟨r41, e42, hm⟩ := ref_t hm
      refine r_getR (np := 49) G hM (shp_lt g0 (by decide)) g0 e42 fdX12_25 lkX12_45 dX12_isWhole_46 rfl ?_
      refine r_iconst (np := 50) G 0 dX12_isWhole_49 rfl ?_
      obtain ⟨g43, hm⟩ := g_t hm
      refine r_laload (np := 51) G hM g43 rfl dX12_isWhole_50 rfl ?_
      refine r_lmul (np := 52) G dX12_isWhole_51 rfl ?_
      refine r_lload (np := 54) G hl 4 rfl dX12_isWhole_52 rfl ?_
      obtain ⟨g44, hm⟩ := g_t hm
      refine r_lrem (np := 55) G g44 dX12_isWhole_54 rfl ?_
      refine r_lconst (np := 56) G 0 dX12_isWhole_55 rfl rfl ?_
      refine r_lcmp_ne (np := 60) (tgt := 102) G rfl (wLk 0 rfl) dX12_isWhole_56 dX12_isWhole_57 (by decide) rfl (fun h45 => ?_) (fun h45 => ?_)
      · have hm := b_f h45 hm
        refine r_iconst (np := 103) G 0 dX12_isWhole_102 rfl ?_
        exact r_zret G hr hk hM (Or.inl rfl) hm dX12_isWhole_103
      · have hm := b_t h45 hm
        refine r_aload_n (np := 61) G hl 0 rfl dX12_isWhole_60 rfl rfl ?_
        refine r_aload_n (np := 62) G hl 0 rfl dX12_isWhole_61 rfl rfl ?_
        obtain ⟨r46, e47, hm⟩ := ref_t hm
        refine r_getR (np := 65) G hM (shp_lt g0 (by decide)) g0 e47 fdX12_25 lkX12_45 dX12_isWhole_62 rfl ?_
        refine r_iconst (np := 66) G 0 dX12_isWhole_65 rfl ?_
        obtain ⟨g48, hm⟩ := g_t hm
        refine r_laload (np := 67) G hM g48 rfl dX12_isWhole_66 rfl ?_
        refine r_aload_n (np := 68) G hl 0 rfl dX12_isWhole_67 rfl rfl ?_
        obtain ⟨r49, e50, hm⟩ := ref_t hm
        refine r_getR (np := 71) G hM (shp_lt g0 (by decide)) g0 e50 fdX12_25 lkX12_45 dX12_isWhole_68 rfl ?_
        refine r_iconst (np := 72) G 1 dX12_isWhole_71 rfl ?_
        obtain ⟨g51, hm⟩ := g_t hm
        refine r_laload (np := 73) G hM g51 rfl dX12_isWhole_72 rfl ?_
        refine r_aload_n (np := 74) G hl 0 rfl dX12_isWhole_73 rfl rfl ?_
        obtain ⟨r52, e53, hm⟩ := ref_t hm
        refine r_getR (np := 77) G hM (shp_lt g0 (by decide)) g0 e53 fdX12_25 lkX12_45 dX12_isWhole_74 rfl ?_
        refine r_iconst (np := 78) G 2 dX12_isWhole_77 rfl ?_
        obtain ⟨g54, hm⟩ := g_t hm
        refine r_laload (np := 79) G hM g54 rfl dX12_isWhole_78 rfl ?_
        refine r_aload_n (np := 80) G hl 0 rfl dX12_isWhole_79 rfl rfl ?_
        obtain ⟨r55, e56, hm⟩ := ref_t hm
        refine r_getR (np := 83) G hM (shp_lt g0 (by decide)) g0 e56 fdX12_25 lkX12_45 dX12_isWhole_80 rfl ?_
        refine r_iconst (np := 84) G 3 dX12_isWhole_83 rfl ?_
        obtain ⟨g57, hm⟩ := g_t hm
        refine r_laload (np := 85) G hM g57 rfl dX12_isWhole_84 rfl ?_
        refine r_lload_n (np := 86) G hl 2 rfl dX12_isWhole_85 rfl rfl ?_
        refine r_lload (np := 88) G hl 3 rfl dX12_isWhole_86 rfl ?_
        obtain ⟨b58, s59, e60, hm⟩ := call_t hm
        refine m_callVL (np := 91) G hM hl.1 [vL (s39 r46 0), vL (s39 r49 1), vL (s39 r52 2), vL (s39 r55 3), vL v3, vL v5] (qX12_normOf l E s39 v0 (s39 r46 0) (s39 r49 1) (s39 r52 2) (s39 r55 3) v3 v5 _ e60) myX12_normOf (shp_lt (gX12_normOf e60) (by decide)) (gX12_normOf e60) rfl (by decide) lkX12_326 ⟨Nat.le_of_ble_eq_true rfl, Nat.le_of_ble_eq_true rfl⟩ ⟨Nat.le_of_ble_eq_true rfl, Nat.le_of_ble_eq_true rfl⟩ [] rfl (Nat.le_of_ble_eq_true rfl) dX12_isWhole_88 rfl (fun H locs hM => ?_)
        refine r_lload (np := 93) G hl 4 rfl dX12_isWhole_91 rfl ?_
        refine r_lload (np := 95) G hl 4 rfl dX12_isWhole_93 rfl ?_
        refine r_lmul (np := 96) G dX12_isWhole_95 rfl ?_
        obtain ⟨g61, hm⟩ := g_t hm
        refine r_lrem (np := 97) G g61 dX12_isWhole_96 rfl ?_
        refine r_lconst (np := 98) G 0 dX12_isWhole_97 rfl rfl ?_
        refine r_lcmp_eq (np := 102) (tgt := 104) G rfl (wLk 0 rfl) dX12_isWhole_98 dX12_isWhole_99 (by decide) rfl (fun h62 => ?_) (fun h62 => ?_)
        · have hm := b_t h62 hm
          refine r_iconst (np := 105) G 0 dX12_isWhole_104 rfl ?_
          refine r_istore (np := 107) G hl rfl [(10, vI 0), (0, .ref (eA E v0)), (1, vI v1), (3, vL v3), (5, vL v5), (7, vL v7), (9, vI v9)] dX12_isWhole_105 rfl (by decide) rfl (fun ls hl => ?_)
          exact wX12_isWhole_L107 l E out G hr hk v0 v1 v2 v3 v5 v7 v9 g0 (fun zσ => mX12_isWhole_B214 v0 v1 v2 v3 v5 v7 (mX12_isWhole_L28 v0 v1 v2 v3 v5 v7 x220 n) x220 v9 zσ) (fun zσ zH zl zs zm zM zv => wX12_isWhole_B214 l E out G hr hk v0 v1 v2 v3 v5 v7 g0 (mX12_isWhole_L28 v0 v1 v2 v3 v5 v7 x220 n) x220 ih hx220 v9 zσ zH zl zs zm zM zv) mF 0 _ _ _ _ hm hM (lv_sub hl [1, 2, 3, 4, 5, 6, 0] rfl)
        · have hm := b_f h62 hm
          refine r_iconst (np := 103) G 0 dX12_isWhole_102 rfl ?_
          exact r_zret G hr hk hM (Or.inl rfl) hm dX12_isWhole_103
set_option maxRecDepth 100000 in
set_option maxHeartbeats 4000000 in
theorem qX12_isWhole (l : Launch) (E : mE) (σ : mSt) (v0 : Nat) (v1 : Int) (v2 : Int) (out : Int × mSt) (hm : mX12_isWhole v0 v1 v2 σ = some out) : mMet l yX12_isWhole cX12_isWhole 13 (some .boolean) 2 47 E 276 [.ref (eA E v0), vI v1, vI v2] σ (some (vI out.1)) out.2 := by
  unfold mX12_isWhole at hm
  obtain ⟨g0, hm⟩ := g_t hm
  refine m_entry (by decide +kernel) (Nat.le_of_ble_eq_true rfl) (fun p e s m args below meth c G hr hk hM ls hl => ?_)
  have G : CallFix p m c cX12_isWhole 13 s args mTs RX12 := G
  have hl : lv_has ls 13 [(0, .ref (eA E v0)), (1, vI v1), (2, vI v2)] := hl
  refine r_aload_n (np := 1) G hl 0 rfl dX12_isWhole_0 rfl rfl ?_
  obtain ⟨r63, e64, hm⟩ := ref_t hm
  refine r_getR (np := 4) G hM (shp_lt g0 (by decide)) g0 e64 fdX12_15 lkX12_24 dX12_isWhole_1 rfl ?_
  refine r_iload_n (np := 5) G hl 2 rfl dX12_isWhole_4 rfl rfl ?_
  obtain ⟨g65, hm⟩ := g_t hm
  refine r_iaload (np := 6) G hM g65 rfl dX12_isWhole_5 rfl ?_
  refine r_i2l (np := 7) G rfl dX12_isWhole_6 rfl ?_
  obtain ⟨a66, e67, hm⟩ := bnd_t hm
  refine r_lstore_n (np := 8) G hl e67 [(3, vL a66), (0, .ref (eA E v0)), (1, vI v1), (2, vI v2)] dX12_isWhole_7 rfl rfl (by decide) rfl (fun ls hl => ?_)
  refine r_aload_n (np := 9) G hl 1 rfl dX12_isWhole_8 rfl rfl ?_
  obtain ⟨r68, e69, hm⟩ := ref_t hm
  refine r_getR (np := 12) G hM (shp_lt g0 (by decide)) g0 e69 fdX12_16 lkX12_27 dX12_isWhole_9 rfl ?_
  refine r_iload_n (np := 13) G hl 3 rfl dX12_isWhole_12 rfl rfl ?_
  obtain ⟨g70, hm⟩ := g_t hm
  refine r_iaload (np := 14) G hM g70 rfl dX12_isWhole_13 rfl ?_
  refine r_i2l (np := 15) G rfl dX12_isWhole_14 rfl ?_
  obtain ⟨a71, e72, hm⟩ := bnd_t hm
  refine r_lstore (np := 17) G hl e72 [(5, vL a71), (3, vL a66), (0, .ref (eA E v0)), (1, vI v1), (2, vI v2)] dX12_isWhole_15 rfl (by decide) rfl (fun ls hl => ?_)
  refine r_aload_n (np := 18) G hl 2 rfl dX12_isWhole_17 rfl rfl ?_
  obtain ⟨r73, e74, hm⟩ := ref_t hm
  refine r_getR (np := 21) G hM (shp_lt g0 (by decide)) g0 e74 fdX12_30 lkX12_60 dX12_isWhole_18 rfl ?_
  refine r_iload_n (np := 22) G hl 3 rfl dX12_isWhole_21 rfl rfl ?_
  obtain ⟨g75, hm⟩ := g_t hm
  refine r_laload (np := 23) G hM g75 rfl dX12_isWhole_22 rfl ?_
  obtain ⟨a76, e77, hm⟩ := bnd_t hm
  refine r_lstore (np := 25) G hl e77 [(7, vL a76), (5, vL a71), (3, vL a66), (0, .ref (eA E v0)), (1, vI v1), (2, vI v2)] dX12_isWhole_23 rfl (by decide) rfl (fun ls hl => ?_)
  refine r_iconst (np := 26) G 0 dX12_isWhole_25 rfl ?_
  refine r_istore (np := 28) G hl rfl [(9, vI 0), (7, vL a76), (5, vL a71), (3, vL a66), (0, .ref (eA E v0)), (1, vI v1), (2, vI v2)] dX12_isWhole_26 rfl (by decide) rfl (fun ls hl => ?_)
  exact wX12_isWhole_L28 l E out G hr hk v0 v1 v2 a66 a71 a76 g0 (fun zσ => mX12_isWhole_B220 v0 v1 v2 zσ) (fun zσ zH zl zs zm zM zv => wX12_isWhole_B220 l E out G hr hk v0 v1 v2 g0 zσ zH zl zs zm zM zv) mF 0 _ _ _ _ hm hM (lv_sub hl [4, 5, 3, 2, 1, 0] rfl)
theorem gX12_isWhole {v0 : Nat} {v1 : Int} {v2 : Int} {σ : mSt} {out : Int × mSt} (hm : mX12_isWhole v0 v1 v2 σ = some out) : isC v0 11 := (g_t hm).1
set_option maxRecDepth 100000 in
set_option maxHeartbeats 4000000 in
theorem wX12_putsLeast_B114 (l : Launch) (E : mE) (out : Int × mSt) {p : Program} {e : Env} {s : State} {m : MethodId} {args : Array Value} {below : List Frame} {meth : Method} {c : Code} (G : CallFix p m c cX12_putsLeast 9 s args mTs RX12) (hr : meth.sig.returnType = (some .boolean)) (hk : meth.locks = false) (v0 : Nat) (v1 : Int) (g0 : isC v0 11) : ∀ (v5 : Int) (σ : mSt) (H : Heap) (locs : List Loc) (ls : Array Slot), mX12_putsLeast_B114 v0 v1 v5 σ = some out → mM (mA E 276) E 276 σ s H locs → lv_has ls 9 [(0, .ref (eA E v0)), (5, vL v5)] → mGo l p e 4 112 s m args below meth c E (some (vI out.1)) out.2 H locs (F0 m 114 ls []) := by
  intro v5 σ H locs ls hm hM hl
  unfold mX12_putsLeast_B114 at hm
  refine r_aload_n (np := 115) G hl 0 rfl dX12_putsLeast_114 rfl rfl ?_
  refine r_bipush (np := 117) G 8 dX12_putsLeast_115 (by decide) rfl ?_
  refine r_lload (np := 119) G hl 1 rfl dX12_putsLeast_117 rfl ?_
  obtain ⟨b1, s2, e3, hm⟩ := call_t hm
  refine m_callVI (np := 122) G hM hl.1 [vI 8, vL v5] (qX12_puts_ l E σ v0 8 v5 _ e3) myX12_puts_ (shp_lt (gX12_puts_ e3) (by decide)) (gX12_puts_ e3) rfl (by decide) lkX12_388 ⟨Nat.le_of_ble_eq_true rfl, Nat.le_of_ble_eq_true rfl⟩ ⟨Nat.le_of_ble_eq_true rfl, Nat.le_of_ble_eq_true rfl⟩ [] rfl (Nat.le_of_ble_eq_true rfl) dX12_putsLeast_119 rfl (fun H locs hM => ?_)
  obtain ⟨g4, hm⟩ := g_t hm
  exact r_zret G hr hk hM g4 hm dX12_putsLeast_122
set_option maxRecDepth 100000 in
set_option maxHeartbeats 4000000 in
theorem wX12_putsLeast_B55 (l : Launch) (E : mE) (out : Int × mSt) {p : Program} {e : Env} {s : State} {m : MethodId} {args : Array Value} {below : List Frame} {meth : Method} {c : Code} (G : CallFix p m c cX12_putsLeast 9 s args mTs RX12) (hr : meth.sig.returnType = (some .boolean)) (hk : meth.locks = false) (v0 : Nat) (v1 : Int) (g0 : isC v0 11) : ∀ (v3 : Int) (σ : mSt) (H : Heap) (locs : List Loc) (ls : Array Slot), mX12_putsLeast_B55 v0 v1 v3 σ = some out → mM (mA E 276) E 276 σ s H locs → lv_has ls 9 [(0, .ref (eA E v0)), (1, vL v1), (3, vL v3)] → mGo l p e 4 112 s m args below meth c E (some (vI out.1)) out.2 H locs (F0 m 55 ls []) := by
  intro v3 σ H locs ls hm hM hl
  unfold mX12_putsLeast_B55 at hm
  refine r_lload_n (np := 56) G hl 1 rfl dX12_putsLeast_55 rfl rfl ?_
  refine r_lload_n (np := 57) G hl 2 rfl dX12_putsLeast_56 rfl rfl ?_
  obtain ⟨g5, hm⟩ := g_t hm
  refine r_ldiv (np := 58) G g5 dX12_putsLeast_57 rfl ?_
  obtain ⟨a6, e7, hm⟩ := bnd_t hm
  refine r_lstore (np := 60) G hl e7 [(5, vL a6), (0, .ref (eA E v0)), (1, vL v1), (3, vL v3)] dX12_putsLeast_58 rfl (by decide) rfl (fun ls hl => ?_)
  refine r_aload_n (np := 61) G hl 1 rfl dX12_putsLeast_60 rfl rfl ?_
  obtain ⟨r8, e9, hm⟩ := ref_t hm
  refine r_getR (np := 64) G hM (shp_lt g0 (by decide)) g0 e9 fdX12_30 lkX12_60 dX12_putsLeast_61 rfl ?_
  refine r_bipush (np := 66) G 8 dX12_putsLeast_64 (by decide) rfl ?_
  obtain ⟨g10, hm⟩ := g_t hm
  refine r_laload (np := 67) G hM g10 rfl dX12_putsLeast_66 rfl ?_
  refine r_aload_n (np := 68) G hl 1 rfl dX12_putsLeast_67 rfl rfl ?_
  obtain ⟨r11, e12, hm⟩ := ref_t hm
  refine r_getR (np := 71) G hM (shp_lt g0 (by decide)) g0 e12 fdX12_30 lkX12_60 dX12_putsLeast_68 rfl ?_
  refine r_bipush (np := 73) G 8 dX12_putsLeast_71 (by decide) rfl ?_
  obtain ⟨g13, hm⟩ := g_t hm
  refine r_laload (np := 74) G hM g13 rfl dX12_putsLeast_73 rfl ?_
  refine r_lload (np := 76) G hl 0 rfl dX12_putsLeast_74 rfl ?_
  obtain ⟨b14, s15, e16, hm⟩ := call_t hm
  refine m_callSL (np := 79) G hM hl.1 [vL (σ r11 8), vL a6] (qX12_common l E σ (σ r11 8) a6 _ e16) myX12_common lkX12_280 ⟨Nat.le_of_ble_eq_true rfl, Nat.le_of_ble_eq_true rfl⟩ ⟨Nat.le_of_ble_eq_true rfl, Nat.le_of_ble_eq_true rfl⟩ [vL (σ r8 8)] rfl (Nat.le_of_ble_eq_true rfl) dX12_putsLeast_76 rfl (fun H locs hM => ?_)
  obtain ⟨g17, hm⟩ := g_t hm
  refine r_ldiv (np := 80) G g17 dX12_putsLeast_79 rfl ?_
  refine r_lload (np := 82) G hl 0 rfl dX12_putsLeast_80 rfl ?_
  refine r_lmul (np := 83) G dX12_putsLeast_82 rfl ?_
  obtain ⟨a18, e19, hm⟩ := bnd_t hm
  refine r_lstore (np := 85) G hl e19 [(7, vL a18), (5, vL a6), (0, .ref (eA E v0)), (1, vL v1), (3, vL v3)] dX12_putsLeast_83 rfl (by decide) rfl (fun ls hl => ?_)
  refine r_lload (np := 87) G hl 0 rfl dX12_putsLeast_85 rfl ?_
  refine r_aload_n (np := 88) G hl 2 rfl dX12_putsLeast_87 rfl rfl ?_
  obtain ⟨r20, e21, hm⟩ := ref_t hm
  refine r_getR (np := 91) G hM (shp_lt g0 (by decide)) g0 e21 fdX12_30 lkX12_60 dX12_putsLeast_88 rfl ?_
  refine r_bipush (np := 93) G 8 dX12_putsLeast_91 (by decide) rfl ?_
  obtain ⟨g22, hm⟩ := g_t hm
  refine r_laload (np := 94) G hM g22 rfl dX12_putsLeast_93 rfl ?_
  refine r_lcmp_eq (np := 98) (tgt := 114) G rfl rfl dX12_putsLeast_94 dX12_putsLeast_95 (by decide) rfl (fun h23 => ?_) (fun h23 => ?_)
  · have hm := b_t h23 hm
    exact wX12_putsLeast_B114 l E out G hr hk v0 v1 g0 a6 _ _ _ _ hm hM (lv_sub hl [2, 1] rfl)
  · have hm := b_f h23 hm
    refine r_aload_n (np := 99) G hl 2 rfl dX12_putsLeast_98 rfl rfl ?_
    refine r_bipush (np := 101) G 8 dX12_putsLeast_99 (by decide) rfl ?_
    refine r_lload (np := 103) G hl 0 rfl dX12_putsLeast_101 rfl ?_
    refine r_aload_n (np := 104) G hl 2 rfl dX12_putsLeast_103 rfl rfl ?_
    obtain ⟨r24, e25, hm⟩ := ref_t hm
    refine r_getR (np := 107) G hM (shp_lt g0 (by decide)) g0 e25 fdX12_30 lkX12_60 dX12_putsLeast_104 rfl ?_
    refine r_bipush (np := 109) G 8 dX12_putsLeast_107 (by decide) rfl ?_
    obtain ⟨g26, hm⟩ := g_t hm
    refine r_laload (np := 110) G hM g26 rfl dX12_putsLeast_109 rfl ?_
    obtain ⟨g27, hm⟩ := g_t hm
    refine r_ldiv (np := 111) G g27 dX12_putsLeast_110 rfl ?_
    obtain ⟨b28, s29, e30, hm⟩ := call_t hm
    refine m_callVV (np := 114) G hM hl.1 [vI 8, vL ((wL a18).tdiv (wL (s15 r24 8)))] (qX12_scales l E s15 v0 8 ((wL a18).tdiv (wL (s15 r24 8))) _ e30) myX12_scales (shp_lt (gX12_scales e30) (by decide)) (gX12_scales e30) rfl (by decide) lkX12_367 ⟨Nat.le_of_ble_eq_true rfl, Nat.le_of_ble_eq_true rfl⟩ ⟨Nat.le_of_ble_eq_true rfl, Nat.le_of_ble_eq_true rfl⟩ [] rfl (Nat.le_of_ble_eq_true rfl) dX12_putsLeast_111 rfl (fun H locs hM => ?_)
    exact wX12_putsLeast_B114 l E out G hr hk v0 v1 g0 a6 _ _ _ _ hm hM (lv_sub hl [2, 1] rfl)
set_option maxRecDepth 100000 in
set_option maxHeartbeats 4000000 in
theorem wX12_putsLeast_L32 (l : Launch) (E : mE) (out : Int × mSt) {p : Program} {e : Env} {s : State} {m : MethodId} {args : Array Value} {below : List Frame} {meth : Method} {c : Code} (G : CallFix p m c cX12_putsLeast 9 s args mTs RX12) (hr : meth.sig.returnType = (some .boolean)) (hk : meth.locks = false) (v0 : Nat) (v1 : Int) (v3 : Int) (g0 : isC v0 11) (x55 : mSt → Option (Int × mSt)) (hx55 : ∀ (σ : mSt) (H : Heap) (locs : List Loc) (ls : Array Slot), x55 σ = some out → mM (mA E 276) E 276 σ s H locs → lv_has ls 9 [(0, .ref (eA E v0)), (1, vL v1), (3, vL v3)] → mGo l p e 4 112 s m args below meth c E (some (vI out.1)) out.2 H locs (F0 m 55 ls [])) : ∀ (n : Nat) (v5 : Int) (σ : mSt) (H : Heap) (locs : List Loc) (ls : Array Slot), mX12_putsLeast_L32 v0 v1 v3 x55 n v5 σ = some out → mM (mA E 276) E 276 σ s H locs → lv_has ls 9 [(0, .ref (eA E v0)), (1, vL v1), (3, vL v3), (5, vI v5)] → mGo l p e 4 112 s m args below meth c E (some (vI out.1)) out.2 H locs (F0 m 32 ls []) := by
  intro n
  induction n with
  | zero =>
    intro v5 σ H locs ls hm hM hl
    exact absurd hm (by rw [mX12_putsLeast_L32.eq_1]; exact fun h => nomatch h)
  | succ n ih =>
    intro v5 σ H locs ls hm hM hl
    rw [mX12_putsLeast_L32.eq_2] at hm
    refine r_iload (np := 34) G hl 3 rfl dX12_putsLeast_32 rfl ?_
    refine r_iconst (np := 35) G 4 dX12_putsLeast_34 rfl ?_
    refine r_icmp_ge (np := 38) (tgt := 55) G rfl (wIk 4 rfl) dX12_putsLeast_35 (by decide) rfl (fun h31 => ?_) (fun h31 => ?_)
    · have hm := b_t h31 hm
      exact hx55 _ _ _ _ hm hM (lv_sub hl [0, 1, 2] rfl)
    · have hm := b_f h31 hm
      refine r_aload_n (np := 39) G hl 0 rfl dX12_putsLeast_38 rfl rfl ?_
      obtain ⟨r32, e33, hm⟩ := ref_t hm
      refine r_getR (np := 42) G hM (shp_lt g0 (by decide)) g0 e33 fdX12_32 lkX12_66 dX12_putsLeast_39 rfl ?_
      refine r_iload (np := 44) G hl 3 rfl dX12_putsLeast_42 rfl ?_
      refine r_dup2 (np := 45) G dX12_putsLeast_44 rfl rfl rfl ?_
      obtain ⟨g34, hm⟩ := g_t hm
      refine r_laload (np := 46) G hM g34 rfl dX12_putsLeast_45 rfl ?_
      refine r_lload_n (np := 47) G hl 2 rfl dX12_putsLeast_46 rfl rfl ?_
      obtain ⟨g35, hm⟩ := g_t hm
      refine r_ldiv (np := 48) G g35 dX12_putsLeast_47 rfl ?_
      obtain ⟨s36, e37, hm⟩ := bnd_t hm
      refine r_lastore (np := 49) G hM g34 rfl s36 e37 dX12_putsLeast_48 rfl (fun H locs hM => ?_)
      obtain ⟨a38, e39, hm⟩ := bnd_t hm
      refine r_iinc (np := 52) G hl 3 rfl e39 [(5, vI a38), (0, .ref (eA E v0)), (1, vL v1), (3, vL v3)] dX12_putsLeast_49 rfl (by decide) rfl (fun ls hl => ?_)
      refine r_goto (np := 32) G dX12_putsLeast_52 (by decide) ?_
      exact ih a38 _ _ _ _ hm hM (lv_sub hl [1, 2, 3, 0] rfl)
set_option maxRecDepth 100000 in
set_option maxHeartbeats 4000000 in
theorem wX12_putsLeast_B29 (l : Launch) (E : mE) (out : Int × mSt) {p : Program} {e : Env} {s : State} {m : MethodId} {args : Array Value} {below : List Frame} {meth : Method} {c : Code} (G : CallFix p m c cX12_putsLeast 9 s args mTs RX12) (hr : meth.sig.returnType = (some .boolean)) (hk : meth.locks = false) (v0 : Nat) (v1 : Int) (g0 : isC v0 11) : ∀ (v3 : Int) (σ : mSt) (H : Heap) (locs : List Loc) (ls : Array Slot), mX12_putsLeast_B29 v0 v1 v3 σ = some out → mM (mA E 276) E 276 σ s H locs → lv_has ls 9 [(0, .ref (eA E v0)), (1, vL v1), (3, vL v3)] → mGo l p e 4 112 s m args below meth c E (some (vI out.1)) out.2 H locs (F0 m 29 ls []) := by
  intro v3 σ H locs ls hm hM hl
  unfold mX12_putsLeast_B29 at hm
  refine r_iconst (np := 30) G 0 dX12_putsLeast_29 rfl ?_
  refine r_istore (np := 32) G hl rfl [(5, vI 0), (0, .ref (eA E v0)), (1, vL v1), (3, vL v3)] dX12_putsLeast_30 rfl (by decide) rfl (fun ls hl => ?_)
  exact wX12_putsLeast_L32 l E out G hr hk v0 v1 v3 g0 (fun zσ => mX12_putsLeast_B55 v0 v1 v3 zσ) (fun zσ zH zl zs zm zM zv => wX12_putsLeast_B55 l E out G hr hk v0 v1 g0 v3 zσ zH zl zs zm zM zv) mF 0 _ _ _ _ hm hM (lv_sub hl [1, 2, 3, 0] rfl)
set_option maxRecDepth 100000 in
set_option maxHeartbeats 4000000 in
theorem wX12_putsLeast_L5 (l : Launch) (E : mE) (out : Int × mSt) {p : Program} {e : Env} {s : State} {m : MethodId} {args : Array Value} {below : List Frame} {meth : Method} {c : Code} (G : CallFix p m c cX12_putsLeast 9 s args mTs RX12) (hr : meth.sig.returnType = (some .boolean)) (hk : meth.locks = false) (v0 : Nat) (v1 : Int) (g0 : isC v0 11) (x29 : Int → mSt → Option (Int × mSt)) (hx29 : ∀ (v3 : Int) (σ : mSt) (H : Heap) (locs : List Loc) (ls : Array Slot), x29 v3 σ = some out → mM (mA E 276) E 276 σ s H locs → lv_has ls 9 [(0, .ref (eA E v0)), (1, vL v1), (3, vL v3)] → mGo l p e 4 112 s m args below meth c E (some (vI out.1)) out.2 H locs (F0 m 29 ls [])) : ∀ (n : Nat) (v3 : Int) (v5 : Int) (σ : mSt) (H : Heap) (locs : List Loc) (ls : Array Slot), mX12_putsLeast_L5 v0 v1 x29 n v3 v5 σ = some out → mM (mA E 276) E 276 σ s H locs → lv_has ls 9 [(0, .ref (eA E v0)), (1, vL v1), (3, vL v3), (5, vI v5)] → mGo l p e 4 112 s m args below meth c E (some (vI out.1)) out.2 H locs (F0 m 5 ls []) := by
  intro n
  induction n with
  | zero =>
    intro v3 v5 σ H locs ls hm hM hl
    exact absurd hm (by rw [mX12_putsLeast_L5.eq_1]; exact fun h => nomatch h)
  | succ n ih =>
    intro v3 v5 σ H locs ls hm hM hl
    rw [mX12_putsLeast_L5.eq_2] at hm
    refine r_iload (np := 7) G hl 3 rfl dX12_putsLeast_5 rfl ?_
    refine r_iconst (np := 8) G 4 dX12_putsLeast_7 rfl ?_
    refine r_icmp_ge (np := 11) (tgt := 29) G rfl (wIk 4 rfl) dX12_putsLeast_8 (by decide) rfl (fun h40 => ?_) (fun h40 => ?_)
    · have hm := b_t h40 hm
      exact hx29 v3 _ _ _ _ hm hM (lv_sub hl [0, 1, 2] rfl)
    · have hm := b_f h40 hm
      refine r_lload_n (np := 12) G hl 2 rfl dX12_putsLeast_11 rfl rfl ?_
      refine r_aload_n (np := 13) G hl 0 rfl dX12_putsLeast_12 rfl rfl ?_
      obtain ⟨r41, e42, hm⟩ := ref_t hm
      refine r_getR (np := 16) G hM (shp_lt g0 (by decide)) g0 e42 fdX12_32 lkX12_66 dX12_putsLeast_13 rfl ?_
      refine r_iload (np := 18) G hl 3 rfl dX12_putsLeast_16 rfl ?_
      obtain ⟨g43, hm⟩ := g_t hm
      refine r_laload (np := 19) G hM g43 rfl dX12_putsLeast_18 rfl ?_
      obtain ⟨b44, s45, e46, hm⟩ := call_t hm
      refine m_callSL (np := 22) G hM hl.1 [vL v3, vL (σ r41 (wI v5).toNat)] (qX12_common l E σ v3 (σ r41 (wI v5).toNat) _ e46) myX12_common lkX12_280 ⟨Nat.le_of_ble_eq_true rfl, Nat.le_of_ble_eq_true rfl⟩ ⟨Nat.le_of_ble_eq_true rfl, Nat.le_of_ble_eq_true rfl⟩ [] rfl (Nat.le_of_ble_eq_true rfl) dX12_putsLeast_19 rfl (fun H locs hM => ?_)
      refine r_lstore_n (np := 23) G hl rfl [(3, vL b44), (0, .ref (eA E v0)), (1, vL v1), (5, vI v5)] dX12_putsLeast_22 rfl rfl (by decide) rfl (fun ls hl => ?_)
      obtain ⟨a47, e48, hm⟩ := bnd_t hm
      refine r_iinc (np := 26) G hl 3 rfl e48 [(5, vI a47), (3, vL b44), (0, .ref (eA E v0)), (1, vL v1)] dX12_putsLeast_23 rfl (by decide) rfl (fun ls hl => ?_)
      refine r_goto (np := 5) G dX12_putsLeast_26 (by decide) ?_
      exact ih b44 a47 _ _ _ _ hm hM (lv_sub hl [2, 3, 1, 0] rfl)
set_option maxRecDepth 100000 in
set_option maxHeartbeats 4000000 in
theorem qX12_putsLeast (l : Launch) (E : mE) (σ : mSt) (v0 : Nat) (v1 : Int) (out : Int × mSt) (hm : mX12_putsLeast v0 v1 σ = some out) : mMet l yX12_putsLeast cX12_putsLeast 9 (some .boolean) 4 112 E 276 [.ref (eA E v0), vL v1] σ (some (vI out.1)) out.2 := by
  unfold mX12_putsLeast at hm
  obtain ⟨g0, hm⟩ := g_t hm
  refine m_entry (by decide +kernel) (Nat.le_of_ble_eq_true rfl) (fun p e s m args below meth c G hr hk hM ls hl => ?_)
  have G : CallFix p m c cX12_putsLeast 9 s args mTs RX12 := G
  have hl : lv_has ls 9 [(0, .ref (eA E v0)), (1, vL v1)] := hl
  refine r_lload_n (np := 1) G hl 1 rfl dX12_putsLeast_0 rfl rfl ?_
  refine r_lstore_n (np := 2) G hl rfl [(3, vL v1), (0, .ref (eA E v0)), (1, vL v1)] dX12_putsLeast_1 rfl rfl (by decide) rfl (fun ls hl => ?_)
  refine r_iconst (np := 3) G 0 dX12_putsLeast_2 rfl ?_
  refine r_istore (np := 5) G hl rfl [(5, vI 0), (3, vL v1), (0, .ref (eA E v0)), (1, vL v1)] dX12_putsLeast_3 rfl (by decide) rfl (fun ls hl => ?_)
  exact wX12_putsLeast_L5 l E out G hr hk v0 v1 g0 (fun z3 zσ => mX12_putsLeast_B29 v0 v1 z3 zσ) (fun z3 zσ zH zl zs zm zM zv => wX12_putsLeast_B29 l E out G hr hk v0 v1 g0 z3 zσ zH zl zs zm zM zv) mF v1 0 _ _ _ _ hm hM (lv_sub hl [2, 3, 1, 0] rfl)
theorem gX12_putsLeast {v0 : Nat} {v1 : Int} {σ : mSt} {out : Int × mSt} (hm : mX12_putsLeast v0 v1 σ = some out) : isC v0 11 := (g_t hm).1
