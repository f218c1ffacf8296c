/-! THE JDK'S METHODS by contract (laid by jdk1.py) -/
theorem jM.sub {E : mE} {lo : Nat} {ws ws2 : va_W} {xs : List sX} {s : State} {H : Heap} {locs : List Loc} (h : jM E lo ws xs s H locs) (is : List Nat) (hn : va_nd is = true) (h1 : is.filterMap (fun i => ws[i]?) = ws2) (h2 : is.map (fun i => ws[i]?) = ws2.map some) : jM E lo ws2 xs s H locs :=
  ⟨h.1, h.2.1, h.2.2.1, h.2.2.2.1.sub is h1, h.2.2.2.2.1.sub is hn h2, h.2.2.2.2.2⟩
/-- the bytes of a builder, their room -/
def bK (bs : List Nat) (m : Nat) (f : Nat → Int32) : Prop := bs.length ≤ m ∧ m ≤ 700 ∧ sb_Fit f ∧ jT bs f
theorem ljJ0_38 : Cond.fieldLink RJ0 38 "java/lang/String" "COMPACT_STRINGS" "Z" ∈ mTs := mTs_in 463 (by decide +kernel) (by decide +kernel)
theorem ljJ0_15 : Cond.fieldLink RJ0 15 "java/lang/String" "coder" "B" ∈ mTs := mTs_in 1002 (by decide +kernel) (by decide +kernel)
theorem ljJ0_9 : Cond.fieldLink RJ0 9 "java/lang/String" "value" "[B" ∈ mTs := mTs_in 1001 (by decide +kernel) (by decide +kernel)
theorem ljJ0_335 : Cond.methodLink RJ0 335 yJ0_coder_7d493 ∈ mTs := mTs_in 459 (by decide +kernel) (by decide +kernel)
theorem jbJ0_coder_7d493 : mY yJ0_coder_7d493 cJ0_coder_7d493 1 (some .byte) 0 := ⟨mTs_in 462 (by decide +kernel) (by decide +kernel), mTs_in 43 (by decide +kernel) (by decide +kernel), ⟨by decide, by decide⟩, by decide +kernel⟩
theorem jiJ0_coder_7d493 : Cond.instanceMethod yJ0_coder_7d493 ∈ mTs := mTs_in 460 (by decide +kernel) (by decide +kernel)
theorem jvJ0_coder_7d493 : jYV "java/lang/String" yJ0_coder_7d493 cJ0_coder_7d493 1 (some .byte) 0 := ⟨jbJ0_coder_7d493, jiJ0_coder_7d493, Or.inl (mTs_in 461 (by decide +kernel) (by decide +kernel))⟩
theorem ljJ8_194 : Cond.methodLink RJ8 194 yJ9_max_7cf53 ∈ mTs := mTs_in 838 (by decide +kernel) (by decide +kernel)
theorem jbJ9_max_7cf53 : mY yJ9_max_7cf53 cJ9_max_7cf53 2 (some .int) 2 := ⟨mTs_in 840 (by decide +kernel) (by decide +kernel), mTs_in 46 (by decide +kernel) (by decide +kernel), ⟨by decide, by decide⟩, by decide +kernel⟩
theorem jsJ9_max_7cf53 : mYS yJ9_max_7cf53 cJ9_max_7cf53 2 (some .int) 2 := ⟨jbJ9_max_7cf53, mTs_in 839 (by decide +kernel) (by decide +kernel)⟩
theorem kJ8_200 : Cond.constant RJ8 200 2147483639 ∈ mTs := mTs_in 841 (by decide +kernel) (by decide +kernel)
theorem ljJ5_18 : Cond.fieldLink RJ5 18 "java/lang/String" "COMPACT_STRINGS" "Z" ∈ mTs := mTs_in 795 (by decide +kernel) (by decide +kernel)
theorem ljJ5_22t : Cond.fieldLink RJ5 22 (TJ4 1).1 (TJ4 1).2.1 (TJ4 1).2.2.1 ∈ mTs := mTs_in 804 (by decide +kernel) (by decide +kernel)
theorem inJ4 : ∀ w ∈ u_ws RJ4 TJ4 4, w ∈ mTs := mTs_ins _ [807, 809, 811, 813] (by decide +kernel) (by decide +kernel)
theorem jf12_1 : jFld 12 1 RJ4 TJ4 := ⟨rfl, inJ4, by decide⟩
theorem ljJ5_15t : Cond.fieldLink RJ5 15 (TJ4 0).1 (TJ4 0).2.1 (TJ4 0).2.2.1 ∈ mTs := mTs_in 803 (by decide +kernel) (by decide +kernel)
theorem jf12_0 : jFld 12 0 RJ4 TJ4 := ⟨rfl, inJ4, by decide⟩
theorem ljJ5_114 : Cond.methodLink RJ5 114 yJ8_newLength_cabcc ∈ mTs := mTs_in 835 (by decide +kernel) (by decide +kernel)
theorem jbJ8_newLength_cabcc : mY yJ8_newLength_cabcc cJ8_newLength_cabcc 4 (some .int) 3 := ⟨mTs_in 837 (by decide +kernel) (by decide +kernel), mTs_in 45 (by decide +kernel) (by decide +kernel), ⟨by decide, by decide⟩, by decide +kernel⟩
theorem jsJ8_newLength_cabcc : mYS yJ8_newLength_cabcc cJ8_newLength_cabcc 4 (some .int) 3 := ⟨jbJ8_newLength_cabcc, mTs_in 836 (by decide +kernel) (by decide +kernel)⟩
theorem kJ5_39 : Cond.constant RJ5 39 2147483647 ∈ mTs := mTs_in 845 (by decide +kernel) (by decide +kernel)
theorem ljJ7_304 : Cond.methodLink RJ7 304 yJ9_min_7cf53 ∈ mTs := mTs_in 856 (by decide +kernel) (by decide +kernel)
theorem jbJ9_min_7cf53 : mY yJ9_min_7cf53 cJ9_min_7cf53 2 (some .int) 2 := ⟨mTs_in 858 (by decide +kernel) (by decide +kernel), mTs_in 46 (by decide +kernel) (by decide +kernel), ⟨by decide, by decide⟩, by decide +kernel⟩
theorem jsJ9_min_7cf53 : mYS yJ9_min_7cf53 cJ9_min_7cf53 2 (some .int) 2 := ⟨jbJ9_min_7cf53, mTs_in 857 (by decide +kernel) (by decide +kernel)⟩
theorem ljJ7_150 : Cond.methodLink RJ7 150 arraycopyName ∈ mTs := mTs_in 859 (by decide +kernel) (by decide +kernel)
theorem ljJ5_104 : Cond.methodLink RJ5 104 yJ5_newCapacity_0f7a4 ∈ mTs := mTs_in 831 (by decide +kernel) (by decide +kernel)
theorem jbJ5_newCapacity_0f7a4 : mY yJ5_newCapacity_0f7a4 cJ5_newCapacity_0f7a4 6 (some .int) 1 := ⟨mTs_in 834 (by decide +kernel) (by decide +kernel), mTs_in 41 (by decide +kernel) (by decide +kernel), ⟨by decide, by decide⟩, by decide +kernel⟩
theorem jiJ5_newCapacity_0f7a4 : Cond.instanceMethod yJ5_newCapacity_0f7a4 ∈ mTs := mTs_in 833 (by decide +kernel) (by decide +kernel)
theorem jvJ5_newCapacity_0f7a4 : jYV "java/lang/StringBuilder" yJ5_newCapacity_0f7a4 cJ5_newCapacity_0f7a4 6 (some .int) 1 := ⟨jbJ5_newCapacity_0f7a4, jiJ5_newCapacity_0f7a4, Or.inr ⟨mTs_in 787 (by decide +kernel) (by decide +kernel), mTs_in 832 (by decide +kernel) (by decide +kernel)⟩⟩
theorem ljJ5_108 : Cond.methodLink RJ5 108 yJ7_copyOf_9075b ∈ mTs := mTs_in 846 (by decide +kernel) (by decide +kernel)
theorem jbJ7_copyOf_9075b : mY yJ7_copyOf_9075b cJ7_copyOf_9075b 3 (some (.array .byte)) 2 := ⟨mTs_in 848 (by decide +kernel) (by decide +kernel), mTs_in 47 (by decide +kernel) (by decide +kernel), ⟨by decide, by decide⟩, by decide +kernel⟩
theorem jsJ7_copyOf_9075b : mYS yJ7_copyOf_9075b cJ7_copyOf_9075b 3 (some (.array .byte)) 2 := ⟨jbJ7_copyOf_9075b, mTs_in 847 (by decide +kernel) (by decide +kernel)⟩
theorem dJ9_max_7cf53_0 : decode cJ9_max_7cf53 0 = .ok (.iload_n 0, 1) := by decide +kernel
theorem dJ9_max_7cf53_1 : decode cJ9_max_7cf53 1 = .ok (.iload_n 1, 1) := by decide +kernel
theorem dJ9_max_7cf53_2 : decode cJ9_max_7cf53 2 = .ok (.if_icmp .lt 7, 3) := by decide +kernel
theorem dJ9_max_7cf53_5 : decode cJ9_max_7cf53 5 = .ok (.iload_n 0, 1) := by decide +kernel
theorem dJ9_max_7cf53_6 : decode cJ9_max_7cf53 6 = .ok (.goto 4, 3) := by decide +kernel
theorem dJ9_max_7cf53_9 : decode cJ9_max_7cf53 9 = .ok (.iload_n 1, 1) := by decide +kernel
theorem dJ9_max_7cf53_10 : decode cJ9_max_7cf53 10 = .ok (.ireturn, 1) := by decide +kernel
theorem dJ9_min_7cf53_0 : decode cJ9_min_7cf53 0 = .ok (.iload_n 0, 1) := by decide +kernel
theorem dJ9_min_7cf53_1 : decode cJ9_min_7cf53 1 = .ok (.iload_n 1, 1) := by decide +kernel
theorem dJ9_min_7cf53_2 : decode cJ9_min_7cf53 2 = .ok (.if_icmp .gt 7, 3) := by decide +kernel
theorem dJ9_min_7cf53_5 : decode cJ9_min_7cf53 5 = .ok (.iload_n 0, 1) := by decide +kernel
theorem dJ9_min_7cf53_6 : decode cJ9_min_7cf53 6 = .ok (.goto 4, 3) := by decide +kernel
theorem dJ9_min_7cf53_9 : decode cJ9_min_7cf53 9 = .ok (.iload_n 1, 1) := by decide +kernel
theorem dJ9_min_7cf53_10 : decode cJ9_min_7cf53 10 = .ok (.ireturn, 1) := by decide +kernel
theorem dJ8_newLength_cabcc_0 : decode cJ8_newLength_cabcc 0 = .ok (.iload_n 0, 1) := by decide +kernel
theorem dJ8_newLength_cabcc_1 : decode cJ8_newLength_cabcc 1 = .ok (.iload_n 1, 1) := by decide +kernel
theorem dJ8_newLength_cabcc_2 : decode cJ8_newLength_cabcc 2 = .ok (.iload_n 2, 1) := by decide +kernel
theorem dJ8_newLength_cabcc_3 : decode cJ8_newLength_cabcc 3 = .ok (.invokestatic 194, 3) := by decide +kernel
theorem dJ8_newLength_cabcc_6 : decode cJ8_newLength_cabcc 6 = .ok (.iadd, 1) := by decide +kernel
theorem dJ8_newLength_cabcc_7 : decode cJ8_newLength_cabcc 7 = .ok (.istore_n 3, 1) := by decide +kernel
theorem dJ8_newLength_cabcc_8 : decode cJ8_newLength_cabcc 8 = .ok (.iconst 0, 1) := by decide +kernel
theorem dJ8_newLength_cabcc_9 : decode cJ8_newLength_cabcc 9 = .ok (.iload_n 3, 1) := by decide +kernel
theorem dJ8_newLength_cabcc_10 : decode cJ8_newLength_cabcc 10 = .ok (.if_icmp .ge 11, 3) := by decide +kernel
theorem dJ8_newLength_cabcc_13 : decode cJ8_newLength_cabcc 13 = .ok (.iload_n 3, 1) := by decide +kernel
theorem dJ8_newLength_cabcc_14 : decode cJ8_newLength_cabcc 14 = .ok (.ldc 200, 2) := by decide +kernel
theorem dJ8_newLength_cabcc_16 : decode cJ8_newLength_cabcc 16 = .ok (.if_icmp .gt 5, 3) := by decide +kernel
theorem dJ8_newLength_cabcc_19 : decode cJ8_newLength_cabcc 19 = .ok (.iload_n 3, 1) := by decide +kernel
theorem dJ8_newLength_cabcc_20 : decode cJ8_newLength_cabcc 20 = .ok (.ireturn, 1) := by decide +kernel
theorem dJ8_newLength_cabcc_21 : decode cJ8_newLength_cabcc 21 = .ok (.iload_n 0, 1) := by decide +kernel
theorem dJ8_newLength_cabcc_22 : decode cJ8_newLength_cabcc 22 = .ok (.iload_n 1, 1) := by decide +kernel
theorem dJ8_newLength_cabcc_23 : decode cJ8_newLength_cabcc 23 = .ok (.invokestatic 201, 3) := by decide +kernel
theorem dJ8_newLength_cabcc_26 : decode cJ8_newLength_cabcc 26 = .ok (.ireturn, 1) := by decide +kernel
theorem dJ5_isLatin1_aae02_0 : decode cJ5_isLatin1_aae02 0 = .ok (.getstatic 18, 3) := by decide +kernel
theorem dJ5_isLatin1_aae02_3 : decode cJ5_isLatin1_aae02 3 = .ok (.ifCond .eq 14, 3) := by decide +kernel
theorem dJ5_isLatin1_aae02_6 : decode cJ5_isLatin1_aae02 6 = .ok (.aload_n 0, 1) := by decide +kernel
theorem dJ5_isLatin1_aae02_7 : decode cJ5_isLatin1_aae02 7 = .ok (.getfield 22, 3) := by decide +kernel
theorem dJ5_isLatin1_aae02_10 : decode cJ5_isLatin1_aae02 10 = .ok (.ifCond .ne 7, 3) := by decide +kernel
theorem dJ5_isLatin1_aae02_13 : decode cJ5_isLatin1_aae02 13 = .ok (.iconst 1, 1) := by decide +kernel
theorem dJ5_isLatin1_aae02_14 : decode cJ5_isLatin1_aae02 14 = .ok (.goto 4, 3) := by decide +kernel
theorem dJ5_isLatin1_aae02_17 : decode cJ5_isLatin1_aae02 17 = .ok (.iconst 0, 1) := by decide +kernel
theorem dJ5_isLatin1_aae02_18 : decode cJ5_isLatin1_aae02 18 = .ok (.ireturn, 1) := by decide +kernel
theorem dJ5_newCapacity_0f7a4_0 : decode cJ5_newCapacity_0f7a4 0 = .ok (.aload_n 0, 1) := by decide +kernel
theorem dJ5_newCapacity_0f7a4_1 : decode cJ5_newCapacity_0f7a4 1 = .ok (.getfield 15, 3) := by decide +kernel
theorem dJ5_newCapacity_0f7a4_4 : decode cJ5_newCapacity_0f7a4 4 = .ok (.arraylength, 1) := by decide +kernel
theorem dJ5_newCapacity_0f7a4_5 : decode cJ5_newCapacity_0f7a4 5 = .ok (.istore_n 2, 1) := by decide +kernel
theorem dJ5_newCapacity_0f7a4_6 : decode cJ5_newCapacity_0f7a4 6 = .ok (.iload_n 1, 1) := by decide +kernel
theorem dJ5_newCapacity_0f7a4_7 : decode cJ5_newCapacity_0f7a4 7 = .ok (.aload_n 0, 1) := by decide +kernel
theorem dJ5_newCapacity_0f7a4_8 : decode cJ5_newCapacity_0f7a4 8 = .ok (.getfield 22, 3) := by decide +kernel
theorem dJ5_newCapacity_0f7a4_11 : decode cJ5_newCapacity_0f7a4 11 = .ok (.ishl, 1) := by decide +kernel
theorem dJ5_newCapacity_0f7a4_12 : decode cJ5_newCapacity_0f7a4 12 = .ok (.istore_n 3, 1) := by decide +kernel
theorem dJ5_newCapacity_0f7a4_13 : decode cJ5_newCapacity_0f7a4 13 = .ok (.iload_n 3, 1) := by decide +kernel
theorem dJ5_newCapacity_0f7a4_14 : decode cJ5_newCapacity_0f7a4 14 = .ok (.iload_n 2, 1) := by decide +kernel
theorem dJ5_newCapacity_0f7a4_15 : decode cJ5_newCapacity_0f7a4 15 = .ok (.isub, 1) := by decide +kernel
theorem dJ5_newCapacity_0f7a4_16 : decode cJ5_newCapacity_0f7a4 16 = .ok (.istore 4, 2) := by decide +kernel
theorem dJ5_newCapacity_0f7a4_18 : decode cJ5_newCapacity_0f7a4 18 = .ok (.iload_n 2, 1) := by decide +kernel
theorem dJ5_newCapacity_0f7a4_19 : decode cJ5_newCapacity_0f7a4 19 = .ok (.iload 4, 2) := by decide +kernel
theorem dJ5_newCapacity_0f7a4_21 : decode cJ5_newCapacity_0f7a4 21 = .ok (.iload_n 2, 1) := by decide +kernel
theorem dJ5_newCapacity_0f7a4_22 : decode cJ5_newCapacity_0f7a4 22 = .ok (.iconst 2, 1) := by decide +kernel
theorem dJ5_newCapacity_0f7a4_23 : decode cJ5_newCapacity_0f7a4 23 = .ok (.aload_n 0, 1) := by decide +kernel
theorem dJ5_newCapacity_0f7a4_24 : decode cJ5_newCapacity_0f7a4 24 = .ok (.getfield 22, 3) := by decide +kernel
theorem dJ5_newCapacity_0f7a4_27 : decode cJ5_newCapacity_0f7a4 27 = .ok (.ishl, 1) := by decide +kernel
theorem dJ5_newCapacity_0f7a4_28 : decode cJ5_newCapacity_0f7a4 28 = .ok (.iadd, 1) := by decide +kernel
theorem dJ5_newCapacity_0f7a4_29 : decode cJ5_newCapacity_0f7a4 29 = .ok (.invokestatic 114, 3) := by decide +kernel
theorem dJ5_newCapacity_0f7a4_32 : decode cJ5_newCapacity_0f7a4 32 = .ok (.istore 5, 2) := by decide +kernel
theorem dJ5_newCapacity_0f7a4_34 : decode cJ5_newCapacity_0f7a4 34 = .ok (.iload 5, 2) := by decide +kernel
theorem dJ5_newCapacity_0f7a4_36 : decode cJ5_newCapacity_0f7a4 36 = .ok (.ldc 39, 2) := by decide +kernel
theorem dJ5_newCapacity_0f7a4_38 : decode cJ5_newCapacity_0f7a4 38 = .ok (.if_icmp .ne 13, 3) := by decide +kernel
theorem dJ5_newCapacity_0f7a4_41 : decode cJ5_newCapacity_0f7a4 41 = .ok (.new 120, 3) := by decide +kernel
theorem dJ5_newCapacity_0f7a4_44 : decode cJ5_newCapacity_0f7a4 44 = .ok (.dup, 1) := by decide +kernel
theorem dJ5_newCapacity_0f7a4_45 : decode cJ5_newCapacity_0f7a4 45 = .ok (.ldc 122, 2) := by decide +kernel
theorem dJ5_newCapacity_0f7a4_47 : decode cJ5_newCapacity_0f7a4 47 = .ok (.invokespecial 124, 3) := by decide +kernel
theorem dJ5_newCapacity_0f7a4_50 : decode cJ5_newCapacity_0f7a4 50 = .ok (.athrow, 1) := by decide +kernel
theorem dJ5_newCapacity_0f7a4_51 : decode cJ5_newCapacity_0f7a4 51 = .ok (.iload 5, 2) := by decide +kernel
theorem dJ5_newCapacity_0f7a4_53 : decode cJ5_newCapacity_0f7a4 53 = .ok (.aload_n 0, 1) := by decide +kernel
theorem dJ5_newCapacity_0f7a4_54 : decode cJ5_newCapacity_0f7a4 54 = .ok (.getfield 22, 3) := by decide +kernel
theorem dJ5_newCapacity_0f7a4_57 : decode cJ5_newCapacity_0f7a4 57 = .ok (.ishr, 1) := by decide +kernel
theorem dJ5_newCapacity_0f7a4_58 : decode cJ5_newCapacity_0f7a4 58 = .ok (.ireturn, 1) := by decide +kernel
theorem dJ7_copyOf_9075b_0 : decode cJ7_copyOf_9075b 0 = .ok (.iload_n 1, 1) := by decide +kernel
theorem dJ7_copyOf_9075b_1 : decode cJ7_copyOf_9075b 1 = .ok (.aload_n 0, 1) := by decide +kernel
theorem dJ7_copyOf_9075b_2 : decode cJ7_copyOf_9075b 2 = .ok (.arraylength, 1) := by decide +kernel
theorem dJ7_copyOf_9075b_3 : decode cJ7_copyOf_9075b 3 = .ok (.if_icmp .ne 11, 3) := by decide +kernel
theorem dJ7_copyOf_9075b_6 : decode cJ7_copyOf_9075b 6 = .ok (.aload_n 0, 1) := by decide +kernel
theorem dJ7_copyOf_9075b_7 : decode cJ7_copyOf_9075b 7 = .ok (.invokevirtual 310, 3) := by decide +kernel
theorem dJ7_copyOf_9075b_10 : decode cJ7_copyOf_9075b 10 = .ok (.checkcast 311, 3) := by decide +kernel
theorem dJ7_copyOf_9075b_13 : decode cJ7_copyOf_9075b 13 = .ok (.areturn, 1) := by decide +kernel
theorem dJ7_copyOf_9075b_14 : decode cJ7_copyOf_9075b 14 = .ok (.iload_n 1, 1) := by decide +kernel
theorem dJ7_copyOf_9075b_15 : decode cJ7_copyOf_9075b 15 = .ok (.newarray .byte, 2) := by decide +kernel
theorem dJ7_copyOf_9075b_17 : decode cJ7_copyOf_9075b 17 = .ok (.astore_n 2, 1) := by decide +kernel
theorem dJ7_copyOf_9075b_18 : decode cJ7_copyOf_9075b 18 = .ok (.aload_n 0, 1) := by decide +kernel
theorem dJ7_copyOf_9075b_19 : decode cJ7_copyOf_9075b 19 = .ok (.iconst 0, 1) := by decide +kernel
theorem dJ7_copyOf_9075b_20 : decode cJ7_copyOf_9075b 20 = .ok (.aload_n 2, 1) := by decide +kernel
theorem dJ7_copyOf_9075b_21 : decode cJ7_copyOf_9075b 21 = .ok (.iconst 0, 1) := by decide +kernel
theorem dJ7_copyOf_9075b_22 : decode cJ7_copyOf_9075b 22 = .ok (.aload_n 0, 1) := by decide +kernel
theorem dJ7_copyOf_9075b_23 : decode cJ7_copyOf_9075b 23 = .ok (.arraylength, 1) := by decide +kernel
theorem dJ7_copyOf_9075b_24 : decode cJ7_copyOf_9075b 24 = .ok (.iload_n 1, 1) := by decide +kernel
theorem dJ7_copyOf_9075b_25 : decode cJ7_copyOf_9075b 25 = .ok (.invokestatic 304, 3) := by decide +kernel
theorem dJ7_copyOf_9075b_28 : decode cJ7_copyOf_9075b 28 = .ok (.invokestatic 150, 3) := by decide +kernel
theorem dJ7_copyOf_9075b_31 : decode cJ7_copyOf_9075b 31 = .ok (.aload_n 2, 1) := by decide +kernel
theorem dJ7_copyOf_9075b_32 : decode cJ7_copyOf_9075b 32 = .ok (.areturn, 1) := by decide +kernel
theorem dJ5_ensureCapacityInternal_d00df_0 : decode cJ5_ensureCapacityInternal_d00df 0 = .ok (.aload_n 0, 1) := by decide +kernel
theorem dJ5_ensureCapacityInternal_d00df_1 : decode cJ5_ensureCapacityInternal_d00df 1 = .ok (.getfield 15, 3) := by decide +kernel
theorem dJ5_ensureCapacityInternal_d00df_4 : decode cJ5_ensureCapacityInternal_d00df 4 = .ok (.arraylength, 1) := by decide +kernel
theorem dJ5_ensureCapacityInternal_d00df_5 : decode cJ5_ensureCapacityInternal_d00df 5 = .ok (.aload_n 0, 1) := by decide +kernel
theorem dJ5_ensureCapacityInternal_d00df_6 : decode cJ5_ensureCapacityInternal_d00df 6 = .ok (.getfield 22, 3) := by decide +kernel
theorem dJ5_ensureCapacityInternal_d00df_9 : decode cJ5_ensureCapacityInternal_d00df 9 = .ok (.ishr, 1) := by decide +kernel
theorem dJ5_ensureCapacityInternal_d00df_10 : decode cJ5_ensureCapacityInternal_d00df 10 = .ok (.istore_n 2, 1) := by decide +kernel
theorem dJ5_ensureCapacityInternal_d00df_11 : decode cJ5_ensureCapacityInternal_d00df 11 = .ok (.iload_n 1, 1) := by decide +kernel
theorem dJ5_ensureCapacityInternal_d00df_12 : decode cJ5_ensureCapacityInternal_d00df 12 = .ok (.iload_n 2, 1) := by decide +kernel
theorem dJ5_ensureCapacityInternal_d00df_13 : decode cJ5_ensureCapacityInternal_d00df 13 = .ok (.isub, 1) := by decide +kernel
theorem dJ5_ensureCapacityInternal_d00df_14 : decode cJ5_ensureCapacityInternal_d00df 14 = .ok (.ifCond .le 24, 3) := by decide +kernel
theorem dJ5_ensureCapacityInternal_d00df_17 : decode cJ5_ensureCapacityInternal_d00df 17 = .ok (.aload_n 0, 1) := by decide +kernel
theorem dJ5_ensureCapacityInternal_d00df_18 : decode cJ5_ensureCapacityInternal_d00df 18 = .ok (.aload_n 0, 1) := by decide +kernel
theorem dJ5_ensureCapacityInternal_d00df_19 : decode cJ5_ensureCapacityInternal_d00df 19 = .ok (.getfield 15, 3) := by decide +kernel
theorem dJ5_ensureCapacityInternal_d00df_22 : decode cJ5_ensureCapacityInternal_d00df 22 = .ok (.aload_n 0, 1) := by decide +kernel
theorem dJ5_ensureCapacityInternal_d00df_23 : decode cJ5_ensureCapacityInternal_d00df 23 = .ok (.iload_n 1, 1) := by decide +kernel
theorem dJ5_ensureCapacityInternal_d00df_24 : decode cJ5_ensureCapacityInternal_d00df 24 = .ok (.invokevirtual 104, 3) := by decide +kernel
theorem dJ5_ensureCapacityInternal_d00df_27 : decode cJ5_ensureCapacityInternal_d00df 27 = .ok (.aload_n 0, 1) := by decide +kernel
theorem dJ5_ensureCapacityInternal_d00df_28 : decode cJ5_ensureCapacityInternal_d00df 28 = .ok (.getfield 22, 3) := by decide +kernel
theorem dJ5_ensureCapacityInternal_d00df_31 : decode cJ5_ensureCapacityInternal_d00df 31 = .ok (.ishl, 1) := by decide +kernel
theorem dJ5_ensureCapacityInternal_d00df_32 : decode cJ5_ensureCapacityInternal_d00df 32 = .ok (.invokestatic 108, 3) := by decide +kernel
theorem dJ5_ensureCapacityInternal_d00df_35 : decode cJ5_ensureCapacityInternal_d00df 35 = .ok (.putfield 15, 3) := by decide +kernel
theorem dJ5_ensureCapacityInternal_d00df_38 : decode cJ5_ensureCapacityInternal_d00df 38 = .ok (.return_, 1) := by decide +kernel
set_option maxRecDepth 100000 in
set_option maxHeartbeats 1000000 in
theorem qJ0_coder_7d493 (l : Launch) (E : mE) (lo : Nat) (x : sX) (ws : va_W) : jMet l yJ0_coder_7d493 cJ0_coder_7d493 1 (some .byte) 0 12 0 0 E lo [.ref x.1] ws [x] (fun v w => v = some (vI 0) ∧ w = ws) := by
  refine j_entry (by decide +kernel) (Nat.le_of_ble_eq_true rfl) (fun p e s m args below meth c G hr hk hin hJ ls hl => ?_)
  have G : CallFix p m c cJ0_coder_7d493 1 s args mTs RJ0 := G
  have hl : lv_has ls 1 [(0, .ref x.1)] := hl
  refine j_gets1 (np := 3) G hJ ljJ0_38 dJ0_coder_7d493_0 rfl ?_
  refine r_if_eq (np := 6) (tgt := 13) G (wI_eq (by omega) (by omega)) dJ0_coder_7d493_3 (by decide) rfl (fun hc => False.elim (absurd hc (by decide))) (fun hc => ?_)
  refine r_aload_n (np := 7) G hl 0 rfl dJ0_coder_7d493_6 rfl rfl ?_
  refine j_xcod (np := 10) G hJ (x := x) (List.mem_singleton.mpr rfl) ljJ0_15 dJ0_coder_7d493_7 rfl ?_
  refine r_goto (np := 14) G dJ0_coder_7d493_10 (by decide) ?_
  exact j_bret0 G hr hk hJ (⟨rfl, rfl⟩) (Nat.le_of_ble_eq_true rfl) (Nat.le_of_ble_eq_true rfl) dJ0_coder_7d493_14
set_option maxRecDepth 100000 in
set_option maxHeartbeats 1000000 in
theorem qJ0_isLatin1_aae02 (l : Launch) (E : mE) (lo : Nat) (x : sX) (ws : va_W) : jMet l yJ0_isLatin1_aae02 cJ0_isLatin1_aae02 1 (some .boolean) 0 12 0 0 E lo [.ref x.1] ws [x] (fun v w => v = some (vI 1) ∧ w = ws) := by
  refine j_entry (by decide +kernel) (Nat.le_of_ble_eq_true rfl) (fun p e s m args below meth c G hr hk hin hJ ls hl => ?_)
  have G : CallFix p m c cJ0_isLatin1_aae02 1 s args mTs RJ0 := G
  have hl : lv_has ls 1 [(0, .ref x.1)] := hl
  refine j_gets1 (np := 3) G hJ ljJ0_38 dJ0_isLatin1_aae02_0 rfl ?_
  refine r_if_eq (np := 6) (tgt := 17) G (wI_eq (by omega) (by omega)) dJ0_isLatin1_aae02_3 (by decide) rfl (fun hc => False.elim (absurd hc (by decide))) (fun hc => ?_)
  refine r_aload_n (np := 7) G hl 0 rfl dJ0_isLatin1_aae02_6 rfl rfl ?_
  refine j_xcod (np := 10) G hJ (x := x) (List.mem_singleton.mpr rfl) ljJ0_15 dJ0_isLatin1_aae02_7 rfl ?_
  refine r_if_ne (np := 13) (tgt := 17) G (wI_eq (by omega) (by omega)) dJ0_isLatin1_aae02_10 (by decide) rfl (fun hc => False.elim (absurd rfl hc)) (fun hc => ?_)
  refine r_iconst (np := 14) G (1) dJ0_isLatin1_aae02_13 rfl ?_
  refine r_goto (np := 18) G dJ0_isLatin1_aae02_14 (by decide) ?_
  exact j_zret G hr hk hJ (by decide) (⟨rfl, rfl⟩) (Nat.le_of_ble_eq_true rfl) (Nat.le_of_ble_eq_true rfl) dJ0_isLatin1_aae02_18
set_option maxRecDepth 100000 in
set_option maxHeartbeats 1000000 in
theorem qJ0_length_8abf5 (l : Launch) (E : mE) (lo : Nat) (x : sX) (ws : va_W) : jMet l yJ0_length_8abf5 cJ0_length_8abf5 1 (some .int) 1 32 0 0 E lo [.ref x.1] ws [x] (fun v w => v = some (vI (x.2.2.length : Int)) ∧ w = ws) := by
  refine j_entry (by decide +kernel) (Nat.le_of_ble_eq_true rfl) (fun p e s m args below meth c G hr hk hin hJ ls hl => ?_)
  have G : CallFix p m c cJ0_length_8abf5 1 s args mTs RJ0 := G
  have hl : lv_has ls 1 [(0, .ref x.1)] := hl
  refine r_aload_n (np := 1) G hl 0 rfl dJ0_length_8abf5_0 rfl rfl ?_
  refine j_xval (np := 4) G hJ (x := x) (List.mem_singleton.mpr rfl) ljJ0_9 dJ0_length_8abf5_1 rfl ?_
  refine j_xlen (np := 5) G hJ (x := x) (List.mem_singleton.mpr rfl) dJ0_length_8abf5_4 rfl ?_
  refine r_aload_n (np := 6) G hl 0 rfl dJ0_length_8abf5_5 rfl rfl ?_
  refine j_callV (np := 9) G hJ hl.1 [] (qJ0_coder_7d493 l E lo x ws) (fun _ h => h) jvJ0_coder_7d493 ljJ0_335 (fun h => absurd h.2 (by decide +kernel)) (j_recX hJ (List.mem_singleton.mpr rfl)) ⟨(Nat.le_of_ble_eq_true rfl), (Nat.le_of_ble_eq_true rfl)⟩ ⟨(Nat.le_of_ble_eq_true rfl), (Nat.le_of_ble_eq_true rfl)⟩ [vI ((x.2.2.length : Int))] rfl (Nat.le_of_ble_eq_true rfl) dJ0_length_8abf5_6 rfl (fun v w2 H locs hp hJ => ?_)
  obtain ⟨rfl, h9⟩ := hp
  rw [h9] at hJ
  refine r_ishr (np := 10) G dJ0_length_8abf5_9 rfl ?_
  rw [oShr0]
  exact j_iret G hr hk hJ (⟨rfl, rfl⟩) (Nat.le_of_ble_eq_true rfl) (Nat.le_of_ble_eq_true rfl) dJ0_length_8abf5_10
set_option maxRecDepth 100000 in
set_option maxHeartbeats 1000000 in
theorem jqmax (l : Launch) (E : mE) (lo : Nat) (ws : va_W) (x y : Int) (hx : -1000000 ≤ x ∧ x ≤ 1000000) (hy : -1000000 ≤ y ∧ y ≤ 1000000) : jMet l yJ9_max_7cf53 cJ9_max_7cf53 2 (some .int) 0 12 0 0 E lo [vI (x), vI (y)] ws [] (fun v w => v = some (vI (if x < y then y else x)) ∧ w = ws) := by
  refine j_entry (by decide +kernel) (Nat.le_of_ble_eq_true rfl) (fun p e s m args below meth c G hr hk hin hJ ls hl => ?_)
  have G : CallFix p m c cJ9_max_7cf53 2 s args mTs RJ9 := G
  have hl : lv_has ls 2 [(0, vI (x)), (1, vI (y))] := hl
  refine r_iload_n (np := 1) G hl 0 rfl dJ9_max_7cf53_0 rfl rfl ?_
  refine r_iload_n (np := 2) G hl 1 rfl dJ9_max_7cf53_1 rfl rfl ?_
  refine r_icmp_lt (np := 5) (tgt := 9) G (wI_eq (by omega) (by omega)) (wI_eq (by omega) (by omega)) dJ9_max_7cf53_2 (by decide) rfl (fun hc => ?_) (fun hc => ?_)
  ·
    refine r_iload_n (np := 10) G hl 1 rfl dJ9_max_7cf53_9 rfl rfl ?_
    exact j_iret G hr hk hJ (⟨by rw [if_pos hc], rfl⟩) (Nat.le_of_ble_eq_true rfl) (Nat.le_of_ble_eq_true rfl) dJ9_max_7cf53_10
  ·
    refine r_iload_n (np := 6) G hl 0 rfl dJ9_max_7cf53_5 rfl rfl ?_
    refine r_goto (np := 10) G dJ9_max_7cf53_6 (by decide) ?_
    exact j_iret G hr hk hJ (⟨by rw [if_neg hc], rfl⟩) (Nat.le_of_ble_eq_true rfl) (Nat.le_of_ble_eq_true rfl) dJ9_max_7cf53_10
set_option maxRecDepth 100000 in
set_option maxHeartbeats 1000000 in
theorem jqmin (l : Launch) (E : mE) (lo : Nat) (ws : va_W) (x y : Int) (hx : -1000000 ≤ x ∧ x ≤ 1000000) (hy : -1000000 ≤ y ∧ y ≤ 1000000) : jMet l yJ9_min_7cf53 cJ9_min_7cf53 2 (some .int) 0 12 0 0 E lo [vI (x), vI (y)] ws [] (fun v w => v = some (vI (if y < x then y else x)) ∧ w = ws) := by
  refine j_entry (by decide +kernel) (Nat.le_of_ble_eq_true rfl) (fun p e s m args below meth c G hr hk hin hJ ls hl => ?_)
  have G : CallFix p m c cJ9_min_7cf53 2 s args mTs RJ9 := G
  have hl : lv_has ls 2 [(0, vI (x)), (1, vI (y))] := hl
  refine r_iload_n (np := 1) G hl 0 rfl dJ9_min_7cf53_0 rfl rfl ?_
  refine r_iload_n (np := 2) G hl 1 rfl dJ9_min_7cf53_1 rfl rfl ?_
  refine r_icmp_gt (np := 5) (tgt := 9) G (wI_eq (by omega) (by omega)) (wI_eq (by omega) (by omega)) dJ9_min_7cf53_2 (by decide) rfl (fun hc => ?_) (fun hc => ?_)
  ·
    refine r_iload_n (np := 10) G hl 1 rfl dJ9_min_7cf53_9 rfl rfl ?_
    exact j_iret G hr hk hJ (⟨by rw [if_pos hc], rfl⟩) (Nat.le_of_ble_eq_true rfl) (Nat.le_of_ble_eq_true rfl) dJ9_min_7cf53_10
  ·
    refine r_iload_n (np := 6) G hl 0 rfl dJ9_min_7cf53_5 rfl rfl ?_
    refine r_goto (np := 10) G dJ9_min_7cf53_6 (by decide) ?_
    exact j_iret G hr hk hJ (⟨by rw [if_neg hc], rfl⟩) (Nat.le_of_ble_eq_true rfl) (Nat.le_of_ble_eq_true rfl) dJ9_min_7cf53_10
set_option maxRecDepth 100000 in
set_option maxHeartbeats 1000000 in
theorem qJ8_newLength_cabcc (l : Launch) (E : mE) (lo : Nat) (ws : va_W) (x y z : Int) (hx : 0 ≤ x ∧ x ≤ 1000) (hy : 0 ≤ y ∧ y ≤ 1000) (hz : 0 < z ∧ z ≤ 1000) : jMet l yJ8_newLength_cabcc cJ8_newLength_cabcc 4 (some .int) 1 33 0 0 E lo [vI (x), vI (y), vI (z)] ws [] (fun v w => v = some (vI (x + (if y < z then z else y))) ∧ w = ws) := by
  refine j_entry (by decide +kernel) (Nat.le_of_ble_eq_true rfl) (fun p e s m args below meth c G hr hk hin hJ ls hl => ?_)
  have G : CallFix p m c cJ8_newLength_cabcc 4 s args mTs RJ8 := G
  have hl : lv_has ls 4 [(0, vI (x)), (1, vI (y)), (2, vI (z))] := hl
  obtain ⟨u, hu⟩ : ∃ u, u = x + (if y < z then z else y) := ⟨_, rfl⟩
  have hu2 : 0 < u ∧ u ≤ 2000 := by rw [hu]; split <;> omega
  refine r_iload_n (np := 1) G hl 0 rfl dJ8_newLength_cabcc_0 rfl rfl ?_
  refine r_iload_n (np := 2) G hl 1 rfl dJ8_newLength_cabcc_1 rfl rfl ?_
  refine r_iload_n (np := 3) G hl 2 rfl dJ8_newLength_cabcc_2 rfl rfl ?_
  refine j_callS (np := 6) G hJ hl.1 [vI (y), vI (z)] (jqmax l E lo ws y z (by omega) (by omega)) (fun _ h => h) jsJ9_max_7cf53 ljJ8_194 ⟨(Nat.le_of_ble_eq_true rfl), (Nat.le_of_ble_eq_true rfl)⟩ ⟨(Nat.le_of_ble_eq_true rfl), (Nat.le_of_ble_eq_true rfl)⟩ [vI (x)] rfl (Nat.le_of_ble_eq_true rfl) dJ8_newLength_cabcc_3 rfl (fun v w2 H locs hp hJ => ?_)
  obtain ⟨rfl, h9⟩ := hp
  rw [h9] at hJ
  refine r_iadd (np := 7) G dJ8_newLength_cabcc_6 rfl ?_
  refine r_istore_n (np := 8) G hl (hu) [(3, vI (u)), (0, vI (x)), (1, vI (y)), (2, vI (z))] dJ8_newLength_cabcc_7 rfl rfl (by decide) rfl (fun ls hl => ?_)
  refine r_iconst (np := 9) G (0) dJ8_newLength_cabcc_8 rfl ?_
  refine r_iload_n (np := 10) G hl 0 rfl dJ8_newLength_cabcc_9 rfl rfl ?_
  refine r_icmp_ge (np := 13) (tgt := 21) G (wI_eq (by omega) (by omega)) (wI_eq (by omega) (by omega)) dJ8_newLength_cabcc_10 (by decide) rfl (fun hc => False.elim (by omega)) (fun hc => ?_)
  refine r_iload_n (np := 14) G hl 0 rfl dJ8_newLength_cabcc_13 rfl rfl ?_
  refine r_ldc (np := 16) G 2147483639 dJ8_newLength_cabcc_14 kJ8_200 rfl rfl ?_
  refine r_icmp_gt (np := 19) (tgt := 21) G (wI_eq (by omega) (by omega)) (wI_eq (by omega) (by omega)) dJ8_newLength_cabcc_16 (by decide) rfl (fun hc => False.elim (by omega)) (fun hc => ?_)
  refine r_iload_n (np := 20) G hl 0 rfl dJ8_newLength_cabcc_19 rfl rfl ?_
  exact j_iret G hr hk hJ (⟨by rw [hu], rfl⟩) (Nat.le_of_ble_eq_true rfl) (Nat.le_of_ble_eq_true rfl) dJ8_newLength_cabcc_20
set_option maxRecDepth 100000 in
set_option maxHeartbeats 1000000 in
theorem qJ5_isLatin1_aae02 (l : Launch) (E : mE) (lo : Nat) (b d k : Nat) (n : Int) (f : Nat → Int32) : jMet l yJ5_isLatin1_aae02 cJ5_isLatin1_aae02 1 (some .boolean) 0 12 0 0 E lo [.ref b] (jB E b d n k f) [] (fun v w => v = some (vI 1) ∧ w = jB E b d n k f) := by
  refine j_entry (by decide +kernel) (Nat.le_of_ble_eq_true rfl) (fun p e s m args below meth c G hr hk hin hJ ls hl => ?_)
  have G : CallFix p m c cJ5_isLatin1_aae02 1 s args mTs RJ5 := G
  have hl : lv_has ls 1 [(0, .ref b)] := hl
  refine j_gets1 (np := 3) G hJ ljJ5_18 dJ5_isLatin1_aae02_0 rfl ?_
  refine r_if_eq (np := 6) (tgt := 17) G (wI_eq (by omega) (by omega)) dJ5_isLatin1_aae02_3 (by decide) rfl (fun hc => False.elim (absurd hc (by decide))) (fun hc => ?_)
  refine r_aload_n (np := 7) G hl 0 rfl dJ5_isLatin1_aae02_6 rfl rfl ?_
  refine j_get (np := 10) G hJ 0 rfl jf12_1 rfl ljJ5_22t dJ5_isLatin1_aae02_7 rfl ?_
  refine r_if_ne (np := 13) (tgt := 17) G (wI_eq (by omega) (by omega)) dJ5_isLatin1_aae02_10 (by decide) rfl (fun hc => False.elim (absurd rfl hc)) (fun hc => ?_)
  refine r_iconst (np := 14) G (1) dJ5_isLatin1_aae02_13 rfl ?_
  refine r_goto (np := 18) G dJ5_isLatin1_aae02_14 (by decide) ?_
  exact j_zret G hr hk hJ (by decide) (⟨rfl, rfl⟩) (Nat.le_of_ble_eq_true rfl) (Nat.le_of_ble_eq_true rfl) dJ5_isLatin1_aae02_18
set_option maxRecDepth 100000 in
set_option maxHeartbeats 1000000 in
theorem qJ5_newCapacity_0f7a4 (l : Launch) (E : mE) (lo : Nat) (b d k : Nat) (n : Int) (f : Nat → Int32) (q : Nat) (hm : k ≤ 700) (hq : k < q ∧ q ≤ 300) : jMet l yJ5_newCapacity_0f7a4 cJ5_newCapacity_0f7a4 6 (some .int) 2 56 0 0 E lo [.ref b, vI ((q : Int))] (jB E b d n k f) [] (fun v w => v = some (vI ((k : Int) + (if (q : Int) - k < k + 2 then (k : Int) + 2 else (q : Int) - k))) ∧ w = jB E b d n k f) := by
  refine j_entry (by decide +kernel) (Nat.le_of_ble_eq_true rfl) (fun p e s m args below meth c G hr hk hin hJ ls hl => ?_)
  have G : CallFix p m c cJ5_newCapacity_0f7a4 6 s args mTs RJ5 := G
  have hl : lv_has ls 6 [(0, .ref b), (1, vI ((q : Int)))] := hl
  obtain ⟨u, hu⟩ : ∃ u, u = (k : Int) + (if (q : Int) - k < k + 2 then (k : Int) + 2 else (q : Int) - k) := ⟨_, rfl⟩
  have hu2 : 0 < u ∧ u ≤ 2000 := by rw [hu]; split <;> omega
  refine r_aload_n (np := 1) G hl 0 rfl dJ5_newCapacity_0f7a4_0 rfl rfl ?_
  refine j_get (np := 4) G hJ 0 rfl jf12_0 rfl ljJ5_15t dJ5_newCapacity_0f7a4_1 rfl ?_
  refine j_alen (np := 5) G hJ 1 rfl dJ5_newCapacity_0f7a4_4 rfl ?_
  refine r_istore_n (np := 6) G hl (rfl) [(2, vI ((k : Int))), (0, .ref b), (1, vI ((q : Int)))] dJ5_newCapacity_0f7a4_5 rfl rfl (by decide) rfl (fun ls hl => ?_)
  refine r_iload_n (np := 7) G hl 2 rfl dJ5_newCapacity_0f7a4_6 rfl rfl ?_
  refine r_aload_n (np := 8) G hl 1 rfl dJ5_newCapacity_0f7a4_7 rfl rfl ?_
  refine j_get (np := 11) G hJ 0 rfl jf12_1 rfl ljJ5_22t dJ5_newCapacity_0f7a4_8 rfl ?_
  refine r_ishl (np := 12) G dJ5_newCapacity_0f7a4_11 rfl ?_
  rw [oShl0]
  refine r_istore_n (np := 13) G hl (rfl) [(3, vI ((q : Int))), (2, vI ((k : Int))), (0, .ref b), (1, vI ((q : Int)))] dJ5_newCapacity_0f7a4_12 rfl rfl (by decide) rfl (fun ls hl => ?_)
  refine r_iload_n (np := 14) G hl 0 rfl dJ5_newCapacity_0f7a4_13 rfl rfl ?_
  refine r_iload_n (np := 15) G hl 1 rfl dJ5_newCapacity_0f7a4_14 rfl rfl ?_
  refine r_isub (np := 16) G dJ5_newCapacity_0f7a4_15 rfl ?_
  refine r_istore (np := 18) G hl (rfl) [(4, vI (((q : Int)) - ((k : Int)))), (3, vI ((q : Int))), (2, vI ((k : Int))), (0, .ref b), (1, vI ((q : Int)))] dJ5_newCapacity_0f7a4_16 rfl (by decide) rfl (fun ls hl => ?_)
  refine r_iload_n (np := 19) G hl 2 rfl dJ5_newCapacity_0f7a4_18 rfl rfl ?_
  refine r_iload (np := 21) G hl 0 rfl dJ5_newCapacity_0f7a4_19 rfl ?_
  refine r_iload_n (np := 22) G hl 2 rfl dJ5_newCapacity_0f7a4_21 rfl rfl ?_
  refine r_iconst (np := 23) G (2) dJ5_newCapacity_0f7a4_22 rfl ?_
  refine r_aload_n (np := 24) G hl 3 rfl dJ5_newCapacity_0f7a4_23 rfl rfl ?_
  refine j_get (np := 27) G hJ 0 rfl jf12_1 rfl ljJ5_22t dJ5_newCapacity_0f7a4_24 rfl ?_
  refine r_ishl (np := 28) G dJ5_newCapacity_0f7a4_27 rfl ?_
  rw [oShl0]
  refine r_iadd (np := 29) G dJ5_newCapacity_0f7a4_28 rfl ?_
  refine j_callS (np := 32) G hJ hl.1 [vI ((k : Int)), vI (((q : Int)) - ((k : Int))), vI (((k : Int)) + (2))] (qJ8_newLength_cabcc l E lo _ (k : Int) ((q : Int) - (k : Int)) ((k : Int) + 2) (by omega) (by omega) (by omega)) (fun _ h => h) jsJ8_newLength_cabcc ljJ5_114 ⟨(Nat.le_of_ble_eq_true rfl), (Nat.le_of_ble_eq_true rfl)⟩ ⟨(Nat.le_of_ble_eq_true rfl), (Nat.le_of_ble_eq_true rfl)⟩ [] rfl (Nat.le_of_ble_eq_true rfl) dJ5_newCapacity_0f7a4_29 rfl (fun v w2 H locs hp hJ => ?_)
  obtain ⟨rfl, rfl⟩ := hp
  refine r_istore (np := 34) G hl (hu) [(5, vI (u)), (4, vI (((q : Int)) - ((k : Int)))), (3, vI ((q : Int))), (2, vI ((k : Int))), (0, .ref b), (1, vI ((q : Int)))] dJ5_newCapacity_0f7a4_32 rfl (by decide) rfl (fun ls hl => ?_)
  refine r_iload (np := 36) G hl 0 rfl dJ5_newCapacity_0f7a4_34 rfl ?_
  refine r_ldc (np := 38) G 2147483647 dJ5_newCapacity_0f7a4_36 kJ5_39 rfl rfl ?_
  refine r_icmp_ne (np := 41) (tgt := 51) G (wI_eq (by omega) (by omega)) (wI_eq (by omega) (by omega)) dJ5_newCapacity_0f7a4_38 (by decide) rfl (fun hc => ?_) (fun hc => False.elim (absurd hc (by omega)))
  refine r_iload (np := 53) G hl 0 rfl dJ5_newCapacity_0f7a4_51 rfl ?_
  refine r_aload_n (np := 54) G hl 4 rfl dJ5_newCapacity_0f7a4_53 rfl rfl ?_
  refine j_get (np := 57) G hJ 0 rfl jf12_1 rfl ljJ5_22t dJ5_newCapacity_0f7a4_54 rfl ?_
  refine r_ishr (np := 58) G dJ5_newCapacity_0f7a4_57 rfl ?_
  rw [oShr0]
  exact j_iret G hr hk hJ (⟨by rw [hu], rfl⟩) (Nat.le_of_ble_eq_true rfl) (Nat.le_of_ble_eq_true rfl) dJ5_newCapacity_0f7a4_58
set_option maxRecDepth 100000 in
set_option maxHeartbeats 1000000 in
theorem qJ7_copyOf_9075b (l : Launch) (E : mE) (lo : Nat) (b d k : Nat) (n : Int) (f : Nat → Int32) (q : Nat) (hm : k ≤ 700) (hq : k < q ∧ q ≤ 1000) (hf : sb_Fit f) : jMet l yJ7_copyOf_9075b cJ7_copyOf_9075b 3 (some (.array .byte)) 1 33 1 1000 E lo [.ref d, vI ((q : Int))] (jB E b d n k f) [] (fun v w => ∃ d2, v = some (.ref d2) ∧ w = [(b, .inr (12, [.ref d, vI 0, vI 0, vI n])), (d, .inl (eT E 2, k, .inl f)), (d2, .inl (eT E 2, q, .inl (va_cpy f (fun _ => 0) 0 0 k)))]) := by
  refine j_entry (by decide +kernel) (Nat.le_of_ble_eq_true rfl) (fun p e s m args below meth c G hr hk hin hJ ls hl => ?_)
  have G : CallFix p m c cJ7_copyOf_9075b 3 s args mTs RJ7 := G
  have hl : lv_has ls 3 [(0, .ref d), (1, vI ((q : Int)))] := hl
  refine r_iload_n (np := 1) G hl 1 rfl dJ7_copyOf_9075b_0 rfl rfl ?_
  refine r_aload_n (np := 2) G hl 0 rfl dJ7_copyOf_9075b_1 rfl rfl ?_
  refine j_alen (np := 3) G hJ 1 rfl dJ7_copyOf_9075b_2 rfl ?_
  refine r_icmp_ne (np := 6) (tgt := 14) G (wI_eq (by omega) (by omega)) (wI_eq (by omega) (by omega)) dJ7_copyOf_9075b_3 (by decide) rfl (fun hc => ?_) (fun hc => False.elim (absurd hc (by omega)))
  refine r_iload_n (np := 15) G hl 1 rfl dJ7_copyOf_9075b_14 rfl rfl ?_
  refine j_newB (np := 17) G hJ (n := q) rfl (by omega) (Nat.le_of_ble_eq_true rfl) (by show 0 + q ≤ 1000; omega) dJ7_copyOf_9075b_15 rfl (fun d2 H hJ => ?_)
  refine r_astore_n (np := 18) G hl (rfl) [(2, .ref d2), (0, .ref d), (1, vI ((q : Int)))] dJ7_copyOf_9075b_17 rfl rfl (by decide) rfl (fun ls hl => ?_)
  refine r_aload_n (np := 19) G hl 1 rfl dJ7_copyOf_9075b_18 rfl rfl ?_
  refine r_iconst (np := 20) G (0) dJ7_copyOf_9075b_19 rfl ?_
  refine r_aload_n (np := 21) G hl 0 rfl dJ7_copyOf_9075b_20 rfl rfl ?_
  refine r_iconst (np := 22) G (0) dJ7_copyOf_9075b_21 rfl ?_
  refine r_aload_n (np := 23) G hl 1 rfl dJ7_copyOf_9075b_22 rfl rfl ?_
  refine j_alen (np := 24) G hJ 1 rfl dJ7_copyOf_9075b_23 rfl ?_
  refine r_iload_n (np := 25) G hl 2 rfl dJ7_copyOf_9075b_24 rfl rfl ?_
  refine j_callS (np := 28) G hJ hl.1 [vI ((k : Int)), vI ((q : Int))] (jqmin l E lo _ (k : Int) (q : Int) (by omega) (by omega)) (fun _ h => h) jsJ9_min_7cf53 ljJ7_304 ⟨(Nat.le_of_ble_eq_true rfl), (Nat.le_of_ble_eq_true rfl)⟩ ⟨(Nat.le_of_ble_eq_true rfl), (by show _ ≤ 1000; omega)⟩ [vI (0), .ref d2, vI (0), .ref d] rfl (Nat.le_of_ble_eq_true rfl) dJ7_copyOf_9075b_25 rfl (fun v w2 H locs hp hJ => ?_)
  obtain ⟨rfl, rfl⟩ := hp
  rw [if_neg (show ¬ (q : Int) < (k : Int) by omega)]
  refine j_copy (np := 31) G hJ hl.1 1 2 (a0 := d) (a1 := d2) (n0 := k) (n1 := q) (sp := 0) (dp := 0) (n := k) rfl rfl (by omega) (by omega) (by omega) hf rfl rfl rfl ljJ7_150 (Nat.le_of_ble_eq_true rfl) (Nat.le_of_ble_eq_true rfl) dJ7_copyOf_9075b_28 rfl (fun H locs hJ => ?_)
  refine r_aload_n (np := 32) G hl 0 rfl dJ7_copyOf_9075b_31 rfl rfl ?_
  exact j_aret G hr (Or.inr ⟨_, rfl⟩) hk hJ (⟨d2, rfl, rfl⟩) (Nat.le_of_ble_eq_true rfl) (by show _ ≤ 1000; omega) dJ7_copyOf_9075b_32
set_option maxRecDepth 100000 in
set_option maxHeartbeats 1000000 in
theorem qJ5_ensureCapacityInternal_d00df (l : Launch) (E : mE) (lo : Nat) (b d k : Nat) (n : Int) (f : Nat → Int32) (q : Nat) (hm : k ≤ 700) (hq : q ≤ 300) (hf : sb_Fit f) : jMet l yJ5_ensureCapacityInternal_d00df cJ5_ensureCapacityInternal_d00df 3 none 3 81 1 1000 E lo [.ref b, vI ((q : Int))] (jB E b d n k f) [] (fun v w => ∃ d2 m2 f2, v = none ∧ w = jB E b d2 n m2 f2 ∧ q ≤ m2 ∧ k ≤ m2 ∧ m2 ≤ 700 ∧ sb_Fit f2 ∧ ∀ j, j < k → f2 j = f j) := by
  refine j_entry (by decide +kernel) (Nat.le_of_ble_eq_true rfl) (fun p e s m args below meth c G hr hk hin hJ ls hl => ?_)
  have G : CallFix p m c cJ5_ensureCapacityInternal_d00df 3 s args mTs RJ5 := G
  have hl : lv_has ls 3 [(0, .ref b), (1, vI ((q : Int)))] := hl
  refine r_aload_n (np := 1) G hl 0 rfl dJ5_ensureCapacityInternal_d00df_0 rfl rfl ?_
  refine j_get (np := 4) G hJ 0 rfl jf12_0 rfl ljJ5_15t dJ5_ensureCapacityInternal_d00df_1 rfl ?_
  refine j_alen (np := 5) G hJ 1 rfl dJ5_ensureCapacityInternal_d00df_4 rfl ?_
  refine r_aload_n (np := 6) G hl 0 rfl dJ5_ensureCapacityInternal_d00df_5 rfl rfl ?_
  refine j_get (np := 9) G hJ 0 rfl jf12_1 rfl ljJ5_22t dJ5_ensureCapacityInternal_d00df_6 rfl ?_
  refine r_ishr (np := 10) G dJ5_ensureCapacityInternal_d00df_9 rfl ?_
  rw [oShr0]
  refine r_istore_n (np := 11) G hl (rfl) [(2, vI ((k : Int))), (0, .ref b), (1, vI ((q : Int)))] dJ5_ensureCapacityInternal_d00df_10 rfl rfl (by decide) rfl (fun ls hl => ?_)
  refine r_iload_n (np := 12) G hl 2 rfl dJ5_ensureCapacityInternal_d00df_11 rfl rfl ?_
  refine r_iload_n (np := 13) G hl 0 rfl dJ5_ensureCapacityInternal_d00df_12 rfl rfl ?_
  refine r_isub (np := 14) G dJ5_ensureCapacityInternal_d00df_13 rfl ?_
  refine r_if_le (np := 17) (tgt := 38) G (wI_eq (by omega) (by omega)) dJ5_ensureCapacityInternal_d00df_14 (by decide) rfl (fun hc => ?_) (fun hc => ?_)
  ·
    exact j_vret G hr hk hJ (⟨d, k, f, rfl, rfl, by omega, Nat.le_refl _, hm, hf, fun _ _ => rfl⟩) (Nat.le_of_ble_eq_true rfl) (Nat.le_of_ble_eq_true rfl) dJ5_ensureCapacityInternal_d00df_38
  ·
    refine r_aload_n (np := 18) G hl 1 rfl dJ5_ensureCapacityInternal_d00df_17 rfl rfl ?_
    refine r_aload_n (np := 19) G hl 1 rfl dJ5_ensureCapacityInternal_d00df_18 rfl rfl ?_
    refine j_get (np := 22) G hJ 0 rfl jf12_0 rfl ljJ5_15t dJ5_ensureCapacityInternal_d00df_19 rfl ?_
    refine r_aload_n (np := 23) G hl 1 rfl dJ5_ensureCapacityInternal_d00df_22 rfl rfl ?_
    refine r_iload_n (np := 24) G hl 2 rfl dJ5_ensureCapacityInternal_d00df_23 rfl rfl ?_
    refine j_callB (np := 27) G hJ hl.1 0 rfl [vI ((q : Int))] (qJ5_newCapacity_0f7a4 l E lo b d k n f q hm (by omega)) (fun _ h => h) jvJ5_newCapacity_0f7a4 (Or.inl rfl) ljJ5_104 ⟨(Nat.le_of_ble_eq_true rfl), (Nat.le_of_ble_eq_true rfl)⟩ ⟨(Nat.le_of_ble_eq_true rfl), (Nat.le_of_ble_eq_true rfl)⟩ [.ref d, .ref b] rfl (Nat.le_of_ble_eq_true rfl) dJ5_ensureCapacityInternal_d00df_24 rfl (fun v w2 H locs hp hJ => ?_)
    obtain ⟨rfl, rfl⟩ := hp
    obtain ⟨u, hu⟩ : ∃ u : Nat, (u : Int) = (k : Int) + (if (q : Int) - k < k + 2 then (k : Int) + 2 else (q : Int) - k) := ⟨((k : Int) + (if (q : Int) - k < k + 2 then (k : Int) + 2 else (q : Int) - k)).toNat, by split <;> omega⟩
    have hu2 : q ≤ u ∧ k < u ∧ u ≤ 700 := by by_cases h9 : (q : Int) - k < k + 2 <;> simp only [h9, if_true, if_false] at hu <;> omega
    rw [← hu]
    refine r_aload_n (np := 28) G hl 1 rfl dJ5_ensureCapacityInternal_d00df_27 rfl rfl ?_
    refine j_get (np := 31) G hJ 0 rfl jf12_1 rfl ljJ5_22t dJ5_ensureCapacityInternal_d00df_28 rfl ?_
    refine r_ishl (np := 32) G dJ5_ensureCapacityInternal_d00df_31 rfl ?_
    rw [oShl0]
    refine j_callS (np := 35) G hJ hl.1 [.ref d, vI ((u : Int))] (qJ7_copyOf_9075b l E lo b d k n f u hm (by omega) hf) (fun _ h => h) jsJ7_copyOf_9075b ljJ5_108 ⟨(Nat.le_of_ble_eq_true rfl), (Nat.le_of_ble_eq_true rfl)⟩ ⟨(Nat.le_of_ble_eq_true rfl), (Nat.le_of_ble_eq_true rfl)⟩ [.ref b] rfl (Nat.le_of_ble_eq_true rfl) dJ5_ensureCapacityInternal_d00df_32 rfl (fun v w2 H locs hp hJ => ?_)
    obtain ⟨d2, rfl, rfl⟩ := hp
    refine j_put (np := 38) G hJ 0 rfl jf12_0 tyJ4_ok nmJ4 (by decide +kernel) (ty := .array .byte) rfl rfl rfl (Nat.le_of_ble_eq_true rfl) ljJ5_15t dJ5_ensureCapacityInternal_d00df_35 rfl (fun H locs hJ => ?_)
    have hJ : jM E lo [(b, .inr (12, [.ref d2, vI 0, vI 0, vI n])), (d, .inl (eT E 2, k, .inl f)), (d2, .inl (eT E 2, u, .inl (va_cpy f (fun _ => 0) 0 0 k)))] _ s H locs := hJ
    have hJ := hJ.sub [0, 2] (ws2 := jB E b d2 n u (va_cpy f (fun _ => 0) 0 0 k)) rfl rfl rfl
    exact j_vret G hr hk hJ (⟨d2, u, _, rfl, rfl, by omega, by omega, by omega, sb_fitC hf sb_fit0, fun j hj => sb_cpy0 hj⟩) (Nat.le_of_ble_eq_true rfl) (Nat.le_of_ble_eq_true rfl) dJ5_ensureCapacityInternal_d00df_38
