theorem lkX5_15 : Cond.methodLink RX5 15 yJ9_floorDiv_f86c9 ∈ mTs := mTs_in 369 (by decide +kernel) (by decide +kernel)
theorem myJ9_floorDiv_f86c9 : mYS yJ9_floorDiv_f86c9 cJ9_floorDiv_f86c9 6 (some .long) 2 := ⟨⟨mTs_in 371 (by decide +kernel) (by decide +kernel), mTs_in 46 (by decide +kernel) (by decide +kernel), ⟨by decide, by decide⟩, by decide +kernel⟩, mTs_in 370 (by decide +kernel) (by decide +kernel)⟩
theorem lkX5_9 : Cond.methodLink RX5 9 yJ9_abs_067f4 ∈ mTs := mTs_in 363 (by decide +kernel) (by decide +kernel)
theorem myJ9_abs_067f4 : mYS yJ9_abs_067f4 cJ9_abs_067f4 2 (some .long) 1 := ⟨⟨mTs_in 365 (by decide +kernel) (by decide +kernel), mTs_in 46 (by decide +kernel) (by decide +kernel), ⟨by decide, by decide⟩, by decide +kernel⟩, mTs_in 364 (by decide +kernel) (by decide +kernel)⟩
theorem lkX5_19 : Cond.methodLink RX5 19 yJ9_floorMod_f86c9 ∈ mTs := mTs_in 722 (by decide +kernel) (by decide +kernel)
theorem myJ9_floorMod_f86c9 : mYS yJ9_floorMod_f86c9 cJ9_floorMod_f86c9 6 (some .long) 2 := ⟨⟨mTs_in 724 (by decide +kernel) (by decide +kernel), mTs_in 46 (by decide +kernel) (by decide +kernel), ⟨by decide, by decide⟩, by decide +kernel⟩, mTs_in 723 (by decide +kernel) (by decide +kernel)⟩
theorem lkX5_30 : Cond.constant RX5 30 (60000) ∈ mTs := mTs_in 346 (by decide +kernel) (by decide +kernel)
theorem lkX5_31 : Cond.methodLink RX5 31 yX5_rest ∈ mTs := mTs_in 719 (by decide +kernel) (by decide +kernel)
theorem myX5_rest : mYS yX5_rest cX5_rest 4 (some .long) 2 := ⟨⟨mTs_in 721 (by decide +kernel) (by decide +kernel), mTs_in 53 (by decide +kernel) (by decide +kernel), ⟨by decide, by decide⟩, by decide +kernel⟩, mTs_in 720 (by decide +kernel) (by decide +kernel)⟩
theorem lkX5_34 : Cond.constantLong RX5 34 (536870912) ∈ mTs := mTs_in 416 (by decide +kernel) (by decide +kernel)
theorem dJ9_floorDiv_f86c9_0 : decode cJ9_floorDiv_f86c9 0 = .ok (.lload_n 0, 1) := by decide +kernel
theorem dJ9_floorDiv_f86c9_1 : decode cJ9_floorDiv_f86c9 1 = .ok (.lload_n 2, 1) := by decide +kernel
theorem dJ9_floorDiv_f86c9_2 : decode cJ9_floorDiv_f86c9 2 = .ok (.ldiv, 1) := by decide +kernel
theorem dJ9_floorDiv_f86c9_3 : decode cJ9_floorDiv_f86c9 3 = .ok (.lstore 4, 2) := by decide +kernel
theorem dJ9_floorDiv_f86c9_5 : decode cJ9_floorDiv_f86c9 5 = .ok (.lload_n 0, 1) := by decide +kernel
theorem dJ9_floorDiv_f86c9_6 : decode cJ9_floorDiv_f86c9 6 = .ok (.lload_n 2, 1) := by decide +kernel
theorem dJ9_floorDiv_f86c9_7 : decode cJ9_floorDiv_f86c9 7 = .ok (.lxor, 1) := by decide +kernel
theorem dJ9_floorDiv_f86c9_8 : decode cJ9_floorDiv_f86c9 8 = .ok (.lconst 0, 1) := by decide +kernel
theorem dJ9_floorDiv_f86c9_9 : decode cJ9_floorDiv_f86c9 9 = .ok (.lcmp, 1) := by decide +kernel
theorem dJ9_floorDiv_f86c9_10 : decode cJ9_floorDiv_f86c9 10 = .ok (.ifCond .ge 17, 3) := by decide +kernel
theorem dJ9_floorDiv_f86c9_13 : decode cJ9_floorDiv_f86c9 13 = .ok (.lload 4, 2) := by decide +kernel
theorem dJ9_floorDiv_f86c9_15 : decode cJ9_floorDiv_f86c9 15 = .ok (.lload_n 2, 1) := by decide +kernel
theorem dJ9_floorDiv_f86c9_16 : decode cJ9_floorDiv_f86c9 16 = .ok (.lmul, 1) := by decide +kernel
theorem dJ9_floorDiv_f86c9_17 : decode cJ9_floorDiv_f86c9 17 = .ok (.lload_n 0, 1) := by decide +kernel
theorem dJ9_floorDiv_f86c9_18 : decode cJ9_floorDiv_f86c9 18 = .ok (.lcmp, 1) := by decide +kernel
theorem dJ9_floorDiv_f86c9_19 : decode cJ9_floorDiv_f86c9 19 = .ok (.ifCond .eq 8, 3) := by decide +kernel
theorem dJ9_floorDiv_f86c9_22 : decode cJ9_floorDiv_f86c9 22 = .ok (.lload 4, 2) := by decide +kernel
theorem dJ9_floorDiv_f86c9_24 : decode cJ9_floorDiv_f86c9 24 = .ok (.lconst 1, 1) := by decide +kernel
theorem dJ9_floorDiv_f86c9_25 : decode cJ9_floorDiv_f86c9 25 = .ok (.lsub, 1) := by decide +kernel
theorem dJ9_floorDiv_f86c9_26 : decode cJ9_floorDiv_f86c9 26 = .ok (.lreturn, 1) := by decide +kernel
theorem dJ9_floorDiv_f86c9_27 : decode cJ9_floorDiv_f86c9 27 = .ok (.lload 4, 2) := by decide +kernel
theorem dJ9_floorDiv_f86c9_29 : decode cJ9_floorDiv_f86c9 29 = .ok (.lreturn, 1) := by decide +kernel
theorem dX5_quotient_0 : decode cX5_quotient 0 = .ok (.lload_n 2, 1) := by decide +kernel
theorem dX5_quotient_1 : decode cX5_quotient 1 = .ok (.lconst 0, 1) := by decide +kernel
theorem dX5_quotient_2 : decode cX5_quotient 2 = .ok (.lcmp, 1) := by decide +kernel
theorem dX5_quotient_3 : decode cX5_quotient 3 = .ok (.ifCond .ne 7, 3) := by decide +kernel
theorem dX5_quotient_6 : decode cX5_quotient 6 = .ok (.lconst 0, 1) := by decide +kernel
theorem dX5_quotient_7 : decode cX5_quotient 7 = .ok (.goto 8, 3) := by decide +kernel
theorem dX5_quotient_10 : decode cX5_quotient 10 = .ok (.lload_n 0, 1) := by decide +kernel
theorem dX5_quotient_11 : decode cX5_quotient 11 = .ok (.lload_n 2, 1) := by decide +kernel
theorem dX5_quotient_12 : decode cX5_quotient 12 = .ok (.invokestatic 15, 3) := by decide +kernel
theorem dX5_quotient_15 : decode cX5_quotient 15 = .ok (.lreturn, 1) := by decide +kernel
theorem dJ9_abs_067f4_0 : decode cJ9_abs_067f4 0 = .ok (.lload_n 0, 1) := by decide +kernel
theorem dJ9_abs_067f4_1 : decode cJ9_abs_067f4 1 = .ok (.lconst 0, 1) := by decide +kernel
theorem dJ9_abs_067f4_2 : decode cJ9_abs_067f4 2 = .ok (.lcmp, 1) := by decide +kernel
theorem dJ9_abs_067f4_3 : decode cJ9_abs_067f4 3 = .ok (.ifCond .ge 8, 3) := by decide +kernel
theorem dJ9_abs_067f4_6 : decode cJ9_abs_067f4 6 = .ok (.lload_n 0, 1) := by decide +kernel
theorem dJ9_abs_067f4_7 : decode cJ9_abs_067f4 7 = .ok (.lneg, 1) := by decide +kernel
theorem dJ9_abs_067f4_8 : decode cJ9_abs_067f4 8 = .ok (.goto 4, 3) := by decide +kernel
theorem dJ9_abs_067f4_11 : decode cJ9_abs_067f4 11 = .ok (.lload_n 0, 1) := by decide +kernel
theorem dJ9_abs_067f4_12 : decode cJ9_abs_067f4 12 = .ok (.lreturn, 1) := by decide +kernel
theorem dX5_greatestDivisor_0 : decode cX5_greatestDivisor 0 = .ok (.lload_n 0, 1) := by decide +kernel
theorem dX5_greatestDivisor_1 : decode cX5_greatestDivisor 1 = .ok (.invokestatic 9, 3) := by decide +kernel
theorem dX5_greatestDivisor_4 : decode cX5_greatestDivisor 4 = .ok (.lstore 4, 2) := by decide +kernel
theorem dX5_greatestDivisor_6 : decode cX5_greatestDivisor 6 = .ok (.lload_n 2, 1) := by decide +kernel
theorem dX5_greatestDivisor_7 : decode cX5_greatestDivisor 7 = .ok (.invokestatic 9, 3) := by decide +kernel
theorem dX5_greatestDivisor_10 : decode cX5_greatestDivisor 10 = .ok (.lstore 6, 2) := by decide +kernel
theorem dX5_greatestDivisor_12 : decode cX5_greatestDivisor 12 = .ok (.iconst 0, 1) := by decide +kernel
theorem dX5_greatestDivisor_13 : decode cX5_greatestDivisor 13 = .ok (.istore 8, 2) := by decide +kernel
theorem dX5_greatestDivisor_15 : decode cX5_greatestDivisor 15 = .ok (.iload 8, 2) := by decide +kernel
theorem dX5_greatestDivisor_17 : decode cX5_greatestDivisor 17 = .ok (.sipush 200, 3) := by decide +kernel
theorem dX5_greatestDivisor_20 : decode cX5_greatestDivisor 20 = .ok (.if_icmp .ge 31, 3) := by decide +kernel
theorem dX5_greatestDivisor_23 : decode cX5_greatestDivisor 23 = .ok (.lload 6, 2) := by decide +kernel
theorem dX5_greatestDivisor_25 : decode cX5_greatestDivisor 25 = .ok (.lconst 0, 1) := by decide +kernel
theorem dX5_greatestDivisor_26 : decode cX5_greatestDivisor 26 = .ok (.lcmp, 1) := by decide +kernel
theorem dX5_greatestDivisor_27 : decode cX5_greatestDivisor 27 = .ok (.ifCond .eq 24, 3) := by decide +kernel
theorem dX5_greatestDivisor_30 : decode cX5_greatestDivisor 30 = .ok (.lload 4, 2) := by decide +kernel
theorem dX5_greatestDivisor_32 : decode cX5_greatestDivisor 32 = .ok (.lload 6, 2) := by decide +kernel
theorem dX5_greatestDivisor_34 : decode cX5_greatestDivisor 34 = .ok (.lrem, 1) := by decide +kernel
theorem dX5_greatestDivisor_35 : decode cX5_greatestDivisor 35 = .ok (.lstore 9, 2) := by decide +kernel
theorem dX5_greatestDivisor_37 : decode cX5_greatestDivisor 37 = .ok (.lload 6, 2) := by decide +kernel
theorem dX5_greatestDivisor_39 : decode cX5_greatestDivisor 39 = .ok (.lstore 4, 2) := by decide +kernel
theorem dX5_greatestDivisor_41 : decode cX5_greatestDivisor 41 = .ok (.lload 9, 2) := by decide +kernel
theorem dX5_greatestDivisor_43 : decode cX5_greatestDivisor 43 = .ok (.lstore 6, 2) := by decide +kernel
theorem dX5_greatestDivisor_45 : decode cX5_greatestDivisor 45 = .ok (.iinc 8 1, 3) := by decide +kernel
theorem dX5_greatestDivisor_48 : decode cX5_greatestDivisor 48 = .ok (.goto (-33), 3) := by decide +kernel
theorem dX5_greatestDivisor_51 : decode cX5_greatestDivisor 51 = .ok (.lload 4, 2) := by decide +kernel
theorem dX5_greatestDivisor_53 : decode cX5_greatestDivisor 53 = .ok (.lreturn, 1) := by decide +kernel
theorem dJ9_floorMod_f86c9_0 : decode cJ9_floorMod_f86c9 0 = .ok (.lload_n 0, 1) := by decide +kernel
theorem dJ9_floorMod_f86c9_1 : decode cJ9_floorMod_f86c9 1 = .ok (.lload_n 2, 1) := by decide +kernel
theorem dJ9_floorMod_f86c9_2 : decode cJ9_floorMod_f86c9 2 = .ok (.lrem, 1) := by decide +kernel
theorem dJ9_floorMod_f86c9_3 : decode cJ9_floorMod_f86c9 3 = .ok (.lstore 4, 2) := by decide +kernel
theorem dJ9_floorMod_f86c9_5 : decode cJ9_floorMod_f86c9 5 = .ok (.lload_n 0, 1) := by decide +kernel
theorem dJ9_floorMod_f86c9_6 : decode cJ9_floorMod_f86c9 6 = .ok (.lload_n 2, 1) := by decide +kernel
theorem dJ9_floorMod_f86c9_7 : decode cJ9_floorMod_f86c9 7 = .ok (.lxor, 1) := by decide +kernel
theorem dJ9_floorMod_f86c9_8 : decode cJ9_floorMod_f86c9 8 = .ok (.lconst 0, 1) := by decide +kernel
theorem dJ9_floorMod_f86c9_9 : decode cJ9_floorMod_f86c9 9 = .ok (.lcmp, 1) := by decide +kernel
theorem dJ9_floorMod_f86c9_10 : decode cJ9_floorMod_f86c9 10 = .ok (.ifCond .ge 15, 3) := by decide +kernel
theorem dJ9_floorMod_f86c9_13 : decode cJ9_floorMod_f86c9 13 = .ok (.lload 4, 2) := by decide +kernel
theorem dJ9_floorMod_f86c9_15 : decode cJ9_floorMod_f86c9 15 = .ok (.lconst 0, 1) := by decide +kernel
theorem dJ9_floorMod_f86c9_16 : decode cJ9_floorMod_f86c9 16 = .ok (.lcmp, 1) := by decide +kernel
theorem dJ9_floorMod_f86c9_17 : decode cJ9_floorMod_f86c9 17 = .ok (.ifCond .eq 8, 3) := by decide +kernel
theorem dJ9_floorMod_f86c9_20 : decode cJ9_floorMod_f86c9 20 = .ok (.lload 4, 2) := by decide +kernel
theorem dJ9_floorMod_f86c9_22 : decode cJ9_floorMod_f86c9 22 = .ok (.lload_n 2, 1) := by decide +kernel
theorem dJ9_floorMod_f86c9_23 : decode cJ9_floorMod_f86c9 23 = .ok (.ladd, 1) := by decide +kernel
theorem dJ9_floorMod_f86c9_24 : decode cJ9_floorMod_f86c9 24 = .ok (.lreturn, 1) := by decide +kernel
theorem dJ9_floorMod_f86c9_25 : decode cJ9_floorMod_f86c9 25 = .ok (.lload 4, 2) := by decide +kernel
theorem dJ9_floorMod_f86c9_27 : decode cJ9_floorMod_f86c9 27 = .ok (.lreturn, 1) := by decide +kernel
theorem dX5_rest_0 : decode cX5_rest 0 = .ok (.lload_n 2, 1) := by decide +kernel
theorem dX5_rest_1 : decode cX5_rest 1 = .ok (.lconst 0, 1) := by decide +kernel
theorem dX5_rest_2 : decode cX5_rest 2 = .ok (.lcmp, 1) := by decide +kernel
theorem dX5_rest_3 : decode cX5_rest 3 = .ok (.ifCond .ne 7, 3) := by decide +kernel
theorem dX5_rest_6 : decode cX5_rest 6 = .ok (.lconst 0, 1) := by decide +kernel
theorem dX5_rest_7 : decode cX5_rest 7 = .ok (.goto 8, 3) := by decide +kernel
theorem dX5_rest_10 : decode cX5_rest 10 = .ok (.lload_n 0, 1) := by decide +kernel
theorem dX5_rest_11 : decode cX5_rest 11 = .ok (.lload_n 2, 1) := by decide +kernel
theorem dX5_rest_12 : decode cX5_rest 12 = .ok (.invokestatic 19, 3) := by decide +kernel
theorem dX5_rest_15 : decode cX5_rest 15 = .ok (.lreturn, 1) := by decide +kernel
theorem dX5_divides_0 : decode cX5_divides 0 = .ok (.lload_n 0, 1) := by decide +kernel
theorem dX5_divides_1 : decode cX5_divides 1 = .ok (.lconst 0, 1) := by decide +kernel
theorem dX5_divides_2 : decode cX5_divides 2 = .ok (.lcmp, 1) := by decide +kernel
theorem dX5_divides_3 : decode cX5_divides 3 = .ok (.ifCond .eq 15, 3) := by decide +kernel
theorem dX5_divides_6 : decode cX5_divides 6 = .ok (.lload_n 2, 1) := by decide +kernel
theorem dX5_divides_7 : decode cX5_divides 7 = .ok (.lload_n 0, 1) := by decide +kernel
theorem dX5_divides_8 : decode cX5_divides 8 = .ok (.lrem, 1) := by decide +kernel
theorem dX5_divides_9 : decode cX5_divides 9 = .ok (.lconst 0, 1) := by decide +kernel
theorem dX5_divides_10 : decode cX5_divides 10 = .ok (.lcmp, 1) := by decide +kernel
theorem dX5_divides_11 : decode cX5_divides 11 = .ok (.ifCond .ne 7, 3) := by decide +kernel
theorem dX5_divides_14 : decode cX5_divides 14 = .ok (.iconst 1, 1) := by decide +kernel
theorem dX5_divides_15 : decode cX5_divides 15 = .ok (.goto 4, 3) := by decide +kernel
theorem dX5_divides_18 : decode cX5_divides 18 = .ok (.iconst 0, 1) := by decide +kernel
theorem dX5_divides_19 : decode cX5_divides 19 = .ok (.ireturn, 1) := by decide +kernel
theorem dX5_isPrime_0 : decode cX5_isPrime 0 = .ok (.iload_n 0, 1) := by decide +kernel
theorem dX5_isPrime_1 : decode cX5_isPrime 1 = .ok (.iconst 2, 1) := by decide +kernel
theorem dX5_isPrime_2 : decode cX5_isPrime 2 = .ok (.if_icmp .lt 9, 3) := by decide +kernel
theorem dX5_isPrime_5 : decode cX5_isPrime 5 = .ok (.iload_n 0, 1) := by decide +kernel
theorem dX5_isPrime_6 : decode cX5_isPrime 6 = .ok (.ldc 30, 2) := by decide +kernel
theorem dX5_isPrime_8 : decode cX5_isPrime 8 = .ok (.if_icmp .le 5, 3) := by decide +kernel
theorem dX5_isPrime_11 : decode cX5_isPrime 11 = .ok (.iconst 0, 1) := by decide +kernel
theorem dX5_isPrime_12 : decode cX5_isPrime 12 = .ok (.ireturn, 1) := by decide +kernel
theorem dX5_isPrime_13 : decode cX5_isPrime 13 = .ok (.iconst 2, 1) := by decide +kernel
theorem dX5_isPrime_14 : decode cX5_isPrime 14 = .ok (.istore_n 1, 1) := by decide +kernel
theorem dX5_isPrime_15 : decode cX5_isPrime 15 = .ok (.iload_n 1, 1) := by decide +kernel
theorem dX5_isPrime_16 : decode cX5_isPrime 16 = .ok (.iload_n 1, 1) := by decide +kernel
theorem dX5_isPrime_17 : decode cX5_isPrime 17 = .ok (.imul, 1) := by decide +kernel
theorem dX5_isPrime_18 : decode cX5_isPrime 18 = .ok (.iload_n 0, 1) := by decide +kernel
theorem dX5_isPrime_19 : decode cX5_isPrime 19 = .ok (.if_icmp .gt 17, 3) := by decide +kernel
theorem dX5_isPrime_22 : decode cX5_isPrime 22 = .ok (.iload_n 0, 1) := by decide +kernel
theorem dX5_isPrime_23 : decode cX5_isPrime 23 = .ok (.iload_n 1, 1) := by decide +kernel
theorem dX5_isPrime_24 : decode cX5_isPrime 24 = .ok (.irem, 1) := by decide +kernel
theorem dX5_isPrime_25 : decode cX5_isPrime 25 = .ok (.ifCond .ne 5, 3) := by decide +kernel
theorem dX5_isPrime_28 : decode cX5_isPrime 28 = .ok (.iconst 0, 1) := by decide +kernel
theorem dX5_isPrime_29 : decode cX5_isPrime 29 = .ok (.ireturn, 1) := by decide +kernel
theorem dX5_isPrime_30 : decode cX5_isPrime 30 = .ok (.iinc 1 1, 3) := by decide +kernel
theorem dX5_isPrime_33 : decode cX5_isPrime 33 = .ok (.goto (-18), 3) := by decide +kernel
theorem dX5_isPrime_36 : decode cX5_isPrime 36 = .ok (.iconst 1, 1) := by decide +kernel
theorem dX5_isPrime_37 : decode cX5_isPrime 37 = .ok (.ireturn, 1) := by decide +kernel
theorem dX5_isSquareFree_0 : decode cX5_isSquareFree 0 = .ok (.iconst 2, 1) := by decide +kernel
theorem dX5_isSquareFree_1 : decode cX5_isSquareFree 1 = .ok (.istore_n 2, 1) := by decide +kernel
theorem dX5_isSquareFree_2 : decode cX5_isSquareFree 2 = .ok (.iload_n 2, 1) := by decide +kernel
theorem dX5_isSquareFree_3 : decode cX5_isSquareFree 3 = .ok (.bipush 8, 2) := by decide +kernel
theorem dX5_isSquareFree_5 : decode cX5_isSquareFree 5 = .ok (.if_icmp .ge 22, 3) := by decide +kernel
theorem dX5_isSquareFree_8 : decode cX5_isSquareFree 8 = .ok (.lload_n 0, 1) := by decide +kernel
theorem dX5_isSquareFree_9 : decode cX5_isSquareFree 9 = .ok (.iload_n 2, 1) := by decide +kernel
theorem dX5_isSquareFree_10 : decode cX5_isSquareFree 10 = .ok (.iload_n 2, 1) := by decide +kernel
theorem dX5_isSquareFree_11 : decode cX5_isSquareFree 11 = .ok (.imul, 1) := by decide +kernel
theorem dX5_isSquareFree_12 : decode cX5_isSquareFree 12 = .ok (.i2l, 1) := by decide +kernel
theorem dX5_isSquareFree_13 : decode cX5_isSquareFree 13 = .ok (.lrem, 1) := by decide +kernel
theorem dX5_isSquareFree_14 : decode cX5_isSquareFree 14 = .ok (.lconst 0, 1) := by decide +kernel
theorem dX5_isSquareFree_15 : decode cX5_isSquareFree 15 = .ok (.lcmp, 1) := by decide +kernel
theorem dX5_isSquareFree_16 : decode cX5_isSquareFree 16 = .ok (.ifCond .ne 5, 3) := by decide +kernel
theorem dX5_isSquareFree_19 : decode cX5_isSquareFree 19 = .ok (.iconst 0, 1) := by decide +kernel
theorem dX5_isSquareFree_20 : decode cX5_isSquareFree 20 = .ok (.ireturn, 1) := by decide +kernel
theorem dX5_isSquareFree_21 : decode cX5_isSquareFree 21 = .ok (.iinc 2 1, 3) := by decide +kernel
theorem dX5_isSquareFree_24 : decode cX5_isSquareFree 24 = .ok (.goto (-22), 3) := by decide +kernel
theorem dX5_isSquareFree_27 : decode cX5_isSquareFree 27 = .ok (.iconst 1, 1) := by decide +kernel
theorem dX5_isSquareFree_28 : decode cX5_isSquareFree 28 = .ok (.ireturn, 1) := by decide +kernel
theorem dX5_howOften_0 : decode cX5_howOften 0 = .ok (.iconst 0, 1) := by decide +kernel
theorem dX5_howOften_1 : decode cX5_howOften 1 = .ok (.istore_n 3, 1) := by decide +kernel
theorem dX5_howOften_2 : decode cX5_howOften 2 = .ok (.iload_n 0, 1) := by decide +kernel
theorem dX5_howOften_3 : decode cX5_howOften 3 = .ok (.iconst 2, 1) := by decide +kernel
theorem dX5_howOften_4 : decode cX5_howOften 4 = .ok (.if_icmp .lt 9, 3) := by decide +kernel
theorem dX5_howOften_7 : decode cX5_howOften 7 = .ok (.lload_n 1, 1) := by decide +kernel
theorem dX5_howOften_8 : decode cX5_howOften 8 = .ok (.lconst 0, 1) := by decide +kernel
theorem dX5_howOften_9 : decode cX5_howOften 9 = .ok (.lcmp, 1) := by decide +kernel
theorem dX5_howOften_10 : decode cX5_howOften 10 = .ok (.ifCond .ne 5, 3) := by decide +kernel
theorem dX5_howOften_13 : decode cX5_howOften 13 = .ok (.iconst 0, 1) := by decide +kernel
theorem dX5_howOften_14 : decode cX5_howOften 14 = .ok (.ireturn, 1) := by decide +kernel
theorem dX5_howOften_15 : decode cX5_howOften 15 = .ok (.lload_n 1, 1) := by decide +kernel
theorem dX5_howOften_16 : decode cX5_howOften 16 = .ok (.lstore 4, 2) := by decide +kernel
theorem dX5_howOften_18 : decode cX5_howOften 18 = .ok (.iload_n 3, 1) := by decide +kernel
theorem dX5_howOften_19 : decode cX5_howOften 19 = .ok (.bipush 64, 2) := by decide +kernel
theorem dX5_howOften_21 : decode cX5_howOften 21 = .ok (.if_icmp .ge 26, 3) := by decide +kernel
theorem dX5_howOften_24 : decode cX5_howOften 24 = .ok (.lload 4, 2) := by decide +kernel
theorem dX5_howOften_26 : decode cX5_howOften 26 = .ok (.iload_n 0, 1) := by decide +kernel
theorem dX5_howOften_27 : decode cX5_howOften 27 = .ok (.i2l, 1) := by decide +kernel
theorem dX5_howOften_28 : decode cX5_howOften 28 = .ok (.lrem, 1) := by decide +kernel
theorem dX5_howOften_29 : decode cX5_howOften 29 = .ok (.lconst 0, 1) := by decide +kernel
theorem dX5_howOften_30 : decode cX5_howOften 30 = .ok (.lcmp, 1) := by decide +kernel
theorem dX5_howOften_31 : decode cX5_howOften 31 = .ok (.ifCond .ne 16, 3) := by decide +kernel
theorem dX5_howOften_34 : decode cX5_howOften 34 = .ok (.iinc 3 1, 3) := by decide +kernel
theorem dX5_howOften_37 : decode cX5_howOften 37 = .ok (.lload 4, 2) := by decide +kernel
theorem dX5_howOften_39 : decode cX5_howOften 39 = .ok (.iload_n 0, 1) := by decide +kernel
theorem dX5_howOften_40 : decode cX5_howOften 40 = .ok (.i2l, 1) := by decide +kernel
theorem dX5_howOften_41 : decode cX5_howOften 41 = .ok (.ldiv, 1) := by decide +kernel
theorem dX5_howOften_42 : decode cX5_howOften 42 = .ok (.lstore 4, 2) := by decide +kernel
theorem dX5_howOften_44 : decode cX5_howOften 44 = .ok (.goto (-26), 3) := by decide +kernel
theorem dX5_howOften_47 : decode cX5_howOften 47 = .ok (.iload_n 3, 1) := by decide +kernel
theorem dX5_howOften_48 : decode cX5_howOften 48 = .ok (.ireturn, 1) := by decide +kernel
theorem dX5_isSquareModulo_0 : decode cX5_isSquareModulo 0 = .ok (.lload_n 0, 1) := by decide +kernel
theorem dX5_isSquareModulo_1 : decode cX5_isSquareModulo 1 = .ok (.iload_n 2, 1) := by decide +kernel
theorem dX5_isSquareModulo_2 : decode cX5_isSquareModulo 2 = .ok (.i2l, 1) := by decide +kernel
theorem dX5_isSquareModulo_3 : decode cX5_isSquareModulo 3 = .ok (.invokestatic 31, 3) := by decide +kernel
theorem dX5_isSquareModulo_6 : decode cX5_isSquareModulo 6 = .ok (.lstore_n 3, 1) := by decide +kernel
theorem dX5_isSquareModulo_7 : decode cX5_isSquareModulo 7 = .ok (.lconst 0, 1) := by decide +kernel
theorem dX5_isSquareModulo_8 : decode cX5_isSquareModulo 8 = .ok (.lstore 5, 2) := by decide +kernel
theorem dX5_isSquareModulo_10 : decode cX5_isSquareModulo 10 = .ok (.lload 5, 2) := by decide +kernel
theorem dX5_isSquareModulo_12 : decode cX5_isSquareModulo 12 = .ok (.iload_n 2, 1) := by decide +kernel
theorem dX5_isSquareModulo_13 : decode cX5_isSquareModulo 13 = .ok (.i2l, 1) := by decide +kernel
theorem dX5_isSquareModulo_14 : decode cX5_isSquareModulo 14 = .ok (.lcmp, 1) := by decide +kernel
theorem dX5_isSquareModulo_15 : decode cX5_isSquareModulo 15 = .ok (.ifCond .ge 27, 3) := by decide +kernel
theorem dX5_isSquareModulo_18 : decode cX5_isSquareModulo 18 = .ok (.lload 5, 2) := by decide +kernel
theorem dX5_isSquareModulo_20 : decode cX5_isSquareModulo 20 = .ok (.lload 5, 2) := by decide +kernel
theorem dX5_isSquareModulo_22 : decode cX5_isSquareModulo 22 = .ok (.lmul, 1) := by decide +kernel
theorem dX5_isSquareModulo_23 : decode cX5_isSquareModulo 23 = .ok (.iload_n 2, 1) := by decide +kernel
theorem dX5_isSquareModulo_24 : decode cX5_isSquareModulo 24 = .ok (.i2l, 1) := by decide +kernel
theorem dX5_isSquareModulo_25 : decode cX5_isSquareModulo 25 = .ok (.lrem, 1) := by decide +kernel
theorem dX5_isSquareModulo_26 : decode cX5_isSquareModulo 26 = .ok (.lload_n 3, 1) := by decide +kernel
theorem dX5_isSquareModulo_27 : decode cX5_isSquareModulo 27 = .ok (.lcmp, 1) := by decide +kernel
theorem dX5_isSquareModulo_28 : decode cX5_isSquareModulo 28 = .ok (.ifCond .ne 5, 3) := by decide +kernel
theorem dX5_isSquareModulo_31 : decode cX5_isSquareModulo 31 = .ok (.iconst 1, 1) := by decide +kernel
theorem dX5_isSquareModulo_32 : decode cX5_isSquareModulo 32 = .ok (.ireturn, 1) := by decide +kernel
theorem dX5_isSquareModulo_33 : decode cX5_isSquareModulo 33 = .ok (.lload 5, 2) := by decide +kernel
theorem dX5_isSquareModulo_35 : decode cX5_isSquareModulo 35 = .ok (.lconst 1, 1) := by decide +kernel
theorem dX5_isSquareModulo_36 : decode cX5_isSquareModulo 36 = .ok (.ladd, 1) := by decide +kernel
theorem dX5_isSquareModulo_37 : decode cX5_isSquareModulo 37 = .ok (.lstore 5, 2) := by decide +kernel
theorem dX5_isSquareModulo_39 : decode cX5_isSquareModulo 39 = .ok (.goto (-29), 3) := by decide +kernel
theorem dX5_isSquareModulo_42 : decode cX5_isSquareModulo 42 = .ok (.iconst 0, 1) := by decide +kernel
theorem dX5_isSquareModulo_43 : decode cX5_isSquareModulo 43 = .ok (.ireturn, 1) := by decide +kernel
theorem dX5_root_0 : decode cX5_root 0 = .ok (.lconst 0, 1) := by decide +kernel
theorem dX5_root_1 : decode cX5_root 1 = .ok (.lstore_n 2, 1) := by decide +kernel
theorem dX5_root_2 : decode cX5_root 2 = .ok (.ldc2_w 34, 3) := by decide +kernel
theorem dX5_root_5 : decode cX5_root 5 = .ok (.lstore 4, 2) := by decide +kernel
theorem dX5_root_7 : decode cX5_root 7 = .ok (.lload 4, 2) := by decide +kernel
theorem dX5_root_9 : decode cX5_root 9 = .ok (.lconst 0, 1) := by decide +kernel
theorem dX5_root_10 : decode cX5_root 10 = .ok (.lcmp, 1) := by decide +kernel
theorem dX5_root_11 : decode cX5_root 11 = .ok (.ifCond .le 31, 3) := by decide +kernel
theorem dX5_root_14 : decode cX5_root 14 = .ok (.lload_n 2, 1) := by decide +kernel
theorem dX5_root_15 : decode cX5_root 15 = .ok (.lload 4, 2) := by decide +kernel
theorem dX5_root_17 : decode cX5_root 17 = .ok (.ladd, 1) := by decide +kernel
theorem dX5_root_18 : decode cX5_root 18 = .ok (.lstore 6, 2) := by decide +kernel
theorem dX5_root_20 : decode cX5_root 20 = .ok (.lload 6, 2) := by decide +kernel
theorem dX5_root_22 : decode cX5_root 22 = .ok (.lload 6, 2) := by decide +kernel
theorem dX5_root_24 : decode cX5_root 24 = .ok (.lmul, 1) := by decide +kernel
theorem dX5_root_25 : decode cX5_root 25 = .ok (.lload_n 0, 1) := by decide +kernel
theorem dX5_root_26 : decode cX5_root 26 = .ok (.lcmp, 1) := by decide +kernel
theorem dX5_root_27 : decode cX5_root 27 = .ok (.ifCond .gt 6, 3) := by decide +kernel
theorem dX5_root_30 : decode cX5_root 30 = .ok (.lload 6, 2) := by decide +kernel
theorem dX5_root_32 : decode cX5_root 32 = .ok (.lstore_n 2, 1) := by decide +kernel
theorem dX5_root_33 : decode cX5_root 33 = .ok (.lload 4, 2) := by decide +kernel
theorem dX5_root_35 : decode cX5_root 35 = .ok (.iconst 1, 1) := by decide +kernel
theorem dX5_root_36 : decode cX5_root 36 = .ok (.lshr, 1) := by decide +kernel
theorem dX5_root_37 : decode cX5_root 37 = .ok (.lstore 4, 2) := by decide +kernel
theorem dX5_root_39 : decode cX5_root 39 = .ok (.goto (-32), 3) := by decide +kernel
theorem dX5_root_42 : decode cX5_root 42 = .ok (.lload_n 2, 1) := by decide +kernel
theorem dX5_root_43 : decode cX5_root 43 = .ok (.lreturn, 1) := by decide +kernel
theorem dJ9_abs_0f7a4_0 : decode cJ9_abs_0f7a4 0 = .ok (.iload_n 0, 1) := by decide +kernel
theorem dJ9_abs_0f7a4_1 : decode cJ9_abs_0f7a4 1 = .ok (.ifCond .ge 8, 3) := by decide +kernel
theorem dJ9_abs_0f7a4_4 : decode cJ9_abs_0f7a4 4 = .ok (.iload_n 0, 1) := by decide +kernel
theorem dJ9_abs_0f7a4_5 : decode cJ9_abs_0f7a4 5 = .ok (.ineg, 1) := by decide +kernel
theorem dJ9_abs_0f7a4_6 : decode cJ9_abs_0f7a4 6 = .ok (.goto 4, 3) := by decide +kernel
theorem dJ9_abs_0f7a4_9 : decode cJ9_abs_0f7a4 9 = .ok (.iload_n 0, 1) := by decide +kernel
theorem dJ9_abs_0f7a4_10 : decode cJ9_abs_0f7a4 10 = .ok (.ireturn, 1) := by decide +kernel
theorem dJ9_min_f86c9_0 : decode cJ9_min_f86c9 0 = .ok (.lload_n 0, 1) := by decide +kernel
theorem dJ9_min_f86c9_1 : decode cJ9_min_f86c9 1 = .ok (.lload_n 2, 1) := by decide +kernel
theorem dJ9_min_f86c9_2 : decode cJ9_min_f86c9 2 = .ok (.lcmp, 1) := by decide +kernel
theorem dJ9_min_f86c9_3 : decode cJ9_min_f86c9 3 = .ok (.ifCond .gt 7, 3) := by decide +kernel
theorem dJ9_min_f86c9_6 : decode cJ9_min_f86c9 6 = .ok (.lload_n 0, 1) := by decide +kernel
theorem dJ9_min_f86c9_7 : decode cJ9_min_f86c9 7 = .ok (.goto 4, 3) := by decide +kernel
theorem dJ9_min_f86c9_10 : decode cJ9_min_f86c9 10 = .ok (.lload_n 2, 1) := by decide +kernel
theorem dJ9_min_f86c9_11 : decode cJ9_min_f86c9 11 = .ok (.lreturn, 1) := by decide +kernel
def mJ9_floorDiv_f86c9 (v0 : Int) (v2 : Int) (σ : mSt) : Option (Int × mSt) := mG (wL v2 ≠ 0) <| bnd ((wL v0).tdiv (wL v2)) fun a2 => if 0 ≤ wL (oXorL v0 v2) then (some (a2, σ)) else if wL (a2 * v2) = wL v0 then (some (a2, σ)) else some (a2 - 1, σ)
def mX5_quotient (v0 : Int) (v2 : Int) (σ : mSt) : Option (Int × mSt) := if wL v2 = 0 then (some (0, σ)) else mCall (mJ9_floorDiv_f86c9 v0 v2 σ) fun b2 s3 => some (b2, s3)
def mJ9_abs_067f4 (v0 : Int) (σ : mSt) : Option (Int × mSt) := if 0 ≤ wL v0 then (some (v0, σ)) else some (-v0, σ)
def mX5_greatestDivisor_B51 (v0 : Int) (v2 : Int) (v4 : Int) (σ : mSt) : Option (Int × mSt) := some (v4, σ)
def mX5_greatestDivisor_L15 (v0 : Int) (v2 : Int) (x51 : Int → mSt → Option (Int × mSt)) : Nat → Int → Int → Int → mSt → Option (Int × mSt)
  | 0, _, _, _, _ => none
  | n + 1, v4, v6, v8, σ => if 200 ≤ wI v8 then (x51 v4 σ) else if wL v6 = 0 then (x51 v4 σ) else mG (wL v6 ≠ 0) <| bnd ((wL v4).tmod (wL v6)) fun a4 => bnd (v8 + 1) fun a6 => mX5_greatestDivisor_L15 v0 v2 x51 n v6 a4 a6 σ
def mX5_greatestDivisor (v0 : Int) (v2 : Int) (σ : mSt) : Option (Int × mSt) := mCall (mJ9_abs_067f4 v0 σ) fun b8 s9 => mCall (mJ9_abs_067f4 v2 s9) fun b11 s12 => mX5_greatestDivisor_L15 v0 v2 (fun z4 zσ => mX5_greatestDivisor_B51 v0 v2 z4 zσ) mF b8 b11 0 s12
def mJ9_floorMod_f86c9 (v0 : Int) (v2 : Int) (σ : mSt) : Option (Int × mSt) := mG (wL v2 ≠ 0) <| bnd ((wL v0).tmod (wL v2)) fun a2 => if 0 ≤ wL (oXorL v0 v2) then (some (a2, σ)) else if wL a2 = 0 then (some (a2, σ)) else some (a2 + v2, σ)
def mX5_rest (v0 : Int) (v2 : Int) (σ : mSt) : Option (Int × mSt) := if wL v2 = 0 then (some (0, σ)) else mCall (mJ9_floorMod_f86c9 v0 v2 σ) fun b2 s3 => some (b2, s3)
def mX5_divides_B18 (v0 : Int) (v2 : Int) (σ : mSt) : Option (Int × mSt) := some (0, σ)
def mX5_divides (v0 : Int) (v2 : Int) (σ : mSt) : Option (Int × mSt) := if wL v0 = 0 then (mX5_divides_B18 v0 v2 σ) else mG (wL v0 ≠ 0) <| if wL ((wL v2).tmod (wL v0)) = 0 then (some (1, σ)) else mX5_divides_B18 v0 v2 σ
def mX5_isPrime_B36 (v0 : Int) (σ : mSt) : Option (Int × mSt) := some (1, σ)
def mX5_isPrime_L15 (v0 : Int) (x36 : mSt → Option (Int × mSt)) : Nat → Int → mSt → Option (Int × mSt)
  | 0, _, _ => none
  | n + 1, v1, σ => if wI v0 < wI (v1 * v1) then (x36 σ) else mG (wI v1 ≠ 0) <| if wI ((wI v0).tmod (wI v1)) = 0 then (some (0, σ)) else bnd (v1 + 1) fun a4 => mX5_isPrime_L15 v0 x36 n a4 σ
def mX5_isPrime (v0 : Int) (σ : mSt) : Option (Int × mSt) := if wI v0 < 2 then (some (0, σ)) else if wI v0 ≤ 60000 then (mX5_isPrime_L15 v0 (fun zσ => mX5_isPrime_B36 v0 zσ) mF 2 σ) else some (0, σ)
def mX5_isSquareFree_B27 (v0 : Int) (σ : mSt) : Option (Int × mSt) := some (1, σ)
def mX5_isSquareFree_L2 (v0 : Int) (x27 : mSt → Option (Int × mSt)) : Nat → Int → mSt → Option (Int × mSt)
  | 0, _, _ => none
  | n + 1, v2, σ => if 8 ≤ wI v2 then (x27 σ) else mG (wL (wI (v2 * v2)) ≠ 0) <| if wL ((wL v0).tmod (wL (wI (v2 * v2)))) = 0 then (some (0, σ)) else bnd (v2 + 1) fun a4 => mX5_isSquareFree_L2 v0 x27 n a4 σ
def mX5_isSquareFree (v0 : Int) (σ : mSt) : Option (Int × mSt) := mX5_isSquareFree_L2 v0 (fun zσ => mX5_isSquareFree_B27 v0 zσ) mF 2 σ
def mX5_howOften_B47 (v0 : Int) (v1 : Int) (v3 : Int) (σ : mSt) : Option (Int × mSt) := some (v3, σ)
def mX5_howOften_L18 (v0 : Int) (v1 : Int) (x47 : Int → mSt → Option (Int × mSt)) : Nat → Int → Int → mSt → Option (Int × mSt)
  | 0, _, _, _ => none
  | n + 1, v3, v4, σ => if 64 ≤ wI v3 then (x47 v3 σ) else mG (wL (wI v0) ≠ 0) <| if wL ((wL v4).tmod (wL (wI v0))) = 0 then (bnd (v3 + 1) fun a4 => bnd ((wL v4).tdiv (wL (wI v0))) fun a6 => mX5_howOften_L18 v0 v1 x47 n a4 a6 σ) else x47 v3 σ
def mX5_howOften (v0 : Int) (v1 : Int) (σ : mSt) : Option (Int × mSt) := if wI v0 < 2 then (some (0, σ)) else if wL v1 = 0 then (some (0, σ)) else mX5_howOften_L18 v0 v1 (fun z3 zσ => mX5_howOften_B47 v0 v1 z3 zσ) mF 0 v1 σ
def mX5_isSquareModulo_B42 (v0 : Int) (v2 : Int) (σ : mSt) : Option (Int × mSt) := some (0, σ)
def mX5_isSquareModulo_L10 (v0 : Int) (v2 : Int) (v3 : Int) (x42 : mSt → Option (Int × mSt)) : Nat → Int → mSt → Option (Int × mSt)
  | 0, _, _ => none
  | n + 1, v5, σ => if wL (wI v2) ≤ wL v5 then (x42 σ) else mG (wL (wI v2) ≠ 0) <| if wL ((wL (v5 * v5)).tmod (wL (wI v2))) = wL v3 then (some (1, σ)) else bnd (v5 + 1) fun a4 => mX5_isSquareModulo_L10 v0 v2 v3 x42 n a4 σ
def mX5_isSquareModulo (v0 : Int) (v2 : Int) (σ : mSt) : Option (Int × mSt) := mCall (mX5_rest v0 (wI v2) σ) fun b6 s7 => mX5_isSquareModulo_L10 v0 v2 b6 (fun zσ => mX5_isSquareModulo_B42 v0 v2 zσ) mF 0 s7
def mX5_root_B42 (v0 : Int) (v2 : Int) (σ : mSt) : Option (Int × mSt) := some (v2, σ)
def mX5_root_L7 (v0 : Int) (x42 : Int → mSt → Option (Int × mSt)) : Nat → Int → Int → mSt → Option (Int × mSt)
  | 0, _, _, _ => none
  | n + 1, v2, v4, σ => if wL v4 ≤ 0 then (x42 v2 σ) else bnd (v2 + v4) fun a2 => if wL v0 < wL (a2 * a2) then (bnd (oShrL v4 1) fun a5 => mX5_root_L7 v0 x42 n v2 a5 σ) else bnd (oShrL v4 1) fun a7 => mX5_root_L7 v0 x42 n a2 a7 σ
def mX5_root (v0 : Int) (σ : mSt) : Option (Int × mSt) := mX5_root_L7 v0 (fun z2 zσ => mX5_root_B42 v0 z2 zσ) mF 0 536870912 σ
def mJ9_abs_0f7a4 (v0 : Int) (σ : mSt) : Option (Int × mSt) := if 0 ≤ wI v0 then (some (v0, σ)) else some (-v0, σ)
def mJ9_min_f86c9 (v0 : Int) (v2 : Int) (σ : mSt) : Option (Int × mSt) := if wL v2 < wL v0 then (some (v2, σ)) else some (v0, σ)
set_option maxRecDepth 100000 in
set_option maxHeartbeats 4000000 in
theorem qJ9_floorDiv_f86c9 (l : Launch) (E : mE) (σ : mSt) (v0 : Int) (v2 : Int) (out : Int × mSt) (hm : mJ9_floorDiv_f86c9 v0 v2 σ = some out) : mMet l yJ9_floorDiv_f86c9 cJ9_floorDiv_f86c9 6 (some .long) 0 0 E 257 [vL v0, vL v2] σ (some (vL out.1)) out.2 := by
  unfold mJ9_floorDiv_f86c9 at hm
  refine m_entryF (by decide +kernel) (Nat.le_of_ble_eq_true rfl) (fun p e s m args below meth c G hr hk hM ls hl => ?_)
  have G : CallFix p m c cJ9_floorDiv_f86c9 6 s args mTs RJ9 := G
  have hl : lv_has ls 6 [(0, vL v0), (2, vL v2)] := hl
  refine r_lload_n (np := 1) G hl 0 rfl dJ9_floorDiv_f86c9_0 rfl rfl ?_
  refine r_lload_n (np := 2) G hl 1 rfl dJ9_floorDiv_f86c9_1 rfl rfl ?_
  obtain ⟨g1, hm⟩ := g_t hm
  refine r_ldiv (np := 3) G g1 dJ9_floorDiv_f86c9_2 rfl ?_
  obtain ⟨a2, e3, hm⟩ := bnd_t hm
  refine r_lstore (np := 5) G hl e3 [(4, vL a2), (0, vL v0), (2, vL v2)] dJ9_floorDiv_f86c9_3 rfl (by decide) rfl (fun ls hl => ?_)
  refine r_lload_n (np := 6) G hl 1 rfl dJ9_floorDiv_f86c9_5 rfl rfl ?_
  refine r_lload_n (np := 7) G hl 2 rfl dJ9_floorDiv_f86c9_6 rfl rfl ?_
  refine r_lxor (np := 8) G dJ9_floorDiv_f86c9_7 rfl ?_
  refine r_lconst (np := 9) G 0 dJ9_floorDiv_f86c9_8 rfl rfl ?_
  refine r_lcmp_ge (np := 13) (tgt := 27) G rfl (wLk 0 rfl) dJ9_floorDiv_f86c9_9 dJ9_floorDiv_f86c9_10 (by decide) rfl (fun h4 => ?_) (fun h4 => ?_)
  · have hm := b_t h4 hm
    refine r_lload (np := 29) G hl 0 rfl dJ9_floorDiv_f86c9_27 rfl ?_
    exact r_lret G hr hk hM hm dJ9_floorDiv_f86c9_29
  · have hm := b_f h4 hm
    refine r_lload (np := 15) G hl 0 rfl dJ9_floorDiv_f86c9_13 rfl ?_
    refine r_lload_n (np := 16) G hl 2 rfl dJ9_floorDiv_f86c9_15 rfl rfl ?_
    refine r_lmul (np := 17) G dJ9_floorDiv_f86c9_16 rfl ?_
    refine r_lload_n (np := 18) G hl 1 rfl dJ9_floorDiv_f86c9_17 rfl rfl ?_
    refine r_lcmp_eq (np := 22) (tgt := 27) G rfl rfl dJ9_floorDiv_f86c9_18 dJ9_floorDiv_f86c9_19 (by decide) rfl (fun h5 => ?_) (fun h5 => ?_)
    · have hm := b_t h5 hm
      refine r_lload (np := 29) G hl 0 rfl dJ9_floorDiv_f86c9_27 rfl ?_
      exact r_lret G hr hk hM hm dJ9_floorDiv_f86c9_29
    · have hm := b_f h5 hm
      refine r_lload (np := 24) G hl 0 rfl dJ9_floorDiv_f86c9_22 rfl ?_
      refine r_lconst (np := 25) G 1 dJ9_floorDiv_f86c9_24 rfl rfl ?_
      refine r_lsub (np := 26) G dJ9_floorDiv_f86c9_25 rfl ?_
      exact r_lret G hr hk hM hm dJ9_floorDiv_f86c9_26
set_option maxRecDepth 100000 in
set_option maxHeartbeats 4000000 in
theorem qX5_quotient (l : Launch) (E : mE) (σ : mSt) (v0 : Int) (v2 : Int) (out : Int × mSt) (hm : mX5_quotient v0 v2 σ = some out) : mMet l yX5_quotient cX5_quotient 4 (some .long) 1 25 E 257 [vL v0, vL v2] σ (some (vL out.1)) out.2 := by
  unfold mX5_quotient at hm
  refine m_entry (by decide +kernel) (Nat.le_of_ble_eq_true rfl) (fun p e s m args below meth c G hr hk hM ls hl => ?_)
  have G : CallFix p m c cX5_quotient 4 s args mTs RX5 := G
  have hl : lv_has ls 4 [(0, vL v0), (2, vL v2)] := hl
  refine r_lload_n (np := 1) G hl 1 rfl dX5_quotient_0 rfl rfl ?_
  refine r_lconst (np := 2) G 0 dX5_quotient_1 rfl rfl ?_
  refine r_lcmp_ne (np := 6) (tgt := 10) G rfl (wLk 0 rfl) dX5_quotient_2 dX5_quotient_3 (by decide) rfl (fun h1 => ?_) (fun h1 => ?_)
  · have hm := b_f h1 hm
    refine r_lload_n (np := 11) G hl 0 rfl dX5_quotient_10 rfl rfl ?_
    refine r_lload_n (np := 12) G hl 1 rfl dX5_quotient_11 rfl rfl ?_
    obtain ⟨b2, s3, e4, hm⟩ := call_t hm
    refine m_callSL (np := 15) G hM hl.1 [vL v0, vL v2] (qJ9_floorDiv_f86c9 l E σ v0 v2 _ e4) myJ9_floorDiv_f86c9 lkX5_15 ⟨Nat.le_of_ble_eq_true rfl, Nat.le_of_ble_eq_true rfl⟩ ⟨Nat.le_of_ble_eq_true rfl, Nat.le_of_ble_eq_true rfl⟩ [] rfl (Nat.le_of_ble_eq_true rfl) dX5_quotient_12 rfl (fun H locs hM => ?_)
    exact r_lret G hr hk hM hm dX5_quotient_15
  · have hm := b_t h1 hm
    refine r_lconst (np := 7) G 0 dX5_quotient_6 rfl rfl ?_
    refine r_goto (np := 15) G dX5_quotient_7 (by decide) ?_
    exact r_lret G hr hk hM hm dX5_quotient_15
set_option maxRecDepth 100000 in
set_option maxHeartbeats 4000000 in
theorem qJ9_abs_067f4 (l : Launch) (E : mE) (σ : mSt) (v0 : Int) (out : Int × mSt) (hm : mJ9_abs_067f4 v0 σ = some out) : mMet l yJ9_abs_067f4 cJ9_abs_067f4 2 (some .long) 0 0 E 257 [vL v0] σ (some (vL out.1)) out.2 := by
  unfold mJ9_abs_067f4 at hm
  refine m_entryF (by decide +kernel) (Nat.le_of_ble_eq_true rfl) (fun p e s m args below meth c G hr hk hM ls hl => ?_)
  have G : CallFix p m c cJ9_abs_067f4 2 s args mTs RJ9 := G
  have hl : lv_has ls 2 [(0, vL v0)] := hl
  refine r_lload_n (np := 1) G hl 0 rfl dJ9_abs_067f4_0 rfl rfl ?_
  refine r_lconst (np := 2) G 0 dJ9_abs_067f4_1 rfl rfl ?_
  refine r_lcmp_ge (np := 6) (tgt := 11) G rfl (wLk 0 rfl) dJ9_abs_067f4_2 dJ9_abs_067f4_3 (by decide) rfl (fun h1 => ?_) (fun h1 => ?_)
  · have hm := b_t h1 hm
    refine r_lload_n (np := 12) G hl 0 rfl dJ9_abs_067f4_11 rfl rfl ?_
    exact r_lret G hr hk hM hm dJ9_abs_067f4_12
  · have hm := b_f h1 hm
    refine r_lload_n (np := 7) G hl 0 rfl dJ9_abs_067f4_6 rfl rfl ?_
    refine r_lneg (np := 8) G dJ9_abs_067f4_7 rfl ?_
    refine r_goto (np := 12) G dJ9_abs_067f4_8 (by decide) ?_
    exact r_lret G hr hk hM hm dJ9_abs_067f4_12
set_option maxRecDepth 100000 in
set_option maxHeartbeats 4000000 in
theorem wX5_greatestDivisor_B51 (l : Launch) (E : mE) (out : Int × mSt) {p : Program} {e : Env} {s : State} {m : MethodId} {args : Array Value} {below : List Frame} {meth : Method} {c : Code} (G : CallFix p m c cX5_greatestDivisor 11 s args mTs RX5) (hr : meth.sig.returnType = (some .long)) (hk : meth.locks = false) (v0 : Int) (v2 : Int) : ∀ (v4 : Int) (σ : mSt) (H : Heap) (locs : List Loc) (ls : Array Slot), mX5_greatestDivisor_B51 v0 v2 v4 σ = some out → mM (mA E 257) E 257 σ s H locs → lv_has ls 11 [(4, vL v4)] → mGo l p e 1 21 s m args below meth c E (some (vL out.1)) out.2 H locs (F0 m 51 ls []) := by
  intro v4 σ H locs ls hm hM hl
  unfold mX5_greatestDivisor_B51 at hm
  refine r_lload (np := 53) G hl 0 rfl dX5_greatestDivisor_51 rfl ?_
  exact r_lret G hr hk hM hm dX5_greatestDivisor_53
set_option maxRecDepth 100000 in
set_option maxHeartbeats 4000000 in
theorem wX5_greatestDivisor_L15 (l : Launch) (E : mE) (out : Int × mSt) {p : Program} {e : Env} {s : State} {m : MethodId} {args : Array Value} {below : List Frame} {meth : Method} {c : Code} (G : CallFix p m c cX5_greatestDivisor 11 s args mTs RX5) (hr : meth.sig.returnType = (some .long)) (hk : meth.locks = false) (v0 : Int) (v2 : Int) (x51 : Int → mSt → Option (Int × mSt)) (hx51 : ∀ (v4 : Int) (σ : mSt) (H : Heap) (locs : List Loc) (ls : Array Slot), x51 v4 σ = some out → mM (mA E 257) E 257 σ s H locs → lv_has ls 11 [(4, vL v4)] → mGo l p e 1 21 s m args below meth c E (some (vL out.1)) out.2 H locs (F0 m 51 ls [])) : ∀ (n : Nat) (v4 : Int) (v6 : Int) (v8 : Int) (σ : mSt) (H : Heap) (locs : List Loc) (ls : Array Slot), mX5_greatestDivisor_L15 v0 v2 x51 n v4 v6 v8 σ = some out → mM (mA E 257) E 257 σ s H locs → lv_has ls 11 [(4, vL v4), (6, vL v6), (8, vI v8)] → mGo l p e 1 21 s m args below meth c E (some (vL out.1)) out.2 H locs (F0 m 15 ls []) := by
  intro n
  induction n with
  | zero =>
    intro v4 v6 v8 σ H locs ls hm hM hl
    exact absurd hm (by rw [mX5_greatestDivisor_L15.eq_1]; exact fun h => nomatch h)
  | succ n ih =>
    intro v4 v6 v8 σ H locs ls hm hM hl
    rw [mX5_greatestDivisor_L15.eq_2] at hm
    refine r_iload (np := 17) G hl 2 rfl dX5_greatestDivisor_15 rfl ?_
    refine r_sipush (np := 20) G 200 dX5_greatestDivisor_17 (by decide) rfl ?_
    refine r_icmp_ge (np := 23) (tgt := 51) G rfl (wIk 200 rfl) dX5_greatestDivisor_20 (by decide) rfl (fun h1 => ?_) (fun h1 => ?_)
    · have hm := b_t h1 hm
      exact hx51 v4 _ _ _ _ hm hM (lv_sub hl [0] rfl)
    · have hm := b_f h1 hm
      refine r_lload (np := 25) G hl 1 rfl dX5_greatestDivisor_23 rfl ?_
      refine r_lconst (np := 26) G 0 dX5_greatestDivisor_25 rfl rfl ?_
      refine r_lcmp_eq (np := 30) (tgt := 51) G rfl (wLk 0 rfl) dX5_greatestDivisor_26 dX5_greatestDivisor_27 (by decide) rfl (fun h2 => ?_) (fun h2 => ?_)
      · have hm := b_t h2 hm
        exact hx51 v4 _ _ _ _ hm hM (lv_sub hl [0] rfl)
      · have hm := b_f h2 hm
        refine r_lload (np := 32) G hl 0 rfl dX5_greatestDivisor_30 rfl ?_
        refine r_lload (np := 34) G hl 1 rfl dX5_greatestDivisor_32 rfl ?_
        obtain ⟨g3, hm⟩ := g_t hm
        refine r_lrem (np := 35) G g3 dX5_greatestDivisor_34 rfl ?_
        obtain ⟨a4, e5, hm⟩ := bnd_t hm
        refine r_lstore (np := 37) G hl e5 [(9, vL a4), (4, vL v4), (6, vL v6), (8, vI v8)] dX5_greatestDivisor_35 rfl (by decide) rfl (fun ls hl => ?_)
        refine r_lload (np := 39) G hl 2 rfl dX5_greatestDivisor_37 rfl ?_
        refine r_lstore (np := 41) G hl rfl [(4, vL v6), (9, vL a4), (6, vL v6), (8, vI v8)] dX5_greatestDivisor_39 rfl (by decide) rfl (fun ls hl => ?_)
        refine r_lload (np := 43) G hl 1 rfl dX5_greatestDivisor_41 rfl ?_
        refine r_lstore (np := 45) G hl rfl [(6, vL a4), (4, vL v6), (9, vL a4), (8, vI v8)] dX5_greatestDivisor_43 rfl (by decide) rfl (fun ls hl => ?_)
        obtain ⟨a6, e7, hm⟩ := bnd_t hm
        refine r_iinc (np := 48) G hl 3 rfl e7 [(8, vI a6), (6, vL a4), (4, vL v6), (9, vL a4)] dX5_greatestDivisor_45 rfl (by decide) rfl (fun ls hl => ?_)
        refine r_goto (np := 15) G dX5_greatestDivisor_48 (by decide) ?_
        exact ih v6 a4 a6 _ _ _ _ hm hM (lv_sub hl [2, 1, 0] rfl)
set_option maxRecDepth 100000 in
set_option maxHeartbeats 4000000 in
theorem qX5_greatestDivisor (l : Launch) (E : mE) (σ : mSt) (v0 : Int) (v2 : Int) (out : Int × mSt) (hm : mX5_greatestDivisor v0 v2 σ = some out) : mMet l yX5_greatestDivisor cX5_greatestDivisor 11 (some .long) 1 21 E 257 [vL v0, vL v2] σ (some (vL out.1)) out.2 := by
  unfold mX5_greatestDivisor at hm
  refine m_entry (by decide +kernel) (Nat.le_of_ble_eq_true rfl) (fun p e s m args below meth c G hr hk hM ls hl => ?_)
  have G : CallFix p m c cX5_greatestDivisor 11 s args mTs RX5 := G
  have hl : lv_has ls 11 [(0, vL v0), (2, vL v2)] := hl
  refine r_lload_n (np := 1) G hl 0 rfl dX5_greatestDivisor_0 rfl rfl ?_
  obtain ⟨b8, s9, e10, hm⟩ := call_t hm
  refine m_callSL (np := 4) G hM hl.1 [vL v0] (qJ9_abs_067f4 l E σ v0 _ e10) myJ9_abs_067f4 lkX5_9 ⟨Nat.le_of_ble_eq_true rfl, Nat.le_of_ble_eq_true rfl⟩ ⟨Nat.le_of_ble_eq_true rfl, Nat.le_of_ble_eq_true rfl⟩ [] rfl (Nat.le_of_ble_eq_true rfl) dX5_greatestDivisor_1 rfl (fun H locs hM => ?_)
  refine r_lstore (np := 6) G hl rfl [(4, vL b8), (0, vL v0), (2, vL v2)] dX5_greatestDivisor_4 rfl (by decide) rfl (fun ls hl => ?_)
  refine r_lload_n (np := 7) G hl 2 rfl dX5_greatestDivisor_6 rfl rfl ?_
  obtain ⟨b11, s12, e13, hm⟩ := call_t hm
  refine m_callSL (np := 10) G hM hl.1 [vL v2] (qJ9_abs_067f4 l E s9 v2 _ e13) myJ9_abs_067f4 lkX5_9 ⟨Nat.le_of_ble_eq_true rfl, Nat.le_of_ble_eq_true rfl⟩ ⟨Nat.le_of_ble_eq_true rfl, Nat.le_of_ble_eq_true rfl⟩ [] rfl (Nat.le_of_ble_eq_true rfl) dX5_greatestDivisor_7 rfl (fun H locs hM => ?_)
  refine r_lstore (np := 12) G hl rfl [(6, vL b11), (4, vL b8), (0, vL v0), (2, vL v2)] dX5_greatestDivisor_10 rfl (by decide) rfl (fun ls hl => ?_)
  refine r_iconst (np := 13) G 0 dX5_greatestDivisor_12 rfl ?_
  refine r_istore (np := 15) G hl rfl [(8, vI 0), (6, vL b11), (4, vL b8), (0, vL v0), (2, vL v2)] dX5_greatestDivisor_13 rfl (by decide) rfl (fun ls hl => ?_)
  exact wX5_greatestDivisor_L15 l E out G hr hk v0 v2 (fun z4 zσ => mX5_greatestDivisor_B51 v0 v2 z4 zσ) (fun z4 zσ zH zl zs zm zM zv => wX5_greatestDivisor_B51 l E out G hr hk v0 v2 z4 zσ zH zl zs zm zM zv) mF b8 b11 0 _ _ _ _ hm hM (lv_sub hl [2, 1, 0] rfl)
set_option maxRecDepth 100000 in
set_option maxHeartbeats 4000000 in
theorem qJ9_floorMod_f86c9 (l : Launch) (E : mE) (σ : mSt) (v0 : Int) (v2 : Int) (out : Int × mSt) (hm : mJ9_floorMod_f86c9 v0 v2 σ = some out) : mMet l yJ9_floorMod_f86c9 cJ9_floorMod_f86c9 6 (some .long) 0 0 E 257 [vL v0, vL v2] σ (some (vL out.1)) out.2 := by
  unfold mJ9_floorMod_f86c9 at hm
  refine m_entryF (by decide +kernel) (Nat.le_of_ble_eq_true rfl) (fun p e s m args below meth c G hr hk hM ls hl => ?_)
  have G : CallFix p m c cJ9_floorMod_f86c9 6 s args mTs RJ9 := G
  have hl : lv_has ls 6 [(0, vL v0), (2, vL v2)] := hl
  refine r_lload_n (np := 1) G hl 0 rfl dJ9_floorMod_f86c9_0 rfl rfl ?_
  refine r_lload_n (np := 2) G hl 1 rfl dJ9_floorMod_f86c9_1 rfl rfl ?_
  obtain ⟨g1, hm⟩ := g_t hm
  refine r_lrem (np := 3) G g1 dJ9_floorMod_f86c9_2 rfl ?_
  obtain ⟨a2, e3, hm⟩ := bnd_t hm
  refine r_lstore (np := 5) G hl e3 [(4, vL a2), (0, vL v0), (2, vL v2)] dJ9_floorMod_f86c9_3 rfl (by decide) rfl (fun ls hl => ?_)
  refine r_lload_n (np := 6) G hl 1 rfl dJ9_floorMod_f86c9_5 rfl rfl ?_
  refine r_lload_n (np := 7) G hl 2 rfl dJ9_floorMod_f86c9_6 rfl rfl ?_
  refine r_lxor (np := 8) G dJ9_floorMod_f86c9_7 rfl ?_
  refine r_lconst (np := 9) G 0 dJ9_floorMod_f86c9_8 rfl rfl ?_
  refine r_lcmp_ge (np := 13) (tgt := 25) G rfl (wLk 0 rfl) dJ9_floorMod_f86c9_9 dJ9_floorMod_f86c9_10 (by decide) rfl (fun h4 => ?_) (fun h4 => ?_)
  · have hm := b_t h4 hm
    refine r_lload (np := 27) G hl 0 rfl dJ9_floorMod_f86c9_25 rfl ?_
    exact r_lret G hr hk hM hm dJ9_floorMod_f86c9_27
  · have hm := b_f h4 hm
    refine r_lload (np := 15) G hl 0 rfl dJ9_floorMod_f86c9_13 rfl ?_
    refine r_lconst (np := 16) G 0 dJ9_floorMod_f86c9_15 rfl rfl ?_
    refine r_lcmp_eq (np := 20) (tgt := 25) G rfl (wLk 0 rfl) dJ9_floorMod_f86c9_16 dJ9_floorMod_f86c9_17 (by decide) rfl (fun h5 => ?_) (fun h5 => ?_)
    · have hm := b_t h5 hm
      refine r_lload (np := 27) G hl 0 rfl dJ9_floorMod_f86c9_25 rfl ?_
      exact r_lret G hr hk hM hm dJ9_floorMod_f86c9_27
    · have hm := b_f h5 hm
      refine r_lload (np := 22) G hl 0 rfl dJ9_floorMod_f86c9_20 rfl ?_
      refine r_lload_n (np := 23) G hl 2 rfl dJ9_floorMod_f86c9_22 rfl rfl ?_
      refine r_ladd (np := 24) G dJ9_floorMod_f86c9_23 rfl ?_
      exact r_lret G hr hk hM hm dJ9_floorMod_f86c9_24
set_option maxRecDepth 100000 in
set_option maxHeartbeats 4000000 in
theorem qX5_rest (l : Launch) (E : mE) (σ : mSt) (v0 : Int) (v2 : Int) (out : Int × mSt) (hm : mX5_rest v0 v2 σ = some out) : mMet l yX5_rest cX5_rest 4 (some .long) 1 25 E 257 [vL v0, vL v2] σ (some (vL out.1)) out.2 := by
  unfold mX5_rest at hm
  refine m_entry (by decide +kernel) (Nat.le_of_ble_eq_true rfl) (fun p e s m args below meth c G hr hk hM ls hl => ?_)
  have G : CallFix p m c cX5_rest 4 s args mTs RX5 := G
  have hl : lv_has ls 4 [(0, vL v0), (2, vL v2)] := hl
  refine r_lload_n (np := 1) G hl 1 rfl dX5_rest_0 rfl rfl ?_
  refine r_lconst (np := 2) G 0 dX5_rest_1 rfl rfl ?_
  refine r_lcmp_ne (np := 6) (tgt := 10) G rfl (wLk 0 rfl) dX5_rest_2 dX5_rest_3 (by decide) rfl (fun h1 => ?_) (fun h1 => ?_)
  · have hm := b_f h1 hm
    refine r_lload_n (np := 11) G hl 0 rfl dX5_rest_10 rfl rfl ?_
    refine r_lload_n (np := 12) G hl 1 rfl dX5_rest_11 rfl rfl ?_
    obtain ⟨b2, s3, e4, hm⟩ := call_t hm
    refine m_callSL (np := 15) G hM hl.1 [vL v0, vL v2] (qJ9_floorMod_f86c9 l E σ v0 v2 _ e4) myJ9_floorMod_f86c9 lkX5_19 ⟨Nat.le_of_ble_eq_true rfl, Nat.le_of_ble_eq_true rfl⟩ ⟨Nat.le_of_ble_eq_true rfl, Nat.le_of_ble_eq_true rfl⟩ [] rfl (Nat.le_of_ble_eq_true rfl) dX5_rest_12 rfl (fun H locs hM => ?_)
    exact r_lret G hr hk hM hm dX5_rest_15
  · have hm := b_t h1 hm
    refine r_lconst (np := 7) G 0 dX5_rest_6 rfl rfl ?_
    refine r_goto (np := 15) G dX5_rest_7 (by decide) ?_
    exact r_lret G hr hk hM hm dX5_rest_15
set_option maxRecDepth 100000 in
set_option maxHeartbeats 4000000 in
theorem wX5_divides_B18 (l : Launch) (E : mE) (out : Int × mSt) {p : Program} {e : Env} {s : State} {m : MethodId} {args : Array Value} {below : List Frame} {meth : Method} {c : Code} (G : CallFix p m c cX5_divides 4 s args mTs RX5) (hr : meth.sig.returnType = (some .boolean)) (hk : meth.locks = false) (v0 : Int) (v2 : Int) : ∀ (σ : mSt) (H : Heap) (locs : List Loc) (ls : Array Slot), mX5_divides_B18 v0 v2 σ = some out → mM (mA E 257) E 257 σ s H locs → lv_has ls 4 [] → mGo l p e 0 0 s m args below meth c E (some (vI out.1)) out.2 H locs (F0 m 18 ls []) := by
  intro σ H locs ls hm hM hl
  unfold mX5_divides_B18 at hm
  refine r_iconst (np := 19) G 0 dX5_divides_18 rfl ?_
  exact r_zret G hr hk hM (Or.inl rfl) hm dX5_divides_19
set_option maxRecDepth 100000 in
set_option maxHeartbeats 4000000 in
theorem qX5_divides (l : Launch) (E : mE) (σ : mSt) (v0 : Int) (v2 : Int) (out : Int × mSt) (hm : mX5_divides v0 v2 σ = some out) : mMet l yX5_divides cX5_divides 4 (some .boolean) 0 0 E 257 [vL v0, vL v2] σ (some (vI out.1)) out.2 := by
  unfold mX5_divides at hm
  refine m_entry (by decide +kernel) (Nat.le_of_ble_eq_true rfl) (fun p e s m args below meth c G hr hk hM ls hl => ?_)
  have G : CallFix p m c cX5_divides 4 s args mTs RX5 := G
  have hl : lv_has ls 4 [(0, vL v0), (2, vL v2)] := hl
  refine r_lload_n (np := 1) G hl 0 rfl dX5_divides_0 rfl rfl ?_
  refine r_lconst (np := 2) G 0 dX5_divides_1 rfl rfl ?_
  refine r_lcmp_eq (np := 6) (tgt := 18) G rfl (wLk 0 rfl) dX5_divides_2 dX5_divides_3 (by decide) rfl (fun h1 => ?_) (fun h1 => ?_)
  · have hm := b_t h1 hm
    exact wX5_divides_B18 l E out G hr hk v0 v2 _ _ _ _ hm hM (lv_sub hl [] rfl)
  · have hm := b_f h1 hm
    refine r_lload_n (np := 7) G hl 1 rfl dX5_divides_6 rfl rfl ?_
    refine r_lload_n (np := 8) G hl 0 rfl dX5_divides_7 rfl rfl ?_
    obtain ⟨g2, hm⟩ := g_t hm
    refine r_lrem (np := 9) G g2 dX5_divides_8 rfl ?_
    refine r_lconst (np := 10) G 0 dX5_divides_9 rfl rfl ?_
    refine r_lcmp_ne (np := 14) (tgt := 18) G rfl (wLk 0 rfl) dX5_divides_10 dX5_divides_11 (by decide) rfl (fun h3 => ?_) (fun h3 => ?_)
    · have hm := b_f h3 hm
      exact wX5_divides_B18 l E out G hr hk v0 v2 _ _ _ _ hm hM (lv_sub hl [] rfl)
    · have hm := b_t h3 hm
      refine r_iconst (np := 15) G 1 dX5_divides_14 rfl ?_
      refine r_goto (np := 19) G dX5_divides_15 (by decide) ?_
      exact r_zret G hr hk hM (Or.inr rfl) hm dX5_divides_19
set_option maxRecDepth 100000 in
set_option maxHeartbeats 4000000 in
theorem wX5_isPrime_B36 (l : Launch) (E : mE) (out : Int × mSt) {p : Program} {e : Env} {s : State} {m : MethodId} {args : Array Value} {below : List Frame} {meth : Method} {c : Code} (G : CallFix p m c cX5_isPrime 2 s args mTs RX5) (hr : meth.sig.returnType = (some .boolean)) (hk : meth.locks = false) (v0 : Int) : ∀ (σ : mSt) (H : Heap) (locs : List Loc) (ls : Array Slot), mX5_isPrime_B36 v0 σ = some out → mM (mA E 257) E 257 σ s H locs → lv_has ls 2 [] → mGo l p e 0 0 s m args below meth c E (some (vI out.1)) out.2 H locs (F0 m 36 ls []) := by
  intro σ H locs ls hm hM hl
  unfold mX5_isPrime_B36 at hm
  refine r_iconst (np := 37) G 1 dX5_isPrime_36 rfl ?_
  exact r_zret G hr hk hM (Or.inr rfl) hm dX5_isPrime_37
set_option maxRecDepth 100000 in
set_option maxHeartbeats 4000000 in
theorem wX5_isPrime_L15 (l : Launch) (E : mE) (out : Int × mSt) {p : Program} {e : Env} {s : State} {m : MethodId} {args : Array Value} {below : List Frame} {meth : Method} {c : Code} (G : CallFix p m c cX5_isPrime 2 s args mTs RX5) (hr : meth.sig.returnType = (some .boolean)) (hk : meth.locks = false) (v0 : Int) (x36 : mSt → Option (Int × mSt)) (hx36 : ∀ (σ : mSt) (H : Heap) (locs : List Loc) (ls : Array Slot), x36 σ = some out → mM (mA E 257) E 257 σ s H locs → lv_has ls 2 [] → mGo l p e 0 0 s m args below meth c E (some (vI out.1)) out.2 H locs (F0 m 36 ls [])) : ∀ (n : Nat) (v1 : Int) (σ : mSt) (H : Heap) (locs : List Loc) (ls : Array Slot), mX5_isPrime_L15 v0 x36 n v1 σ = some out → mM (mA E 257) E 257 σ s H locs → lv_has ls 2 [(0, vI v0), (1, vI v1)] → mGo l p e 0 0 s m args below meth c E (some (vI out.1)) out.2 H locs (F0 m 15 ls []) := by
  intro n
  induction n with
  | zero =>
    intro v1 σ H locs ls hm hM hl
    exact absurd hm (by rw [mX5_isPrime_L15.eq_1]; exact fun h => nomatch h)
  | succ n ih =>
    intro v1 σ H locs ls hm hM hl
    rw [mX5_isPrime_L15.eq_2] at hm
    refine r_iload_n (np := 16) G hl 1 rfl dX5_isPrime_15 rfl rfl ?_
    refine r_iload_n (np := 17) G hl 1 rfl dX5_isPrime_16 rfl rfl ?_
    refine r_imul (np := 18) G dX5_isPrime_17 rfl ?_
    refine r_iload_n (np := 19) G hl 0 rfl dX5_isPrime_18 rfl rfl ?_
    refine r_icmp_gt (np := 22) (tgt := 36) G rfl rfl dX5_isPrime_19 (by decide) rfl (fun h1 => ?_) (fun h1 => ?_)
    · have hm := b_t h1 hm
      exact hx36 _ _ _ _ hm hM (lv_sub hl [] rfl)
    · have hm := b_f h1 hm
      refine r_iload_n (np := 23) G hl 0 rfl dX5_isPrime_22 rfl rfl ?_
      refine r_iload_n (np := 24) G hl 1 rfl dX5_isPrime_23 rfl rfl ?_
      obtain ⟨g2, hm⟩ := g_t hm
      refine r_irem (np := 25) G g2 dX5_isPrime_24 rfl ?_
      refine r_if_ne (np := 28) (tgt := 30) G rfl dX5_isPrime_25 (by decide) rfl (fun h3 => ?_) (fun h3 => ?_)
      · have hm := b_f h3 hm
        obtain ⟨a4, e5, hm⟩ := bnd_t hm
        refine r_iinc (np := 33) G hl 1 rfl e5 [(1, vI a4), (0, vI v0)] dX5_isPrime_30 rfl (by decide) rfl (fun ls hl => ?_)
        refine r_goto (np := 15) G dX5_isPrime_33 (by decide) ?_
        exact ih a4 _ _ _ _ hm hM (lv_sub hl [1, 0] rfl)
      · have hm := b_t h3 hm
        refine r_iconst (np := 29) G 0 dX5_isPrime_28 rfl ?_
        exact r_zret G hr hk hM (Or.inl rfl) hm dX5_isPrime_29
set_option maxRecDepth 100000 in
set_option maxHeartbeats 4000000 in
theorem qX5_isPrime (l : Launch) (E : mE) (σ : mSt) (v0 : Int) (out : Int × mSt) (hm : mX5_isPrime v0 σ = some out) : mMet l yX5_isPrime cX5_isPrime 2 (some .boolean) 0 0 E 257 [vI v0] σ (some (vI out.1)) out.2 := by
  unfold mX5_isPrime at hm
  refine m_entry (by decide +kernel) (Nat.le_of_ble_eq_true rfl) (fun p e s m args below meth c G hr hk hM ls hl => ?_)
  have G : CallFix p m c cX5_isPrime 2 s args mTs RX5 := G
  have hl : lv_has ls 2 [(0, vI v0)] := hl
  refine r_iload_n (np := 1) G hl 0 rfl dX5_isPrime_0 rfl rfl ?_
  refine r_iconst (np := 2) G 2 dX5_isPrime_1 rfl ?_
  refine r_icmp_lt (np := 5) (tgt := 11) G rfl (wIk 2 rfl) dX5_isPrime_2 (by decide) rfl (fun h6 => ?_) (fun h6 => ?_)
  · have hm := b_t h6 hm
    refine r_iconst (np := 12) G 0 dX5_isPrime_11 rfl ?_
    exact r_zret G hr hk hM (Or.inl rfl) hm dX5_isPrime_12
  · have hm := b_f h6 hm
    refine r_iload_n (np := 6) G hl 0 rfl dX5_isPrime_5 rfl rfl ?_
    refine r_ldc (np := 8) G 60000 dX5_isPrime_6 lkX5_30 rfl rfl ?_
    refine r_icmp_le (np := 11) (tgt := 13) G rfl (wIk 60000 rfl) dX5_isPrime_8 (by decide) rfl (fun h7 => ?_) (fun h7 => ?_)
    · have hm := b_t h7 hm
      refine r_iconst (np := 14) G 2 dX5_isPrime_13 rfl ?_
      refine r_istore_n (np := 15) G hl rfl [(1, vI 2), (0, vI v0)] dX5_isPrime_14 rfl rfl (by decide) rfl (fun ls hl => ?_)
      exact wX5_isPrime_L15 l E out G hr hk v0 (fun zσ => mX5_isPrime_B36 v0 zσ) (fun zσ zH zl zs zm zM zv => wX5_isPrime_B36 l E out G hr hk v0 zσ zH zl zs zm zM zv) mF 2 _ _ _ _ hm hM (lv_sub hl [1, 0] rfl)
    · have hm := b_f h7 hm
      refine r_iconst (np := 12) G 0 dX5_isPrime_11 rfl ?_
      exact r_zret G hr hk hM (Or.inl rfl) hm dX5_isPrime_12
set_option maxRecDepth 100000 in
set_option maxHeartbeats 4000000 in
theorem wX5_isSquareFree_B27 (l : Launch) (E : mE) (out : Int × mSt) {p : Program} {e : Env} {s : State} {m : MethodId} {args : Array Value} {below : List Frame} {meth : Method} {c : Code} (G : CallFix p m c cX5_isSquareFree 3 s args mTs RX5) (hr : meth.sig.returnType = (some .boolean)) (hk : meth.locks = false) (v0 : Int) : ∀ (σ : mSt) (H : Heap) (locs : List Loc) (ls : Array Slot), mX5_isSquareFree_B27 v0 σ = some out → mM (mA E 257) E 257 σ s H locs → lv_has ls 3 [] → mGo l p e 0 0 s m args below meth c E (some (vI out.1)) out.2 H locs (F0 m 27 ls []) := by
  intro σ H locs ls hm hM hl
  unfold mX5_isSquareFree_B27 at hm
  refine r_iconst (np := 28) G 1 dX5_isSquareFree_27 rfl ?_
  exact r_zret G hr hk hM (Or.inr rfl) hm dX5_isSquareFree_28
set_option maxRecDepth 100000 in
set_option maxHeartbeats 4000000 in
theorem wX5_isSquareFree_L2 (l : Launch) (E : mE) (out : Int × mSt) {p : Program} {e : Env} {s : State} {m : MethodId} {args : Array Value} {below : List Frame} {meth : Method} {c : Code} (G : CallFix p m c cX5_isSquareFree 3 s args mTs RX5) (hr : meth.sig.returnType = (some .boolean)) (hk : meth.locks = false) (v0 : Int) (x27 : mSt → Option (Int × mSt)) (hx27 : ∀ (σ : mSt) (H : Heap) (locs : List Loc) (ls : Array Slot), x27 σ = some out → mM (mA E 257) E 257 σ s H locs → lv_has ls 3 [] → mGo l p e 0 0 s m args below meth c E (some (vI out.1)) out.2 H locs (F0 m 27 ls [])) : ∀ (n : Nat) (v2 : Int) (σ : mSt) (H : Heap) (locs : List Loc) (ls : Array Slot), mX5_isSquareFree_L2 v0 x27 n v2 σ = some out → mM (mA E 257) E 257 σ s H locs → lv_has ls 3 [(0, vL v0), (2, vI v2)] → mGo l p e 0 0 s m args below meth c E (some (vI out.1)) out.2 H locs (F0 m 2 ls []) := by
  intro n
  induction n with
  | zero =>
    intro v2 σ H locs ls hm hM hl
    exact absurd hm (by rw [mX5_isSquareFree_L2.eq_1]; exact fun h => nomatch h)
  | succ n ih =>
    intro v2 σ H locs ls hm hM hl
    rw [mX5_isSquareFree_L2.eq_2] at hm
    refine r_iload_n (np := 3) G hl 1 rfl dX5_isSquareFree_2 rfl rfl ?_
    refine r_bipush (np := 5) G 8 dX5_isSquareFree_3 (by decide) rfl ?_
    refine r_icmp_ge (np := 8) (tgt := 27) G rfl (wIk 8 rfl) dX5_isSquareFree_5 (by decide) rfl (fun h1 => ?_) (fun h1 => ?_)
    · have hm := b_t h1 hm
      exact hx27 _ _ _ _ hm hM (lv_sub hl [] rfl)
    · have hm := b_f h1 hm
      refine r_lload_n (np := 9) G hl 0 rfl dX5_isSquareFree_8 rfl rfl ?_
      refine r_iload_n (np := 10) G hl 1 rfl dX5_isSquareFree_9 rfl rfl ?_
      refine r_iload_n (np := 11) G hl 1 rfl dX5_isSquareFree_10 rfl rfl ?_
      refine r_imul (np := 12) G dX5_isSquareFree_11 rfl ?_
      refine r_i2l (np := 13) G rfl dX5_isSquareFree_12 rfl ?_
      obtain ⟨g2, hm⟩ := g_t hm
      refine r_lrem (np := 14) G g2 dX5_isSquareFree_13 rfl ?_
      refine r_lconst (np := 15) G 0 dX5_isSquareFree_14 rfl rfl ?_
      refine r_lcmp_ne (np := 19) (tgt := 21) G rfl (wLk 0 rfl) dX5_isSquareFree_15 dX5_isSquareFree_16 (by decide) rfl (fun h3 => ?_) (fun h3 => ?_)
      · have hm := b_f h3 hm
        obtain ⟨a4, e5, hm⟩ := bnd_t hm
        refine r_iinc (np := 24) G hl 1 rfl e5 [(2, vI a4), (0, vL v0)] dX5_isSquareFree_21 rfl (by decide) rfl (fun ls hl => ?_)
        refine r_goto (np := 2) G dX5_isSquareFree_24 (by decide) ?_
        exact ih a4 _ _ _ _ hm hM (lv_sub hl [1, 0] rfl)
      · have hm := b_t h3 hm
        refine r_iconst (np := 20) G 0 dX5_isSquareFree_19 rfl ?_
        exact r_zret G hr hk hM (Or.inl rfl) hm dX5_isSquareFree_20
set_option maxRecDepth 100000 in
set_option maxHeartbeats 4000000 in
theorem qX5_isSquareFree (l : Launch) (E : mE) (σ : mSt) (v0 : Int) (out : Int × mSt) (hm : mX5_isSquareFree v0 σ = some out) : mMet l yX5_isSquareFree cX5_isSquareFree 3 (some .boolean) 0 0 E 257 [vL v0] σ (some (vI out.1)) out.2 := by
  unfold mX5_isSquareFree at hm
  refine m_entry (by decide +kernel) (Nat.le_of_ble_eq_true rfl) (fun p e s m args below meth c G hr hk hM ls hl => ?_)
  have G : CallFix p m c cX5_isSquareFree 3 s args mTs RX5 := G
  have hl : lv_has ls 3 [(0, vL v0)] := hl
  refine r_iconst (np := 1) G 2 dX5_isSquareFree_0 rfl ?_
  refine r_istore_n (np := 2) G hl rfl [(2, vI 2), (0, vL v0)] dX5_isSquareFree_1 rfl rfl (by decide) rfl (fun ls hl => ?_)
  exact wX5_isSquareFree_L2 l E out G hr hk v0 (fun zσ => mX5_isSquareFree_B27 v0 zσ) (fun zσ zH zl zs zm zM zv => wX5_isSquareFree_B27 l E out G hr hk v0 zσ zH zl zs zm zM zv) mF 2 _ _ _ _ hm hM (lv_sub hl [1, 0] rfl)
set_option maxRecDepth 100000 in
set_option maxHeartbeats 4000000 in
theorem wX5_howOften_B47 (l : Launch) (E : mE) (out : Int × mSt) {p : Program} {e : Env} {s : State} {m : MethodId} {args : Array Value} {below : List Frame} {meth : Method} {c : Code} (G : CallFix p m c cX5_howOften 6 s args mTs RX5) (hr : meth.sig.returnType = (some .int)) (hk : meth.locks = false) (v0 : Int) (v1 : Int) : ∀ (v3 : Int) (σ : mSt) (H : Heap) (locs : List Loc) (ls : Array Slot), mX5_howOften_B47 v0 v1 v3 σ = some out → mM (mA E 257) E 257 σ s H locs → lv_has ls 6 [(3, vI v3)] → mGo l p e 0 0 s m args below meth c E (some (vI out.1)) out.2 H locs (F0 m 47 ls []) := by
  intro v3 σ H locs ls hm hM hl
  unfold mX5_howOften_B47 at hm
  refine r_iload_n (np := 48) G hl 0 rfl dX5_howOften_47 rfl rfl ?_
  exact r_iret G hr hk hM hm dX5_howOften_48
set_option maxRecDepth 100000 in
set_option maxHeartbeats 4000000 in
theorem wX5_howOften_L18 (l : Launch) (E : mE) (out : Int × mSt) {p : Program} {e : Env} {s : State} {m : MethodId} {args : Array Value} {below : List Frame} {meth : Method} {c : Code} (G : CallFix p m c cX5_howOften 6 s args mTs RX5) (hr : meth.sig.returnType = (some .int)) (hk : meth.locks = false) (v0 : Int) (v1 : Int) (x47 : Int → mSt → Option (Int × mSt)) (hx47 : ∀ (v3 : Int) (σ : mSt) (H : Heap) (locs : List Loc) (ls : Array Slot), x47 v3 σ = some out → mM (mA E 257) E 257 σ s H locs → lv_has ls 6 [(3, vI v3)] → mGo l p e 0 0 s m args below meth c E (some (vI out.1)) out.2 H locs (F0 m 47 ls [])) : ∀ (n : Nat) (v3 : Int) (v4 : Int) (σ : mSt) (H : Heap) (locs : List Loc) (ls : Array Slot), mX5_howOften_L18 v0 v1 x47 n v3 v4 σ = some out → mM (mA E 257) E 257 σ s H locs → lv_has ls 6 [(0, vI v0), (3, vI v3), (4, vL v4)] → mGo l p e 0 0 s m args below meth c E (some (vI out.1)) out.2 H locs (F0 m 18 ls []) := by
  intro n
  induction n with
  | zero =>
    intro v3 v4 σ H locs ls hm hM hl
    exact absurd hm (by rw [mX5_howOften_L18.eq_1]; exact fun h => nomatch h)
  | succ n ih =>
    intro v3 v4 σ H locs ls hm hM hl
    rw [mX5_howOften_L18.eq_2] at hm
    refine r_iload_n (np := 19) G hl 1 rfl dX5_howOften_18 rfl rfl ?_
    refine r_bipush (np := 21) G 64 dX5_howOften_19 (by decide) rfl ?_
    refine r_icmp_ge (np := 24) (tgt := 47) G rfl (wIk 64 rfl) dX5_howOften_21 (by decide) rfl (fun h1 => ?_) (fun h1 => ?_)
    · have hm := b_t h1 hm
      exact hx47 v3 _ _ _ _ hm hM (lv_sub hl [1] rfl)
    · have hm := b_f h1 hm
      refine r_lload (np := 26) G hl 2 rfl dX5_howOften_24 rfl ?_
      refine r_iload_n (np := 27) G hl 0 rfl dX5_howOften_26 rfl rfl ?_
      refine r_i2l (np := 28) G rfl dX5_howOften_27 rfl ?_
      obtain ⟨g2, hm⟩ := g_t hm
      refine r_lrem (np := 29) G g2 dX5_howOften_28 rfl ?_
      refine r_lconst (np := 30) G 0 dX5_howOften_29 rfl rfl ?_
      refine r_lcmp_ne (np := 34) (tgt := 47) G rfl (wLk 0 rfl) dX5_howOften_30 dX5_howOften_31 (by decide) rfl (fun h3 => ?_) (fun h3 => ?_)
      · have hm := b_f h3 hm
        exact hx47 v3 _ _ _ _ hm hM (lv_sub hl [1] rfl)
      · have hm := b_t h3 hm
        obtain ⟨a4, e5, hm⟩ := bnd_t hm
        refine r_iinc (np := 37) G hl 1 rfl e5 [(3, vI a4), (0, vI v0), (4, vL v4)] dX5_howOften_34 rfl (by decide) rfl (fun ls hl => ?_)
        refine r_lload (np := 39) G hl 2 rfl dX5_howOften_37 rfl ?_
        refine r_iload_n (np := 40) G hl 1 rfl dX5_howOften_39 rfl rfl ?_
        refine r_i2l (np := 41) G rfl dX5_howOften_40 rfl ?_
        refine r_ldiv (np := 42) G g2 dX5_howOften_41 rfl ?_
        obtain ⟨a6, e7, hm⟩ := bnd_t hm
        refine r_lstore (np := 44) G hl e7 [(4, vL a6), (3, vI a4), (0, vI v0)] dX5_howOften_42 rfl (by decide) rfl (fun ls hl => ?_)
        refine r_goto (np := 18) G dX5_howOften_44 (by decide) ?_
        exact ih a4 a6 _ _ _ _ hm hM (lv_sub hl [2, 1, 0] rfl)
set_option maxRecDepth 100000 in
set_option maxHeartbeats 4000000 in
theorem qX5_howOften (l : Launch) (E : mE) (σ : mSt) (v0 : Int) (v1 : Int) (out : Int × mSt) (hm : mX5_howOften v0 v1 σ = some out) : mMet l yX5_howOften cX5_howOften 6 (some .int) 0 0 E 257 [vI v0, vL v1] σ (some (vI out.1)) out.2 := by
  unfold mX5_howOften at hm
  refine m_entry (by decide +kernel) (Nat.le_of_ble_eq_true rfl) (fun p e s m args below meth c G hr hk hM ls hl => ?_)
  have G : CallFix p m c cX5_howOften 6 s args mTs RX5 := G
  have hl : lv_has ls 6 [(0, vI v0), (1, vL v1)] := hl
  refine r_iconst (np := 1) G 0 dX5_howOften_0 rfl ?_
  refine r_istore_n (np := 2) G hl rfl [(3, vI 0), (0, vI v0), (1, vL v1)] dX5_howOften_1 rfl rfl (by decide) rfl (fun ls hl => ?_)
  refine r_iload_n (np := 3) G hl 1 rfl dX5_howOften_2 rfl rfl ?_
  refine r_iconst (np := 4) G 2 dX5_howOften_3 rfl ?_
  refine r_icmp_lt (np := 7) (tgt := 13) G rfl (wIk 2 rfl) dX5_howOften_4 (by decide) rfl (fun h8 => ?_) (fun h8 => ?_)
  · have hm := b_t h8 hm
    refine r_iconst (np := 14) G 0 dX5_howOften_13 rfl ?_
    exact r_iret G hr hk hM hm dX5_howOften_14
  · have hm := b_f h8 hm
    refine r_lload_n (np := 8) G hl 2 rfl dX5_howOften_7 rfl rfl ?_
    refine r_lconst (np := 9) G 0 dX5_howOften_8 rfl rfl ?_
    refine r_lcmp_ne (np := 13) (tgt := 15) G rfl (wLk 0 rfl) dX5_howOften_9 dX5_howOften_10 (by decide) rfl (fun h9 => ?_) (fun h9 => ?_)
    · have hm := b_f h9 hm
      refine r_lload_n (np := 16) G hl 2 rfl dX5_howOften_15 rfl rfl ?_
      refine r_lstore (np := 18) G hl rfl [(4, vL v1), (3, vI 0), (0, vI v0), (1, vL v1)] dX5_howOften_16 rfl (by decide) rfl (fun ls hl => ?_)
      exact wX5_howOften_L18 l E out G hr hk v0 v1 (fun z3 zσ => mX5_howOften_B47 v0 v1 z3 zσ) (fun z3 zσ zH zl zs zm zM zv => wX5_howOften_B47 l E out G hr hk v0 v1 z3 zσ zH zl zs zm zM zv) mF 0 v1 _ _ _ _ hm hM (lv_sub hl [2, 1, 0] rfl)
    · have hm := b_t h9 hm
      refine r_iconst (np := 14) G 0 dX5_howOften_13 rfl ?_
      exact r_iret G hr hk hM hm dX5_howOften_14
set_option maxRecDepth 100000 in
set_option maxHeartbeats 4000000 in
theorem wX5_isSquareModulo_B42 (l : Launch) (E : mE) (out : Int × mSt) {p : Program} {e : Env} {s : State} {m : MethodId} {args : Array Value} {below : List Frame} {meth : Method} {c : Code} (G : CallFix p m c cX5_isSquareModulo 7 s args mTs RX5) (hr : meth.sig.returnType = (some .boolean)) (hk : meth.locks = false) (v0 : Int) (v2 : Int) : ∀ (σ : mSt) (H : Heap) (locs : List Loc) (ls : Array Slot), mX5_isSquareModulo_B42 v0 v2 σ = some out → mM (mA E 257) E 257 σ s H locs → lv_has ls 7 [] → mGo l p e 2 48 s m args below meth c E (some (vI out.1)) out.2 H locs (F0 m 42 ls []) := by
  intro σ H locs ls hm hM hl
  unfold mX5_isSquareModulo_B42 at hm
  refine r_iconst (np := 43) G 0 dX5_isSquareModulo_42 rfl ?_
  exact r_zret G hr hk hM (Or.inl rfl) hm dX5_isSquareModulo_43
set_option maxRecDepth 100000 in
set_option maxHeartbeats 4000000 in
theorem wX5_isSquareModulo_L10 (l : Launch) (E : mE) (out : Int × mSt) {p : Program} {e : Env} {s : State} {m : MethodId} {args : Array Value} {below : List Frame} {meth : Method} {c : Code} (G : CallFix p m c cX5_isSquareModulo 7 s args mTs RX5) (hr : meth.sig.returnType = (some .boolean)) (hk : meth.locks = false) (v0 : Int) (v2 : Int) (v3 : Int) (x42 : mSt → Option (Int × mSt)) (hx42 : ∀ (σ : mSt) (H : Heap) (locs : List Loc) (ls : Array Slot), x42 σ = some out → mM (mA E 257) E 257 σ s H locs → lv_has ls 7 [] → mGo l p e 2 48 s m args below meth c E (some (vI out.1)) out.2 H locs (F0 m 42 ls [])) : ∀ (n : Nat) (v5 : Int) (σ : mSt) (H : Heap) (locs : List Loc) (ls : Array Slot), mX5_isSquareModulo_L10 v0 v2 v3 x42 n v5 σ = some out → mM (mA E 257) E 257 σ s H locs → lv_has ls 7 [(2, vI v2), (3, vL v3), (5, vL v5)] → mGo l p e 2 48 s m args below meth c E (some (vI out.1)) out.2 H locs (F0 m 10 ls []) := by
  intro n
  induction n with
  | zero =>
    intro v5 σ H locs ls hm hM hl
    exact absurd hm (by rw [mX5_isSquareModulo_L10.eq_1]; exact fun h => nomatch h)
  | succ n ih =>
    intro v5 σ H locs ls hm hM hl
    rw [mX5_isSquareModulo_L10.eq_2] at hm
    refine r_lload (np := 12) G hl 2 rfl dX5_isSquareModulo_10 rfl ?_
    refine r_iload_n (np := 13) G hl 0 rfl dX5_isSquareModulo_12 rfl rfl ?_
    refine r_i2l (np := 14) G rfl dX5_isSquareModulo_13 rfl ?_
    refine r_lcmp_ge (np := 18) (tgt := 42) G rfl rfl dX5_isSquareModulo_14 dX5_isSquareModulo_15 (by decide) rfl (fun h1 => ?_) (fun h1 => ?_)
    · have hm := b_t h1 hm
      exact hx42 _ _ _ _ hm hM (lv_sub hl [] rfl)
    · have hm := b_f h1 hm
      refine r_lload (np := 20) G hl 2 rfl dX5_isSquareModulo_18 rfl ?_
      refine r_lload (np := 22) G hl 2 rfl dX5_isSquareModulo_20 rfl ?_
      refine r_lmul (np := 23) G dX5_isSquareModulo_22 rfl ?_
      refine r_iload_n (np := 24) G hl 0 rfl dX5_isSquareModulo_23 rfl rfl ?_
      refine r_i2l (np := 25) G rfl dX5_isSquareModulo_24 rfl ?_
      obtain ⟨g2, hm⟩ := g_t hm
      refine r_lrem (np := 26) G g2 dX5_isSquareModulo_25 rfl ?_
      refine r_lload_n (np := 27) G hl 1 rfl dX5_isSquareModulo_26 rfl rfl ?_
      refine r_lcmp_ne (np := 31) (tgt := 33) G rfl rfl dX5_isSquareModulo_27 dX5_isSquareModulo_28 (by decide) rfl (fun h3 => ?_) (fun h3 => ?_)
      · have hm := b_f h3 hm
        refine r_lload (np := 35) G hl 2 rfl dX5_isSquareModulo_33 rfl ?_
        refine r_lconst (np := 36) G 1 dX5_isSquareModulo_35 rfl rfl ?_
        refine r_ladd (np := 37) G dX5_isSquareModulo_36 rfl ?_
        obtain ⟨a4, e5, hm⟩ := bnd_t hm
        refine r_lstore (np := 39) G hl e5 [(5, vL a4), (2, vI v2), (3, vL v3)] dX5_isSquareModulo_37 rfl (by decide) rfl (fun ls hl => ?_)
        refine r_goto (np := 10) G dX5_isSquareModulo_39 (by decide) ?_
        exact ih a4 _ _ _ _ hm hM (lv_sub hl [1, 2, 0] rfl)
      · have hm := b_t h3 hm
        refine r_iconst (np := 32) G 1 dX5_isSquareModulo_31 rfl ?_
        exact r_zret G hr hk hM (Or.inr rfl) hm dX5_isSquareModulo_32
set_option maxRecDepth 100000 in
set_option maxHeartbeats 4000000 in
theorem qX5_isSquareModulo (l : Launch) (E : mE) (σ : mSt) (v0 : Int) (v2 : Int) (out : Int × mSt) (hm : mX5_isSquareModulo v0 v2 σ = some out) : mMet l yX5_isSquareModulo cX5_isSquareModulo 7 (some .boolean) 2 48 E 257 [vL v0, vI v2] σ (some (vI out.1)) out.2 := by
  unfold mX5_isSquareModulo at hm
  refine m_entry (by decide +kernel) (Nat.le_of_ble_eq_true rfl) (fun p e s m args below meth c G hr hk hM ls hl => ?_)
  have G : CallFix p m c cX5_isSquareModulo 7 s args mTs RX5 := G
  have hl : lv_has ls 7 [(0, vL v0), (2, vI v2)] := hl
  refine r_lload_n (np := 1) G hl 0 rfl dX5_isSquareModulo_0 rfl rfl ?_
  refine r_iload_n (np := 2) G hl 1 rfl dX5_isSquareModulo_1 rfl rfl ?_
  refine r_i2l (np := 3) G rfl dX5_isSquareModulo_2 rfl ?_
  obtain ⟨b6, s7, e8, hm⟩ := call_t hm
  refine m_callSL (np := 6) G hM hl.1 [vL v0, vL (wI v2)] (qX5_rest l E σ v0 (wI v2) _ e8) myX5_rest lkX5_31 ⟨Nat.le_of_ble_eq_true rfl, Nat.le_of_ble_eq_true rfl⟩ ⟨Nat.le_of_ble_eq_true rfl, Nat.le_of_ble_eq_true rfl⟩ [] rfl (Nat.le_of_ble_eq_true rfl) dX5_isSquareModulo_3 rfl (fun H locs hM => ?_)
  refine r_lstore_n (np := 7) G hl rfl [(3, vL b6), (0, vL v0), (2, vI v2)] dX5_isSquareModulo_6 rfl rfl (by decide) rfl (fun ls hl => ?_)
  refine r_lconst (np := 8) G 0 dX5_isSquareModulo_7 rfl rfl ?_
  refine r_lstore (np := 10) G hl rfl [(5, vL 0), (3, vL b6), (0, vL v0), (2, vI v2)] dX5_isSquareModulo_8 rfl (by decide) rfl (fun ls hl => ?_)
  exact wX5_isSquareModulo_L10 l E out G hr hk v0 v2 b6 (fun zσ => mX5_isSquareModulo_B42 v0 v2 zσ) (fun zσ zH zl zs zm zM zv => wX5_isSquareModulo_B42 l E out G hr hk v0 v2 zσ zH zl zs zm zM zv) mF 0 _ _ _ _ hm hM (lv_sub hl [3, 1, 0] rfl)
set_option maxRecDepth 100000 in
set_option maxHeartbeats 4000000 in
theorem wX5_root_B42 (l : Launch) (E : mE) (out : Int × mSt) {p : Program} {e : Env} {s : State} {m : MethodId} {args : Array Value} {below : List Frame} {meth : Method} {c : Code} (G : CallFix p m c cX5_root 8 s args mTs RX5) (hr : meth.sig.returnType = (some .long)) (hk : meth.locks = false) (v0 : Int) : ∀ (v2 : Int) (σ : mSt) (H : Heap) (locs : List Loc) (ls : Array Slot), mX5_root_B42 v0 v2 σ = some out → mM (mA E 257) E 257 σ s H locs → lv_has ls 8 [(2, vL v2)] → mGo l p e 0 0 s m args below meth c E (some (vL out.1)) out.2 H locs (F0 m 42 ls []) := by
  intro v2 σ H locs ls hm hM hl
  unfold mX5_root_B42 at hm
  refine r_lload_n (np := 43) G hl 0 rfl dX5_root_42 rfl rfl ?_
  exact r_lret G hr hk hM hm dX5_root_43
set_option maxRecDepth 100000 in
set_option maxHeartbeats 4000000 in
theorem wX5_root_L7 (l : Launch) (E : mE) (out : Int × mSt) {p : Program} {e : Env} {s : State} {m : MethodId} {args : Array Value} {below : List Frame} {meth : Method} {c : Code} (G : CallFix p m c cX5_root 8 s args mTs RX5) (hr : meth.sig.returnType = (some .long)) (hk : meth.locks = false) (v0 : Int) (x42 : Int → mSt → Option (Int × mSt)) (hx42 : ∀ (v2 : Int) (σ : mSt) (H : Heap) (locs : List Loc) (ls : Array Slot), x42 v2 σ = some out → mM (mA E 257) E 257 σ s H locs → lv_has ls 8 [(2, vL v2)] → mGo l p e 0 0 s m args below meth c E (some (vL out.1)) out.2 H locs (F0 m 42 ls [])) : ∀ (n : Nat) (v2 : Int) (v4 : Int) (σ : mSt) (H : Heap) (locs : List Loc) (ls : Array Slot), mX5_root_L7 v0 x42 n v2 v4 σ = some out → mM (mA E 257) E 257 σ s H locs → lv_has ls 8 [(0, vL v0), (2, vL v2), (4, vL v4)] → mGo l p e 0 0 s m args below meth c E (some (vL out.1)) out.2 H locs (F0 m 7 ls []) := by
  intro n
  induction n with
  | zero =>
    intro v2 v4 σ H locs ls hm hM hl
    exact absurd hm (by rw [mX5_root_L7.eq_1]; exact fun h => nomatch h)
  | succ n ih =>
    intro v2 v4 σ H locs ls hm hM hl
    rw [mX5_root_L7.eq_2] at hm
    refine r_lload (np := 9) G hl 2 rfl dX5_root_7 rfl ?_
    refine r_lconst (np := 10) G 0 dX5_root_9 rfl rfl ?_
    refine r_lcmp_le (np := 14) (tgt := 42) G rfl (wLk 0 rfl) dX5_root_10 dX5_root_11 (by decide) rfl (fun h1 => ?_) (fun h1 => ?_)
    · have hm := b_t h1 hm
      exact hx42 v2 _ _ _ _ hm hM (lv_sub hl [1] rfl)
    · have hm := b_f h1 hm
      refine r_lload_n (np := 15) G hl 1 rfl dX5_root_14 rfl rfl ?_
      refine r_lload (np := 17) G hl 2 rfl dX5_root_15 rfl ?_
      refine r_ladd (np := 18) G dX5_root_17 rfl ?_
      obtain ⟨a2, e3, hm⟩ := bnd_t hm
      refine r_lstore (np := 20) G hl e3 [(6, vL a2), (0, vL v0), (2, vL v2), (4, vL v4)] dX5_root_18 rfl (by decide) rfl (fun ls hl => ?_)
      refine r_lload (np := 22) G hl 0 rfl dX5_root_20 rfl ?_
      refine r_lload (np := 24) G hl 0 rfl dX5_root_22 rfl ?_
      refine r_lmul (np := 25) G dX5_root_24 rfl ?_
      refine r_lload_n (np := 26) G hl 1 rfl dX5_root_25 rfl rfl ?_
      refine r_lcmp_gt (np := 30) (tgt := 33) G rfl rfl dX5_root_26 dX5_root_27 (by decide) rfl (fun h4 => ?_) (fun h4 => ?_)
      · have hm := b_t h4 hm
        refine r_lload (np := 35) G hl 3 rfl dX5_root_33 rfl ?_
        refine r_iconst (np := 36) G 1 dX5_root_35 rfl ?_
        refine r_lshr (np := 37) G dX5_root_36 rfl ?_
        obtain ⟨a5, e6, hm⟩ := bnd_t hm
        refine r_lstore (np := 39) G hl e6 [(4, vL a5), (6, vL a2), (0, vL v0), (2, vL v2)] dX5_root_37 rfl (by decide) rfl (fun ls hl => ?_)
        refine r_goto (np := 7) G dX5_root_39 (by decide) ?_
        exact ih v2 a5 _ _ _ _ hm hM (lv_sub hl [2, 3, 0] rfl)
      · have hm := b_f h4 hm
        refine r_lload (np := 32) G hl 0 rfl dX5_root_30 rfl ?_
        refine r_lstore_n (np := 33) G hl rfl [(2, vL a2), (6, vL a2), (0, vL v0), (4, vL v4)] dX5_root_32 rfl rfl (by decide) rfl (fun ls hl => ?_)
        refine r_lload (np := 35) G hl 3 rfl dX5_root_33 rfl ?_
        refine r_iconst (np := 36) G 1 dX5_root_35 rfl ?_
        refine r_lshr (np := 37) G dX5_root_36 rfl ?_
        obtain ⟨a7, e8, hm⟩ := bnd_t hm
        refine r_lstore (np := 39) G hl e8 [(4, vL a7), (2, vL a2), (6, vL a2), (0, vL v0)] dX5_root_37 rfl (by decide) rfl (fun ls hl => ?_)
        refine r_goto (np := 7) G dX5_root_39 (by decide) ?_
        exact ih a2 a7 _ _ _ _ hm hM (lv_sub hl [3, 1, 0] rfl)
set_option maxRecDepth 100000 in
set_option maxHeartbeats 4000000 in
theorem qX5_root (l : Launch) (E : mE) (σ : mSt) (v0 : Int) (out : Int × mSt) (hm : mX5_root v0 σ = some out) : mMet l yX5_root cX5_root 8 (some .long) 0 0 E 257 [vL v0] σ (some (vL out.1)) out.2 := by
  unfold mX5_root at hm
  refine m_entry (by decide +kernel) (Nat.le_of_ble_eq_true rfl) (fun p e s m args below meth c G hr hk hM ls hl => ?_)
  have G : CallFix p m c cX5_root 8 s args mTs RX5 := G
  have hl : lv_has ls 8 [(0, vL v0)] := hl
  refine r_lconst (np := 1) G 0 dX5_root_0 rfl rfl ?_
  refine r_lstore_n (np := 2) G hl rfl [(2, vL 0), (0, vL v0)] dX5_root_1 rfl rfl (by decide) rfl (fun ls hl => ?_)
  refine r_ldc2 (np := 5) G 536870912 dX5_root_2 lkX5_34 rfl rfl ?_
  refine r_lstore (np := 7) G hl rfl [(4, vL 536870912), (2, vL 0), (0, vL v0)] dX5_root_5 rfl (by decide) rfl (fun ls hl => ?_)
  exact wX5_root_L7 l E out G hr hk v0 (fun z2 zσ => mX5_root_B42 v0 z2 zσ) (fun z2 zσ zH zl zs zm zM zv => wX5_root_B42 l E out G hr hk v0 z2 zσ zH zl zs zm zM zv) mF 0 536870912 _ _ _ _ hm hM (lv_sub hl [2, 1, 0] rfl)
set_option maxRecDepth 100000 in
set_option maxHeartbeats 4000000 in
theorem qJ9_abs_0f7a4 (l : Launch) (E : mE) (σ : mSt) (v0 : Int) (out : Int × mSt) (hm : mJ9_abs_0f7a4 v0 σ = some out) : mMet l yJ9_abs_0f7a4 cJ9_abs_0f7a4 1 (some .int) 0 0 E 257 [vI v0] σ (some (vI out.1)) out.2 := by
  unfold mJ9_abs_0f7a4 at hm
  refine m_entryF (by decide +kernel) (Nat.le_of_ble_eq_true rfl) (fun p e s m args below meth c G hr hk hM ls hl => ?_)
  have G : CallFix p m c cJ9_abs_0f7a4 1 s args mTs RJ9 := G
  have hl : lv_has ls 1 [(0, vI v0)] := hl
  refine r_iload_n (np := 1) G hl 0 rfl dJ9_abs_0f7a4_0 rfl rfl ?_
  refine r_if_ge (np := 4) (tgt := 9) G rfl dJ9_abs_0f7a4_1 (by decide) rfl (fun h1 => ?_) (fun h1 => ?_)
  · have hm := b_t h1 hm
    refine r_iload_n (np := 10) G hl 0 rfl dJ9_abs_0f7a4_9 rfl rfl ?_
    exact r_iret G hr hk hM hm dJ9_abs_0f7a4_10
  · have hm := b_f h1 hm
    refine r_iload_n (np := 5) G hl 0 rfl dJ9_abs_0f7a4_4 rfl rfl ?_
    refine r_ineg (np := 6) G dJ9_abs_0f7a4_5 rfl ?_
    refine r_goto (np := 10) G dJ9_abs_0f7a4_6 (by decide) ?_
    exact r_iret G hr hk hM hm dJ9_abs_0f7a4_10
set_option maxRecDepth 100000 in
set_option maxHeartbeats 4000000 in
theorem qJ9_min_f86c9 (l : Launch) (E : mE) (σ : mSt) (v0 : Int) (v2 : Int) (out : Int × mSt) (hm : mJ9_min_f86c9 v0 v2 σ = some out) : mMet l yJ9_min_f86c9 cJ9_min_f86c9 4 (some .long) 0 0 E 257 [vL v0, vL v2] σ (some (vL out.1)) out.2 := by
  unfold mJ9_min_f86c9 at hm
  refine m_entryF (by decide +kernel) (Nat.le_of_ble_eq_true rfl) (fun p e s m args below meth c G hr hk hM ls hl => ?_)
  have G : CallFix p m c cJ9_min_f86c9 4 s args mTs RJ9 := G
  have hl : lv_has ls 4 [(0, vL v0), (2, vL v2)] := hl
  refine r_lload_n (np := 1) G hl 0 rfl dJ9_min_f86c9_0 rfl rfl ?_
  refine r_lload_n (np := 2) G hl 1 rfl dJ9_min_f86c9_1 rfl rfl ?_
  refine r_lcmp_gt (np := 6) (tgt := 10) G rfl rfl dJ9_min_f86c9_2 dJ9_min_f86c9_3 (by decide) rfl (fun h1 => ?_) (fun h1 => ?_)
  · have hm := b_t h1 hm
    refine r_lload_n (np := 11) G hl 1 rfl dJ9_min_f86c9_10 rfl rfl ?_
    exact r_lret G hr hk hM hm dJ9_min_f86c9_11
  · have hm := b_f h1 hm
    refine r_lload_n (np := 7) G hl 0 rfl dJ9_min_f86c9_6 rfl rfl ?_
    refine r_goto (np := 11) G dJ9_min_f86c9_7 (by decide) ?_
    exact r_lret G hr hk hM hm dJ9_min_f86c9_11
