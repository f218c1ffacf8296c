theorem th_k : Cond.classLink RX11 120 nse ∈ mTs := mTs_in 1158 (by decide +kernel) (by decide +kernel)
theorem th_i : Cond.initialized nse ∈ mTs := mTs_in 137 (by decide +kernel) (by decide +kernel)
theorem th_in : ∀ w ∈ vx_at0 RX11 122 nse ["java/lang/RuntimeException", "java/lang/Exception"], w ∈ mTs := mTs_all _ (by decide +kernel)
theorem th_g : ∀ w ∈ Cond.classLink RX11 120 nse :: Cond.initialized nse :: vx_at0 RX11 122 nse ["java/lang/RuntimeException", "java/lang/Exception"], vx_ot w = true := by decide +kernel
theorem lkX11_126 : Cond.methodLink RX11 126 yX0_letter ∈ mTs := mTs_in 1219 (by decide +kernel) (by decide +kernel)
theorem myX0_letter : mYV yX0_letter cX0_letter 2 (some .int) 1 := ⟨⟨mTs_in 1222 (by decide +kernel) (by decide +kernel), mTs_in 119 (by decide +kernel) (by decide +kernel), ⟨by decide, by decide⟩, by decide +kernel⟩, mTs_in 1220 (by decide +kernel) (by decide +kernel), mTs_in 1221 (by decide +kernel) (by decide +kernel)⟩
theorem lkX11_193 : Cond.methodLink RX11 193 yX5_lowest ∈ mTs := mTs_in 1237 (by decide +kernel) (by decide +kernel)
theorem myX5_lowest : mYS yX5_lowest cX5_lowest 5 (some .long) 3 := ⟨⟨mTs_in 1239 (by decide +kernel) (by decide +kernel), mTs_in 133 (by decide +kernel) (by decide +kernel), ⟨by decide, by decide⟩, by decide +kernel⟩, mTs_in 1238 (by decide +kernel) (by decide +kernel)⟩
theorem lkX11_197 : Cond.constantLong RX11 197 (2) ∈ mTs := mTs_in 1249 (by decide +kernel) (by decide +kernel)
theorem lkX11_217 : Cond.methodLink RX11 217 yX9_entry ∈ mTs := mTs_in 1257 (by decide +kernel) (by decide +kernel)
theorem myX9_entry : mYV yX9_entry cX9_entry 10 (some .long) 3 := ⟨⟨mTs_in 1260 (by decide +kernel) (by decide +kernel), mTs_in 124 (by decide +kernel) (by decide +kernel), ⟨by decide, by decide⟩, by decide +kernel⟩, mTs_in 1258 (by decide +kernel) (by decide +kernel), mTs_in 1259 (by decide +kernel) (by decide +kernel)⟩
theorem lkX11_221 : Cond.methodLink RX11 221 yX9_below ∈ mTs := mTs_in 1265 (by decide +kernel) (by decide +kernel)
theorem myX9_below : mYV yX9_below cX9_below 1 (some .long) 0 := ⟨⟨mTs_in 1268 (by decide +kernel) (by decide +kernel), mTs_in 124 (by decide +kernel) (by decide +kernel), ⟨by decide, by decide⟩, by decide +kernel⟩, mTs_in 1266 (by decide +kernel) (by decide +kernel), mTs_in 1267 (by decide +kernel) (by decide +kernel)⟩
theorem lkX11_236 : Cond.methodLink RX11 236 yX6_numbersOf ∈ mTs := mTs_in 1277 (by decide +kernel) (by decide +kernel)
theorem lkX11_235 : Cond.methodLink RX11 235 yX6_below ∈ mTs := mTs_in 1276 (by decide +kernel) (by decide +kernel)
theorem lkX11_251 : Cond.methodLink RX11 251 yX6_expressProduct ∈ mTs := mTs_in 1285 (by decide +kernel) (by decide +kernel)
theorem dX11_algebra_0 : decode cX11_algebra 0 = .ok (.aload_n 0, 1) := by decide +kernel
theorem dX11_algebra_1 : decode cX11_algebra 1 = .ok (.iload_n 1, 1) := by decide +kernel
theorem dX11_algebra_2 : decode cX11_algebra 2 = .ok (.invokevirtual 117, 3) := by decide +kernel
theorem dX11_algebra_5 : decode cX11_algebra 5 = .ok (.ifCond .eq 12, 3) := by decide +kernel
theorem dX11_algebra_8 : decode cX11_algebra 8 = .ok (.iload_n 2, 1) := by decide +kernel
theorem dX11_algebra_9 : decode cX11_algebra 9 = .ok (.ifCond .lt 8, 3) := by decide +kernel
theorem dX11_algebra_12 : decode cX11_algebra 12 = .ok (.iload_n 2, 1) := by decide +kernel
theorem dX11_algebra_13 : decode cX11_algebra 13 = .ok (.iconst 3, 1) := by decide +kernel
theorem dX11_algebra_14 : decode cX11_algebra 14 = .ok (.if_icmp .le 11, 3) := by decide +kernel
theorem dX11_algebra_17 : decode cX11_algebra 17 = .ok (.new 120, 3) := by decide +kernel
theorem dX11_algebra_20 : decode cX11_algebra 20 = .ok (.dup, 1) := by decide +kernel
theorem dX11_algebra_21 : decode cX11_algebra 21 = .ok (.invokespecial 122, 3) := by decide +kernel
theorem dX11_algebra_24 : decode cX11_algebra 24 = .ok (.athrow, 1) := by decide +kernel
theorem dX11_algebra_25 : decode cX11_algebra 25 = .ok (.iload_n 2, 1) := by decide +kernel
theorem dX11_algebra_26 : decode cX11_algebra 26 = .ok (.tableswitch 53 0 2 #[26, 35, 44], 26) := by decide +kernel
theorem dX11_algebra_52 : decode cX11_algebra 52 = .ok (.aload_n 0, 1) := by decide +kernel
theorem dX11_algebra_53 : decode cX11_algebra 53 = .ok (.getfield 27, 3) := by decide +kernel
theorem dX11_algebra_56 : decode cX11_algebra 56 = .ok (.iload_n 1, 1) := by decide +kernel
theorem dX11_algebra_57 : decode cX11_algebra 57 = .ok (.invokevirtual 123, 3) := by decide +kernel
theorem dX11_algebra_60 : decode cX11_algebra 60 = .ok (.ireturn, 1) := by decide +kernel
theorem dX11_algebra_61 : decode cX11_algebra 61 = .ok (.aload_n 0, 1) := by decide +kernel
theorem dX11_algebra_62 : decode cX11_algebra 62 = .ok (.getfield 27, 3) := by decide +kernel
theorem dX11_algebra_65 : decode cX11_algebra 65 = .ok (.iload_n 1, 1) := by decide +kernel
theorem dX11_algebra_66 : decode cX11_algebra 66 = .ok (.invokevirtual 106, 3) := by decide +kernel
theorem dX11_algebra_69 : decode cX11_algebra 69 = .ok (.ireturn, 1) := by decide +kernel
theorem dX11_algebra_70 : decode cX11_algebra 70 = .ok (.aload_n 0, 1) := by decide +kernel
theorem dX11_algebra_71 : decode cX11_algebra 71 = .ok (.getfield 27, 3) := by decide +kernel
theorem dX11_algebra_74 : decode cX11_algebra 74 = .ok (.iload_n 1, 1) := by decide +kernel
theorem dX11_algebra_75 : decode cX11_algebra 75 = .ok (.invokevirtual 110, 3) := by decide +kernel
theorem dX11_algebra_78 : decode cX11_algebra 78 = .ok (.ireturn, 1) := by decide +kernel
theorem dX11_algebra_79 : decode cX11_algebra 79 = .ok (.aload_n 0, 1) := by decide +kernel
theorem dX11_algebra_80 : decode cX11_algebra 80 = .ok (.getfield 27, 3) := by decide +kernel
theorem dX11_algebra_83 : decode cX11_algebra 83 = .ok (.iload_n 1, 1) := by decide +kernel
theorem dX11_algebra_84 : decode cX11_algebra 84 = .ok (.invokevirtual 126, 3) := by decide +kernel
theorem dX11_algebra_87 : decode cX11_algebra 87 = .ok (.ireturn, 1) := by decide +kernel
theorem dX11_element_0 : decode cX11_element 0 = .ok (.aload_n 0, 1) := by decide +kernel
theorem dX11_element_1 : decode cX11_element 1 = .ok (.iload_n 1, 1) := by decide +kernel
theorem dX11_element_2 : decode cX11_element 2 = .ok (.invokevirtual 159, 3) := by decide +kernel
theorem dX11_element_5 : decode cX11_element 5 = .ok (.ifCond .eq 12, 3) := by decide +kernel
theorem dX11_element_8 : decode cX11_element 8 = .ok (.iload_n 2, 1) := by decide +kernel
theorem dX11_element_9 : decode cX11_element 9 = .ok (.ifCond .lt 8, 3) := by decide +kernel
theorem dX11_element_12 : decode cX11_element 12 = .ok (.iload_n 2, 1) := by decide +kernel
theorem dX11_element_13 : decode cX11_element 13 = .ok (.iconst 5, 1) := by decide +kernel
theorem dX11_element_14 : decode cX11_element 14 = .ok (.if_icmp .le 11, 3) := by decide +kernel
theorem dX11_element_17 : decode cX11_element 17 = .ok (.new 120, 3) := by decide +kernel
theorem dX11_element_20 : decode cX11_element 20 = .ok (.dup, 1) := by decide +kernel
theorem dX11_element_21 : decode cX11_element 21 = .ok (.invokespecial 122, 3) := by decide +kernel
theorem dX11_element_24 : decode cX11_element 24 = .ok (.athrow, 1) := by decide +kernel
theorem dX11_element_25 : decode cX11_element 25 = .ok (.aload_n 0, 1) := by decide +kernel
theorem dX11_element_26 : decode cX11_element 26 = .ok (.getfield 43, 3) := by decide +kernel
theorem dX11_element_29 : decode cX11_element 29 = .ok (.iload_n 1, 1) := by decide +kernel
theorem dX11_element_30 : decode cX11_element 30 = .ok (.aaload, 1) := by decide +kernel
theorem dX11_element_31 : decode cX11_element 31 = .ok (.astore_n 3, 1) := by decide +kernel
theorem dX11_element_32 : decode cX11_element 32 = .ok (.iload_n 2, 1) := by decide +kernel
theorem dX11_element_33 : decode cX11_element 33 = .ok (.iconst 5, 1) := by decide +kernel
theorem dX11_element_34 : decode cX11_element 34 = .ok (.if_icmp .ne 8, 3) := by decide +kernel
theorem dX11_element_37 : decode cX11_element 37 = .ok (.aload_n 3, 1) := by decide +kernel
theorem dX11_element_38 : decode cX11_element 38 = .ok (.getfield 165, 3) := by decide +kernel
theorem dX11_element_41 : decode cX11_element 41 = .ok (.ireturn, 1) := by decide +kernel
theorem dX11_element_42 : decode cX11_element 42 = .ok (.iload_n 2, 1) := by decide +kernel
theorem dX11_element_43 : decode cX11_element 43 = .ok (.iconst 4, 1) := by decide +kernel
theorem dX11_element_44 : decode cX11_element 44 = .ok (.if_icmp .ne 10, 3) := by decide +kernel
theorem dX11_element_47 : decode cX11_element 47 = .ok (.aload_n 3, 1) := by decide +kernel
theorem dX11_element_48 : decode cX11_element 48 = .ok (.getfield 168, 3) := by decide +kernel
theorem dX11_element_51 : decode cX11_element 51 = .ok (.goto 9, 3) := by decide +kernel
theorem dX11_element_54 : decode cX11_element 54 = .ok (.aload_n 3, 1) := by decide +kernel
theorem dX11_element_55 : decode cX11_element 55 = .ok (.getfield 162, 3) := by decide +kernel
theorem dX11_element_58 : decode cX11_element 58 = .ok (.iload_n 2, 1) := by decide +kernel
theorem dX11_element_59 : decode cX11_element 59 = .ok (.laload, 1) := by decide +kernel
theorem dX11_element_60 : decode cX11_element 60 = .ok (.l2i, 1) := by decide +kernel
theorem dX11_element_61 : decode cX11_element 61 = .ok (.ireturn, 1) := by decide +kernel
theorem dX11_norm_0 : decode cX11_norm 0 = .ok (.aload_n 0, 1) := by decide +kernel
theorem dX11_norm_1 : decode cX11_norm 1 = .ok (.iload_n 1, 1) := by decide +kernel
theorem dX11_norm_2 : decode cX11_norm 2 = .ok (.invokevirtual 159, 3) := by decide +kernel
theorem dX11_norm_5 : decode cX11_norm 5 = .ok (.ifCond .eq 12, 3) := by decide +kernel
theorem dX11_norm_8 : decode cX11_norm 8 = .ok (.iload_n 2, 1) := by decide +kernel
theorem dX11_norm_9 : decode cX11_norm 9 = .ok (.ifCond .lt 8, 3) := by decide +kernel
theorem dX11_norm_12 : decode cX11_norm 12 = .ok (.iload_n 2, 1) := by decide +kernel
theorem dX11_norm_13 : decode cX11_norm 13 = .ok (.iconst 1, 1) := by decide +kernel
theorem dX11_norm_14 : decode cX11_norm 14 = .ok (.if_icmp .le 11, 3) := by decide +kernel
theorem dX11_norm_17 : decode cX11_norm 17 = .ok (.new 120, 3) := by decide +kernel
theorem dX11_norm_20 : decode cX11_norm 20 = .ok (.dup, 1) := by decide +kernel
theorem dX11_norm_21 : decode cX11_norm 21 = .ok (.invokespecial 122, 3) := by decide +kernel
theorem dX11_norm_24 : decode cX11_norm 24 = .ok (.athrow, 1) := by decide +kernel
theorem dX11_norm_25 : decode cX11_norm 25 = .ok (.aload_n 0, 1) := by decide +kernel
theorem dX11_norm_26 : decode cX11_norm 26 = .ok (.getfield 43, 3) := by decide +kernel
theorem dX11_norm_29 : decode cX11_norm 29 = .ok (.iload_n 1, 1) := by decide +kernel
theorem dX11_norm_30 : decode cX11_norm 30 = .ok (.aaload, 1) := by decide +kernel
theorem dX11_norm_31 : decode cX11_norm 31 = .ok (.astore_n 3, 1) := by decide +kernel
theorem dX11_norm_32 : decode cX11_norm 32 = .ok (.aload_n 0, 1) := by decide +kernel
theorem dX11_norm_33 : decode cX11_norm 33 = .ok (.aload_n 3, 1) := by decide +kernel
theorem dX11_norm_34 : decode cX11_norm 34 = .ok (.invokevirtual 183, 3) := by decide +kernel
theorem dX11_norm_37 : decode cX11_norm 37 = .ok (.aload_n 3, 1) := by decide +kernel
theorem dX11_norm_38 : decode cX11_norm 38 = .ok (.getfield 168, 3) := by decide +kernel
theorem dX11_norm_41 : decode cX11_norm 41 = .ok (.aload_n 3, 1) := by decide +kernel
theorem dX11_norm_42 : decode cX11_norm 42 = .ok (.getfield 168, 3) := by decide +kernel
theorem dX11_norm_45 : decode cX11_norm 45 = .ok (.lmul, 1) := by decide +kernel
theorem dX11_norm_46 : decode cX11_norm 46 = .ok (.iload_n 2, 1) := by decide +kernel
theorem dX11_norm_47 : decode cX11_norm 47 = .ok (.invokestatic 193, 3) := by decide +kernel
theorem dX11_norm_50 : decode cX11_norm 50 = .ok (.lreturn, 1) := by decide +kernel
theorem dX11_trace_0 : decode cX11_trace 0 = .ok (.aload_n 0, 1) := by decide +kernel
theorem dX11_trace_1 : decode cX11_trace 1 = .ok (.iload_n 1, 1) := by decide +kernel
theorem dX11_trace_2 : decode cX11_trace 2 = .ok (.invokevirtual 159, 3) := by decide +kernel
theorem dX11_trace_5 : decode cX11_trace 5 = .ok (.ifCond .eq 12, 3) := by decide +kernel
theorem dX11_trace_8 : decode cX11_trace 8 = .ok (.iload_n 2, 1) := by decide +kernel
theorem dX11_trace_9 : decode cX11_trace 9 = .ok (.ifCond .lt 8, 3) := by decide +kernel
theorem dX11_trace_12 : decode cX11_trace 12 = .ok (.iload_n 2, 1) := by decide +kernel
theorem dX11_trace_13 : decode cX11_trace 13 = .ok (.iconst 1, 1) := by decide +kernel
theorem dX11_trace_14 : decode cX11_trace 14 = .ok (.if_icmp .le 11, 3) := by decide +kernel
theorem dX11_trace_17 : decode cX11_trace 17 = .ok (.new 120, 3) := by decide +kernel
theorem dX11_trace_20 : decode cX11_trace 20 = .ok (.dup, 1) := by decide +kernel
theorem dX11_trace_21 : decode cX11_trace 21 = .ok (.invokespecial 122, 3) := by decide +kernel
theorem dX11_trace_24 : decode cX11_trace 24 = .ok (.athrow, 1) := by decide +kernel
theorem dX11_trace_25 : decode cX11_trace 25 = .ok (.aload_n 0, 1) := by decide +kernel
theorem dX11_trace_26 : decode cX11_trace 26 = .ok (.getfield 43, 3) := by decide +kernel
theorem dX11_trace_29 : decode cX11_trace 29 = .ok (.iload_n 1, 1) := by decide +kernel
theorem dX11_trace_30 : decode cX11_trace 30 = .ok (.aaload, 1) := by decide +kernel
theorem dX11_trace_31 : decode cX11_trace 31 = .ok (.astore_n 3, 1) := by decide +kernel
theorem dX11_trace_32 : decode cX11_trace 32 = .ok (.ldc2_w 197, 3) := by decide +kernel
theorem dX11_trace_35 : decode cX11_trace 35 = .ok (.aload_n 3, 1) := by decide +kernel
theorem dX11_trace_36 : decode cX11_trace 36 = .ok (.getfield 162, 3) := by decide +kernel
theorem dX11_trace_39 : decode cX11_trace 39 = .ok (.iconst 0, 1) := by decide +kernel
theorem dX11_trace_40 : decode cX11_trace 40 = .ok (.laload, 1) := by decide +kernel
theorem dX11_trace_41 : decode cX11_trace 41 = .ok (.lmul, 1) := by decide +kernel
theorem dX11_trace_42 : decode cX11_trace 42 = .ok (.aload_n 3, 1) := by decide +kernel
theorem dX11_trace_43 : decode cX11_trace 43 = .ok (.getfield 168, 3) := by decide +kernel
theorem dX11_trace_46 : decode cX11_trace 46 = .ok (.iload_n 2, 1) := by decide +kernel
theorem dX11_trace_47 : decode cX11_trace 47 = .ok (.invokestatic 193, 3) := by decide +kernel
theorem dX11_trace_50 : decode cX11_trace 50 = .ok (.lreturn, 1) := by decide +kernel
theorem dX11_matrix_0 : decode cX11_matrix 0 = .ok (.aload_n 0, 1) := by decide +kernel
theorem dX11_matrix_1 : decode cX11_matrix 1 = .ok (.iload_n 1, 1) := by decide +kernel
theorem dX11_matrix_2 : decode cX11_matrix 2 = .ok (.invokevirtual 159, 3) := by decide +kernel
theorem dX11_matrix_5 : decode cX11_matrix 5 = .ok (.ifCond .eq 21, 3) := by decide +kernel
theorem dX11_matrix_8 : decode cX11_matrix 8 = .ok (.iload_n 2, 1) := by decide +kernel
theorem dX11_matrix_9 : decode cX11_matrix 9 = .ok (.ifCond .lt 17, 3) := by decide +kernel
theorem dX11_matrix_12 : decode cX11_matrix 12 = .ok (.iload_n 2, 1) := by decide +kernel
theorem dX11_matrix_13 : decode cX11_matrix 13 = .ok (.iconst 1, 1) := by decide +kernel
theorem dX11_matrix_14 : decode cX11_matrix 14 = .ok (.if_icmp .gt 12, 3) := by decide +kernel
theorem dX11_matrix_17 : decode cX11_matrix 17 = .ok (.iload_n 3, 1) := by decide +kernel
theorem dX11_matrix_18 : decode cX11_matrix 18 = .ok (.ifCond .lt 8, 3) := by decide +kernel
theorem dX11_matrix_21 : decode cX11_matrix 21 = .ok (.iload_n 3, 1) := by decide +kernel
theorem dX11_matrix_22 : decode cX11_matrix 22 = .ok (.iconst 1, 1) := by decide +kernel
theorem dX11_matrix_23 : decode cX11_matrix 23 = .ok (.if_icmp .le 11, 3) := by decide +kernel
theorem dX11_matrix_26 : decode cX11_matrix 26 = .ok (.new 120, 3) := by decide +kernel
theorem dX11_matrix_29 : decode cX11_matrix 29 = .ok (.dup, 1) := by decide +kernel
theorem dX11_matrix_30 : decode cX11_matrix 30 = .ok (.invokespecial 122, 3) := by decide +kernel
theorem dX11_matrix_33 : decode cX11_matrix 33 = .ok (.athrow, 1) := by decide +kernel
theorem dX11_matrix_34 : decode cX11_matrix 34 = .ok (.aload_n 0, 1) := by decide +kernel
theorem dX11_matrix_35 : decode cX11_matrix 35 = .ok (.getfield 43, 3) := by decide +kernel
theorem dX11_matrix_38 : decode cX11_matrix 38 = .ok (.iload_n 1, 1) := by decide +kernel
theorem dX11_matrix_39 : decode cX11_matrix 39 = .ok (.aaload, 1) := by decide +kernel
theorem dX11_matrix_40 : decode cX11_matrix 40 = .ok (.astore 5, 2) := by decide +kernel
theorem dX11_matrix_42 : decode cX11_matrix 42 = .ok (.iload 4, 2) := by decide +kernel
theorem dX11_matrix_44 : decode cX11_matrix 44 = .ok (.ifCond .lt 21, 3) := by decide +kernel
theorem dX11_matrix_47 : decode cX11_matrix 47 = .ok (.iload 4, 2) := by decide +kernel
theorem dX11_matrix_49 : decode cX11_matrix 49 = .ok (.iconst 1, 1) := by decide +kernel
theorem dX11_matrix_50 : decode cX11_matrix 50 = .ok (.if_icmp .gt 15, 3) := by decide +kernel
theorem dX11_matrix_53 : decode cX11_matrix 53 = .ok (.aload_n 0, 1) := by decide +kernel
theorem dX11_matrix_54 : decode cX11_matrix 54 = .ok (.aload 5, 2) := by decide +kernel
theorem dX11_matrix_56 : decode cX11_matrix 56 = .ok (.getfield 165, 3) := by decide +kernel
theorem dX11_matrix_59 : decode cX11_matrix 59 = .ok (.invokevirtual 211, 3) := by decide +kernel
theorem dX11_matrix_62 : decode cX11_matrix 62 = .ok (.ifCond .ne 11, 3) := by decide +kernel
theorem dX11_matrix_65 : decode cX11_matrix 65 = .ok (.new 120, 3) := by decide +kernel
theorem dX11_matrix_68 : decode cX11_matrix 68 = .ok (.dup, 1) := by decide +kernel
theorem dX11_matrix_69 : decode cX11_matrix 69 = .ok (.invokespecial 122, 3) := by decide +kernel
theorem dX11_matrix_72 : decode cX11_matrix 72 = .ok (.athrow, 1) := by decide +kernel
theorem dX11_matrix_73 : decode cX11_matrix 73 = .ok (.aload_n 0, 1) := by decide +kernel
theorem dX11_matrix_74 : decode cX11_matrix 74 = .ok (.getfield 63, 3) := by decide +kernel
theorem dX11_matrix_77 : decode cX11_matrix 77 = .ok (.aload 5, 2) := by decide +kernel
theorem dX11_matrix_79 : decode cX11_matrix 79 = .ok (.getfield 162, 3) := by decide +kernel
theorem dX11_matrix_82 : decode cX11_matrix 82 = .ok (.iload_n 2, 1) := by decide +kernel
theorem dX11_matrix_83 : decode cX11_matrix 83 = .ok (.iload_n 3, 1) := by decide +kernel
theorem dX11_matrix_84 : decode cX11_matrix 84 = .ok (.invokevirtual 217, 3) := by decide +kernel
theorem dX11_matrix_87 : decode cX11_matrix 87 = .ok (.lstore 6, 2) := by decide +kernel
theorem dX11_matrix_89 : decode cX11_matrix 89 = .ok (.lload 6, 2) := by decide +kernel
theorem dX11_matrix_91 : decode cX11_matrix 91 = .ok (.aload 5, 2) := by decide +kernel
theorem dX11_matrix_93 : decode cX11_matrix 93 = .ok (.getfield 168, 3) := by decide +kernel
theorem dX11_matrix_96 : decode cX11_matrix 96 = .ok (.aload_n 0, 1) := by decide +kernel
theorem dX11_matrix_97 : decode cX11_matrix 97 = .ok (.getfield 63, 3) := by decide +kernel
theorem dX11_matrix_100 : decode cX11_matrix 100 = .ok (.invokevirtual 221, 3) := by decide +kernel
theorem dX11_matrix_103 : decode cX11_matrix 103 = .ok (.lmul, 1) := by decide +kernel
theorem dX11_matrix_104 : decode cX11_matrix 104 = .ok (.iload 4, 2) := by decide +kernel
theorem dX11_matrix_106 : decode cX11_matrix 106 = .ok (.invokestatic 193, 3) := by decide +kernel
theorem dX11_matrix_109 : decode cX11_matrix 109 = .ok (.lreturn, 1) := by decide +kernel
theorem dX11_row_0 : decode cX11_row 0 = .ok (.aload_n 0, 1) := by decide +kernel
theorem dX11_row_1 : decode cX11_row 1 = .ok (.iload_n 1, 1) := by decide +kernel
theorem dX11_row_2 : decode cX11_row 2 = .ok (.invokevirtual 102, 3) := by decide +kernel
theorem dX11_row_5 : decode cX11_row 5 = .ok (.ifCond .eq 12, 3) := by decide +kernel
theorem dX11_row_8 : decode cX11_row 8 = .ok (.iload_n 2, 1) := by decide +kernel
theorem dX11_row_9 : decode cX11_row 9 = .ok (.ifCond .lt 8, 3) := by decide +kernel
theorem dX11_row_12 : decode cX11_row 12 = .ok (.iload_n 2, 1) := by decide +kernel
theorem dX11_row_13 : decode cX11_row 13 = .ok (.iconst 4, 1) := by decide +kernel
theorem dX11_row_14 : decode cX11_row 14 = .ok (.if_icmp .le 11, 3) := by decide +kernel
theorem dX11_row_17 : decode cX11_row 17 = .ok (.new 120, 3) := by decide +kernel
theorem dX11_row_20 : decode cX11_row 20 = .ok (.dup, 1) := by decide +kernel
theorem dX11_row_21 : decode cX11_row 21 = .ok (.invokespecial 122, 3) := by decide +kernel
theorem dX11_row_24 : decode cX11_row 24 = .ok (.athrow, 1) := by decide +kernel
theorem dX11_row_25 : decode cX11_row 25 = .ok (.iload_n 2, 1) := by decide +kernel
theorem dX11_row_26 : decode cX11_row 26 = .ok (.iconst 4, 1) := by decide +kernel
theorem dX11_row_27 : decode cX11_row 27 = .ok (.if_icmp .ne 14, 3) := by decide +kernel
theorem dX11_row_30 : decode cX11_row 30 = .ok (.aload_n 0, 1) := by decide +kernel
theorem dX11_row_31 : decode cX11_row 31 = .ok (.getfield 49, 3) := by decide +kernel
theorem dX11_row_34 : decode cX11_row 34 = .ok (.iload_n 1, 1) := by decide +kernel
theorem dX11_row_35 : decode cX11_row 35 = .ok (.aaload, 1) := by decide +kernel
theorem dX11_row_36 : decode cX11_row 36 = .ok (.invokevirtual 235, 3) := by decide +kernel
theorem dX11_row_39 : decode cX11_row 39 = .ok (.l2i, 1) := by decide +kernel
theorem dX11_row_40 : decode cX11_row 40 = .ok (.ireturn, 1) := by decide +kernel
theorem dX11_row_41 : decode cX11_row 41 = .ok (.iload_n 3, 1) := by decide +kernel
theorem dX11_row_42 : decode cX11_row 42 = .ok (.ifCond .lt 8, 3) := by decide +kernel
theorem dX11_row_45 : decode cX11_row 45 = .ok (.iload_n 3, 1) := by decide +kernel
theorem dX11_row_46 : decode cX11_row 46 = .ok (.iconst 3, 1) := by decide +kernel
theorem dX11_row_47 : decode cX11_row 47 = .ok (.if_icmp .le 11, 3) := by decide +kernel
theorem dX11_row_50 : decode cX11_row 50 = .ok (.new 120, 3) := by decide +kernel
theorem dX11_row_53 : decode cX11_row 53 = .ok (.dup, 1) := by decide +kernel
theorem dX11_row_54 : decode cX11_row 54 = .ok (.invokespecial 122, 3) := by decide +kernel
theorem dX11_row_57 : decode cX11_row 57 = .ok (.athrow, 1) := by decide +kernel
theorem dX11_row_58 : decode cX11_row 58 = .ok (.aload_n 0, 1) := by decide +kernel
theorem dX11_row_59 : decode cX11_row 59 = .ok (.getfield 49, 3) := by decide +kernel
theorem dX11_row_62 : decode cX11_row 62 = .ok (.iload_n 1, 1) := by decide +kernel
theorem dX11_row_63 : decode cX11_row 63 = .ok (.aaload, 1) := by decide +kernel
theorem dX11_row_64 : decode cX11_row 64 = .ok (.iload_n 2, 1) := by decide +kernel
theorem dX11_row_65 : decode cX11_row 65 = .ok (.invokevirtual 236, 3) := by decide +kernel
theorem dX11_row_68 : decode cX11_row 68 = .ok (.iload_n 3, 1) := by decide +kernel
theorem dX11_row_69 : decode cX11_row 69 = .ok (.laload, 1) := by decide +kernel
theorem dX11_row_70 : decode cX11_row 70 = .ok (.l2i, 1) := by decide +kernel
theorem dX11_row_71 : decode cX11_row 71 = .ok (.ireturn, 1) := by decide +kernel
theorem dX11_table_0 : decode cX11_table 0 = .ok (.aload_n 0, 1) := by decide +kernel
theorem dX11_table_1 : decode cX11_table 1 = .ok (.iload_n 1, 1) := by decide +kernel
theorem dX11_table_2 : decode cX11_table 2 = .ok (.invokevirtual 102, 3) := by decide +kernel
theorem dX11_table_5 : decode cX11_table 5 = .ok (.ifCond .eq 32, 3) := by decide +kernel
theorem dX11_table_8 : decode cX11_table 8 = .ok (.iload_n 2, 1) := by decide +kernel
theorem dX11_table_9 : decode cX11_table 9 = .ok (.ifCond .lt 28, 3) := by decide +kernel
theorem dX11_table_12 : decode cX11_table 12 = .ok (.iload_n 2, 1) := by decide +kernel
theorem dX11_table_13 : decode cX11_table 13 = .ok (.iconst 3, 1) := by decide +kernel
theorem dX11_table_14 : decode cX11_table 14 = .ok (.if_icmp .gt 23, 3) := by decide +kernel
theorem dX11_table_17 : decode cX11_table 17 = .ok (.iload_n 3, 1) := by decide +kernel
theorem dX11_table_18 : decode cX11_table 18 = .ok (.ifCond .lt 19, 3) := by decide +kernel
theorem dX11_table_21 : decode cX11_table 21 = .ok (.iload_n 3, 1) := by decide +kernel
theorem dX11_table_22 : decode cX11_table 22 = .ok (.iconst 3, 1) := by decide +kernel
theorem dX11_table_23 : decode cX11_table 23 = .ok (.if_icmp .gt 14, 3) := by decide +kernel
theorem dX11_table_26 : decode cX11_table 26 = .ok (.iload 4, 2) := by decide +kernel
theorem dX11_table_28 : decode cX11_table 28 = .ok (.ifCond .lt 9, 3) := by decide +kernel
theorem dX11_table_31 : decode cX11_table 31 = .ok (.iload 4, 2) := by decide +kernel
theorem dX11_table_33 : decode cX11_table 33 = .ok (.iconst 3, 1) := by decide +kernel
theorem dX11_table_34 : decode cX11_table 34 = .ok (.if_icmp .le 11, 3) := by decide +kernel
theorem dX11_table_37 : decode cX11_table 37 = .ok (.new 120, 3) := by decide +kernel
theorem dX11_table_40 : decode cX11_table 40 = .ok (.dup, 1) := by decide +kernel
theorem dX11_table_41 : decode cX11_table 41 = .ok (.invokespecial 122, 3) := by decide +kernel
theorem dX11_table_44 : decode cX11_table 44 = .ok (.athrow, 1) := by decide +kernel
theorem dX11_table_45 : decode cX11_table 45 = .ok (.aload_n 0, 1) := by decide +kernel
theorem dX11_table_46 : decode cX11_table 46 = .ok (.getfield 49, 3) := by decide +kernel
theorem dX11_table_49 : decode cX11_table 49 = .ok (.iload_n 1, 1) := by decide +kernel
theorem dX11_table_50 : decode cX11_table 50 = .ok (.aaload, 1) := by decide +kernel
theorem dX11_table_51 : decode cX11_table 51 = .ok (.astore 5, 2) := by decide +kernel
theorem dX11_table_53 : decode cX11_table 53 = .ok (.aload 5, 2) := by decide +kernel
theorem dX11_table_55 : decode cX11_table 55 = .ok (.aload 5, 2) := by decide +kernel
theorem dX11_table_57 : decode cX11_table 57 = .ok (.iload_n 2, 1) := by decide +kernel
theorem dX11_table_58 : decode cX11_table 58 = .ok (.invokevirtual 236, 3) := by decide +kernel
theorem dX11_table_61 : decode cX11_table 61 = .ok (.aload 5, 2) := by decide +kernel
theorem dX11_table_63 : decode cX11_table 63 = .ok (.iload_n 3, 1) := by decide +kernel
theorem dX11_table_64 : decode cX11_table 64 = .ok (.invokevirtual 236, 3) := by decide +kernel
theorem dX11_table_67 : decode cX11_table 67 = .ok (.aload 5, 2) := by decide +kernel
theorem dX11_table_69 : decode cX11_table 69 = .ok (.invokevirtual 235, 3) := by decide +kernel
theorem dX11_table_72 : decode cX11_table 72 = .ok (.aload_n 0, 1) := by decide +kernel
theorem dX11_table_73 : decode cX11_table 73 = .ok (.getfield 74, 3) := by decide +kernel
theorem dX11_table_76 : decode cX11_table 76 = .ok (.invokevirtual 251, 3) := by decide +kernel
theorem dX11_table_79 : decode cX11_table 79 = .ok (.pop, 1) := by decide +kernel
theorem dX11_table_80 : decode cX11_table 80 = .ok (.aload_n 0, 1) := by decide +kernel
theorem dX11_table_81 : decode cX11_table 81 = .ok (.getfield 74, 3) := by decide +kernel
theorem dX11_table_84 : decode cX11_table 84 = .ok (.iload 4, 2) := by decide +kernel
theorem dX11_table_86 : decode cX11_table 86 = .ok (.laload, 1) := by decide +kernel
theorem dX11_table_87 : decode cX11_table 87 = .ok (.l2i, 1) := by decide +kernel
theorem dX11_table_88 : decode cX11_table 88 = .ok (.ireturn, 1) := by decide +kernel
def mX11_algebra_B17 (v0 : Nat) (v1 : Int) (v2 : Int) (σ : mSt) : Option (Int × mSt) := some (mThrow, σ)
def mX11_algebra (v0 : Nat) (v1 : Int) (v2 : Int) (σ : mSt) : Option (Int × mSt) := mG (isC v0 10) <| mCall (mX11_isTold v0 v1 σ) fun b1 s2 => if wI b1 = 0 then (mX11_algebra_B17 v0 v1 v2 s2) else if wI v2 < 0 then (mX11_algebra_B17 v0 v1 v2 s2) else if wI v2 ≤ 3 then (if wI v2 = 0 then (mRef (s2 v0 3) fun r8 => mCall (mX0_kind r8 v1 s2) fun b10 s11 => some (wI b10, s11)) else if wI v2 = 1 then (mRef (s2 v0 3) fun r14 => mCall (mX0_first r14 v1 s2) fun b16 s17 => some (wI b16, s17)) else if wI v2 = 2 then (mRef (s2 v0 3) fun r20 => mCall (mX0_second r20 v1 s2) fun b22 s23 => some (wI b22, s23)) else mRef (s2 v0 3) fun r25 => mCall (mX0_letter r25 v1 s2) fun b27 s28 => some (wI b27, s28)) else mX11_algebra_B17 v0 v1 v2 s2
def mX11_element_B17 (v0 : Nat) (v1 : Int) (v2 : Int) (σ : mSt) : Option (Int × mSt) := some (mThrow, σ)
def mX11_element (v0 : Nat) (v1 : Int) (v2 : Int) (σ : mSt) : Option (Int × mSt) := mG (isC v0 10) <| mCall (mX11_isKept v0 v1 σ) fun b1 s2 => if wI b1 = 0 then (mX11_element_B17 v0 v1 v2 s2) else if wI v2 < 0 then (mX11_element_B17 v0 v1 v2 s2) else if wI v2 ≤ 5 then (mRef (s2 v0 6) fun r7 => mG (ixOK r7 23 v1) <| mRef (s2 r7 (wI v1).toNat) fun r10 => if wI v2 = 5 then (mG (isC r10 1) <| some (wI (s2 r10 2), s2)) else if wI v2 = 4 then (mG (isC r10 1) <| some (wI (s2 r10 1), s2)) else mG (isC r10 1) <| mRef (s2 r10 0) fun r15 => mG (ixOK r15 21 v2) <| some (wI (s2 r15 (wI v2).toNat), s2)) else mX11_element_B17 v0 v1 v2 s2
def mX11_norm_B17 (v0 : Nat) (v1 : Int) (v2 : Int) (σ : mSt) : Option (Int × mSt) := some (mThrow, σ)
def mX11_norm (v0 : Nat) (v1 : Int) (v2 : Int) (σ : mSt) : Option (Int × mSt) := mG (isC v0 10) <| mCall (mX11_isKept v0 v1 σ) fun b1 s2 => if wI b1 = 0 then (mX11_norm_B17 v0 v1 v2 s2) else if wI v2 < 0 then (mX11_norm_B17 v0 v1 v2 s2) else if wI v2 ≤ 1 then (mRef (s2 v0 6) fun r7 => mG (ixOK r7 23 v1) <| mRef (s2 r7 (wI v1).toNat) fun r10 => mCall (mX11_formOf v0 r10 s2) fun b12 s13 => mG (isC r10 1) <| mCall (mX5_lowest b12 ((s13 r10 1) * (s13 r10 1)) v2 s13) fun b16 s17 => some (wL b16, s17)) else mX11_norm_B17 v0 v1 v2 s2
def mX11_trace_B17 (v0 : Nat) (v1 : Int) (v2 : Int) (σ : mSt) : Option (Int × mSt) := some (mThrow, σ)
def mX11_trace (v0 : Nat) (v1 : Int) (v2 : Int) (σ : mSt) : Option (Int × mSt) := mG (isC v0 10) <| mCall (mX11_isKept v0 v1 σ) fun b1 s2 => if wI b1 = 0 then (mX11_trace_B17 v0 v1 v2 s2) else if wI v2 < 0 then (mX11_trace_B17 v0 v1 v2 s2) else if wI v2 ≤ 1 then (mRef (s2 v0 6) fun r7 => mG (ixOK r7 23 v1) <| mRef (s2 r7 (wI v1).toNat) fun r10 => mG (isC r10 1) <| mRef (s2 r10 0) fun r13 => mG (ixOK r13 21 0) <| mCall (mX5_lowest (2 * (s2 r13 0)) (s2 r10 1) v2 s2) fun b16 s17 => some (wL b16, s17)) else mX11_trace_B17 v0 v1 v2 s2
def mX11_matrix_B65 (v0 : Nat) (v1 : Int) (v2 : Int) (v3 : Int) (v4 : Int) (σ : mSt) : Option (Int × mSt) := some (mThrow, σ)
def mX11_matrix_B26 (v0 : Nat) (v1 : Int) (v2 : Int) (v3 : Int) (v4 : Int) (σ : mSt) : Option (Int × mSt) := some (mThrow, σ)
def mX11_matrix (v0 : Nat) (v1 : Int) (v2 : Int) (v3 : Int) (v4 : Int) (σ : mSt) : Option (Int × mSt) := mG (isC v0 10) <| mCall (mX11_isKept v0 v1 σ) fun b1 s2 => if wI b1 = 0 then (mX11_matrix_B26 v0 v1 v2 v3 v4 s2) else if wI v2 < 0 then (mX11_matrix_B26 v0 v1 v2 v3 v4 s2) else if 1 < wI v2 then (mX11_matrix_B26 v0 v1 v2 v3 v4 s2) else if wI v3 < 0 then (mX11_matrix_B26 v0 v1 v2 v3 v4 s2) else if wI v3 ≤ 1 then (mRef (s2 v0 6) fun r9 => mG (ixOK r9 23 v1) <| mRef (s2 r9 (wI v1).toNat) fun r12 => if wI v4 < 0 then (mX11_matrix_B65 v0 v1 v2 v3 v4 s2) else if 1 < wI v4 then (mX11_matrix_B65 v0 v1 v2 v3 v4 s2) else mG (isC r12 1) <| mCall (mX11_isSplit v0 (s2 r12 2) s2) fun b17 s18 => if wI b17 = 0 then (mX11_matrix_B65 v0 v1 v2 v3 v4 s18) else mRef (s18 v0 9) fun r21 => mRef (s18 r12 0) fun r23 => mCall (mX9_entry r21 r23 v2 v3 s18) fun b25 s26 => mRef (s26 v0 9) fun r28 => mCall (mX9_below r28 s26) fun b30 s31 => mCall (mX5_lowest b25 ((s26 r12 1) * b30) v4 s31) fun b33 s34 => some (wL b33, s34)) else mX11_matrix_B26 v0 v1 v2 v3 v4 s2
def mX11_row_B50 (v0 : Nat) (v1 : Int) (v2 : Int) (v3 : Int) (σ : mSt) : Option (Int × mSt) := some (mThrow, σ)
def mX11_row_B17 (v0 : Nat) (v1 : Int) (v2 : Int) (v3 : Int) (σ : mSt) : Option (Int × mSt) := some (mThrow, σ)
def mX11_row (v0 : Nat) (v1 : Int) (v2 : Int) (v3 : Int) (σ : mSt) : Option (Int × mSt) := mG (isC v0 10) <| mCall (mX11_isQuaternion v0 v1 σ) fun b1 s2 => if wI b1 = 0 then (mX11_row_B17 v0 v1 v2 v3 s2) else if wI v2 < 0 then (mX11_row_B17 v0 v1 v2 v3 s2) else if wI v2 ≤ 4 then (if wI v2 = 4 then (mRef (s2 v0 7) fun r19 => mG (ixOK r19 24 v1) <| mRef (s2 r19 (wI v1).toNat) fun r22 => mCall (mX6_below r22 s2) fun b24 s25 => some (wI b24, s25)) else if wI v3 < 0 then (mX11_row_B50 v0 v1 v2 v3 s2) else if wI v3 ≤ 3 then (mRef (s2 v0 7) fun r10 => mG (ixOK r10 24 v1) <| mRef (s2 r10 (wI v1).toNat) fun r13 => mCall (mX6_numbersOf r13 v2 s2) fun b15 s16 => mG (ixOK b15.toNat 21 v3) <| some (wI (s16 b15.toNat (wI v3).toNat), s16)) else mX11_row_B50 v0 v1 v2 v3 s2) else mX11_row_B17 v0 v1 v2 v3 s2
def mX11_table_B37 (v0 : Nat) (v1 : Int) (v2 : Int) (v3 : Int) (v4 : Int) (σ : mSt) : Option (Int × mSt) := some (mThrow, σ)
def mX11_table (v0 : Nat) (v1 : Int) (v2 : Int) (v3 : Int) (v4 : Int) (σ : mSt) : Option (Int × mSt) := mG (isC v0 10) <| mCall (mX11_isQuaternion v0 v1 σ) fun b1 s2 => if wI b1 = 0 then (mX11_table_B37 v0 v1 v2 v3 v4 s2) else if wI v2 < 0 then (mX11_table_B37 v0 v1 v2 v3 v4 s2) else if 3 < wI v2 then (mX11_table_B37 v0 v1 v2 v3 v4 s2) else if wI v3 < 0 then (mX11_table_B37 v0 v1 v2 v3 v4 s2) else if 3 < wI v3 then (mX11_table_B37 v0 v1 v2 v3 v4 s2) else if wI v4 < 0 then (mX11_table_B37 v0 v1 v2 v3 v4 s2) else if wI v4 ≤ 3 then (mRef (s2 v0 7) fun r11 => mG (ixOK r11 24 v1) <| mRef (s2 r11 (wI v1).toNat) fun r14 => mCall (mX6_numbersOf r14 v2 s2) fun b16 s17 => mCall (mX6_numbersOf r14 v3 s17) fun b19 s20 => mCall (mX6_below r14 s20) fun b22 s23 => mRef (s23 v0 11) fun r25 => mCall (mX6_expressProduct r14 b16.toNat b19.toNat b22 r25 s23) fun b27 s28 => mRef (s28 v0 11) fun r30 => mG (ixOK r30 21 v4) <| some (wI (s28 r30 (wI v4).toNat), s28)) else mX11_table_B37 v0 v1 v2 v3 v4 s2
set_option maxRecDepth 100000 in
set_option maxHeartbeats 4000000 in
theorem wX11_algebra_B17 (l : Launch) (E : mE) (out : Int × mSt) {p : Program} {e : Env} {s : State} {m : MethodId} {args : Array Value} {below : List Frame} {meth : Method} {c : Code} (G : CallFix p m c cX11_algebra 3 s args mTs RX11) (hr : meth.sig.returnType = (some .int)) (hk : meth.locks = false) (hst : l.stackTraces = false) (hex : ∀ x ∈ c.exceptionTable.toList, False) (v0 : Nat) (v1 : Int) (v2 : Int) (g0 : isC v0 10) : ∀ (σ : mSt) (H : Heap) (locs : List Loc) (ls : Array Slot), mX11_algebra_B17 v0 v1 v2 σ = some out → mM (mA E 276) E 276 σ s H locs → lv_has ls 3 [] → mGoX l p e 6 100 s m args below meth c E (some (vI out.1)) out H locs (F0 m 17 ls []) := by
  intro σ H locs ls hm hM hl
  unfold mX11_algebra_B17 at hm
  exact r_throw G hst hk hex hM hl.1 hm th_k th_in th_i th_g dX11_algebra_17 dX11_algebra_20 dX11_algebra_21 dX11_algebra_24 (Nat.le_of_ble_eq_true rfl) (Nat.le_of_ble_eq_true rfl) (Nat.le_of_ble_eq_true rfl) (Nat.le_of_ble_eq_true rfl) (Nat.le_of_ble_eq_true rfl) (Nat.le_of_ble_eq_true rfl)
set_option maxRecDepth 100000 in
set_option maxHeartbeats 4000000 in
theorem qX11_algebra (l : Launch) (hst : l.stackTraces = false) (E : mE) (σ : mSt) (v0 : Nat) (v1 : Int) (v2 : Int) (out : Int × mSt) (hm : mX11_algebra v0 v1 v2 σ = some out) : mXMet l yX11_algebra cX11_algebra 3 (some .int) 6 100 E [.ref (eA E v0), vI v1, vI v2] σ (some (vI out.1)) out := by
  unfold mX11_algebra at hm
  obtain ⟨g0, hm⟩ := g_t hm
  refine m_xentry (by decide +kernel) (Nat.le_of_ble_eq_true rfl) (fun p e s m args below meth c G hr hk hex hM ls hl => ?_)
  have G : CallFix p m c cX11_algebra 3 s args mTs RX11 := G
  have hl : lv_has ls 3 [(0, .ref (eA E v0)), (1, vI v1), (2, vI v2)] := hl
  refine r_aload_n (np := 1) G hl 0 rfl dX11_algebra_0 rfl rfl ?_
  refine r_iload_n (np := 2) G hl 1 rfl dX11_algebra_1 rfl rfl ?_
  obtain ⟨b1, s2, e3, hm⟩ := call_t hm
  refine m_callVI (np := 5) G hM hl.1 [vI v1] (qX11_isTold l E σ v0 v1 _ e3) myX11_isTold (shp_lt (gX11_isTold e3) (by decide)) (gX11_isTold e3) rfl (by decide) lkX11_117 ⟨Nat.le_of_ble_eq_true rfl, Nat.le_of_ble_eq_true rfl⟩ ⟨Nat.le_of_ble_eq_true rfl, Nat.le_of_ble_eq_true rfl⟩ [] rfl (Nat.le_of_ble_eq_true rfl) dX11_algebra_2 rfl (fun H locs hM => ?_)
  refine r_if_eq (np := 8) (tgt := 17) G rfl dX11_algebra_5 (by decide) rfl (fun h4 => ?_) (fun h4 => ?_)
  · have hm := b_t h4 hm
    exact wX11_algebra_B17 l E out G hr hk hst hex v0 v1 v2 g0 _ _ _ _ hm hM (lv_sub hl [] rfl)
  · have hm := b_f h4 hm
    refine r_iload_n (np := 9) G hl 2 rfl dX11_algebra_8 rfl rfl ?_
    refine r_if_lt (np := 12) (tgt := 17) G rfl dX11_algebra_9 (by decide) rfl (fun h5 => ?_) (fun h5 => ?_)
    · have hm := b_t h5 hm
      exact wX11_algebra_B17 l E out G hr hk hst hex v0 v1 v2 g0 _ _ _ _ hm hM (lv_sub hl [] rfl)
    · have hm := b_f h5 hm
      refine r_iload_n (np := 13) G hl 2 rfl dX11_algebra_12 rfl rfl ?_
      refine r_iconst (np := 14) G 3 dX11_algebra_13 rfl ?_
      refine r_icmp_le (np := 17) (tgt := 25) G rfl (wIk 3 rfl) dX11_algebra_14 (by decide) rfl (fun h6 => ?_) (fun h6 => ?_)
      · have hm := b_t h6 hm
        refine r_iload_n (np := 26) G hl 2 rfl dX11_algebra_25 rfl rfl ?_
        rcases ite_c hm with ⟨h7, hm⟩ | ⟨h7, hm⟩
        · refine r_tswIn (tgt := 52) G h7 dX11_algebra_26 (by decide) (by decide) rfl (by decide) ?_
          refine r_aload_n (np := 53) G hl 0 rfl dX11_algebra_52 rfl rfl ?_
          obtain ⟨r8, e9, hm⟩ := ref_t hm
          refine r_getR (np := 56) G hM (shp_lt g0 (by decide)) g0 e9 fdX11_3 lkX11_27 dX11_algebra_53 rfl ?_
          refine r_iload_n (np := 57) G hl 1 rfl dX11_algebra_56 rfl rfl ?_
          obtain ⟨b10, s11, e12, hm⟩ := call_t hm
          refine m_callVI (np := 60) G hM hl.1 [vI v1] (qX0_kind l E s2 r8 v1 _ e12) myX0_kind (shp_lt (gX0_kind e12) (by decide)) (gX0_kind e12) rfl (by decide) lkX11_123 ⟨Nat.le_of_ble_eq_true rfl, Nat.le_of_ble_eq_true rfl⟩ ⟨Nat.le_of_ble_eq_true rfl, Nat.le_of_ble_eq_true rfl⟩ [] rfl (Nat.le_of_ble_eq_true rfl) dX11_algebra_57 rfl (fun H locs hM => ?_)
          exact r_xiret G hr hk hM hm dX11_algebra_60 (Nat.zero_le _) (Nat.zero_le _)
        ·
          rcases ite_c hm with ⟨h13, hm⟩ | ⟨h13, hm⟩
          · refine r_tswIn (tgt := 61) G h13 dX11_algebra_26 (by decide) (by decide) rfl (by decide) ?_
            refine r_aload_n (np := 62) G hl 0 rfl dX11_algebra_61 rfl rfl ?_
            obtain ⟨r14, e15, hm⟩ := ref_t hm
            refine r_getR (np := 65) G hM (shp_lt g0 (by decide)) g0 e15 fdX11_3 lkX11_27 dX11_algebra_62 rfl ?_
            refine r_iload_n (np := 66) G hl 1 rfl dX11_algebra_65 rfl rfl ?_
            obtain ⟨b16, s17, e18, hm⟩ := call_t hm
            refine m_callVI (np := 69) G hM hl.1 [vI v1] (qX0_first l E s2 r14 v1 _ e18) myX0_first (shp_lt (gX0_first e18) (by decide)) (gX0_first e18) rfl (by decide) lkX11_106 ⟨Nat.le_of_ble_eq_true rfl, Nat.le_of_ble_eq_true rfl⟩ ⟨Nat.le_of_ble_eq_true rfl, Nat.le_of_ble_eq_true rfl⟩ [] rfl (Nat.le_of_ble_eq_true rfl) dX11_algebra_66 rfl (fun H locs hM => ?_)
            exact r_xiret G hr hk hM hm dX11_algebra_69 (Nat.zero_le _) (Nat.zero_le _)
          ·
            rcases ite_c hm with ⟨h19, hm⟩ | ⟨h19, hm⟩
            · refine r_tswIn (tgt := 70) G h19 dX11_algebra_26 (by decide) (by decide) rfl (by decide) ?_
              refine r_aload_n (np := 71) G hl 0 rfl dX11_algebra_70 rfl rfl ?_
              obtain ⟨r20, e21, hm⟩ := ref_t hm
              refine r_getR (np := 74) G hM (shp_lt g0 (by decide)) g0 e21 fdX11_3 lkX11_27 dX11_algebra_71 rfl ?_
              refine r_iload_n (np := 75) G hl 1 rfl dX11_algebra_74 rfl rfl ?_
              obtain ⟨b22, s23, e24, hm⟩ := call_t hm
              refine m_callVI (np := 78) G hM hl.1 [vI v1] (qX0_second l E s2 r20 v1 _ e24) myX0_second (shp_lt (gX0_second e24) (by decide)) (gX0_second e24) rfl (by decide) lkX11_110 ⟨Nat.le_of_ble_eq_true rfl, Nat.le_of_ble_eq_true rfl⟩ ⟨Nat.le_of_ble_eq_true rfl, Nat.le_of_ble_eq_true rfl⟩ [] rfl (Nat.le_of_ble_eq_true rfl) dX11_algebra_75 rfl (fun H locs hM => ?_)
              exact r_xiret G hr hk hM hm dX11_algebra_78 (Nat.zero_le _) (Nat.zero_le _)
            ·
              refine r_tswOut (tgt := 79) G (by omega) dX11_algebra_26 (by decide) ?_
              refine r_aload_n (np := 80) G hl 0 rfl dX11_algebra_79 rfl rfl ?_
              obtain ⟨r25, e26, hm⟩ := ref_t hm
              refine r_getR (np := 83) G hM (shp_lt g0 (by decide)) g0 e26 fdX11_3 lkX11_27 dX11_algebra_80 rfl ?_
              refine r_iload_n (np := 84) G hl 1 rfl dX11_algebra_83 rfl rfl ?_
              obtain ⟨b27, s28, e29, hm⟩ := call_t hm
              refine m_callVI (np := 87) G hM hl.1 [vI v1] (qX0_letter l E s2 r25 v1 _ e29) myX0_letter (shp_lt (gX0_letter e29) (by decide)) (gX0_letter e29) rfl (by decide) lkX11_126 ⟨Nat.le_of_ble_eq_true rfl, Nat.le_of_ble_eq_true rfl⟩ ⟨Nat.le_of_ble_eq_true rfl, Nat.le_of_ble_eq_true rfl⟩ [] rfl (Nat.le_of_ble_eq_true rfl) dX11_algebra_84 rfl (fun H locs hM => ?_)
              exact r_xiret G hr hk hM hm dX11_algebra_87 (Nat.zero_le _) (Nat.zero_le _)
      · have hm := b_f h6 hm
        exact wX11_algebra_B17 l E out G hr hk hst hex v0 v1 v2 g0 _ _ _ _ hm hM (lv_sub hl [] rfl)
theorem gX11_algebra {v0 : Nat} {v1 : Int} {v2 : Int} {σ : mSt} {out : Int × mSt} (hm : mX11_algebra v0 v1 v2 σ = some out) : isC v0 10 := (g_t hm).1
set_option maxRecDepth 100000 in
set_option maxHeartbeats 4000000 in
theorem wX11_element_B17 (l : Launch) (E : mE) (out : Int × mSt) {p : Program} {e : Env} {s : State} {m : MethodId} {args : Array Value} {below : List Frame} {meth : Method} {c : Code} (G : CallFix p m c cX11_element 4 s args mTs RX11) (hr : meth.sig.returnType = (some .int)) (hk : meth.locks = false) (hst : l.stackTraces = false) (hex : ∀ x ∈ c.exceptionTable.toList, False) (v0 : Nat) (v1 : Int) (v2 : Int) (g0 : isC v0 10) : ∀ (σ : mSt) (H : Heap) (locs : List Loc) (ls : Array Slot), mX11_element_B17 v0 v1 v2 σ = some out → mM (mA E 276) E 276 σ s H locs → lv_has ls 4 [] → mGoX l p e 6 100 s m args below meth c E (some (vI out.1)) out H locs (F0 m 17 ls []) := by
  intro σ H locs ls hm hM hl
  unfold mX11_element_B17 at hm
  exact r_throw G hst hk hex hM hl.1 hm th_k th_in th_i th_g dX11_element_17 dX11_element_20 dX11_element_21 dX11_element_24 (Nat.le_of_ble_eq_true rfl) (Nat.le_of_ble_eq_true rfl) (Nat.le_of_ble_eq_true rfl) (Nat.le_of_ble_eq_true rfl) (Nat.le_of_ble_eq_true rfl) (Nat.le_of_ble_eq_true rfl)
set_option maxRecDepth 100000 in
set_option maxHeartbeats 4000000 in
theorem qX11_element (l : Launch) (hst : l.stackTraces = false) (E : mE) (σ : mSt) (v0 : Nat) (v1 : Int) (v2 : Int) (out : Int × mSt) (hm : mX11_element v0 v1 v2 σ = some out) : mXMet l yX11_element cX11_element 4 (some .int) 6 100 E [.ref (eA E v0), vI v1, vI v2] σ (some (vI out.1)) out := by
  unfold mX11_element at hm
  obtain ⟨g0, hm⟩ := g_t hm
  refine m_xentry (by decide +kernel) (Nat.le_of_ble_eq_true rfl) (fun p e s m args below meth c G hr hk hex hM ls hl => ?_)
  have G : CallFix p m c cX11_element 4 s args mTs RX11 := G
  have hl : lv_has ls 4 [(0, .ref (eA E v0)), (1, vI v1), (2, vI v2)] := hl
  refine r_aload_n (np := 1) G hl 0 rfl dX11_element_0 rfl rfl ?_
  refine r_iload_n (np := 2) G hl 1 rfl dX11_element_1 rfl rfl ?_
  obtain ⟨b1, s2, e3, hm⟩ := call_t hm
  refine m_callVI (np := 5) G hM hl.1 [vI v1] (qX11_isKept l E σ v0 v1 _ e3) myX11_isKept (shp_lt (gX11_isKept e3) (by decide)) (gX11_isKept e3) rfl (by decide) lkX11_159 ⟨Nat.le_of_ble_eq_true rfl, Nat.le_of_ble_eq_true rfl⟩ ⟨Nat.le_of_ble_eq_true rfl, Nat.le_of_ble_eq_true rfl⟩ [] rfl (Nat.le_of_ble_eq_true rfl) dX11_element_2 rfl (fun H locs hM => ?_)
  refine r_if_eq (np := 8) (tgt := 17) G rfl dX11_element_5 (by decide) rfl (fun h4 => ?_) (fun h4 => ?_)
  · have hm := b_t h4 hm
    exact wX11_element_B17 l E out G hr hk hst hex v0 v1 v2 g0 _ _ _ _ hm hM (lv_sub hl [] rfl)
  · have hm := b_f h4 hm
    refine r_iload_n (np := 9) G hl 2 rfl dX11_element_8 rfl rfl ?_
    refine r_if_lt (np := 12) (tgt := 17) G rfl dX11_element_9 (by decide) rfl (fun h5 => ?_) (fun h5 => ?_)
    · have hm := b_t h5 hm
      exact wX11_element_B17 l E out G hr hk hst hex v0 v1 v2 g0 _ _ _ _ hm hM (lv_sub hl [] rfl)
    · have hm := b_f h5 hm
      refine r_iload_n (np := 13) G hl 2 rfl dX11_element_12 rfl rfl ?_
      refine r_iconst (np := 14) G 5 dX11_element_13 rfl ?_
      refine r_icmp_le (np := 17) (tgt := 25) G rfl (wIk 5 rfl) dX11_element_14 (by decide) rfl (fun h6 => ?_) (fun h6 => ?_)
      · have hm := b_t h6 hm
        refine r_aload_n (np := 26) G hl 0 rfl dX11_element_25 rfl rfl ?_
        obtain ⟨r7, e8, hm⟩ := ref_t hm
        refine r_getR (np := 29) G hM (shp_lt g0 (by decide)) g0 e8 fdX11_6 lkX11_43 dX11_element_26 rfl ?_
        refine r_iload_n (np := 30) G hl 1 rfl dX11_element_29 rfl rfl ?_
        obtain ⟨g9, hm⟩ := g_t hm
        obtain ⟨r10, e11, hm⟩ := ref_t hm
        refine r_aaload (np := 31) G hM (t := 3) g9 rfl ⟨by decide, by decide⟩ rfl rfl e11 dX11_element_30 rfl ?_
        refine r_astore_n (np := 32) G hl rfl [(3, .ref (eA E r10)), (0, .ref (eA E v0)), (1, vI v1), (2, vI v2)] dX11_element_31 rfl rfl (by decide) rfl (fun ls hl => ?_)
        refine r_iload_n (np := 33) G hl 3 rfl dX11_element_32 rfl rfl ?_
        refine r_iconst (np := 34) G 5 dX11_element_33 rfl ?_
        refine r_icmp_ne (np := 37) (tgt := 42) G rfl (wIk 5 rfl) dX11_element_34 (by decide) rfl (fun h12 => ?_) (fun h12 => ?_)
        · have hm := b_f h12 hm
          refine r_iload_n (np := 43) G hl 3 rfl dX11_element_42 rfl rfl ?_
          refine r_iconst (np := 44) G 4 dX11_element_43 rfl ?_
          refine r_icmp_ne (np := 47) (tgt := 54) G rfl (wIk 4 rfl) dX11_element_44 (by decide) rfl (fun h13 => ?_) (fun h13 => ?_)
          · have hm := b_f h13 hm
            refine r_aload_n (np := 55) G hl 0 rfl dX11_element_54 rfl rfl ?_
            obtain ⟨g14, hm⟩ := g_t hm
            obtain ⟨r15, e16, hm⟩ := ref_t hm
            refine r_getRN (np := 58) G hM (shp_lt g14 (by decide)) g14 e16 fdX1_0 lkX11_162 dX11_element_55 rfl ?_
            refine r_iload_n (np := 59) G hl 3 rfl dX11_element_58 rfl rfl ?_
            obtain ⟨g17, hm⟩ := g_t hm
            refine r_laload (np := 60) G hM g17 rfl dX11_element_59 rfl ?_
            refine r_l2i (np := 61) G dX11_element_60 rfl ?_
            exact r_xiret G hr hk hM hm dX11_element_61 (Nat.zero_le _) (Nat.zero_le _)
          · have hm := b_t h13 hm
            refine r_aload_n (np := 48) G hl 0 rfl dX11_element_47 rfl rfl ?_
            obtain ⟨g18, hm⟩ := g_t hm
            refine r_getLN (np := 51) G hM (shp_lt g18 (by decide)) g18 fdX1_1 lkX11_168 dX11_element_48 rfl ?_
            refine r_goto (np := 60) G dX11_element_51 (by decide) ?_
            refine r_l2i (np := 61) G dX11_element_60 rfl ?_
            exact r_xiret G hr hk hM hm dX11_element_61 (Nat.zero_le _) (Nat.zero_le _)
        · have hm := b_t h12 hm
          refine r_aload_n (np := 38) G hl 0 rfl dX11_element_37 rfl rfl ?_
          obtain ⟨g19, hm⟩ := g_t hm
          refine r_getIN (np := 41) G hM (shp_lt g19 (by decide)) g19 fdX1_2 lkX11_165 dX11_element_38 rfl ?_
          exact r_xiret G hr hk hM hm dX11_element_41 (Nat.zero_le _) (Nat.zero_le _)
      · have hm := b_f h6 hm
        exact wX11_element_B17 l E out G hr hk hst hex v0 v1 v2 g0 _ _ _ _ hm hM (lv_sub hl [] rfl)
theorem gX11_element {v0 : Nat} {v1 : Int} {v2 : Int} {σ : mSt} {out : Int × mSt} (hm : mX11_element v0 v1 v2 σ = some out) : isC v0 10 := (g_t hm).1
set_option maxRecDepth 100000 in
set_option maxHeartbeats 4000000 in
theorem wX11_norm_B17 (l : Launch) (E : mE) (out : Int × mSt) {p : Program} {e : Env} {s : State} {m : MethodId} {args : Array Value} {below : List Frame} {meth : Method} {c : Code} (G : CallFix p m c cX11_norm 4 s args mTs RX11) (hr : meth.sig.returnType = (some .long)) (hk : meth.locks = false) (hst : l.stackTraces = false) (hex : ∀ x ∈ c.exceptionTable.toList, False) (v0 : Nat) (v1 : Int) (v2 : Int) (g0 : isC v0 10) : ∀ (σ : mSt) (H : Heap) (locs : List Loc) (ls : Array Slot), mX11_norm_B17 v0 v1 v2 σ = some out → mM (mA E 276) E 276 σ s H locs → lv_has ls 4 [] → mGoX l p e 6 100 s m args below meth c E (some (vL out.1)) out H locs (F0 m 17 ls []) := by
  intro σ H locs ls hm hM hl
  unfold mX11_norm_B17 at hm
  exact r_throw G hst hk hex hM hl.1 hm th_k th_in th_i th_g dX11_norm_17 dX11_norm_20 dX11_norm_21 dX11_norm_24 (Nat.le_of_ble_eq_true rfl) (Nat.le_of_ble_eq_true rfl) (Nat.le_of_ble_eq_true rfl) (Nat.le_of_ble_eq_true rfl) (Nat.le_of_ble_eq_true rfl) (Nat.le_of_ble_eq_true rfl)
set_option maxRecDepth 100000 in
set_option maxHeartbeats 4000000 in
theorem qX11_norm (l : Launch) (hst : l.stackTraces = false) (E : mE) (σ : mSt) (v0 : Nat) (v1 : Int) (v2 : Int) (out : Int × mSt) (hm : mX11_norm v0 v1 v2 σ = some out) : mXMet l yX11_norm cX11_norm 4 (some .long) 6 100 E [.ref (eA E v0), vI v1, vI v2] σ (some (vL out.1)) out := by
  unfold mX11_norm at hm
  obtain ⟨g0, hm⟩ := g_t hm
  refine m_xentry (by decide +kernel) (Nat.le_of_ble_eq_true rfl) (fun p e s m args below meth c G hr hk hex hM ls hl => ?_)
  have G : CallFix p m c cX11_norm 4 s args mTs RX11 := G
  have hl : lv_has ls 4 [(0, .ref (eA E v0)), (1, vI v1), (2, vI v2)] := hl
  refine r_aload_n (np := 1) G hl 0 rfl dX11_norm_0 rfl rfl ?_
  refine r_iload_n (np := 2) G hl 1 rfl dX11_norm_1 rfl rfl ?_
  obtain ⟨b1, s2, e3, hm⟩ := call_t hm
  refine m_callVI (np := 5) G hM hl.1 [vI v1] (qX11_isKept l E σ v0 v1 _ e3) myX11_isKept (shp_lt (gX11_isKept e3) (by decide)) (gX11_isKept e3) rfl (by decide) lkX11_159 ⟨Nat.le_of_ble_eq_true rfl, Nat.le_of_ble_eq_true rfl⟩ ⟨Nat.le_of_ble_eq_true rfl, Nat.le_of_ble_eq_true rfl⟩ [] rfl (Nat.le_of_ble_eq_true rfl) dX11_norm_2 rfl (fun H locs hM => ?_)
  refine r_if_eq (np := 8) (tgt := 17) G rfl dX11_norm_5 (by decide) rfl (fun h4 => ?_) (fun h4 => ?_)
  · have hm := b_t h4 hm
    exact wX11_norm_B17 l E out G hr hk hst hex v0 v1 v2 g0 _ _ _ _ hm hM (lv_sub hl [] rfl)
  · have hm := b_f h4 hm
    refine r_iload_n (np := 9) G hl 2 rfl dX11_norm_8 rfl rfl ?_
    refine r_if_lt (np := 12) (tgt := 17) G rfl dX11_norm_9 (by decide) rfl (fun h5 => ?_) (fun h5 => ?_)
    · have hm := b_t h5 hm
      exact wX11_norm_B17 l E out G hr hk hst hex v0 v1 v2 g0 _ _ _ _ hm hM (lv_sub hl [] rfl)
    · have hm := b_f h5 hm
      refine r_iload_n (np := 13) G hl 2 rfl dX11_norm_12 rfl rfl ?_
      refine r_iconst (np := 14) G 1 dX11_norm_13 rfl ?_
      refine r_icmp_le (np := 17) (tgt := 25) G rfl (wIk 1 rfl) dX11_norm_14 (by decide) rfl (fun h6 => ?_) (fun h6 => ?_)
      · have hm := b_t h6 hm
        refine r_aload_n (np := 26) G hl 0 rfl dX11_norm_25 rfl rfl ?_
        obtain ⟨r7, e8, hm⟩ := ref_t hm
        refine r_getR (np := 29) G hM (shp_lt g0 (by decide)) g0 e8 fdX11_6 lkX11_43 dX11_norm_26 rfl ?_
        refine r_iload_n (np := 30) G hl 1 rfl dX11_norm_29 rfl rfl ?_
        obtain ⟨g9, hm⟩ := g_t hm
        obtain ⟨r10, e11, hm⟩ := ref_t hm
        refine r_aaload (np := 31) G hM (t := 3) g9 rfl ⟨by decide, by decide⟩ rfl rfl e11 dX11_norm_30 rfl ?_
        refine r_astore_n (np := 32) G hl rfl [(3, .ref (eA E r10)), (0, .ref (eA E v0)), (1, vI v1), (2, vI v2)] dX11_norm_31 rfl rfl (by decide) rfl (fun ls hl => ?_)
        refine r_aload_n (np := 33) G hl 1 rfl dX11_norm_32 rfl rfl ?_
        refine r_aload_n (np := 34) G hl 0 rfl dX11_norm_33 rfl rfl ?_
        obtain ⟨b12, s13, e14, hm⟩ := call_t hm
        refine m_callVL (np := 37) G hM hl.1 [.ref (eA E r10)] (qX11_formOf l E s2 v0 r10 _ e14) myX11_formOf (shp_lt (gX11_formOf e14) (by decide)) (gX11_formOf e14) rfl (by decide) lkX11_183 ⟨Nat.le_of_ble_eq_true rfl, Nat.le_of_ble_eq_true rfl⟩ ⟨Nat.le_of_ble_eq_true rfl, Nat.le_of_ble_eq_true rfl⟩ [] rfl (Nat.le_of_ble_eq_true rfl) dX11_norm_34 rfl (fun H locs hM => ?_)
        refine r_aload_n (np := 38) G hl 0 rfl dX11_norm_37 rfl rfl ?_
        obtain ⟨g15, hm⟩ := g_t hm
        refine r_getLN (np := 41) G hM (shp_lt g15 (by decide)) g15 fdX1_1 lkX11_168 dX11_norm_38 rfl ?_
        refine r_aload_n (np := 42) G hl 0 rfl dX11_norm_41 rfl rfl ?_
        refine r_getLN (np := 45) G hM (shp_lt g15 (by decide)) g15 fdX1_1 lkX11_168 dX11_norm_42 rfl ?_
        refine r_lmul (np := 46) G dX11_norm_45 rfl ?_
        refine r_iload_n (np := 47) G hl 3 rfl dX11_norm_46 rfl rfl ?_
        obtain ⟨b16, s17, e18, hm⟩ := call_t hm
        refine m_callSL (np := 50) G hM hl.1 [vL b12, vL ((s13 r10 1) * (s13 r10 1)), vI v2] (qX5_lowest l E s13 b12 ((s13 r10 1) * (s13 r10 1)) v2 _ e18) myX5_lowest lkX11_193 ⟨Nat.le_of_ble_eq_true rfl, Nat.le_of_ble_eq_true rfl⟩ ⟨Nat.le_of_ble_eq_true rfl, Nat.le_of_ble_eq_true rfl⟩ [] rfl (Nat.le_of_ble_eq_true rfl) dX11_norm_47 rfl (fun H locs hM => ?_)
        exact r_xlret G hr hk hM hm dX11_norm_50 (Nat.zero_le _) (Nat.zero_le _)
      · have hm := b_f h6 hm
        exact wX11_norm_B17 l E out G hr hk hst hex v0 v1 v2 g0 _ _ _ _ hm hM (lv_sub hl [] rfl)
theorem gX11_norm {v0 : Nat} {v1 : Int} {v2 : Int} {σ : mSt} {out : Int × mSt} (hm : mX11_norm v0 v1 v2 σ = some out) : isC v0 10 := (g_t hm).1
set_option maxRecDepth 100000 in
set_option maxHeartbeats 4000000 in
theorem wX11_trace_B17 (l : Launch) (E : mE) (out : Int × mSt) {p : Program} {e : Env} {s : State} {m : MethodId} {args : Array Value} {below : List Frame} {meth : Method} {c : Code} (G : CallFix p m c cX11_trace 4 s args mTs RX11) (hr : meth.sig.returnType = (some .long)) (hk : meth.locks = false) (hst : l.stackTraces = false) (hex : ∀ x ∈ c.exceptionTable.toList, False) (v0 : Nat) (v1 : Int) (v2 : Int) (g0 : isC v0 10) : ∀ (σ : mSt) (H : Heap) (locs : List Loc) (ls : Array Slot), mX11_trace_B17 v0 v1 v2 σ = some out → mM (mA E 276) E 276 σ s H locs → lv_has ls 4 [] → mGoX l p e 6 100 s m args below meth c E (some (vL out.1)) out H locs (F0 m 17 ls []) := by
  intro σ H locs ls hm hM hl
  unfold mX11_trace_B17 at hm
  exact r_throw G hst hk hex hM hl.1 hm th_k th_in th_i th_g dX11_trace_17 dX11_trace_20 dX11_trace_21 dX11_trace_24 (Nat.le_of_ble_eq_true rfl) (Nat.le_of_ble_eq_true rfl) (Nat.le_of_ble_eq_true rfl) (Nat.le_of_ble_eq_true rfl) (Nat.le_of_ble_eq_true rfl) (Nat.le_of_ble_eq_true rfl)
set_option maxRecDepth 100000 in
set_option maxHeartbeats 4000000 in
theorem qX11_trace (l : Launch) (hst : l.stackTraces = false) (E : mE) (σ : mSt) (v0 : Nat) (v1 : Int) (v2 : Int) (out : Int × mSt) (hm : mX11_trace v0 v1 v2 σ = some out) : mXMet l yX11_trace cX11_trace 4 (some .long) 6 100 E [.ref (eA E v0), vI v1, vI v2] σ (some (vL out.1)) out := by
  unfold mX11_trace at hm
  obtain ⟨g0, hm⟩ := g_t hm
  refine m_xentry (by decide +kernel) (Nat.le_of_ble_eq_true rfl) (fun p e s m args below meth c G hr hk hex hM ls hl => ?_)
  have G : CallFix p m c cX11_trace 4 s args mTs RX11 := G
  have hl : lv_has ls 4 [(0, .ref (eA E v0)), (1, vI v1), (2, vI v2)] := hl
  refine r_aload_n (np := 1) G hl 0 rfl dX11_trace_0 rfl rfl ?_
  refine r_iload_n (np := 2) G hl 1 rfl dX11_trace_1 rfl rfl ?_
  obtain ⟨b1, s2, e3, hm⟩ := call_t hm
  refine m_callVI (np := 5) G hM hl.1 [vI v1] (qX11_isKept l E σ v0 v1 _ e3) myX11_isKept (shp_lt (gX11_isKept e3) (by decide)) (gX11_isKept e3) rfl (by decide) lkX11_159 ⟨Nat.le_of_ble_eq_true rfl, Nat.le_of_ble_eq_true rfl⟩ ⟨Nat.le_of_ble_eq_true rfl, Nat.le_of_ble_eq_true rfl⟩ [] rfl (Nat.le_of_ble_eq_true rfl) dX11_trace_2 rfl (fun H locs hM => ?_)
  refine r_if_eq (np := 8) (tgt := 17) G rfl dX11_trace_5 (by decide) rfl (fun h4 => ?_) (fun h4 => ?_)
  · have hm := b_t h4 hm
    exact wX11_trace_B17 l E out G hr hk hst hex v0 v1 v2 g0 _ _ _ _ hm hM (lv_sub hl [] rfl)
  · have hm := b_f h4 hm
    refine r_iload_n (np := 9) G hl 2 rfl dX11_trace_8 rfl rfl ?_
    refine r_if_lt (np := 12) (tgt := 17) G rfl dX11_trace_9 (by decide) rfl (fun h5 => ?_) (fun h5 => ?_)
    · have hm := b_t h5 hm
      exact wX11_trace_B17 l E out G hr hk hst hex v0 v1 v2 g0 _ _ _ _ hm hM (lv_sub hl [] rfl)
    · have hm := b_f h5 hm
      refine r_iload_n (np := 13) G hl 2 rfl dX11_trace_12 rfl rfl ?_
      refine r_iconst (np := 14) G 1 dX11_trace_13 rfl ?_
      refine r_icmp_le (np := 17) (tgt := 25) G rfl (wIk 1 rfl) dX11_trace_14 (by decide) rfl (fun h6 => ?_) (fun h6 => ?_)
      · have hm := b_t h6 hm
        refine r_aload_n (np := 26) G hl 0 rfl dX11_trace_25 rfl rfl ?_
        obtain ⟨r7, e8, hm⟩ := ref_t hm
        refine r_getR (np := 29) G hM (shp_lt g0 (by decide)) g0 e8 fdX11_6 lkX11_43 dX11_trace_26 rfl ?_
        refine r_iload_n (np := 30) G hl 1 rfl dX11_trace_29 rfl rfl ?_
        obtain ⟨g9, hm⟩ := g_t hm
        obtain ⟨r10, e11, hm⟩ := ref_t hm
        refine r_aaload (np := 31) G hM (t := 3) g9 rfl ⟨by decide, by decide⟩ rfl rfl e11 dX11_trace_30 rfl ?_
        refine r_astore_n (np := 32) G hl rfl [(3, .ref (eA E r10)), (0, .ref (eA E v0)), (1, vI v1), (2, vI v2)] dX11_trace_31 rfl rfl (by decide) rfl (fun ls hl => ?_)
        refine r_ldc2 (np := 35) G 2 dX11_trace_32 lkX11_197 rfl rfl ?_
        refine r_aload_n (np := 36) G hl 0 rfl dX11_trace_35 rfl rfl ?_
        obtain ⟨g12, hm⟩ := g_t hm
        obtain ⟨r13, e14, hm⟩ := ref_t hm
        refine r_getRN (np := 39) G hM (shp_lt g12 (by decide)) g12 e14 fdX1_0 lkX11_162 dX11_trace_36 rfl ?_
        refine r_iconst (np := 40) G 0 dX11_trace_39 rfl ?_
        obtain ⟨g15, hm⟩ := g_t hm
        refine r_laload (np := 41) G hM g15 rfl dX11_trace_40 rfl ?_
        refine r_lmul (np := 42) G dX11_trace_41 rfl ?_
        refine r_aload_n (np := 43) G hl 0 rfl dX11_trace_42 rfl rfl ?_
        refine r_getLN (np := 46) G hM (shp_lt g12 (by decide)) g12 fdX1_1 lkX11_168 dX11_trace_43 rfl ?_
        refine r_iload_n (np := 47) G hl 3 rfl dX11_trace_46 rfl rfl ?_
        obtain ⟨b16, s17, e18, hm⟩ := call_t hm
        refine m_callSL (np := 50) G hM hl.1 [vL (2 * (s2 r13 0)), vL (s2 r10 1), vI v2] (qX5_lowest l E s2 (2 * (s2 r13 0)) (s2 r10 1) v2 _ e18) myX5_lowest lkX11_193 ⟨Nat.le_of_ble_eq_true rfl, Nat.le_of_ble_eq_true rfl⟩ ⟨Nat.le_of_ble_eq_true rfl, Nat.le_of_ble_eq_true rfl⟩ [] rfl (Nat.le_of_ble_eq_true rfl) dX11_trace_47 rfl (fun H locs hM => ?_)
        exact r_xlret G hr hk hM hm dX11_trace_50 (Nat.zero_le _) (Nat.zero_le _)
      · have hm := b_f h6 hm
        exact wX11_trace_B17 l E out G hr hk hst hex v0 v1 v2 g0 _ _ _ _ hm hM (lv_sub hl [] rfl)
theorem gX11_trace {v0 : Nat} {v1 : Int} {v2 : Int} {σ : mSt} {out : Int × mSt} (hm : mX11_trace v0 v1 v2 σ = some out) : isC v0 10 := (g_t hm).1
set_option maxRecDepth 100000 in
set_option maxHeartbeats 4000000 in
theorem wX11_matrix_B65 (l : Launch) (E : mE) (out : Int × mSt) {p : Program} {e : Env} {s : State} {m : MethodId} {args : Array Value} {below : List Frame} {meth : Method} {c : Code} (G : CallFix p m c cX11_matrix 8 s args mTs RX11) (hr : meth.sig.returnType = (some .long)) (hk : meth.locks = false) (hst : l.stackTraces = false) (hex : ∀ x ∈ c.exceptionTable.toList, False) (v0 : Nat) (v1 : Int) (v2 : Int) (v3 : Int) (v4 : Int) (g0 : isC v0 10) : ∀ (σ : mSt) (H : Heap) (locs : List Loc) (ls : Array Slot), mX11_matrix_B65 v0 v1 v2 v3 v4 σ = some out → mM (mA E 276) E 276 σ s H locs → lv_has ls 8 [] → mGoX l p e 6 100 s m args below meth c E (some (vL out.1)) out H locs (F0 m 65 ls []) := by
  intro σ H locs ls hm hM hl
  unfold mX11_matrix_B65 at hm
  exact r_throw G hst hk hex hM hl.1 hm th_k th_in th_i th_g dX11_matrix_65 dX11_matrix_68 dX11_matrix_69 dX11_matrix_72 (Nat.le_of_ble_eq_true rfl) (Nat.le_of_ble_eq_true rfl) (Nat.le_of_ble_eq_true rfl) (Nat.le_of_ble_eq_true rfl) (Nat.le_of_ble_eq_true rfl) (Nat.le_of_ble_eq_true rfl)
set_option maxRecDepth 100000 in
set_option maxHeartbeats 4000000 in
theorem wX11_matrix_B26 (l : Launch) (E : mE) (out : Int × mSt) {p : Program} {e : Env} {s : State} {m : MethodId} {args : Array Value} {below : List Frame} {meth : Method} {c : Code} (G : CallFix p m c cX11_matrix 8 s args mTs RX11) (hr : meth.sig.returnType = (some .long)) (hk : meth.locks = false) (hst : l.stackTraces = false) (hex : ∀ x ∈ c.exceptionTable.toList, False) (v0 : Nat) (v1 : Int) (v2 : Int) (v3 : Int) (v4 : Int) (g0 : isC v0 10) : ∀ (σ : mSt) (H : Heap) (locs : List Loc) (ls : Array Slot), mX11_matrix_B26 v0 v1 v2 v3 v4 σ = some out → mM (mA E 276) E 276 σ s H locs → lv_has ls 8 [] → mGoX l p e 6 100 s m args below meth c E (some (vL out.1)) out H locs (F0 m 26 ls []) := by
  intro σ H locs ls hm hM hl
  unfold mX11_matrix_B26 at hm
  exact r_throw G hst hk hex hM hl.1 hm th_k th_in th_i th_g dX11_matrix_26 dX11_matrix_29 dX11_matrix_30 dX11_matrix_33 (Nat.le_of_ble_eq_true rfl) (Nat.le_of_ble_eq_true rfl) (Nat.le_of_ble_eq_true rfl) (Nat.le_of_ble_eq_true rfl) (Nat.le_of_ble_eq_true rfl) (Nat.le_of_ble_eq_true rfl)
set_option maxRecDepth 100000 in
set_option maxHeartbeats 4000000 in
theorem qX11_matrix (l : Launch) (hst : l.stackTraces = false) (E : mE) (σ : mSt) (v0 : Nat) (v1 : Int) (v2 : Int) (v3 : Int) (v4 : Int) (out : Int × mSt) (hm : mX11_matrix v0 v1 v2 v3 v4 σ = some out) : mXMet l yX11_matrix cX11_matrix 8 (some .long) 6 100 E [.ref (eA E v0), vI v1, vI v2, vI v3, vI v4] σ (some (vL out.1)) out := by
  unfold mX11_matrix at hm
  obtain ⟨g0, hm⟩ := g_t hm
  refine m_xentry (by decide +kernel) (Nat.le_of_ble_eq_true rfl) (fun p e s m args below meth c G hr hk hex hM ls hl => ?_)
  have G : CallFix p m c cX11_matrix 8 s args mTs RX11 := G
  have hl : lv_has ls 8 [(0, .ref (eA E v0)), (1, vI v1), (2, vI v2), (3, vI v3), (4, vI v4)] := hl
  refine r_aload_n (np := 1) G hl 0 rfl dX11_matrix_0 rfl rfl ?_
  refine r_iload_n (np := 2) G hl 1 rfl dX11_matrix_1 rfl rfl ?_
  obtain ⟨b1, s2, e3, hm⟩ := call_t hm
  refine m_callVI (np := 5) G hM hl.1 [vI v1] (qX11_isKept l E σ v0 v1 _ e3) myX11_isKept (shp_lt (gX11_isKept e3) (by decide)) (gX11_isKept e3) rfl (by decide) lkX11_159 ⟨Nat.le_of_ble_eq_true rfl, Nat.le_of_ble_eq_true rfl⟩ ⟨Nat.le_of_ble_eq_true rfl, Nat.le_of_ble_eq_true rfl⟩ [] rfl (Nat.le_of_ble_eq_true rfl) dX11_matrix_2 rfl (fun H locs hM => ?_)
  refine r_if_eq (np := 8) (tgt := 26) G rfl dX11_matrix_5 (by decide) rfl (fun h4 => ?_) (fun h4 => ?_)
  · have hm := b_t h4 hm
    exact wX11_matrix_B26 l E out G hr hk hst hex v0 v1 v2 v3 v4 g0 _ _ _ _ hm hM (lv_sub hl [] rfl)
  · have hm := b_f h4 hm
    refine r_iload_n (np := 9) G hl 2 rfl dX11_matrix_8 rfl rfl ?_
    refine r_if_lt (np := 12) (tgt := 26) G rfl dX11_matrix_9 (by decide) rfl (fun h5 => ?_) (fun h5 => ?_)
    · have hm := b_t h5 hm
      exact wX11_matrix_B26 l E out G hr hk hst hex v0 v1 v2 v3 v4 g0 _ _ _ _ hm hM (lv_sub hl [] rfl)
    · have hm := b_f h5 hm
      refine r_iload_n (np := 13) G hl 2 rfl dX11_matrix_12 rfl rfl ?_
      refine r_iconst (np := 14) G 1 dX11_matrix_13 rfl ?_
      refine r_icmp_gt (np := 17) (tgt := 26) G rfl (wIk 1 rfl) dX11_matrix_14 (by decide) rfl (fun h6 => ?_) (fun h6 => ?_)
      · have hm := b_t h6 hm
        exact wX11_matrix_B26 l E out G hr hk hst hex v0 v1 v2 v3 v4 g0 _ _ _ _ hm hM (lv_sub hl [] rfl)
      · have hm := b_f h6 hm
        refine r_iload_n (np := 18) G hl 3 rfl dX11_matrix_17 rfl rfl ?_
        refine r_if_lt (np := 21) (tgt := 26) G rfl dX11_matrix_18 (by decide) rfl (fun h7 => ?_) (fun h7 => ?_)
        · have hm := b_t h7 hm
          exact wX11_matrix_B26 l E out G hr hk hst hex v0 v1 v2 v3 v4 g0 _ _ _ _ hm hM (lv_sub hl [] rfl)
        · have hm := b_f h7 hm
          refine r_iload_n (np := 22) G hl 3 rfl dX11_matrix_21 rfl rfl ?_
          refine r_iconst (np := 23) G 1 dX11_matrix_22 rfl ?_
          refine r_icmp_le (np := 26) (tgt := 34) G rfl (wIk 1 rfl) dX11_matrix_23 (by decide) rfl (fun h8 => ?_) (fun h8 => ?_)
          · have hm := b_t h8 hm
            refine r_aload_n (np := 35) G hl 0 rfl dX11_matrix_34 rfl rfl ?_
            obtain ⟨r9, e10, hm⟩ := ref_t hm
            refine r_getR (np := 38) G hM (shp_lt g0 (by decide)) g0 e10 fdX11_6 lkX11_43 dX11_matrix_35 rfl ?_
            refine r_iload_n (np := 39) G hl 1 rfl dX11_matrix_38 rfl rfl ?_
            obtain ⟨g11, hm⟩ := g_t hm
            obtain ⟨r12, e13, hm⟩ := ref_t hm
            refine r_aaload (np := 40) G hM (t := 3) g11 rfl ⟨by decide, by decide⟩ rfl rfl e13 dX11_matrix_39 rfl ?_
            refine r_astore (np := 42) G hl rfl [(5, .ref (eA E r12)), (0, .ref (eA E v0)), (1, vI v1), (2, vI v2), (3, vI v3), (4, vI v4)] dX11_matrix_40 rfl (by decide) rfl (fun ls hl => ?_)
            refine r_iload (np := 44) G hl 5 rfl dX11_matrix_42 rfl ?_
            refine r_if_lt (np := 47) (tgt := 65) G rfl dX11_matrix_44 (by decide) rfl (fun h14 => ?_) (fun h14 => ?_)
            · have hm := b_t h14 hm
              exact wX11_matrix_B65 l E out G hr hk hst hex v0 v1 v2 v3 v4 g0 _ _ _ _ hm hM (lv_sub hl [] rfl)
            · have hm := b_f h14 hm
              refine r_iload (np := 49) G hl 5 rfl dX11_matrix_47 rfl ?_
              refine r_iconst (np := 50) G 1 dX11_matrix_49 rfl ?_
              refine r_icmp_gt (np := 53) (tgt := 65) G rfl (wIk 1 rfl) dX11_matrix_50 (by decide) rfl (fun h15 => ?_) (fun h15 => ?_)
              · have hm := b_t h15 hm
                exact wX11_matrix_B65 l E out G hr hk hst hex v0 v1 v2 v3 v4 g0 _ _ _ _ hm hM (lv_sub hl [] rfl)
              · have hm := b_f h15 hm
                refine r_aload_n (np := 54) G hl 1 rfl dX11_matrix_53 rfl rfl ?_
                refine r_aload (np := 56) G hl 0 rfl dX11_matrix_54 rfl ?_
                obtain ⟨g16, hm⟩ := g_t hm
                refine r_getIN (np := 59) G hM (shp_lt g16 (by decide)) g16 fdX1_2 lkX11_165 dX11_matrix_56 rfl ?_
                obtain ⟨b17, s18, e19, hm⟩ := call_t hm
                refine m_callVI (np := 62) G hM hl.1 [vI (s2 r12 2)] (qX11_isSplit l E s2 v0 (s2 r12 2) _ e19) myX11_isSplit (shp_lt (gX11_isSplit e19) (by decide)) (gX11_isSplit e19) rfl (by decide) lkX11_211 ⟨Nat.le_of_ble_eq_true rfl, Nat.le_of_ble_eq_true rfl⟩ ⟨Nat.le_of_ble_eq_true rfl, Nat.le_of_ble_eq_true rfl⟩ [] rfl (Nat.le_of_ble_eq_true rfl) dX11_matrix_59 rfl (fun H locs hM => ?_)
                refine r_if_ne (np := 65) (tgt := 73) G rfl dX11_matrix_62 (by decide) rfl (fun h20 => ?_) (fun h20 => ?_)
                · have hm := b_f h20 hm
                  refine r_aload_n (np := 74) G hl 1 rfl dX11_matrix_73 rfl rfl ?_
                  obtain ⟨r21, e22, hm⟩ := ref_t hm
                  refine r_getR (np := 77) G hM (shp_lt g0 (by decide)) g0 e22 fdX11_9 lkX11_63 dX11_matrix_74 rfl ?_
                  refine r_aload (np := 79) G hl 0 rfl dX11_matrix_77 rfl ?_
                  obtain ⟨r23, e24, hm⟩ := ref_t hm
                  refine r_getRN (np := 82) G hM (shp_lt g16 (by decide)) g16 e24 fdX1_0 lkX11_162 dX11_matrix_79 rfl ?_
                  refine r_iload_n (np := 83) G hl 3 rfl dX11_matrix_82 rfl rfl ?_
                  refine r_iload_n (np := 84) G hl 4 rfl dX11_matrix_83 rfl rfl ?_
                  obtain ⟨b25, s26, e27, hm⟩ := call_t hm
                  refine m_callVL (np := 87) G hM hl.1 [.ref (eA E r23), vI v2, vI v3] (qX9_entry l E s18 r21 r23 v2 v3 _ e27) myX9_entry (shp_lt (gX9_entry e27) (by decide)) (gX9_entry e27) rfl (by decide) lkX11_217 ⟨Nat.le_of_ble_eq_true rfl, Nat.le_of_ble_eq_true rfl⟩ ⟨Nat.le_of_ble_eq_true rfl, Nat.le_of_ble_eq_true rfl⟩ [] rfl (Nat.le_of_ble_eq_true rfl) dX11_matrix_84 rfl (fun H locs hM => ?_)
                  refine r_lstore (np := 89) G hl rfl [(6, vL b25), (5, .ref (eA E r12)), (0, .ref (eA E v0)), (1, vI v1), (2, vI v2), (3, vI v3), (4, vI v4)] dX11_matrix_87 rfl (by decide) rfl (fun ls hl => ?_)
                  refine r_lload (np := 91) G hl 0 rfl dX11_matrix_89 rfl ?_
                  refine r_aload (np := 93) G hl 1 rfl dX11_matrix_91 rfl ?_
                  refine r_getLN (np := 96) G hM (shp_lt g16 (by decide)) g16 fdX1_1 lkX11_168 dX11_matrix_93 rfl ?_
                  refine r_aload_n (np := 97) G hl 2 rfl dX11_matrix_96 rfl rfl ?_
                  obtain ⟨r28, e29, hm⟩ := ref_t hm
                  refine r_getR (np := 100) G hM (shp_lt g0 (by decide)) g0 e29 fdX11_9 lkX11_63 dX11_matrix_97 rfl ?_
                  obtain ⟨b30, s31, e32, hm⟩ := call_t hm
                  refine m_callVL (np := 103) G hM hl.1 [] (qX9_below l E s26 r28 _ e32) myX9_below (shp_lt (gX9_below e32) (by decide)) (gX9_below e32) rfl (by decide) lkX11_221 ⟨Nat.le_of_ble_eq_true rfl, Nat.le_of_ble_eq_true rfl⟩ ⟨Nat.le_of_ble_eq_true rfl, Nat.le_of_ble_eq_true rfl⟩ [vL (s26 r12 1), vL b25] rfl (Nat.le_of_ble_eq_true rfl) dX11_matrix_100 rfl (fun H locs hM => ?_)
                  refine r_lmul (np := 104) G dX11_matrix_103 rfl ?_
                  refine r_iload (np := 106) G hl 6 rfl dX11_matrix_104 rfl ?_
                  obtain ⟨b33, s34, e35, hm⟩ := call_t hm
                  refine m_callSL (np := 109) G hM hl.1 [vL b25, vL ((s26 r12 1) * b30), vI v4] (qX5_lowest l E s31 b25 ((s26 r12 1) * b30) v4 _ e35) myX5_lowest lkX11_193 ⟨Nat.le_of_ble_eq_true rfl, Nat.le_of_ble_eq_true rfl⟩ ⟨Nat.le_of_ble_eq_true rfl, Nat.le_of_ble_eq_true rfl⟩ [] rfl (Nat.le_of_ble_eq_true rfl) dX11_matrix_106 rfl (fun H locs hM => ?_)
                  exact r_xlret G hr hk hM hm dX11_matrix_109 (Nat.zero_le _) (Nat.zero_le _)
                · have hm := b_t h20 hm
                  exact wX11_matrix_B65 l E out G hr hk hst hex v0 v1 v2 v3 v4 g0 _ _ _ _ hm hM (lv_sub hl [] rfl)
          · have hm := b_f h8 hm
            exact wX11_matrix_B26 l E out G hr hk hst hex v0 v1 v2 v3 v4 g0 _ _ _ _ hm hM (lv_sub hl [] rfl)
theorem gX11_matrix {v0 : Nat} {v1 : Int} {v2 : Int} {v3 : Int} {v4 : Int} {σ : mSt} {out : Int × mSt} (hm : mX11_matrix v0 v1 v2 v3 v4 σ = some out) : isC v0 10 := (g_t hm).1
set_option maxRecDepth 100000 in
set_option maxHeartbeats 4000000 in
theorem wX11_row_B50 (l : Launch) (E : mE) (out : Int × mSt) {p : Program} {e : Env} {s : State} {m : MethodId} {args : Array Value} {below : List Frame} {meth : Method} {c : Code} (G : CallFix p m c cX11_row 4 s args mTs RX11) (hr : meth.sig.returnType = (some .int)) (hk : meth.locks = false) (hst : l.stackTraces = false) (hex : ∀ x ∈ c.exceptionTable.toList, False) (v0 : Nat) (v1 : Int) (v2 : Int) (v3 : Int) (g0 : isC v0 10) : ∀ (σ : mSt) (H : Heap) (locs : List Loc) (ls : Array Slot), mX11_row_B50 v0 v1 v2 v3 σ = some out → mM (mA E 276) E 276 σ s H locs → lv_has ls 4 [] → mGoX l p e 6 100 s m args below meth c E (some (vI out.1)) out H locs (F0 m 50 ls []) := by
  intro σ H locs ls hm hM hl
  unfold mX11_row_B50 at hm
  exact r_throw G hst hk hex hM hl.1 hm th_k th_in th_i th_g dX11_row_50 dX11_row_53 dX11_row_54 dX11_row_57 (Nat.le_of_ble_eq_true rfl) (Nat.le_of_ble_eq_true rfl) (Nat.le_of_ble_eq_true rfl) (Nat.le_of_ble_eq_true rfl) (Nat.le_of_ble_eq_true rfl) (Nat.le_of_ble_eq_true rfl)
set_option maxRecDepth 100000 in
set_option maxHeartbeats 4000000 in
theorem wX11_row_B17 (l : Launch) (E : mE) (out : Int × mSt) {p : Program} {e : Env} {s : State} {m : MethodId} {args : Array Value} {below : List Frame} {meth : Method} {c : Code} (G : CallFix p m c cX11_row 4 s args mTs RX11) (hr : meth.sig.returnType = (some .int)) (hk : meth.locks = false) (hst : l.stackTraces = false) (hex : ∀ x ∈ c.exceptionTable.toList, False) (v0 : Nat) (v1 : Int) (v2 : Int) (v3 : Int) (g0 : isC v0 10) : ∀ (σ : mSt) (H : Heap) (locs : List Loc) (ls : Array Slot), mX11_row_B17 v0 v1 v2 v3 σ = some out → mM (mA E 276) E 276 σ s H locs → lv_has ls 4 [] → mGoX l p e 6 100 s m args below meth c E (some (vI out.1)) out H locs (F0 m 17 ls []) := by
  intro σ H locs ls hm hM hl
  unfold mX11_row_B17 at hm
  exact r_throw G hst hk hex hM hl.1 hm th_k th_in th_i th_g dX11_row_17 dX11_row_20 dX11_row_21 dX11_row_24 (Nat.le_of_ble_eq_true rfl) (Nat.le_of_ble_eq_true rfl) (Nat.le_of_ble_eq_true rfl) (Nat.le_of_ble_eq_true rfl) (Nat.le_of_ble_eq_true rfl) (Nat.le_of_ble_eq_true rfl)
set_option maxRecDepth 100000 in
set_option maxHeartbeats 4000000 in
theorem qX11_row (l : Launch) (hst : l.stackTraces = false) (E : mE) (σ : mSt) (v0 : Nat) (v1 : Int) (v2 : Int) (v3 : Int) (out : Int × mSt) (hm : mX11_row v0 v1 v2 v3 σ = some out) : mXMet l yX11_row cX11_row 4 (some .int) 6 100 E [.ref (eA E v0), vI v1, vI v2, vI v3] σ (some (vI out.1)) out := by
  unfold mX11_row at hm
  obtain ⟨g0, hm⟩ := g_t hm
  refine m_xentry (by decide +kernel) (Nat.le_of_ble_eq_true rfl) (fun p e s m args below meth c G hr hk hex hM ls hl => ?_)
  have G : CallFix p m c cX11_row 4 s args mTs RX11 := G
  have hl : lv_has ls 4 [(0, .ref (eA E v0)), (1, vI v1), (2, vI v2), (3, vI v3)] := hl
  refine r_aload_n (np := 1) G hl 0 rfl dX11_row_0 rfl rfl ?_
  refine r_iload_n (np := 2) G hl 1 rfl dX11_row_1 rfl rfl ?_
  obtain ⟨b1, s2, e3, hm⟩ := call_t hm
  refine m_callVI (np := 5) G hM hl.1 [vI v1] (qX11_isQuaternion l E σ v0 v1 _ e3) myX11_isQuaternion (shp_lt (gX11_isQuaternion e3) (by decide)) (gX11_isQuaternion e3) rfl (by decide) lkX11_102 ⟨Nat.le_of_ble_eq_true rfl, Nat.le_of_ble_eq_true rfl⟩ ⟨Nat.le_of_ble_eq_true rfl, Nat.le_of_ble_eq_true rfl⟩ [] rfl (Nat.le_of_ble_eq_true rfl) dX11_row_2 rfl (fun H locs hM => ?_)
  refine r_if_eq (np := 8) (tgt := 17) G rfl dX11_row_5 (by decide) rfl (fun h4 => ?_) (fun h4 => ?_)
  · have hm := b_t h4 hm
    exact wX11_row_B17 l E out G hr hk hst hex v0 v1 v2 v3 g0 _ _ _ _ hm hM (lv_sub hl [] rfl)
  · have hm := b_f h4 hm
    refine r_iload_n (np := 9) G hl 2 rfl dX11_row_8 rfl rfl ?_
    refine r_if_lt (np := 12) (tgt := 17) G rfl dX11_row_9 (by decide) rfl (fun h5 => ?_) (fun h5 => ?_)
    · have hm := b_t h5 hm
      exact wX11_row_B17 l E out G hr hk hst hex v0 v1 v2 v3 g0 _ _ _ _ hm hM (lv_sub hl [] rfl)
    · have hm := b_f h5 hm
      refine r_iload_n (np := 13) G hl 2 rfl dX11_row_12 rfl rfl ?_
      refine r_iconst (np := 14) G 4 dX11_row_13 rfl ?_
      refine r_icmp_le (np := 17) (tgt := 25) G rfl (wIk 4 rfl) dX11_row_14 (by decide) rfl (fun h6 => ?_) (fun h6 => ?_)
      · have hm := b_t h6 hm
        refine r_iload_n (np := 26) G hl 2 rfl dX11_row_25 rfl rfl ?_
        refine r_iconst (np := 27) G 4 dX11_row_26 rfl ?_
        refine r_icmp_ne (np := 30) (tgt := 41) G rfl (wIk 4 rfl) dX11_row_27 (by decide) rfl (fun h7 => ?_) (fun h7 => ?_)
        · have hm := b_f h7 hm
          refine r_iload_n (np := 42) G hl 3 rfl dX11_row_41 rfl rfl ?_
          refine r_if_lt (np := 45) (tgt := 50) G rfl dX11_row_42 (by decide) rfl (fun h8 => ?_) (fun h8 => ?_)
          · have hm := b_t h8 hm
            exact wX11_row_B50 l E out G hr hk hst hex v0 v1 v2 v3 g0 _ _ _ _ hm hM (lv_sub hl [] rfl)
          · have hm := b_f h8 hm
            refine r_iload_n (np := 46) G hl 3 rfl dX11_row_45 rfl rfl ?_
            refine r_iconst (np := 47) G 3 dX11_row_46 rfl ?_
            refine r_icmp_le (np := 50) (tgt := 58) G rfl (wIk 3 rfl) dX11_row_47 (by decide) rfl (fun h9 => ?_) (fun h9 => ?_)
            · have hm := b_t h9 hm
              refine r_aload_n (np := 59) G hl 0 rfl dX11_row_58 rfl rfl ?_
              obtain ⟨r10, e11, hm⟩ := ref_t hm
              refine r_getR (np := 62) G hM (shp_lt g0 (by decide)) g0 e11 fdX11_7 lkX11_49 dX11_row_59 rfl ?_
              refine r_iload_n (np := 63) G hl 1 rfl dX11_row_62 rfl rfl ?_
              obtain ⟨g12, hm⟩ := g_t hm
              obtain ⟨r13, e14, hm⟩ := ref_t hm
              refine r_aaload (np := 64) G hM (t := 4) g12 rfl ⟨by decide, by decide⟩ rfl rfl e14 dX11_row_63 rfl ?_
              refine r_iload_n (np := 65) G hl 2 rfl dX11_row_64 rfl rfl ?_
              obtain ⟨b15, s16, e17, hm⟩ := call_t hm
              refine m_callVR (np := 68) G hM hl.1 [vI v2] (qX6_numbersOf l E s2 r13 v2 _ e17) myX6_numbersOf (shp_lt (gX6_numbersOf e17) (by decide)) (gX6_numbersOf e17) rfl (by decide) lkX11_236 ⟨Nat.le_of_ble_eq_true rfl, Nat.le_of_ble_eq_true rfl⟩ ⟨Nat.le_of_ble_eq_true rfl, Nat.le_of_ble_eq_true rfl⟩ [] rfl (Nat.le_of_ble_eq_true rfl) dX11_row_65 rfl (fun H locs hM => ?_)
              refine r_iload_n (np := 69) G hl 3 rfl dX11_row_68 rfl rfl ?_
              obtain ⟨g18, hm⟩ := g_t hm
              refine r_laload (np := 70) G hM g18 rfl dX11_row_69 rfl ?_
              refine r_l2i (np := 71) G dX11_row_70 rfl ?_
              exact r_xiret G hr hk hM hm dX11_row_71 (Nat.zero_le _) (Nat.zero_le _)
            · have hm := b_f h9 hm
              exact wX11_row_B50 l E out G hr hk hst hex v0 v1 v2 v3 g0 _ _ _ _ hm hM (lv_sub hl [] rfl)
        · have hm := b_t h7 hm
          refine r_aload_n (np := 31) G hl 0 rfl dX11_row_30 rfl rfl ?_
          obtain ⟨r19, e20, hm⟩ := ref_t hm
          refine r_getR (np := 34) G hM (shp_lt g0 (by decide)) g0 e20 fdX11_7 lkX11_49 dX11_row_31 rfl ?_
          refine r_iload_n (np := 35) G hl 1 rfl dX11_row_34 rfl rfl ?_
          obtain ⟨g21, hm⟩ := g_t hm
          obtain ⟨r22, e23, hm⟩ := ref_t hm
          refine r_aaload (np := 36) G hM (t := 4) g21 rfl ⟨by decide, by decide⟩ rfl rfl e23 dX11_row_35 rfl ?_
          obtain ⟨b24, s25, e26, hm⟩ := call_t hm
          refine m_callVL (np := 39) G hM hl.1 [] (qX6_below l E s2 r22 _ e26) myX6_below (shp_lt (gX6_below e26) (by decide)) (gX6_below e26) rfl (by decide) lkX11_235 ⟨Nat.le_of_ble_eq_true rfl, Nat.le_of_ble_eq_true rfl⟩ ⟨Nat.le_of_ble_eq_true rfl, Nat.le_of_ble_eq_true rfl⟩ [] rfl (Nat.le_of_ble_eq_true rfl) dX11_row_36 rfl (fun H locs hM => ?_)
          refine r_l2i (np := 40) G dX11_row_39 rfl ?_
          exact r_xiret G hr hk hM hm dX11_row_40 (Nat.zero_le _) (Nat.zero_le _)
      · have hm := b_f h6 hm
        exact wX11_row_B17 l E out G hr hk hst hex v0 v1 v2 v3 g0 _ _ _ _ hm hM (lv_sub hl [] rfl)
theorem gX11_row {v0 : Nat} {v1 : Int} {v2 : Int} {v3 : Int} {σ : mSt} {out : Int × mSt} (hm : mX11_row v0 v1 v2 v3 σ = some out) : isC v0 10 := (g_t hm).1
set_option maxRecDepth 100000 in
set_option maxHeartbeats 4000000 in
theorem wX11_table_B37 (l : Launch) (E : mE) (out : Int × mSt) {p : Program} {e : Env} {s : State} {m : MethodId} {args : Array Value} {below : List Frame} {meth : Method} {c : Code} (G : CallFix p m c cX11_table 6 s args mTs RX11) (hr : meth.sig.returnType = (some .int)) (hk : meth.locks = false) (hst : l.stackTraces = false) (hex : ∀ x ∈ c.exceptionTable.toList, False) (v0 : Nat) (v1 : Int) (v2 : Int) (v3 : Int) (v4 : Int) (g0 : isC v0 10) : ∀ (σ : mSt) (H : Heap) (locs : List Loc) (ls : Array Slot), mX11_table_B37 v0 v1 v2 v3 v4 σ = some out → mM (mA E 276) E 276 σ s H locs → lv_has ls 6 [] → mGoX l p e 6 125 s m args below meth c E (some (vI out.1)) out H locs (F0 m 37 ls []) := by
  intro σ H locs ls hm hM hl
  unfold mX11_table_B37 at hm
  exact r_throw G hst hk hex hM hl.1 hm th_k th_in th_i th_g dX11_table_37 dX11_table_40 dX11_table_41 dX11_table_44 (Nat.le_of_ble_eq_true rfl) (Nat.le_of_ble_eq_true rfl) (Nat.le_of_ble_eq_true rfl) (Nat.le_of_ble_eq_true rfl) (Nat.le_of_ble_eq_true rfl) (Nat.le_of_ble_eq_true rfl)
set_option maxRecDepth 100000 in
set_option maxHeartbeats 4000000 in
theorem qX11_table (l : Launch) (hst : l.stackTraces = false) (E : mE) (σ : mSt) (v0 : Nat) (v1 : Int) (v2 : Int) (v3 : Int) (v4 : Int) (out : Int × mSt) (hm : mX11_table v0 v1 v2 v3 v4 σ = some out) : mXMet l yX11_table cX11_table 6 (some .int) 6 125 E [.ref (eA E v0), vI v1, vI v2, vI v3, vI v4] σ (some (vI out.1)) out := by
  unfold mX11_table at hm
  obtain ⟨g0, hm⟩ := g_t hm
  refine m_xentry (by decide +kernel) (Nat.le_of_ble_eq_true rfl) (fun p e s m args below meth c G hr hk hex hM ls hl => ?_)
  have G : CallFix p m c cX11_table 6 s args mTs RX11 := G
  have hl : lv_has ls 6 [(0, .ref (eA E v0)), (1, vI v1), (2, vI v2), (3, vI v3), (4, vI v4)] := hl
  refine r_aload_n (np := 1) G hl 0 rfl dX11_table_0 rfl rfl ?_
  refine r_iload_n (np := 2) G hl 1 rfl dX11_table_1 rfl rfl ?_
  obtain ⟨b1, s2, e3, hm⟩ := call_t hm
  refine m_callVI (np := 5) G hM hl.1 [vI v1] (qX11_isQuaternion l E σ v0 v1 _ e3) myX11_isQuaternion (shp_lt (gX11_isQuaternion e3) (by decide)) (gX11_isQuaternion e3) rfl (by decide) lkX11_102 ⟨Nat.le_of_ble_eq_true rfl, Nat.le_of_ble_eq_true rfl⟩ ⟨Nat.le_of_ble_eq_true rfl, Nat.le_of_ble_eq_true rfl⟩ [] rfl (Nat.le_of_ble_eq_true rfl) dX11_table_2 rfl (fun H locs hM => ?_)
  refine r_if_eq (np := 8) (tgt := 37) G rfl dX11_table_5 (by decide) rfl (fun h4 => ?_) (fun h4 => ?_)
  · have hm := b_t h4 hm
    exact wX11_table_B37 l E out G hr hk hst hex v0 v1 v2 v3 v4 g0 _ _ _ _ hm hM (lv_sub hl [] rfl)
  · have hm := b_f h4 hm
    refine r_iload_n (np := 9) G hl 2 rfl dX11_table_8 rfl rfl ?_
    refine r_if_lt (np := 12) (tgt := 37) G rfl dX11_table_9 (by decide) rfl (fun h5 => ?_) (fun h5 => ?_)
    · have hm := b_t h5 hm
      exact wX11_table_B37 l E out G hr hk hst hex v0 v1 v2 v3 v4 g0 _ _ _ _ hm hM (lv_sub hl [] rfl)
    · have hm := b_f h5 hm
      refine r_iload_n (np := 13) G hl 2 rfl dX11_table_12 rfl rfl ?_
      refine r_iconst (np := 14) G 3 dX11_table_13 rfl ?_
      refine r_icmp_gt (np := 17) (tgt := 37) G rfl (wIk 3 rfl) dX11_table_14 (by decide) rfl (fun h6 => ?_) (fun h6 => ?_)
      · have hm := b_t h6 hm
        exact wX11_table_B37 l E out G hr hk hst hex v0 v1 v2 v3 v4 g0 _ _ _ _ hm hM (lv_sub hl [] rfl)
      · have hm := b_f h6 hm
        refine r_iload_n (np := 18) G hl 3 rfl dX11_table_17 rfl rfl ?_
        refine r_if_lt (np := 21) (tgt := 37) G rfl dX11_table_18 (by decide) rfl (fun h7 => ?_) (fun h7 => ?_)
        · have hm := b_t h7 hm
          exact wX11_table_B37 l E out G hr hk hst hex v0 v1 v2 v3 v4 g0 _ _ _ _ hm hM (lv_sub hl [] rfl)
        · have hm := b_f h7 hm
          refine r_iload_n (np := 22) G hl 3 rfl dX11_table_21 rfl rfl ?_
          refine r_iconst (np := 23) G 3 dX11_table_22 rfl ?_
          refine r_icmp_gt (np := 26) (tgt := 37) G rfl (wIk 3 rfl) dX11_table_23 (by decide) rfl (fun h8 => ?_) (fun h8 => ?_)
          · have hm := b_t h8 hm
            exact wX11_table_B37 l E out G hr hk hst hex v0 v1 v2 v3 v4 g0 _ _ _ _ hm hM (lv_sub hl [] rfl)
          · have hm := b_f h8 hm
            refine r_iload (np := 28) G hl 4 rfl dX11_table_26 rfl ?_
            refine r_if_lt (np := 31) (tgt := 37) G rfl dX11_table_28 (by decide) rfl (fun h9 => ?_) (fun h9 => ?_)
            · have hm := b_t h9 hm
              exact wX11_table_B37 l E out G hr hk hst hex v0 v1 v2 v3 v4 g0 _ _ _ _ hm hM (lv_sub hl [] rfl)
            · have hm := b_f h9 hm
              refine r_iload (np := 33) G hl 4 rfl dX11_table_31 rfl ?_
              refine r_iconst (np := 34) G 3 dX11_table_33 rfl ?_
              refine r_icmp_le (np := 37) (tgt := 45) G rfl (wIk 3 rfl) dX11_table_34 (by decide) rfl (fun h10 => ?_) (fun h10 => ?_)
              · have hm := b_t h10 hm
                refine r_aload_n (np := 46) G hl 0 rfl dX11_table_45 rfl rfl ?_
                obtain ⟨r11, e12, hm⟩ := ref_t hm
                refine r_getR (np := 49) G hM (shp_lt g0 (by decide)) g0 e12 fdX11_7 lkX11_49 dX11_table_46 rfl ?_
                refine r_iload_n (np := 50) G hl 1 rfl dX11_table_49 rfl rfl ?_
                obtain ⟨g13, hm⟩ := g_t hm
                obtain ⟨r14, e15, hm⟩ := ref_t hm
                refine r_aaload (np := 51) G hM (t := 4) g13 rfl ⟨by decide, by decide⟩ rfl rfl e15 dX11_table_50 rfl ?_
                refine r_astore (np := 53) G hl rfl [(5, .ref (eA E r14)), (0, .ref (eA E v0)), (1, vI v1), (2, vI v2), (3, vI v3), (4, vI v4)] dX11_table_51 rfl (by decide) rfl (fun ls hl => ?_)
                refine r_aload (np := 55) G hl 0 rfl dX11_table_53 rfl ?_
                refine r_aload (np := 57) G hl 0 rfl dX11_table_55 rfl ?_
                refine r_iload_n (np := 58) G hl 3 rfl dX11_table_57 rfl rfl ?_
                obtain ⟨b16, s17, e18, hm⟩ := call_t hm
                refine m_callVR (np := 61) G hM hl.1 [vI v2] (qX6_numbersOf l E s2 r14 v2 _ e18) myX6_numbersOf (shp_lt (gX6_numbersOf e18) (by decide)) (gX6_numbersOf e18) rfl (by decide) lkX11_236 ⟨Nat.le_of_ble_eq_true rfl, Nat.le_of_ble_eq_true rfl⟩ ⟨Nat.le_of_ble_eq_true rfl, Nat.le_of_ble_eq_true rfl⟩ [.ref (eA E r14)] rfl (Nat.le_of_ble_eq_true rfl) dX11_table_58 rfl (fun H locs hM => ?_)
                refine r_aload (np := 63) G hl 0 rfl dX11_table_61 rfl ?_
                refine r_iload_n (np := 64) G hl 4 rfl dX11_table_63 rfl rfl ?_
                obtain ⟨b19, s20, e21, hm⟩ := call_t hm
                refine m_callVR (np := 67) G hM hl.1 [vI v3] (qX6_numbersOf l E s17 r14 v3 _ e21) myX6_numbersOf (shp_lt (gX6_numbersOf e21) (by decide)) (gX6_numbersOf e21) rfl (by decide) lkX11_236 ⟨Nat.le_of_ble_eq_true rfl, Nat.le_of_ble_eq_true rfl⟩ ⟨Nat.le_of_ble_eq_true rfl, Nat.le_of_ble_eq_true rfl⟩ [.ref (eA E b16.toNat), .ref (eA E r14)] rfl (Nat.le_of_ble_eq_true rfl) dX11_table_64 rfl (fun H locs hM => ?_)
                refine r_aload (np := 69) G hl 0 rfl dX11_table_67 rfl ?_
                obtain ⟨b22, s23, e24, hm⟩ := call_t hm
                refine m_callVL (np := 72) G hM hl.1 [] (qX6_below l E s20 r14 _ e24) myX6_below (shp_lt (gX6_below e24) (by decide)) (gX6_below e24) rfl (by decide) lkX11_235 ⟨Nat.le_of_ble_eq_true rfl, Nat.le_of_ble_eq_true rfl⟩ ⟨Nat.le_of_ble_eq_true rfl, Nat.le_of_ble_eq_true rfl⟩ [.ref (eA E b19.toNat), .ref (eA E b16.toNat), .ref (eA E r14)] rfl (Nat.le_of_ble_eq_true rfl) dX11_table_69 rfl (fun H locs hM => ?_)
                refine r_aload_n (np := 73) G hl 1 rfl dX11_table_72 rfl rfl ?_
                obtain ⟨r25, e26, hm⟩ := ref_t hm
                refine r_getR (np := 76) G hM (shp_lt g0 (by decide)) g0 e26 fdX11_11 lkX11_74 dX11_table_73 rfl ?_
                obtain ⟨b27, s28, e29, hm⟩ := call_t hm
                refine m_callVI (np := 79) G hM hl.1 [.ref (eA E b16.toNat), .ref (eA E b19.toNat), vL b22, .ref (eA E r25)] (qX6_expressProduct l E s23 r14 b16.toNat b19.toNat b22 r25 _ e29) myX6_expressProduct (shp_lt (gX6_expressProduct e29) (by decide)) (gX6_expressProduct e29) rfl (by decide) lkX11_251 ⟨Nat.le_of_ble_eq_true rfl, Nat.le_of_ble_eq_true rfl⟩ ⟨Nat.le_of_ble_eq_true rfl, Nat.le_of_ble_eq_true rfl⟩ [] rfl (Nat.le_of_ble_eq_true rfl) dX11_table_76 rfl (fun H locs hM => ?_)
                refine r_pop (np := 80) G dX11_table_79 rfl rfl ?_
                refine r_aload_n (np := 81) G hl 1 rfl dX11_table_80 rfl rfl ?_
                obtain ⟨r30, e31, hm⟩ := ref_t hm
                refine r_getR (np := 84) G hM (shp_lt g0 (by decide)) g0 e31 fdX11_11 lkX11_74 dX11_table_81 rfl ?_
                refine r_iload (np := 86) G hl 5 rfl dX11_table_84 rfl ?_
                obtain ⟨g32, hm⟩ := g_t hm
                refine r_laload (np := 87) G hM g32 rfl dX11_table_86 rfl ?_
                refine r_l2i (np := 88) G dX11_table_87 rfl ?_
                exact r_xiret G hr hk hM hm dX11_table_88 (Nat.zero_le _) (Nat.zero_le _)
              · have hm := b_f h10 hm
                exact wX11_table_B37 l E out G hr hk hst hex v0 v1 v2 v3 v4 g0 _ _ _ _ hm hM (lv_sub hl [] rfl)
theorem gX11_table {v0 : Nat} {v1 : Int} {v2 : Int} {v3 : Int} {v4 : Int} {σ : mSt} {out : Int × mSt} (hm : mX11_table v0 v1 v2 v3 v4 σ = some out) : isC v0 10 := (g_t hm).1
