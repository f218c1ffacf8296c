/-! .. making a builder, a builder's text (laid by jdk4.py) -/
section JR4
variable {p : Program} {l : Launch} {e : Env} {R : Room} {s : State} {m : MethodId} {args : Array Value} {below : List Frame} {meth : Method} {c : Code} {H : Heap} {locs : List Loc} {cells slots : Nat} {Q : State → Prop}
variable {cc : ByteArray} {pc np nL : Nat} {ls : Array Slot} {rest st : List Value} {own : String} {E : mE} {lo : Nat} {ws : va_W} {xs ys : List sX}
theorem j_newO (G : CallFix p m c cc nL s args mTs own) (hJ : jM E lo ws xs s H locs) {ci ix : Nat} {C : String} {T : u_T} (h1 : vwCl[ci]? = some (C, T, 4)) (h2 : ∀ w ∈ u_ws C T 4, w ∈ mTs) (ty : Nat → FieldType) (hty : ∀ k, k < 4 → parseFieldDescriptor (T k).2.2.1 = some (ty k)) {fs : List Value} (hfs : ∀ j, j < 4 → defaultValue (ty j) = vp_V fs j) (hcl : Cond.classLink own ix C ∈ mTs) (hinst : Cond.instantiable C 4 ∈ mTs) (hini : Cond.initialized C ∈ mTs) (hcells : cells + 1 ≤ R.cells) (hslots : slots + 4 ≤ R.slots) (d : decode cc pc = .ok (.new ix, 3)) (hn : pc + 3 = np)
    (kk : ∀ (q : Nat) (H1 : Heap), jM E lo (ws ++ [(q, .inr (ci, fs))]) xs s H1 locs → W p l e R s m args below meth c H1 locs (cells + 1) (slots + 4) Q (F0 m np ls (.ref q :: rest))) : W p l e R s m args below meth c H locs cells slots Q (F0 m pc ls rest) := by
  subst hn
  obtain ⟨m1, m2, m3, m4, m5, m6, m7, m8⟩ := hJ
  exact va_new G.1 G.2.1 G.2.2.2.2 h2 ty hty G.2.2.2.1 (G.2.2.2.2 _ hcl) (G.2.2.2.2 _ hinst) (G.2.2.2.2 _ hini) m2 m4 m5 m8 (fun q h => Nat.le_trans m6 h) h1 hfs hcells hslots d (fun q H1 hP hD hS => kk q H1 ⟨m1, m2, m3, hP, hD, m6, m7, hS⟩)
theorem j_callX (G : CallFix p m c cc nL s args mTs own) (hJ : jM E lo ws xs s H locs) (hls : ls.size = nL) {Post : Option Value → va_W → Prop} {x y : MethodName} {cc' bx : ByteArray} {maxL mx fr lc mc ms b ix : Nat} {ret rx : Option FieldType} {fs : List Value} (i : Nat) (hb : ws[i]? = some (b, .inr (12, fs))) (As : List Value) (hc : jMet l y cc' maxL ret fr lc mc ms E lo (.ref b :: As) ws ys Post) (hy : ∀ x ∈ ys, x ∈ xs) (hY : mY y cc' maxL ret As.length ∧ Cond.instanceMethod y ∈ mTs) (hX : mY x bx mx rx As.length ∧ Cond.instanceMethod x ∈ mTs) (hsame : Cond.sameMethod x.cls x.cls x.name x.desc ∈ mTs) (hsel : Cond.selects "java/lang/StringBuilder" x y ∈ mTs) (hw : Cond.methodLink own ix x ∈ mTs)
    (hroom : fr + 1 ≤ R.frames ∧ 8 + (maxL + 11) + lc ≤ R.locals) (hcs : cells + mc ≤ R.cells ∧ slots + ms ≤ R.slots) (rest : List Value)
    (hst : st = As.reverse ++ .ref b :: rest) (hcat : (rest.map fun v => v.category).sum ≤ 8) (d : decode cc pc = .ok (.invokevirtual ix, 3)) (hn : pc + 3 = np)
    (kk : ∀ (v : Option Value) (ws2 : va_W) (H1 : Heap) (locs1 : List Loc), Post v ws2 → jM E lo ws2 xs s H1 locs1 → W p l e R s m args below meth c H1 locs1 (cells + mc) (slots + ms) Q (F0 m np ls (v.toList ++ rest))) : W p l e R s m args below meth c H locs cells slots Q (F0 m pc ls st) := by
  subst hn
  subst hst
  exact j_go (va_runU (C := "java/lang/StringBuilder") (owner := x.cls) (x := x) (As := As) (rest := rest) G hc ⟨⟨rfl, rfl, hroom.1, hroom.2, fun w h a' U hW => by rw [List.mem_singleton.mp h]; exact m_rideW G hY.1.1 a' U hW, List.mem_singleton.mpr rfl⟩, G.2.2.2.2 _ hY.1.1, G.2.2.2.2 _ hY.1.2.1, hX.1.2.2.1, hX.1.len, G.2.2.2.2 _ hw, G.2.2.2.2 _ hsame, va_Decl.of (G.2.2.2.2 _ hX.2) (G.2.2.2.2 _ hX.1.1), G.2.2.2.2 _ hsel, G.2.2.2.2 _ hY.2⟩ ⟨jPre.blind, j_recB hJ i hb, fun U hU hW => ⟨rfl, hJ.pre hy hU hW⟩⟩ rfl rfl hls rfl (lv_room hcat) d hcs) hJ kk
end JR4
theorem ljJ4_343 : Cond.methodLink RJ4 343 yJ5_length_8abf5 ∈ mTs := mTs_in 979 (by decide +kernel) (by decide +kernel)
theorem jbJ5_length_8abf5 : mY yJ5_length_8abf5 cJ5_length_8abf5 1 (some .int) 0 := ⟨mTs_in 980 (by decide +kernel) (by decide +kernel), mTs_in 41 (by decide +kernel) (by decide +kernel), ⟨by decide, by decide⟩, by decide +kernel⟩
theorem jiJ5_length_8abf5 : Cond.instanceMethod yJ5_length_8abf5 ∈ mTs := mTs_in 974 (by decide +kernel) (by decide +kernel)
theorem jqJ5_length_8abf5 : mY yJ5_length_8abf5 cJ5_length_8abf5 1 (some .int) 0 ∧ Cond.instanceMethod yJ5_length_8abf5 ∈ mTs := ⟨jbJ5_length_8abf5, jiJ5_length_8abf5⟩
theorem ljJ7_343 : Cond.methodLink RJ7 343 yJ7_checkLength_df160 ∈ mTs := mTs_in 988 (by decide +kernel) (by decide +kernel)
theorem jbJ7_checkLength_df160 : mY yJ7_checkLength_df160 cJ7_checkLength_df160 2 none 2 := ⟨mTs_in 990 (by decide +kernel) (by decide +kernel), mTs_in 47 (by decide +kernel) (by decide +kernel), ⟨by decide, by decide⟩, by decide +kernel⟩
theorem jsJ7_checkLength_df160 : mYS yJ7_checkLength_df160 cJ7_checkLength_df160 2 none 2 := ⟨jbJ7_checkLength_df160, mTs_in 989 (by decide +kernel) (by decide +kernel)⟩
theorem ljJ7_310 : Cond.methodLink RJ7 310 ⟨"[B", "clone", "()Ljava/lang/Object;"⟩ ∈ mTs := mTs_in 849 (by decide +kernel) (by decide +kernel)
theorem ljJ7_311 : Cond.classLink RJ7 311 "[B" ∈ mTs := mTs_in 855 (by decide +kernel) (by decide +kernel)
theorem ljJ7_339 : Cond.methodLink RJ7 339 yJ7_copyOfRangeByte_39247 ∈ mTs := mTs_in 985 (by decide +kernel) (by decide +kernel)
theorem jbJ7_copyOfRangeByte_39247 : mY yJ7_copyOfRangeByte_39247 cJ7_copyOfRangeByte_39247 5 (some (.array .byte)) 3 := ⟨mTs_in 987 (by decide +kernel) (by decide +kernel), mTs_in 47 (by decide +kernel) (by decide +kernel), ⟨by decide, by decide⟩, by decide +kernel⟩
theorem jsJ7_copyOfRangeByte_39247 : mYS yJ7_copyOfRangeByte_39247 cJ7_copyOfRangeByte_39247 5 (some (.array .byte)) 3 := ⟨jbJ7_copyOfRangeByte_39247, mTs_in 986 (by decide +kernel) (by decide +kernel)⟩
theorem ljJ0_oi : Cond.methodLink RJ0 1 Lib.objectInit ∈ mTs := mTs_in 967 (by decide +kernel) (by decide +kernel)
theorem joi_i : Cond.instanceMethod Lib.objectInit ∈ mTs := mTs_in 60 (by decide +kernel) (by decide +kernel)
theorem joi_c : Cond.code Lib.objectInit ⟨#[0xb1]⟩ 1 none ∈ mTs := mTs_in 61 (by decide +kernel) (by decide +kernel)
theorem ljJ0_552 : Cond.methodLink RJ0 552 yJ5_getValue_6d5f1 ∈ mTs := mTs_in 968 (by decide +kernel) (by decide +kernel)
theorem jbJ5_getValue_6d5f1 : mY yJ5_getValue_6d5f1 cJ5_getValue_6d5f1 1 (some (.array .byte)) 0 := ⟨mTs_in 972 (by decide +kernel) (by decide +kernel), mTs_in 41 (by decide +kernel) (by decide +kernel), ⟨by decide, by decide⟩, by decide +kernel⟩
theorem jiJ5_getValue_6d5f1 : Cond.instanceMethod yJ5_getValue_6d5f1 ∈ mTs := mTs_in 969 (by decide +kernel) (by decide +kernel)
theorem jvJ5_getValue_6d5f1 : jYV "java/lang/StringBuilder" yJ5_getValue_6d5f1 cJ5_getValue_6d5f1 1 (some (.array .byte)) 0 := ⟨jbJ5_getValue_6d5f1, jiJ5_getValue_6d5f1, Or.inl (mTs_in 971 (by decide +kernel) (by decide +kernel))⟩
theorem ljJ0_549 : Cond.methodLink RJ0 549 yJ5_length_8abf5 ∈ mTs := mTs_in 973 (by decide +kernel) (by decide +kernel)
theorem jbJ4_length_8abf5 : mY yJ4_length_8abf5 cJ4_length_8abf5 1 (some .int) 0 := ⟨mTs_in 978 (by decide +kernel) (by decide +kernel), mTs_in 42 (by decide +kernel) (by decide +kernel), ⟨by decide, by decide⟩, by decide +kernel⟩
theorem jiJ4_length_8abf5 : Cond.instanceMethod yJ4_length_8abf5 ∈ mTs := mTs_in 977 (by decide +kernel) (by decide +kernel)
theorem jqJ4_length_8abf5 : mY yJ4_length_8abf5 cJ4_length_8abf5 1 (some .int) 0 ∧ Cond.instanceMethod yJ4_length_8abf5 ∈ mTs := ⟨jbJ4_length_8abf5, jiJ4_length_8abf5⟩
theorem jx_same : Cond.sameMethod yJ5_length_8abf5.cls yJ5_length_8abf5.cls yJ5_length_8abf5.name yJ5_length_8abf5.desc ∈ mTs := mTs_in 975 (by decide +kernel) (by decide +kernel)
theorem jx_sel : Cond.selects "java/lang/StringBuilder" yJ5_length_8abf5 yJ4_length_8abf5 ∈ mTs := mTs_in 976 (by decide +kernel) (by decide +kernel)
theorem ljJ0_1047 : Cond.methodLink RJ0 1047 yJ5_isLatin1_aae02 ∈ mTs := mTs_in 981 (by decide +kernel) (by decide +kernel)
theorem ljJ0_15t : Cond.fieldLink RJ0 15 (TJ0 1).1 (TJ0 1).2.1 (TJ0 1).2.2.1 ∈ mTs := mTs_in 1002 (by decide +kernel) (by decide +kernel)
theorem inJ0 : ∀ w ∈ u_ws RJ0 TJ0 4, w ∈ mTs := mTs_ins _ [1003, 1005, 1007, 1009] (by decide +kernel) (by decide +kernel)
theorem jf11_1 : jFld 11 1 RJ0 TJ0 := ⟨rfl, inJ0, by decide⟩
theorem ljJ0_54 : Cond.methodLink RJ0 54 yJ7_copyOfRange_39247 ∈ mTs := mTs_in 982 (by decide +kernel) (by decide +kernel)
theorem jbJ7_copyOfRange_39247 : mY yJ7_copyOfRange_39247 cJ7_copyOfRange_39247 3 (some (.array .byte)) 3 := ⟨mTs_in 984 (by decide +kernel) (by decide +kernel), mTs_in 47 (by decide +kernel) (by decide +kernel), ⟨by decide, by decide⟩, by decide +kernel⟩
theorem jsJ7_copyOfRange_39247 : mYS yJ7_copyOfRange_39247 cJ7_copyOfRange_39247 3 (some (.array .byte)) 3 := ⟨jbJ7_copyOfRange_39247, mTs_in 983 (by decide +kernel) (by decide +kernel)⟩
theorem ljJ0_9t : Cond.fieldLink RJ0 9 (TJ0 0).1 (TJ0 0).2.1 (TJ0 0).2.2.1 ∈ mTs := mTs_in 1001 (by decide +kernel) (by decide +kernel)
theorem jf11_0 : jFld 11 0 RJ0 TJ0 := ⟨rfl, inJ0, by decide⟩
theorem ljJ0_489 : Cond.methodLink RJ0 489 yJ0_init_db425 ∈ mTs := mTs_in 964 (by decide +kernel) (by decide +kernel)
theorem jbJ0_init_db425 : mY yJ0_init_db425 cJ0_init_db425 5 none 2 := ⟨mTs_in 966 (by decide +kernel) (by decide +kernel), mTs_in 43 (by decide +kernel) (by decide +kernel), ⟨by decide, by decide⟩, by decide +kernel⟩
theorem jiJ0_init_db425 : Cond.instanceMethod yJ0_init_db425 ∈ mTs := mTs_in 965 (by decide +kernel) (by decide +kernel)
theorem jqJ0_init_db425 : mY yJ0_init_db425 cJ0_init_db425 5 none 2 ∧ Cond.instanceMethod yJ0_init_db425 ∈ mTs := ⟨jbJ0_init_db425, jiJ0_init_db425⟩
theorem ljJ4_18 : Cond.classLink RJ4 18 RJ0 ∈ mTs := mTs_in 959 (by decide +kernel) (by decide +kernel)
theorem jstI : Cond.instantiable RJ0 4 ∈ mTs := mTs_in 960 (by decide +kernel) (by decide +kernel)
theorem jstN : Cond.initialized RJ0 ∈ mTs := mTs_in 43 (by decide +kernel) (by decide +kernel)
theorem ljJ4_137 : Cond.methodLink RJ4 137 yJ0_init_81219 ∈ mTs := mTs_in 961 (by decide +kernel) (by decide +kernel)
theorem jbJ0_init_81219 : mY yJ0_init_81219 cJ0_init_81219 2 none 1 := ⟨mTs_in 963 (by decide +kernel) (by decide +kernel), mTs_in 43 (by decide +kernel) (by decide +kernel), ⟨by decide, by decide⟩, by decide +kernel⟩
theorem jiJ0_init_81219 : Cond.instanceMethod yJ0_init_81219 ∈ mTs := mTs_in 962 (by decide +kernel) (by decide +kernel)
theorem jqJ0_init_81219 : mY yJ0_init_81219 cJ0_init_81219 2 none 1 ∧ Cond.instanceMethod yJ0_init_81219 ∈ mTs := ⟨jbJ0_init_81219, jiJ0_init_81219⟩
theorem ljJ5_oi : Cond.methodLink RJ5 3 Lib.objectInit ∈ mTs := mTs_in 794 (by decide +kernel) (by decide +kernel)
theorem ljJ4_1 : Cond.methodLink RJ4 1 yJ5_init_d00df ∈ mTs := mTs_in 791 (by decide +kernel) (by decide +kernel)
theorem jbJ5_init_d00df : mY yJ5_init_d00df cJ5_init_d00df 2 none 1 := ⟨mTs_in 793 (by decide +kernel) (by decide +kernel), mTs_in 41 (by decide +kernel) (by decide +kernel), ⟨by decide, by decide⟩, by decide +kernel⟩
theorem jiJ5_init_d00df : Cond.instanceMethod yJ5_init_d00df ∈ mTs := mTs_in 792 (by decide +kernel) (by decide +kernel)
theorem jqJ5_init_d00df : mY yJ5_init_d00df cJ5_init_d00df 2 none 1 ∧ Cond.instanceMethod yJ5_init_d00df ∈ mTs := ⟨jbJ5_init_d00df, jiJ5_init_d00df⟩
theorem dJ5_getValue_6d5f1_0 : decode cJ5_getValue_6d5f1 0 = .ok (.aload_n 0, 1) := by decide +kernel
theorem dJ5_getValue_6d5f1_1 : decode cJ5_getValue_6d5f1 1 = .ok (.getfield 15, 3) := by decide +kernel
theorem dJ5_getValue_6d5f1_4 : decode cJ5_getValue_6d5f1 4 = .ok (.areturn, 1) := by decide +kernel
theorem dJ5_length_8abf5_0 : decode cJ5_length_8abf5 0 = .ok (.aload_n 0, 1) := by decide +kernel
theorem dJ5_length_8abf5_1 : decode cJ5_length_8abf5 1 = .ok (.getfield 79, 3) := by decide +kernel
theorem dJ5_length_8abf5_4 : decode cJ5_length_8abf5 4 = .ok (.ireturn, 1) := by decide +kernel
theorem dJ4_length_8abf5_0 : decode cJ4_length_8abf5 0 = .ok (.aload_n 0, 1) := by decide +kernel
theorem dJ4_length_8abf5_1 : decode cJ4_length_8abf5 1 = .ok (.invokespecial 343, 3) := by decide +kernel
theorem dJ4_length_8abf5_4 : decode cJ4_length_8abf5 4 = .ok (.ireturn, 1) := by decide +kernel
theorem dJ7_checkLength_df160_0 : decode cJ7_checkLength_df160 0 = .ok (.iload_n 1, 1) := by decide +kernel
theorem dJ7_checkLength_df160_1 : decode cJ7_checkLength_df160 1 = .ok (.iload_n 0, 1) := by decide +kernel
theorem dJ7_checkLength_df160_2 : decode cJ7_checkLength_df160 2 = .ok (.if_icmp .ge 35, 3) := by decide +kernel
theorem dJ7_checkLength_df160_5 : decode cJ7_checkLength_df160 5 = .ok (.new 43, 3) := by decide +kernel
theorem dJ7_checkLength_df160_8 : decode cJ7_checkLength_df160 8 = .ok (.dup, 1) := by decide +kernel
theorem dJ7_checkLength_df160_9 : decode cJ7_checkLength_df160 9 = .ok (.new 45, 3) := by decide +kernel
theorem dJ7_checkLength_df160_12 : decode cJ7_checkLength_df160 12 = .ok (.dup, 1) := by decide +kernel
theorem dJ7_checkLength_df160_13 : decode cJ7_checkLength_df160 13 = .ok (.invokespecial 47, 3) := by decide +kernel
theorem dJ7_checkLength_df160_16 : decode cJ7_checkLength_df160 16 = .ok (.iload_n 0, 1) := by decide +kernel
theorem dJ7_checkLength_df160_17 : decode cJ7_checkLength_df160 17 = .ok (.invokevirtual 54, 3) := by decide +kernel
theorem dJ7_checkLength_df160_20 : decode cJ7_checkLength_df160 20 = .ok (.ldc_w 337, 3) := by decide +kernel
theorem dJ7_checkLength_df160_23 : decode cJ7_checkLength_df160 23 = .ok (.invokevirtual 50, 3) := by decide +kernel
theorem dJ7_checkLength_df160_26 : decode cJ7_checkLength_df160 26 = .ok (.iload_n 1, 1) := by decide +kernel
theorem dJ7_checkLength_df160_27 : decode cJ7_checkLength_df160 27 = .ok (.invokevirtual 54, 3) := by decide +kernel
theorem dJ7_checkLength_df160_30 : decode cJ7_checkLength_df160 30 = .ok (.invokevirtual 61, 3) := by decide +kernel
theorem dJ7_checkLength_df160_33 : decode cJ7_checkLength_df160 33 = .ok (.invokespecial 65, 3) := by decide +kernel
theorem dJ7_checkLength_df160_36 : decode cJ7_checkLength_df160 36 = .ok (.athrow, 1) := by decide +kernel
theorem dJ7_checkLength_df160_37 : decode cJ7_checkLength_df160 37 = .ok (.return_, 1) := by decide +kernel
theorem dJ7_copyOfRangeByte_39247_0 : decode cJ7_copyOfRangeByte_39247 0 = .ok (.iload_n 1, 1) := by decide +kernel
theorem dJ7_copyOfRangeByte_39247_1 : decode cJ7_copyOfRangeByte_39247 1 = .ok (.iload_n 2, 1) := by decide +kernel
theorem dJ7_copyOfRangeByte_39247_2 : decode cJ7_copyOfRangeByte_39247 2 = .ok (.invokestatic 343, 3) := by decide +kernel
theorem dJ7_copyOfRangeByte_39247_5 : decode cJ7_copyOfRangeByte_39247 5 = .ok (.iload_n 2, 1) := by decide +kernel
theorem dJ7_copyOfRangeByte_39247_6 : decode cJ7_copyOfRangeByte_39247 6 = .ok (.iload_n 1, 1) := by decide +kernel
theorem dJ7_copyOfRangeByte_39247_7 : decode cJ7_copyOfRangeByte_39247 7 = .ok (.isub, 1) := by decide +kernel
theorem dJ7_copyOfRangeByte_39247_8 : decode cJ7_copyOfRangeByte_39247 8 = .ok (.istore_n 3, 1) := by decide +kernel
theorem dJ7_copyOfRangeByte_39247_9 : decode cJ7_copyOfRangeByte_39247 9 = .ok (.iload_n 3, 1) := by decide +kernel
theorem dJ7_copyOfRangeByte_39247_10 : decode cJ7_copyOfRangeByte_39247 10 = .ok (.newarray .byte, 2) := by decide +kernel
theorem dJ7_copyOfRangeByte_39247_12 : decode cJ7_copyOfRangeByte_39247 12 = .ok (.astore 4, 2) := by decide +kernel
theorem dJ7_copyOfRangeByte_39247_14 : decode cJ7_copyOfRangeByte_39247 14 = .ok (.aload_n 0, 1) := by decide +kernel
theorem dJ7_copyOfRangeByte_39247_15 : decode cJ7_copyOfRangeByte_39247 15 = .ok (.iload_n 1, 1) := by decide +kernel
theorem dJ7_copyOfRangeByte_39247_16 : decode cJ7_copyOfRangeByte_39247 16 = .ok (.aload 4, 2) := by decide +kernel
theorem dJ7_copyOfRangeByte_39247_18 : decode cJ7_copyOfRangeByte_39247 18 = .ok (.iconst 0, 1) := by decide +kernel
theorem dJ7_copyOfRangeByte_39247_19 : decode cJ7_copyOfRangeByte_39247 19 = .ok (.aload_n 0, 1) := by decide +kernel
theorem dJ7_copyOfRangeByte_39247_20 : decode cJ7_copyOfRangeByte_39247 20 = .ok (.arraylength, 1) := by decide +kernel
theorem dJ7_copyOfRangeByte_39247_21 : decode cJ7_copyOfRangeByte_39247 21 = .ok (.iload_n 1, 1) := by decide +kernel
theorem dJ7_copyOfRangeByte_39247_22 : decode cJ7_copyOfRangeByte_39247 22 = .ok (.isub, 1) := by decide +kernel
theorem dJ7_copyOfRangeByte_39247_23 : decode cJ7_copyOfRangeByte_39247 23 = .ok (.iload_n 3, 1) := by decide +kernel
theorem dJ7_copyOfRangeByte_39247_24 : decode cJ7_copyOfRangeByte_39247 24 = .ok (.invokestatic 304, 3) := by decide +kernel
theorem dJ7_copyOfRangeByte_39247_27 : decode cJ7_copyOfRangeByte_39247 27 = .ok (.invokestatic 150, 3) := by decide +kernel
theorem dJ7_copyOfRangeByte_39247_30 : decode cJ7_copyOfRangeByte_39247 30 = .ok (.aload 4, 2) := by decide +kernel
theorem dJ7_copyOfRangeByte_39247_32 : decode cJ7_copyOfRangeByte_39247 32 = .ok (.areturn, 1) := by decide +kernel
theorem dJ7_copyOfRange_39247_0 : decode cJ7_copyOfRange_39247 0 = .ok (.iload_n 1, 1) := by decide +kernel
theorem dJ7_copyOfRange_39247_1 : decode cJ7_copyOfRange_39247 1 = .ok (.ifCond .ne 9, 3) := by decide +kernel
theorem dJ7_copyOfRange_39247_4 : decode cJ7_copyOfRange_39247 4 = .ok (.iload_n 2, 1) := by decide +kernel
theorem dJ7_copyOfRange_39247_5 : decode cJ7_copyOfRange_39247 5 = .ok (.aload_n 0, 1) := by decide +kernel
theorem dJ7_copyOfRange_39247_6 : decode cJ7_copyOfRange_39247 6 = .ok (.arraylength, 1) := by decide +kernel
theorem dJ7_copyOfRange_39247_7 : decode cJ7_copyOfRange_39247 7 = .ok (.if_icmp .eq 10, 3) := by decide +kernel
theorem dJ7_copyOfRange_39247_10 : decode cJ7_copyOfRange_39247 10 = .ok (.aload_n 0, 1) := by decide +kernel
theorem dJ7_copyOfRange_39247_11 : decode cJ7_copyOfRange_39247 11 = .ok (.iload_n 1, 1) := by decide +kernel
theorem dJ7_copyOfRange_39247_12 : decode cJ7_copyOfRange_39247 12 = .ok (.iload_n 2, 1) := by decide +kernel
theorem dJ7_copyOfRange_39247_13 : decode cJ7_copyOfRange_39247 13 = .ok (.invokestatic 339, 3) := by decide +kernel
theorem dJ7_copyOfRange_39247_16 : decode cJ7_copyOfRange_39247 16 = .ok (.areturn, 1) := by decide +kernel
theorem dJ7_copyOfRange_39247_17 : decode cJ7_copyOfRange_39247 17 = .ok (.aload_n 0, 1) := by decide +kernel
theorem dJ7_copyOfRange_39247_18 : decode cJ7_copyOfRange_39247 18 = .ok (.invokevirtual 310, 3) := by decide +kernel
theorem dJ7_copyOfRange_39247_21 : decode cJ7_copyOfRange_39247 21 = .ok (.checkcast 311, 3) := by decide +kernel
theorem dJ7_copyOfRange_39247_24 : decode cJ7_copyOfRange_39247 24 = .ok (.areturn, 1) := by decide +kernel
theorem dJ0_init_db425_0 : decode cJ0_init_db425 0 = .ok (.aload_n 0, 1) := by decide +kernel
theorem dJ0_init_db425_1 : decode cJ0_init_db425 1 = .ok (.invokespecial 1, 3) := by decide +kernel
theorem dJ0_init_db425_4 : decode cJ0_init_db425 4 = .ok (.aload_n 1, 1) := by decide +kernel
theorem dJ0_init_db425_5 : decode cJ0_init_db425 5 = .ok (.invokevirtual 552, 3) := by decide +kernel
theorem dJ0_init_db425_8 : decode cJ0_init_db425 8 = .ok (.astore_n 3, 1) := by decide +kernel
theorem dJ0_init_db425_9 : decode cJ0_init_db425 9 = .ok (.aload_n 1, 1) := by decide +kernel
theorem dJ0_init_db425_10 : decode cJ0_init_db425 10 = .ok (.invokevirtual 549, 3) := by decide +kernel
theorem dJ0_init_db425_13 : decode cJ0_init_db425 13 = .ok (.istore 4, 2) := by decide +kernel
theorem dJ0_init_db425_15 : decode cJ0_init_db425 15 = .ok (.aload_n 1, 1) := by decide +kernel
theorem dJ0_init_db425_16 : decode cJ0_init_db425 16 = .ok (.invokevirtual 1047, 3) := by decide +kernel
theorem dJ0_init_db425_19 : decode cJ0_init_db425 19 = .ok (.ifCond .eq 22, 3) := by decide +kernel
theorem dJ0_init_db425_22 : decode cJ0_init_db425 22 = .ok (.aload_n 0, 1) := by decide +kernel
theorem dJ0_init_db425_23 : decode cJ0_init_db425 23 = .ok (.iconst 0, 1) := by decide +kernel
theorem dJ0_init_db425_24 : decode cJ0_init_db425 24 = .ok (.putfield 15, 3) := by decide +kernel
theorem dJ0_init_db425_27 : decode cJ0_init_db425 27 = .ok (.aload_n 0, 1) := by decide +kernel
theorem dJ0_init_db425_28 : decode cJ0_init_db425 28 = .ok (.aload_n 3, 1) := by decide +kernel
theorem dJ0_init_db425_29 : decode cJ0_init_db425 29 = .ok (.iconst 0, 1) := by decide +kernel
theorem dJ0_init_db425_30 : decode cJ0_init_db425 30 = .ok (.iload 4, 2) := by decide +kernel
theorem dJ0_init_db425_32 : decode cJ0_init_db425 32 = .ok (.invokestatic 54, 3) := by decide +kernel
theorem dJ0_init_db425_35 : decode cJ0_init_db425 35 = .ok (.putfield 9, 3) := by decide +kernel
theorem dJ0_init_db425_38 : decode cJ0_init_db425 38 = .ok (.goto 59, 3) := by decide +kernel
theorem dJ0_init_db425_41 : decode cJ0_init_db425 41 = .ok (.getstatic 38, 3) := by decide +kernel
theorem dJ0_init_db425_44 : decode cJ0_init_db425 44 = .ok (.ifCond .eq 35, 3) := by decide +kernel
theorem dJ0_init_db425_47 : decode cJ0_init_db425 47 = .ok (.aload_n 1, 1) := by decide +kernel
theorem dJ0_init_db425_48 : decode cJ0_init_db425 48 = .ok (.getfield 1048, 3) := by decide +kernel
theorem dJ0_init_db425_51 : decode cJ0_init_db425 51 = .ok (.ifCond .eq 28, 3) := by decide +kernel
theorem dJ0_init_db425_54 : decode cJ0_init_db425 54 = .ok (.aload_n 0, 1) := by decide +kernel
theorem dJ0_init_db425_55 : decode cJ0_init_db425 55 = .ok (.aload_n 3, 1) := by decide +kernel
theorem dJ0_init_db425_56 : decode cJ0_init_db425 56 = .ok (.iconst 0, 1) := by decide +kernel
theorem dJ0_init_db425_57 : decode cJ0_init_db425 57 = .ok (.iload 4, 2) := by decide +kernel
theorem dJ0_init_db425_59 : decode cJ0_init_db425 59 = .ok (.invokestatic 1051, 3) := by decide +kernel
theorem dJ0_init_db425_62 : decode cJ0_init_db425 62 = .ok (.putfield 9, 3) := by decide +kernel
theorem dJ0_init_db425_65 : decode cJ0_init_db425 65 = .ok (.aload_n 0, 1) := by decide +kernel
theorem dJ0_init_db425_66 : decode cJ0_init_db425 66 = .ok (.aload_n 0, 1) := by decide +kernel
theorem dJ0_init_db425_67 : decode cJ0_init_db425 67 = .ok (.getfield 9, 3) := by decide +kernel
theorem dJ0_init_db425_70 : decode cJ0_init_db425 70 = .ok (.iload 4, 2) := by decide +kernel
theorem dJ0_init_db425_72 : decode cJ0_init_db425 72 = .ok (.invokestatic 47, 3) := by decide +kernel
theorem dJ0_init_db425_75 : decode cJ0_init_db425 75 = .ok (.putfield 15, 3) := by decide +kernel
theorem dJ0_init_db425_78 : decode cJ0_init_db425 78 = .ok (.return_, 1) := by decide +kernel
theorem dJ0_init_db425_79 : decode cJ0_init_db425 79 = .ok (.aload_n 0, 1) := by decide +kernel
theorem dJ0_init_db425_80 : decode cJ0_init_db425 80 = .ok (.iconst 1, 1) := by decide +kernel
theorem dJ0_init_db425_81 : decode cJ0_init_db425 81 = .ok (.putfield 15, 3) := by decide +kernel
theorem dJ0_init_db425_84 : decode cJ0_init_db425 84 = .ok (.aload_n 0, 1) := by decide +kernel
theorem dJ0_init_db425_85 : decode cJ0_init_db425 85 = .ok (.aload_n 3, 1) := by decide +kernel
theorem dJ0_init_db425_86 : decode cJ0_init_db425 86 = .ok (.iconst 0, 1) := by decide +kernel
theorem dJ0_init_db425_87 : decode cJ0_init_db425 87 = .ok (.iload 4, 2) := by decide +kernel
theorem dJ0_init_db425_89 : decode cJ0_init_db425 89 = .ok (.iconst 1, 1) := by decide +kernel
theorem dJ0_init_db425_90 : decode cJ0_init_db425 90 = .ok (.ishl, 1) := by decide +kernel
theorem dJ0_init_db425_91 : decode cJ0_init_db425 91 = .ok (.invokestatic 54, 3) := by decide +kernel
theorem dJ0_init_db425_94 : decode cJ0_init_db425 94 = .ok (.putfield 9, 3) := by decide +kernel
theorem dJ0_init_db425_97 : decode cJ0_init_db425 97 = .ok (.return_, 1) := by decide +kernel
theorem dJ0_init_81219_0 : decode cJ0_init_81219 0 = .ok (.aload_n 0, 1) := by decide +kernel
theorem dJ0_init_81219_1 : decode cJ0_init_81219 1 = .ok (.aload_n 1, 1) := by decide +kernel
theorem dJ0_init_81219_2 : decode cJ0_init_81219 2 = .ok (.aconst_null, 1) := by decide +kernel
theorem dJ0_init_81219_3 : decode cJ0_init_81219 3 = .ok (.invokespecial 489, 3) := by decide +kernel
theorem dJ0_init_81219_6 : decode cJ0_init_81219 6 = .ok (.return_, 1) := by decide +kernel
theorem dJ4_toString_0e30d_0 : decode cJ4_toString_0e30d 0 = .ok (.new 18, 3) := by decide +kernel
theorem dJ4_toString_0e30d_3 : decode cJ4_toString_0e30d 3 = .ok (.dup, 1) := by decide +kernel
theorem dJ4_toString_0e30d_4 : decode cJ4_toString_0e30d 4 = .ok (.aload_n 0, 1) := by decide +kernel
theorem dJ4_toString_0e30d_5 : decode cJ4_toString_0e30d 5 = .ok (.invokespecial 137, 3) := by decide +kernel
theorem dJ4_toString_0e30d_8 : decode cJ4_toString_0e30d 8 = .ok (.areturn, 1) := by decide +kernel
theorem dJ5_init_d00df_0 : decode cJ5_init_d00df 0 = .ok (.aload_n 0, 1) := by decide +kernel
theorem dJ5_init_d00df_1 : decode cJ5_init_d00df 1 = .ok (.invokespecial 3, 3) := by decide +kernel
theorem dJ5_init_d00df_4 : decode cJ5_init_d00df 4 = .ok (.getstatic 18, 3) := by decide +kernel
theorem dJ5_init_d00df_7 : decode cJ5_init_d00df 7 = .ok (.ifCond .eq 18, 3) := by decide +kernel
theorem dJ5_init_d00df_10 : decode cJ5_init_d00df 10 = .ok (.aload_n 0, 1) := by decide +kernel
theorem dJ5_init_d00df_11 : decode cJ5_init_d00df 11 = .ok (.iload_n 1, 1) := by decide +kernel
theorem dJ5_init_d00df_12 : decode cJ5_init_d00df 12 = .ok (.newarray .byte, 2) := by decide +kernel
theorem dJ5_init_d00df_14 : decode cJ5_init_d00df 14 = .ok (.putfield 15, 3) := by decide +kernel
theorem dJ5_init_d00df_17 : decode cJ5_init_d00df 17 = .ok (.aload_n 0, 1) := by decide +kernel
theorem dJ5_init_d00df_18 : decode cJ5_init_d00df 18 = .ok (.iconst 0, 1) := by decide +kernel
theorem dJ5_init_d00df_19 : decode cJ5_init_d00df 19 = .ok (.putfield 22, 3) := by decide +kernel
theorem dJ5_init_d00df_22 : decode cJ5_init_d00df 22 = .ok (.goto 16, 3) := by decide +kernel
theorem dJ5_init_d00df_25 : decode cJ5_init_d00df 25 = .ok (.aload_n 0, 1) := by decide +kernel
theorem dJ5_init_d00df_26 : decode cJ5_init_d00df 26 = .ok (.iload_n 1, 1) := by decide +kernel
theorem dJ5_init_d00df_27 : decode cJ5_init_d00df 27 = .ok (.invokestatic 26, 3) := by decide +kernel
theorem dJ5_init_d00df_30 : decode cJ5_init_d00df 30 = .ok (.putfield 15, 3) := by decide +kernel
theorem dJ5_init_d00df_33 : decode cJ5_init_d00df 33 = .ok (.aload_n 0, 1) := by decide +kernel
theorem dJ5_init_d00df_34 : decode cJ5_init_d00df 34 = .ok (.iconst 1, 1) := by decide +kernel
theorem dJ5_init_d00df_35 : decode cJ5_init_d00df 35 = .ok (.putfield 22, 3) := by decide +kernel
theorem dJ5_init_d00df_38 : decode cJ5_init_d00df 38 = .ok (.return_, 1) := by decide +kernel
theorem dJ4_init_da8c8_0 : decode cJ4_init_da8c8 0 = .ok (.aload_n 0, 1) := by decide +kernel
theorem dJ4_init_da8c8_1 : decode cJ4_init_da8c8 1 = .ok (.bipush 16, 2) := by decide +kernel
theorem dJ4_init_da8c8_3 : decode cJ4_init_da8c8 3 = .ok (.invokespecial 1, 3) := by decide +kernel
theorem dJ4_init_da8c8_6 : decode cJ4_init_da8c8 6 = .ok (.return_, 1) := by decide +kernel
set_option maxRecDepth 100000 in
set_option maxHeartbeats 1000000 in
theorem q3lat (l : Launch) (E : mE) (lo : Nat) (b d k t : Nat) (n : Int) (f : Nat → Int32) (et : va_E) : jMet l yJ5_isLatin1_aae02 cJ5_isLatin1_aae02 1 (some .boolean) 0 12 0 0 E lo [.ref b] [(b, .inr (12, [.ref d, vI 0, vI 0, vI n])), (d, .inl (eT E 2, k, .inl f)), (t, et)] [] (fun v w => v = some (vI 1) ∧ w = [(b, .inr (12, [.ref d, vI 0, vI 0, vI n])), (d, .inl (eT E 2, k, .inl f)), (t, et)]) := by
  refine j_entry (by decide +kernel) (Nat.le_of_ble_eq_true rfl) (fun p e s m args below meth c G hr hk hin hJ ls hl => ?_)
  have G : CallFix p m c cJ5_isLatin1_aae02 1 s args mTs RJ5 := G
  have hl : lv_has ls 1 [(0, .ref b)] := hl
  refine j_gets1 (np := 3) G hJ ljJ5_18 dJ5_isLatin1_aae02_0 rfl ?_
  refine r_if_eq (np := 6) (tgt := 17) G (wI_eq (by omega) (by omega)) dJ5_isLatin1_aae02_3 (by decide) rfl (fun hc => False.elim (absurd hc (by decide))) (fun hc => ?_)
  refine r_aload_n (np := 7) G hl 0 rfl dJ5_isLatin1_aae02_6 rfl rfl ?_
  refine j_get (np := 10) G hJ 0 rfl jf12_1 rfl ljJ5_22t dJ5_isLatin1_aae02_7 rfl ?_
  refine r_if_ne (np := 13) (tgt := 17) G (wI_eq (by omega) (by omega)) dJ5_isLatin1_aae02_10 (by decide) rfl (fun hc => False.elim (absurd rfl hc)) (fun hc => ?_)
  refine r_iconst (np := 14) G (1) dJ5_isLatin1_aae02_13 rfl ?_
  refine r_goto (np := 18) G dJ5_isLatin1_aae02_14 (by decide) ?_
  exact j_zret G hr hk hJ (by decide) (⟨rfl, rfl⟩) (Nat.le_of_ble_eq_true rfl) (Nat.le_of_ble_eq_true rfl) dJ5_isLatin1_aae02_18
set_option maxRecDepth 100000 in
set_option maxHeartbeats 1000000 in
theorem q3val (l : Launch) (E : mE) (lo : Nat) (b d k t : Nat) (n : Int) (f : Nat → Int32) (et : va_E) : jMet l yJ5_getValue_6d5f1 cJ5_getValue_6d5f1 1 (some (.array .byte)) 0 12 0 0 E lo [.ref b] [(b, .inr (12, [.ref d, vI 0, vI 0, vI n])), (d, .inl (eT E 2, k, .inl f)), (t, et)] [] (fun v w => v = some (.ref d) ∧ w = [(b, .inr (12, [.ref d, vI 0, vI 0, vI n])), (d, .inl (eT E 2, k, .inl f)), (t, et)]) := by
  refine j_entry (by decide +kernel) (Nat.le_of_ble_eq_true rfl) (fun p e s m args below meth c G hr hk hin hJ ls hl => ?_)
  have G : CallFix p m c cJ5_getValue_6d5f1 1 s args mTs RJ5 := G
  have hl : lv_has ls 1 [(0, .ref b)] := hl
  refine r_aload_n (np := 1) G hl 0 rfl dJ5_getValue_6d5f1_0 rfl rfl ?_
  refine j_get (np := 4) G hJ 0 rfl jf12_0 rfl ljJ5_15t dJ5_getValue_6d5f1_1 rfl ?_
  exact j_aret G hr (Or.inr ⟨_, rfl⟩) hk hJ (⟨rfl, rfl⟩) (Nat.le_of_ble_eq_true rfl) (Nat.le_of_ble_eq_true rfl) dJ5_getValue_6d5f1_4
set_option maxRecDepth 100000 in
set_option maxHeartbeats 1000000 in
theorem q3lenA (l : Launch) (E : mE) (lo : Nat) (b d k t : Nat) (n : Int) (f : Nat → Int32) (et : va_E) : jMet l yJ5_length_8abf5 cJ5_length_8abf5 1 (some .int) 0 12 0 0 E lo [.ref b] [(b, .inr (12, [.ref d, vI 0, vI 0, vI n])), (d, .inl (eT E 2, k, .inl f)), (t, et)] [] (fun v w => v = some (vI n) ∧ w = [(b, .inr (12, [.ref d, vI 0, vI 0, vI n])), (d, .inl (eT E 2, k, .inl f)), (t, et)]) := by
  refine j_entry (by decide +kernel) (Nat.le_of_ble_eq_true rfl) (fun p e s m args below meth c G hr hk hin hJ ls hl => ?_)
  have G : CallFix p m c cJ5_length_8abf5 1 s args mTs RJ5 := G
  have hl : lv_has ls 1 [(0, .ref b)] := hl
  refine r_aload_n (np := 1) G hl 0 rfl dJ5_length_8abf5_0 rfl rfl ?_
  refine j_get (np := 4) G hJ 0 rfl jf12_3 rfl ljJ5_79t dJ5_length_8abf5_1 rfl ?_
  exact j_iret G hr hk hJ (⟨rfl, rfl⟩) (Nat.le_of_ble_eq_true rfl) (Nat.le_of_ble_eq_true rfl) dJ5_length_8abf5_4
set_option maxRecDepth 100000 in
set_option maxHeartbeats 1000000 in
theorem q3len (l : Launch) (E : mE) (lo : Nat) (b d k t : Nat) (n : Int) (f : Nat → Int32) (et : va_E) : jMet l yJ4_length_8abf5 cJ4_length_8abf5 1 (some .int) 1 32 0 0 E lo [.ref b] [(b, .inr (12, [.ref d, vI 0, vI 0, vI n])), (d, .inl (eT E 2, k, .inl f)), (t, et)] [] (fun v w => v = some (vI n) ∧ w = [(b, .inr (12, [.ref d, vI 0, vI 0, vI n])), (d, .inl (eT E 2, k, .inl f)), (t, et)]) := by
  refine j_entry (by decide +kernel) (Nat.le_of_ble_eq_true rfl) (fun p e s m args below meth c G hr hk hin hJ ls hl => ?_)
  have G : CallFix p m c cJ4_length_8abf5 1 s args mTs RJ4 := G
  have hl : lv_has ls 1 [(0, .ref b)] := hl
  refine r_aload_n (np := 1) G hl 0 rfl dJ4_length_8abf5_0 rfl rfl ?_
  refine j_callU (np := 4) G hJ hl.1 0 rfl [] (q3lenA l E lo b d k t n f et) (fun _ h => h) jqJ5_length_8abf5 rfl rfl (by decide) ljJ4_343 ⟨(Nat.le_of_ble_eq_true rfl), (Nat.le_of_ble_eq_true rfl)⟩ ⟨(Nat.le_of_ble_eq_true rfl), (Nat.le_of_ble_eq_true rfl)⟩ [] rfl (Nat.le_of_ble_eq_true rfl) dJ4_length_8abf5_1 rfl (fun v w2 H locs hp hJ => ?_)
  obtain ⟨rfl, rfl⟩ := hp
  exact j_iret G hr hk hJ (⟨rfl, rfl⟩) (Nat.le_of_ble_eq_true rfl) (Nat.le_of_ble_eq_true rfl) dJ4_length_8abf5_4
set_option maxRecDepth 100000 in
set_option maxHeartbeats 1000000 in
theorem qJ7_checkLength_df160 (l : Launch) (E : mE) (lo : Nat) (ws : va_W) (q : Int) (hq : 0 ≤ q ∧ q ≤ 1000) : jMet l yJ7_checkLength_df160 cJ7_checkLength_df160 2 none 0 12 0 0 E lo [vI (0), vI (q)] ws [] (fun v w => v = none ∧ w = ws) := by
  refine j_entry (by decide +kernel) (Nat.le_of_ble_eq_true rfl) (fun p e s m args below meth c G hr hk hin hJ ls hl => ?_)
  have G : CallFix p m c cJ7_checkLength_df160 2 s args mTs RJ7 := G
  have hl : lv_has ls 2 [(0, vI (0)), (1, vI (q))] := hl
  refine r_iload_n (np := 1) G hl 1 rfl dJ7_checkLength_df160_0 rfl rfl ?_
  refine r_iload_n (np := 2) G hl 0 rfl dJ7_checkLength_df160_1 rfl rfl ?_
  refine r_icmp_ge (np := 5) (tgt := 37) G (wI_eq (by omega) (by omega)) (wI_eq (by omega) (by omega)) dJ7_checkLength_df160_2 (by decide) rfl (fun hc => ?_) (fun hc => False.elim (by omega))
  exact j_vret G hr hk hJ (⟨rfl, rfl⟩) (Nat.le_of_ble_eq_true rfl) (Nat.le_of_ble_eq_true rfl) dJ7_checkLength_df160_37
set_option maxRecDepth 100000 in
set_option maxHeartbeats 1000000 in
theorem qJ7_copyOfRangeByte_39247 (l : Launch) (E : mE) (lo : Nat) (b d k t : Nat) (n : Int) (q : Nat) (f : Nat → Int32) (et : va_E) (hq : q ≤ k) (hcap : k ≤ 700) (hf : sb_Fit f) : jMet l yJ7_copyOfRangeByte_39247 cJ7_copyOfRangeByte_39247 5 (some (.array .byte)) 1 60 1 1000 E lo [.ref d, vI (0), vI ((q : Int))] [(b, .inr (12, [.ref d, vI 0, vI 0, vI n])), (d, .inl (eT E 2, k, .inl f)), (t, et)] [] (fun v w => ∃ v0 g, v = some (.ref v0) ∧ w = [(b, .inr (12, [.ref d, vI 0, vI 0, vI n])), (d, .inl (eT E 2, k, .inl f)), (t, et), (v0, .inl (eT E 2, q, .inl g))] ∧ ∀ j, j < q → g j = f j) := by
  refine j_entry (by decide +kernel) (Nat.le_of_ble_eq_true rfl) (fun p e s m args below meth c G hr hk hin hJ ls hl => ?_)
  have G : CallFix p m c cJ7_copyOfRangeByte_39247 5 s args mTs RJ7 := G
  have hl : lv_has ls 5 [(0, .ref d), (1, vI (0)), (2, vI ((q : Int)))] := hl
  refine r_iload_n (np := 1) G hl 1 rfl dJ7_copyOfRangeByte_39247_0 rfl rfl ?_
  refine r_iload_n (np := 2) G hl 2 rfl dJ7_copyOfRangeByte_39247_1 rfl rfl ?_
  refine j_callS (np := 5) G hJ hl.1 [vI (0), vI ((q : Int))] (qJ7_checkLength_df160 l E lo _ (q : Int) (by omega)) (fun _ h => h) jsJ7_checkLength_df160 ljJ7_343 ⟨(Nat.le_of_ble_eq_true rfl), (Nat.le_of_ble_eq_true rfl)⟩ ⟨(Nat.le_of_ble_eq_true rfl), (Nat.le_of_ble_eq_true rfl)⟩ [] rfl (Nat.le_of_ble_eq_true rfl) dJ7_copyOfRangeByte_39247_2 rfl (fun v w2 H locs hp hJ => ?_)
  obtain ⟨rfl, rfl⟩ := hp
  refine r_iload_n (np := 6) G hl 2 rfl dJ7_copyOfRangeByte_39247_5 rfl rfl ?_
  refine r_iload_n (np := 7) G hl 1 rfl dJ7_copyOfRangeByte_39247_6 rfl rfl ?_
  refine r_isub (np := 8) G dJ7_copyOfRangeByte_39247_7 rfl ?_
  refine r_istore_n (np := 9) G hl (by omega) [(3, vI ((q : Int))), (0, .ref d), (1, vI (0)), (2, vI ((q : Int)))] dJ7_copyOfRangeByte_39247_8 rfl rfl (by decide) rfl (fun ls hl => ?_)
  refine r_iload_n (np := 10) G hl 0 rfl dJ7_copyOfRangeByte_39247_9 rfl rfl ?_
  refine j_newB (np := 12) G hJ (n := q) rfl (by omega) (Nat.le_of_ble_eq_true rfl) (by show 0 + q ≤ 1000; omega) dJ7_copyOfRangeByte_39247_10 rfl (fun v0 H hJ => ?_)
  refine r_astore (np := 14) G hl (rfl) [(4, .ref v0), (3, vI ((q : Int))), (0, .ref d), (1, vI (0)), (2, vI ((q : Int)))] dJ7_copyOfRangeByte_39247_12 rfl (by decide) rfl (fun ls hl => ?_)
  refine r_aload_n (np := 15) G hl 2 rfl dJ7_copyOfRangeByte_39247_14 rfl rfl ?_
  refine r_iload_n (np := 16) G hl 3 rfl dJ7_copyOfRangeByte_39247_15 rfl rfl ?_
  refine r_aload (np := 18) G hl 0 rfl dJ7_copyOfRangeByte_39247_16 rfl ?_
  refine r_iconst (np := 19) G (0) dJ7_copyOfRangeByte_39247_18 rfl ?_
  refine r_aload_n (np := 20) G hl 2 rfl dJ7_copyOfRangeByte_39247_19 rfl rfl ?_
  refine j_alen (np := 21) G hJ 1 rfl dJ7_copyOfRangeByte_39247_20 rfl ?_
  refine r_iload_n (np := 22) G hl 3 rfl dJ7_copyOfRangeByte_39247_21 rfl rfl ?_
  refine r_isub (np := 23) G dJ7_copyOfRangeByte_39247_22 rfl ?_
  refine r_iload_n (np := 24) G hl 1 rfl dJ7_copyOfRangeByte_39247_23 rfl rfl ?_
  refine j_callS (np := 27) G hJ hl.1 [vI (((k : Int)) - (0)), vI ((q : Int))] (jqmin l E lo _ ((k : Int) - 0) (q : Int) (by omega) (by omega)) (fun _ h => h) jsJ9_min_7cf53 ljJ7_304 ⟨(Nat.le_of_ble_eq_true rfl), (Nat.le_of_ble_eq_true rfl)⟩ ⟨(Nat.le_of_ble_eq_true rfl), (by show _ ≤ 1000; omega)⟩ [vI (0), .ref v0, vI (0), .ref d] rfl (Nat.le_of_ble_eq_true rfl) dJ7_copyOfRangeByte_39247_24 rfl (fun v w2 H locs hp hJ => ?_)
  obtain ⟨rfl, rfl⟩ := hp
  rw [show (if (q : Int) < (k : Int) - 0 then (q : Int) else (k : Int) - 0 : Int) = (q : Int) from by split <;> omega]
  refine j_copy (np := 30) G hJ hl.1 1 3 (a0 := d) (a1 := v0) (n0 := k) (n1 := q) (sp := 0) (dp := 0) (n := q) rfl rfl (by omega) (by omega) (by omega) hf rfl rfl rfl ljJ7_150 (Nat.le_of_ble_eq_true rfl) (Nat.le_of_ble_eq_true rfl) dJ7_copyOfRangeByte_39247_27 rfl (fun H locs hJ => ?_)
  refine r_aload (np := 32) G hl 0 rfl dJ7_copyOfRangeByte_39247_30 rfl ?_
  exact j_aret G hr (Or.inr ⟨_, rfl⟩) hk hJ (⟨v0, _, rfl, rfl, fun j hj => sb_cpy0 hj⟩) (Nat.le_of_ble_eq_true rfl) (by show _ ≤ 1000; omega) dJ7_copyOfRangeByte_39247_32
set_option maxRecDepth 100000 in
set_option maxHeartbeats 1000000 in
theorem qJ7_copyOfRange_39247 (l : Launch) (E : mE) (lo : Nat) (b d k t : Nat) (n : Int) (q : Nat) (f : Nat → Int32) (et : va_E) (hq : q ≤ k) (hcap : k ≤ 700) (hf : sb_Fit f) : jMet l yJ7_copyOfRange_39247 cJ7_copyOfRange_39247 3 (some (.array .byte)) 2 84 1 1000 E lo [.ref d, vI (0), vI ((q : Int))] [(b, .inr (12, [.ref d, vI 0, vI 0, vI n])), (d, .inl (eT E 2, k, .inl f)), (t, et)] [] (fun v w => ∃ v0 g, v = some (.ref v0) ∧ w = [(b, .inr (12, [.ref d, vI 0, vI 0, vI n])), (d, .inl (eT E 2, k, .inl f)), (t, et), (v0, .inl (eT E 2, q, .inl g))] ∧ ∀ j, j < q → g j = f j) := by
  refine j_entry (by decide +kernel) (Nat.le_of_ble_eq_true rfl) (fun p e s m args below meth c G hr hk hin hJ ls hl => ?_)
  have G : CallFix p m c cJ7_copyOfRange_39247 3 s args mTs RJ7 := G
  have hl : lv_has ls 3 [(0, .ref d), (1, vI (0)), (2, vI ((q : Int)))] := hl
  refine r_iload_n (np := 1) G hl 1 rfl dJ7_copyOfRange_39247_0 rfl rfl ?_
  refine r_if_ne (np := 4) (tgt := 10) G (wI_eq (by omega) (by omega)) dJ7_copyOfRange_39247_1 (by decide) rfl (fun hc => False.elim (absurd rfl hc)) (fun hc => ?_)
  refine r_iload_n (np := 5) G hl 2 rfl dJ7_copyOfRange_39247_4 rfl rfl ?_
  refine r_aload_n (np := 6) G hl 0 rfl dJ7_copyOfRange_39247_5 rfl rfl ?_
  refine j_alen (np := 7) G hJ 1 rfl dJ7_copyOfRange_39247_6 rfl ?_
  refine r_icmp_eq (np := 10) (tgt := 17) G (wI_eq (by omega) (by omega)) (wI_eq (by omega) (by omega)) dJ7_copyOfRange_39247_7 (by decide) rfl (fun hc => ?_) (fun hc => ?_)
  ·
    refine r_aload_n (np := 18) G hl 0 rfl dJ7_copyOfRange_39247_17 rfl rfl ?_
    have hqk : k = q := by omega
    subst hqk
    refine j_clone (np := 21) G hJ hl.1 1 (a0 := d) (n0 := k) rfl hf ljJ7_310 (Nat.le_of_ble_eq_true rfl) (Nat.le_of_ble_eq_true rfl) (Nat.le_of_ble_eq_true rfl) (by show 0 + k ≤ 1000; omega) dJ7_copyOfRange_39247_18 rfl (fun v0 H hJ => ?_)
    refine va_castA G.1 G.2.1 G.2.2.2.1 (G.2.2.2.2 _ ljJ7_311) hJ.2.2.2.1 3 rfl (hJ.2.1.2 2 _ (show (mTys E)[2]? = some (eT E 2, .byte) from rfl)).2 dJ7_copyOfRange_39247_21 ?_
    exact j_aret G hr (Or.inr ⟨_, rfl⟩) hk hJ (⟨v0, f, rfl, rfl, fun _ _ => rfl⟩) (Nat.le_of_ble_eq_true rfl) (by show _ ≤ 1000; omega) dJ7_copyOfRange_39247_24
  ·
    refine r_aload_n (np := 11) G hl 0 rfl dJ7_copyOfRange_39247_10 rfl rfl ?_
    refine r_iload_n (np := 12) G hl 1 rfl dJ7_copyOfRange_39247_11 rfl rfl ?_
    refine r_iload_n (np := 13) G hl 2 rfl dJ7_copyOfRange_39247_12 rfl rfl ?_
    refine j_callS (np := 16) G hJ hl.1 [.ref d, vI (0), vI ((q : Int))] (qJ7_copyOfRangeByte_39247 l E lo b d k t n q f et hq hcap hf) (fun _ h => h) jsJ7_copyOfRangeByte_39247 ljJ7_339 ⟨(Nat.le_of_ble_eq_true rfl), (Nat.le_of_ble_eq_true rfl)⟩ ⟨(Nat.le_of_ble_eq_true rfl), (Nat.le_of_ble_eq_true rfl)⟩ [] rfl (Nat.le_of_ble_eq_true rfl) dJ7_copyOfRange_39247_13 rfl (fun v w2 H locs hp hJ => ?_)
    obtain ⟨v0, g, rfl, rfl, hg⟩ := hp
    exact j_aret G hr (Or.inr ⟨_, rfl⟩) hk hJ (⟨v0, g, rfl, rfl, hg⟩) (Nat.le_of_ble_eq_true rfl) (Nat.le_of_ble_eq_true rfl) dJ7_copyOfRange_39247_16
set_option maxRecDepth 100000 in
set_option maxHeartbeats 1000000 in
theorem qJ0_init_db425 (l : Launch) (E : mE) (lo : Nat) (b d k t q : Nat) (f : Nat → Int32) (hq : q ≤ k) (hcap : k ≤ 700) (hf : sb_Fit f) : jMet l yJ0_init_db425 cJ0_init_db425 5 none 3 106 1 1000 E lo [.ref t, .ref b, .null] [(b, .inr (12, [.ref d, vI 0, vI 0, vI (q : Int)])), (d, .inl (eT E 2, k, .inl f)), (t, .inr (11, [.null, vI 0, vI 0, vI 0]))] [] (fun v w => v = none ∧ ∃ v0 g, w = [(b, .inr (12, [.ref d, vI 0, vI 0, vI (q : Int)])), (d, .inl (eT E 2, k, .inl f)), (t, .inr (11, [.ref v0, vI 0, vI 0, vI 0])), (v0, .inl (eT E 2, q, .inl g))] ∧ ∀ j, j < q → g j = f j) := by
  refine j_entry (by decide +kernel) (Nat.le_of_ble_eq_true rfl) (fun p e s m args below meth c G hr hk hin hJ ls hl => ?_)
  have G : CallFix p m c cJ0_init_db425 5 s args mTs RJ0 := G
  have hl : lv_has ls 5 [(0, .ref t), (1, .ref b), (2, .null)] := hl
  refine r_aload_n (np := 1) G hl 0 rfl dJ0_init_db425_0 rfl rfl ?_
  refine r_objInit (np := 4) G hl.1 ljJ0_oi joi_i joi_c (Nat.le_of_ble_eq_true rfl) (Nat.le_of_ble_eq_true rfl) dJ0_init_db425_1 rfl ?_
  refine r_aload_n (np := 5) G hl 1 rfl dJ0_init_db425_4 rfl rfl ?_
  refine j_callB (np := 8) G hJ hl.1 0 rfl [] (q3val l E lo b d k t (q : Int) f _) (fun _ h => h) jvJ5_getValue_6d5f1 (Or.inl rfl) ljJ0_552 ⟨(Nat.le_of_ble_eq_true rfl), (Nat.le_of_ble_eq_true rfl)⟩ ⟨(Nat.le_of_ble_eq_true rfl), (Nat.le_of_ble_eq_true rfl)⟩ [] rfl (Nat.le_of_ble_eq_true rfl) dJ0_init_db425_5 rfl (fun v w2 H locs hp hJ => ?_)
  obtain ⟨rfl, rfl⟩ := hp
  refine r_astore_n (np := 9) G hl (rfl) [(3, .ref d), (0, .ref t), (1, .ref b), (2, .null)] dJ0_init_db425_8 rfl rfl (by decide) rfl (fun ls hl => ?_)
  refine r_aload_n (np := 10) G hl 2 rfl dJ0_init_db425_9 rfl rfl ?_
  refine j_callX (np := 13) G hJ hl.1 0 rfl [] (q3len l E lo b d k t (q : Int) f _) (fun _ h => h) jqJ4_length_8abf5 jqJ5_length_8abf5 jx_same jx_sel ljJ0_549 ⟨(Nat.le_of_ble_eq_true rfl), (Nat.le_of_ble_eq_true rfl)⟩ ⟨(Nat.le_of_ble_eq_true rfl), (Nat.le_of_ble_eq_true rfl)⟩ [] rfl (Nat.le_of_ble_eq_true rfl) dJ0_init_db425_10 rfl (fun v w2 H locs hp hJ => ?_)
  obtain ⟨rfl, rfl⟩ := hp
  refine r_istore (np := 15) G hl (rfl) [(4, vI ((q : Int))), (3, .ref d), (0, .ref t), (1, .ref b), (2, .null)] dJ0_init_db425_13 rfl (by decide) rfl (fun ls hl => ?_)
  refine r_aload_n (np := 16) G hl 3 rfl dJ0_init_db425_15 rfl rfl ?_
  refine j_callB (np := 19) G hJ hl.1 0 rfl [] (q3lat l E lo b d k t (q : Int) f _) (fun _ h => h) jvJ5_isLatin1_aae02 (Or.inl rfl) ljJ0_1047 ⟨(Nat.le_of_ble_eq_true rfl), (Nat.le_of_ble_eq_true rfl)⟩ ⟨(Nat.le_of_ble_eq_true rfl), (Nat.le_of_ble_eq_true rfl)⟩ [] rfl (Nat.le_of_ble_eq_true rfl) dJ0_init_db425_16 rfl (fun v w2 H locs hp hJ => ?_)
  obtain ⟨rfl, rfl⟩ := hp
  refine r_if_eq (np := 22) (tgt := 41) G (wI_eq (by omega) (by omega)) dJ0_init_db425_19 (by decide) rfl (fun hc => False.elim (absurd hc (by decide))) (fun hc => ?_)
  refine r_aload_n (np := 23) G hl 2 rfl dJ0_init_db425_22 rfl rfl ?_
  refine r_iconst (np := 24) G (0) dJ0_init_db425_23 rfl ?_
  refine j_putF (np := 27) G hJ 2 rfl jf11_1 tyJ0_ok nmJ0 (by decide +kernel) hin rfl (ty := .byte) rfl rfl rfl (Nat.le_of_ble_eq_true rfl) ljJ0_15t dJ0_init_db425_24 rfl (fun H locs hJ => ?_)
  have hJ : jM E lo [(b, .inr (12, [.ref d, vI 0, vI 0, vI (q : Int)])), (d, .inl (eT E 2, k, .inl f)), (t, .inr (11, [.null, vI 0, vI 0, vI 0]))] _ s H locs := hJ
  refine r_aload_n (np := 28) G hl 2 rfl dJ0_init_db425_27 rfl rfl ?_
  refine r_aload_n (np := 29) G hl 1 rfl dJ0_init_db425_28 rfl rfl ?_
  refine r_iconst (np := 30) G (0) dJ0_init_db425_29 rfl ?_
  refine r_iload (np := 32) G hl 0 rfl dJ0_init_db425_30 rfl ?_
  refine j_callS (np := 35) G hJ hl.1 [.ref d, vI (0), vI ((q : Int))] (qJ7_copyOfRange_39247 l E lo b d k t (q : Int) q f _ hq hcap hf) (fun _ h => h) jsJ7_copyOfRange_39247 ljJ0_54 ⟨(Nat.le_of_ble_eq_true rfl), (Nat.le_of_ble_eq_true rfl)⟩ ⟨(Nat.le_of_ble_eq_true rfl), (Nat.le_of_ble_eq_true rfl)⟩ [.ref t] rfl (Nat.le_of_ble_eq_true rfl) dJ0_init_db425_32 rfl (fun v w2 H locs hp hJ => ?_)
  obtain ⟨v0, g, rfl, rfl, hg⟩ := hp
  refine j_putF (np := 38) G hJ 2 rfl jf11_0 tyJ0_ok nmJ0 (by decide +kernel) hin rfl (ty := .array .byte) rfl rfl rfl (Nat.le_of_ble_eq_true rfl) ljJ0_9t dJ0_init_db425_35 rfl (fun H locs hJ => ?_)
  have hJ : jM E lo [(b, .inr (12, [.ref d, vI 0, vI 0, vI (q : Int)])), (d, .inl (eT E 2, k, .inl f)), (t, .inr (11, [.ref v0, vI 0, vI 0, vI 0])), (v0, .inl (eT E 2, q, .inl g))] _ s H locs := hJ
  refine r_goto (np := 97) G dJ0_init_db425_38 (by decide) ?_
  exact j_vret G hr hk hJ (⟨rfl, v0, g, rfl, hg⟩) (Nat.le_of_ble_eq_true rfl) (Nat.le_of_ble_eq_true rfl) dJ0_init_db425_97
set_option maxRecDepth 100000 in
set_option maxHeartbeats 1000000 in
theorem qJ0_init_81219 (l : Launch) (E : mE) (lo : Nat) (b d k t q : Nat) (f : Nat → Int32) (hq : q ≤ k) (hcap : k ≤ 700) (hf : sb_Fit f) : jMet l yJ0_init_81219 cJ0_init_81219 2 none 4 130 1 1000 E lo [.ref t, .ref b] [(b, .inr (12, [.ref d, vI 0, vI 0, vI (q : Int)])), (d, .inl (eT E 2, k, .inl f)), (t, .inr (11, [.null, vI 0, vI 0, vI 0]))] [] (fun v w => v = none ∧ ∃ v0 g, w = [(b, .inr (12, [.ref d, vI 0, vI 0, vI (q : Int)])), (d, .inl (eT E 2, k, .inl f)), (t, .inr (11, [.ref v0, vI 0, vI 0, vI 0])), (v0, .inl (eT E 2, q, .inl g))] ∧ ∀ j, j < q → g j = f j) := by
  refine j_entry (by decide +kernel) (Nat.le_of_ble_eq_true rfl) (fun p e s m args below meth c G hr hk hin hJ ls hl => ?_)
  have G : CallFix p m c cJ0_init_81219 2 s args mTs RJ0 := G
  have hl : lv_has ls 2 [(0, .ref t), (1, .ref b)] := hl
  refine r_aload_n (np := 1) G hl 0 rfl dJ0_init_81219_0 rfl rfl ?_
  refine r_aload_n (np := 2) G hl 1 rfl dJ0_init_81219_1 rfl rfl ?_
  refine lv_null G.1 G.2.1 dJ0_init_81219_2 ?_
  refine j_callI (np := 6) G hJ hl.1 [.ref b, .null] (qJ0_init_db425 l E lo b d k t q f hq hcap hf) (fun _ h => h) jqJ0_init_db425 ljJ0_489 ⟨(Nat.le_of_ble_eq_true rfl), (Nat.le_of_ble_eq_true rfl)⟩ ⟨(Nat.le_of_ble_eq_true rfl), (Nat.le_of_ble_eq_true rfl)⟩ [] rfl (Nat.le_of_ble_eq_true rfl) dJ0_init_81219_3 rfl (fun v w2 H locs hp hJ => ?_)
  obtain ⟨rfl, v0, g, rfl, hg⟩ := hp
  exact j_vret G hr hk hJ (⟨rfl, v0, g, rfl, hg⟩) (Nat.le_of_ble_eq_true rfl) (Nat.le_of_ble_eq_true rfl) dJ0_init_81219_6
set_option maxRecDepth 100000 in
set_option maxHeartbeats 1000000 in
theorem qJ4_toString_0e30d (l : Launch) (E : mE) (lo : Nat) (b d k : Nat) (f : Nat → Int32) (q : Nat) (hq : q ≤ k) (hcap : k ≤ 700) (hf : sb_Fit f) : jMet l yJ4_toString_0e30d cJ4_toString_0e30d 1 (some (.object "java/lang/String")) 5 151 2 1010 E lo [.ref b] (jB E b d (q : Int) k f) [] (fun v w => ∃ t v0 g, v = some (.ref t) ∧ w = [(t, .inr (11, [.ref v0, vI 0, vI 0, vI 0])), (v0, .inl (eT E 2, q, .inl g))] ∧ ∀ j, j < q → g j = f j) := by
  refine j_entry (by decide +kernel) (Nat.le_of_ble_eq_true rfl) (fun p e s m args below meth c G hr hk hin hJ ls hl => ?_)
  have G : CallFix p m c cJ4_toString_0e30d 1 s args mTs RJ4 := G
  have hl : lv_has ls 1 [(0, .ref b)] := hl
  refine j_newO (np := 3) G hJ (ci := 11) (C := RJ0) (T := TJ0) rfl inJ0 tyJ0 tyJ0_ok (fs := [.null, vI 0, vI 0, vI 0]) (fun j hj => by rcases (show j = 0 ∨ j = 1 ∨ j = 2 ∨ j = 3 by omega) with rfl | rfl | rfl | rfl <;> rfl) ljJ4_18 jstI jstN (Nat.le_of_ble_eq_true rfl) (Nat.le_of_ble_eq_true rfl) dJ4_toString_0e30d_0 rfl (fun t H hJ => ?_)
  have hJ : jM E lo [(b, .inr (12, [.ref d, vI 0, vI 0, vI (q : Int)])), (d, .inl (eT E 2, k, .inl f)), (t, .inr (11, [.null, vI 0, vI 0, vI 0]))] _ s H _ := hJ
  refine r_dup (np := 4) G dJ4_toString_0e30d_3 rfl rfl ?_
  refine r_aload_n (np := 5) G hl 0 rfl dJ4_toString_0e30d_4 rfl rfl ?_
  refine j_callI (np := 8) G hJ hl.1 [.ref b] (qJ0_init_81219 l E lo b d k t q f hq hcap hf) (fun _ h => h) jqJ0_init_81219 ljJ4_137 ⟨(Nat.le_of_ble_eq_true rfl), (Nat.le_of_ble_eq_true rfl)⟩ ⟨(Nat.le_of_ble_eq_true rfl), (Nat.le_of_ble_eq_true rfl)⟩ [.ref t] rfl (Nat.le_of_ble_eq_true rfl) dJ4_toString_0e30d_5 rfl (fun v w2 H locs hp hJ => ?_)
  obtain ⟨rfl, v0, g, rfl, hg⟩ := hp
  have hJ := hJ.sub [2, 3] (ws2 := [(t, .inr (11, [.ref v0, vI 0, vI 0, vI 0])), (v0, .inl (eT E 2, q, .inl g))]) rfl rfl rfl
  exact j_aret G hr (Or.inl ⟨_, rfl⟩) hk hJ (⟨t, v0, g, rfl, rfl, hg⟩) (Nat.le_of_ble_eq_true rfl) (Nat.le_of_ble_eq_true rfl) dJ4_toString_0e30d_8
set_option maxRecDepth 100000 in
set_option maxHeartbeats 1000000 in
theorem qJ5_init_d00df (l : Launch) (E : mE) (lo : Nat) (b : Nat) : jMet l yJ5_init_d00df cJ5_init_d00df 2 none 1 40 1 16 E lo [.ref b, vI (16)] [(b, .inr (12, [.null, vI 0, vI 0, vI 0]))] [] (fun v w => v = none ∧ ∃ d, w = jB E b d 0 16 (fun _ => 0)) := by
  refine j_entry (by decide +kernel) (Nat.le_of_ble_eq_true rfl) (fun p e s m args below meth c G hr hk hin hJ ls hl => ?_)
  have G : CallFix p m c cJ5_init_d00df 2 s args mTs RJ5 := G
  have hl : lv_has ls 2 [(0, .ref b), (1, vI (16))] := hl
  refine r_aload_n (np := 1) G hl 0 rfl dJ5_init_d00df_0 rfl rfl ?_
  refine r_objInit (np := 4) G hl.1 ljJ5_oi joi_i joi_c (Nat.le_of_ble_eq_true rfl) (Nat.le_of_ble_eq_true rfl) dJ5_init_d00df_1 rfl ?_
  refine j_gets1 (np := 7) G hJ ljJ5_18 dJ5_init_d00df_4 rfl ?_
  refine r_if_eq (np := 10) (tgt := 25) G (wI_eq (by omega) (by omega)) dJ5_init_d00df_7 (by decide) rfl (fun hc => False.elim (absurd hc (by decide))) (fun hc => ?_)
  refine r_aload_n (np := 11) G hl 0 rfl dJ5_init_d00df_10 rfl rfl ?_
  refine r_iload_n (np := 12) G hl 1 rfl dJ5_init_d00df_11 rfl rfl ?_
  refine j_newB (np := 14) G hJ (n := 16) rfl (by decide) (Nat.le_of_ble_eq_true rfl) (Nat.le_of_ble_eq_true rfl) dJ5_init_d00df_12 rfl (fun d H hJ => ?_)
  refine j_put (np := 17) G hJ 0 rfl jf12_0 tyJ4_ok nmJ4 (by decide +kernel) (ty := .array .byte) rfl rfl rfl (Nat.le_of_ble_eq_true rfl) ljJ5_15t dJ5_init_d00df_14 rfl (fun H locs hJ => ?_)
  have hJ : jM E lo [(b, .inr (12, [.ref d, vI 0, vI 0, vI 0])), (d, .inl (eT E 2, 16, .inl (fun _ => 0)))] _ s H locs := hJ
  refine r_aload_n (np := 18) G hl 0 rfl dJ5_init_d00df_17 rfl rfl ?_
  refine r_iconst (np := 19) G (0) dJ5_init_d00df_18 rfl ?_
  refine j_put (np := 22) G hJ 0 rfl jf12_1 tyJ4_ok nmJ4 (by decide +kernel) (ty := .byte) rfl rfl rfl (Nat.le_of_ble_eq_true rfl) ljJ5_22t dJ5_init_d00df_19 rfl (fun H locs hJ => ?_)
  have hJ : jM E lo (jB E b d 0 16 (fun _ => 0)) _ s H locs := hJ
  refine r_goto (np := 38) G dJ5_init_d00df_22 (by decide) ?_
  exact j_vret G hr hk hJ (⟨rfl, d, rfl⟩) (Nat.le_of_ble_eq_true rfl) (Nat.le_of_ble_eq_true rfl) dJ5_init_d00df_38
set_option maxRecDepth 100000 in
set_option maxHeartbeats 1000000 in
theorem qJ4_init_da8c8 (l : Launch) (E : mE) (lo : Nat) (b : Nat) : jMet l yJ4_init_da8c8 cJ4_init_da8c8 1 none 2 61 1 16 E lo [.ref b] [(b, .inr (12, [.null, vI 0, vI 0, vI 0]))] [] (fun v w => v = none ∧ ∃ d, w = jB E b d 0 16 (fun _ => 0)) := by
  refine j_entry (by decide +kernel) (Nat.le_of_ble_eq_true rfl) (fun p e s m args below meth c G hr hk hin hJ ls hl => ?_)
  have G : CallFix p m c cJ4_init_da8c8 1 s args mTs RJ4 := G
  have hl : lv_has ls 1 [(0, .ref b)] := hl
  refine r_aload_n (np := 1) G hl 0 rfl dJ4_init_da8c8_0 rfl rfl ?_
  refine r_bipush (np := 3) G (16) dJ4_init_da8c8_1 (by decide) rfl ?_
  refine j_callI (np := 6) G hJ hl.1 [vI (16)] (qJ5_init_d00df l E lo b) (fun _ h => h) jqJ5_init_d00df ljJ4_1 ⟨(Nat.le_of_ble_eq_true rfl), (Nat.le_of_ble_eq_true rfl)⟩ ⟨(Nat.le_of_ble_eq_true rfl), (Nat.le_of_ble_eq_true rfl)⟩ [] rfl (Nat.le_of_ble_eq_true rfl) dJ4_init_da8c8_3 rfl (fun v w2 H locs hp hJ => ?_)
  obtain ⟨rfl, d, rfl⟩ := hp
  exact j_vret G hr hk hJ (⟨rfl, d, rfl⟩) (Nat.le_of_ble_eq_true rfl) (Nat.le_of_ble_eq_true rfl) dJ4_init_da8c8_6
