theorem myJ0_length_8abf5 : mYV yJ0_length_8abf5 cJ0_length_8abf5 1 (some .int) 0 := ⟨⟨mTs_in 458 (by decide +kernel) (by decide +kernel), mTs_in 43 (by decide +kernel) (by decide +kernel), ⟨by decide, by decide⟩, by decide +kernel⟩, mTs_in 456 (by decide +kernel) (by decide +kernel), mTs_in 457 (by decide +kernel) (by decide +kernel)⟩
theorem myJ0_charAt_5068e : mYV yJ0_charAt_5068e cJ0_charAt_5068e 2 (some .char) 1 := ⟨⟨mTs_in 468 (by decide +kernel) (by decide +kernel), mTs_in 43 (by decide +kernel) (by decide +kernel), ⟨by decide, by decide⟩, by decide +kernel⟩, mTs_in 466 (by decide +kernel) (by decide +kernel), mTs_in 467 (by decide +kernel) (by decide +kernel)⟩
theorem myJ0_coder_7d493 : mYV yJ0_coder_7d493 cJ0_coder_7d493 1 (some .byte) 0 := ⟨⟨mTs_in 462 (by decide +kernel) (by decide +kernel), mTs_in 43 (by decide +kernel) (by decide +kernel), ⟨by decide, by decide⟩, by decide +kernel⟩, mTs_in 460 (by decide +kernel) (by decide +kernel), mTs_in 461 (by decide +kernel) (by decide +kernel)⟩
theorem myJ0_isLatin1_aae02 : mYV yJ0_isLatin1_aae02 cJ0_isLatin1_aae02 1 (some .boolean) 0 := ⟨⟨mTs_in 472 (by decide +kernel) (by decide +kernel), mTs_in 43 (by decide +kernel) (by decide +kernel), ⟨by decide, by decide⟩, by decide +kernel⟩, mTs_in 470 (by decide +kernel) (by decide +kernel), mTs_in 471 (by decide +kernel) (by decide +kernel)⟩
theorem myJ0_checkIndex_df160 : mYS yJ0_checkIndex_df160 cJ0_checkIndex_df160 2 none 2 := ⟨⟨mTs_in 478 (by decide +kernel) (by decide +kernel), mTs_in 43 (by decide +kernel) (by decide +kernel), ⟨by decide, by decide⟩, by decide +kernel⟩, mTs_in 477 (by decide +kernel) (by decide +kernel)⟩
theorem myJ1_charAt_3b067 : mYS yJ1_charAt_3b067 cJ1_charAt_3b067 2 (some .char) 2 := ⟨⟨mTs_in 475 (by decide +kernel) (by decide +kernel), mTs_in 50 (by decide +kernel) (by decide +kernel), ⟨by decide, by decide⟩, by decide +kernel⟩, mTs_in 474 (by decide +kernel) (by decide +kernel)⟩
theorem myJ3_checkIndex_8e157 : mYS yJ3_checkIndex_8e157 cJ3_checkIndex_8e157 3 (some .int) 3 := ⟨⟨mTs_in 483 (by decide +kernel) (by decide +kernel), mTs_in 49 (by decide +kernel) (by decide +kernel), ⟨by decide, by decide⟩, by decide +kernel⟩, mTs_in 482 (by decide +kernel) (by decide +kernel)⟩
theorem dJ0_length_8abf5_0 : decode cJ0_length_8abf5 0 = .ok (.aload_n 0, 1) := by decide +kernel
theorem dJ0_length_8abf5_1 : decode cJ0_length_8abf5 1 = .ok (.getfield 9, 3) := by decide +kernel
theorem dJ0_length_8abf5_4 : decode cJ0_length_8abf5 4 = .ok (.arraylength, 1) := by decide +kernel
theorem dJ0_length_8abf5_5 : decode cJ0_length_8abf5 5 = .ok (.aload_n 0, 1) := by decide +kernel
theorem dJ0_length_8abf5_6 : decode cJ0_length_8abf5 6 = .ok (.invokevirtual 335, 3) := by decide +kernel
theorem dJ0_length_8abf5_9 : decode cJ0_length_8abf5 9 = .ok (.ishr, 1) := by decide +kernel
theorem dJ0_length_8abf5_10 : decode cJ0_length_8abf5 10 = .ok (.ireturn, 1) := by decide +kernel
theorem dJ0_charAt_5068e_0 : decode cJ0_charAt_5068e 0 = .ok (.aload_n 0, 1) := by decide +kernel
theorem dJ0_charAt_5068e_1 : decode cJ0_charAt_5068e 1 = .ok (.invokevirtual 492, 3) := by decide +kernel
theorem dJ0_charAt_5068e_4 : decode cJ0_charAt_5068e 4 = .ok (.ifCond .eq 12, 3) := by decide +kernel
theorem dJ0_charAt_5068e_7 : decode cJ0_charAt_5068e 7 = .ok (.aload_n 0, 1) := by decide +kernel
theorem dJ0_charAt_5068e_8 : decode cJ0_charAt_5068e 8 = .ok (.getfield 9, 3) := by decide +kernel
theorem dJ0_charAt_5068e_11 : decode cJ0_charAt_5068e 11 = .ok (.iload_n 1, 1) := by decide +kernel
theorem dJ0_charAt_5068e_12 : decode cJ0_charAt_5068e 12 = .ok (.invokestatic 495, 3) := by decide +kernel
theorem dJ0_charAt_5068e_15 : decode cJ0_charAt_5068e 15 = .ok (.ireturn, 1) := by decide +kernel
theorem dJ0_charAt_5068e_16 : decode cJ0_charAt_5068e 16 = .ok (.aload_n 0, 1) := by decide +kernel
theorem dJ0_charAt_5068e_17 : decode cJ0_charAt_5068e 17 = .ok (.getfield 9, 3) := by decide +kernel
theorem dJ0_charAt_5068e_20 : decode cJ0_charAt_5068e 20 = .ok (.iload_n 1, 1) := by decide +kernel
theorem dJ0_charAt_5068e_21 : decode cJ0_charAt_5068e 21 = .ok (.invokestatic 498, 3) := by decide +kernel
theorem dJ0_charAt_5068e_24 : decode cJ0_charAt_5068e 24 = .ok (.ireturn, 1) := by decide +kernel
theorem dJ0_coder_7d493_0 : decode cJ0_coder_7d493 0 = .ok (.getstatic 38, 3) := by decide +kernel
theorem dJ0_coder_7d493_3 : decode cJ0_coder_7d493 3 = .ok (.ifCond .eq 10, 3) := by decide +kernel
theorem dJ0_coder_7d493_6 : decode cJ0_coder_7d493 6 = .ok (.aload_n 0, 1) := by decide +kernel
theorem dJ0_coder_7d493_7 : decode cJ0_coder_7d493 7 = .ok (.getfield 15, 3) := by decide +kernel
theorem dJ0_coder_7d493_10 : decode cJ0_coder_7d493 10 = .ok (.goto 4, 3) := by decide +kernel
theorem dJ0_coder_7d493_13 : decode cJ0_coder_7d493 13 = .ok (.iconst 1, 1) := by decide +kernel
theorem dJ0_coder_7d493_14 : decode cJ0_coder_7d493 14 = .ok (.ireturn, 1) := by decide +kernel
theorem dJ0_isLatin1_aae02_0 : decode cJ0_isLatin1_aae02 0 = .ok (.getstatic 38, 3) := by decide +kernel
theorem dJ0_isLatin1_aae02_3 : decode cJ0_isLatin1_aae02 3 = .ok (.ifCond .eq 14, 3) := by decide +kernel
theorem dJ0_isLatin1_aae02_6 : decode cJ0_isLatin1_aae02 6 = .ok (.aload_n 0, 1) := by decide +kernel
theorem dJ0_isLatin1_aae02_7 : decode cJ0_isLatin1_aae02 7 = .ok (.getfield 15, 3) := by decide +kernel
theorem dJ0_isLatin1_aae02_10 : decode cJ0_isLatin1_aae02 10 = .ok (.ifCond .ne 7, 3) := by decide +kernel
theorem dJ0_isLatin1_aae02_13 : decode cJ0_isLatin1_aae02 13 = .ok (.iconst 1, 1) := by decide +kernel
theorem dJ0_isLatin1_aae02_14 : decode cJ0_isLatin1_aae02 14 = .ok (.goto 4, 3) := by decide +kernel
theorem dJ0_isLatin1_aae02_17 : decode cJ0_isLatin1_aae02 17 = .ok (.iconst 0, 1) := by decide +kernel
theorem dJ0_isLatin1_aae02_18 : decode cJ0_isLatin1_aae02 18 = .ok (.ireturn, 1) := by decide +kernel
theorem dJ0_checkIndex_df160_0 : decode cJ0_checkIndex_df160 0 = .ok (.iload_n 0, 1) := by decide +kernel
theorem dJ0_checkIndex_df160_1 : decode cJ0_checkIndex_df160 1 = .ok (.iload_n 1, 1) := by decide +kernel
theorem dJ0_checkIndex_df160_2 : decode cJ0_checkIndex_df160 2 = .ok (.getstatic 1053, 3) := by decide +kernel
theorem dJ0_checkIndex_df160_5 : decode cJ0_checkIndex_df160 5 = .ok (.invokestatic 1059, 3) := by decide +kernel
theorem dJ0_checkIndex_df160_8 : decode cJ0_checkIndex_df160 8 = .ok (.pop, 1) := by decide +kernel
theorem dJ0_checkIndex_df160_9 : decode cJ0_checkIndex_df160 9 = .ok (.return_, 1) := by decide +kernel
theorem dJ1_charAt_3b067_0 : decode cJ1_charAt_3b067 0 = .ok (.iload_n 1, 1) := by decide +kernel
theorem dJ1_charAt_3b067_1 : decode cJ1_charAt_3b067 1 = .ok (.aload_n 0, 1) := by decide +kernel
theorem dJ1_charAt_3b067_2 : decode cJ1_charAt_3b067 2 = .ok (.arraylength, 1) := by decide +kernel
theorem dJ1_charAt_3b067_3 : decode cJ1_charAt_3b067 3 = .ok (.invokestatic 9, 3) := by decide +kernel
theorem dJ1_charAt_3b067_6 : decode cJ1_charAt_3b067 6 = .ok (.aload_n 0, 1) := by decide +kernel
theorem dJ1_charAt_3b067_7 : decode cJ1_charAt_3b067 7 = .ok (.iload_n 1, 1) := by decide +kernel
theorem dJ1_charAt_3b067_8 : decode cJ1_charAt_3b067 8 = .ok (.baload, 1) := by decide +kernel
theorem dJ1_charAt_3b067_9 : decode cJ1_charAt_3b067 9 = .ok (.sipush 255, 3) := by decide +kernel
theorem dJ1_charAt_3b067_12 : decode cJ1_charAt_3b067 12 = .ok (.iand, 1) := by decide +kernel
theorem dJ1_charAt_3b067_13 : decode cJ1_charAt_3b067 13 = .ok (.i2c, 1) := by decide +kernel
theorem dJ1_charAt_3b067_14 : decode cJ1_charAt_3b067 14 = .ok (.ireturn, 1) := by decide +kernel
theorem dJ3_checkIndex_8e157_0 : decode cJ3_checkIndex_8e157 0 = .ok (.iload_n 0, 1) := by decide +kernel
theorem dJ3_checkIndex_8e157_1 : decode cJ3_checkIndex_8e157 1 = .ok (.ifCond .lt 8, 3) := by decide +kernel
theorem dJ3_checkIndex_8e157_4 : decode cJ3_checkIndex_8e157 4 = .ok (.iload_n 0, 1) := by decide +kernel
theorem dJ3_checkIndex_8e157_5 : decode cJ3_checkIndex_8e157 5 = .ok (.iload_n 1, 1) := by decide +kernel
theorem dJ3_checkIndex_8e157_6 : decode cJ3_checkIndex_8e157 6 = .ok (.if_icmp .lt 10, 3) := by decide +kernel
theorem dJ3_checkIndex_8e157_9 : decode cJ3_checkIndex_8e157 9 = .ok (.aload_n 2, 1) := by decide +kernel
theorem dJ3_checkIndex_8e157_10 : decode cJ3_checkIndex_8e157 10 = .ok (.iload_n 0, 1) := by decide +kernel
theorem dJ3_checkIndex_8e157_11 : decode cJ3_checkIndex_8e157 11 = .ok (.iload_n 1, 1) := by decide +kernel
theorem dJ3_checkIndex_8e157_12 : decode cJ3_checkIndex_8e157 12 = .ok (.invokestatic 95, 3) := by decide +kernel
theorem dJ3_checkIndex_8e157_15 : decode cJ3_checkIndex_8e157 15 = .ok (.athrow, 1) := by decide +kernel
theorem dJ3_checkIndex_8e157_16 : decode cJ3_checkIndex_8e157 16 = .ok (.iload_n 0, 1) := by decide +kernel
theorem dJ3_checkIndex_8e157_17 : decode cJ3_checkIndex_8e157 17 = .ok (.ireturn, 1) := by decide +kernel
theorem k_335 : Cond.methodLink RJ0 335 yJ0_coder_7d493 ∈ mTs := mTs_in 459 (by decide +kernel) (by decide +kernel)
theorem k_492 : Cond.methodLink RJ0 492 yJ0_isLatin1_aae02 ∈ mTs := mTs_in 469 (by decide +kernel) (by decide +kernel)
theorem k_495 : Cond.methodLink RJ0 495 yJ1_charAt_3b067 ∈ mTs := mTs_in 473 (by decide +kernel) (by decide +kernel)
theorem k_L9 : Cond.methodLink RJ1 9 yJ0_checkIndex_df160 ∈ mTs := mTs_in 476 (by decide +kernel) (by decide +kernel)
theorem k_1059 : Cond.methodLink RJ0 1059 yJ3_checkIndex_8e157 ∈ mTs := mTs_in 481 (by decide +kernel) (by decide +kernel)
theorem k_38 : Cond.fieldLink RJ0 38 "java/lang/String" "COMPACT_STRINGS" "Z" ∈ mTs := mTs_in 463 (by decide +kernel) (by decide +kernel)
theorem k_1053 : Cond.fieldLink RJ0 1053 "jdk/internal/util/Preconditions" "SIOOBE_FORMATTER" "Ljava/util/function/BiFunction;" ∈ mTs := mTs_in 479 (by decide +kernel) (by decide +kernel)
theorem k_9 : Cond.fieldLink RJ0 9 "java/lang/String" "value" "[B" ∈ mTs := mTs_in 1001 (by decide +kernel) (by decide +kernel)
theorem k_15 : Cond.fieldLink RJ0 15 "java/lang/String" "coder" "B" ∈ mTs := mTs_in 1002 (by decide +kernel) (by decide +kernel)
theorem sx_b : ∀ k, k < 3 → ∀ j, j < mXLen.getD k 0 → (((((mXByt.getD k []).getD j 0) &&& Int32.ofInt 255).toUInt32 % 65536).toInt32 = (mXByt.getD k []).getD j 0 ∧ narrow .char (.int ((mXByt.getD k []).getD j 0)) = .int ((mXByt.getD k []).getD j 0)) := by decide +kernel
theorem sx_l : ∀ k, k < 3 → mXLen.getD k 0 < 1000 := by decide +kernel
section MSX
variable {p : Program} {l : Launch} {e : Env} {R : Room} {s : State} {m : MethodId} {args : Array Value} {below : List Frame} {meth : Method} {c : Code} {H : Heap} {locs : List Loc} {cells slots : Nat} {Q : State → Prop}
variable {cc : ByteArray} {pc np nL : Nat} {ls : Array Slot} {rest st : List Value} {own : String} {A : Nat → Prop} {E : mE} {σ σ2 : mSt}
theorem r_sval (G : CallFix p m c cc nL s args mTs RJ0) (hM : mM A E 257 σ s H locs) {k : Nat} (hk : k < 3) (d : decode cc pc = .ok (.getfield 9, 3)) (hn : pc + 3 = np)
    (kk : W p l e R s m args below meth c H locs cells slots Q (F0 m np ls (.ref (eV E k) :: rest))) : W p l e R s m args below meth c H locs cells slots Q (F0 m pc ls (.ref (eK E k) :: rest)) := by
  subst hn
  exact vk_getf G.1 G.2.1 (hM.2.2.1.1.1 k (by omega)).2.2.1 hM.2.2.2.2.2 G.2.2.2.1 (G.2.2.2.2 _ k_9) (fun _ h => h) d kk
theorem r_scod (G : CallFix p m c cc nL s args mTs RJ0) (hM : mM A E 257 σ s H locs) {k : Nat} (hk : k < 3) (d : decode cc pc = .ok (.getfield 15, 3)) (hn : pc + 3 = np)
    (kk : W p l e R s m args below meth c H locs cells slots Q (F0 m np ls (vI 0 :: rest))) : W p l e R s m args below meth c H locs cells slots Q (F0 m pc ls (.ref (eK E k) :: rest)) := by
  subst hn
  exact vk_getf G.1 G.2.1 (hM.2.2.1.1.1 k (by omega)).2.1 hM.2.2.2.2.2 G.2.2.2.1 (G.2.2.2.2 _ k_15) (fun _ h => h) d kk
theorem r_scs (G : CallFix p m c cc nL s args mTs RJ0) (hM : mM A E 257 σ s H locs) (d : decode cc pc = .ok (.getstatic 38, 3)) (hn : pc + 3 = np)
    (kk : W p l e R s m args below meth c H locs cells slots Q (F0 m np ls (vI 1 :: rest))) : W p l e R s m args below meth c H locs cells slots Q (F0 m pc ls rest) := by
  subst hn
  exact va_gets G.1 G.2.1 hM.2.2.1.2.2.1 hM.2.2.2.2.2 G.2.2.2.1 (G.2.2.2.2 _ k_38) (fun _ h => h) d kk
theorem r_slen (G : CallFix p m c cc nL s args mTs own) (hM : mM A E 257 σ s H locs) {k : Nat} (hk : k < 3) (d : decode cc pc = .ok (.arraylength, 1)) (hn : pc + 1 = np)
    (kk : W p l e R s m args below meth c H locs cells slots Q (F0 m np ls (vI ((mXLen.getD k 0 : Nat) : Int) :: rest))) : W p l e R s m args below meth c H locs cells slots Q (F0 m pc ls (.ref (eV E k) :: rest)) := by
  subst hn
  obtain ⟨cell, h1, h2, h3, h4, h5, h6, h7⟩ := (hM.2.2.1.1.1 k (by omega)).2.2.2.kept hM.2.2.2.2.2.2.1
  exact W.alen (n := Int32.ofInt ((mXLen.getD k 0 : Nat) : Int)) G.1 G.2.1 h1 h2 (h5.trans Int32.ofInt_eq_ofNat.symm) rfl rfl d kk
theorem r_sbal (G : CallFix p m c cc nL s args mTs own) (hM : mM A E 257 σ s H locs) {k : Nat} {i : Int} (hk : k < 3) (hi : 0 ≤ wI i ∧ wI i < ((mXLen.getD k 0 : Nat) : Int)) (d : decode cc pc = .ok (.baload, 1)) (hn : pc + 1 = np)
    (kk : W p l e R s m args below meth c H locs cells slots Q (F0 m np ls (.int ((mXByt.getD k []).getD (wI i).toNat 0) :: rest))) : W p l e R s m args below meth c H locs cells slots Q (F0 m pc ls (vI i :: .ref (eV E k) :: rest)) := by
  subst hn
  obtain ⟨cell, h1, h2, h3, h4, h5, h6, h7⟩ := (hM.2.2.1.1.1 k (by omega)).2.2.2.kept hM.2.2.2.2.2.2.1
  have hlt : (wI i).toNat < mXLen.getD k 0 := by omega
  refine W.bald (v := .int ((mXByt.getD k []).getD (wI i).toNat 0)) G.1 G.2.1 h1 h2 h3 ?_ (h6 _ hlt) rfl rfl d kk
  rintro (q | q)
  · have : wI i < 0 := Int32.lt_iff_toInt_lt.mp q
    omega
  · have : (Int32.ofInt i).toNatClampNeg = (wI i).toNat := rfl
    rw [this] at q
    omega
theorem r_ldcSt (G : CallFix p m c cc nL s args mTs RX10) (hM : mM A E 257 σ s H locs) (i : Nat) (hi : i < 3) (d : decode cc pc = .ok (.ldc (mXIt.getD i 0), 2)) (hn : pc + 2 = np)
    (kk : W p l e R s m args below meth c H locs cells slots Q (F0 m np ls (.ref (eK E i) :: rest))) : W p l e R s m args below meth c H locs cells slots Q (F0 m pc ls rest) := by
  subst hn
  exact va_ldcS G.1 G.2.1 G.2.2.2.1 (hM.2.2.1.2.1 i hi) d kk
theorem m_callStr (G : CallFix p m c cc nL s args mTs own) (hM : mM A E 257 σ s H locs) (hls : ls.size = nL) {y : MethodName} {cc' : ByteArray} {maxL fr lo k ix : Nat} {ret : Option FieldType} {As : List Value} {v : Value} (hc : mMet l y cc' maxL ret fr lo E 257 (.ref (eK E k) :: As) σ (some v) σ) (hY : mYV y cc' maxL ret As.length) (hk : k < 3) (hcc : y.cls = "java/lang/String") (hw : Cond.methodLink own ix y ∈ mTs) (hroom : fr + 1 ≤ R.frames ∧ 8 + (maxL + 11) + lo ≤ R.locals) (hcs : cells ≤ R.cells ∧ slots ≤ R.slots)
    (hst : st = As.reverse ++ .ref (eK E k) :: rest) (hcat : (rest.map fun v => v.category).sum ≤ 8) (d : decode cc pc = .ok (.invokevirtual ix, 3)) (hn : pc + 3 = np)
    (kk : ∀ (H1 : Heap) (locs1 : List Loc), mM A E 257 σ s H1 locs1 → W p l e R s m args below meth c H1 locs1 cells slots Q (F0 m np ls (v :: rest))) : W p l e R s m args below meth c H locs cells slots Q (F0 m pc ls st) := by
  subst hn
  subst hst
  refine m_go (va_runV (As := As) (rest := rest) G hc ⟨m_cb G hY.1 hw hroom, G.2.2.2.2 _ hY.2.1, G.2.2.2.2 _ hY.2.2⟩ ⟨mPre.blind, ?_, fun U hU hW => ⟨rfl, hM.pre hU hW⟩⟩ rfl rfl hls rfl (lv_room hcat) d hcs) hM kk
  rw [hcc]
  exact vk_recv hM.2.2.1.1 (show k < 17 by omega) hM.2.2.2.2.2
end MSX
theorem q_pci (l : Launch) (E : mE) (σ : mSt) (i n : Int) (o : Option Nat) (h : 0 ≤ wI i ∧ wI i < wI n) : mMet l yJ3_checkIndex_8e157 cJ3_checkIndex_8e157 3 (some .int) 0 0 E 257 [vI i, vI n, va_rf o] σ (some (vI i)) σ := by
  refine m_entryF (by decide +kernel) (by cases o <;> exact Nat.le_of_ble_eq_true rfl) (fun p e s m args below meth c G hr hk hM ls hl => ?_)
  have G : CallFix p m c cJ3_checkIndex_8e157 3 s args mTs RJ3 := G
  have hl : lv_has ls 3 [(0, vI i), (1, vI n), (2, va_rf o)] := by cases o <;> exact hl
  refine r_iload_n (np := 1) G hl 0 rfl dJ3_checkIndex_8e157_0 rfl rfl ?_
  refine r_if_lt (np := 4) (tgt := 9) G rfl dJ3_checkIndex_8e157_1 (by decide) rfl (fun hc => absurd h.1 (by omega)) (fun hc => ?_)
  refine r_iload_n (np := 5) G hl 0 rfl dJ3_checkIndex_8e157_4 rfl rfl ?_
  refine r_iload_n (np := 6) G hl 1 rfl dJ3_checkIndex_8e157_5 rfl rfl ?_
  refine r_icmp_lt (np := 9) (tgt := 16) G rfl rfl dJ3_checkIndex_8e157_6 (by decide) rfl (fun hc => ?_) (fun hc => absurd h.2 hc)
  refine r_iload_n (np := 17) G hl 0 rfl dJ3_checkIndex_8e157_16 rfl rfl ?_
  exact r_iret (out := (i, σ)) G hr hk hM rfl dJ3_checkIndex_8e157_17
theorem q_sci (l : Launch) (E : mE) (σ : mSt) (i n : Int) (h : 0 ≤ wI i ∧ wI i < wI n) : mMet l yJ0_checkIndex_df160 cJ0_checkIndex_df160 2 none 1 40 E 257 [vI i, vI n] σ none σ := by
  refine m_entryF (by decide +kernel) (Nat.le_of_ble_eq_true rfl) (fun p e s m args below meth c G hr hk hM ls hl => ?_)
  have G : CallFix p m c cJ0_checkIndex_df160 2 s args mTs RJ0 := G
  have hl : lv_has ls 2 [(0, vI i), (1, vI n)] := hl
  refine r_iload_n (np := 1) G hl 0 rfl dJ0_checkIndex_df160_0 rfl rfl ?_
  refine r_iload_n (np := 2) G hl 1 rfl dJ0_checkIndex_df160_1 rfl rfl ?_
  have go : ∀ o : Option Nat, mGo l p e 1 40 s m args below meth c E none σ s.heap [] (F0 m 5 ls [va_rf o, vI n, vI i]) := by
    intro o
    refine m_callSI (np := 8) G hM hl.1 [vI i, vI n, va_rf o] (q_pci l E σ i n o h) myJ3_checkIndex_8e157 k_1059 ⟨Nat.le_of_ble_eq_true rfl, Nat.le_of_ble_eq_true rfl⟩ ⟨Nat.le_of_ble_eq_true rfl, Nat.le_of_ble_eq_true rfl⟩ [] rfl (Nat.le_of_ble_eq_true rfl) dJ0_checkIndex_df160_5 rfl (fun H locs hM => ?_)
    refine r_pop (np := 9) G dJ0_checkIndex_df160_8 rfl rfl ?_
    exact r_vret (out := (0, σ)) G hr hk hM rfl dJ0_checkIndex_df160_9
  rcases hM.2.2.1.2.2.2.1 with hz | ⟨t, hz⟩
  · exact va_gets G.1 G.2.1 hz hM.2.2.2.2.2 G.2.2.2.1 (G.2.2.2.2 _ k_1053) (fun _ h => h) dJ0_checkIndex_df160_2 (go none)
  · exact va_gets G.1 G.2.1 hz hM.2.2.2.2.2 G.2.2.2.1 (G.2.2.2.2 _ k_1053) (fun _ h => h) dJ0_checkIndex_df160_2 (go (some t))
theorem q_sla (l : Launch) (E : mE) (σ : mSt) (k : Nat) (i : Int) (h3 : k < 3) (h : 0 ≤ wI i ∧ wI i < ((mXLen.getD k 0 : Nat) : Int)) : mMet l yJ1_charAt_3b067 cJ1_charAt_3b067 2 (some .char) 2 100 E 257 [.ref (eV E k), vI i] σ (some (vI ((mXByt.getD k []).getD (wI i).toNat 0).toInt)) σ := by
  have hb := sx_b k h3 (wI i).toNat (by omega)
  have hL := sx_l k h3
  refine m_entryF (by decide +kernel) (Nat.le_of_ble_eq_true rfl) (fun p e s m args below meth c G hr hk hM ls hl => ?_)
  have G : CallFix p m c cJ1_charAt_3b067 2 s args mTs RJ1 := G
  have hl : lv_has ls 2 [(0, .ref (eV E k)), (1, vI i)] := hl
  refine r_iload_n (np := 1) G hl 1 rfl dJ1_charAt_3b067_0 rfl rfl ?_
  refine r_aload_n (np := 2) G hl 0 rfl dJ1_charAt_3b067_1 rfl rfl ?_
  refine r_slen (np := 3) G hM h3 dJ1_charAt_3b067_2 rfl ?_
  refine m_callSV (np := 6) G hM hl.1 [vI i, vI ((mXLen.getD k 0 : Nat) : Int)] (q_sci l E σ i _ ⟨h.1, by rw [wI_eq (x := ((mXLen.getD k 0 : Nat) : Int)) (by omega) (by omega)]; exact h.2⟩) myJ0_checkIndex_df160 k_L9 ⟨Nat.le_of_ble_eq_true rfl, Nat.le_of_ble_eq_true rfl⟩ ⟨Nat.le_of_ble_eq_true rfl, Nat.le_of_ble_eq_true rfl⟩ [] rfl (Nat.le_of_ble_eq_true rfl) dJ1_charAt_3b067_3 rfl (fun H locs hM => ?_)
  refine r_aload_n (np := 7) G hl 0 rfl dJ1_charAt_3b067_6 rfl rfl ?_
  refine r_iload_n (np := 8) G hl 1 rfl dJ1_charAt_3b067_7 rfl rfl ?_
  refine r_sbal (np := 9) G hM h3 h dJ1_charAt_3b067_8 rfl ?_
  refine r_sipush (np := 12) G 255 dJ1_charAt_3b067_9 (by decide) rfl ?_
  refine lv_iand G.1 G.2.1 dJ1_charAt_3b067_12 ?_
  refine lv_i2c G.1 G.2.1 dJ1_charAt_3b067_13 hb.1 ?_
  have e : vI ((mXByt.getD k []).getD (wI i).toNat 0).toInt = .int ((mXByt.getD k []).getD (wI i).toNat 0) := by
    unfold vI
    rw [Int32.ofInt_toInt]
  rw [e]
  exact W.zret G.1 G.2.1 hr hb.2 (fun t ht _ => ⟨rfl, by rw [ht]; exact hM.2.2.2.1, hM.2.2.2.2.2.F ht⟩) hM.2.2.2.2.2.2.2 dJ1_charAt_3b067_14 hk
theorem q_scoder (l : Launch) (E : mE) (σ : mSt) (k : Nat) (h3 : k < 3) : mMet l yJ0_coder_7d493 cJ0_coder_7d493 1 (some .byte) 0 0 E 257 [.ref (eK E k)] σ (some (vI 0)) σ := by
  refine m_entryF (by decide +kernel) (Nat.le_of_ble_eq_true rfl) (fun p e s m args below meth c G hr hk hM ls hl => ?_)
  have G : CallFix p m c cJ0_coder_7d493 1 s args mTs RJ0 := G
  have hl : lv_has ls 1 [(0, .ref (eK E k))] := hl
  refine r_scs (np := 3) G hM dJ0_coder_7d493_0 rfl ?_
  refine r_if_eq (np := 6) (tgt := 13) G (wIk 1 rfl) dJ0_coder_7d493_3 (by decide) rfl (fun hc => absurd hc (by decide)) (fun hc => ?_)
  refine r_aload_n (np := 7) G hl 0 rfl dJ0_coder_7d493_6 rfl rfl ?_
  refine r_scod (np := 10) G hM h3 dJ0_coder_7d493_7 rfl ?_
  refine r_goto (np := 14) G dJ0_coder_7d493_10 (by decide) ?_
  exact r_bret (out := (0, σ)) G hr hk hM ⟨by decide, by decide⟩ rfl dJ0_coder_7d493_14
theorem q_slat (l : Launch) (E : mE) (σ : mSt) (k : Nat) (h3 : k < 3) : mMet l yJ0_isLatin1_aae02 cJ0_isLatin1_aae02 1 (some .boolean) 0 0 E 257 [.ref (eK E k)] σ (some (vI 1)) σ := by
  refine m_entryF (by decide +kernel) (Nat.le_of_ble_eq_true rfl) (fun p e s m args below meth c G hr hk hM ls hl => ?_)
  have G : CallFix p m c cJ0_isLatin1_aae02 1 s args mTs RJ0 := G
  have hl : lv_has ls 1 [(0, .ref (eK E k))] := hl
  refine r_scs (np := 3) G hM dJ0_isLatin1_aae02_0 rfl ?_
  refine r_if_eq (np := 6) (tgt := 17) G (wIk 1 rfl) dJ0_isLatin1_aae02_3 (by decide) rfl (fun hc => absurd hc (by decide)) (fun hc => ?_)
  refine r_aload_n (np := 7) G hl 0 rfl dJ0_isLatin1_aae02_6 rfl rfl ?_
  refine r_scod (np := 10) G hM h3 dJ0_isLatin1_aae02_7 rfl ?_
  refine r_if_ne (np := 13) (tgt := 17) G (wIk 0 rfl) dJ0_isLatin1_aae02_10 (by decide) rfl (fun hc => absurd rfl hc) (fun hc => ?_)
  refine r_iconst (np := 14) G 1 dJ0_isLatin1_aae02_13 rfl ?_
  refine r_goto (np := 18) G dJ0_isLatin1_aae02_14 (by decide) ?_
  exact r_zret (out := (1, σ)) G hr hk hM (Or.inr rfl) rfl dJ0_isLatin1_aae02_18
theorem q_slength (l : Launch) (E : mE) (σ : mSt) (k : Nat) (h3 : k < 3) : mMet l yJ0_length_8abf5 cJ0_length_8abf5 1 (some .int) 4 200 E 257 [.ref (eK E k)] σ (some (vI ((mXLen.getD k 0 : Nat) : Int))) σ := by
  refine m_entryF (by decide +kernel) (Nat.le_of_ble_eq_true rfl) (fun p e s m args below meth c G hr hk hM ls hl => ?_)
  have G : CallFix p m c cJ0_length_8abf5 1 s args mTs RJ0 := G
  have hl : lv_has ls 1 [(0, .ref (eK E k))] := hl
  refine r_aload_n (np := 1) G hl 0 rfl dJ0_length_8abf5_0 rfl rfl ?_
  refine r_sval (np := 4) G hM h3 dJ0_length_8abf5_1 rfl ?_
  refine r_slen (np := 5) G hM h3 dJ0_length_8abf5_4 rfl ?_
  refine r_aload_n (np := 6) G hl 0 rfl dJ0_length_8abf5_5 rfl rfl ?_
  refine m_callStr (np := 9) (rest := [vI ((mXLen.getD k 0 : Nat) : Int)]) (As := []) G hM hl.1 (q_scoder l E σ k h3) myJ0_coder_7d493 h3 rfl k_335 ⟨Nat.le_of_ble_eq_true rfl, Nat.le_of_ble_eq_true rfl⟩ ⟨Nat.le_of_ble_eq_true rfl, Nat.le_of_ble_eq_true rfl⟩ rfl (Nat.le_of_ble_eq_true rfl) dJ0_length_8abf5_6 rfl (fun H locs hM => ?_)
  refine r_ishr (np := 10) G dJ0_length_8abf5_9 rfl ?_
  have e : vI (oShr ((mXLen.getD k 0 : Nat) : Int) 0) = vI ((mXLen.getD k 0 : Nat) : Int) := by
    rcases (by omega : k = 0 ∨ k = 1 ∨ k = 2) with rfl | rfl | rfl <;> decide
  rw [e]
  exact r_iret (out := (((mXLen.getD k 0 : Nat) : Int), σ)) G hr hk hM rfl dJ0_length_8abf5_10
theorem q_scharAt (l : Launch) (E : mE) (σ : mSt) (k : Nat) (i : Int) (h3 : k < 3) (h : 0 ≤ wI i ∧ wI i < ((mXLen.getD k 0 : Nat) : Int)) : mMet l yJ0_charAt_5068e cJ0_charAt_5068e 2 (some .char) 4 200 E 257 [.ref (eK E k), vI i] σ (some (vI ((mXByt.getD k []).getD (wI i).toNat 0).toInt)) σ := by
  have hb := sx_b k h3 (wI i).toNat (by omega)
  refine m_entryF (by decide +kernel) (Nat.le_of_ble_eq_true rfl) (fun p e s m args below meth c G hr hk hM ls hl => ?_)
  have G : CallFix p m c cJ0_charAt_5068e 2 s args mTs RJ0 := G
  have hl : lv_has ls 2 [(0, .ref (eK E k)), (1, vI i)] := hl
  refine r_aload_n (np := 1) G hl 0 rfl dJ0_charAt_5068e_0 rfl rfl ?_
  refine m_callStr (np := 4) (rest := []) (As := []) G hM hl.1 (q_slat l E σ k h3) myJ0_isLatin1_aae02 h3 rfl k_492 ⟨Nat.le_of_ble_eq_true rfl, Nat.le_of_ble_eq_true rfl⟩ ⟨Nat.le_of_ble_eq_true rfl, Nat.le_of_ble_eq_true rfl⟩ rfl (Nat.le_of_ble_eq_true rfl) dJ0_charAt_5068e_1 rfl (fun H locs hM => ?_)
  refine r_if_eq (np := 7) (tgt := 16) G (wIk 1 rfl) dJ0_charAt_5068e_4 (by decide) rfl (fun hc => absurd hc (by decide)) (fun hc => ?_)
  refine r_aload_n (np := 8) G hl 0 rfl dJ0_charAt_5068e_7 rfl rfl ?_
  refine r_sval (np := 11) G hM h3 dJ0_charAt_5068e_8 rfl ?_
  refine r_iload_n (np := 12) G hl 1 rfl dJ0_charAt_5068e_11 rfl rfl ?_
  refine m_callSI (np := 15) G hM hl.1 [.ref (eV E k), vI i] (q_sla l E σ k i h3 h) myJ1_charAt_3b067 k_495 ⟨Nat.le_of_ble_eq_true rfl, Nat.le_of_ble_eq_true rfl⟩ ⟨Nat.le_of_ble_eq_true rfl, Nat.le_of_ble_eq_true rfl⟩ [] rfl (Nat.le_of_ble_eq_true rfl) dJ0_charAt_5068e_12 rfl (fun H locs hM => ?_)
  have e : vI ((mXByt.getD k []).getD (wI i).toNat 0).toInt = .int ((mXByt.getD k []).getD (wI i).toNat 0) := by
    unfold vI
    rw [Int32.ofInt_toInt]
  rw [e]
  exact W.zret G.1 G.2.1 hr hb.2 (fun t ht _ => ⟨rfl, by rw [ht]; exact hM.2.2.2.1, hM.2.2.2.2.2.F ht⟩) hM.2.2.2.2.2.2.2 dJ0_charAt_5068e_15 hk
section MSY
variable {p : Program} {l : Launch} {e : Env} {R : Room} {s : State} {m : MethodId} {args : Array Value} {below : List Frame} {meth : Method} {c : Code} {H : Heap} {locs : List Loc} {cells slots : Nat} {Q : State → Prop}
variable {cc : ByteArray} {pc np nL : Nat} {ls : Array Slot} {own : String} {A : Nat → Prop} {E : mE} {σ : mSt}
theorem r_strlen (G : CallFix p m c cc nL s args mTs own) (hM : mM A E 257 σ s H locs) {k : Nat} (hk : k < 3) (hls : ls.size = nL) {ix : Nat} (hw : Cond.methodLink own ix yJ0_length_8abf5 ∈ mTs) (hroom : 5 ≤ R.frames ∧ 8 + (1 + 11) + 200 ≤ R.locals) (hcs : cells ≤ R.cells ∧ slots ≤ R.slots) (rest : List Value) (hcat : (rest.map fun v => v.category).sum ≤ 8) (d : decode cc pc = .ok (.invokevirtual ix, 3)) (hn : pc + 3 = np)
    (kk : ∀ (H1 : Heap) (locs1 : List Loc), mM A E 257 σ s H1 locs1 → W p l e R s m args below meth c H1 locs1 cells slots Q (F0 m np ls (vI ((mXLen.getD k 0 : Nat) : Int) :: rest))) : W p l e R s m args below meth c H locs cells slots Q (F0 m pc ls (.ref (eK E k) :: rest)) :=
  m_callStr (rest := rest) (As := []) G hM hls (q_slength l E σ k hk) myJ0_length_8abf5 hk rfl hw hroom hcs rfl hcat d hn kk
theorem r_strat (G : CallFix p m c cc nL s args mTs own) (hM : mM A E 257 σ s H locs) {k : Nat} {i : Int} (h : k < 3 ∧ 0 ≤ wI i ∧ wI i < ((mXLen.getD k 0 : Nat) : Int)) (hls : ls.size = nL) {ix : Nat} (hw : Cond.methodLink own ix yJ0_charAt_5068e ∈ mTs) (hroom : 5 ≤ R.frames ∧ 8 + (2 + 11) + 200 ≤ R.locals) (hcs : cells ≤ R.cells ∧ slots ≤ R.slots) (rest : List Value) (hcat : (rest.map fun v => v.category).sum ≤ 8) (d : decode cc pc = .ok (.invokevirtual ix, 3)) (hn : pc + 3 = np)
    (kk : ∀ (H1 : Heap) (locs1 : List Loc), mM A E 257 σ s H1 locs1 → W p l e R s m args below meth c H1 locs1 cells slots Q (F0 m np ls (vI ((mXByt.getD k []).getD (wI i).toNat 0).toInt :: rest))) : W p l e R s m args below meth c H locs cells slots Q (F0 m pc ls (vI i :: .ref (eK E k) :: rest)) :=
  m_callStr (rest := rest) (As := [vI i]) G hM hls (q_scharAt l E σ k i h.1 h.2) myJ0_charAt_5068e h.1 rfl hw hroom hcs rfl hcat d hn kk
end MSY
