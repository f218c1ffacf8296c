/-! .. appending texts and letters (laid by jdk2.py) -/
theorem jX_fit {A : Nat → Prop} {x : sX} {s : State} {H : Heap} (h : sT A x s H) : ∀ j, j < x.2.2.length → fits .byte (.int (Int32.ofNat (x.2.2.getD j 0))) = true := fun j hj => jByte (h.2.2.2.2.2 _ (by rw [List.getD_eq_getElem?_getD, List.getElem?_eq_getElem hj]; exact List.getElem_mem hj))
theorem jT_app {bs cs : List Nat} {f g : Nat → Int32} (h : jT bs f) (h1 : ∀ j, j < bs.length → g j = f j) (h2 : ∀ i, i < cs.length → g (bs.length + i) = Int32.ofNat (cs.getD i 0)) : jT (bs ++ cs) g := by
  intro j hj
  rw [List.length_append] at hj
  by_cases h3 : j < bs.length
  · rw [h1 j h3, h j h3, List.getD_eq_getElem?_getD, List.getD_eq_getElem?_getD, List.getElem?_append_left h3]
  · have := h2 (j - bs.length) (by omega)
    rw [show bs.length + (j - bs.length) = j by omega] at this
    rw [this, List.getD_eq_getElem?_getD, List.getD_eq_getElem?_getD, List.getElem?_append_right (by omega)]
theorem fit_cpyN {f g : Nat → Int32} {n w : Nat} (hf : ∀ j, j < w → fits .byte (.int (f j)) = true) (hg : sb_Fit g) : sb_Fit (va_cpy f g 0 n w) := by
  intro j
  unfold va_cpy
  by_cases h : n ≤ j ∧ j < n + w
  · rw [if_pos h]; exact hf _ (by omega)
  · rw [if_neg h]; exact hg j
theorem bK_app {bs cs : List Nat} {k k2 : Nat} {f f2 : Nat → Int32} (hB : bK bs k f) (g1 : bs.length + cs.length ≤ k2) (g3 : k2 ≤ 700) (g4 : sb_Fit f2) (g5 : ∀ j, j < k → f2 j = f j) (hc : ∀ j, j < cs.length → fits .byte (.int (Int32.ofNat (cs.getD j 0))) = true) : bK (bs ++ cs) k2 (va_cpy (fun j => Int32.ofNat (cs.getD j 0)) f2 0 bs.length cs.length) := by
  obtain ⟨b1, b2, b3, b4⟩ := hB
  refine ⟨by rw [List.length_append]; exact g1, g3, fit_cpyN hc g4, jT_app b4 (fun j hj => ?_) (fun i hi => ?_)⟩
  · unfold va_cpy
    rw [if_neg (by omega)]
    exact g5 j (by omega)
  · unfold va_cpy
    rw [if_pos (by omega), show 0 + (bs.length + i - bs.length) = i by omega]
theorem bK_one {bs : List Nat} {k k2 q : Nat} {f f2 : Nat → Int32} (hB : bK bs k f) (g1 : bs.length + 1 ≤ k2) (g3 : k2 ≤ 700) (g4 : sb_Fit f2) (g5 : ∀ j, j < k → f2 j = f j) (hq : q < 128) : bK (bs ++ [q]) k2 (upd f2 bs.length (Int32.ofInt (q : Int))) := by
  obtain ⟨b1, b2, b3, b4⟩ := hB
  have e : Int32.ofInt (q : Int) = Int32.ofNat q := Int32.ofInt_eq_ofNat
  refine ⟨by rw [List.length_append]; exact g1, g3, sb_fitU g4 (by rw [e]; exact jByte hq), jT_app b4 (fun j hj => ?_) (fun i hi => ?_)⟩
  · simp only [upd]
    rw [if_neg (by omega)]
    exact g5 j (by omega)
  · have h0 : i = 0 := by simp at hi; omega
    subst h0
    simp [upd, e]
theorem ljJ5_40 : Cond.methodLink RJ5 40 yJ0_coder_7d493 ∈ mTs := mTs_in 891 (by decide +kernel) (by decide +kernel)
theorem ljJ0_212 : Cond.methodLink RJ0 212 arraycopyName ∈ mTs := mTs_in 915 (by decide +kernel) (by decide +kernel)
theorem ljJ5_397 : Cond.methodLink RJ5 397 yJ5_inflateIfNeededFor_a7421 ∈ mTs := mTs_in 887 (by decide +kernel) (by decide +kernel)
theorem jbJ5_inflateIfNeededFor_a7421 : mY yJ5_inflateIfNeededFor_a7421 cJ5_inflateIfNeededFor_a7421 2 none 1 := ⟨mTs_in 890 (by decide +kernel) (by decide +kernel), mTs_in 41 (by decide +kernel) (by decide +kernel), ⟨by decide, by decide⟩, by decide +kernel⟩
theorem jiJ5_inflateIfNeededFor_a7421 : Cond.instanceMethod yJ5_inflateIfNeededFor_a7421 ∈ mTs := mTs_in 889 (by decide +kernel) (by decide +kernel)
theorem jvJ5_inflateIfNeededFor_a7421 : jYV "java/lang/StringBuilder" yJ5_inflateIfNeededFor_a7421 cJ5_inflateIfNeededFor_a7421 2 none 1 := ⟨jbJ5_inflateIfNeededFor_a7421, jiJ5_inflateIfNeededFor_a7421, Or.inr ⟨mTs_in 787 (by decide +kernel) (by decide +kernel), mTs_in 888 (by decide +kernel) (by decide +kernel)⟩⟩
theorem ljJ5_399 : Cond.methodLink RJ5 399 yJ0_getBytes_840e7 ∈ mTs := mTs_in 911 (by decide +kernel) (by decide +kernel)
theorem jbJ0_getBytes_840e7 : mY yJ0_getBytes_840e7 cJ0_getBytes_840e7 4 none 3 := ⟨mTs_in 914 (by decide +kernel) (by decide +kernel), mTs_in 43 (by decide +kernel) (by decide +kernel), ⟨by decide, by decide⟩, by decide +kernel⟩
theorem jiJ0_getBytes_840e7 : Cond.instanceMethod yJ0_getBytes_840e7 ∈ mTs := mTs_in 912 (by decide +kernel) (by decide +kernel)
theorem jvJ0_getBytes_840e7 : jYV "java/lang/String" yJ0_getBytes_840e7 cJ0_getBytes_840e7 4 none 3 := ⟨jbJ0_getBytes_840e7, jiJ0_getBytes_840e7, Or.inl (mTs_in 913 (by decide +kernel) (by decide +kernel))⟩
theorem ljJ5_32 : Cond.methodLink RJ5 32 yJ0_length_8abf5 ∈ mTs := mTs_in 882 (by decide +kernel) (by decide +kernel)
theorem jbJ0_length_8abf5 : mY yJ0_length_8abf5 cJ0_length_8abf5 1 (some .int) 0 := ⟨mTs_in 458 (by decide +kernel) (by decide +kernel), mTs_in 43 (by decide +kernel) (by decide +kernel), ⟨by decide, by decide⟩, by decide +kernel⟩
theorem jiJ0_length_8abf5 : Cond.instanceMethod yJ0_length_8abf5 ∈ mTs := mTs_in 456 (by decide +kernel) (by decide +kernel)
theorem jvJ0_length_8abf5 : jYV "java/lang/String" yJ0_length_8abf5 cJ0_length_8abf5 1 (some .int) 0 := ⟨jbJ0_length_8abf5, jiJ0_length_8abf5, Or.inl (mTs_in 457 (by decide +kernel) (by decide +kernel))⟩
theorem ljJ5_79t : Cond.fieldLink RJ5 79 (TJ4 3).1 (TJ4 3).2.1 (TJ4 3).2.2.1 ∈ mTs := mTs_in 806 (by decide +kernel) (by decide +kernel)
theorem jf12_3 : jFld 12 3 RJ4 TJ4 := ⟨rfl, inJ4, by decide⟩
theorem ljJ5_100 : Cond.methodLink RJ5 100 yJ5_ensureCapacityInternal_d00df ∈ mTs := mTs_in 827 (by decide +kernel) (by decide +kernel)
theorem jbJ5_ensureCapacityInternal_d00df : mY yJ5_ensureCapacityInternal_d00df cJ5_ensureCapacityInternal_d00df 3 none 1 := ⟨mTs_in 830 (by decide +kernel) (by decide +kernel), mTs_in 41 (by decide +kernel) (by decide +kernel), ⟨by decide, by decide⟩, by decide +kernel⟩
theorem jiJ5_ensureCapacityInternal_d00df : Cond.instanceMethod yJ5_ensureCapacityInternal_d00df ∈ mTs := mTs_in 829 (by decide +kernel) (by decide +kernel)
theorem jvJ5_ensureCapacityInternal_d00df : jYV "java/lang/StringBuilder" yJ5_ensureCapacityInternal_d00df cJ5_ensureCapacityInternal_d00df 3 none 1 := ⟨jbJ5_ensureCapacityInternal_d00df, jiJ5_ensureCapacityInternal_d00df, Or.inr ⟨mTs_in 787 (by decide +kernel) (by decide +kernel), mTs_in 828 (by decide +kernel) (by decide +kernel)⟩⟩
theorem ljJ5_208 : Cond.methodLink RJ5 208 yJ5_putStringAt_47b60 ∈ mTs := mTs_in 883 (by decide +kernel) (by decide +kernel)
theorem jbJ5_putStringAt_47b60 : mY yJ5_putStringAt_47b60 cJ5_putStringAt_47b60 3 none 2 := ⟨mTs_in 886 (by decide +kernel) (by decide +kernel), mTs_in 41 (by decide +kernel) (by decide +kernel), ⟨by decide, by decide⟩, by decide +kernel⟩
theorem jiJ5_putStringAt_47b60 : Cond.instanceMethod yJ5_putStringAt_47b60 ∈ mTs := mTs_in 885 (by decide +kernel) (by decide +kernel)
theorem jvJ5_putStringAt_47b60 : jYV "java/lang/StringBuilder" yJ5_putStringAt_47b60 cJ5_putStringAt_47b60 3 none 2 := ⟨jbJ5_putStringAt_47b60, jiJ5_putStringAt_47b60, Or.inr ⟨mTs_in 787 (by decide +kernel) (by decide +kernel), mTs_in 884 (by decide +kernel) (by decide +kernel)⟩⟩
theorem ljJ4_29 : Cond.methodLink RJ4 29 yJ5_append_cf1ce ∈ mTs := mTs_in 820 (by decide +kernel) (by decide +kernel)
theorem jbJ5_append_cf1ce : mY yJ5_append_cf1ce cJ5_append_cf1ce 3 (some (.object "java/lang/AbstractStringBuilder")) 1 := ⟨mTs_in 822 (by decide +kernel) (by decide +kernel), mTs_in 41 (by decide +kernel) (by decide +kernel), ⟨by decide, by decide⟩, by decide +kernel⟩
theorem jiJ5_append_cf1ce : Cond.instanceMethod yJ5_append_cf1ce ∈ mTs := mTs_in 821 (by decide +kernel) (by decide +kernel)
theorem jqJ5_append_cf1ce : mY yJ5_append_cf1ce cJ5_append_cf1ce 3 (some (.object "java/lang/AbstractStringBuilder")) 1 ∧ Cond.instanceMethod yJ5_append_cf1ce ∈ mTs := ⟨jbJ5_append_cf1ce, jiJ5_append_cf1ce⟩
theorem ljJ5_83 : Cond.methodLink RJ5 83 yJ5_isLatin1_aae02 ∈ mTs := mTs_in 862 (by decide +kernel) (by decide +kernel)
theorem jbJ5_isLatin1_aae02 : mY yJ5_isLatin1_aae02 cJ5_isLatin1_aae02 1 (some .boolean) 0 := ⟨mTs_in 866 (by decide +kernel) (by decide +kernel), mTs_in 41 (by decide +kernel) (by decide +kernel), ⟨by decide, by decide⟩, by decide +kernel⟩
theorem jiJ5_isLatin1_aae02 : Cond.instanceMethod yJ5_isLatin1_aae02 ∈ mTs := mTs_in 863 (by decide +kernel) (by decide +kernel)
theorem jvJ5_isLatin1_aae02 : jYV "java/lang/StringBuilder" yJ5_isLatin1_aae02 cJ5_isLatin1_aae02 1 (some .boolean) 0 := ⟨jbJ5_isLatin1_aae02, jiJ5_isLatin1_aae02, Or.inl (mTs_in 865 (by decide +kernel) (by decide +kernel))⟩
theorem ljJ5_191 : Cond.methodLink RJ5 191 yJ1_canEncode_fc78d ∈ mTs := mTs_in 924 (by decide +kernel) (by decide +kernel)
theorem jbJ1_canEncode_fc78d : mY yJ1_canEncode_fc78d cJ1_canEncode_fc78d 1 (some .boolean) 1 := ⟨mTs_in 926 (by decide +kernel) (by decide +kernel), mTs_in 50 (by decide +kernel) (by decide +kernel), ⟨by decide, by decide⟩, by decide +kernel⟩
theorem jsJ1_canEncode_fc78d : mYS yJ1_canEncode_fc78d cJ1_canEncode_fc78d 1 (some .boolean) 1 := ⟨jbJ1_canEncode_fc78d, mTs_in 925 (by decide +kernel) (by decide +kernel)⟩
theorem ljJ4_50 : Cond.methodLink RJ4 50 yJ5_append_3fe6f ∈ mTs := mTs_in 921 (by decide +kernel) (by decide +kernel)
theorem jbJ5_append_3fe6f : mY yJ5_append_3fe6f cJ5_append_3fe6f 2 (some (.object "java/lang/AbstractStringBuilder")) 1 := ⟨mTs_in 923 (by decide +kernel) (by decide +kernel), mTs_in 41 (by decide +kernel) (by decide +kernel), ⟨by decide, by decide⟩, by decide +kernel⟩
theorem jiJ5_append_3fe6f : Cond.instanceMethod yJ5_append_3fe6f ∈ mTs := mTs_in 922 (by decide +kernel) (by decide +kernel)
theorem jqJ5_append_3fe6f : mY yJ5_append_3fe6f cJ5_append_3fe6f 2 (some (.object "java/lang/AbstractStringBuilder")) 1 ∧ Cond.instanceMethod yJ5_append_3fe6f ∈ mTs := ⟨jbJ5_append_3fe6f, jiJ5_append_3fe6f⟩
theorem dJ5_inflateIfNeededFor_a7421_0 : decode cJ5_inflateIfNeededFor_a7421 0 = .ok (.getstatic 18, 3) := by decide +kernel
theorem dJ5_inflateIfNeededFor_a7421_3 : decode cJ5_inflateIfNeededFor_a7421 3 = .ok (.ifCond .eq 18, 3) := by decide +kernel
theorem dJ5_inflateIfNeededFor_a7421_6 : decode cJ5_inflateIfNeededFor_a7421 6 = .ok (.aload_n 0, 1) := by decide +kernel
theorem dJ5_inflateIfNeededFor_a7421_7 : decode cJ5_inflateIfNeededFor_a7421 7 = .ok (.getfield 22, 3) := by decide +kernel
theorem dJ5_inflateIfNeededFor_a7421_10 : decode cJ5_inflateIfNeededFor_a7421 10 = .ok (.aload_n 1, 1) := by decide +kernel
theorem dJ5_inflateIfNeededFor_a7421_11 : decode cJ5_inflateIfNeededFor_a7421 11 = .ok (.invokevirtual 40, 3) := by decide +kernel
theorem dJ5_inflateIfNeededFor_a7421_14 : decode cJ5_inflateIfNeededFor_a7421 14 = .ok (.if_icmp .eq 7, 3) := by decide +kernel
theorem dJ5_inflateIfNeededFor_a7421_17 : decode cJ5_inflateIfNeededFor_a7421 17 = .ok (.aload_n 0, 1) := by decide +kernel
theorem dJ5_inflateIfNeededFor_a7421_18 : decode cJ5_inflateIfNeededFor_a7421 18 = .ok (.invokevirtual 195, 3) := by decide +kernel
theorem dJ5_inflateIfNeededFor_a7421_21 : decode cJ5_inflateIfNeededFor_a7421 21 = .ok (.return_, 1) := by decide +kernel
theorem dJ0_getBytes_840e7_0 : decode cJ0_getBytes_840e7 0 = .ok (.aload_n 0, 1) := by decide +kernel
theorem dJ0_getBytes_840e7_1 : decode cJ0_getBytes_840e7 1 = .ok (.invokevirtual 335, 3) := by decide +kernel
theorem dJ0_getBytes_840e7_4 : decode cJ0_getBytes_840e7 4 = .ok (.iload_n 3, 1) := by decide +kernel
theorem dJ0_getBytes_840e7_5 : decode cJ0_getBytes_840e7 5 = .ok (.if_icmp .ne 23, 3) := by decide +kernel
theorem dJ0_getBytes_840e7_8 : decode cJ0_getBytes_840e7 8 = .ok (.aload_n 0, 1) := by decide +kernel
theorem dJ0_getBytes_840e7_9 : decode cJ0_getBytes_840e7 9 = .ok (.getfield 9, 3) := by decide +kernel
theorem dJ0_getBytes_840e7_12 : decode cJ0_getBytes_840e7 12 = .ok (.iconst 0, 1) := by decide +kernel
theorem dJ0_getBytes_840e7_13 : decode cJ0_getBytes_840e7 13 = .ok (.aload_n 1, 1) := by decide +kernel
theorem dJ0_getBytes_840e7_14 : decode cJ0_getBytes_840e7 14 = .ok (.iload_n 2, 1) := by decide +kernel
theorem dJ0_getBytes_840e7_15 : decode cJ0_getBytes_840e7 15 = .ok (.iload_n 3, 1) := by decide +kernel
theorem dJ0_getBytes_840e7_16 : decode cJ0_getBytes_840e7 16 = .ok (.ishl, 1) := by decide +kernel
theorem dJ0_getBytes_840e7_17 : decode cJ0_getBytes_840e7 17 = .ok (.aload_n 0, 1) := by decide +kernel
theorem dJ0_getBytes_840e7_18 : decode cJ0_getBytes_840e7 18 = .ok (.getfield 9, 3) := by decide +kernel
theorem dJ0_getBytes_840e7_21 : decode cJ0_getBytes_840e7 21 = .ok (.arraylength, 1) := by decide +kernel
theorem dJ0_getBytes_840e7_22 : decode cJ0_getBytes_840e7 22 = .ok (.invokestatic 212, 3) := by decide +kernel
theorem dJ0_getBytes_840e7_25 : decode cJ0_getBytes_840e7 25 = .ok (.goto 18, 3) := by decide +kernel
theorem dJ0_getBytes_840e7_28 : decode cJ0_getBytes_840e7 28 = .ok (.aload_n 0, 1) := by decide +kernel
theorem dJ0_getBytes_840e7_29 : decode cJ0_getBytes_840e7 29 = .ok (.getfield 9, 3) := by decide +kernel
theorem dJ0_getBytes_840e7_32 : decode cJ0_getBytes_840e7 32 = .ok (.iconst 0, 1) := by decide +kernel
theorem dJ0_getBytes_840e7_33 : decode cJ0_getBytes_840e7 33 = .ok (.aload_n 1, 1) := by decide +kernel
theorem dJ0_getBytes_840e7_34 : decode cJ0_getBytes_840e7 34 = .ok (.iload_n 2, 1) := by decide +kernel
theorem dJ0_getBytes_840e7_35 : decode cJ0_getBytes_840e7 35 = .ok (.aload_n 0, 1) := by decide +kernel
theorem dJ0_getBytes_840e7_36 : decode cJ0_getBytes_840e7 36 = .ok (.getfield 9, 3) := by decide +kernel
theorem dJ0_getBytes_840e7_39 : decode cJ0_getBytes_840e7 39 = .ok (.arraylength, 1) := by decide +kernel
theorem dJ0_getBytes_840e7_40 : decode cJ0_getBytes_840e7 40 = .ok (.invokestatic 106, 3) := by decide +kernel
theorem dJ0_getBytes_840e7_43 : decode cJ0_getBytes_840e7 43 = .ok (.return_, 1) := by decide +kernel
theorem dJ5_putStringAt_47b60_0 : decode cJ5_putStringAt_47b60 0 = .ok (.aload_n 0, 1) := by decide +kernel
theorem dJ5_putStringAt_47b60_1 : decode cJ5_putStringAt_47b60 1 = .ok (.aload_n 2, 1) := by decide +kernel
theorem dJ5_putStringAt_47b60_2 : decode cJ5_putStringAt_47b60 2 = .ok (.invokevirtual 397, 3) := by decide +kernel
theorem dJ5_putStringAt_47b60_5 : decode cJ5_putStringAt_47b60 5 = .ok (.aload_n 2, 1) := by decide +kernel
theorem dJ5_putStringAt_47b60_6 : decode cJ5_putStringAt_47b60 6 = .ok (.aload_n 0, 1) := by decide +kernel
theorem dJ5_putStringAt_47b60_7 : decode cJ5_putStringAt_47b60 7 = .ok (.getfield 15, 3) := by decide +kernel
theorem dJ5_putStringAt_47b60_10 : decode cJ5_putStringAt_47b60 10 = .ok (.iload_n 1, 1) := by decide +kernel
theorem dJ5_putStringAt_47b60_11 : decode cJ5_putStringAt_47b60 11 = .ok (.aload_n 0, 1) := by decide +kernel
theorem dJ5_putStringAt_47b60_12 : decode cJ5_putStringAt_47b60 12 = .ok (.getfield 22, 3) := by decide +kernel
theorem dJ5_putStringAt_47b60_15 : decode cJ5_putStringAt_47b60 15 = .ok (.invokevirtual 399, 3) := by decide +kernel
theorem dJ5_putStringAt_47b60_18 : decode cJ5_putStringAt_47b60 18 = .ok (.return_, 1) := by decide +kernel
theorem dJ5_append_cf1ce_0 : decode cJ5_append_cf1ce 0 = .ok (.aload_n 1, 1) := by decide +kernel
theorem dJ5_append_cf1ce_1 : decode cJ5_append_cf1ce 1 = .ok (.ifnonnull 8, 3) := by decide +kernel
theorem dJ5_append_cf1ce_4 : decode cJ5_append_cf1ce 4 = .ok (.aload_n 0, 1) := by decide +kernel
theorem dJ5_append_cf1ce_5 : decode cJ5_append_cf1ce 5 = .ok (.invokevirtual 204, 3) := by decide +kernel
theorem dJ5_append_cf1ce_8 : decode cJ5_append_cf1ce 8 = .ok (.areturn, 1) := by decide +kernel
theorem dJ5_append_cf1ce_9 : decode cJ5_append_cf1ce 9 = .ok (.aload_n 1, 1) := by decide +kernel
theorem dJ5_append_cf1ce_10 : decode cJ5_append_cf1ce 10 = .ok (.invokevirtual 32, 3) := by decide +kernel
theorem dJ5_append_cf1ce_13 : decode cJ5_append_cf1ce 13 = .ok (.istore_n 2, 1) := by decide +kernel
theorem dJ5_append_cf1ce_14 : decode cJ5_append_cf1ce 14 = .ok (.aload_n 0, 1) := by decide +kernel
theorem dJ5_append_cf1ce_15 : decode cJ5_append_cf1ce 15 = .ok (.aload_n 0, 1) := by decide +kernel
theorem dJ5_append_cf1ce_16 : decode cJ5_append_cf1ce 16 = .ok (.getfield 79, 3) := by decide +kernel
theorem dJ5_append_cf1ce_19 : decode cJ5_append_cf1ce 19 = .ok (.iload_n 2, 1) := by decide +kernel
theorem dJ5_append_cf1ce_20 : decode cJ5_append_cf1ce 20 = .ok (.iadd, 1) := by decide +kernel
theorem dJ5_append_cf1ce_21 : decode cJ5_append_cf1ce 21 = .ok (.invokevirtual 100, 3) := by decide +kernel
theorem dJ5_append_cf1ce_24 : decode cJ5_append_cf1ce 24 = .ok (.aload_n 0, 1) := by decide +kernel
theorem dJ5_append_cf1ce_25 : decode cJ5_append_cf1ce 25 = .ok (.aload_n 0, 1) := by decide +kernel
theorem dJ5_append_cf1ce_26 : decode cJ5_append_cf1ce 26 = .ok (.getfield 79, 3) := by decide +kernel
theorem dJ5_append_cf1ce_29 : decode cJ5_append_cf1ce 29 = .ok (.aload_n 1, 1) := by decide +kernel
theorem dJ5_append_cf1ce_30 : decode cJ5_append_cf1ce 30 = .ok (.invokevirtual 208, 3) := by decide +kernel
theorem dJ5_append_cf1ce_33 : decode cJ5_append_cf1ce 33 = .ok (.aload_n 0, 1) := by decide +kernel
theorem dJ5_append_cf1ce_34 : decode cJ5_append_cf1ce 34 = .ok (.dup, 1) := by decide +kernel
theorem dJ5_append_cf1ce_35 : decode cJ5_append_cf1ce 35 = .ok (.getfield 79, 3) := by decide +kernel
theorem dJ5_append_cf1ce_38 : decode cJ5_append_cf1ce 38 = .ok (.iload_n 2, 1) := by decide +kernel
theorem dJ5_append_cf1ce_39 : decode cJ5_append_cf1ce 39 = .ok (.iadd, 1) := by decide +kernel
theorem dJ5_append_cf1ce_40 : decode cJ5_append_cf1ce 40 = .ok (.putfield 79, 3) := by decide +kernel
theorem dJ5_append_cf1ce_43 : decode cJ5_append_cf1ce 43 = .ok (.aload_n 0, 1) := by decide +kernel
theorem dJ5_append_cf1ce_44 : decode cJ5_append_cf1ce 44 = .ok (.areturn, 1) := by decide +kernel
theorem dJ4_append_15ec4_0 : decode cJ4_append_15ec4 0 = .ok (.aload_n 0, 1) := by decide +kernel
theorem dJ4_append_15ec4_1 : decode cJ4_append_15ec4 1 = .ok (.aload_n 1, 1) := by decide +kernel
theorem dJ4_append_15ec4_2 : decode cJ4_append_15ec4 2 = .ok (.invokespecial 29, 3) := by decide +kernel
theorem dJ4_append_15ec4_5 : decode cJ4_append_15ec4 5 = .ok (.pop, 1) := by decide +kernel
theorem dJ4_append_15ec4_6 : decode cJ4_append_15ec4 6 = .ok (.aload_n 0, 1) := by decide +kernel
theorem dJ4_append_15ec4_7 : decode cJ4_append_15ec4 7 = .ok (.areturn, 1) := by decide +kernel
theorem dJ1_canEncode_fc78d_0 : decode cJ1_canEncode_fc78d 0 = .ok (.iload_n 0, 1) := by decide +kernel
theorem dJ1_canEncode_fc78d_1 : decode cJ1_canEncode_fc78d 1 = .ok (.sipush 255, 3) := by decide +kernel
theorem dJ1_canEncode_fc78d_4 : decode cJ1_canEncode_fc78d 4 = .ok (.if_icmp .gt 7, 3) := by decide +kernel
theorem dJ1_canEncode_fc78d_7 : decode cJ1_canEncode_fc78d 7 = .ok (.iconst 1, 1) := by decide +kernel
theorem dJ1_canEncode_fc78d_8 : decode cJ1_canEncode_fc78d 8 = .ok (.goto 4, 3) := by decide +kernel
theorem dJ1_canEncode_fc78d_11 : decode cJ1_canEncode_fc78d 11 = .ok (.iconst 0, 1) := by decide +kernel
theorem dJ1_canEncode_fc78d_12 : decode cJ1_canEncode_fc78d 12 = .ok (.ireturn, 1) := by decide +kernel
theorem dJ5_append_3fe6f_0 : decode cJ5_append_3fe6f 0 = .ok (.aload_n 0, 1) := by decide +kernel
theorem dJ5_append_3fe6f_1 : decode cJ5_append_3fe6f 1 = .ok (.aload_n 0, 1) := by decide +kernel
theorem dJ5_append_3fe6f_2 : decode cJ5_append_3fe6f 2 = .ok (.getfield 79, 3) := by decide +kernel
theorem dJ5_append_3fe6f_5 : decode cJ5_append_3fe6f 5 = .ok (.iconst 1, 1) := by decide +kernel
theorem dJ5_append_3fe6f_6 : decode cJ5_append_3fe6f 6 = .ok (.iadd, 1) := by decide +kernel
theorem dJ5_append_3fe6f_7 : decode cJ5_append_3fe6f 7 = .ok (.invokevirtual 100, 3) := by decide +kernel
theorem dJ5_append_3fe6f_10 : decode cJ5_append_3fe6f 10 = .ok (.aload_n 0, 1) := by decide +kernel
theorem dJ5_append_3fe6f_11 : decode cJ5_append_3fe6f 11 = .ok (.invokevirtual 83, 3) := by decide +kernel
theorem dJ5_append_3fe6f_14 : decode cJ5_append_3fe6f 14 = .ok (.ifCond .eq 31, 3) := by decide +kernel
theorem dJ5_append_3fe6f_17 : decode cJ5_append_3fe6f 17 = .ok (.iload_n 1, 1) := by decide +kernel
theorem dJ5_append_3fe6f_18 : decode cJ5_append_3fe6f 18 = .ok (.invokestatic 191, 3) := by decide +kernel
theorem dJ5_append_3fe6f_21 : decode cJ5_append_3fe6f 21 = .ok (.ifCond .eq 24, 3) := by decide +kernel
theorem dJ5_append_3fe6f_24 : decode cJ5_append_3fe6f 24 = .ok (.aload_n 0, 1) := by decide +kernel
theorem dJ5_append_3fe6f_25 : decode cJ5_append_3fe6f 25 = .ok (.getfield 15, 3) := by decide +kernel
theorem dJ5_append_3fe6f_28 : decode cJ5_append_3fe6f 28 = .ok (.aload_n 0, 1) := by decide +kernel
theorem dJ5_append_3fe6f_29 : decode cJ5_append_3fe6f 29 = .ok (.dup, 1) := by decide +kernel
theorem dJ5_append_3fe6f_30 : decode cJ5_append_3fe6f 30 = .ok (.getfield 79, 3) := by decide +kernel
theorem dJ5_append_3fe6f_33 : decode cJ5_append_3fe6f 33 = .ok (.dup_x1, 1) := by decide +kernel
theorem dJ5_append_3fe6f_34 : decode cJ5_append_3fe6f 34 = .ok (.iconst 1, 1) := by decide +kernel
theorem dJ5_append_3fe6f_35 : decode cJ5_append_3fe6f 35 = .ok (.iadd, 1) := by decide +kernel
theorem dJ5_append_3fe6f_36 : decode cJ5_append_3fe6f 36 = .ok (.putfield 79, 3) := by decide +kernel
theorem dJ5_append_3fe6f_39 : decode cJ5_append_3fe6f 39 = .ok (.iload_n 1, 1) := by decide +kernel
theorem dJ5_append_3fe6f_40 : decode cJ5_append_3fe6f 40 = .ok (.i2b, 1) := by decide +kernel
theorem dJ5_append_3fe6f_41 : decode cJ5_append_3fe6f 41 = .ok (.bastore, 1) := by decide +kernel
theorem dJ5_append_3fe6f_42 : decode cJ5_append_3fe6f 42 = .ok (.goto 33, 3) := by decide +kernel
theorem dJ5_append_3fe6f_45 : decode cJ5_append_3fe6f 45 = .ok (.aload_n 0, 1) := by decide +kernel
theorem dJ5_append_3fe6f_46 : decode cJ5_append_3fe6f 46 = .ok (.invokevirtual 83, 3) := by decide +kernel
theorem dJ5_append_3fe6f_49 : decode cJ5_append_3fe6f 49 = .ok (.ifCond .eq 7, 3) := by decide +kernel
theorem dJ5_append_3fe6f_52 : decode cJ5_append_3fe6f 52 = .ok (.aload_n 0, 1) := by decide +kernel
theorem dJ5_append_3fe6f_53 : decode cJ5_append_3fe6f 53 = .ok (.invokevirtual 195, 3) := by decide +kernel
theorem dJ5_append_3fe6f_56 : decode cJ5_append_3fe6f 56 = .ok (.aload_n 0, 1) := by decide +kernel
theorem dJ5_append_3fe6f_57 : decode cJ5_append_3fe6f 57 = .ok (.getfield 15, 3) := by decide +kernel
theorem dJ5_append_3fe6f_60 : decode cJ5_append_3fe6f 60 = .ok (.aload_n 0, 1) := by decide +kernel
theorem dJ5_append_3fe6f_61 : decode cJ5_append_3fe6f 61 = .ok (.dup, 1) := by decide +kernel
theorem dJ5_append_3fe6f_62 : decode cJ5_append_3fe6f 62 = .ok (.getfield 79, 3) := by decide +kernel
theorem dJ5_append_3fe6f_65 : decode cJ5_append_3fe6f 65 = .ok (.dup_x1, 1) := by decide +kernel
theorem dJ5_append_3fe6f_66 : decode cJ5_append_3fe6f 66 = .ok (.iconst 1, 1) := by decide +kernel
theorem dJ5_append_3fe6f_67 : decode cJ5_append_3fe6f 67 = .ok (.iadd, 1) := by decide +kernel
theorem dJ5_append_3fe6f_68 : decode cJ5_append_3fe6f 68 = .ok (.putfield 79, 3) := by decide +kernel
theorem dJ5_append_3fe6f_71 : decode cJ5_append_3fe6f 71 = .ok (.iload_n 1, 1) := by decide +kernel
theorem dJ5_append_3fe6f_72 : decode cJ5_append_3fe6f 72 = .ok (.invokestatic 197, 3) := by decide +kernel
theorem dJ5_append_3fe6f_75 : decode cJ5_append_3fe6f 75 = .ok (.aload_n 0, 1) := by decide +kernel
theorem dJ5_append_3fe6f_76 : decode cJ5_append_3fe6f 76 = .ok (.areturn, 1) := by decide +kernel
theorem dJ4_append_cf468_0 : decode cJ4_append_cf468 0 = .ok (.aload_n 0, 1) := by decide +kernel
theorem dJ4_append_cf468_1 : decode cJ4_append_cf468 1 = .ok (.iload_n 1, 1) := by decide +kernel
theorem dJ4_append_cf468_2 : decode cJ4_append_cf468 2 = .ok (.invokespecial 50, 3) := by decide +kernel
theorem dJ4_append_cf468_5 : decode cJ4_append_cf468 5 = .ok (.pop, 1) := by decide +kernel
theorem dJ4_append_cf468_6 : decode cJ4_append_cf468 6 = .ok (.aload_n 0, 1) := by decide +kernel
theorem dJ4_append_cf468_7 : decode cJ4_append_cf468 7 = .ok (.areturn, 1) := by decide +kernel
set_option maxRecDepth 100000 in
set_option maxHeartbeats 1000000 in
theorem qJ5_inflateIfNeededFor_a7421 (l : Launch) (E : mE) (lo : Nat) (b d k : Nat) (n : Int) (f : Nat → Int32) (x : sX) : jMet l yJ5_inflateIfNeededFor_a7421 cJ5_inflateIfNeededFor_a7421 2 none 1 32 0 0 E lo [.ref b, .ref x.1] (jB E b d n k f) [x] (fun v w => v = none ∧ w = jB E b d n k f) := by
  refine j_entry (by decide +kernel) (Nat.le_of_ble_eq_true rfl) (fun p e s m args below meth c G hr hk hin hJ ls hl => ?_)
  have G : CallFix p m c cJ5_inflateIfNeededFor_a7421 2 s args mTs RJ5 := G
  have hl : lv_has ls 2 [(0, .ref b), (1, .ref x.1)] := hl
  refine j_gets1 (np := 3) G hJ ljJ5_18 dJ5_inflateIfNeededFor_a7421_0 rfl ?_
  refine r_if_eq (np := 6) (tgt := 21) G (wI_eq (by omega) (by omega)) dJ5_inflateIfNeededFor_a7421_3 (by decide) rfl (fun hc => False.elim (absurd hc (by decide))) (fun hc => ?_)
  refine r_aload_n (np := 7) G hl 0 rfl dJ5_inflateIfNeededFor_a7421_6 rfl rfl ?_
  refine j_get (np := 10) G hJ 0 rfl jf12_1 rfl ljJ5_22t dJ5_inflateIfNeededFor_a7421_7 rfl ?_
  refine r_aload_n (np := 11) G hl 1 rfl dJ5_inflateIfNeededFor_a7421_10 rfl rfl ?_
  refine j_callV (np := 14) G hJ hl.1 [] (qJ0_coder_7d493 l E lo x _) (fun _ h => h) jvJ0_coder_7d493 ljJ5_40 (fun h => absurd h.2 (by decide +kernel)) (j_recX hJ (List.mem_singleton.mpr rfl)) ⟨(Nat.le_of_ble_eq_true rfl), (Nat.le_of_ble_eq_true rfl)⟩ ⟨(Nat.le_of_ble_eq_true rfl), (Nat.le_of_ble_eq_true rfl)⟩ [vI (0)] rfl (Nat.le_of_ble_eq_true rfl) dJ5_inflateIfNeededFor_a7421_11 rfl (fun v w2 H locs hp hJ => ?_)
  obtain ⟨rfl, rfl⟩ := hp
  refine r_icmp_eq (np := 17) (tgt := 21) G (wI_eq (by omega) (by omega)) (wI_eq (by omega) (by omega)) dJ5_inflateIfNeededFor_a7421_14 (by decide) rfl (fun hc => ?_) (fun hc => False.elim (absurd rfl hc))
  exact j_vret G hr hk hJ (⟨rfl, rfl⟩) (Nat.le_of_ble_eq_true rfl) (Nat.le_of_ble_eq_true rfl) dJ5_inflateIfNeededFor_a7421_21
set_option maxRecDepth 100000 in
set_option maxHeartbeats 1000000 in
theorem qJ0_getBytes_840e7 (l : Launch) (E : mE) (lo : Nat) (b d k n : Nat) (cn : Int) (f : Nat → Int32) (x : sX) (hcap : k ≤ 700) (hx : n + x.2.2.length ≤ k) : jMet l yJ0_getBytes_840e7 cJ0_getBytes_840e7 4 none 1 60 0 0 E lo [.ref x.1, .ref d, vI ((n : Int)), vI (0)] (jB E b d cn k f) [x] (fun v w => v = none ∧ w = jB E b d cn k (va_cpy (fun j => Int32.ofNat (x.2.2.getD j 0)) f 0 n x.2.2.length)) := by
  refine j_entry (by decide +kernel) (Nat.le_of_ble_eq_true rfl) (fun p e s m args below meth c G hr hk hin hJ ls hl => ?_)
  have G : CallFix p m c cJ0_getBytes_840e7 4 s args mTs RJ0 := G
  have hl : lv_has ls 4 [(0, .ref x.1), (1, .ref d), (2, vI ((n : Int))), (3, vI (0))] := hl
  refine r_aload_n (np := 1) G hl 0 rfl dJ0_getBytes_840e7_0 rfl rfl ?_
  refine j_callV (np := 4) G hJ hl.1 [] (qJ0_coder_7d493 l E lo x _) (fun _ h => h) jvJ0_coder_7d493 ljJ0_335 (fun h => absurd h.2 (by decide +kernel)) (j_recX hJ (List.mem_singleton.mpr rfl)) ⟨(Nat.le_of_ble_eq_true rfl), (Nat.le_of_ble_eq_true rfl)⟩ ⟨(Nat.le_of_ble_eq_true rfl), (Nat.le_of_ble_eq_true rfl)⟩ [] rfl (Nat.le_of_ble_eq_true rfl) dJ0_getBytes_840e7_1 rfl (fun v w2 H locs hp hJ => ?_)
  obtain ⟨rfl, rfl⟩ := hp
  refine r_iload_n (np := 5) G hl 3 rfl dJ0_getBytes_840e7_4 rfl rfl ?_
  refine r_icmp_ne (np := 8) (tgt := 28) G (wI_eq (by omega) (by omega)) (wI_eq (by omega) (by omega)) dJ0_getBytes_840e7_5 (by decide) rfl (fun hc => False.elim (absurd rfl hc)) (fun hc => ?_)
  refine r_aload_n (np := 9) G hl 0 rfl dJ0_getBytes_840e7_8 rfl rfl ?_
  refine j_xval (np := 12) G hJ (x := x) (List.mem_singleton.mpr rfl) ljJ0_9 dJ0_getBytes_840e7_9 rfl ?_
  refine r_iconst (np := 13) G (0) dJ0_getBytes_840e7_12 rfl ?_
  refine r_aload_n (np := 14) G hl 1 rfl dJ0_getBytes_840e7_13 rfl rfl ?_
  refine r_iload_n (np := 15) G hl 2 rfl dJ0_getBytes_840e7_14 rfl rfl ?_
  refine r_iload_n (np := 16) G hl 3 rfl dJ0_getBytes_840e7_15 rfl rfl ?_
  refine r_ishl (np := 17) G dJ0_getBytes_840e7_16 rfl ?_
  rw [oShl0]
  refine r_aload_n (np := 18) G hl 0 rfl dJ0_getBytes_840e7_17 rfl rfl ?_
  refine j_xval (np := 21) G hJ (x := x) (List.mem_singleton.mpr rfl) ljJ0_9 dJ0_getBytes_840e7_18 rfl ?_
  refine j_xlen (np := 22) G hJ (x := x) (List.mem_singleton.mpr rfl) dJ0_getBytes_840e7_21 rfl ?_
  refine j_copyX (np := 25) G hJ hl.1 (x := x) (List.mem_singleton.mpr rfl) 1 (a1 := d) (n1 := k) (dp := n) rfl (by omega) (by omega) rfl rfl rfl ljJ0_212 (Nat.le_of_ble_eq_true rfl) (Nat.le_of_ble_eq_true rfl) dJ0_getBytes_840e7_22 rfl (fun H locs hJ => ?_)
  refine r_goto (np := 43) G dJ0_getBytes_840e7_25 (by decide) ?_
  exact j_vret G hr hk hJ (⟨rfl, rfl⟩) (Nat.le_of_ble_eq_true rfl) (Nat.le_of_ble_eq_true rfl) dJ0_getBytes_840e7_43
set_option maxRecDepth 100000 in
set_option maxHeartbeats 1000000 in
theorem qJ5_putStringAt_47b60 (l : Launch) (E : mE) (lo : Nat) (b d k n : Nat) (cn : Int) (f : Nat → Int32) (x : sX) (hcap : k ≤ 700) (hx : n + x.2.2.length ≤ k) : jMet l yJ5_putStringAt_47b60 cJ5_putStringAt_47b60 3 none 2 83 0 0 E lo [.ref b, vI ((n : Int)), .ref x.1] (jB E b d cn k f) [x] (fun v w => v = none ∧ w = jB E b d cn k (va_cpy (fun j => Int32.ofNat (x.2.2.getD j 0)) f 0 n x.2.2.length)) := by
  refine j_entry (by decide +kernel) (Nat.le_of_ble_eq_true rfl) (fun p e s m args below meth c G hr hk hin hJ ls hl => ?_)
  have G : CallFix p m c cJ5_putStringAt_47b60 3 s args mTs RJ5 := G
  have hl : lv_has ls 3 [(0, .ref b), (1, vI ((n : Int))), (2, .ref x.1)] := hl
  refine r_aload_n (np := 1) G hl 0 rfl dJ5_putStringAt_47b60_0 rfl rfl ?_
  refine r_aload_n (np := 2) G hl 2 rfl dJ5_putStringAt_47b60_1 rfl rfl ?_
  refine j_callB (np := 5) G hJ hl.1 0 rfl [.ref x.1] (qJ5_inflateIfNeededFor_a7421 l E lo b d k cn f x) (fun _ h => h) jvJ5_inflateIfNeededFor_a7421 (Or.inl rfl) ljJ5_397 ⟨(Nat.le_of_ble_eq_true rfl), (Nat.le_of_ble_eq_true rfl)⟩ ⟨(Nat.le_of_ble_eq_true rfl), (Nat.le_of_ble_eq_true rfl)⟩ [] rfl (Nat.le_of_ble_eq_true rfl) dJ5_putStringAt_47b60_2 rfl (fun v w2 H locs hp hJ => ?_)
  obtain ⟨rfl, rfl⟩ := hp
  refine r_aload_n (np := 6) G hl 2 rfl dJ5_putStringAt_47b60_5 rfl rfl ?_
  refine r_aload_n (np := 7) G hl 0 rfl dJ5_putStringAt_47b60_6 rfl rfl ?_
  refine j_get (np := 10) G hJ 0 rfl jf12_0 rfl ljJ5_15t dJ5_putStringAt_47b60_7 rfl ?_
  refine r_iload_n (np := 11) G hl 1 rfl dJ5_putStringAt_47b60_10 rfl rfl ?_
  refine r_aload_n (np := 12) G hl 0 rfl dJ5_putStringAt_47b60_11 rfl rfl ?_
  refine j_get (np := 15) G hJ 0 rfl jf12_1 rfl ljJ5_22t dJ5_putStringAt_47b60_12 rfl ?_
  refine j_callV (np := 18) G hJ hl.1 [.ref d, vI ((n : Int)), vI (0)] (qJ0_getBytes_840e7 l E lo b d k n cn f x hcap hx) (fun _ h => h) jvJ0_getBytes_840e7 ljJ5_399 (fun h => absurd h.2 (by decide +kernel)) (j_recX hJ (List.mem_singleton.mpr rfl)) ⟨(Nat.le_of_ble_eq_true rfl), (Nat.le_of_ble_eq_true rfl)⟩ ⟨(Nat.le_of_ble_eq_true rfl), (Nat.le_of_ble_eq_true rfl)⟩ [] rfl (Nat.le_of_ble_eq_true rfl) dJ5_putStringAt_47b60_15 rfl (fun v w2 H locs hp hJ => ?_)
  obtain ⟨rfl, rfl⟩ := hp
  exact j_vret G hr hk hJ (⟨rfl, rfl⟩) (Nat.le_of_ble_eq_true rfl) (Nat.le_of_ble_eq_true rfl) dJ5_putStringAt_47b60_18
set_option maxRecDepth 100000 in
set_option maxHeartbeats 1000000 in
theorem qJ5_append_cf1ce (l : Launch) (E : mE) (lo : Nat) (b d k : Nat) (f : Nat → Int32) (bs : List Nat) (hB : bK bs k f) (x : sX) (hx : bs.length + x.2.2.length ≤ 300) : jMet l yJ5_append_cf1ce cJ5_append_cf1ce 3 (some (.object "java/lang/AbstractStringBuilder")) 4 105 1 1000 E lo [.ref b, .ref x.1] (jB E b d (bs.length : Int) k f) [x] (fun v w => v = some (.ref b) ∧ ∃ d2 k2 f2, w = jB E b d2 ((bs ++ x.2.2).length : Int) k2 f2 ∧ bK (bs ++ x.2.2) k2 f2) := by
  refine j_entry (by decide +kernel) (Nat.le_of_ble_eq_true rfl) (fun p e s m args below meth c G hr hk hin hJ ls hl => ?_)
  have G : CallFix p m c cJ5_append_cf1ce 3 s args mTs RJ5 := G
  have hl : lv_has ls 3 [(0, .ref b), (1, .ref x.1)] := hl
  refine r_aload_n (np := 1) G hl 1 rfl dJ5_append_cf1ce_0 rfl rfl ?_
  refine lv_ifnonnull (tgt := 9) G.1 G.2.1 dJ5_append_cf1ce_1 (by decide) ?_
  refine r_aload_n (np := 10) G hl 1 rfl dJ5_append_cf1ce_9 rfl rfl ?_
  refine j_callV (np := 13) G hJ hl.1 [] (qJ0_length_8abf5 l E lo x _) (fun _ h => h) jvJ0_length_8abf5 ljJ5_32 (fun h => absurd h.2 (by decide +kernel)) (j_recX hJ (List.mem_singleton.mpr rfl)) ⟨(Nat.le_of_ble_eq_true rfl), (Nat.le_of_ble_eq_true rfl)⟩ ⟨(Nat.le_of_ble_eq_true rfl), (Nat.le_of_ble_eq_true rfl)⟩ [] rfl (Nat.le_of_ble_eq_true rfl) dJ5_append_cf1ce_10 rfl (fun v w2 H locs hp hJ => ?_)
  obtain ⟨rfl, rfl⟩ := hp
  refine r_istore_n (np := 14) G hl (rfl) [(2, vI ((x.2.2.length : Int))), (0, .ref b), (1, .ref x.1)] dJ5_append_cf1ce_13 rfl rfl (by decide) rfl (fun ls hl => ?_)
  refine r_aload_n (np := 15) G hl 1 rfl dJ5_append_cf1ce_14 rfl rfl ?_
  refine r_aload_n (np := 16) G hl 1 rfl dJ5_append_cf1ce_15 rfl rfl ?_
  refine j_get (np := 19) G hJ 0 rfl jf12_3 rfl ljJ5_79t dJ5_append_cf1ce_16 rfl ?_
  refine r_iload_n (np := 20) G hl 0 rfl dJ5_append_cf1ce_19 rfl rfl ?_
  refine r_iadd (np := 21) G dJ5_append_cf1ce_20 rfl ?_
  rw [show (((bs.length : Int)) + ((x.2.2.length : Int)) : Int) = ((bs.length + x.2.2.length : Nat) : Int) from by omega]
  refine j_callB (np := 24) G hJ hl.1 0 rfl [vI (((bs.length + x.2.2.length : Nat) : Int))] (qJ5_ensureCapacityInternal_d00df l E lo b d k _ f (bs.length + x.2.2.length) hB.2.1 hx hB.2.2.1) (fun _ h => absurd h (List.not_mem_nil)) jvJ5_ensureCapacityInternal_d00df (Or.inl rfl) ljJ5_100 ⟨(Nat.le_of_ble_eq_true rfl), (Nat.le_of_ble_eq_true rfl)⟩ ⟨(Nat.le_of_ble_eq_true rfl), (Nat.le_of_ble_eq_true rfl)⟩ [] rfl (Nat.le_of_ble_eq_true rfl) dJ5_append_cf1ce_21 rfl (fun v w2 H locs hp hJ => ?_)
  obtain ⟨d2, k2, f2, rfl, rfl, g1, g2, g3, g4, g5⟩ := hp
  refine r_aload_n (np := 25) G hl 1 rfl dJ5_append_cf1ce_24 rfl rfl ?_
  refine r_aload_n (np := 26) G hl 1 rfl dJ5_append_cf1ce_25 rfl rfl ?_
  refine j_get (np := 29) G hJ 0 rfl jf12_3 rfl ljJ5_79t dJ5_append_cf1ce_26 rfl ?_
  refine r_aload_n (np := 30) G hl 2 rfl dJ5_append_cf1ce_29 rfl rfl ?_
  refine j_callB (np := 33) G hJ hl.1 0 rfl [vI ((bs.length : Int)), .ref x.1] (qJ5_putStringAt_47b60 l E lo b d2 k2 bs.length _ f2 x g3 g1) (fun _ h => h) jvJ5_putStringAt_47b60 (Or.inl rfl) ljJ5_208 ⟨(Nat.le_of_ble_eq_true rfl), (Nat.le_of_ble_eq_true rfl)⟩ ⟨(Nat.le_of_ble_eq_true rfl), (Nat.le_of_ble_eq_true rfl)⟩ [] rfl (Nat.le_of_ble_eq_true rfl) dJ5_append_cf1ce_30 rfl (fun v w2 H locs hp hJ => ?_)
  obtain ⟨rfl, rfl⟩ := hp
  refine r_aload_n (np := 34) G hl 1 rfl dJ5_append_cf1ce_33 rfl rfl ?_
  refine r_dup (np := 35) G dJ5_append_cf1ce_34 rfl rfl ?_
  refine j_get (np := 38) G hJ 0 rfl jf12_3 rfl ljJ5_79t dJ5_append_cf1ce_35 rfl ?_
  refine r_iload_n (np := 39) G hl 0 rfl dJ5_append_cf1ce_38 rfl rfl ?_
  refine r_iadd (np := 40) G dJ5_append_cf1ce_39 rfl ?_
  rw [show (((bs.length : Int)) + ((x.2.2.length : Int)) : Int) = ((bs ++ x.2.2).length : Int) from by rw [List.length_append]; omega]
  refine j_put (np := 43) G hJ 0 rfl jf12_3 tyJ4_ok nmJ4 (by decide +kernel) (ty := .int) rfl rfl rfl (Nat.le_of_ble_eq_true rfl) ljJ5_79t dJ5_append_cf1ce_40 rfl (fun H locs hJ => ?_)
  have hJ : jM E lo (jB E b d2 ((bs ++ x.2.2).length : Int) k2 (va_cpy (fun j => Int32.ofNat (x.2.2.getD j 0)) f2 0 bs.length x.2.2.length)) _ s H locs := hJ
  refine r_aload_n (np := 44) G hl 1 rfl dJ5_append_cf1ce_43 rfl rfl ?_
  have hX := hJ.2.2.2.2.2.2.1 x (List.mem_singleton.mpr rfl)
  exact j_aret G hr (Or.inl ⟨_, rfl⟩) hk hJ (⟨rfl, d2, k2, _, rfl, bK_app hB g1 g3 g4 g5 (jX_fit hX)⟩) (Nat.le_of_ble_eq_true rfl) (Nat.le_of_ble_eq_true rfl) dJ5_append_cf1ce_44
set_option maxRecDepth 100000 in
set_option maxHeartbeats 1000000 in
theorem qJ4_append_15ec4 (l : Launch) (E : mE) (lo : Nat) (b d k : Nat) (f : Nat → Int32) (bs : List Nat) (hB : bK bs k f) (x : sX) (hx : bs.length + x.2.2.length ≤ 300) : jMet l yJ4_append_15ec4 cJ4_append_15ec4 2 (some (.object "java/lang/StringBuilder")) 5 127 1 1000 E lo [.ref b, .ref x.1] (jB E b d (bs.length : Int) k f) [x] (fun v w => v = some (.ref b) ∧ ∃ d2 k2 f2, w = jB E b d2 ((bs ++ x.2.2).length : Int) k2 f2 ∧ bK (bs ++ x.2.2) k2 f2) := by
  refine j_entry (by decide +kernel) (Nat.le_of_ble_eq_true rfl) (fun p e s m args below meth c G hr hk hin hJ ls hl => ?_)
  have G : CallFix p m c cJ4_append_15ec4 2 s args mTs RJ4 := G
  have hl : lv_has ls 2 [(0, .ref b), (1, .ref x.1)] := hl
  refine r_aload_n (np := 1) G hl 0 rfl dJ4_append_15ec4_0 rfl rfl ?_
  refine r_aload_n (np := 2) G hl 1 rfl dJ4_append_15ec4_1 rfl rfl ?_
  refine j_callU (np := 5) G hJ hl.1 0 rfl [.ref x.1] (qJ5_append_cf1ce l E lo b d k f bs hB x hx) (fun _ h => h) jqJ5_append_cf1ce rfl rfl (by decide) ljJ4_29 ⟨(Nat.le_of_ble_eq_true rfl), (Nat.le_of_ble_eq_true rfl)⟩ ⟨(Nat.le_of_ble_eq_true rfl), (Nat.le_of_ble_eq_true rfl)⟩ [] rfl (Nat.le_of_ble_eq_true rfl) dJ4_append_15ec4_2 rfl (fun v w2 H locs hp hJ => ?_)
  obtain ⟨rfl, d2, k2, f2, rfl, hB2⟩ := hp
  refine r_pop (np := 6) G dJ4_append_15ec4_5 rfl rfl ?_
  refine r_aload_n (np := 7) G hl 0 rfl dJ4_append_15ec4_6 rfl rfl ?_
  exact j_aret G hr (Or.inl ⟨_, rfl⟩) hk hJ (⟨rfl, d2, k2, f2, rfl, hB2⟩) (Nat.le_of_ble_eq_true rfl) (Nat.le_of_ble_eq_true rfl) dJ4_append_15ec4_7
set_option maxRecDepth 100000 in
set_option maxHeartbeats 1000000 in
theorem qJ1_canEncode_fc78d (l : Launch) (E : mE) (lo : Nat) (ws : va_W) (q : Nat) (hq : q < 128) : jMet l yJ1_canEncode_fc78d cJ1_canEncode_fc78d 1 (some .boolean) 0 12 0 0 E lo [vI ((q : Int))] ws [] (fun v w => v = some (vI 1) ∧ w = ws) := by
  refine j_entry (by decide +kernel) (Nat.le_of_ble_eq_true rfl) (fun p e s m args below meth c G hr hk hin hJ ls hl => ?_)
  have G : CallFix p m c cJ1_canEncode_fc78d 1 s args mTs RJ1 := G
  have hl : lv_has ls 1 [(0, vI ((q : Int)))] := hl
  refine r_iload_n (np := 1) G hl 0 rfl dJ1_canEncode_fc78d_0 rfl rfl ?_
  refine r_sipush (np := 4) G (255) dJ1_canEncode_fc78d_1 (by decide) rfl ?_
  refine r_icmp_gt (np := 7) (tgt := 11) G (wI_eq (by omega) (by omega)) (wI_eq (by omega) (by omega)) dJ1_canEncode_fc78d_4 (by decide) rfl (fun hc => False.elim (by omega)) (fun hc => ?_)
  refine r_iconst (np := 8) G (1) dJ1_canEncode_fc78d_7 rfl ?_
  refine r_goto (np := 12) G dJ1_canEncode_fc78d_8 (by decide) ?_
  exact j_zret G hr hk hJ (by decide) (⟨rfl, rfl⟩) (Nat.le_of_ble_eq_true rfl) (Nat.le_of_ble_eq_true rfl) dJ1_canEncode_fc78d_12
set_option maxRecDepth 100000 in
set_option maxHeartbeats 1000000 in
theorem qJ5_append_3fe6f (l : Launch) (E : mE) (lo : Nat) (b d k : Nat) (f : Nat → Int32) (bs : List Nat) (hB : bK bs k f) (q : Nat) (hq : q < 128) (hx : bs.length + 1 ≤ 300) : jMet l yJ5_append_3fe6f cJ5_append_3fe6f 2 (some (.object "java/lang/AbstractStringBuilder")) 4 103 1 1000 E lo [.ref b, vI ((q : Int))] (jB E b d (bs.length : Int) k f) [] (fun v w => v = some (.ref b) ∧ ∃ d2 k2 f2, w = jB E b d2 ((bs ++ [q]).length : Int) k2 f2 ∧ bK (bs ++ [q]) k2 f2) := by
  refine j_entry (by decide +kernel) (Nat.le_of_ble_eq_true rfl) (fun p e s m args below meth c G hr hk hin hJ ls hl => ?_)
  have G : CallFix p m c cJ5_append_3fe6f 2 s args mTs RJ5 := G
  have hl : lv_has ls 2 [(0, .ref b), (1, vI ((q : Int)))] := hl
  refine r_aload_n (np := 1) G hl 0 rfl dJ5_append_3fe6f_0 rfl rfl ?_
  refine r_aload_n (np := 2) G hl 0 rfl dJ5_append_3fe6f_1 rfl rfl ?_
  refine j_get (np := 5) G hJ 0 rfl jf12_3 rfl ljJ5_79t dJ5_append_3fe6f_2 rfl ?_
  refine r_iconst (np := 6) G (1) dJ5_append_3fe6f_5 rfl ?_
  refine r_iadd (np := 7) G dJ5_append_3fe6f_6 rfl ?_
  rw [show (((bs.length : Int)) + (1) : Int) = ((bs.length + 1 : Nat) : Int) from by omega]
  refine j_callB (np := 10) G hJ hl.1 0 rfl [vI (((bs.length + 1 : Nat) : Int))] (qJ5_ensureCapacityInternal_d00df l E lo b d k _ f (bs.length + 1) hB.2.1 hx hB.2.2.1) (fun _ h => h) jvJ5_ensureCapacityInternal_d00df (Or.inl rfl) ljJ5_100 ⟨(Nat.le_of_ble_eq_true rfl), (Nat.le_of_ble_eq_true rfl)⟩ ⟨(Nat.le_of_ble_eq_true rfl), (Nat.le_of_ble_eq_true rfl)⟩ [] rfl (Nat.le_of_ble_eq_true rfl) dJ5_append_3fe6f_7 rfl (fun v w2 H locs hp hJ => ?_)
  obtain ⟨d2, k2, f2, rfl, rfl, g1, g2, g3, g4, g5⟩ := hp
  refine r_aload_n (np := 11) G hl 0 rfl dJ5_append_3fe6f_10 rfl rfl ?_
  refine j_callB (np := 14) G hJ hl.1 0 rfl [] (qJ5_isLatin1_aae02 l E lo b d2 k2 _ f2) (fun _ h => h) jvJ5_isLatin1_aae02 (Or.inl rfl) ljJ5_83 ⟨(Nat.le_of_ble_eq_true rfl), (Nat.le_of_ble_eq_true rfl)⟩ ⟨(Nat.le_of_ble_eq_true rfl), (Nat.le_of_ble_eq_true rfl)⟩ [] rfl (Nat.le_of_ble_eq_true rfl) dJ5_append_3fe6f_11 rfl (fun v w2 H locs hp hJ => ?_)
  obtain ⟨rfl, rfl⟩ := hp
  refine r_if_eq (np := 17) (tgt := 45) G (wI_eq (by omega) (by omega)) dJ5_append_3fe6f_14 (by decide) rfl (fun hc => False.elim (absurd hc (by decide))) (fun hc => ?_)
  refine r_iload_n (np := 18) G hl 1 rfl dJ5_append_3fe6f_17 rfl rfl ?_
  refine j_callS (np := 21) G hJ hl.1 [vI ((q : Int))] (qJ1_canEncode_fc78d l E lo _ q hq) (fun _ h => h) jsJ1_canEncode_fc78d ljJ5_191 ⟨(Nat.le_of_ble_eq_true rfl), (Nat.le_of_ble_eq_true rfl)⟩ ⟨(Nat.le_of_ble_eq_true rfl), (Nat.le_of_ble_eq_true rfl)⟩ [] rfl (Nat.le_of_ble_eq_true rfl) dJ5_append_3fe6f_18 rfl (fun v w2 H locs hp hJ => ?_)
  obtain ⟨rfl, rfl⟩ := hp
  refine r_if_eq (np := 24) (tgt := 45) G (wI_eq (by omega) (by omega)) dJ5_append_3fe6f_21 (by decide) rfl (fun hc => False.elim (absurd hc (by decide))) (fun hc => ?_)
  refine r_aload_n (np := 25) G hl 0 rfl dJ5_append_3fe6f_24 rfl rfl ?_
  refine j_get (np := 28) G hJ 0 rfl jf12_0 rfl ljJ5_15t dJ5_append_3fe6f_25 rfl ?_
  refine r_aload_n (np := 29) G hl 0 rfl dJ5_append_3fe6f_28 rfl rfl ?_
  refine r_dup (np := 30) G dJ5_append_3fe6f_29 rfl rfl ?_
  refine j_get (np := 33) G hJ 0 rfl jf12_3 rfl ljJ5_79t dJ5_append_3fe6f_30 rfl ?_
  refine lv_dup_x1 G.1 G.2.1 dJ5_append_3fe6f_33 rfl rfl ?_
  refine r_iconst (np := 35) G (1) dJ5_append_3fe6f_34 rfl ?_
  refine r_iadd (np := 36) G dJ5_append_3fe6f_35 rfl ?_
  rw [show (((bs.length : Int)) + (1) : Int) = ((bs ++ [q]).length : Int) from by rw [List.length_append]; simp]
  refine j_put (np := 39) G hJ 0 rfl jf12_3 tyJ4_ok nmJ4 (by decide +kernel) (ty := .int) rfl rfl rfl (Nat.le_of_ble_eq_true rfl) ljJ5_79t dJ5_append_3fe6f_36 rfl (fun H locs hJ => ?_)
  have hJ : jM E lo (jB E b d2 ((bs ++ [q]).length : Int) k2 f2) _ s H locs := hJ
  refine r_iload_n (np := 40) G hl 1 rfl dJ5_append_3fe6f_39 rfl rfl ?_
  refine r_i2b (np := 41) G dJ5_append_3fe6f_40 rfl ?_
  rw [wB_eq (x := (q : Int)) (by omega) (by omega)]
  refine j_bast (np := 42) G hJ 1 (d0 := d2) (n := k2) (f := f2) rfl (by rw [wI_eq (by omega) (by omega)]; omega) (by omega) dJ5_append_3fe6f_41 rfl (fun H locs hJ => ?_)
  rw [wI_eq (x := (bs.length : Int)) (by omega) (by omega), Int.toNat_natCast] at hJ
  have hJ : jM E lo (jB E b d2 ((bs ++ [q]).length : Int) k2 (upd f2 bs.length (Int32.ofInt (q : Int)))) _ s H locs := hJ
  refine r_goto (np := 75) G dJ5_append_3fe6f_42 (by decide) ?_
  refine r_aload_n (np := 76) G hl 0 rfl dJ5_append_3fe6f_75 rfl rfl ?_
  exact j_aret G hr (Or.inl ⟨_, rfl⟩) hk hJ (⟨rfl, d2, k2, _, rfl, bK_one hB g1 g3 g4 g5 hq⟩) (Nat.le_of_ble_eq_true rfl) (Nat.le_of_ble_eq_true rfl) dJ5_append_3fe6f_76
set_option maxRecDepth 100000 in
set_option maxHeartbeats 1000000 in
theorem qJ4_append_cf468 (l : Launch) (E : mE) (lo : Nat) (b d k : Nat) (f : Nat → Int32) (bs : List Nat) (hB : bK bs k f) (q : Nat) (hq : q < 128) (hx : bs.length + 1 ≤ 300) : jMet l yJ4_append_cf468 cJ4_append_cf468 2 (some (.object "java/lang/StringBuilder")) 5 124 1 1000 E lo [.ref b, vI ((q : Int))] (jB E b d (bs.length : Int) k f) [] (fun v w => v = some (.ref b) ∧ ∃ d2 k2 f2, w = jB E b d2 ((bs ++ [q]).length : Int) k2 f2 ∧ bK (bs ++ [q]) k2 f2) := by
  refine j_entry (by decide +kernel) (Nat.le_of_ble_eq_true rfl) (fun p e s m args below meth c G hr hk hin hJ ls hl => ?_)
  have G : CallFix p m c cJ4_append_cf468 2 s args mTs RJ4 := G
  have hl : lv_has ls 2 [(0, .ref b), (1, vI ((q : Int)))] := hl
  refine r_aload_n (np := 1) G hl 0 rfl dJ4_append_cf468_0 rfl rfl ?_
  refine r_iload_n (np := 2) G hl 1 rfl dJ4_append_cf468_1 rfl rfl ?_
  refine j_callU (np := 5) G hJ hl.1 0 rfl [vI ((q : Int))] (qJ5_append_3fe6f l E lo b d k f bs hB q hq hx) (fun _ h => h) jqJ5_append_3fe6f rfl rfl (by decide) ljJ4_50 ⟨(Nat.le_of_ble_eq_true rfl), (Nat.le_of_ble_eq_true rfl)⟩ ⟨(Nat.le_of_ble_eq_true rfl), (Nat.le_of_ble_eq_true rfl)⟩ [] rfl (Nat.le_of_ble_eq_true rfl) dJ4_append_cf468_2 rfl (fun v w2 H locs hp hJ => ?_)
  obtain ⟨rfl, d2, k2, f2, rfl, hB2⟩ := hp
  refine r_pop (np := 6) G dJ4_append_cf468_5 rfl rfl ?_
  refine r_aload_n (np := 7) G hl 0 rfl dJ4_append_cf468_6 rfl rfl ?_
  exact j_aret G hr (Or.inl ⟨_, rfl⟩) hk hJ (⟨rfl, d2, k2, f2, rfl, hB2⟩) (Nat.le_of_ble_eq_true rfl) (Nat.le_of_ble_eq_true rfl) dJ4_append_cf468_7
