/-! .. whole numbers as texts (laid by jdk3.py) -/
def decN (n : Nat) : List Nat := if n < 10 then [48 + n] else if n < 100 then [48 + n / 10, 48 + n % 10] else [48 + n / 100, 48 + n / 10 % 10, 48 + n % 10]
/-- how a number of at most three digits is written -/
def decI (x : Int) : List Nat := if x < 0 then 45 :: decN (-x).toNat else decN x.toNat
theorem dec_p1 {x : Int} (h : 0 ≤ x ∧ x < 10) : decI x = [48 + x.toNat] := by
  unfold decI decN
  rw [if_neg (by omega), if_pos (by omega)]
theorem dec_p2 {x : Int} (h : 10 ≤ x ∧ x < 100) : decI x = [48 + x.toNat / 10, 48 + x.toNat % 10] := by
  unfold decI decN
  rw [if_neg (by omega), if_neg (by omega), if_pos (by omega)]
theorem dec_p3 {x : Int} (h : 100 ≤ x ∧ x ≤ 999) : decI x = [48 + x.toNat / 100, 48 + x.toNat / 10 % 10, 48 + x.toNat % 10] := by
  unfold decI decN
  rw [if_neg (by omega), if_neg (by omega), if_neg (by omega)]
theorem dec_m1 {x : Int} (h : 1 ≤ -x ∧ -x < 10) : decI x = [45, 48 + (-x).toNat] := by
  unfold decI decN
  rw [if_pos (by omega), if_pos (by omega)]
theorem dec_m2 {x : Int} (h : 10 ≤ -x ∧ -x < 100) : decI x = [45, 48 + (-x).toNat / 10, 48 + (-x).toNat % 10] := by
  unfold decI decN
  rw [if_pos (by omega), if_neg (by omega), if_pos (by omega)]
theorem dec_m3 {x : Int} (h : 100 ≤ -x ∧ -x ≤ 999) : decI x = [45, 48 + (-x).toNat / 100, 48 + (-x).toNat / 10 % 10, 48 + (-x).toNat % 10] := by
  unfold decI decN
  rw [if_pos (by omega), if_neg (by omega), if_neg (by omega)]
theorem dl_p1 {x : Int} (h : 0 ≤ x ∧ x < 10) : ((decI x).length : Int) = 1 := by rw [dec_p1 h]; rfl
theorem dl_p2 {x : Int} (h : 10 ≤ x ∧ x < 100) : ((decI x).length : Int) = 2 := by rw [dec_p2 h]; rfl
theorem dl_p3 {x : Int} (h : 100 ≤ x ∧ x ≤ 999) : ((decI x).length : Int) = 3 := by rw [dec_p3 h]; rfl
theorem dl_m1 {x : Int} (h : 1 ≤ -x ∧ -x < 10) : ((decI x).length : Int) = 2 := by rw [dec_m1 h]; rfl
theorem dl_m2 {x : Int} (h : 10 ≤ -x ∧ -x < 100) : ((decI x).length : Int) = 3 := by rw [dec_m2 h]; rfl
theorem dl_m3 {x : Int} (h : 100 ≤ -x ∧ -x ≤ 999) : ((decI x).length : Int) = 4 := by rw [dec_m3 h]; rfl
theorem jByteI {c : Int} (h : 0 ≤ c ∧ c < 128) : fits .byte (.int (Int32.ofInt c)) = true := by
  rw [show c = ((c.toNat : Nat) : Int) by omega, show Int32.ofInt ((c.toNat : Nat) : Int) = Int32.ofNat c.toNat from Int32.ofInt_eq_ofNat]
  exact jByte (by omega)
theorem td100 {x : Int} (h : -999 ≤ x ∧ x ≤ 0) : (wI x).tdiv (wI 100) = -((-x) / 100) := by
  rw [wI_eq (x := x) (by omega) (by omega), wI_eq (x := 100) (by omega) (by omega)]
  obtain ⟨y, rfl⟩ : ∃ y, x = -y := ⟨-x, by omega⟩
  rw [Int.neg_tdiv, Int.neg_neg, Int.tdiv_eq_ediv_of_nonneg (by omega)]
theorem jw_fit1 {f : Nat → Int32} {st : Nat} {c0 : Int} (hf : sb_Fit f) (h0 : 0 ≤ c0 ∧ c0 < 128) : sb_Fit (upd f (st + 0) (Int32.ofInt c0)) := (sb_fitU hf (jByteI h0))
theorem jw_low1 {f : Nat → Int32} {st : Nat} {c0 : Int} : ∀ j, j < st → (upd f (st + 0) (Int32.ofInt c0)) j = f j := by
  intro j hj
  simp only [upd]
  rw [if_neg (by omega)]
theorem jw_all1 {f : Nat → Int32} {st : Nat} {c0 : Int} {e0 : Nat} (h0 : c0 = (e0 : Int)) : ∀ i, i < 1 → (upd f (st + 0) (Int32.ofInt c0)) (st + i) = Int32.ofNat ([e0].getD i 0) := by
  intro i hi
  have z : ∀ (c : Int) (e : Nat), c = (e : Int) → Int32.ofInt c = Int32.ofNat e := fun c e h => by rw [h]; exact Int32.ofInt_eq_ofNat
  simp only [upd]
  rcases (by omega : i = 0) with rfl
  · rw [if_pos (by omega)]
    exact z _ _ h0
theorem jw_fit2 {f : Nat → Int32} {st : Nat} {c0 c1 : Int} (hf : sb_Fit f) (h0 : 0 ≤ c0 ∧ c0 < 128) (h1 : 0 ≤ c1 ∧ c1 < 128) : sb_Fit (upd (upd f (st + 1) (Int32.ofInt c0)) (st + 0) (Int32.ofInt c1)) := (sb_fitU (sb_fitU hf (jByteI h0)) (jByteI h1))
theorem jw_low2 {f : Nat → Int32} {st : Nat} {c0 c1 : Int} : ∀ j, j < st → (upd (upd f (st + 1) (Int32.ofInt c0)) (st + 0) (Int32.ofInt c1)) j = f j := by
  intro j hj
  simp only [upd]
  rw [if_neg (by omega), if_neg (by omega)]
theorem jw_all2 {f : Nat → Int32} {st : Nat} {c0 c1 : Int} {e0 e1 : Nat} (h0 : c0 = (e0 : Int)) (h1 : c1 = (e1 : Int)) : ∀ i, i < 2 → (upd (upd f (st + 1) (Int32.ofInt c0)) (st + 0) (Int32.ofInt c1)) (st + i) = Int32.ofNat ([e1, e0].getD i 0) := by
  intro i hi
  have z : ∀ (c : Int) (e : Nat), c = (e : Int) → Int32.ofInt c = Int32.ofNat e := fun c e h => by rw [h]; exact Int32.ofInt_eq_ofNat
  simp only [upd]
  rcases (by omega : i = 0 ∨ i = 1) with rfl | rfl
  · rw [if_pos (by omega)]
    exact z _ _ h1
  · rw [if_neg (by omega), if_pos (by omega)]
    exact z _ _ h0
theorem jw_fit3 {f : Nat → Int32} {st : Nat} {c0 c1 c2 : Int} (hf : sb_Fit f) (h0 : 0 ≤ c0 ∧ c0 < 128) (h1 : 0 ≤ c1 ∧ c1 < 128) (h2 : 0 ≤ c2 ∧ c2 < 128) : sb_Fit (upd (upd (upd f (st + 2) (Int32.ofInt c0)) (st + 1) (Int32.ofInt c1)) (st + 0) (Int32.ofInt c2)) := (sb_fitU (sb_fitU (sb_fitU hf (jByteI h0)) (jByteI h1)) (jByteI h2))
theorem jw_low3 {f : Nat → Int32} {st : Nat} {c0 c1 c2 : Int} : ∀ j, j < st → (upd (upd (upd f (st + 2) (Int32.ofInt c0)) (st + 1) (Int32.ofInt c1)) (st + 0) (Int32.ofInt c2)) j = f j := by
  intro j hj
  simp only [upd]
  rw [if_neg (by omega), if_neg (by omega), if_neg (by omega)]
theorem jw_all3 {f : Nat → Int32} {st : Nat} {c0 c1 c2 : Int} {e0 e1 e2 : Nat} (h0 : c0 = (e0 : Int)) (h1 : c1 = (e1 : Int)) (h2 : c2 = (e2 : Int)) : ∀ i, i < 3 → (upd (upd (upd f (st + 2) (Int32.ofInt c0)) (st + 1) (Int32.ofInt c1)) (st + 0) (Int32.ofInt c2)) (st + i) = Int32.ofNat ([e2, e1, e0].getD i 0) := by
  intro i hi
  have z : ∀ (c : Int) (e : Nat), c = (e : Int) → Int32.ofInt c = Int32.ofNat e := fun c e h => by rw [h]; exact Int32.ofInt_eq_ofNat
  simp only [upd]
  rcases (by omega : i = 0 ∨ i = 1 ∨ i = 2) with rfl | rfl | rfl
  · rw [if_pos (by omega)]
    exact z _ _ h2
  · rw [if_neg (by omega), if_pos (by omega)]
    exact z _ _ h1
  · rw [if_neg (by omega), if_neg (by omega), if_pos (by omega)]
    exact z _ _ h0
theorem jw_fit4 {f : Nat → Int32} {st : Nat} {c0 c1 c2 c3 : Int} (hf : sb_Fit f) (h0 : 0 ≤ c0 ∧ c0 < 128) (h1 : 0 ≤ c1 ∧ c1 < 128) (h2 : 0 ≤ c2 ∧ c2 < 128) (h3 : 0 ≤ c3 ∧ c3 < 128) : sb_Fit (upd (upd (upd (upd f (st + 3) (Int32.ofInt c0)) (st + 2) (Int32.ofInt c1)) (st + 1) (Int32.ofInt c2)) (st + 0) (Int32.ofInt c3)) := (sb_fitU (sb_fitU (sb_fitU (sb_fitU hf (jByteI h0)) (jByteI h1)) (jByteI h2)) (jByteI h3))
theorem jw_low4 {f : Nat → Int32} {st : Nat} {c0 c1 c2 c3 : Int} : ∀ j, j < st → (upd (upd (upd (upd f (st + 3) (Int32.ofInt c0)) (st + 2) (Int32.ofInt c1)) (st + 1) (Int32.ofInt c2)) (st + 0) (Int32.ofInt c3)) j = f j := by
  intro j hj
  simp only [upd]
  rw [if_neg (by omega), if_neg (by omega), if_neg (by omega), if_neg (by omega)]
theorem jw_all4 {f : Nat → Int32} {st : Nat} {c0 c1 c2 c3 : Int} {e0 e1 e2 e3 : Nat} (h0 : c0 = (e0 : Int)) (h1 : c1 = (e1 : Int)) (h2 : c2 = (e2 : Int)) (h3 : c3 = (e3 : Int)) : ∀ i, i < 4 → (upd (upd (upd (upd f (st + 3) (Int32.ofInt c0)) (st + 2) (Int32.ofInt c1)) (st + 1) (Int32.ofInt c2)) (st + 0) (Int32.ofInt c3)) (st + i) = Int32.ofNat ([e3, e2, e1, e0].getD i 0) := by
  intro i hi
  have z : ∀ (c : Int) (e : Nat), c = (e : Int) → Int32.ofInt c = Int32.ofNat e := fun c e h => by rw [h]; exact Int32.ofInt_eq_ofNat
  simp only [upd]
  rcases (by omega : i = 0 ∨ i = 1 ∨ i = 2 ∨ i = 3) with rfl | rfl | rfl | rfl
  · rw [if_pos (by omega)]
    exact z _ _ h3
  · rw [if_neg (by omega), if_pos (by omega)]
    exact z _ _ h2
  · rw [if_neg (by omega), if_neg (by omega), if_pos (by omega)]
    exact z _ _ h1
  · rw [if_neg (by omega), if_neg (by omega), if_neg (by omega), if_pos (by omega)]
    exact z _ _ h0
section JR3
variable {p : Program} {l : Launch} {e : Env} {R : Room} {s : State} {m : MethodId} {args : Array Value} {below : List Frame} {meth : Method} {c : Code} {H : Heap} {locs : List Loc} {cells slots : Nat} {Q : State → Prop}
variable {cc : ByteArray} {pc np nL : Nat} {ls : Array Slot} {rest st : List Value} {own : String} {E : mE} {lo : Nat} {ws : va_W} {xs ys : List sX}
theorem j_ones (G : CallFix p m c cc nL s args mTs own) (hJ : jM E lo ws xs s H locs) {ix : Nat} (hw : Cond.fieldLink own ix "java/lang/Integer" "DigitOnes" "[B" ∈ mTs) (d : decode cc pc = .ok (.getstatic ix, 3)) (hn : pc + 3 = np)
    (kk : W p l e R s m args below meth c H locs cells slots Q (F0 m np ls (.ref (eV E 20) :: rest))) : W p l e R s m args below meth c H locs cells slots Q (F0 m pc ls rest) := by
  subst hn
  exact va_gets G.1 G.2.1 hJ.2.2.1.2.2.2.2.2.1.1 hJ.2.2.2.2.2.2.2 G.2.2.2.1 (G.2.2.2.2 _ hw) (fun _ h => h) d kk
theorem j_tens (G : CallFix p m c cc nL s args mTs own) (hJ : jM E lo ws xs s H locs) {ix : Nat} (hw : Cond.fieldLink own ix "java/lang/Integer" "DigitTens" "[B" ∈ mTs) (d : decode cc pc = .ok (.getstatic ix, 3)) (hn : pc + 3 = np)
    (kk : W p l e R s m args below meth c H locs cells slots Q (F0 m np ls (.ref (eV E 21) :: rest))) : W p l e R s m args below meth c H locs cells slots Q (F0 m pc ls rest) := by
  subst hn
  exact va_gets G.1 G.2.1 hJ.2.2.1.2.2.2.2.2.2.1 hJ.2.2.2.2.2.2.2 G.2.2.2.1 (G.2.2.2.2 _ hw) (fun _ h => h) d kk
theorem j_tabl (G : CallFix p m c cc nL s args mTs own) (hS : va_S (jL lo) s.heap H locs) {t N : Nat} {g : Nat → Nat} (hT : va_T .byte t N (fun j => .int (Int32.ofNat (g j))) (jL lo) s s.heap) {i : Int} (hi : 0 ≤ wI i ∧ wI i < (N : Int)) (d : decode cc pc = .ok (.baload, 1)) (hn : pc + 1 = np)
    (kk : W p l e R s m args below meth c H locs cells slots Q (F0 m np ls (vI ((g (wI i).toNat : Nat) : Int) :: rest))) : W p l e R s m args below meth c H locs cells slots Q (F0 m pc ls (vI i :: .ref t :: rest)) := by
  subst hn
  obtain ⟨cell, h1, h2, h3, h4, h5, h6, h7⟩ := hT.kept hS.2.1
  have hlt : (wI i).toNat < N := by omega
  have e1 : vI ((g (wI i).toNat : Nat) : Int) = .int (Int32.ofNat (g (wI i).toNat)) := by unfold vI; rw [Int32.ofInt_eq_ofNat]
  rw [e1] at kk
  refine W.bald (v := .int (Int32.ofNat (g (wI i).toNat))) G.1 G.2.1 h1 h2 h3 ?_ (h6 _ hlt) rfl rfl d kk
  rintro (q | q)
  · have : wI i < 0 := Int32.lt_iff_toInt_lt.mp q
    omega
  · have : (Int32.ofInt i).toNatClampNeg = (wI i).toNat := rfl
    rw [this] at q
    omega
theorem j_obal (G : CallFix p m c cc nL s args mTs own) (hJ : jM E lo ws xs s H locs) {i : Int} (hi : 0 ≤ wI i ∧ wI i < ((100 : Nat) : Int)) (d : decode cc pc = .ok (.baload, 1)) (hn : pc + 1 = np)
    (kk : W p l e R s m args below meth c H locs cells slots Q (F0 m np ls (vI ((48 + (wI i).toNat % 10 : Nat) : Int) :: rest))) : W p l e R s m args below meth c H locs cells slots Q (F0 m pc ls (vI i :: .ref (eV E 20) :: rest)) :=
  j_tabl (g := fun j => 48 + j % 10) G hJ.2.2.2.2.2.2.2 hJ.2.2.1.2.2.2.2.2.1.2 hi d hn kk
theorem j_tbal (G : CallFix p m c cc nL s args mTs own) (hJ : jM E lo ws xs s H locs) {i : Int} (hi : 0 ≤ wI i ∧ wI i < ((100 : Nat) : Int)) (d : decode cc pc = .ok (.baload, 1)) (hn : pc + 1 = np)
    (kk : W p l e R s m args below meth c H locs cells slots Q (F0 m np ls (vI ((48 + (wI i).toNat / 10 : Nat) : Int) :: rest))) : W p l e R s m args below meth c H locs cells slots Q (F0 m pc ls (vI i :: .ref (eV E 21) :: rest)) :=
  j_tabl (g := fun j => 48 + j / 10) G hJ.2.2.2.2.2.2.2 hJ.2.2.1.2.2.2.2.2.2.2 hi d hn kk
end JR3
theorem ljJ6_83 : Cond.fieldLink RJ6 83 "java/lang/Integer" "DigitOnes" "[B" ∈ mTs := mTs_in 943 (by decide +kernel) (by decide +kernel)
theorem ljJ6_87 : Cond.fieldLink RJ6 87 "java/lang/Integer" "DigitTens" "[B" ∈ mTs := mTs_in 945 (by decide +kernel) (by decide +kernel)
theorem ljJ5_245 : Cond.methodLink RJ5 245 yJ6_stringSize_0f7a4 ∈ mTs := mTs_in 937 (by decide +kernel) (by decide +kernel)
theorem jbJ6_stringSize_0f7a4 : mY yJ6_stringSize_0f7a4 cJ6_stringSize_0f7a4 4 (some .int) 1 := ⟨mTs_in 939 (by decide +kernel) (by decide +kernel), mTs_in 52 (by decide +kernel) (by decide +kernel), ⟨by decide, by decide⟩, by decide +kernel⟩
theorem jsJ6_stringSize_0f7a4 : mYS yJ6_stringSize_0f7a4 cJ6_stringSize_0f7a4 4 (some .int) 1 := ⟨jbJ6_stringSize_0f7a4, mTs_in 938 (by decide +kernel) (by decide +kernel)⟩
theorem ljJ5_248 : Cond.methodLink RJ5 248 yJ6_getChars_ba4f3 ∈ mTs := mTs_in 940 (by decide +kernel) (by decide +kernel)
theorem jbJ6_getChars_ba4f3 : mY yJ6_getChars_ba4f3 cJ6_getChars_ba4f3 7 (some .int) 3 := ⟨mTs_in 942 (by decide +kernel) (by decide +kernel), mTs_in 52 (by decide +kernel) (by decide +kernel), ⟨by decide, by decide⟩, by decide +kernel⟩
theorem jsJ6_getChars_ba4f3 : mYS yJ6_getChars_ba4f3 cJ6_getChars_ba4f3 7 (some .int) 3 := ⟨jbJ6_getChars_ba4f3, mTs_in 941 (by decide +kernel) (by decide +kernel)⟩
theorem ljJ4_53 : Cond.methodLink RJ4 53 yJ5_append_c97b9 ∈ mTs := mTs_in 934 (by decide +kernel) (by decide +kernel)
theorem jbJ5_append_c97b9 : mY yJ5_append_c97b9 cJ5_append_c97b9 4 (some (.object "java/lang/AbstractStringBuilder")) 1 := ⟨mTs_in 936 (by decide +kernel) (by decide +kernel), mTs_in 41 (by decide +kernel) (by decide +kernel), ⟨by decide, by decide⟩, by decide +kernel⟩
theorem jiJ5_append_c97b9 : Cond.instanceMethod yJ5_append_c97b9 ∈ mTs := mTs_in 935 (by decide +kernel) (by decide +kernel)
theorem jqJ5_append_c97b9 : mY yJ5_append_c97b9 cJ5_append_c97b9 4 (some (.object "java/lang/AbstractStringBuilder")) 1 ∧ Cond.instanceMethod yJ5_append_c97b9 ∈ mTs := ⟨jbJ5_append_c97b9, jiJ5_append_c97b9⟩
theorem dJ6_stringSize_0f7a4_0 : decode cJ6_stringSize_0f7a4 0 = .ok (.iconst 1, 1) := by decide +kernel
theorem dJ6_stringSize_0f7a4_1 : decode cJ6_stringSize_0f7a4 1 = .ok (.istore_n 1, 1) := by decide +kernel
theorem dJ6_stringSize_0f7a4_2 : decode cJ6_stringSize_0f7a4 2 = .ok (.iload_n 0, 1) := by decide +kernel
theorem dJ6_stringSize_0f7a4_3 : decode cJ6_stringSize_0f7a4 3 = .ok (.ifCond .lt 8, 3) := by decide +kernel
theorem dJ6_stringSize_0f7a4_6 : decode cJ6_stringSize_0f7a4 6 = .ok (.iconst 0, 1) := by decide +kernel
theorem dJ6_stringSize_0f7a4_7 : decode cJ6_stringSize_0f7a4 7 = .ok (.istore_n 1, 1) := by decide +kernel
theorem dJ6_stringSize_0f7a4_8 : decode cJ6_stringSize_0f7a4 8 = .ok (.iload_n 0, 1) := by decide +kernel
theorem dJ6_stringSize_0f7a4_9 : decode cJ6_stringSize_0f7a4 9 = .ok (.ineg, 1) := by decide +kernel
theorem dJ6_stringSize_0f7a4_10 : decode cJ6_stringSize_0f7a4 10 = .ok (.istore_n 0, 1) := by decide +kernel
theorem dJ6_stringSize_0f7a4_11 : decode cJ6_stringSize_0f7a4 11 = .ok (.bipush (-10), 2) := by decide +kernel
theorem dJ6_stringSize_0f7a4_13 : decode cJ6_stringSize_0f7a4 13 = .ok (.istore_n 2, 1) := by decide +kernel
theorem dJ6_stringSize_0f7a4_14 : decode cJ6_stringSize_0f7a4 14 = .ok (.iconst 1, 1) := by decide +kernel
theorem dJ6_stringSize_0f7a4_15 : decode cJ6_stringSize_0f7a4 15 = .ok (.istore_n 3, 1) := by decide +kernel
theorem dJ6_stringSize_0f7a4_16 : decode cJ6_stringSize_0f7a4 16 = .ok (.iload_n 3, 1) := by decide +kernel
theorem dJ6_stringSize_0f7a4_17 : decode cJ6_stringSize_0f7a4 17 = .ok (.bipush 10, 2) := by decide +kernel
theorem dJ6_stringSize_0f7a4_19 : decode cJ6_stringSize_0f7a4 19 = .ok (.if_icmp .ge 23, 3) := by decide +kernel
theorem dJ6_stringSize_0f7a4_22 : decode cJ6_stringSize_0f7a4 22 = .ok (.iload_n 0, 1) := by decide +kernel
theorem dJ6_stringSize_0f7a4_23 : decode cJ6_stringSize_0f7a4 23 = .ok (.iload_n 2, 1) := by decide +kernel
theorem dJ6_stringSize_0f7a4_24 : decode cJ6_stringSize_0f7a4 24 = .ok (.if_icmp .le 7, 3) := by decide +kernel
theorem dJ6_stringSize_0f7a4_27 : decode cJ6_stringSize_0f7a4 27 = .ok (.iload_n 3, 1) := by decide +kernel
theorem dJ6_stringSize_0f7a4_28 : decode cJ6_stringSize_0f7a4 28 = .ok (.iload_n 1, 1) := by decide +kernel
theorem dJ6_stringSize_0f7a4_29 : decode cJ6_stringSize_0f7a4 29 = .ok (.iadd, 1) := by decide +kernel
theorem dJ6_stringSize_0f7a4_30 : decode cJ6_stringSize_0f7a4 30 = .ok (.ireturn, 1) := by decide +kernel
theorem dJ6_stringSize_0f7a4_31 : decode cJ6_stringSize_0f7a4 31 = .ok (.bipush 10, 2) := by decide +kernel
theorem dJ6_stringSize_0f7a4_33 : decode cJ6_stringSize_0f7a4 33 = .ok (.iload_n 2, 1) := by decide +kernel
theorem dJ6_stringSize_0f7a4_34 : decode cJ6_stringSize_0f7a4 34 = .ok (.imul, 1) := by decide +kernel
theorem dJ6_stringSize_0f7a4_35 : decode cJ6_stringSize_0f7a4 35 = .ok (.istore_n 2, 1) := by decide +kernel
theorem dJ6_stringSize_0f7a4_36 : decode cJ6_stringSize_0f7a4 36 = .ok (.iinc 3 1, 3) := by decide +kernel
theorem dJ6_stringSize_0f7a4_39 : decode cJ6_stringSize_0f7a4 39 = .ok (.goto (-23), 3) := by decide +kernel
theorem dJ6_stringSize_0f7a4_42 : decode cJ6_stringSize_0f7a4 42 = .ok (.bipush 10, 2) := by decide +kernel
theorem dJ6_stringSize_0f7a4_44 : decode cJ6_stringSize_0f7a4 44 = .ok (.iload_n 1, 1) := by decide +kernel
theorem dJ6_stringSize_0f7a4_45 : decode cJ6_stringSize_0f7a4 45 = .ok (.iadd, 1) := by decide +kernel
theorem dJ6_stringSize_0f7a4_46 : decode cJ6_stringSize_0f7a4 46 = .ok (.ireturn, 1) := by decide +kernel
theorem dJ6_getChars_ba4f3_0 : decode cJ6_getChars_ba4f3 0 = .ok (.iload_n 1, 1) := by decide +kernel
theorem dJ6_getChars_ba4f3_1 : decode cJ6_getChars_ba4f3 1 = .ok (.istore 5, 2) := by decide +kernel
theorem dJ6_getChars_ba4f3_3 : decode cJ6_getChars_ba4f3 3 = .ok (.iload_n 0, 1) := by decide +kernel
theorem dJ6_getChars_ba4f3_4 : decode cJ6_getChars_ba4f3 4 = .ok (.ifCond .ge 7, 3) := by decide +kernel
theorem dJ6_getChars_ba4f3_7 : decode cJ6_getChars_ba4f3 7 = .ok (.iconst 1, 1) := by decide +kernel
theorem dJ6_getChars_ba4f3_8 : decode cJ6_getChars_ba4f3 8 = .ok (.goto 4, 3) := by decide +kernel
theorem dJ6_getChars_ba4f3_11 : decode cJ6_getChars_ba4f3 11 = .ok (.iconst 0, 1) := by decide +kernel
theorem dJ6_getChars_ba4f3_12 : decode cJ6_getChars_ba4f3 12 = .ok (.istore 6, 2) := by decide +kernel
theorem dJ6_getChars_ba4f3_14 : decode cJ6_getChars_ba4f3 14 = .ok (.iload 6, 2) := by decide +kernel
theorem dJ6_getChars_ba4f3_16 : decode cJ6_getChars_ba4f3 16 = .ok (.ifCond .ne 6, 3) := by decide +kernel
theorem dJ6_getChars_ba4f3_19 : decode cJ6_getChars_ba4f3 19 = .ok (.iload_n 0, 1) := by decide +kernel
theorem dJ6_getChars_ba4f3_20 : decode cJ6_getChars_ba4f3 20 = .ok (.ineg, 1) := by decide +kernel
theorem dJ6_getChars_ba4f3_21 : decode cJ6_getChars_ba4f3 21 = .ok (.istore_n 0, 1) := by decide +kernel
theorem dJ6_getChars_ba4f3_22 : decode cJ6_getChars_ba4f3 22 = .ok (.iload_n 0, 1) := by decide +kernel
theorem dJ6_getChars_ba4f3_23 : decode cJ6_getChars_ba4f3 23 = .ok (.bipush (-100), 2) := by decide +kernel
theorem dJ6_getChars_ba4f3_25 : decode cJ6_getChars_ba4f3 25 = .ok (.if_icmp .gt 47, 3) := by decide +kernel
theorem dJ6_getChars_ba4f3_28 : decode cJ6_getChars_ba4f3 28 = .ok (.iload_n 0, 1) := by decide +kernel
theorem dJ6_getChars_ba4f3_29 : decode cJ6_getChars_ba4f3 29 = .ok (.bipush 100, 2) := by decide +kernel
theorem dJ6_getChars_ba4f3_31 : decode cJ6_getChars_ba4f3 31 = .ok (.idiv, 1) := by decide +kernel
theorem dJ6_getChars_ba4f3_32 : decode cJ6_getChars_ba4f3 32 = .ok (.istore_n 3, 1) := by decide +kernel
theorem dJ6_getChars_ba4f3_33 : decode cJ6_getChars_ba4f3 33 = .ok (.iload_n 3, 1) := by decide +kernel
theorem dJ6_getChars_ba4f3_34 : decode cJ6_getChars_ba4f3 34 = .ok (.bipush 100, 2) := by decide +kernel
theorem dJ6_getChars_ba4f3_36 : decode cJ6_getChars_ba4f3 36 = .ok (.imul, 1) := by decide +kernel
theorem dJ6_getChars_ba4f3_37 : decode cJ6_getChars_ba4f3 37 = .ok (.iload_n 0, 1) := by decide +kernel
theorem dJ6_getChars_ba4f3_38 : decode cJ6_getChars_ba4f3 38 = .ok (.isub, 1) := by decide +kernel
theorem dJ6_getChars_ba4f3_39 : decode cJ6_getChars_ba4f3 39 = .ok (.istore 4, 2) := by decide +kernel
theorem dJ6_getChars_ba4f3_41 : decode cJ6_getChars_ba4f3 41 = .ok (.iload_n 3, 1) := by decide +kernel
theorem dJ6_getChars_ba4f3_42 : decode cJ6_getChars_ba4f3 42 = .ok (.istore_n 0, 1) := by decide +kernel
theorem dJ6_getChars_ba4f3_43 : decode cJ6_getChars_ba4f3 43 = .ok (.aload_n 2, 1) := by decide +kernel
theorem dJ6_getChars_ba4f3_44 : decode cJ6_getChars_ba4f3 44 = .ok (.iinc 5 (-1), 3) := by decide +kernel
theorem dJ6_getChars_ba4f3_47 : decode cJ6_getChars_ba4f3 47 = .ok (.iload 5, 2) := by decide +kernel
theorem dJ6_getChars_ba4f3_49 : decode cJ6_getChars_ba4f3 49 = .ok (.getstatic 83, 3) := by decide +kernel
theorem dJ6_getChars_ba4f3_52 : decode cJ6_getChars_ba4f3 52 = .ok (.iload 4, 2) := by decide +kernel
theorem dJ6_getChars_ba4f3_54 : decode cJ6_getChars_ba4f3 54 = .ok (.baload, 1) := by decide +kernel
theorem dJ6_getChars_ba4f3_55 : decode cJ6_getChars_ba4f3 55 = .ok (.bastore, 1) := by decide +kernel
theorem dJ6_getChars_ba4f3_56 : decode cJ6_getChars_ba4f3 56 = .ok (.aload_n 2, 1) := by decide +kernel
theorem dJ6_getChars_ba4f3_57 : decode cJ6_getChars_ba4f3 57 = .ok (.iinc 5 (-1), 3) := by decide +kernel
theorem dJ6_getChars_ba4f3_60 : decode cJ6_getChars_ba4f3 60 = .ok (.iload 5, 2) := by decide +kernel
theorem dJ6_getChars_ba4f3_62 : decode cJ6_getChars_ba4f3 62 = .ok (.getstatic 87, 3) := by decide +kernel
theorem dJ6_getChars_ba4f3_65 : decode cJ6_getChars_ba4f3 65 = .ok (.iload 4, 2) := by decide +kernel
theorem dJ6_getChars_ba4f3_67 : decode cJ6_getChars_ba4f3 67 = .ok (.baload, 1) := by decide +kernel
theorem dJ6_getChars_ba4f3_68 : decode cJ6_getChars_ba4f3 68 = .ok (.bastore, 1) := by decide +kernel
theorem dJ6_getChars_ba4f3_69 : decode cJ6_getChars_ba4f3 69 = .ok (.goto (-47), 3) := by decide +kernel
theorem dJ6_getChars_ba4f3_72 : decode cJ6_getChars_ba4f3 72 = .ok (.aload_n 2, 1) := by decide +kernel
theorem dJ6_getChars_ba4f3_73 : decode cJ6_getChars_ba4f3 73 = .ok (.iinc 5 (-1), 3) := by decide +kernel
theorem dJ6_getChars_ba4f3_76 : decode cJ6_getChars_ba4f3 76 = .ok (.iload 5, 2) := by decide +kernel
theorem dJ6_getChars_ba4f3_78 : decode cJ6_getChars_ba4f3 78 = .ok (.getstatic 83, 3) := by decide +kernel
theorem dJ6_getChars_ba4f3_81 : decode cJ6_getChars_ba4f3 81 = .ok (.iload_n 0, 1) := by decide +kernel
theorem dJ6_getChars_ba4f3_82 : decode cJ6_getChars_ba4f3 82 = .ok (.ineg, 1) := by decide +kernel
theorem dJ6_getChars_ba4f3_83 : decode cJ6_getChars_ba4f3 83 = .ok (.baload, 1) := by decide +kernel
theorem dJ6_getChars_ba4f3_84 : decode cJ6_getChars_ba4f3 84 = .ok (.bastore, 1) := by decide +kernel
theorem dJ6_getChars_ba4f3_85 : decode cJ6_getChars_ba4f3 85 = .ok (.iload_n 0, 1) := by decide +kernel
theorem dJ6_getChars_ba4f3_86 : decode cJ6_getChars_ba4f3 86 = .ok (.bipush (-9), 2) := by decide +kernel
theorem dJ6_getChars_ba4f3_88 : decode cJ6_getChars_ba4f3 88 = .ok (.if_icmp .ge 16, 3) := by decide +kernel
theorem dJ6_getChars_ba4f3_91 : decode cJ6_getChars_ba4f3 91 = .ok (.aload_n 2, 1) := by decide +kernel
theorem dJ6_getChars_ba4f3_92 : decode cJ6_getChars_ba4f3 92 = .ok (.iinc 5 (-1), 3) := by decide +kernel
theorem dJ6_getChars_ba4f3_95 : decode cJ6_getChars_ba4f3 95 = .ok (.iload 5, 2) := by decide +kernel
theorem dJ6_getChars_ba4f3_97 : decode cJ6_getChars_ba4f3 97 = .ok (.getstatic 87, 3) := by decide +kernel
theorem dJ6_getChars_ba4f3_100 : decode cJ6_getChars_ba4f3 100 = .ok (.iload_n 0, 1) := by decide +kernel
theorem dJ6_getChars_ba4f3_101 : decode cJ6_getChars_ba4f3 101 = .ok (.ineg, 1) := by decide +kernel
theorem dJ6_getChars_ba4f3_102 : decode cJ6_getChars_ba4f3 102 = .ok (.baload, 1) := by decide +kernel
theorem dJ6_getChars_ba4f3_103 : decode cJ6_getChars_ba4f3 103 = .ok (.bastore, 1) := by decide +kernel
theorem dJ6_getChars_ba4f3_104 : decode cJ6_getChars_ba4f3 104 = .ok (.iload 6, 2) := by decide +kernel
theorem dJ6_getChars_ba4f3_106 : decode cJ6_getChars_ba4f3 106 = .ok (.ifCond .eq 12, 3) := by decide +kernel
theorem dJ6_getChars_ba4f3_109 : decode cJ6_getChars_ba4f3 109 = .ok (.aload_n 2, 1) := by decide +kernel
theorem dJ6_getChars_ba4f3_110 : decode cJ6_getChars_ba4f3 110 = .ok (.iinc 5 (-1), 3) := by decide +kernel
theorem dJ6_getChars_ba4f3_113 : decode cJ6_getChars_ba4f3 113 = .ok (.iload 5, 2) := by decide +kernel
theorem dJ6_getChars_ba4f3_115 : decode cJ6_getChars_ba4f3 115 = .ok (.bipush 45, 2) := by decide +kernel
theorem dJ6_getChars_ba4f3_117 : decode cJ6_getChars_ba4f3 117 = .ok (.bastore, 1) := by decide +kernel
theorem dJ6_getChars_ba4f3_118 : decode cJ6_getChars_ba4f3 118 = .ok (.iload 5, 2) := by decide +kernel
theorem dJ6_getChars_ba4f3_120 : decode cJ6_getChars_ba4f3 120 = .ok (.ireturn, 1) := by decide +kernel
theorem dJ5_append_c97b9_0 : decode cJ5_append_c97b9 0 = .ok (.aload_n 0, 1) := by decide +kernel
theorem dJ5_append_c97b9_1 : decode cJ5_append_c97b9 1 = .ok (.getfield 79, 3) := by decide +kernel
theorem dJ5_append_c97b9_4 : decode cJ5_append_c97b9 4 = .ok (.istore_n 2, 1) := by decide +kernel
theorem dJ5_append_c97b9_5 : decode cJ5_append_c97b9 5 = .ok (.iload_n 2, 1) := by decide +kernel
theorem dJ5_append_c97b9_6 : decode cJ5_append_c97b9 6 = .ok (.iload_n 1, 1) := by decide +kernel
theorem dJ5_append_c97b9_7 : decode cJ5_append_c97b9 7 = .ok (.invokestatic 245, 3) := by decide +kernel
theorem dJ5_append_c97b9_10 : decode cJ5_append_c97b9 10 = .ok (.iadd, 1) := by decide +kernel
theorem dJ5_append_c97b9_11 : decode cJ5_append_c97b9 11 = .ok (.istore_n 3, 1) := by decide +kernel
theorem dJ5_append_c97b9_12 : decode cJ5_append_c97b9 12 = .ok (.aload_n 0, 1) := by decide +kernel
theorem dJ5_append_c97b9_13 : decode cJ5_append_c97b9 13 = .ok (.iload_n 3, 1) := by decide +kernel
theorem dJ5_append_c97b9_14 : decode cJ5_append_c97b9 14 = .ok (.invokevirtual 100, 3) := by decide +kernel
theorem dJ5_append_c97b9_17 : decode cJ5_append_c97b9 17 = .ok (.aload_n 0, 1) := by decide +kernel
theorem dJ5_append_c97b9_18 : decode cJ5_append_c97b9 18 = .ok (.invokevirtual 83, 3) := by decide +kernel
theorem dJ5_append_c97b9_21 : decode cJ5_append_c97b9 21 = .ok (.ifCond .eq 16, 3) := by decide +kernel
theorem dJ5_append_c97b9_24 : decode cJ5_append_c97b9 24 = .ok (.iload_n 1, 1) := by decide +kernel
theorem dJ5_append_c97b9_25 : decode cJ5_append_c97b9 25 = .ok (.iload_n 3, 1) := by decide +kernel
theorem dJ5_append_c97b9_26 : decode cJ5_append_c97b9 26 = .ok (.aload_n 0, 1) := by decide +kernel
theorem dJ5_append_c97b9_27 : decode cJ5_append_c97b9 27 = .ok (.getfield 15, 3) := by decide +kernel
theorem dJ5_append_c97b9_30 : decode cJ5_append_c97b9 30 = .ok (.invokestatic 248, 3) := by decide +kernel
theorem dJ5_append_c97b9_33 : decode cJ5_append_c97b9 33 = .ok (.pop, 1) := by decide +kernel
theorem dJ5_append_c97b9_34 : decode cJ5_append_c97b9 34 = .ok (.goto 14, 3) := by decide +kernel
theorem dJ5_append_c97b9_37 : decode cJ5_append_c97b9 37 = .ok (.iload_n 1, 1) := by decide +kernel
theorem dJ5_append_c97b9_38 : decode cJ5_append_c97b9 38 = .ok (.iload_n 2, 1) := by decide +kernel
theorem dJ5_append_c97b9_39 : decode cJ5_append_c97b9 39 = .ok (.iload_n 3, 1) := by decide +kernel
theorem dJ5_append_c97b9_40 : decode cJ5_append_c97b9 40 = .ok (.aload_n 0, 1) := by decide +kernel
theorem dJ5_append_c97b9_41 : decode cJ5_append_c97b9 41 = .ok (.getfield 15, 3) := by decide +kernel
theorem dJ5_append_c97b9_44 : decode cJ5_append_c97b9 44 = .ok (.invokestatic 251, 3) := by decide +kernel
theorem dJ5_append_c97b9_47 : decode cJ5_append_c97b9 47 = .ok (.pop, 1) := by decide +kernel
theorem dJ5_append_c97b9_48 : decode cJ5_append_c97b9 48 = .ok (.aload_n 0, 1) := by decide +kernel
theorem dJ5_append_c97b9_49 : decode cJ5_append_c97b9 49 = .ok (.iload_n 3, 1) := by decide +kernel
theorem dJ5_append_c97b9_50 : decode cJ5_append_c97b9 50 = .ok (.putfield 79, 3) := by decide +kernel
theorem dJ5_append_c97b9_53 : decode cJ5_append_c97b9 53 = .ok (.aload_n 0, 1) := by decide +kernel
theorem dJ5_append_c97b9_54 : decode cJ5_append_c97b9 54 = .ok (.areturn, 1) := by decide +kernel
theorem dJ4_append_bf812_0 : decode cJ4_append_bf812 0 = .ok (.aload_n 0, 1) := by decide +kernel
theorem dJ4_append_bf812_1 : decode cJ4_append_bf812 1 = .ok (.iload_n 1, 1) := by decide +kernel
theorem dJ4_append_bf812_2 : decode cJ4_append_bf812 2 = .ok (.invokespecial 53, 3) := by decide +kernel
theorem dJ4_append_bf812_5 : decode cJ4_append_bf812 5 = .ok (.pop, 1) := by decide +kernel
theorem dJ4_append_bf812_6 : decode cJ4_append_bf812 6 = .ok (.aload_n 0, 1) := by decide +kernel
theorem dJ4_append_bf812_7 : decode cJ4_append_bf812 7 = .ok (.areturn, 1) := by decide +kernel
set_option maxRecDepth 100000 in
set_option maxHeartbeats 1000000 in
theorem qJ6_stringSize_0f7a4 (l : Launch) (E : mE) (lo : Nat) (ws : va_W) (x : Int) (hx : -999 ≤ x ∧ x ≤ 999) : jMet l yJ6_stringSize_0f7a4 cJ6_stringSize_0f7a4 4 (some .int) 0 12 0 0 E lo [vI (x)] ws [] (fun v w => v = some (vI ((decI x).length : Int)) ∧ w = ws) := by
  refine j_entry (by decide +kernel) (Nat.le_of_ble_eq_true rfl) (fun p e s m args below meth c G hr hk hin hJ ls hl => ?_)
  have G : CallFix p m c cJ6_stringSize_0f7a4 4 s args mTs RJ6 := G
  have hl : lv_has ls 4 [(0, vI (x))] := hl
  refine r_iconst (np := 1) G (1) dJ6_stringSize_0f7a4_0 rfl ?_
  refine r_istore_n (np := 2) G hl (rfl) [(1, vI (1)), (0, vI (x))] dJ6_stringSize_0f7a4_1 rfl rfl (by decide) rfl (fun ls hl => ?_)
  refine r_iload_n (np := 3) G hl 1 rfl dJ6_stringSize_0f7a4_2 rfl rfl ?_
  refine r_if_lt (np := 6) (tgt := 11) G (wI_eq (by omega) (by omega)) dJ6_stringSize_0f7a4_3 (by decide) rfl (fun hc => ?_) (fun hc => ?_)
  ·
    refine r_bipush (np := 13) G (-10) dJ6_stringSize_0f7a4_11 (by decide) rfl ?_
    refine r_istore_n (np := 14) G hl (rfl) [(2, vI ((-10))), (1, vI (1)), (0, vI (x))] dJ6_stringSize_0f7a4_13 rfl rfl (by decide) rfl (fun ls hl => ?_)
    refine r_iconst (np := 15) G (1) dJ6_stringSize_0f7a4_14 rfl ?_
    refine r_istore_n (np := 16) G hl (rfl) [(3, vI (1)), (2, vI ((-10))), (1, vI (1)), (0, vI (x))] dJ6_stringSize_0f7a4_15 rfl rfl (by decide) rfl (fun ls hl => ?_)
    refine r_iload_n (np := 17) G hl 0 rfl dJ6_stringSize_0f7a4_16 rfl rfl ?_
    refine r_bipush (np := 19) G (10) dJ6_stringSize_0f7a4_17 (by decide) rfl ?_
    refine r_icmp_ge (np := 22) (tgt := 42) G (wI_eq (by omega) (by omega)) (wI_eq (by omega) (by omega)) dJ6_stringSize_0f7a4_19 (by decide) rfl (fun hc => False.elim (by omega)) (fun hc => ?_)
    refine r_iload_n (np := 23) G hl 3 rfl dJ6_stringSize_0f7a4_22 rfl rfl ?_
    refine r_iload_n (np := 24) G hl 1 rfl dJ6_stringSize_0f7a4_23 rfl rfl ?_
    refine r_icmp_le (np := 27) (tgt := 31) G (wI_eq (by omega) (by omega)) (wI_eq (by omega) (by omega)) dJ6_stringSize_0f7a4_24 (by decide) rfl (fun hc => ?_) (fun hc => ?_)
    ·
      refine r_bipush (np := 33) G (10) dJ6_stringSize_0f7a4_31 (by decide) rfl ?_
      refine r_iload_n (np := 34) G hl 1 rfl dJ6_stringSize_0f7a4_33 rfl rfl ?_
      refine r_imul (np := 35) G dJ6_stringSize_0f7a4_34 rfl ?_
      refine r_istore_n (np := 36) G hl (by decide) [(2, vI ((-100))), (3, vI (1)), (1, vI (1)), (0, vI (x))] dJ6_stringSize_0f7a4_35 rfl rfl (by decide) rfl (fun ls hl => ?_)
      refine r_iinc (np := 39) G hl 1 rfl (y := 2) (by omega) [(3, vI (2)), (2, vI ((-100))), (1, vI (1)), (0, vI (x))] dJ6_stringSize_0f7a4_36 rfl (by decide) rfl (fun ls hl => ?_)
      refine r_goto (np := 16) G dJ6_stringSize_0f7a4_39 (by decide) ?_
      refine r_iload_n (np := 17) G hl 0 rfl dJ6_stringSize_0f7a4_16 rfl rfl ?_
      refine r_bipush (np := 19) G (10) dJ6_stringSize_0f7a4_17 (by decide) rfl ?_
      refine r_icmp_ge (np := 22) (tgt := 42) G (wI_eq (by omega) (by omega)) (wI_eq (by omega) (by omega)) dJ6_stringSize_0f7a4_19 (by decide) rfl (fun hc => False.elim (by omega)) (fun hc => ?_)
      refine r_iload_n (np := 23) G hl 3 rfl dJ6_stringSize_0f7a4_22 rfl rfl ?_
      refine r_iload_n (np := 24) G hl 1 rfl dJ6_stringSize_0f7a4_23 rfl rfl ?_
      refine r_icmp_le (np := 27) (tgt := 31) G (wI_eq (by omega) (by omega)) (wI_eq (by omega) (by omega)) dJ6_stringSize_0f7a4_24 (by decide) rfl (fun hc => ?_) (fun hc => ?_)
      ·
        refine r_bipush (np := 33) G (10) dJ6_stringSize_0f7a4_31 (by decide) rfl ?_
        refine r_iload_n (np := 34) G hl 1 rfl dJ6_stringSize_0f7a4_33 rfl rfl ?_
        refine r_imul (np := 35) G dJ6_stringSize_0f7a4_34 rfl ?_
        refine r_istore_n (np := 36) G hl (by decide) [(2, vI ((-1000))), (3, vI (2)), (1, vI (1)), (0, vI (x))] dJ6_stringSize_0f7a4_35 rfl rfl (by decide) rfl (fun ls hl => ?_)
        refine r_iinc (np := 39) G hl 1 rfl (y := 3) (by omega) [(3, vI (3)), (2, vI ((-1000))), (1, vI (1)), (0, vI (x))] dJ6_stringSize_0f7a4_36 rfl (by decide) rfl (fun ls hl => ?_)
        refine r_goto (np := 16) G dJ6_stringSize_0f7a4_39 (by decide) ?_
        refine r_iload_n (np := 17) G hl 0 rfl dJ6_stringSize_0f7a4_16 rfl rfl ?_
        refine r_bipush (np := 19) G (10) dJ6_stringSize_0f7a4_17 (by decide) rfl ?_
        refine r_icmp_ge (np := 22) (tgt := 42) G (wI_eq (by omega) (by omega)) (wI_eq (by omega) (by omega)) dJ6_stringSize_0f7a4_19 (by decide) rfl (fun hc => False.elim (by omega)) (fun hc => ?_)
        refine r_iload_n (np := 23) G hl 3 rfl dJ6_stringSize_0f7a4_22 rfl rfl ?_
        refine r_iload_n (np := 24) G hl 1 rfl dJ6_stringSize_0f7a4_23 rfl rfl ?_
        refine r_icmp_le (np := 27) (tgt := 31) G (wI_eq (by omega) (by omega)) (wI_eq (by omega) (by omega)) dJ6_stringSize_0f7a4_24 (by decide) rfl (fun hc => False.elim (by omega)) (fun hc => ?_)
        refine r_iload_n (np := 28) G hl 0 rfl dJ6_stringSize_0f7a4_27 rfl rfl ?_
        refine r_iload_n (np := 29) G hl 2 rfl dJ6_stringSize_0f7a4_28 rfl rfl ?_
        refine r_iadd (np := 30) G dJ6_stringSize_0f7a4_29 rfl ?_
        exact j_iret G hr hk hJ (⟨congrArg (fun z => some (vI z)) (by have := dl_m3 (x := x) (by omega); omega), rfl⟩) (Nat.le_of_ble_eq_true rfl) (Nat.le_of_ble_eq_true rfl) dJ6_stringSize_0f7a4_30
      ·
        refine r_iload_n (np := 28) G hl 0 rfl dJ6_stringSize_0f7a4_27 rfl rfl ?_
        refine r_iload_n (np := 29) G hl 2 rfl dJ6_stringSize_0f7a4_28 rfl rfl ?_
        refine r_iadd (np := 30) G dJ6_stringSize_0f7a4_29 rfl ?_
        exact j_iret G hr hk hJ (⟨congrArg (fun z => some (vI z)) (by have := dl_m2 (x := x) (by omega); omega), rfl⟩) (Nat.le_of_ble_eq_true rfl) (Nat.le_of_ble_eq_true rfl) dJ6_stringSize_0f7a4_30
    ·
      refine r_iload_n (np := 28) G hl 0 rfl dJ6_stringSize_0f7a4_27 rfl rfl ?_
      refine r_iload_n (np := 29) G hl 2 rfl dJ6_stringSize_0f7a4_28 rfl rfl ?_
      refine r_iadd (np := 30) G dJ6_stringSize_0f7a4_29 rfl ?_
      exact j_iret G hr hk hJ (⟨congrArg (fun z => some (vI z)) (by have := dl_m1 (x := x) (by omega); omega), rfl⟩) (Nat.le_of_ble_eq_true rfl) (Nat.le_of_ble_eq_true rfl) dJ6_stringSize_0f7a4_30
  ·
    refine r_iconst (np := 7) G (0) dJ6_stringSize_0f7a4_6 rfl ?_
    refine r_istore_n (np := 8) G hl (rfl) [(1, vI (0)), (0, vI (x))] dJ6_stringSize_0f7a4_7 rfl rfl (by decide) rfl (fun ls hl => ?_)
    refine r_iload_n (np := 9) G hl 1 rfl dJ6_stringSize_0f7a4_8 rfl rfl ?_
    refine r_ineg (np := 10) G dJ6_stringSize_0f7a4_9 rfl ?_
    refine r_istore_n (np := 11) G hl (rfl) [(0, vI (-(x))), (1, vI (0))] dJ6_stringSize_0f7a4_10 rfl rfl (by decide) rfl (fun ls hl => ?_)
    refine r_bipush (np := 13) G (-10) dJ6_stringSize_0f7a4_11 (by decide) rfl ?_
    refine r_istore_n (np := 14) G hl (rfl) [(2, vI ((-10))), (0, vI (-(x))), (1, vI (0))] dJ6_stringSize_0f7a4_13 rfl rfl (by decide) rfl (fun ls hl => ?_)
    refine r_iconst (np := 15) G (1) dJ6_stringSize_0f7a4_14 rfl ?_
    refine r_istore_n (np := 16) G hl (rfl) [(3, vI (1)), (2, vI ((-10))), (0, vI (-(x))), (1, vI (0))] dJ6_stringSize_0f7a4_15 rfl rfl (by decide) rfl (fun ls hl => ?_)
    refine r_iload_n (np := 17) G hl 0 rfl dJ6_stringSize_0f7a4_16 rfl rfl ?_
    refine r_bipush (np := 19) G (10) dJ6_stringSize_0f7a4_17 (by decide) rfl ?_
    refine r_icmp_ge (np := 22) (tgt := 42) G (wI_eq (by omega) (by omega)) (wI_eq (by omega) (by omega)) dJ6_stringSize_0f7a4_19 (by decide) rfl (fun hc => False.elim (by omega)) (fun hc => ?_)
    refine r_iload_n (np := 23) G hl 2 rfl dJ6_stringSize_0f7a4_22 rfl rfl ?_
    refine r_iload_n (np := 24) G hl 1 rfl dJ6_stringSize_0f7a4_23 rfl rfl ?_
    refine r_icmp_le (np := 27) (tgt := 31) G (wI_eq (by omega) (by omega)) (wI_eq (by omega) (by omega)) dJ6_stringSize_0f7a4_24 (by decide) rfl (fun hc => ?_) (fun hc => ?_)
    ·
      refine r_bipush (np := 33) G (10) dJ6_stringSize_0f7a4_31 (by decide) rfl ?_
      refine r_iload_n (np := 34) G hl 1 rfl dJ6_stringSize_0f7a4_33 rfl rfl ?_
      refine r_imul (np := 35) G dJ6_stringSize_0f7a4_34 rfl ?_
      refine r_istore_n (np := 36) G hl (by decide) [(2, vI ((-100))), (3, vI (1)), (0, vI (-(x))), (1, vI (0))] dJ6_stringSize_0f7a4_35 rfl rfl (by decide) rfl (fun ls hl => ?_)
      refine r_iinc (np := 39) G hl 1 rfl (y := 2) (by omega) [(3, vI (2)), (2, vI ((-100))), (0, vI (-(x))), (1, vI (0))] dJ6_stringSize_0f7a4_36 rfl (by decide) rfl (fun ls hl => ?_)
      refine r_goto (np := 16) G dJ6_stringSize_0f7a4_39 (by decide) ?_
      refine r_iload_n (np := 17) G hl 0 rfl dJ6_stringSize_0f7a4_16 rfl rfl ?_
      refine r_bipush (np := 19) G (10) dJ6_stringSize_0f7a4_17 (by decide) rfl ?_
      refine r_icmp_ge (np := 22) (tgt := 42) G (wI_eq (by omega) (by omega)) (wI_eq (by omega) (by omega)) dJ6_stringSize_0f7a4_19 (by decide) rfl (fun hc => False.elim (by omega)) (fun hc => ?_)
      refine r_iload_n (np := 23) G hl 2 rfl dJ6_stringSize_0f7a4_22 rfl rfl ?_
      refine r_iload_n (np := 24) G hl 1 rfl dJ6_stringSize_0f7a4_23 rfl rfl ?_
      refine r_icmp_le (np := 27) (tgt := 31) G (wI_eq (by omega) (by omega)) (wI_eq (by omega) (by omega)) dJ6_stringSize_0f7a4_24 (by decide) rfl (fun hc => ?_) (fun hc => ?_)
      ·
        refine r_bipush (np := 33) G (10) dJ6_stringSize_0f7a4_31 (by decide) rfl ?_
        refine r_iload_n (np := 34) G hl 1 rfl dJ6_stringSize_0f7a4_33 rfl rfl ?_
        refine r_imul (np := 35) G dJ6_stringSize_0f7a4_34 rfl ?_
        refine r_istore_n (np := 36) G hl (by decide) [(2, vI ((-1000))), (3, vI (2)), (0, vI (-(x))), (1, vI (0))] dJ6_stringSize_0f7a4_35 rfl rfl (by decide) rfl (fun ls hl => ?_)
        refine r_iinc (np := 39) G hl 1 rfl (y := 3) (by omega) [(3, vI (3)), (2, vI ((-1000))), (0, vI (-(x))), (1, vI (0))] dJ6_stringSize_0f7a4_36 rfl (by decide) rfl (fun ls hl => ?_)
        refine r_goto (np := 16) G dJ6_stringSize_0f7a4_39 (by decide) ?_
        refine r_iload_n (np := 17) G hl 0 rfl dJ6_stringSize_0f7a4_16 rfl rfl ?_
        refine r_bipush (np := 19) G (10) dJ6_stringSize_0f7a4_17 (by decide) rfl ?_
        refine r_icmp_ge (np := 22) (tgt := 42) G (wI_eq (by omega) (by omega)) (wI_eq (by omega) (by omega)) dJ6_stringSize_0f7a4_19 (by decide) rfl (fun hc => False.elim (by omega)) (fun hc => ?_)
        refine r_iload_n (np := 23) G hl 2 rfl dJ6_stringSize_0f7a4_22 rfl rfl ?_
        refine r_iload_n (np := 24) G hl 1 rfl dJ6_stringSize_0f7a4_23 rfl rfl ?_
        refine r_icmp_le (np := 27) (tgt := 31) G (wI_eq (by omega) (by omega)) (wI_eq (by omega) (by omega)) dJ6_stringSize_0f7a4_24 (by decide) rfl (fun hc => False.elim (by omega)) (fun hc => ?_)
        refine r_iload_n (np := 28) G hl 0 rfl dJ6_stringSize_0f7a4_27 rfl rfl ?_
        refine r_iload_n (np := 29) G hl 3 rfl dJ6_stringSize_0f7a4_28 rfl rfl ?_
        refine r_iadd (np := 30) G dJ6_stringSize_0f7a4_29 rfl ?_
        exact j_iret G hr hk hJ (⟨congrArg (fun z => some (vI z)) (by have := dl_p3 (x := x) (by omega); omega), rfl⟩) (Nat.le_of_ble_eq_true rfl) (Nat.le_of_ble_eq_true rfl) dJ6_stringSize_0f7a4_30
      ·
        refine r_iload_n (np := 28) G hl 0 rfl dJ6_stringSize_0f7a4_27 rfl rfl ?_
        refine r_iload_n (np := 29) G hl 3 rfl dJ6_stringSize_0f7a4_28 rfl rfl ?_
        refine r_iadd (np := 30) G dJ6_stringSize_0f7a4_29 rfl ?_
        exact j_iret G hr hk hJ (⟨congrArg (fun z => some (vI z)) (by have := dl_p2 (x := x) (by omega); omega), rfl⟩) (Nat.le_of_ble_eq_true rfl) (Nat.le_of_ble_eq_true rfl) dJ6_stringSize_0f7a4_30
    ·
      refine r_iload_n (np := 28) G hl 0 rfl dJ6_stringSize_0f7a4_27 rfl rfl ?_
      refine r_iload_n (np := 29) G hl 3 rfl dJ6_stringSize_0f7a4_28 rfl rfl ?_
      refine r_iadd (np := 30) G dJ6_stringSize_0f7a4_29 rfl ?_
      exact j_iret G hr hk hJ (⟨congrArg (fun z => some (vI z)) (by have := dl_p1 (x := x) (by omega); omega), rfl⟩) (Nat.le_of_ble_eq_true rfl) (Nat.le_of_ble_eq_true rfl) dJ6_stringSize_0f7a4_30
set_option maxRecDepth 100000 in
set_option maxHeartbeats 1000000 in
theorem gc_p1 (l : Launch) (E : mE) (lo : Nat) (b d k st : Nat) (n : Int) (f : Nat → Int32) (x : Int) (hx : 0 ≤ x ∧ x ≤ 9) (he : st + 1 ≤ k) (hcap : k ≤ 700) (hf : sb_Fit f) : jMet l yJ6_getChars_ba4f3 cJ6_getChars_ba4f3 7 (some .int) 0 12 0 0 E lo [vI (x), vI (((st + 1 : Nat) : Int)), .ref d] (jB E b d n k f) [] (fun v w => v = some (vI (st : Int)) ∧ ∃ f2, w = jB E b d n k f2 ∧ sb_Fit f2 ∧ (∀ j, j < st → f2 j = f j) ∧ ∀ i, i < 1 → f2 (st + i) = Int32.ofNat ((decI x).getD i 0)) := by
  refine j_entry (by decide +kernel) (Nat.le_of_ble_eq_true rfl) (fun p e s m args below meth c G hr hk hin hJ ls hl => ?_)
  have G : CallFix p m c cJ6_getChars_ba4f3 7 s args mTs RJ6 := G
  have hl : lv_has ls 7 [(0, vI (x)), (1, vI (((st + 1 : Nat) : Int))), (2, .ref d)] := hl
  refine r_iload_n (np := 1) G hl 1 rfl dJ6_getChars_ba4f3_0 rfl rfl ?_
  refine r_istore (np := 3) G hl (rfl) [(5, vI (((st + 1 : Nat) : Int))), (0, vI (x)), (1, vI (((st + 1 : Nat) : Int))), (2, .ref d)] dJ6_getChars_ba4f3_1 rfl (by decide) rfl (fun ls hl => ?_)
  refine r_iload_n (np := 4) G hl 1 rfl dJ6_getChars_ba4f3_3 rfl rfl ?_
  refine r_if_ge (np := 7) (tgt := 11) G (wI_eq (by omega) (by omega)) dJ6_getChars_ba4f3_4 (by decide) rfl (fun hc => ?_) (fun hc => False.elim (by omega))
  refine r_iconst (np := 12) G (0) dJ6_getChars_ba4f3_11 rfl ?_
  refine r_istore (np := 14) G hl (rfl) [(6, vI (0)), (5, vI (((st + 1 : Nat) : Int))), (0, vI (x)), (1, vI (((st + 1 : Nat) : Int))), (2, .ref d)] dJ6_getChars_ba4f3_12 rfl (by decide) rfl (fun ls hl => ?_)
  refine r_iload (np := 16) G hl 0 rfl dJ6_getChars_ba4f3_14 rfl ?_
  refine r_if_ne (np := 19) (tgt := 22) G (wI_eq (by omega) (by omega)) dJ6_getChars_ba4f3_16 (by decide) rfl (fun hc => False.elim (by omega)) (fun hc => ?_)
  refine r_iload_n (np := 20) G hl 2 rfl dJ6_getChars_ba4f3_19 rfl rfl ?_
  refine r_ineg (np := 21) G dJ6_getChars_ba4f3_20 rfl ?_
  refine r_istore_n (np := 22) G hl (rfl) [(0, vI (-(x))), (6, vI (0)), (5, vI (((st + 1 : Nat) : Int))), (1, vI (((st + 1 : Nat) : Int))), (2, .ref d)] dJ6_getChars_ba4f3_21 rfl rfl (by decide) rfl (fun ls hl => ?_)
  refine r_iload_n (np := 23) G hl 0 rfl dJ6_getChars_ba4f3_22 rfl rfl ?_
  refine r_bipush (np := 25) G (-100) dJ6_getChars_ba4f3_23 (by decide) rfl ?_
  refine r_icmp_gt (np := 28) (tgt := 72) G (wI_eq (by omega) (by omega)) (wI_eq (by omega) (by omega)) dJ6_getChars_ba4f3_25 (by decide) rfl (fun hc => ?_) (fun hc => False.elim (by omega))
  refine r_aload_n (np := 73) G hl 4 rfl dJ6_getChars_ba4f3_72 rfl rfl ?_
  refine r_iinc (np := 76) G hl 2 rfl (y := ((st + 0 : Nat) : Int)) (by omega) [(5, vI (((st + 0 : Nat) : Int))), (0, vI (-(x))), (6, vI (0)), (1, vI (((st + 1 : Nat) : Int))), (2, .ref d)] dJ6_getChars_ba4f3_73 rfl (by decide) rfl (fun ls hl => ?_)
  refine r_iload (np := 78) G hl 0 rfl dJ6_getChars_ba4f3_76 rfl ?_
  refine j_ones (np := 81) G hJ ljJ6_83 dJ6_getChars_ba4f3_78 rfl ?_
  refine r_iload_n (np := 82) G hl 1 rfl dJ6_getChars_ba4f3_81 rfl rfl ?_
  refine r_ineg (np := 83) G dJ6_getChars_ba4f3_82 rfl ?_
  refine j_obal (np := 84) G hJ (by rw [wI_eq (by omega) (by omega)]; omega) dJ6_getChars_ba4f3_83 rfl ?_
  rw [wI_eq (x := -(-(x))) (by omega) (by omega)]
  refine j_bast (np := 85) G hJ 1 (d0 := d) (n := k) (f := f) rfl (by rw [wI_eq (by omega) (by omega)]; omega) (by omega) dJ6_getChars_ba4f3_84 rfl (fun H locs hJ => ?_)
  rw [show (wI ((st + 0 : Nat) : Int)).toNat = st + 0 by rw [wI_eq (by omega) (by omega)]; omega] at hJ
  have hJ : jM E lo (jB E b d n k (upd f (st + 0) (Int32.ofInt (((48 + (-(-(x))).toNat % 10 : Nat) : Int))))) _ s H locs := hJ
  refine r_iload_n (np := 86) G hl 1 rfl dJ6_getChars_ba4f3_85 rfl rfl ?_
  refine r_bipush (np := 88) G (-9) dJ6_getChars_ba4f3_86 (by decide) rfl ?_
  refine r_icmp_ge (np := 91) (tgt := 104) G (wI_eq (by omega) (by omega)) (wI_eq (by omega) (by omega)) dJ6_getChars_ba4f3_88 (by decide) rfl (fun hc => ?_) (fun hc => False.elim (by omega))
  refine r_iload (np := 106) G hl 2 rfl dJ6_getChars_ba4f3_104 rfl ?_
  refine r_if_eq (np := 109) (tgt := 118) G (wI_eq (by omega) (by omega)) dJ6_getChars_ba4f3_106 (by decide) rfl (fun hc => ?_) (fun hc => False.elim (by omega))
  refine r_iload (np := 120) G hl 0 rfl dJ6_getChars_ba4f3_118 rfl ?_
  have hD := dec_p1 (x := x) (by omega)
  exact j_iret G hr hk hJ (⟨rfl, _, rfl, jw_fit1 hf (by omega), jw_low1, by rw [hD]; exact jw_all1 (by omega)⟩) (Nat.le_of_ble_eq_true rfl) (Nat.le_of_ble_eq_true rfl) dJ6_getChars_ba4f3_120
set_option maxRecDepth 100000 in
set_option maxHeartbeats 1000000 in
theorem gc_m1 (l : Launch) (E : mE) (lo : Nat) (b d k st : Nat) (n : Int) (f : Nat → Int32) (x : Int) (hx : 1 ≤ -x ∧ -x ≤ 9) (he : st + 2 ≤ k) (hcap : k ≤ 700) (hf : sb_Fit f) : jMet l yJ6_getChars_ba4f3 cJ6_getChars_ba4f3 7 (some .int) 0 12 0 0 E lo [vI (x), vI (((st + 2 : Nat) : Int)), .ref d] (jB E b d n k f) [] (fun v w => v = some (vI (st : Int)) ∧ ∃ f2, w = jB E b d n k f2 ∧ sb_Fit f2 ∧ (∀ j, j < st → f2 j = f j) ∧ ∀ i, i < 2 → f2 (st + i) = Int32.ofNat ((decI x).getD i 0)) := by
  refine j_entry (by decide +kernel) (Nat.le_of_ble_eq_true rfl) (fun p e s m args below meth c G hr hk hin hJ ls hl => ?_)
  have G : CallFix p m c cJ6_getChars_ba4f3 7 s args mTs RJ6 := G
  have hl : lv_has ls 7 [(0, vI (x)), (1, vI (((st + 2 : Nat) : Int))), (2, .ref d)] := hl
  refine r_iload_n (np := 1) G hl 1 rfl dJ6_getChars_ba4f3_0 rfl rfl ?_
  refine r_istore (np := 3) G hl (rfl) [(5, vI (((st + 2 : Nat) : Int))), (0, vI (x)), (1, vI (((st + 2 : Nat) : Int))), (2, .ref d)] dJ6_getChars_ba4f3_1 rfl (by decide) rfl (fun ls hl => ?_)
  refine r_iload_n (np := 4) G hl 1 rfl dJ6_getChars_ba4f3_3 rfl rfl ?_
  refine r_if_ge (np := 7) (tgt := 11) G (wI_eq (by omega) (by omega)) dJ6_getChars_ba4f3_4 (by decide) rfl (fun hc => False.elim (by omega)) (fun hc => ?_)
  refine r_iconst (np := 8) G (1) dJ6_getChars_ba4f3_7 rfl ?_
  refine r_goto (np := 12) G dJ6_getChars_ba4f3_8 (by decide) ?_
  refine r_istore (np := 14) G hl (rfl) [(6, vI (1)), (5, vI (((st + 2 : Nat) : Int))), (0, vI (x)), (1, vI (((st + 2 : Nat) : Int))), (2, .ref d)] dJ6_getChars_ba4f3_12 rfl (by decide) rfl (fun ls hl => ?_)
  refine r_iload (np := 16) G hl 0 rfl dJ6_getChars_ba4f3_14 rfl ?_
  refine r_if_ne (np := 19) (tgt := 22) G (wI_eq (by omega) (by omega)) dJ6_getChars_ba4f3_16 (by decide) rfl (fun hc => ?_) (fun hc => False.elim (by omega))
  refine r_iload_n (np := 23) G hl 2 rfl dJ6_getChars_ba4f3_22 rfl rfl ?_
  refine r_bipush (np := 25) G (-100) dJ6_getChars_ba4f3_23 (by decide) rfl ?_
  refine r_icmp_gt (np := 28) (tgt := 72) G (wI_eq (by omega) (by omega)) (wI_eq (by omega) (by omega)) dJ6_getChars_ba4f3_25 (by decide) rfl (fun hc => ?_) (fun hc => False.elim (by omega))
  refine r_aload_n (np := 73) G hl 4 rfl dJ6_getChars_ba4f3_72 rfl rfl ?_
  refine r_iinc (np := 76) G hl 1 rfl (y := ((st + 1 : Nat) : Int)) (by omega) [(5, vI (((st + 1 : Nat) : Int))), (6, vI (1)), (0, vI (x)), (1, vI (((st + 2 : Nat) : Int))), (2, .ref d)] dJ6_getChars_ba4f3_73 rfl (by decide) rfl (fun ls hl => ?_)
  refine r_iload (np := 78) G hl 0 rfl dJ6_getChars_ba4f3_76 rfl ?_
  refine j_ones (np := 81) G hJ ljJ6_83 dJ6_getChars_ba4f3_78 rfl ?_
  refine r_iload_n (np := 82) G hl 2 rfl dJ6_getChars_ba4f3_81 rfl rfl ?_
  refine r_ineg (np := 83) G dJ6_getChars_ba4f3_82 rfl ?_
  refine j_obal (np := 84) G hJ (by rw [wI_eq (by omega) (by omega)]; omega) dJ6_getChars_ba4f3_83 rfl ?_
  rw [wI_eq (x := -(x)) (by omega) (by omega)]
  refine j_bast (np := 85) G hJ 1 (d0 := d) (n := k) (f := f) rfl (by rw [wI_eq (by omega) (by omega)]; omega) (by omega) dJ6_getChars_ba4f3_84 rfl (fun H locs hJ => ?_)
  rw [show (wI ((st + 1 : Nat) : Int)).toNat = st + 1 by rw [wI_eq (by omega) (by omega)]; omega] at hJ
  have hJ : jM E lo (jB E b d n k (upd f (st + 1) (Int32.ofInt (((48 + (-(x)).toNat % 10 : Nat) : Int))))) _ s H locs := hJ
  refine r_iload_n (np := 86) G hl 2 rfl dJ6_getChars_ba4f3_85 rfl rfl ?_
  refine r_bipush (np := 88) G (-9) dJ6_getChars_ba4f3_86 (by decide) rfl ?_
  refine r_icmp_ge (np := 91) (tgt := 104) G (wI_eq (by omega) (by omega)) (wI_eq (by omega) (by omega)) dJ6_getChars_ba4f3_88 (by decide) rfl (fun hc => ?_) (fun hc => False.elim (by omega))
  refine r_iload (np := 106) G hl 1 rfl dJ6_getChars_ba4f3_104 rfl ?_
  refine r_if_eq (np := 109) (tgt := 118) G (wI_eq (by omega) (by omega)) dJ6_getChars_ba4f3_106 (by decide) rfl (fun hc => False.elim (by omega)) (fun hc => ?_)
  refine r_aload_n (np := 110) G hl 4 rfl dJ6_getChars_ba4f3_109 rfl rfl ?_
  refine r_iinc (np := 113) G hl 0 rfl (y := ((st + 0 : Nat) : Int)) (by omega) [(5, vI (((st + 0 : Nat) : Int))), (6, vI (1)), (0, vI (x)), (1, vI (((st + 2 : Nat) : Int))), (2, .ref d)] dJ6_getChars_ba4f3_110 rfl (by decide) rfl (fun ls hl => ?_)
  refine r_iload (np := 115) G hl 0 rfl dJ6_getChars_ba4f3_113 rfl ?_
  refine r_bipush (np := 117) G (45) dJ6_getChars_ba4f3_115 (by decide) rfl ?_
  refine j_bast (np := 118) G hJ 1 (d0 := d) (n := k) (f := (upd f (st + 1) (Int32.ofInt (((48 + (-(x)).toNat % 10 : Nat) : Int))))) rfl (by rw [wI_eq (by omega) (by omega)]; omega) (by omega) dJ6_getChars_ba4f3_117 rfl (fun H locs hJ => ?_)
  rw [show (wI ((st + 0 : Nat) : Int)).toNat = st + 0 by rw [wI_eq (by omega) (by omega)]; omega] at hJ
  have hJ : jM E lo (jB E b d n k (upd (upd f (st + 1) (Int32.ofInt (((48 + (-(x)).toNat % 10 : Nat) : Int)))) (st + 0) (Int32.ofInt (45)))) _ s H locs := hJ
  refine r_iload (np := 120) G hl 0 rfl dJ6_getChars_ba4f3_118 rfl ?_
  have hD := dec_m1 (x := x) (by omega)
  exact j_iret G hr hk hJ (⟨rfl, _, rfl, jw_fit2 hf (by omega) (by omega), jw_low2, by rw [hD]; exact jw_all2 (by omega) (by omega)⟩) (Nat.le_of_ble_eq_true rfl) (Nat.le_of_ble_eq_true rfl) dJ6_getChars_ba4f3_120
set_option maxRecDepth 100000 in
set_option maxHeartbeats 1000000 in
theorem gc_p2 (l : Launch) (E : mE) (lo : Nat) (b d k st : Nat) (n : Int) (f : Nat → Int32) (x : Int) (hx : 10 ≤ x ∧ x ≤ 99) (he : st + 2 ≤ k) (hcap : k ≤ 700) (hf : sb_Fit f) : jMet l yJ6_getChars_ba4f3 cJ6_getChars_ba4f3 7 (some .int) 0 12 0 0 E lo [vI (x), vI (((st + 2 : Nat) : Int)), .ref d] (jB E b d n k f) [] (fun v w => v = some (vI (st : Int)) ∧ ∃ f2, w = jB E b d n k f2 ∧ sb_Fit f2 ∧ (∀ j, j < st → f2 j = f j) ∧ ∀ i, i < 2 → f2 (st + i) = Int32.ofNat ((decI x).getD i 0)) := by
  refine j_entry (by decide +kernel) (Nat.le_of_ble_eq_true rfl) (fun p e s m args below meth c G hr hk hin hJ ls hl => ?_)
  have G : CallFix p m c cJ6_getChars_ba4f3 7 s args mTs RJ6 := G
  have hl : lv_has ls 7 [(0, vI (x)), (1, vI (((st + 2 : Nat) : Int))), (2, .ref d)] := hl
  refine r_iload_n (np := 1) G hl 1 rfl dJ6_getChars_ba4f3_0 rfl rfl ?_
  refine r_istore (np := 3) G hl (rfl) [(5, vI (((st + 2 : Nat) : Int))), (0, vI (x)), (1, vI (((st + 2 : Nat) : Int))), (2, .ref d)] dJ6_getChars_ba4f3_1 rfl (by decide) rfl (fun ls hl => ?_)
  refine r_iload_n (np := 4) G hl 1 rfl dJ6_getChars_ba4f3_3 rfl rfl ?_
  refine r_if_ge (np := 7) (tgt := 11) G (wI_eq (by omega) (by omega)) dJ6_getChars_ba4f3_4 (by decide) rfl (fun hc => ?_) (fun hc => False.elim (by omega))
  refine r_iconst (np := 12) G (0) dJ6_getChars_ba4f3_11 rfl ?_
  refine r_istore (np := 14) G hl (rfl) [(6, vI (0)), (5, vI (((st + 2 : Nat) : Int))), (0, vI (x)), (1, vI (((st + 2 : Nat) : Int))), (2, .ref d)] dJ6_getChars_ba4f3_12 rfl (by decide) rfl (fun ls hl => ?_)
  refine r_iload (np := 16) G hl 0 rfl dJ6_getChars_ba4f3_14 rfl ?_
  refine r_if_ne (np := 19) (tgt := 22) G (wI_eq (by omega) (by omega)) dJ6_getChars_ba4f3_16 (by decide) rfl (fun hc => False.elim (by omega)) (fun hc => ?_)
  refine r_iload_n (np := 20) G hl 2 rfl dJ6_getChars_ba4f3_19 rfl rfl ?_
  refine r_ineg (np := 21) G dJ6_getChars_ba4f3_20 rfl ?_
  refine r_istore_n (np := 22) G hl (rfl) [(0, vI (-(x))), (6, vI (0)), (5, vI (((st + 2 : Nat) : Int))), (1, vI (((st + 2 : Nat) : Int))), (2, .ref d)] dJ6_getChars_ba4f3_21 rfl rfl (by decide) rfl (fun ls hl => ?_)
  refine r_iload_n (np := 23) G hl 0 rfl dJ6_getChars_ba4f3_22 rfl rfl ?_
  refine r_bipush (np := 25) G (-100) dJ6_getChars_ba4f3_23 (by decide) rfl ?_
  refine r_icmp_gt (np := 28) (tgt := 72) G (wI_eq (by omega) (by omega)) (wI_eq (by omega) (by omega)) dJ6_getChars_ba4f3_25 (by decide) rfl (fun hc => ?_) (fun hc => False.elim (by omega))
  refine r_aload_n (np := 73) G hl 4 rfl dJ6_getChars_ba4f3_72 rfl rfl ?_
  refine r_iinc (np := 76) G hl 2 rfl (y := ((st + 1 : Nat) : Int)) (by omega) [(5, vI (((st + 1 : Nat) : Int))), (0, vI (-(x))), (6, vI (0)), (1, vI (((st + 2 : Nat) : Int))), (2, .ref d)] dJ6_getChars_ba4f3_73 rfl (by decide) rfl (fun ls hl => ?_)
  refine r_iload (np := 78) G hl 0 rfl dJ6_getChars_ba4f3_76 rfl ?_
  refine j_ones (np := 81) G hJ ljJ6_83 dJ6_getChars_ba4f3_78 rfl ?_
  refine r_iload_n (np := 82) G hl 1 rfl dJ6_getChars_ba4f3_81 rfl rfl ?_
  refine r_ineg (np := 83) G dJ6_getChars_ba4f3_82 rfl ?_
  refine j_obal (np := 84) G hJ (by rw [wI_eq (by omega) (by omega)]; omega) dJ6_getChars_ba4f3_83 rfl ?_
  rw [wI_eq (x := -(-(x))) (by omega) (by omega)]
  refine j_bast (np := 85) G hJ 1 (d0 := d) (n := k) (f := f) rfl (by rw [wI_eq (by omega) (by omega)]; omega) (by omega) dJ6_getChars_ba4f3_84 rfl (fun H locs hJ => ?_)
  rw [show (wI ((st + 1 : Nat) : Int)).toNat = st + 1 by rw [wI_eq (by omega) (by omega)]; omega] at hJ
  have hJ : jM E lo (jB E b d n k (upd f (st + 1) (Int32.ofInt (((48 + (-(-(x))).toNat % 10 : Nat) : Int))))) _ s H locs := hJ
  refine r_iload_n (np := 86) G hl 1 rfl dJ6_getChars_ba4f3_85 rfl rfl ?_
  refine r_bipush (np := 88) G (-9) dJ6_getChars_ba4f3_86 (by decide) rfl ?_
  refine r_icmp_ge (np := 91) (tgt := 104) G (wI_eq (by omega) (by omega)) (wI_eq (by omega) (by omega)) dJ6_getChars_ba4f3_88 (by decide) rfl (fun hc => False.elim (by omega)) (fun hc => ?_)
  refine r_aload_n (np := 92) G hl 4 rfl dJ6_getChars_ba4f3_91 rfl rfl ?_
  refine r_iinc (np := 95) G hl 0 rfl (y := ((st + 0 : Nat) : Int)) (by omega) [(5, vI (((st + 0 : Nat) : Int))), (0, vI (-(x))), (6, vI (0)), (1, vI (((st + 2 : Nat) : Int))), (2, .ref d)] dJ6_getChars_ba4f3_92 rfl (by decide) rfl (fun ls hl => ?_)
  refine r_iload (np := 97) G hl 0 rfl dJ6_getChars_ba4f3_95 rfl ?_
  refine j_tens (np := 100) G hJ ljJ6_87 dJ6_getChars_ba4f3_97 rfl ?_
  refine r_iload_n (np := 101) G hl 1 rfl dJ6_getChars_ba4f3_100 rfl rfl ?_
  refine r_ineg (np := 102) G dJ6_getChars_ba4f3_101 rfl ?_
  refine j_tbal (np := 103) G hJ (by rw [wI_eq (by omega) (by omega)]; omega) dJ6_getChars_ba4f3_102 rfl ?_
  rw [wI_eq (x := -(-(x))) (by omega) (by omega)]
  refine j_bast (np := 104) G hJ 1 (d0 := d) (n := k) (f := (upd f (st + 1) (Int32.ofInt (((48 + (-(-(x))).toNat % 10 : Nat) : Int))))) rfl (by rw [wI_eq (by omega) (by omega)]; omega) (by omega) dJ6_getChars_ba4f3_103 rfl (fun H locs hJ => ?_)
  rw [show (wI ((st + 0 : Nat) : Int)).toNat = st + 0 by rw [wI_eq (by omega) (by omega)]; omega] at hJ
  have hJ : jM E lo (jB E b d n k (upd (upd f (st + 1) (Int32.ofInt (((48 + (-(-(x))).toNat % 10 : Nat) : Int)))) (st + 0) (Int32.ofInt (((48 + (-(-(x))).toNat / 10 : Nat) : Int))))) _ s H locs := hJ
  refine r_iload (np := 106) G hl 2 rfl dJ6_getChars_ba4f3_104 rfl ?_
  refine r_if_eq (np := 109) (tgt := 118) G (wI_eq (by omega) (by omega)) dJ6_getChars_ba4f3_106 (by decide) rfl (fun hc => ?_) (fun hc => False.elim (by omega))
  refine r_iload (np := 120) G hl 0 rfl dJ6_getChars_ba4f3_118 rfl ?_
  have hD := dec_p2 (x := x) (by omega)
  exact j_iret G hr hk hJ (⟨rfl, _, rfl, jw_fit2 hf (by omega) (by omega), jw_low2, by rw [hD]; exact jw_all2 (by omega) (by omega)⟩) (Nat.le_of_ble_eq_true rfl) (Nat.le_of_ble_eq_true rfl) dJ6_getChars_ba4f3_120
set_option maxRecDepth 100000 in
set_option maxHeartbeats 1000000 in
theorem gc_m2 (l : Launch) (E : mE) (lo : Nat) (b d k st : Nat) (n : Int) (f : Nat → Int32) (x : Int) (hx : 10 ≤ -x ∧ -x ≤ 99) (he : st + 3 ≤ k) (hcap : k ≤ 700) (hf : sb_Fit f) : jMet l yJ6_getChars_ba4f3 cJ6_getChars_ba4f3 7 (some .int) 0 12 0 0 E lo [vI (x), vI (((st + 3 : Nat) : Int)), .ref d] (jB E b d n k f) [] (fun v w => v = some (vI (st : Int)) ∧ ∃ f2, w = jB E b d n k f2 ∧ sb_Fit f2 ∧ (∀ j, j < st → f2 j = f j) ∧ ∀ i, i < 3 → f2 (st + i) = Int32.ofNat ((decI x).getD i 0)) := by
  refine j_entry (by decide +kernel) (Nat.le_of_ble_eq_true rfl) (fun p e s m args below meth c G hr hk hin hJ ls hl => ?_)
  have G : CallFix p m c cJ6_getChars_ba4f3 7 s args mTs RJ6 := G
  have hl : lv_has ls 7 [(0, vI (x)), (1, vI (((st + 3 : Nat) : Int))), (2, .ref d)] := hl
  refine r_iload_n (np := 1) G hl 1 rfl dJ6_getChars_ba4f3_0 rfl rfl ?_
  refine r_istore (np := 3) G hl (rfl) [(5, vI (((st + 3 : Nat) : Int))), (0, vI (x)), (1, vI (((st + 3 : Nat) : Int))), (2, .ref d)] dJ6_getChars_ba4f3_1 rfl (by decide) rfl (fun ls hl => ?_)
  refine r_iload_n (np := 4) G hl 1 rfl dJ6_getChars_ba4f3_3 rfl rfl ?_
  refine r_if_ge (np := 7) (tgt := 11) G (wI_eq (by omega) (by omega)) dJ6_getChars_ba4f3_4 (by decide) rfl (fun hc => False.elim (by omega)) (fun hc => ?_)
  refine r_iconst (np := 8) G (1) dJ6_getChars_ba4f3_7 rfl ?_
  refine r_goto (np := 12) G dJ6_getChars_ba4f3_8 (by decide) ?_
  refine r_istore (np := 14) G hl (rfl) [(6, vI (1)), (5, vI (((st + 3 : Nat) : Int))), (0, vI (x)), (1, vI (((st + 3 : Nat) : Int))), (2, .ref d)] dJ6_getChars_ba4f3_12 rfl (by decide) rfl (fun ls hl => ?_)
  refine r_iload (np := 16) G hl 0 rfl dJ6_getChars_ba4f3_14 rfl ?_
  refine r_if_ne (np := 19) (tgt := 22) G (wI_eq (by omega) (by omega)) dJ6_getChars_ba4f3_16 (by decide) rfl (fun hc => ?_) (fun hc => False.elim (by omega))
  refine r_iload_n (np := 23) G hl 2 rfl dJ6_getChars_ba4f3_22 rfl rfl ?_
  refine r_bipush (np := 25) G (-100) dJ6_getChars_ba4f3_23 (by decide) rfl ?_
  refine r_icmp_gt (np := 28) (tgt := 72) G (wI_eq (by omega) (by omega)) (wI_eq (by omega) (by omega)) dJ6_getChars_ba4f3_25 (by decide) rfl (fun hc => ?_) (fun hc => False.elim (by omega))
  refine r_aload_n (np := 73) G hl 4 rfl dJ6_getChars_ba4f3_72 rfl rfl ?_
  refine r_iinc (np := 76) G hl 1 rfl (y := ((st + 2 : Nat) : Int)) (by omega) [(5, vI (((st + 2 : Nat) : Int))), (6, vI (1)), (0, vI (x)), (1, vI (((st + 3 : Nat) : Int))), (2, .ref d)] dJ6_getChars_ba4f3_73 rfl (by decide) rfl (fun ls hl => ?_)
  refine r_iload (np := 78) G hl 0 rfl dJ6_getChars_ba4f3_76 rfl ?_
  refine j_ones (np := 81) G hJ ljJ6_83 dJ6_getChars_ba4f3_78 rfl ?_
  refine r_iload_n (np := 82) G hl 2 rfl dJ6_getChars_ba4f3_81 rfl rfl ?_
  refine r_ineg (np := 83) G dJ6_getChars_ba4f3_82 rfl ?_
  refine j_obal (np := 84) G hJ (by rw [wI_eq (by omega) (by omega)]; omega) dJ6_getChars_ba4f3_83 rfl ?_
  rw [wI_eq (x := -(x)) (by omega) (by omega)]
  refine j_bast (np := 85) G hJ 1 (d0 := d) (n := k) (f := f) rfl (by rw [wI_eq (by omega) (by omega)]; omega) (by omega) dJ6_getChars_ba4f3_84 rfl (fun H locs hJ => ?_)
  rw [show (wI ((st + 2 : Nat) : Int)).toNat = st + 2 by rw [wI_eq (by omega) (by omega)]; omega] at hJ
  have hJ : jM E lo (jB E b d n k (upd f (st + 2) (Int32.ofInt (((48 + (-(x)).toNat % 10 : Nat) : Int))))) _ s H locs := hJ
  refine r_iload_n (np := 86) G hl 2 rfl dJ6_getChars_ba4f3_85 rfl rfl ?_
  refine r_bipush (np := 88) G (-9) dJ6_getChars_ba4f3_86 (by decide) rfl ?_
  refine r_icmp_ge (np := 91) (tgt := 104) G (wI_eq (by omega) (by omega)) (wI_eq (by omega) (by omega)) dJ6_getChars_ba4f3_88 (by decide) rfl (fun hc => False.elim (by omega)) (fun hc => ?_)
  refine r_aload_n (np := 92) G hl 4 rfl dJ6_getChars_ba4f3_91 rfl rfl ?_
  refine r_iinc (np := 95) G hl 0 rfl (y := ((st + 1 : Nat) : Int)) (by omega) [(5, vI (((st + 1 : Nat) : Int))), (6, vI (1)), (0, vI (x)), (1, vI (((st + 3 : Nat) : Int))), (2, .ref d)] dJ6_getChars_ba4f3_92 rfl (by decide) rfl (fun ls hl => ?_)
  refine r_iload (np := 97) G hl 0 rfl dJ6_getChars_ba4f3_95 rfl ?_
  refine j_tens (np := 100) G hJ ljJ6_87 dJ6_getChars_ba4f3_97 rfl ?_
  refine r_iload_n (np := 101) G hl 2 rfl dJ6_getChars_ba4f3_100 rfl rfl ?_
  refine r_ineg (np := 102) G dJ6_getChars_ba4f3_101 rfl ?_
  refine j_tbal (np := 103) G hJ (by rw [wI_eq (by omega) (by omega)]; omega) dJ6_getChars_ba4f3_102 rfl ?_
  rw [wI_eq (x := -(x)) (by omega) (by omega)]
  refine j_bast (np := 104) G hJ 1 (d0 := d) (n := k) (f := (upd f (st + 2) (Int32.ofInt (((48 + (-(x)).toNat % 10 : Nat) : Int))))) rfl (by rw [wI_eq (by omega) (by omega)]; omega) (by omega) dJ6_getChars_ba4f3_103 rfl (fun H locs hJ => ?_)
  rw [show (wI ((st + 1 : Nat) : Int)).toNat = st + 1 by rw [wI_eq (by omega) (by omega)]; omega] at hJ
  have hJ : jM E lo (jB E b d n k (upd (upd f (st + 2) (Int32.ofInt (((48 + (-(x)).toNat % 10 : Nat) : Int)))) (st + 1) (Int32.ofInt (((48 + (-(x)).toNat / 10 : Nat) : Int))))) _ s H locs := hJ
  refine r_iload (np := 106) G hl 1 rfl dJ6_getChars_ba4f3_104 rfl ?_
  refine r_if_eq (np := 109) (tgt := 118) G (wI_eq (by omega) (by omega)) dJ6_getChars_ba4f3_106 (by decide) rfl (fun hc => False.elim (by omega)) (fun hc => ?_)
  refine r_aload_n (np := 110) G hl 4 rfl dJ6_getChars_ba4f3_109 rfl rfl ?_
  refine r_iinc (np := 113) G hl 0 rfl (y := ((st + 0 : Nat) : Int)) (by omega) [(5, vI (((st + 0 : Nat) : Int))), (6, vI (1)), (0, vI (x)), (1, vI (((st + 3 : Nat) : Int))), (2, .ref d)] dJ6_getChars_ba4f3_110 rfl (by decide) rfl (fun ls hl => ?_)
  refine r_iload (np := 115) G hl 0 rfl dJ6_getChars_ba4f3_113 rfl ?_
  refine r_bipush (np := 117) G (45) dJ6_getChars_ba4f3_115 (by decide) rfl ?_
  refine j_bast (np := 118) G hJ 1 (d0 := d) (n := k) (f := (upd (upd f (st + 2) (Int32.ofInt (((48 + (-(x)).toNat % 10 : Nat) : Int)))) (st + 1) (Int32.ofInt (((48 + (-(x)).toNat / 10 : Nat) : Int))))) rfl (by rw [wI_eq (by omega) (by omega)]; omega) (by omega) dJ6_getChars_ba4f3_117 rfl (fun H locs hJ => ?_)
  rw [show (wI ((st + 0 : Nat) : Int)).toNat = st + 0 by rw [wI_eq (by omega) (by omega)]; omega] at hJ
  have hJ : jM E lo (jB E b d n k (upd (upd (upd f (st + 2) (Int32.ofInt (((48 + (-(x)).toNat % 10 : Nat) : Int)))) (st + 1) (Int32.ofInt (((48 + (-(x)).toNat / 10 : Nat) : Int)))) (st + 0) (Int32.ofInt (45)))) _ s H locs := hJ
  refine r_iload (np := 120) G hl 0 rfl dJ6_getChars_ba4f3_118 rfl ?_
  have hD := dec_m2 (x := x) (by omega)
  exact j_iret G hr hk hJ (⟨rfl, _, rfl, jw_fit3 hf (by omega) (by omega) (by omega), jw_low3, by rw [hD]; exact jw_all3 (by omega) (by omega) (by omega)⟩) (Nat.le_of_ble_eq_true rfl) (Nat.le_of_ble_eq_true rfl) dJ6_getChars_ba4f3_120
set_option maxRecDepth 100000 in
set_option maxHeartbeats 1000000 in
theorem gc_p3 (l : Launch) (E : mE) (lo : Nat) (b d k st : Nat) (n : Int) (f : Nat → Int32) (x : Int) (hx : 100 ≤ x ∧ x ≤ 999) (he : st + 3 ≤ k) (hcap : k ≤ 700) (hf : sb_Fit f) : jMet l yJ6_getChars_ba4f3 cJ6_getChars_ba4f3 7 (some .int) 0 12 0 0 E lo [vI (x), vI (((st + 3 : Nat) : Int)), .ref d] (jB E b d n k f) [] (fun v w => v = some (vI (st : Int)) ∧ ∃ f2, w = jB E b d n k f2 ∧ sb_Fit f2 ∧ (∀ j, j < st → f2 j = f j) ∧ ∀ i, i < 3 → f2 (st + i) = Int32.ofNat ((decI x).getD i 0)) := by
  refine j_entry (by decide +kernel) (Nat.le_of_ble_eq_true rfl) (fun p e s m args below meth c G hr hk hin hJ ls hl => ?_)
  have G : CallFix p m c cJ6_getChars_ba4f3 7 s args mTs RJ6 := G
  have hl : lv_has ls 7 [(0, vI (x)), (1, vI (((st + 3 : Nat) : Int))), (2, .ref d)] := hl
  obtain ⟨q1, hq1⟩ : ∃ q1 : Int, q1 = -((x) / 100) := ⟨_, rfl⟩
  obtain ⟨r1, hr1⟩ : ∃ r1 : Int, r1 = (x) % 100 := ⟨_, rfl⟩
  refine r_iload_n (np := 1) G hl 1 rfl dJ6_getChars_ba4f3_0 rfl rfl ?_
  refine r_istore (np := 3) G hl (rfl) [(5, vI (((st + 3 : Nat) : Int))), (0, vI (x)), (1, vI (((st + 3 : Nat) : Int))), (2, .ref d)] dJ6_getChars_ba4f3_1 rfl (by decide) rfl (fun ls hl => ?_)
  refine r_iload_n (np := 4) G hl 1 rfl dJ6_getChars_ba4f3_3 rfl rfl ?_
  refine r_if_ge (np := 7) (tgt := 11) G (wI_eq (by omega) (by omega)) dJ6_getChars_ba4f3_4 (by decide) rfl (fun hc => ?_) (fun hc => False.elim (by omega))
  refine r_iconst (np := 12) G (0) dJ6_getChars_ba4f3_11 rfl ?_
  refine r_istore (np := 14) G hl (rfl) [(6, vI (0)), (5, vI (((st + 3 : Nat) : Int))), (0, vI (x)), (1, vI (((st + 3 : Nat) : Int))), (2, .ref d)] dJ6_getChars_ba4f3_12 rfl (by decide) rfl (fun ls hl => ?_)
  refine r_iload (np := 16) G hl 0 rfl dJ6_getChars_ba4f3_14 rfl ?_
  refine r_if_ne (np := 19) (tgt := 22) G (wI_eq (by omega) (by omega)) dJ6_getChars_ba4f3_16 (by decide) rfl (fun hc => False.elim (by omega)) (fun hc => ?_)
  refine r_iload_n (np := 20) G hl 2 rfl dJ6_getChars_ba4f3_19 rfl rfl ?_
  refine r_ineg (np := 21) G dJ6_getChars_ba4f3_20 rfl ?_
  refine r_istore_n (np := 22) G hl (rfl) [(0, vI (-(x))), (6, vI (0)), (5, vI (((st + 3 : Nat) : Int))), (1, vI (((st + 3 : Nat) : Int))), (2, .ref d)] dJ6_getChars_ba4f3_21 rfl rfl (by decide) rfl (fun ls hl => ?_)
  refine r_iload_n (np := 23) G hl 0 rfl dJ6_getChars_ba4f3_22 rfl rfl ?_
  refine r_bipush (np := 25) G (-100) dJ6_getChars_ba4f3_23 (by decide) rfl ?_
  refine r_icmp_gt (np := 28) (tgt := 72) G (wI_eq (by omega) (by omega)) (wI_eq (by omega) (by omega)) dJ6_getChars_ba4f3_25 (by decide) rfl (fun hc => False.elim (by omega)) (fun hc => ?_)
  refine r_iload_n (np := 29) G hl 0 rfl dJ6_getChars_ba4f3_28 rfl rfl ?_
  refine r_bipush (np := 31) G (100) dJ6_getChars_ba4f3_29 (by decide) rfl ?_
  refine r_idiv (np := 32) G (by decide) dJ6_getChars_ba4f3_31 rfl ?_
  refine r_istore_n (np := 33) G hl (by rw [td100 (by omega)]; omega) [(3, vI (q1)), (0, vI (-(x))), (6, vI (0)), (5, vI (((st + 3 : Nat) : Int))), (1, vI (((st + 3 : Nat) : Int))), (2, .ref d)] dJ6_getChars_ba4f3_32 rfl rfl (by decide) rfl (fun ls hl => ?_)
  refine r_iload_n (np := 34) G hl 0 rfl dJ6_getChars_ba4f3_33 rfl rfl ?_
  refine r_bipush (np := 36) G (100) dJ6_getChars_ba4f3_34 (by decide) rfl ?_
  refine r_imul (np := 37) G dJ6_getChars_ba4f3_36 rfl ?_
  refine r_iload_n (np := 38) G hl 1 rfl dJ6_getChars_ba4f3_37 rfl rfl ?_
  refine r_isub (np := 39) G dJ6_getChars_ba4f3_38 rfl ?_
  refine r_istore (np := 41) G hl (by omega) [(4, vI (r1)), (3, vI (q1)), (0, vI (-(x))), (6, vI (0)), (5, vI (((st + 3 : Nat) : Int))), (1, vI (((st + 3 : Nat) : Int))), (2, .ref d)] dJ6_getChars_ba4f3_39 rfl (by decide) rfl (fun ls hl => ?_)
  refine r_iload_n (np := 42) G hl 1 rfl dJ6_getChars_ba4f3_41 rfl rfl ?_
  refine r_istore_n (np := 43) G hl (rfl) [(0, vI (q1)), (4, vI (r1)), (3, vI (q1)), (6, vI (0)), (5, vI (((st + 3 : Nat) : Int))), (1, vI (((st + 3 : Nat) : Int))), (2, .ref d)] dJ6_getChars_ba4f3_42 rfl rfl (by decide) rfl (fun ls hl => ?_)
  refine r_aload_n (np := 44) G hl 6 rfl dJ6_getChars_ba4f3_43 rfl rfl ?_
  refine r_iinc (np := 47) G hl 4 rfl (y := ((st + 2 : Nat) : Int)) (by omega) [(5, vI (((st + 2 : Nat) : Int))), (0, vI (q1)), (4, vI (r1)), (3, vI (q1)), (6, vI (0)), (1, vI (((st + 3 : Nat) : Int))), (2, .ref d)] dJ6_getChars_ba4f3_44 rfl (by decide) rfl (fun ls hl => ?_)
  refine r_iload (np := 49) G hl 0 rfl dJ6_getChars_ba4f3_47 rfl ?_
  refine j_ones (np := 52) G hJ ljJ6_83 dJ6_getChars_ba4f3_49 rfl ?_
  refine r_iload (np := 54) G hl 2 rfl dJ6_getChars_ba4f3_52 rfl ?_
  refine j_obal (np := 55) G hJ (by rw [wI_eq (by omega) (by omega)]; omega) dJ6_getChars_ba4f3_54 rfl ?_
  rw [wI_eq (x := r1) (by omega) (by omega)]
  refine j_bast (np := 56) G hJ 1 (d0 := d) (n := k) (f := f) rfl (by rw [wI_eq (by omega) (by omega)]; omega) (by omega) dJ6_getChars_ba4f3_55 rfl (fun H locs hJ => ?_)
  rw [show (wI ((st + 2 : Nat) : Int)).toNat = st + 2 by rw [wI_eq (by omega) (by omega)]; omega] at hJ
  have hJ : jM E lo (jB E b d n k (upd f (st + 2) (Int32.ofInt (((48 + (r1).toNat % 10 : Nat) : Int))))) _ s H locs := hJ
  refine r_aload_n (np := 57) G hl 6 rfl dJ6_getChars_ba4f3_56 rfl rfl ?_
  refine r_iinc (np := 60) G hl 0 rfl (y := ((st + 1 : Nat) : Int)) (by omega) [(5, vI (((st + 1 : Nat) : Int))), (0, vI (q1)), (4, vI (r1)), (3, vI (q1)), (6, vI (0)), (1, vI (((st + 3 : Nat) : Int))), (2, .ref d)] dJ6_getChars_ba4f3_57 rfl (by decide) rfl (fun ls hl => ?_)
  refine r_iload (np := 62) G hl 0 rfl dJ6_getChars_ba4f3_60 rfl ?_
  refine j_tens (np := 65) G hJ ljJ6_87 dJ6_getChars_ba4f3_62 rfl ?_
  refine r_iload (np := 67) G hl 2 rfl dJ6_getChars_ba4f3_65 rfl ?_
  refine j_tbal (np := 68) G hJ (by rw [wI_eq (by omega) (by omega)]; omega) dJ6_getChars_ba4f3_67 rfl ?_
  rw [wI_eq (x := r1) (by omega) (by omega)]
  refine j_bast (np := 69) G hJ 1 (d0 := d) (n := k) (f := (upd f (st + 2) (Int32.ofInt (((48 + (r1).toNat % 10 : Nat) : Int))))) rfl (by rw [wI_eq (by omega) (by omega)]; omega) (by omega) dJ6_getChars_ba4f3_68 rfl (fun H locs hJ => ?_)
  rw [show (wI ((st + 1 : Nat) : Int)).toNat = st + 1 by rw [wI_eq (by omega) (by omega)]; omega] at hJ
  have hJ : jM E lo (jB E b d n k (upd (upd f (st + 2) (Int32.ofInt (((48 + (r1).toNat % 10 : Nat) : Int)))) (st + 1) (Int32.ofInt (((48 + (r1).toNat / 10 : Nat) : Int))))) _ s H locs := hJ
  refine r_goto (np := 22) G dJ6_getChars_ba4f3_69 (by decide) ?_
  refine r_iload_n (np := 23) G hl 1 rfl dJ6_getChars_ba4f3_22 rfl rfl ?_
  refine r_bipush (np := 25) G (-100) dJ6_getChars_ba4f3_23 (by decide) rfl ?_
  refine r_icmp_gt (np := 28) (tgt := 72) G (wI_eq (by omega) (by omega)) (wI_eq (by omega) (by omega)) dJ6_getChars_ba4f3_25 (by decide) rfl (fun hc => ?_) (fun hc => False.elim (by omega))
  refine r_aload_n (np := 73) G hl 6 rfl dJ6_getChars_ba4f3_72 rfl rfl ?_
  refine r_iinc (np := 76) G hl 0 rfl (y := ((st + 0 : Nat) : Int)) (by omega) [(5, vI (((st + 0 : Nat) : Int))), (0, vI (q1)), (4, vI (r1)), (3, vI (q1)), (6, vI (0)), (1, vI (((st + 3 : Nat) : Int))), (2, .ref d)] dJ6_getChars_ba4f3_73 rfl (by decide) rfl (fun ls hl => ?_)
  refine r_iload (np := 78) G hl 0 rfl dJ6_getChars_ba4f3_76 rfl ?_
  refine j_ones (np := 81) G hJ ljJ6_83 dJ6_getChars_ba4f3_78 rfl ?_
  refine r_iload_n (np := 82) G hl 1 rfl dJ6_getChars_ba4f3_81 rfl rfl ?_
  refine r_ineg (np := 83) G dJ6_getChars_ba4f3_82 rfl ?_
  refine j_obal (np := 84) G hJ (by rw [wI_eq (by omega) (by omega)]; omega) dJ6_getChars_ba4f3_83 rfl ?_
  rw [wI_eq (x := -(q1)) (by omega) (by omega)]
  refine j_bast (np := 85) G hJ 1 (d0 := d) (n := k) (f := (upd (upd f (st + 2) (Int32.ofInt (((48 + (r1).toNat % 10 : Nat) : Int)))) (st + 1) (Int32.ofInt (((48 + (r1).toNat / 10 : Nat) : Int))))) rfl (by rw [wI_eq (by omega) (by omega)]; omega) (by omega) dJ6_getChars_ba4f3_84 rfl (fun H locs hJ => ?_)
  rw [show (wI ((st + 0 : Nat) : Int)).toNat = st + 0 by rw [wI_eq (by omega) (by omega)]; omega] at hJ
  have hJ : jM E lo (jB E b d n k (upd (upd (upd f (st + 2) (Int32.ofInt (((48 + (r1).toNat % 10 : Nat) : Int)))) (st + 1) (Int32.ofInt (((48 + (r1).toNat / 10 : Nat) : Int)))) (st + 0) (Int32.ofInt (((48 + (-(q1)).toNat % 10 : Nat) : Int))))) _ s H locs := hJ
  refine r_iload_n (np := 86) G hl 1 rfl dJ6_getChars_ba4f3_85 rfl rfl ?_
  refine r_bipush (np := 88) G (-9) dJ6_getChars_ba4f3_86 (by decide) rfl ?_
  refine r_icmp_ge (np := 91) (tgt := 104) G (wI_eq (by omega) (by omega)) (wI_eq (by omega) (by omega)) dJ6_getChars_ba4f3_88 (by decide) rfl (fun hc => ?_) (fun hc => False.elim (by omega))
  refine r_iload (np := 106) G hl 4 rfl dJ6_getChars_ba4f3_104 rfl ?_
  refine r_if_eq (np := 109) (tgt := 118) G (wI_eq (by omega) (by omega)) dJ6_getChars_ba4f3_106 (by decide) rfl (fun hc => ?_) (fun hc => False.elim (by omega))
  refine r_iload (np := 120) G hl 0 rfl dJ6_getChars_ba4f3_118 rfl ?_
  have hD := dec_p3 (x := x) (by omega)
  exact j_iret G hr hk hJ (⟨rfl, _, rfl, jw_fit3 hf (by omega) (by omega) (by omega), jw_low3, by rw [hD]; exact jw_all3 (by omega) (by omega) (by omega)⟩) (Nat.le_of_ble_eq_true rfl) (Nat.le_of_ble_eq_true rfl) dJ6_getChars_ba4f3_120
set_option maxRecDepth 100000 in
set_option maxHeartbeats 1000000 in
theorem gc_m3 (l : Launch) (E : mE) (lo : Nat) (b d k st : Nat) (n : Int) (f : Nat → Int32) (x : Int) (hx : 100 ≤ -x ∧ -x ≤ 999) (he : st + 4 ≤ k) (hcap : k ≤ 700) (hf : sb_Fit f) : jMet l yJ6_getChars_ba4f3 cJ6_getChars_ba4f3 7 (some .int) 0 12 0 0 E lo [vI (x), vI (((st + 4 : Nat) : Int)), .ref d] (jB E b d n k f) [] (fun v w => v = some (vI (st : Int)) ∧ ∃ f2, w = jB E b d n k f2 ∧ sb_Fit f2 ∧ (∀ j, j < st → f2 j = f j) ∧ ∀ i, i < 4 → f2 (st + i) = Int32.ofNat ((decI x).getD i 0)) := by
  refine j_entry (by decide +kernel) (Nat.le_of_ble_eq_true rfl) (fun p e s m args below meth c G hr hk hin hJ ls hl => ?_)
  have G : CallFix p m c cJ6_getChars_ba4f3 7 s args mTs RJ6 := G
  have hl : lv_has ls 7 [(0, vI (x)), (1, vI (((st + 4 : Nat) : Int))), (2, .ref d)] := hl
  obtain ⟨q1, hq1⟩ : ∃ q1 : Int, q1 = -((-x) / 100) := ⟨_, rfl⟩
  obtain ⟨r1, hr1⟩ : ∃ r1 : Int, r1 = (-x) % 100 := ⟨_, rfl⟩
  refine r_iload_n (np := 1) G hl 1 rfl dJ6_getChars_ba4f3_0 rfl rfl ?_
  refine r_istore (np := 3) G hl (rfl) [(5, vI (((st + 4 : Nat) : Int))), (0, vI (x)), (1, vI (((st + 4 : Nat) : Int))), (2, .ref d)] dJ6_getChars_ba4f3_1 rfl (by decide) rfl (fun ls hl => ?_)
  refine r_iload_n (np := 4) G hl 1 rfl dJ6_getChars_ba4f3_3 rfl rfl ?_
  refine r_if_ge (np := 7) (tgt := 11) G (wI_eq (by omega) (by omega)) dJ6_getChars_ba4f3_4 (by decide) rfl (fun hc => False.elim (by omega)) (fun hc => ?_)
  refine r_iconst (np := 8) G (1) dJ6_getChars_ba4f3_7 rfl ?_
  refine r_goto (np := 12) G dJ6_getChars_ba4f3_8 (by decide) ?_
  refine r_istore (np := 14) G hl (rfl) [(6, vI (1)), (5, vI (((st + 4 : Nat) : Int))), (0, vI (x)), (1, vI (((st + 4 : Nat) : Int))), (2, .ref d)] dJ6_getChars_ba4f3_12 rfl (by decide) rfl (fun ls hl => ?_)
  refine r_iload (np := 16) G hl 0 rfl dJ6_getChars_ba4f3_14 rfl ?_
  refine r_if_ne (np := 19) (tgt := 22) G (wI_eq (by omega) (by omega)) dJ6_getChars_ba4f3_16 (by decide) rfl (fun hc => ?_) (fun hc => False.elim (by omega))
  refine r_iload_n (np := 23) G hl 2 rfl dJ6_getChars_ba4f3_22 rfl rfl ?_
  refine r_bipush (np := 25) G (-100) dJ6_getChars_ba4f3_23 (by decide) rfl ?_
  refine r_icmp_gt (np := 28) (tgt := 72) G (wI_eq (by omega) (by omega)) (wI_eq (by omega) (by omega)) dJ6_getChars_ba4f3_25 (by decide) rfl (fun hc => False.elim (by omega)) (fun hc => ?_)
  refine r_iload_n (np := 29) G hl 2 rfl dJ6_getChars_ba4f3_28 rfl rfl ?_
  refine r_bipush (np := 31) G (100) dJ6_getChars_ba4f3_29 (by decide) rfl ?_
  refine r_idiv (np := 32) G (by decide) dJ6_getChars_ba4f3_31 rfl ?_
  refine r_istore_n (np := 33) G hl (by rw [td100 (by omega)]; omega) [(3, vI (q1)), (6, vI (1)), (5, vI (((st + 4 : Nat) : Int))), (0, vI (x)), (1, vI (((st + 4 : Nat) : Int))), (2, .ref d)] dJ6_getChars_ba4f3_32 rfl rfl (by decide) rfl (fun ls hl => ?_)
  refine r_iload_n (np := 34) G hl 0 rfl dJ6_getChars_ba4f3_33 rfl rfl ?_
  refine r_bipush (np := 36) G (100) dJ6_getChars_ba4f3_34 (by decide) rfl ?_
  refine r_imul (np := 37) G dJ6_getChars_ba4f3_36 rfl ?_
  refine r_iload_n (np := 38) G hl 3 rfl dJ6_getChars_ba4f3_37 rfl rfl ?_
  refine r_isub (np := 39) G dJ6_getChars_ba4f3_38 rfl ?_
  refine r_istore (np := 41) G hl (by omega) [(4, vI (r1)), (3, vI (q1)), (6, vI (1)), (5, vI (((st + 4 : Nat) : Int))), (0, vI (x)), (1, vI (((st + 4 : Nat) : Int))), (2, .ref d)] dJ6_getChars_ba4f3_39 rfl (by decide) rfl (fun ls hl => ?_)
  refine r_iload_n (np := 42) G hl 1 rfl dJ6_getChars_ba4f3_41 rfl rfl ?_
  refine r_istore_n (np := 43) G hl (rfl) [(0, vI (q1)), (4, vI (r1)), (3, vI (q1)), (6, vI (1)), (5, vI (((st + 4 : Nat) : Int))), (1, vI (((st + 4 : Nat) : Int))), (2, .ref d)] dJ6_getChars_ba4f3_42 rfl rfl (by decide) rfl (fun ls hl => ?_)
  refine r_aload_n (np := 44) G hl 6 rfl dJ6_getChars_ba4f3_43 rfl rfl ?_
  refine r_iinc (np := 47) G hl 4 rfl (y := ((st + 3 : Nat) : Int)) (by omega) [(5, vI (((st + 3 : Nat) : Int))), (0, vI (q1)), (4, vI (r1)), (3, vI (q1)), (6, vI (1)), (1, vI (((st + 4 : Nat) : Int))), (2, .ref d)] dJ6_getChars_ba4f3_44 rfl (by decide) rfl (fun ls hl => ?_)
  refine r_iload (np := 49) G hl 0 rfl dJ6_getChars_ba4f3_47 rfl ?_
  refine j_ones (np := 52) G hJ ljJ6_83 dJ6_getChars_ba4f3_49 rfl ?_
  refine r_iload (np := 54) G hl 2 rfl dJ6_getChars_ba4f3_52 rfl ?_
  refine j_obal (np := 55) G hJ (by rw [wI_eq (by omega) (by omega)]; omega) dJ6_getChars_ba4f3_54 rfl ?_
  rw [wI_eq (x := r1) (by omega) (by omega)]
  refine j_bast (np := 56) G hJ 1 (d0 := d) (n := k) (f := f) rfl (by rw [wI_eq (by omega) (by omega)]; omega) (by omega) dJ6_getChars_ba4f3_55 rfl (fun H locs hJ => ?_)
  rw [show (wI ((st + 3 : Nat) : Int)).toNat = st + 3 by rw [wI_eq (by omega) (by omega)]; omega] at hJ
  have hJ : jM E lo (jB E b d n k (upd f (st + 3) (Int32.ofInt (((48 + (r1).toNat % 10 : Nat) : Int))))) _ s H locs := hJ
  refine r_aload_n (np := 57) G hl 6 rfl dJ6_getChars_ba4f3_56 rfl rfl ?_
  refine r_iinc (np := 60) G hl 0 rfl (y := ((st + 2 : Nat) : Int)) (by omega) [(5, vI (((st + 2 : Nat) : Int))), (0, vI (q1)), (4, vI (r1)), (3, vI (q1)), (6, vI (1)), (1, vI (((st + 4 : Nat) : Int))), (2, .ref d)] dJ6_getChars_ba4f3_57 rfl (by decide) rfl (fun ls hl => ?_)
  refine r_iload (np := 62) G hl 0 rfl dJ6_getChars_ba4f3_60 rfl ?_
  refine j_tens (np := 65) G hJ ljJ6_87 dJ6_getChars_ba4f3_62 rfl ?_
  refine r_iload (np := 67) G hl 2 rfl dJ6_getChars_ba4f3_65 rfl ?_
  refine j_tbal (np := 68) G hJ (by rw [wI_eq (by omega) (by omega)]; omega) dJ6_getChars_ba4f3_67 rfl ?_
  rw [wI_eq (x := r1) (by omega) (by omega)]
  refine j_bast (np := 69) G hJ 1 (d0 := d) (n := k) (f := (upd f (st + 3) (Int32.ofInt (((48 + (r1).toNat % 10 : Nat) : Int))))) rfl (by rw [wI_eq (by omega) (by omega)]; omega) (by omega) dJ6_getChars_ba4f3_68 rfl (fun H locs hJ => ?_)
  rw [show (wI ((st + 2 : Nat) : Int)).toNat = st + 2 by rw [wI_eq (by omega) (by omega)]; omega] at hJ
  have hJ : jM E lo (jB E b d n k (upd (upd f (st + 3) (Int32.ofInt (((48 + (r1).toNat % 10 : Nat) : Int)))) (st + 2) (Int32.ofInt (((48 + (r1).toNat / 10 : Nat) : Int))))) _ s H locs := hJ
  refine r_goto (np := 22) G dJ6_getChars_ba4f3_69 (by decide) ?_
  refine r_iload_n (np := 23) G hl 1 rfl dJ6_getChars_ba4f3_22 rfl rfl ?_
  refine r_bipush (np := 25) G (-100) dJ6_getChars_ba4f3_23 (by decide) rfl ?_
  refine r_icmp_gt (np := 28) (tgt := 72) G (wI_eq (by omega) (by omega)) (wI_eq (by omega) (by omega)) dJ6_getChars_ba4f3_25 (by decide) rfl (fun hc => ?_) (fun hc => False.elim (by omega))
  refine r_aload_n (np := 73) G hl 6 rfl dJ6_getChars_ba4f3_72 rfl rfl ?_
  refine r_iinc (np := 76) G hl 0 rfl (y := ((st + 1 : Nat) : Int)) (by omega) [(5, vI (((st + 1 : Nat) : Int))), (0, vI (q1)), (4, vI (r1)), (3, vI (q1)), (6, vI (1)), (1, vI (((st + 4 : Nat) : Int))), (2, .ref d)] dJ6_getChars_ba4f3_73 rfl (by decide) rfl (fun ls hl => ?_)
  refine r_iload (np := 78) G hl 0 rfl dJ6_getChars_ba4f3_76 rfl ?_
  refine j_ones (np := 81) G hJ ljJ6_83 dJ6_getChars_ba4f3_78 rfl ?_
  refine r_iload_n (np := 82) G hl 1 rfl dJ6_getChars_ba4f3_81 rfl rfl ?_
  refine r_ineg (np := 83) G dJ6_getChars_ba4f3_82 rfl ?_
  refine j_obal (np := 84) G hJ (by rw [wI_eq (by omega) (by omega)]; omega) dJ6_getChars_ba4f3_83 rfl ?_
  rw [wI_eq (x := -(q1)) (by omega) (by omega)]
  refine j_bast (np := 85) G hJ 1 (d0 := d) (n := k) (f := (upd (upd f (st + 3) (Int32.ofInt (((48 + (r1).toNat % 10 : Nat) : Int)))) (st + 2) (Int32.ofInt (((48 + (r1).toNat / 10 : Nat) : Int))))) rfl (by rw [wI_eq (by omega) (by omega)]; omega) (by omega) dJ6_getChars_ba4f3_84 rfl (fun H locs hJ => ?_)
  rw [show (wI ((st + 1 : Nat) : Int)).toNat = st + 1 by rw [wI_eq (by omega) (by omega)]; omega] at hJ
  have hJ : jM E lo (jB E b d n k (upd (upd (upd f (st + 3) (Int32.ofInt (((48 + (r1).toNat % 10 : Nat) : Int)))) (st + 2) (Int32.ofInt (((48 + (r1).toNat / 10 : Nat) : Int)))) (st + 1) (Int32.ofInt (((48 + (-(q1)).toNat % 10 : Nat) : Int))))) _ s H locs := hJ
  refine r_iload_n (np := 86) G hl 1 rfl dJ6_getChars_ba4f3_85 rfl rfl ?_
  refine r_bipush (np := 88) G (-9) dJ6_getChars_ba4f3_86 (by decide) rfl ?_
  refine r_icmp_ge (np := 91) (tgt := 104) G (wI_eq (by omega) (by omega)) (wI_eq (by omega) (by omega)) dJ6_getChars_ba4f3_88 (by decide) rfl (fun hc => ?_) (fun hc => False.elim (by omega))
  refine r_iload (np := 106) G hl 4 rfl dJ6_getChars_ba4f3_104 rfl ?_
  refine r_if_eq (np := 109) (tgt := 118) G (wI_eq (by omega) (by omega)) dJ6_getChars_ba4f3_106 (by decide) rfl (fun hc => False.elim (by omega)) (fun hc => ?_)
  refine r_aload_n (np := 110) G hl 6 rfl dJ6_getChars_ba4f3_109 rfl rfl ?_
  refine r_iinc (np := 113) G hl 0 rfl (y := ((st + 0 : Nat) : Int)) (by omega) [(5, vI (((st + 0 : Nat) : Int))), (0, vI (q1)), (4, vI (r1)), (3, vI (q1)), (6, vI (1)), (1, vI (((st + 4 : Nat) : Int))), (2, .ref d)] dJ6_getChars_ba4f3_110 rfl (by decide) rfl (fun ls hl => ?_)
  refine r_iload (np := 115) G hl 0 rfl dJ6_getChars_ba4f3_113 rfl ?_
  refine r_bipush (np := 117) G (45) dJ6_getChars_ba4f3_115 (by decide) rfl ?_
  refine j_bast (np := 118) G hJ 1 (d0 := d) (n := k) (f := (upd (upd (upd f (st + 3) (Int32.ofInt (((48 + (r1).toNat % 10 : Nat) : Int)))) (st + 2) (Int32.ofInt (((48 + (r1).toNat / 10 : Nat) : Int)))) (st + 1) (Int32.ofInt (((48 + (-(q1)).toNat % 10 : Nat) : Int))))) rfl (by rw [wI_eq (by omega) (by omega)]; omega) (by omega) dJ6_getChars_ba4f3_117 rfl (fun H locs hJ => ?_)
  rw [show (wI ((st + 0 : Nat) : Int)).toNat = st + 0 by rw [wI_eq (by omega) (by omega)]; omega] at hJ
  have hJ : jM E lo (jB E b d n k (upd (upd (upd (upd f (st + 3) (Int32.ofInt (((48 + (r1).toNat % 10 : Nat) : Int)))) (st + 2) (Int32.ofInt (((48 + (r1).toNat / 10 : Nat) : Int)))) (st + 1) (Int32.ofInt (((48 + (-(q1)).toNat % 10 : Nat) : Int)))) (st + 0) (Int32.ofInt (45)))) _ s H locs := hJ
  refine r_iload (np := 120) G hl 0 rfl dJ6_getChars_ba4f3_118 rfl ?_
  have hD := dec_m3 (x := x) (by omega)
  exact j_iret G hr hk hJ (⟨rfl, _, rfl, jw_fit4 hf (by omega) (by omega) (by omega) (by omega), jw_low4, by rw [hD]; exact jw_all4 (by omega) (by omega) (by omega) (by omega)⟩) (Nat.le_of_ble_eq_true rfl) (Nat.le_of_ble_eq_true rfl) dJ6_getChars_ba4f3_120
theorem qJ6_getChars_ba4f3 (l : Launch) (E : mE) (lo : Nat) (b d k st : Nat) (n : Int) (f : Nat → Int32) (x : Int) (hx : -999 ≤ x ∧ x ≤ 999) (he : st + (decI x).length ≤ k) (hcap : k ≤ 700) (hf : sb_Fit f) : jMet l yJ6_getChars_ba4f3 cJ6_getChars_ba4f3 7 (some .int) 0 12 0 0 E lo [vI x, vI ((st + (decI x).length : Nat) : Int), .ref d] (jB E b d n k f) [] (fun v w => v = some (vI (st : Int)) ∧ ∃ f2, w = jB E b d n k f2 ∧ sb_Fit f2 ∧ (∀ j, j < st → f2 j = f j) ∧ ∀ i, i < (decI x).length → f2 (st + i) = Int32.ofNat ((decI x).getD i 0)) := by
  by_cases h0 : x < 0
  · by_cases h1 : -10 < x
    · have e : (decI x).length = 2 := by have := dl_m1 (x := x) (by omega); omega
      rw [e] at he ⊢
      exact gc_m1 l E lo b d k st n f x (by omega) he hcap hf
    · by_cases h2 : -100 < x
      · have e : (decI x).length = 3 := by have := dl_m2 (x := x) (by omega); omega
        rw [e] at he ⊢
        exact gc_m2 l E lo b d k st n f x (by omega) he hcap hf
      · have e : (decI x).length = 4 := by have := dl_m3 (x := x) (by omega); omega
        rw [e] at he ⊢
        exact gc_m3 l E lo b d k st n f x (by omega) he hcap hf
  · by_cases h1 : x < 10
    · have e : (decI x).length = 1 := by have := dl_p1 (x := x) (by omega); omega
      rw [e] at he ⊢
      exact gc_p1 l E lo b d k st n f x (by omega) he hcap hf
    · by_cases h2 : x < 100
      · have e : (decI x).length = 2 := by have := dl_p2 (x := x) (by omega); omega
        rw [e] at he ⊢
        exact gc_p2 l E lo b d k st n f x (by omega) he hcap hf
      · have e : (decI x).length = 3 := by have := dl_p3 (x := x) (by omega); omega
        rw [e] at he ⊢
        exact gc_p3 l E lo b d k st n f x (by omega) he hcap hf

set_option maxRecDepth 100000 in
set_option maxHeartbeats 1000000 in
theorem qJ5_append_c97b9 (l : Launch) (E : mE) (lo : Nat) (b d k : Nat) (f : Nat → Int32) (bs : List Nat) (hB : bK bs k f) (x : Int) (hx0 : -999 ≤ x ∧ x ≤ 999) (hx : bs.length + (decI x).length ≤ 300) : jMet l yJ5_append_c97b9 cJ5_append_c97b9 4 (some (.object "java/lang/AbstractStringBuilder")) 4 103 1 1000 E lo [.ref b, vI (x)] (jB E b d (bs.length : Int) k f) [] (fun v w => v = some (.ref b) ∧ ∃ d2 k2 f2, w = jB E b d2 ((bs ++ decI x).length : Int) k2 f2 ∧ bK (bs ++ decI x) k2 f2) := by
  refine j_entry (by decide +kernel) (Nat.le_of_ble_eq_true rfl) (fun p e s m args below meth c G hr hk hin hJ ls hl => ?_)
  have G : CallFix p m c cJ5_append_c97b9 4 s args mTs RJ5 := G
  have hl : lv_has ls 4 [(0, .ref b), (1, vI (x))] := hl
  refine r_aload_n (np := 1) G hl 0 rfl dJ5_append_c97b9_0 rfl rfl ?_
  refine j_get (np := 4) G hJ 0 rfl jf12_3 rfl ljJ5_79t dJ5_append_c97b9_1 rfl ?_
  refine r_istore_n (np := 5) G hl (rfl) [(2, vI ((bs.length : Int))), (0, .ref b), (1, vI (x))] dJ5_append_c97b9_4 rfl rfl (by decide) rfl (fun ls hl => ?_)
  refine r_iload_n (np := 6) G hl 0 rfl dJ5_append_c97b9_5 rfl rfl ?_
  refine r_iload_n (np := 7) G hl 2 rfl dJ5_append_c97b9_6 rfl rfl ?_
  refine j_callS (np := 10) G hJ hl.1 [vI (x)] (qJ6_stringSize_0f7a4 l E lo _ x hx0) (fun _ h => h) jsJ6_stringSize_0f7a4 ljJ5_245 ⟨(Nat.le_of_ble_eq_true rfl), (Nat.le_of_ble_eq_true rfl)⟩ ⟨(Nat.le_of_ble_eq_true rfl), (Nat.le_of_ble_eq_true rfl)⟩ [vI ((bs.length : Int))] rfl (Nat.le_of_ble_eq_true rfl) dJ5_append_c97b9_7 rfl (fun v w2 H locs hp hJ => ?_)
  obtain ⟨rfl, rfl⟩ := hp
  refine r_iadd (np := 11) G dJ5_append_c97b9_10 rfl ?_
  rw [show (((bs.length : Int)) + (((decI x).length : Int)) : Int) = ((bs.length + (decI x).length : Nat) : Int) from by omega]
  refine r_istore_n (np := 12) G hl (rfl) [(3, vI (((bs.length + (decI x).length : Nat) : Int))), (2, vI ((bs.length : Int))), (0, .ref b), (1, vI (x))] dJ5_append_c97b9_11 rfl rfl (by decide) rfl (fun ls hl => ?_)
  refine r_aload_n (np := 13) G hl 2 rfl dJ5_append_c97b9_12 rfl rfl ?_
  refine r_iload_n (np := 14) G hl 0 rfl dJ5_append_c97b9_13 rfl rfl ?_
  refine j_callB (np := 17) G hJ hl.1 0 rfl [vI (((bs.length + (decI x).length : Nat) : Int))] (qJ5_ensureCapacityInternal_d00df l E lo b d k _ f (bs.length + (decI x).length) hB.2.1 hx hB.2.2.1) (fun _ h => h) jvJ5_ensureCapacityInternal_d00df (Or.inl rfl) ljJ5_100 ⟨(Nat.le_of_ble_eq_true rfl), (Nat.le_of_ble_eq_true rfl)⟩ ⟨(Nat.le_of_ble_eq_true rfl), (Nat.le_of_ble_eq_true rfl)⟩ [] rfl (Nat.le_of_ble_eq_true rfl) dJ5_append_c97b9_14 rfl (fun v w2 H locs hp hJ => ?_)
  obtain ⟨d2, k2, f2, rfl, rfl, g1, g2, g3, g4, g5⟩ := hp
  refine r_aload_n (np := 18) G hl 2 rfl dJ5_append_c97b9_17 rfl rfl ?_
  refine j_callB (np := 21) G hJ hl.1 0 rfl [] (qJ5_isLatin1_aae02 l E lo b d2 k2 _ f2) (fun _ h => h) jvJ5_isLatin1_aae02 (Or.inl rfl) ljJ5_83 ⟨(Nat.le_of_ble_eq_true rfl), (Nat.le_of_ble_eq_true rfl)⟩ ⟨(Nat.le_of_ble_eq_true rfl), (Nat.le_of_ble_eq_true rfl)⟩ [] rfl (Nat.le_of_ble_eq_true rfl) dJ5_append_c97b9_18 rfl (fun v w2 H locs hp hJ => ?_)
  obtain ⟨rfl, rfl⟩ := hp
  refine r_if_eq (np := 24) (tgt := 37) G (wI_eq (by omega) (by omega)) dJ5_append_c97b9_21 (by decide) rfl (fun hc => False.elim (absurd hc (by decide))) (fun hc => ?_)
  refine r_iload_n (np := 25) G hl 3 rfl dJ5_append_c97b9_24 rfl rfl ?_
  refine r_iload_n (np := 26) G hl 0 rfl dJ5_append_c97b9_25 rfl rfl ?_
  refine r_aload_n (np := 27) G hl 2 rfl dJ5_append_c97b9_26 rfl rfl ?_
  refine j_get (np := 30) G hJ 0 rfl jf12_0 rfl ljJ5_15t dJ5_append_c97b9_27 rfl ?_
  refine j_callS (np := 33) G hJ hl.1 [vI (x), vI (((bs.length + (decI x).length : Nat) : Int)), .ref d2] (qJ6_getChars_ba4f3 l E lo b d2 k2 bs.length _ f2 x hx0 g1 g3 g4) (fun _ h => h) jsJ6_getChars_ba4f3 ljJ5_248 ⟨(Nat.le_of_ble_eq_true rfl), (Nat.le_of_ble_eq_true rfl)⟩ ⟨(Nat.le_of_ble_eq_true rfl), (Nat.le_of_ble_eq_true rfl)⟩ [] rfl (Nat.le_of_ble_eq_true rfl) dJ5_append_c97b9_30 rfl (fun v w2 H locs hp hJ => ?_)
  obtain ⟨rfl, f3, rfl, g6, g7, g8⟩ := hp
  refine r_pop (np := 34) G dJ5_append_c97b9_33 rfl rfl ?_
  refine r_goto (np := 48) G dJ5_append_c97b9_34 (by decide) ?_
  refine r_aload_n (np := 49) G hl 2 rfl dJ5_append_c97b9_48 rfl rfl ?_
  refine r_iload_n (np := 50) G hl 0 rfl dJ5_append_c97b9_49 rfl rfl ?_
  refine j_put (np := 53) G hJ 0 rfl jf12_3 tyJ4_ok nmJ4 (by decide +kernel) (ty := .int) rfl rfl rfl (Nat.le_of_ble_eq_true rfl) ljJ5_79t dJ5_append_c97b9_50 rfl (fun H locs hJ => ?_)
  have hJ : jM E lo (jB E b d2 ((bs.length + (decI x).length : Nat) : Int) k2 f3) _ s H locs := hJ
  refine r_aload_n (np := 54) G hl 2 rfl dJ5_append_c97b9_53 rfl rfl ?_
  exact j_aret G hr (Or.inl ⟨_, rfl⟩) hk hJ (⟨rfl, d2, k2, f3, by rw [List.length_append], by rw [List.length_append]; exact g1, g3, g6, jT_app hB.2.2.2 (fun j hj => (g7 j hj).trans (g5 j (Nat.lt_of_lt_of_le hj hB.1))) g8⟩) (Nat.le_of_ble_eq_true rfl) (Nat.le_of_ble_eq_true rfl) dJ5_append_c97b9_54
set_option maxRecDepth 100000 in
set_option maxHeartbeats 1000000 in
theorem qJ4_append_bf812 (l : Launch) (E : mE) (lo : Nat) (b d k : Nat) (f : Nat → Int32) (bs : List Nat) (hB : bK bs k f) (x : Int) (hx0 : -999 ≤ x ∧ x ≤ 999) (hx : bs.length + (decI x).length ≤ 300) : jMet l yJ4_append_bf812 cJ4_append_bf812 2 (some (.object "java/lang/StringBuilder")) 5 126 1 1000 E lo [.ref b, vI (x)] (jB E b d (bs.length : Int) k f) [] (fun v w => v = some (.ref b) ∧ ∃ d2 k2 f2, w = jB E b d2 ((bs ++ decI x).length : Int) k2 f2 ∧ bK (bs ++ decI x) k2 f2) := by
  refine j_entry (by decide +kernel) (Nat.le_of_ble_eq_true rfl) (fun p e s m args below meth c G hr hk hin hJ ls hl => ?_)
  have G : CallFix p m c cJ4_append_bf812 2 s args mTs RJ4 := G
  have hl : lv_has ls 2 [(0, .ref b), (1, vI (x))] := hl
  refine r_aload_n (np := 1) G hl 0 rfl dJ4_append_bf812_0 rfl rfl ?_
  refine r_iload_n (np := 2) G hl 1 rfl dJ4_append_bf812_1 rfl rfl ?_
  refine j_callU (np := 5) G hJ hl.1 0 rfl [vI (x)] (qJ5_append_c97b9 l E lo b d k f bs hB x hx0 hx) (fun _ h => h) jqJ5_append_c97b9 rfl rfl (by decide) ljJ4_53 ⟨(Nat.le_of_ble_eq_true rfl), (Nat.le_of_ble_eq_true rfl)⟩ ⟨(Nat.le_of_ble_eq_true rfl), (Nat.le_of_ble_eq_true rfl)⟩ [] rfl (Nat.le_of_ble_eq_true rfl) dJ4_append_bf812_2 rfl (fun v w2 H locs hp hJ => ?_)
  obtain ⟨rfl, d2, k2, f2, rfl, hB2⟩ := hp
  refine r_pop (np := 6) G dJ4_append_bf812_5 rfl rfl ?_
  refine r_aload_n (np := 7) G hl 0 rfl dJ4_append_bf812_6 rfl rfl ?_
  exact j_aret G hr (Or.inl ⟨_, rfl⟩) hk hJ (⟨rfl, d2, k2, f2, rfl, hB2⟩) (Nat.le_of_ble_eq_true rfl) (Nat.le_of_ble_eq_true rfl) dJ4_append_bf812_7
