/-! .. letters of a text (laid by jdk5.py) -/
theorem charN : ∀ {c : Nat}, c < 128 → narrow .char (vI (c : Int)) = vI (c : Int) := by
  have h : ∀ c : Fin 128, narrow .char (vI ((c.val : Nat) : Int)) = vI ((c.val : Nat) : Int) := by decide +kernel
  intro c hc
  exact h ⟨c, hc⟩
theorem charI : ∀ {c : Nat}, c < 128 → ((Int32.ofNat c &&& Int32.ofInt 255).toUInt32 % 65536).toInt32 = Int32.ofInt (c : Int) := by
  have h : ∀ c : Fin 128, ((Int32.ofNat c.val &&& Int32.ofInt 255).toUInt32 % 65536).toInt32 = Int32.ofInt (c.val : Int) := by decide +kernel
  intro c hc
  exact h ⟨c, hc⟩
theorem getD_ltT {bs : List Nat} (h : ∀ c ∈ bs, c < 128) (i : Nat) : bs.getD i 0 < 128 := by
  rw [List.getD_eq_getElem?_getD]
  cases hq : bs[i]? with
  | none => decide
  | some q => exact h q (List.mem_of_getElem? hq)
theorem getD_lt {E : mE} {lo : Nat} {ws : va_W} {x : sX} {s : State} {H : Heap} {locs : List Loc} (hJ : jM E lo ws [x] s H locs) (i : Nat) : x.2.2.getD i 0 < 128 := getD_ltT (hJ.2.2.2.2.2.2.1 x (List.mem_singleton.mpr rfl)).2.2.2.2.2 i
theorem jbJ3_checkIndex_8e157 : mY yJ3_checkIndex_8e157 cJ3_checkIndex_8e157 3 (some .int) 3 := ⟨mTs_in 483 (by decide +kernel) (by decide +kernel), mTs_in 49 (by decide +kernel) (by decide +kernel), ⟨by decide, by decide⟩, by decide +kernel⟩
theorem jsJ3_checkIndex_8e157 : mYS yJ3_checkIndex_8e157 cJ3_checkIndex_8e157 3 (some .int) 3 := ⟨jbJ3_checkIndex_8e157, mTs_in 482 (by decide +kernel) (by decide +kernel)⟩
theorem jbJ0_checkIndex_df160 : mY yJ0_checkIndex_df160 cJ0_checkIndex_df160 2 none 2 := ⟨mTs_in 478 (by decide +kernel) (by decide +kernel), mTs_in 43 (by decide +kernel) (by decide +kernel), ⟨by decide, by decide⟩, by decide +kernel⟩
theorem jsJ0_checkIndex_df160 : mYS yJ0_checkIndex_df160 cJ0_checkIndex_df160 2 none 2 := ⟨jbJ0_checkIndex_df160, mTs_in 477 (by decide +kernel) (by decide +kernel)⟩
theorem jbJ1_charAt_3b067 : mY yJ1_charAt_3b067 cJ1_charAt_3b067 2 (some .char) 2 := ⟨mTs_in 475 (by decide +kernel) (by decide +kernel), mTs_in 50 (by decide +kernel) (by decide +kernel), ⟨by decide, by decide⟩, by decide +kernel⟩
theorem jsJ1_charAt_3b067 : mYS yJ1_charAt_3b067 cJ1_charAt_3b067 2 (some .char) 2 := ⟨jbJ1_charAt_3b067, mTs_in 474 (by decide +kernel) (by decide +kernel)⟩
theorem ljJ0_492 : Cond.methodLink RJ0 492 yJ0_isLatin1_aae02 ∈ mTs := mTs_in 469 (by decide +kernel) (by decide +kernel)
theorem jbJ0_isLatin1_aae02 : mY yJ0_isLatin1_aae02 cJ0_isLatin1_aae02 1 (some .boolean) 0 := ⟨mTs_in 472 (by decide +kernel) (by decide +kernel), mTs_in 43 (by decide +kernel) (by decide +kernel), ⟨by decide, by decide⟩, by decide +kernel⟩
theorem jiJ0_isLatin1_aae02 : Cond.instanceMethod yJ0_isLatin1_aae02 ∈ mTs := mTs_in 470 (by decide +kernel) (by decide +kernel)
theorem jvJ0_isLatin1_aae02 : jYV "java/lang/String" yJ0_isLatin1_aae02 cJ0_isLatin1_aae02 1 (some .boolean) 0 := ⟨jbJ0_isLatin1_aae02, jiJ0_isLatin1_aae02, Or.inl (mTs_in 471 (by decide +kernel) (by decide +kernel))⟩
theorem ljJ0_495 : Cond.methodLink RJ0 495 yJ1_charAt_3b067 ∈ mTs := mTs_in 473 (by decide +kernel) (by decide +kernel)
theorem ljJ0_1059 : Cond.methodLink RJ0 1059 yJ3_checkIndex_8e157 ∈ mTs := mTs_in 481 (by decide +kernel) (by decide +kernel)
theorem ljJ1_9 : Cond.methodLink RJ1 9 yJ0_checkIndex_df160 ∈ mTs := mTs_in 476 (by decide +kernel) (by decide +kernel)
theorem ljJ0_1053 : Cond.fieldLink RJ0 1053 "jdk/internal/util/Preconditions" "SIOOBE_FORMATTER" "Ljava/util/function/BiFunction;" ∈ mTs := mTs_in 479 (by decide +kernel) (by decide +kernel)
theorem q5pc (l : Launch) (E : mE) (lo : Nat) (ws : va_W) (i n : Int) (o : Option Nat) (h : 0 ≤ i ∧ i < n ∧ n ≤ 1000) : jMet l yJ3_checkIndex_8e157 cJ3_checkIndex_8e157 3 (some .int) 0 0 0 0 E lo [vI i, vI n, va_rf o] ws [] (fun v w => v = some (vI i) ∧ w = ws) := by
  refine j_entry (by decide +kernel) (by cases o <;> exact Nat.le_of_ble_eq_true rfl) (fun p e s m args below meth c G hr hk hin hJ ls hl => ?_)
  have G : CallFix p m c cJ3_checkIndex_8e157 3 s args mTs RJ3 := G
  have hl : lv_has ls 3 [(0, vI i), (1, vI n), (2, va_rf o)] := by cases o <;> exact hl
  refine r_iload_n (np := 1) G hl 0 rfl dJ3_checkIndex_8e157_0 rfl rfl ?_
  refine r_if_lt (np := 4) (tgt := 9) G (wI_eq (by omega) (by omega)) dJ3_checkIndex_8e157_1 (by decide) rfl (fun hc => False.elim (by omega)) (fun hc => ?_)
  refine r_iload_n (np := 5) G hl 0 rfl dJ3_checkIndex_8e157_4 rfl rfl ?_
  refine r_iload_n (np := 6) G hl 1 rfl dJ3_checkIndex_8e157_5 rfl rfl ?_
  refine r_icmp_lt (np := 9) (tgt := 16) G (wI_eq (by omega) (by omega)) (wI_eq (by omega) (by omega)) dJ3_checkIndex_8e157_6 (by decide) rfl (fun hc => ?_) (fun hc => False.elim (by omega))
  refine r_iload_n (np := 17) G hl 0 rfl dJ3_checkIndex_8e157_16 rfl rfl ?_
  exact j_iret G hr hk hJ ⟨rfl, rfl⟩ (Nat.le_of_ble_eq_true rfl) (Nat.le_of_ble_eq_true rfl) dJ3_checkIndex_8e157_17
theorem q5ci (l : Launch) (E : mE) (lo : Nat) (ws : va_W) (i n : Int) (h : 0 ≤ i ∧ i < n ∧ n ≤ 1000) : jMet l yJ0_checkIndex_df160 cJ0_checkIndex_df160 2 none 1 40 0 0 E lo [vI i, vI n] ws [] (fun v w => v = none ∧ w = ws) := by
  refine j_entry (by decide +kernel) (Nat.le_of_ble_eq_true rfl) (fun p e s m args below meth c G hr hk hin hJ ls hl => ?_)
  have G : CallFix p m c cJ0_checkIndex_df160 2 s args mTs RJ0 := G
  have hl : lv_has ls 2 [(0, vI i), (1, vI n)] := hl
  refine r_iload_n (np := 1) G hl 0 rfl dJ0_checkIndex_df160_0 rfl rfl ?_
  refine r_iload_n (np := 2) G hl 1 rfl dJ0_checkIndex_df160_1 rfl rfl ?_
  have go : ∀ o : Option Nat, W p l e ({ frames := 1, cells := 0, slots := 0, locals := 40 } : Room) s m args below meth c s.heap [] 0 0 (MQ below (jQ E lo (fun v w => v = none ∧ w = ws)) args s 0 0 (jL lo)) (F0 m 5 ls [va_rf o, vI n, vI i]) := by
    intro o
    refine j_callS (np := 8) G hJ hl.1 [vI i, vI n, va_rf o] (q5pc l E lo ws i n o h) (fun _ h => h) jsJ3_checkIndex_8e157 ljJ0_1059 ⟨(Nat.le_of_ble_eq_true rfl), (Nat.le_of_ble_eq_true rfl)⟩ ⟨(Nat.le_of_ble_eq_true rfl), (Nat.le_of_ble_eq_true rfl)⟩ [] rfl (Nat.le_of_ble_eq_true rfl) dJ0_checkIndex_df160_5 rfl (fun v w2 H locs hp hJ => ?_)
    obtain ⟨rfl, h9⟩ := hp
    refine r_pop (np := 9) G dJ0_checkIndex_df160_8 rfl rfl ?_
    exact j_vret G hr hk hJ ⟨rfl, h9⟩ (Nat.le_of_ble_eq_true rfl) (Nat.le_of_ble_eq_true rfl) dJ0_checkIndex_df160_9
  rcases hJ.2.2.1.2.2.2.1 with hz | ⟨t, hz⟩
  · exact va_gets G.1 G.2.1 hz hJ.2.2.2.2.2.2.2 G.2.2.2.1 (G.2.2.2.2 _ ljJ0_1053) (fun _ h => h) dJ0_checkIndex_df160_2 (go none)
  · exact va_gets G.1 G.2.1 hz hJ.2.2.2.2.2.2.2 G.2.2.2.1 (G.2.2.2.2 _ ljJ0_1053) (fun _ h => h) dJ0_checkIndex_df160_2 (go (some t))
theorem q5la (l : Launch) (E : mE) (lo : Nat) (x : sX) (ws : va_W) (i : Int) (hi : 0 ≤ i ∧ i < (x.2.2.length : Int)) (hx3 : x.2.2.length ≤ 300) : jMet l yJ1_charAt_3b067 cJ1_charAt_3b067 2 (some .char) 2 100 0 0 E lo [.ref x.2.1, vI i] ws [x] (fun v w => v = some (vI ((x.2.2.getD i.toNat 0 : Nat) : Int)) ∧ w = ws) := by
  refine j_entry (by decide +kernel) (Nat.le_of_ble_eq_true rfl) (fun p e s m args below meth c G hr hk hin hJ ls hl => ?_)
  have G : CallFix p m c cJ1_charAt_3b067 2 s args mTs RJ1 := G
  have hl : lv_has ls 2 [(0, .ref x.2.1), (1, vI i)] := hl
  have hm : x ∈ [x] := List.mem_singleton.mpr rfl
  refine r_iload_n (np := 1) G hl 1 rfl dJ1_charAt_3b067_0 rfl rfl ?_
  refine r_aload_n (np := 2) G hl 0 rfl dJ1_charAt_3b067_1 rfl rfl ?_
  refine j_xlen (np := 3) G hJ hm dJ1_charAt_3b067_2 rfl ?_
  refine j_callS (np := 6) G hJ hl.1 [vI i, vI (x.2.2.length : Int)] (q5ci l E lo ws i _ ⟨hi.1, hi.2, by omega⟩) (fun _ h => absurd h (List.not_mem_nil)) jsJ0_checkIndex_df160 ljJ1_9 ⟨(Nat.le_of_ble_eq_true rfl), (Nat.le_of_ble_eq_true rfl)⟩ ⟨(Nat.le_of_ble_eq_true rfl), (Nat.le_of_ble_eq_true rfl)⟩ [] rfl (Nat.le_of_ble_eq_true rfl) dJ1_charAt_3b067_3 rfl (fun v w2 H locs hp hJ => ?_)
  obtain ⟨rfl, h9⟩ := hp
  refine r_aload_n (np := 7) G hl 0 rfl dJ1_charAt_3b067_6 rfl rfl ?_
  refine r_iload_n (np := 8) G hl 1 rfl dJ1_charAt_3b067_7 rfl rfl ?_
  refine j_xbal (np := 9) G hJ hm (by rw [wI_eq (by omega) (by omega)]; exact hi) dJ1_charAt_3b067_8 rfl ?_
  rw [wI_eq (x := i) (by omega) (by omega)]
  refine r_sipush (np := 12) G 255 dJ1_charAt_3b067_9 (by decide) rfl ?_
  refine lv_iand G.1 G.2.1 dJ1_charAt_3b067_12 ?_
  refine lv_i2c G.1 G.2.1 dJ1_charAt_3b067_13 (charI (getD_lt hJ i.toNat)) ?_
  exact W.widen (Nat.le_of_ble_eq_true rfl) (Nat.le_of_ble_eq_true rfl) (W.zret G.1 G.2.1 hr (charN (getD_lt hJ i.toNat)) (fun t ht _ => ⟨⟨_, _, rfl, ⟨rfl, h9⟩, by rw [ht]; exact hJ.2.2.2.1, hJ.2.2.2.2.1⟩, hJ.2.2.2.2.2.2.2.F ht⟩) hJ.2.2.2.2.2.2.2.2.2 dJ1_charAt_3b067_14 hk)
set_option maxRecDepth 100000 in
set_option maxHeartbeats 1000000 in
theorem qJ0_charAt_5068e (l : Launch) (E : mE) (lo : Nat) (x : sX) (ws : va_W) (i : Int) (hi : 0 ≤ i ∧ i < (x.2.2.length : Int)) (hx3 : x.2.2.length ≤ 300) : jMet l yJ0_charAt_5068e cJ0_charAt_5068e 2 (some .char) 3 121 0 0 E lo [.ref x.1, vI (i)] ws [x] (fun v w => v = some (vI ((x.2.2.getD i.toNat 0 : Nat) : Int)) ∧ w = ws) := by
  refine j_entry (by decide +kernel) (Nat.le_of_ble_eq_true rfl) (fun p e s m args below meth c G hr hk hin hJ ls hl => ?_)
  have G : CallFix p m c cJ0_charAt_5068e 2 s args mTs RJ0 := G
  have hl : lv_has ls 2 [(0, .ref x.1), (1, vI (i))] := hl
  refine r_aload_n (np := 1) G hl 0 rfl dJ0_charAt_5068e_0 rfl rfl ?_
  refine j_callV (np := 4) G hJ hl.1 [] (qJ0_isLatin1_aae02 l E lo x ws) (fun _ h => h) jvJ0_isLatin1_aae02 ljJ0_492 (fun h => absurd h.2 (by decide +kernel)) (j_recX hJ (List.mem_singleton.mpr rfl)) ⟨(Nat.le_of_ble_eq_true rfl), (Nat.le_of_ble_eq_true rfl)⟩ ⟨(Nat.le_of_ble_eq_true rfl), (Nat.le_of_ble_eq_true rfl)⟩ [] rfl (Nat.le_of_ble_eq_true rfl) dJ0_charAt_5068e_1 rfl (fun v w2 H locs hp hJ => ?_)
  obtain ⟨rfl, h9⟩ := hp
  rw [h9] at hJ
  refine r_if_eq (np := 7) (tgt := 16) G (wI_eq (by omega) (by omega)) dJ0_charAt_5068e_4 (by decide) rfl (fun hc => False.elim (absurd hc (by decide))) (fun hc => ?_)
  refine r_aload_n (np := 8) G hl 0 rfl dJ0_charAt_5068e_7 rfl rfl ?_
  refine j_xval (np := 11) G hJ (x := x) (List.mem_singleton.mpr rfl) ljJ0_9 dJ0_charAt_5068e_8 rfl ?_
  refine r_iload_n (np := 12) G hl 1 rfl dJ0_charAt_5068e_11 rfl rfl ?_
  refine j_callS (np := 15) G hJ hl.1 [.ref x.2.1, vI (i)] (q5la l E lo x ws i hi hx3) (fun _ h => h) jsJ1_charAt_3b067 ljJ0_495 ⟨(Nat.le_of_ble_eq_true rfl), (Nat.le_of_ble_eq_true rfl)⟩ ⟨(Nat.le_of_ble_eq_true rfl), (Nat.le_of_ble_eq_true rfl)⟩ [] rfl (Nat.le_of_ble_eq_true rfl) dJ0_charAt_5068e_12 rfl (fun v w2 H locs hp hJ => ?_)
  obtain ⟨rfl, h9⟩ := hp
  rw [h9] at hJ
  exact W.widen (Nat.le_of_ble_eq_true rfl) (Nat.le_of_ble_eq_true rfl) (W.zret G.1 G.2.1 hr (charN (getD_lt hJ i.toNat)) (fun t ht _ => ⟨⟨_, _, rfl, ⟨rfl, rfl⟩, by rw [ht]; exact hJ.2.2.2.1, hJ.2.2.2.2.1⟩, hJ.2.2.2.2.2.2.2.F ht⟩) hJ.2.2.2.2.2.2.2.2.2 dJ0_charAt_5068e_15 hk)
