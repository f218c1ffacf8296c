/-! THE LAW MAKES ITS TEXT, first loop (laid by text1.py) -/
abbrev mGoP (l : Launch) (p : Program) (e : Env) (s : State) (m : MethodId) (b : Nat) (below : List Frame) (meth : Method) (c : Code) (cells slots : Nat) (H : Heap) (locs : List Loc) (g : JFrame) : Prop := W p l e room_1 s m #[Value.ref b] below meth c H locs cells slots (lw_Z below #[Value.ref b] s) g
theorem wI_nat {k : Nat} (h : k < 2147483648) : (wI (k : Int)).toNat = k := by rw [wI_eq (x := (k : Int)) (by omega) (by omega)]; exact Int.toNat_natCast k
theorem cX_4 (E : mE) : (cX E 4).2.2 = [113, 117, 97, 116, 101, 114, 110, 105, 111, 110, 32, 113] := rfl
theorem cX_5 (E : mE) : (cX E 5).2.2 = [32] := rfl
theorem cX_6 (E : mE) : (cX E 6).2.2 = [59] := rfl
/-- a row of a quaternion algebra, as it is written -/
def tQ (k : Nat) (A B : Int) : List Nat := [113, 117, 97, 116, 101, 114, 110, 105, 111, 110, 32, 113] ++ ([97 + k] ++ ([32] ++ (decI A ++ ([32] ++ (decI B ++ [59])))))
theorem jbL_free : mY yL_free cL_free 4 (some .int) 3 := ⟨mTs_in 764 (by decide +kernel) (by decide +kernel), mTs_in 29 (by decide +kernel) (by decide +kernel), ⟨by decide, by decide⟩, by decide +kernel⟩
theorem jsL_free : mYS yL_free cL_free 4 (some .int) 3 := ⟨jbL_free, mTs_in 763 (by decide +kernel) (by decide +kernel)⟩
theorem ljL_46 : Cond.methodLink RL 46 yL_free ∈ mTs := mTs_in 762 (by decide +kernel) (by decide +kernel)
theorem ljL_c49 : Cond.classLink RL 49 RJ4 ∈ mTs := mTs_in 786 (by decide +kernel) (by decide +kernel)
theorem jsbI : Cond.instantiable RJ4 4 ∈ mTs := mTs_in 787 (by decide +kernel) (by decide +kernel)
theorem jsbN : Cond.initialized RJ4 ∈ mTs := mTs_in 42 (by decide +kernel) (by decide +kernel)
theorem jbJ4_init_da8c8 : mY yJ4_init_da8c8 cJ4_init_da8c8 1 none 0 := ⟨mTs_in 790 (by decide +kernel) (by decide +kernel), mTs_in 42 (by decide +kernel) (by decide +kernel), ⟨by decide, by decide⟩, by decide +kernel⟩
theorem jiJ4_init_da8c8 : Cond.instanceMethod yJ4_init_da8c8 ∈ mTs := mTs_in 789 (by decide +kernel) (by decide +kernel)
theorem jqJ4_init_da8c8 : mY yJ4_init_da8c8 cJ4_init_da8c8 1 none 0 ∧ Cond.instanceMethod yJ4_init_da8c8 ∈ mTs := ⟨jbJ4_init_da8c8, jiJ4_init_da8c8⟩
theorem ljL_51 : Cond.methodLink RL 51 yJ4_init_da8c8 ∈ mTs := mTs_in 788 (by decide +kernel) (by decide +kernel)
theorem ljL_52 : Cond.methodLink RL 52 yJ4_append_15ec4 ∈ mTs := mTs_in 816 (by decide +kernel) (by decide +kernel)
theorem jbJ4_append_15ec4 : mY yJ4_append_15ec4 cJ4_append_15ec4 2 (some (.object "java/lang/StringBuilder")) 1 := ⟨mTs_in 819 (by decide +kernel) (by decide +kernel), mTs_in 42 (by decide +kernel) (by decide +kernel), ⟨by decide, by decide⟩, by decide +kernel⟩
theorem jiJ4_append_15ec4 : Cond.instanceMethod yJ4_append_15ec4 ∈ mTs := mTs_in 817 (by decide +kernel) (by decide +kernel)
theorem jvJ4_append_15ec4 : jYV "java/lang/StringBuilder" yJ4_append_15ec4 cJ4_append_15ec4 2 (some (.object "java/lang/StringBuilder")) 1 := ⟨jbJ4_append_15ec4, jiJ4_append_15ec4, Or.inl (mTs_in 818 (by decide +kernel) (by decide +kernel))⟩
theorem jqJ4_append_15ec4 : mY yJ4_append_15ec4 cJ4_append_15ec4 2 (some (.object "java/lang/StringBuilder")) 1 ∧ Cond.instanceMethod yJ4_append_15ec4 ∈ mTs := ⟨jbJ4_append_15ec4, jiJ4_append_15ec4⟩
theorem jselJ4_append_15ec4 : Cond.selects "java/lang/StringBuilder" yJ4_append_15ec4 yJ4_append_15ec4 ∈ mTs := mTs_in 818 (by decide +kernel) (by decide +kernel)
theorem ljL_58 : Cond.methodLink RL 58 yJ4_append_cf468 ∈ mTs := mTs_in 917 (by decide +kernel) (by decide +kernel)
theorem jbJ4_append_cf468 : mY yJ4_append_cf468 cJ4_append_cf468 2 (some (.object "java/lang/StringBuilder")) 1 := ⟨mTs_in 920 (by decide +kernel) (by decide +kernel), mTs_in 42 (by decide +kernel) (by decide +kernel), ⟨by decide, by decide⟩, by decide +kernel⟩
theorem jiJ4_append_cf468 : Cond.instanceMethod yJ4_append_cf468 ∈ mTs := mTs_in 918 (by decide +kernel) (by decide +kernel)
theorem jvJ4_append_cf468 : jYV "java/lang/StringBuilder" yJ4_append_cf468 cJ4_append_cf468 2 (some (.object "java/lang/StringBuilder")) 1 := ⟨jbJ4_append_cf468, jiJ4_append_cf468, Or.inl (mTs_in 919 (by decide +kernel) (by decide +kernel))⟩
theorem jqJ4_append_cf468 : mY yJ4_append_cf468 cJ4_append_cf468 2 (some (.object "java/lang/StringBuilder")) 1 ∧ Cond.instanceMethod yJ4_append_cf468 ∈ mTs := ⟨jbJ4_append_cf468, jiJ4_append_cf468⟩
theorem jselJ4_append_cf468 : Cond.selects "java/lang/StringBuilder" yJ4_append_cf468 yJ4_append_cf468 ∈ mTs := mTs_in 919 (by decide +kernel) (by decide +kernel)
theorem ljL_63 : Cond.methodLink RL 63 yJ4_append_bf812 ∈ mTs := mTs_in 930 (by decide +kernel) (by decide +kernel)
theorem jbJ4_append_bf812 : mY yJ4_append_bf812 cJ4_append_bf812 2 (some (.object "java/lang/StringBuilder")) 1 := ⟨mTs_in 933 (by decide +kernel) (by decide +kernel), mTs_in 42 (by decide +kernel) (by decide +kernel), ⟨by decide, by decide⟩, by decide +kernel⟩
theorem jiJ4_append_bf812 : Cond.instanceMethod yJ4_append_bf812 ∈ mTs := mTs_in 931 (by decide +kernel) (by decide +kernel)
theorem jvJ4_append_bf812 : jYV "java/lang/StringBuilder" yJ4_append_bf812 cJ4_append_bf812 2 (some (.object "java/lang/StringBuilder")) 1 := ⟨jbJ4_append_bf812, jiJ4_append_bf812, Or.inl (mTs_in 932 (by decide +kernel) (by decide +kernel))⟩
theorem jqJ4_append_bf812 : mY yJ4_append_bf812 cJ4_append_bf812 2 (some (.object "java/lang/StringBuilder")) 1 ∧ Cond.instanceMethod yJ4_append_bf812 ∈ mTs := ⟨jbJ4_append_bf812, jiJ4_append_bf812⟩
theorem jselJ4_append_bf812 : Cond.selects "java/lang/StringBuilder" yJ4_append_bf812 yJ4_append_bf812 ∈ mTs := mTs_in 932 (by decide +kernel) (by decide +kernel)
theorem ljL_68 : Cond.methodLink RL 68 yJ4_toString_0e30d ∈ mTs := mTs_in 955 (by decide +kernel) (by decide +kernel)
theorem jbJ4_toString_0e30d : mY yJ4_toString_0e30d cJ4_toString_0e30d 1 (some (.object "java/lang/String")) 0 := ⟨mTs_in 958 (by decide +kernel) (by decide +kernel), mTs_in 42 (by decide +kernel) (by decide +kernel), ⟨by decide, by decide⟩, by decide +kernel⟩
theorem jiJ4_toString_0e30d : Cond.instanceMethod yJ4_toString_0e30d ∈ mTs := mTs_in 956 (by decide +kernel) (by decide +kernel)
theorem jvJ4_toString_0e30d : jYV "java/lang/StringBuilder" yJ4_toString_0e30d cJ4_toString_0e30d 1 (some (.object "java/lang/String")) 0 := ⟨jbJ4_toString_0e30d, jiJ4_toString_0e30d, Or.inl (mTs_in 957 (by decide +kernel) (by decide +kernel))⟩
theorem jqJ4_toString_0e30d : mY yJ4_toString_0e30d cJ4_toString_0e30d 1 (some (.object "java/lang/String")) 0 ∧ Cond.instanceMethod yJ4_toString_0e30d ∈ mTs := ⟨jbJ4_toString_0e30d, jiJ4_toString_0e30d⟩
theorem jselJ4_toString_0e30d : Cond.selects "java/lang/StringBuilder" yJ4_toString_0e30d yJ4_toString_0e30d ∈ mTs := mTs_in 957 (by decide +kernel) (by decide +kernel)
set_option maxRecDepth 100000 in
set_option maxHeartbeats 4000000 in
theorem it1 (l : Launch) (E : mE) {p : Program} {e : Env} {s : State} {m : MethodId} {below : List Frame} {meth : Method} {c : Code} {b L : Nat} {xs : Nat → Int32} (hL : L ≤ 260) (G : CallFix p m c code 12 s #[Value.ref b] mTs RL) (hX : scX b L xs s) {k : Nat} (hk3 : k < 3) {σ : mSt} {tl : va_W} {lo : Nat} {x : sX} {cells slots : Nat} {H : Heap} {locs : List Loc} {ls : Array Slot} (hcs : cells ≤ 1000 ∧ slots ≤ 500000) (hS : lS E 256 σ tl lo [] s H locs) (hT : tS E tl s x) (hxl : x.2.2.length ≤ 70) (hxa : ∀ c ∈ x.2.2, c < 128) (hl : lv_has ls 12 [(6, vI ((k : Int))), (5, .ref (eA E 255)), (4, .ref (eA E 254)), (3, .ref x.1), (2, .ref (eA E 253)), (1, .ref (eA E 0)), (0, .ref b)])
  (kk : ∀ (σ2 : mSt) (tl2 : va_W) (x2 : sX) (H2 : Heap) (locs2 : List Loc) (ls2 : Array Slot) (c2 s2 : Nat), σ2 = upS (upS σ 254 k (freeV xs L (4 * k))) 255 k (freeV xs L (4 * k + 2)) → x2.2.2 = x.2.2 ++ tQ k (freeV xs L (4 * k)) (freeV xs L (4 * k + 2)) → lS E 256 σ2 tl2 H2.size [] s H2 locs2 → tS E tl2 s x2 → c2 ≤ cells + 13 → s2 ≤ slots + 10030 → lv_has ls2 12 [(6, vI ((k + 1 : Nat) : Int)), (5, .ref (eA E 255)), (4, .ref (eA E 254)), (3, .ref x2.1), (2, .ref (eA E 253)), (1, .ref (eA E 0)), (0, .ref b)] → mGoP l p e s m b below meth c c2 s2 H2 locs2 (F0 m 59 ls2 [])) :
  mGoP l p e s m b below meth c cells slots H locs (F0 m 59 ls []) := by
  refine r_iload (np := 61) G hl 0 rfl dL_law_59 rfl ?_
  refine r_iconst (np := 62) G (3) dL_law_61 rfl ?_
  refine r_icmp_ge (np := 65) (tgt := 163) G (wI_eq (by omega) (by omega)) (wI_eq (by omega) (by omega)) dL_law_62 (by decide) rfl (fun hc => False.elim (by omega)) (fun hc => ?_)
  refine r_aload (np := 67) G hl 2 rfl dL_law_65 rfl ?_
  refine r_iload (np := 69) G hl 0 rfl dL_law_67 rfl ?_
  refine r_aload_n (np := 70) G hl 6 rfl dL_law_69 rfl rfl ?_
  refine r_iconst (np := 71) G (4) dL_law_70 rfl ?_
  refine r_iload (np := 73) G hl 0 rfl dL_law_71 rfl ?_
  refine r_imul (np := 74) G dL_law_73 rfl ?_
  refine r_bipush (np := 76) G (60) dL_law_74 (by decide) rfl ?_
  rw [show (4 : Int) * (k : Int) = ((4 * k : Nat) : Int) by omega]
  refine c_call (A := aL s) (np := 79) G hX hS.2.2.2.2.2.1 hl.1 [.ref b, vI ((4 * k : Nat) : Int), vI 60] (cl_free l b L xs hL (4 * k) (by omega)) jsL_free ljL_46 ⟨(Nat.le_of_ble_eq_true rfl), (Nat.le_of_ble_eq_true rfl)⟩ ⟨by show _ ≤ 600000; omega, by show _ ≤ 7302250; omega⟩ [vI ((k : Int)), .ref (eA E 254)] rfl (Nat.le_of_ble_eq_true rfl) dL_law_76 rfl ?_ (Nat.not_le.mpr hX.2)
  refine l_iast (np := 80) G hS (i := 254) (n := 3) (by decide) (by decide +kernel) (by rw [wI_eq (by omega) (by omega)]; omega) dL_law_79 rfl (fun H locs hS => ?_)
  rw [wI_nat (k := k) (by omega)] at hS
  refine r_aload (np := 82) G hl 1 rfl dL_law_80 rfl ?_
  refine r_iload (np := 84) G hl 0 rfl dL_law_82 rfl ?_
  refine r_aload_n (np := 85) G hl 6 rfl dL_law_84 rfl rfl ?_
  refine r_iconst (np := 86) G (4) dL_law_85 rfl ?_
  refine r_iload (np := 88) G hl 0 rfl dL_law_86 rfl ?_
  refine r_imul (np := 89) G dL_law_88 rfl ?_
  refine r_iconst (np := 90) G (2) dL_law_89 rfl ?_
  refine r_iadd (np := 91) G dL_law_90 rfl ?_
  refine r_bipush (np := 93) G (60) dL_law_91 (by decide) rfl ?_
  rw [show (4 : Int) * (k : Int) + 2 = ((4 * k + 2 : Nat) : Int) by omega]
  refine c_call (A := aL s) (np := 96) G hX hS.2.2.2.2.2.1 hl.1 [.ref b, vI ((4 * k + 2 : Nat) : Int), vI 60] (cl_free l b L xs hL (4 * k + 2) (by omega)) jsL_free ljL_46 ⟨(Nat.le_of_ble_eq_true rfl), (Nat.le_of_ble_eq_true rfl)⟩ ⟨by show _ ≤ 600000; omega, by show _ ≤ 7302250; omega⟩ [vI ((k : Int)), .ref (eA E 255)] rfl (Nat.le_of_ble_eq_true rfl) dL_law_93 rfl ?_ (Nat.not_le.mpr hX.2)
  refine l_iast (np := 97) G hS (i := 255) (n := 3) (by decide) (by decide +kernel) (by rw [wI_eq (by omega) (by omega)]; omega) dL_law_96 rfl (fun H locs hS => ?_)
  rw [wI_nat (k := k) (by omega)] at hS
  have hA := freeV_ok xs L (4 * k)
  have hA2 := freeV_ok xs L (4 * k + 2)
  obtain ⟨A, hAe⟩ : ∃ z, z = freeV xs L (4 * k) := ⟨_, rfl⟩
  obtain ⟨B, hBe⟩ : ∃ z, z = freeV xs L (4 * k + 2) := ⟨_, rfl⟩
  rw [← hAe] at hA hS
  rw [← hBe] at hA2 hS
  have hlA := decI_len (x := A) (by omega)
  have hlB := decI_len (x := B) (by omega)
  refine l_newB (np := 100) G hS ljL_c49 jsbI jsbN inJ4 (by show _ ≤ 600000; omega) (by show _ ≤ 7302250; omega) dL_law_97 rfl (fun u lo2 H hS => ?_)
  refine r_dup (np := 101) G dL_law_100 rfl rfl ?_
  refine l_callI (np := 104) G hS hl.1 [] (qJ4_init_da8c8 l E lo2 u) (fun _ h => absurd h (List.not_mem_nil)) jqJ4_init_da8c8 ljL_51 ⟨(Nat.le_of_ble_eq_true rfl), (Nat.le_of_ble_eq_true rfl)⟩ ⟨by show _ ≤ 600000; omega, by show _ ≤ 7302250; omega⟩ [.ref u] rfl (Nat.le_of_ble_eq_true rfl) dL_law_101 rfl (fun v w2 H locs hp hS => ?_)
  obtain ⟨rfl, d0, rfl⟩ := hp
  have hS : lS E 256 _ _ lo2 (jB E u d0 (([] : List Nat).length : Int) 16 (fun _ => 0)) s H locs := hS
  have hB0 := bK_nil
  have ha0 : ∀ c ∈ ([] : List Nat), c < 128 := fun _ h => absurd h (List.not_mem_nil)
  have hn0 : ([] : List Nat).length = 0 := rfl
  refine r_aload_n (np := 105) G hl 3 rfl dL_law_104 rfl rfl ?_
  refine l_callB (np := 108) G hS hl.1 0 rfl [.ref x.1] (qJ4_append_15ec4 l E lo2 u d0 16 (fun _ => 0) ([] : List Nat) hB0 x (by omega)) (fun y hy => by rw [List.mem_singleton.mp hy]; exact hT) jqJ4_append_15ec4 jselJ4_append_15ec4 ljL_52 ⟨(Nat.le_of_ble_eq_true rfl), (Nat.le_of_ble_eq_true rfl)⟩ ⟨by show _ ≤ 600000; omega, by show _ ≤ 7302250; omega⟩ [] rfl (Nat.le_of_ble_eq_true rfl) dL_law_105 rfl (fun v w2 H locs hp hS => ?_)
  obtain ⟨rfl, d1, k1, f1, rfl, hB1⟩ := hp
  obtain ⟨bs1, hb1⟩ : ∃ z, z = ([] : List Nat) ++ x.2.2 := ⟨_, rfl⟩
  rw [← hb1] at hS hB1
  have hn1 : bs1.length = ([] : List Nat).length + x.2.2.length := by rw [hb1, List.length_append]
  have ha1 : ∀ c ∈ bs1, c < 128 := by rw [hb1]; intro c hc; rcases List.mem_append.mp hc with h | h; exact ha0 c h; exact hxa c h
  refine l_ldc (np := 110) G hS 1 (by decide) dL_law_108 rfl ?_
  refine l_callB (np := 113) G hS hl.1 0 rfl [.ref (eK E 4)] (qJ4_append_15ec4 l E lo2 u d1 k1 f1 bs1 hB1 (cX E 4) (by rw [show (cX E 4).2.2.length = 12 from rfl]; omega)) (fun y hy => by rw [List.mem_singleton.mp hy]; exact tS_const hS.2.2.1 (by decide)) jqJ4_append_15ec4 jselJ4_append_15ec4 ljL_52 ⟨(Nat.le_of_ble_eq_true rfl), (Nat.le_of_ble_eq_true rfl)⟩ ⟨by show _ ≤ 600000; omega, by show _ ≤ 7302250; omega⟩ [] rfl (Nat.le_of_ble_eq_true rfl) dL_law_110 rfl (fun v w2 H locs hp hS => ?_)
  obtain ⟨rfl, d2, k2, f2, rfl, hB2⟩ := hp
  obtain ⟨bs2, hb2⟩ : ∃ z, z = bs1 ++ (cX E 4).2.2 := ⟨_, rfl⟩
  rw [← hb2] at hS hB2
  have hn2 : bs2.length = bs1.length + 12 := by rw [hb2, List.length_append]; rfl
  have ha2 : ∀ c ∈ bs2, c < 128 := by rw [hb2]; intro c hc; rcases List.mem_append.mp hc with h | h; exact ha1 c h; exact (cT_ok 4 (by decide)).2.2.1 c h
  refine r_bipush (np := 115) G (97) dL_law_113 (by decide) rfl ?_
  refine r_iload (np := 117) G hl 0 rfl dL_law_115 rfl ?_
  refine r_iadd (np := 118) G dL_law_117 rfl ?_
  rw [show (97 : Int) + (k : Int) = ((97 + k : Nat) : Int) by omega]
  refine lv_i2c G.1 G.2.1 dL_law_118 (i2cK k hk3) ?_
  have e97 : Value.int (Int32.ofInt ((97 + k : Nat) : Int)) = vI ((97 + k : Nat) : Int) := rfl
  rw [e97]
  refine l_callB (np := 122) G hS hl.1 0 rfl [vI (((97 + k : Nat) : Int))] (qJ4_append_cf468 l E lo2 u d2 k2 f2 bs2 hB2 (97 + k) (by omega) (by omega)) (fun _ h => absurd h (List.not_mem_nil)) jqJ4_append_cf468 jselJ4_append_cf468 ljL_58 ⟨(Nat.le_of_ble_eq_true rfl), (Nat.le_of_ble_eq_true rfl)⟩ ⟨by show _ ≤ 600000; omega, by show _ ≤ 7302250; omega⟩ [] rfl (Nat.le_of_ble_eq_true rfl) dL_law_119 rfl (fun v w2 H locs hp hS => ?_)
  obtain ⟨rfl, d3, k3, f3, rfl, hB3⟩ := hp
  obtain ⟨bs3, hb3⟩ : ∃ z, z = bs2 ++ [97 + k] := ⟨_, rfl⟩
  rw [← hb3] at hS hB3
  have hn3 : bs3.length = bs2.length + 1 := by rw [hb3, List.length_append]; rfl
  have ha3 : ∀ c ∈ bs3, c < 128 := by rw [hb3]; intro c hc; rcases List.mem_append.mp hc with h | h; exact ha2 c h; exact (fun c9 h9 => Nat.lt_of_le_of_lt (Nat.le_of_eq (List.mem_singleton.mp h9)) (by omega)) c h
  refine l_ldc (np := 124) G hS 2 (by decide) dL_law_122 rfl ?_
  refine l_callB (np := 127) G hS hl.1 0 rfl [.ref (eK E 5)] (qJ4_append_15ec4 l E lo2 u d3 k3 f3 bs3 hB3 (cX E 5) (by rw [show (cX E 5).2.2.length = 1 from rfl]; omega)) (fun y hy => by rw [List.mem_singleton.mp hy]; exact tS_const hS.2.2.1 (by decide)) jqJ4_append_15ec4 jselJ4_append_15ec4 ljL_52 ⟨(Nat.le_of_ble_eq_true rfl), (Nat.le_of_ble_eq_true rfl)⟩ ⟨by show _ ≤ 600000; omega, by show _ ≤ 7302250; omega⟩ [] rfl (Nat.le_of_ble_eq_true rfl) dL_law_124 rfl (fun v w2 H locs hp hS => ?_)
  obtain ⟨rfl, d4, k4, f4, rfl, hB4⟩ := hp
  obtain ⟨bs4, hb4⟩ : ∃ z, z = bs3 ++ (cX E 5).2.2 := ⟨_, rfl⟩
  rw [← hb4] at hS hB4
  have hn4 : bs4.length = bs3.length + 1 := by rw [hb4, List.length_append]; rfl
  have ha4 : ∀ c ∈ bs4, c < 128 := by rw [hb4]; intro c hc; rcases List.mem_append.mp hc with h | h; exact ha3 c h; exact (cT_ok 5 (by decide)).2.2.1 c h
  refine r_aload (np := 129) G hl 2 rfl dL_law_127 rfl ?_
  refine r_iload (np := 131) G hl 0 rfl dL_law_129 rfl ?_
  refine l_iald (np := 132) G hS (i := 254) (n := 3) (by decide) (by decide +kernel) (by rw [wI_eq (by omega) (by omega)]; omega) dL_law_131 rfl ?_
  rw [wI_nat (k := k) (by omega), show upS (upS σ 254 k A) 255 k B 254 k = A by simp [upS]]
  refine l_callB (np := 135) G hS hl.1 0 rfl [vI (A)] (qJ4_append_bf812 l E lo2 u d4 k4 f4 bs4 hB4 (A) (by omega) (by have := decI_len (x := A) (by omega); omega)) (fun _ h => absurd h (List.not_mem_nil)) jqJ4_append_bf812 jselJ4_append_bf812 ljL_63 ⟨(Nat.le_of_ble_eq_true rfl), (Nat.le_of_ble_eq_true rfl)⟩ ⟨by show _ ≤ 600000; omega, by show _ ≤ 7302250; omega⟩ [] rfl (Nat.le_of_ble_eq_true rfl) dL_law_132 rfl (fun v w2 H locs hp hS => ?_)
  obtain ⟨rfl, d5, k5, f5, rfl, hB5⟩ := hp
  obtain ⟨bs5, hb5⟩ : ∃ z, z = bs4 ++ decI (A) := ⟨_, rfl⟩
  rw [← hb5] at hS hB5
  have hn5 : bs5.length = bs4.length + (decI (A)).length := by rw [hb5, List.length_append]
  have ha5 : ∀ c ∈ bs5, c < 128 := by rw [hb5]; intro c hc; rcases List.mem_append.mp hc with h | h; exact ha4 c h; exact decI_asc (x := A) (by omega) c h
  refine l_ldc (np := 137) G hS 2 (by decide) dL_law_135 rfl ?_
  refine l_callB (np := 140) G hS hl.1 0 rfl [.ref (eK E 5)] (qJ4_append_15ec4 l E lo2 u d5 k5 f5 bs5 hB5 (cX E 5) (by rw [show (cX E 5).2.2.length = 1 from rfl]; omega)) (fun y hy => by rw [List.mem_singleton.mp hy]; exact tS_const hS.2.2.1 (by decide)) jqJ4_append_15ec4 jselJ4_append_15ec4 ljL_52 ⟨(Nat.le_of_ble_eq_true rfl), (Nat.le_of_ble_eq_true rfl)⟩ ⟨by show _ ≤ 600000; omega, by show _ ≤ 7302250; omega⟩ [] rfl (Nat.le_of_ble_eq_true rfl) dL_law_137 rfl (fun v w2 H locs hp hS => ?_)
  obtain ⟨rfl, d6, k6, f6, rfl, hB6⟩ := hp
  obtain ⟨bs6, hb6⟩ : ∃ z, z = bs5 ++ (cX E 5).2.2 := ⟨_, rfl⟩
  rw [← hb6] at hS hB6
  have hn6 : bs6.length = bs5.length + 1 := by rw [hb6, List.length_append]; rfl
  have ha6 : ∀ c ∈ bs6, c < 128 := by rw [hb6]; intro c hc; rcases List.mem_append.mp hc with h | h; exact ha5 c h; exact (cT_ok 5 (by decide)).2.2.1 c h
  refine r_aload (np := 142) G hl 1 rfl dL_law_140 rfl ?_
  refine r_iload (np := 144) G hl 0 rfl dL_law_142 rfl ?_
  refine l_iald (np := 145) G hS (i := 255) (n := 3) (by decide) (by decide +kernel) (by rw [wI_eq (by omega) (by omega)]; omega) dL_law_144 rfl ?_
  rw [wI_nat (k := k) (by omega), show upS (upS σ 254 k A) 255 k B 255 k = B by simp [upS]]
  refine l_callB (np := 148) G hS hl.1 0 rfl [vI (B)] (qJ4_append_bf812 l E lo2 u d6 k6 f6 bs6 hB6 (B) (by omega) (by have := decI_len (x := B) (by omega); omega)) (fun _ h => absurd h (List.not_mem_nil)) jqJ4_append_bf812 jselJ4_append_bf812 ljL_63 ⟨(Nat.le_of_ble_eq_true rfl), (Nat.le_of_ble_eq_true rfl)⟩ ⟨by show _ ≤ 600000; omega, by show _ ≤ 7302250; omega⟩ [] rfl (Nat.le_of_ble_eq_true rfl) dL_law_145 rfl (fun v w2 H locs hp hS => ?_)
  obtain ⟨rfl, d7, k7, f7, rfl, hB7⟩ := hp
  obtain ⟨bs7, hb7⟩ : ∃ z, z = bs6 ++ decI (B) := ⟨_, rfl⟩
  rw [← hb7] at hS hB7
  have hn7 : bs7.length = bs6.length + (decI (B)).length := by rw [hb7, List.length_append]
  have ha7 : ∀ c ∈ bs7, c < 128 := by rw [hb7]; intro c hc; rcases List.mem_append.mp hc with h | h; exact ha6 c h; exact decI_asc (x := B) (by omega) c h
  refine l_ldc (np := 150) G hS 3 (by decide) dL_law_148 rfl ?_
  refine l_callB (np := 153) G hS hl.1 0 rfl [.ref (eK E 6)] (qJ4_append_15ec4 l E lo2 u d7 k7 f7 bs7 hB7 (cX E 6) (by rw [show (cX E 6).2.2.length = 1 from rfl]; omega)) (fun y hy => by rw [List.mem_singleton.mp hy]; exact tS_const hS.2.2.1 (by decide)) jqJ4_append_15ec4 jselJ4_append_15ec4 ljL_52 ⟨(Nat.le_of_ble_eq_true rfl), (Nat.le_of_ble_eq_true rfl)⟩ ⟨by show _ ≤ 600000; omega, by show _ ≤ 7302250; omega⟩ [] rfl (Nat.le_of_ble_eq_true rfl) dL_law_150 rfl (fun v w2 H locs hp hS => ?_)
  obtain ⟨rfl, d8, k8, f8, rfl, hB8⟩ := hp
  obtain ⟨bs8, hb8⟩ : ∃ z, z = bs7 ++ (cX E 6).2.2 := ⟨_, rfl⟩
  rw [← hb8] at hS hB8
  have hn8 : bs8.length = bs7.length + 1 := by rw [hb8, List.length_append]; rfl
  have ha8 : ∀ c ∈ bs8, c < 128 := by rw [hb8]; intro c hc; rcases List.mem_append.mp hc with h | h; exact ha7 c h; exact (cT_ok 6 (by decide)).2.2.1 c h
  refine l_callB (np := 156) G hS hl.1 0 rfl [] (qJ4_toString_0e30d l E lo2 u d8 k8 f8 bs8.length hB8.1 hB8.2.1 hB8.2.2.1) (fun _ h => absurd h (List.not_mem_nil)) jqJ4_toString_0e30d jselJ4_toString_0e30d ljL_68 ⟨(Nat.le_of_ble_eq_true rfl), (Nat.le_of_ble_eq_true rfl)⟩ ⟨by show _ ≤ 600000; omega, by show _ ≤ 7302250; omega⟩ [] rfl (Nat.le_of_ble_eq_true rfl) dL_law_153 rfl (fun v w2 H locs hp hS => ?_)
  obtain ⟨t2, v2, g2, rfl, rfl, hg2⟩ := hp
  have hT2 : tS E [(t2, .inr (11, [.ref v2, vI 0, vI 0, vI 0])), (v2, .inl (eT E 2, bs8.length, .inl g2))] s (t2, v2, bs8) := tS_dyn hS.1 hS.2.1 (List.mem_cons_self) (List.mem_cons_of_mem _ (List.mem_cons_self)) (fun j hj => (hg2 j hj).trans (hB8.2.2.2 j hj)) (by have := decI_len (x := A) (by omega); have := decI_len (x := B) (by omega); omega) ha8
  have hS := hS.re (tl2 := [(t2, .inr (11, [.ref v2, vI 0, vI 0, vI 0])), (v2, .inl (eT E 2, bs8.length, .inl g2))]) (List.sublist_append_right _ _)
  refine r_astore_n (np := 157) G hl (rfl) [(3, .ref t2), (6, vI ((k : Int))), (5, .ref (eA E 255)), (4, .ref (eA E 254)), (2, .ref (eA E 253)), (1, .ref (eA E 0)), (0, .ref b)] dL_law_156 rfl rfl (by decide) rfl (fun ls hl => ?_)
  refine r_iinc (np := 160) G hl 1 rfl (y := ((k + 1 : Nat) : Int)) (by omega) [(6, vI (((k + 1 : Nat) : Int))), (3, .ref t2), (5, .ref (eA E 255)), (4, .ref (eA E 254)), (2, .ref (eA E 253)), (1, .ref (eA E 0)), (0, .ref b)] dL_law_157 rfl (by decide) rfl (fun ls hl => ?_)
  refine r_goto (np := 59) G dL_law_160 (by decide) ?_
  refine kk _ _ (t2, v2, bs8) H _ ls _ _ ?_ ?_ hS hT2 ?_ ?_ (lv_sub hl [0, 2, 3, 1, 4, 5, 6] rfl)
  · rw [hAe, hBe]
  · show bs8 = _
    rw [hb8, hb7, hb6, hb5, hb4, hb3, hb2, hb1, hAe, hBe]
    simp only [List.nil_append, List.append_assoc, cX_4, cX_5, cX_6, tQ]
  · omega
  · omega
