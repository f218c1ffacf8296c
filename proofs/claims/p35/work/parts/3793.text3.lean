/-! .. third loop (laid by text3.py) -/
theorem cX_15 (E : mE) : (cX E 15).2.2 = [32, 43, 32] := rfl
theorem cX_16 (E : mE) : (cX E 16).2.2 = [32, 45, 32] := rfl
theorem cX_9 (E : mE) (o : Nat) : (cX E (9 + o)).2.2 = cTx.getD (9 + o) [] := rfl
theorem cT_2 : ∀ o, o < 5 → (cTx.getD (9 + o) []).length = 2 := by decide
/-- a term of a sum, as it is written -/
def tT (g : Int) (o : Nat) : List Nat := (if g = 0 then [32, 43, 32] else [32, 45, 32]) ++ cTx.getD (9 + o) []

set_option maxRecDepth 100000 in
set_option maxHeartbeats 4000000 in
theorem it3 (l : Launch) (E : mE) {p : Program} {e : Env} {s : State} {m : MethodId} {below : List Frame} {meth : Method} {c : Code} {b L : Nat} {xs : Nat → Int32} (hL : L ≤ 260) (G : CallFix p m c code 12 s #[Value.ref b] mTs RL) (hX : scX b L xs s) {k : Nat} (hk3 : (k : Int) < 1 + someV xs L 30 4) {σ : mSt} (hσ : ∀ o, o < 5 → -10 ≤ σ 256 o ∧ σ 256 o ≤ 10) {nm : Nat} {fr : Nat → Option Nat} (hfr : ∀ o, o < 5 → fr o = some (eK E (9 + o))) {txt : va_W} {lo : Nat} {x : sX} {cells slots : Nat} {H : Heap} {locs : List Loc} {ls : Array Slot} (hcs : cells ≤ 1000 ∧ slots ≤ 500000) (hS : lS E 257 σ ((nm, .inl (eT E 8, 5, .inr (.inr (.inr (.inr fr))))) :: txt) lo [] s H locs) (hT : tS E ((nm, .inl (eT E 8, 5, .inr (.inr (.inr (.inr fr))))) :: txt) s x) (hxl : x.2.2.length ≤ 250) (hxa : ∀ c ∈ x.2.2, c < 128) (hl : lv_has ls 12 [(8, vI ((k : Int))), (7, .ref (eA E 256)), (6, .ref nm), (5, .ref (eA E 255)), (4, .ref (eA E 254)), (3, .ref x.1), (2, .ref (eA E 253)), (1, .ref (eA E 0)), (0, .ref b)])
  (kk : ∀ (σ2 : mSt) (txt2 : va_W) (x2 : sX) (H2 : Heap) (locs2 : List Loc) (ls2 : Array Slot) (c2 s2 : Nat), σ2 = upS σ 256 (someV xs L (31 + k) 5).toNat (σ 256 (someV xs L (31 + k) 5).toNat + (if someV xs L (36 + k) 2 = 0 then 1 else -1)) → x2.2.2 = x.2.2 ++ tT (someV xs L (36 + k) 2) (someV xs L (31 + k) 5).toNat → lS E 257 σ2 ((nm, .inl (eT E 8, 5, .inr (.inr (.inr (.inr fr))))) :: txt2) H2.size [] s H2 locs2 → tS E ((nm, .inl (eT E 8, 5, .inr (.inr (.inr (.inr fr))))) :: txt2) s x2 → c2 ≤ cells + 10 → s2 ≤ slots + 6030 → lv_has ls2 12 [(8, vI ((k + 1 : Nat) : Int)), (7, .ref (eA E 256)), (6, .ref nm), (5, .ref (eA E 255)), (4, .ref (eA E 254)), (3, .ref x2.1), (2, .ref (eA E 253)), (1, .ref (eA E 0)), (0, .ref b)] → mGoP l p e s m b below meth c c2 s2 H2 locs2 (F0 m 337 ls2 [])) :
  mGoP l p e s m b below meth c cells slots H locs (F0 m 337 ls []) := by
  have hr30 := someV_rng (xs := xs) (L := L) (k := 30) (n := 4) (by decide)
  have hr31 := someV_rng (xs := xs) (L := L) (k := 31 + k) (n := 5) (by decide)
  have hr36 := someV_rng (xs := xs) (L := L) (k := 36 + k) (n := 2) (by decide)
  obtain ⟨o, ho⟩ : ∃ z, z = (someV xs L (31 + k) 5).toNat := ⟨_, rfl⟩
  have ho5 : o < 5 := by omega
  have hol := cT_2 o ho5
  have hσ9 := hσ o ho5
  refine r_iload (np := 339) G hl 0 rfl dL_law_337 rfl ?_
  refine r_iconst (np := 340) G (1) dL_law_339 rfl ?_
  refine r_aload_n (np := 341) G hl 8 rfl dL_law_340 rfl rfl ?_
  refine r_bipush (np := 343) G (30) dL_law_341 (by decide) rfl ?_
  refine r_iconst (np := 344) G (4) dL_law_343 rfl ?_
  refine c_call (A := aL s) (np := 347) G hX hS.2.2.2.2.2.1 hl.1 [.ref b, vI ((30 : Nat) : Int), vI ((4 : Nat) : Int)] (cl_some l b L xs hL (30) 4 (by omega) (by decide)) jsL_some ljL_35 ⟨(Nat.le_of_ble_eq_true rfl), (Nat.le_of_ble_eq_true rfl)⟩ ⟨by show _ ≤ 600000; omega, by show _ ≤ 7302250; omega⟩ [vI (1), vI ((k : Int))] rfl (Nat.le_of_ble_eq_true rfl) dL_law_344 rfl ?_ (Nat.not_le.mpr hX.2)
  refine r_iadd (np := 348) G dL_law_347 rfl ?_
  refine r_icmp_ge (np := 351) (tgt := 445) G (wI_eq (by omega) (by omega)) (wI_eq (by omega) (by omega)) dL_law_348 (by decide) rfl (fun hc => False.elim (by omega)) (fun hc => ?_)
  refine r_aload_n (np := 352) G hl 8 rfl dL_law_351 rfl rfl ?_
  refine r_bipush (np := 354) G (31) dL_law_352 (by decide) rfl ?_
  refine r_iload (np := 356) G hl 0 rfl dL_law_354 rfl ?_
  refine r_iadd (np := 357) G dL_law_356 rfl ?_
  refine r_iconst (np := 358) G (5) dL_law_357 rfl ?_
  rw [show (31 : Int) + (k : Int) = ((31 + k : Nat) : Int) by omega]
  refine c_call (A := aL s) (np := 361) G hX hS.2.2.2.2.2.1 hl.1 [.ref b, vI ((31 + k : Nat) : Int), vI ((5 : Nat) : Int)] (cl_some l b L xs hL (31 + k) 5 (by omega) (by decide)) jsL_some ljL_35 ⟨(Nat.le_of_ble_eq_true rfl), (Nat.le_of_ble_eq_true rfl)⟩ ⟨by show _ ≤ 600000; omega, by show _ ≤ 7302250; omega⟩ [] rfl (Nat.le_of_ble_eq_true rfl) dL_law_358 rfl ?_ (Nat.not_le.mpr hX.2)
  rw [show someV xs L (31 + k) 5 = (o : Int) by omega]
  refine r_istore (np := 363) G hl (rfl) [(9, vI ((o : Int))), (8, vI ((k : Int))), (7, .ref (eA E 256)), (6, .ref nm), (5, .ref (eA E 255)), (4, .ref (eA E 254)), (3, .ref x.1), (2, .ref (eA E 253)), (1, .ref (eA E 0)), (0, .ref b)] dL_law_361 rfl (by decide) rfl (fun ls hl => ?_)
  refine r_aload_n (np := 364) G hl 9 rfl dL_law_363 rfl rfl ?_
  refine r_bipush (np := 366) G (36) dL_law_364 (by decide) rfl ?_
  refine r_iload (np := 368) G hl 1 rfl dL_law_366 rfl ?_
  refine r_iadd (np := 369) G dL_law_368 rfl ?_
  refine r_iconst (np := 370) G (2) dL_law_369 rfl ?_
  rw [show (36 : Int) + (k : Int) = ((36 + k : Nat) : Int) by omega]
  refine c_call (A := aL s) (np := 373) G hX hS.2.2.2.2.2.1 hl.1 [.ref b, vI ((36 + k : Nat) : Int), vI ((2 : Nat) : Int)] (cl_some l b L xs hL (36 + k) 2 (by omega) (by decide)) jsL_some ljL_35 ⟨(Nat.le_of_ble_eq_true rfl), (Nat.le_of_ble_eq_true rfl)⟩ ⟨by show _ ≤ 600000; omega, by show _ ≤ 7302250; omega⟩ [] rfl (Nat.le_of_ble_eq_true rfl) dL_law_370 rfl ?_ (Nat.not_le.mpr hX.2)
  refine r_if_ne (np := 376) (tgt := 380) G (wI_eq (by omega) (by omega)) dL_law_373 (by decide) rfl (fun hc => ?_) (fun hc => ?_)
  ·
    have hz := hc
    refine r_iconst (np := 381) G (0) dL_law_380 rfl ?_
    refine r_istore (np := 383) G hl (rfl) [(10, vI (0)), (9, vI ((o : Int))), (8, vI ((k : Int))), (7, .ref (eA E 256)), (6, .ref nm), (5, .ref (eA E 255)), (4, .ref (eA E 254)), (3, .ref x.1), (2, .ref (eA E 253)), (1, .ref (eA E 0)), (0, .ref b)] dL_law_381 rfl (by decide) rfl (fun ls hl => ?_)
    refine r_aload (np := 385) G hl 3 rfl dL_law_383 rfl ?_
    refine r_iload (np := 387) G hl 1 rfl dL_law_385 rfl ?_
    refine r_dup2 (np := 388) G dL_law_387 rfl rfl rfl ?_
    refine l_iald (np := 389) G hS (i := 256) (n := 5) (by decide) (by decide +kernel) (by rw [wI_eq (by omega) (by omega)]; omega) dL_law_388 rfl ?_
    rw [wI_nat (k := o) (by omega)]
    refine r_iload (np := 391) G hl 0 rfl dL_law_389 rfl ?_
    refine r_if_eq (np := 394) (tgt := 398) G (wI_eq (by omega) (by omega)) dL_law_391 (by decide) rfl (fun hc => ?_) (fun hc => False.elim (by omega))
    refine r_iconst (np := 399) G (-1) dL_law_398 rfl ?_
    refine r_iadd (np := 400) G dL_law_399 rfl ?_
    refine l_iast (np := 401) G hS (i := 256) (n := 5) (by decide) (by decide +kernel) (by rw [wI_eq (by omega) (by omega)]; omega) dL_law_400 rfl (fun H locs hS => ?_)
    rw [wI_nat (k := o) (by omega)] at hS
    refine l_newB (np := 404) G hS ljL_c49 jsbI jsbN inJ4 (by show _ ≤ 600000; omega) (by show _ ≤ 7302250; omega) dL_law_401 rfl (fun u lo2 H hS => ?_)
    refine r_dup (np := 405) G dL_law_404 rfl rfl ?_
    refine l_callI (np := 408) G hS hl.1 [] (qJ4_init_da8c8 l E lo2 u) (fun _ h => absurd h (List.not_mem_nil)) jqJ4_init_da8c8 ljL_51 ⟨(Nat.le_of_ble_eq_true rfl), (Nat.le_of_ble_eq_true rfl)⟩ ⟨by show _ ≤ 600000; omega, by show _ ≤ 7302250; omega⟩ [.ref u] rfl (Nat.le_of_ble_eq_true rfl) dL_law_405 rfl (fun v w2 H locs hp hS => ?_)
    obtain ⟨rfl, d0, rfl⟩ := hp
    have hS : lS E 257 _ _ lo2 (jB E u d0 (([] : List Nat).length : Int) 16 (fun _ => 0)) s H locs := hS
    have hB0 := bK_nil
    have ha0 : ∀ c ∈ ([] : List Nat), c < 128 := fun _ h => absurd h (List.not_mem_nil)
    have hn0 : ([] : List Nat).length = 0 := rfl
    refine r_aload_n (np := 409) G hl 7 rfl dL_law_408 rfl rfl ?_
    refine l_callB (np := 412) G hS hl.1 0 rfl [.ref x.1] (qJ4_append_15ec4 l E lo2 u d0 16 (fun _ => 0) ([] : List Nat) hB0 x (by omega)) (fun y hy => by rw [List.mem_singleton.mp hy]; exact hT) jqJ4_append_15ec4 jselJ4_append_15ec4 ljL_52 ⟨(Nat.le_of_ble_eq_true rfl), (Nat.le_of_ble_eq_true rfl)⟩ ⟨by show _ ≤ 600000; omega, by show _ ≤ 7302250; omega⟩ [] rfl (Nat.le_of_ble_eq_true rfl) dL_law_409 rfl (fun v w2 H locs hp hS => ?_)
    obtain ⟨rfl, d1, k1, f1, rfl, hB1⟩ := hp
    obtain ⟨bs1, hb1⟩ : ∃ z, z = ([] : List Nat) ++ x.2.2 := ⟨_, rfl⟩
    rw [← hb1] at hS hB1
    have hn1 : bs1.length = ([] : List Nat).length + x.2.2.length := by rw [hb1, List.length_append]
    have ha1 : ∀ c ∈ bs1, c < 128 := by rw [hb1]; intro c hc; rcases List.mem_append.mp hc with h | h; exact ha0 c h; exact hxa c h
    refine r_iload (np := 414) G hl 0 rfl dL_law_412 rfl ?_
    refine r_if_eq (np := 417) (tgt := 422) G (wI_eq (by omega) (by omega)) dL_law_414 (by decide) rfl (fun hc => ?_) (fun hc => False.elim (by omega))
    refine l_ldc (np := 424) G hS 13 (by decide) dL_law_422 rfl ?_
    refine l_callB (np := 427) G hS hl.1 0 rfl [.ref (eK E 16)] (qJ4_append_15ec4 l E lo2 u d1 k1 f1 bs1 hB1 (cX E 16) (by rw [show (cX E 16).2.2.length = 3 from rfl]; omega)) (fun y hy => by rw [List.mem_singleton.mp hy]; exact tS_const hS.2.2.1 (by decide)) jqJ4_append_15ec4 jselJ4_append_15ec4 ljL_52 ⟨(Nat.le_of_ble_eq_true rfl), (Nat.le_of_ble_eq_true rfl)⟩ ⟨by show _ ≤ 600000; omega, by show _ ≤ 7302250; omega⟩ [] rfl (Nat.le_of_ble_eq_true rfl) dL_law_424 rfl (fun v w2 H locs hp hS => ?_)
    obtain ⟨rfl, d2, k2, f2, rfl, hB2⟩ := hp
    obtain ⟨bs2, hb2⟩ : ∃ z, z = bs1 ++ (cX E 16).2.2 := ⟨_, rfl⟩
    rw [← hb2] at hS hB2
    have hn2 : bs2.length = bs1.length + 3 := by rw [hb2, List.length_append]; rfl
    have ha2 : ∀ c ∈ bs2, c < 128 := by rw [hb2]; intro c hc; rcases List.mem_append.mp hc with h | h; exact ha1 c h; exact (cT_ok 16 (by decide)).2.2.1 c h
    refine r_aload (np := 429) G hl 4 rfl dL_law_427 rfl ?_
    refine r_iload (np := 431) G hl 1 rfl dL_law_429 rfl ?_
    refine l_aald (np := 432) G hS 0 (nm := nm) (f := fr) rfl (by rw [wI_eq (by omega) (by omega)]; omega) (by rw [wI_nat (k := o) (by omega)]; exact hfr o ho5) dL_law_431 rfl ?_
    refine l_callB (np := 435) G hS hl.1 0 rfl [.ref (eK E (9 + o))] (qJ4_append_15ec4 l E lo2 u d2 k2 f2 bs2 hB2 (cX E (9 + o)) (by rw [show (cX E (9 + o)).2.2.length = 2 from hol]; omega)) (fun y hy => by rw [List.mem_singleton.mp hy]; exact tS_const hS.2.2.1 (by omega)) jqJ4_append_15ec4 jselJ4_append_15ec4 ljL_52 ⟨(Nat.le_of_ble_eq_true rfl), (Nat.le_of_ble_eq_true rfl)⟩ ⟨by show _ ≤ 600000; omega, by show _ ≤ 7302250; omega⟩ [] rfl (Nat.le_of_ble_eq_true rfl) dL_law_432 rfl (fun v w2 H locs hp hS => ?_)
    obtain ⟨rfl, d3, k3, f3, rfl, hB3⟩ := hp
    obtain ⟨bs3, hb3⟩ : ∃ z, z = bs2 ++ (cX E (9 + o)).2.2 := ⟨_, rfl⟩
    rw [← hb3] at hS hB3
    have hn3 : bs3.length = bs2.length + 2 := by rw [hb3, List.length_append]; rw [show (cX E (9 + o)).2.2.length = 2 from hol]
    have ha3 : ∀ c ∈ bs3, c < 128 := by rw [hb3]; intro c hc; rcases List.mem_append.mp hc with h | h; exact ha2 c h; exact (cT_ok (9 + o) (by omega)).2.2.1 c h
    refine l_callB (np := 438) G hS hl.1 0 rfl [] (qJ4_toString_0e30d l E lo2 u d3 k3 f3 bs3.length hB3.1 hB3.2.1 hB3.2.2.1) (fun _ h => absurd h (List.not_mem_nil)) jqJ4_toString_0e30d jselJ4_toString_0e30d ljL_68 ⟨(Nat.le_of_ble_eq_true rfl), (Nat.le_of_ble_eq_true rfl)⟩ ⟨by show _ ≤ 600000; omega, by show _ ≤ 7302250; omega⟩ [] rfl (Nat.le_of_ble_eq_true rfl) dL_law_435 rfl (fun v w2 H locs hp hS => ?_)
    obtain ⟨t2, v2, g2, rfl, rfl, hg2⟩ := hp
    have hT2 : tS E ((nm, .inl (eT E 8, 5, .inr (.inr (.inr (.inr fr))))) :: [(t2, .inr (11, [.ref v2, vI 0, vI 0, vI 0])), (v2, .inl (eT E 2, bs3.length, .inl g2))]) s (t2, v2, bs3) := tS_dyn hS.1 hS.2.1 (List.mem_cons_of_mem _ (List.mem_cons_self)) (List.mem_cons_of_mem _ (List.mem_cons_of_mem _ (List.mem_cons_self))) (fun j hj => (hg2 j hj).trans (hB3.2.2.2 j hj)) (by omega) ha3
    have hS := hS.re (tl2 := (nm, .inl (eT E 8, 5, .inr (.inr (.inr (.inr fr))))) :: [(t2, .inr (11, [.ref v2, vI 0, vI 0, vI 0])), (v2, .inl (eT E 2, bs3.length, .inl g2))]) (List.Sublist.cons_cons _ (List.sublist_append_right _ _))
    refine r_astore_n (np := 439) G hl (rfl) [(3, .ref t2), (10, vI (0)), (9, vI ((o : Int))), (8, vI ((k : Int))), (7, .ref (eA E 256)), (6, .ref nm), (5, .ref (eA E 255)), (4, .ref (eA E 254)), (2, .ref (eA E 253)), (1, .ref (eA E 0)), (0, .ref b)] dL_law_438 rfl rfl (by decide) rfl (fun ls hl => ?_)
    refine r_iinc (np := 442) G hl 3 rfl (y := ((k + 1 : Nat) : Int)) (by omega) [(8, vI (((k + 1 : Nat) : Int))), (3, .ref t2), (10, vI (0)), (9, vI ((o : Int))), (7, .ref (eA E 256)), (6, .ref nm), (5, .ref (eA E 255)), (4, .ref (eA E 254)), (2, .ref (eA E 253)), (1, .ref (eA E 0)), (0, .ref b)] dL_law_439 rfl (by decide) rfl (fun ls hl => ?_)
    refine r_goto (np := 337) G dL_law_442 (by decide) ?_
    refine kk _ _ (t2, v2, bs3) H _ ls _ _ ?_ ?_ hS hT2 ?_ ?_ (lv_sub hl [0, 4, 5, 6, 7, 1, 8, 9, 10] rfl)
    · rw [← ho, if_neg hz]
    · show bs3 = _
      rw [hb3, hb2, hb1]
      simp only [List.nil_append, List.append_assoc, cX_15, cX_16, cX_9, tT, ← ho, if_neg hz]
    · omega
    · omega
  ·
    have hz := hc
    refine r_iconst (np := 377) G (1) dL_law_376 rfl ?_
    refine r_goto (np := 381) G dL_law_377 (by decide) ?_
    refine r_istore (np := 383) G hl (rfl) [(10, vI (1)), (9, vI ((o : Int))), (8, vI ((k : Int))), (7, .ref (eA E 256)), (6, .ref nm), (5, .ref (eA E 255)), (4, .ref (eA E 254)), (3, .ref x.1), (2, .ref (eA E 253)), (1, .ref (eA E 0)), (0, .ref b)] dL_law_381 rfl (by decide) rfl (fun ls hl => ?_)
    refine r_aload (np := 385) G hl 3 rfl dL_law_383 rfl ?_
    refine r_iload (np := 387) G hl 1 rfl dL_law_385 rfl ?_
    refine r_dup2 (np := 388) G dL_law_387 rfl rfl rfl ?_
    refine l_iald (np := 389) G hS (i := 256) (n := 5) (by decide) (by decide +kernel) (by rw [wI_eq (by omega) (by omega)]; omega) dL_law_388 rfl ?_
    rw [wI_nat (k := o) (by omega)]
    refine r_iload (np := 391) G hl 0 rfl dL_law_389 rfl ?_
    refine r_if_eq (np := 394) (tgt := 398) G (wI_eq (by omega) (by omega)) dL_law_391 (by decide) rfl (fun hc => False.elim (by omega)) (fun hc => ?_)
    refine r_iconst (np := 395) G (1) dL_law_394 rfl ?_
    refine r_goto (np := 399) G dL_law_395 (by decide) ?_
    refine r_iadd (np := 400) G dL_law_399 rfl ?_
    refine l_iast (np := 401) G hS (i := 256) (n := 5) (by decide) (by decide +kernel) (by rw [wI_eq (by omega) (by omega)]; omega) dL_law_400 rfl (fun H locs hS => ?_)
    rw [wI_nat (k := o) (by omega)] at hS
    refine l_newB (np := 404) G hS ljL_c49 jsbI jsbN inJ4 (by show _ ≤ 600000; omega) (by show _ ≤ 7302250; omega) dL_law_401 rfl (fun u lo2 H hS => ?_)
    refine r_dup (np := 405) G dL_law_404 rfl rfl ?_
    refine l_callI (np := 408) G hS hl.1 [] (qJ4_init_da8c8 l E lo2 u) (fun _ h => absurd h (List.not_mem_nil)) jqJ4_init_da8c8 ljL_51 ⟨(Nat.le_of_ble_eq_true rfl), (Nat.le_of_ble_eq_true rfl)⟩ ⟨by show _ ≤ 600000; omega, by show _ ≤ 7302250; omega⟩ [.ref u] rfl (Nat.le_of_ble_eq_true rfl) dL_law_405 rfl (fun v w2 H locs hp hS => ?_)
    obtain ⟨rfl, d0, rfl⟩ := hp
    have hS : lS E 257 _ _ lo2 (jB E u d0 (([] : List Nat).length : Int) 16 (fun _ => 0)) s H locs := hS
    have hB0 := bK_nil
    have ha0 : ∀ c ∈ ([] : List Nat), c < 128 := fun _ h => absurd h (List.not_mem_nil)
    have hn0 : ([] : List Nat).length = 0 := rfl
    refine r_aload_n (np := 409) G hl 7 rfl dL_law_408 rfl rfl ?_
    refine l_callB (np := 412) G hS hl.1 0 rfl [.ref x.1] (qJ4_append_15ec4 l E lo2 u d0 16 (fun _ => 0) ([] : List Nat) hB0 x (by omega)) (fun y hy => by rw [List.mem_singleton.mp hy]; exact hT) jqJ4_append_15ec4 jselJ4_append_15ec4 ljL_52 ⟨(Nat.le_of_ble_eq_true rfl), (Nat.le_of_ble_eq_true rfl)⟩ ⟨by show _ ≤ 600000; omega, by show _ ≤ 7302250; omega⟩ [] rfl (Nat.le_of_ble_eq_true rfl) dL_law_409 rfl (fun v w2 H locs hp hS => ?_)
    obtain ⟨rfl, d1, k1, f1, rfl, hB1⟩ := hp
    obtain ⟨bs1, hb1⟩ : ∃ z, z = ([] : List Nat) ++ x.2.2 := ⟨_, rfl⟩
    rw [← hb1] at hS hB1
    have hn1 : bs1.length = ([] : List Nat).length + x.2.2.length := by rw [hb1, List.length_append]
    have ha1 : ∀ c ∈ bs1, c < 128 := by rw [hb1]; intro c hc; rcases List.mem_append.mp hc with h | h; exact ha0 c h; exact hxa c h
    refine r_iload (np := 414) G hl 0 rfl dL_law_412 rfl ?_
    refine r_if_eq (np := 417) (tgt := 422) G (wI_eq (by omega) (by omega)) dL_law_414 (by decide) rfl (fun hc => False.elim (by omega)) (fun hc => ?_)
    refine l_ldc (np := 419) G hS 12 (by decide) dL_law_417 rfl ?_
    refine r_goto (np := 424) G dL_law_419 (by decide) ?_
    refine l_callB (np := 427) G hS hl.1 0 rfl [.ref (eK E 15)] (qJ4_append_15ec4 l E lo2 u d1 k1 f1 bs1 hB1 (cX E 15) (by rw [show (cX E 15).2.2.length = 3 from rfl]; omega)) (fun y hy => by rw [List.mem_singleton.mp hy]; exact tS_const hS.2.2.1 (by decide)) jqJ4_append_15ec4 jselJ4_append_15ec4 ljL_52 ⟨(Nat.le_of_ble_eq_true rfl), (Nat.le_of_ble_eq_true rfl)⟩ ⟨by show _ ≤ 600000; omega, by show _ ≤ 7302250; omega⟩ [] rfl (Nat.le_of_ble_eq_true rfl) dL_law_424 rfl (fun v w2 H locs hp hS => ?_)
    obtain ⟨rfl, d2, k2, f2, rfl, hB2⟩ := hp
    obtain ⟨bs2, hb2⟩ : ∃ z, z = bs1 ++ (cX E 15).2.2 := ⟨_, rfl⟩
    rw [← hb2] at hS hB2
    have hn2 : bs2.length = bs1.length + 3 := by rw [hb2, List.length_append]; rfl
    have ha2 : ∀ c ∈ bs2, c < 128 := by rw [hb2]; intro c hc; rcases List.mem_append.mp hc with h | h; exact ha1 c h; exact (cT_ok 15 (by decide)).2.2.1 c h
    refine r_aload (np := 429) G hl 4 rfl dL_law_427 rfl ?_
    refine r_iload (np := 431) G hl 1 rfl dL_law_429 rfl ?_
    refine l_aald (np := 432) G hS 0 (nm := nm) (f := fr) rfl (by rw [wI_eq (by omega) (by omega)]; omega) (by rw [wI_nat (k := o) (by omega)]; exact hfr o ho5) dL_law_431 rfl ?_
    refine l_callB (np := 435) G hS hl.1 0 rfl [.ref (eK E (9 + o))] (qJ4_append_15ec4 l E lo2 u d2 k2 f2 bs2 hB2 (cX E (9 + o)) (by rw [show (cX E (9 + o)).2.2.length = 2 from hol]; omega)) (fun y hy => by rw [List.mem_singleton.mp hy]; exact tS_const hS.2.2.1 (by omega)) jqJ4_append_15ec4 jselJ4_append_15ec4 ljL_52 ⟨(Nat.le_of_ble_eq_true rfl), (Nat.le_of_ble_eq_true rfl)⟩ ⟨by show _ ≤ 600000; omega, by show _ ≤ 7302250; omega⟩ [] rfl (Nat.le_of_ble_eq_true rfl) dL_law_432 rfl (fun v w2 H locs hp hS => ?_)
    obtain ⟨rfl, d3, k3, f3, rfl, hB3⟩ := hp
    obtain ⟨bs3, hb3⟩ : ∃ z, z = bs2 ++ (cX E (9 + o)).2.2 := ⟨_, rfl⟩
    rw [← hb3] at hS hB3
    have hn3 : bs3.length = bs2.length + 2 := by rw [hb3, List.length_append]; rw [show (cX E (9 + o)).2.2.length = 2 from hol]
    have ha3 : ∀ c ∈ bs3, c < 128 := by rw [hb3]; intro c hc; rcases List.mem_append.mp hc with h | h; exact ha2 c h; exact (cT_ok (9 + o) (by omega)).2.2.1 c h
    refine l_callB (np := 438) G hS hl.1 0 rfl [] (qJ4_toString_0e30d l E lo2 u d3 k3 f3 bs3.length hB3.1 hB3.2.1 hB3.2.2.1) (fun _ h => absurd h (List.not_mem_nil)) jqJ4_toString_0e30d jselJ4_toString_0e30d ljL_68 ⟨(Nat.le_of_ble_eq_true rfl), (Nat.le_of_ble_eq_true rfl)⟩ ⟨by show _ ≤ 600000; omega, by show _ ≤ 7302250; omega⟩ [] rfl (Nat.le_of_ble_eq_true rfl) dL_law_435 rfl (fun v w2 H locs hp hS => ?_)
    obtain ⟨t2, v2, g2, rfl, rfl, hg2⟩ := hp
    have hT2 : tS E ((nm, .inl (eT E 8, 5, .inr (.inr (.inr (.inr fr))))) :: [(t2, .inr (11, [.ref v2, vI 0, vI 0, vI 0])), (v2, .inl (eT E 2, bs3.length, .inl g2))]) s (t2, v2, bs3) := tS_dyn hS.1 hS.2.1 (List.mem_cons_of_mem _ (List.mem_cons_self)) (List.mem_cons_of_mem _ (List.mem_cons_of_mem _ (List.mem_cons_self))) (fun j hj => (hg2 j hj).trans (hB3.2.2.2 j hj)) (by omega) ha3
    have hS := hS.re (tl2 := (nm, .inl (eT E 8, 5, .inr (.inr (.inr (.inr fr))))) :: [(t2, .inr (11, [.ref v2, vI 0, vI 0, vI 0])), (v2, .inl (eT E 2, bs3.length, .inl g2))]) (List.Sublist.cons_cons _ (List.sublist_append_right _ _))
    refine r_astore_n (np := 439) G hl (rfl) [(3, .ref t2), (10, vI (1)), (9, vI ((o : Int))), (8, vI ((k : Int))), (7, .ref (eA E 256)), (6, .ref nm), (5, .ref (eA E 255)), (4, .ref (eA E 254)), (2, .ref (eA E 253)), (1, .ref (eA E 0)), (0, .ref b)] dL_law_438 rfl rfl (by decide) rfl (fun ls hl => ?_)
    refine r_iinc (np := 442) G hl 3 rfl (y := ((k + 1 : Nat) : Int)) (by omega) [(8, vI (((k + 1 : Nat) : Int))), (3, .ref t2), (10, vI (1)), (9, vI ((o : Int))), (7, .ref (eA E 256)), (6, .ref nm), (5, .ref (eA E 255)), (4, .ref (eA E 254)), (2, .ref (eA E 253)), (1, .ref (eA E 0)), (0, .ref b)] dL_law_439 rfl (by decide) rfl (fun ls hl => ?_)
    refine r_goto (np := 337) G dL_law_442 (by decide) ?_
    refine kk _ _ (t2, v2, bs3) H _ ls _ _ ?_ ?_ hS hT2 ?_ ?_ (lv_sub hl [0, 4, 5, 6, 7, 1, 8, 9, 10] rfl)
    · rw [← ho, if_pos hz]
    · show bs3 = _
      rw [hb3, hb2, hb1]
      simp only [List.nil_append, List.append_assoc, cX_15, cX_16, cX_9, tT, ← ho, if_pos hz]
    · omega
    · omega
