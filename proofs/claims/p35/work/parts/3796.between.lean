/-! THE LAW'S WALK between its loops (laid by start.py) -/
theorem eA_Z {E : mE} {z i : Nat} (h : i ≠ 256) : eA (eZ E z) i = eA E i := by show (if i = 256 then z else eA E i) = _; rw [if_neg h]
theorem lS.perm {E : mE} {N : Nat} {σ : mSt} {tl tl2 : va_W} {lo : Nat} {s : State} {H : Heap} {locs : List Loc} (h : lS E N σ tl lo [] s H locs) (hp : List.Perm tl2 tl) : lS E N σ tl2 H.size [] s H locs := by
  obtain ⟨h1, h2, h3, h4, h5, h6, h7, h8, h9, h10⟩ := h
  rw [List.append_nil] at h4 h5
  have hp2 : List.Perm (wl E N σ ++ tl2) (wl E N σ ++ tl) := hp.append_left _
  have h5' := vaD_pair.mp h5
  exact lS.mk h1 h2 h3 (vaP_mem.mpr (fun q hq => vaP_mem.mp h4 q (hp2.subset hq))) (vaD_pair.mpr ⟨(hp2.pairwise_iff (fun {a b} hab => Ne.symm hab)).mpr h5'.1, fun q hq => h5'.2 q (hp2.subset hq)⟩) h6
theorem tS.more {E : mE} {tl tl2 : va_W} {s : State} {x : sX} (h : tS E tl s x) (hs : ∀ q ∈ tl, q ∈ tl2) : tS E tl2 s x := fun H lo hP hk ht hlo => h H lo (vaP_mem.mpr (fun q hq => vaP_mem.mp hP q (hs q hq))) hk (fun q hq => ht q (hs q hq)) hlo
theorem ljL_98 : Cond.methodLink RL 98 yL_feeds ∈ mTs := mTs_in 452 (by decide +kernel) (by decide +kernel)
theorem jbL_feeds : mY yL_feeds cL_feeds 6 (some .int) 2 := ⟨mTs_in 454 (by decide +kernel) (by decide +kernel), mTs_in 29 (by decide +kernel) (by decide +kernel), ⟨by decide, by decide⟩, by decide +kernel⟩
theorem jsL_feeds : mYS yL_feeds cL_feeds 6 (some .int) 2 := ⟨jbL_feeds, mTs_in 453 (by decide +kernel) (by decide +kernel)⟩
set_option maxRecDepth 100000 in
set_option maxHeartbeats 4000000 in
theorem it3x (l : Launch) (E : mE) {p : Program} {e : Env} {s : State} {m : MethodId} {below : List Frame} {meth : Method} {c : Code} {b L : Nat} {xs : Nat → Int32} (hL : L ≤ 260) (G : CallFix p m c code 12 s #[Value.ref b] mTs RL) (hX : scX b L xs s) {k : Nat} (hk4 : k ≤ 4) (hk3 : ¬ ((k : Int) < 1 + someV xs L 30 4)) {σ : mSt} {tl : va_W} {lo : Nat} {cells slots : Nat} {x3 : Nat} {nm : Nat} {H : Heap} {locs : List Loc} {ls : Array Slot} (hcs : cells ≤ 1000 ∧ slots ≤ 500000) (hS : lS E 257 σ tl lo [] s H locs) (hl : lv_has ls 12 [(8, vI ((k : Int))), (7, .ref (eA E 256)), (6, .ref nm), (5, .ref (eA E 255)), (4, .ref (eA E 254)), (3, .ref x3), (2, .ref (eA E 253)), (1, .ref (eA E 0)), (0, .ref b)]) (kk : mGoP l p e s m b below meth c cells slots H locs (F0 m 445 ls [])) :
  mGoP l p e s m b below meth c cells slots H locs (F0 m 337 ls []) := by
  have hr30 := someV_rng (xs := xs) (L := L) (k := 30) (n := 4) (by decide)
  refine r_iload (np := 339) G hl 0 rfl dL_law_337 rfl ?_
  refine r_iconst (np := 340) G (1) dL_law_339 rfl ?_
  refine r_aload_n (np := 341) G hl 8 rfl dL_law_340 rfl rfl ?_
  refine r_bipush (np := 343) G (30) dL_law_341 (by decide) rfl ?_
  refine r_iconst (np := 344) G (4) dL_law_343 rfl ?_
  refine c_call (A := aL s) (np := 347) G hX hS.2.2.2.2.2.1 hl.1 [.ref b, vI ((30 : Nat) : Int), vI ((4 : Nat) : Int)] (cl_some l b L xs hL (30) 4 (by omega) (by decide)) jsL_some ljL_35 ⟨(Nat.le_of_ble_eq_true rfl), (Nat.le_of_ble_eq_true rfl)⟩ ⟨by show _ ≤ 600000; omega, by show _ ≤ 7302250; omega⟩ [vI (1), vI ((k : Int))] rfl (Nat.le_of_ble_eq_true rfl) dL_law_344 rfl ?_ (Nat.not_le.mpr hX.2)
  refine r_iadd (np := 348) G dL_law_347 rfl ?_
  refine r_icmp_ge (np := 351) (tgt := 445) G (wI_eq (by omega) (by omega)) (wI_eq (by omega) (by omega)) dL_law_348 (by decide) rfl (fun hc => ?_) (fun hc => False.elim (by omega))
  exact kk
set_option maxRecDepth 100000 in
set_option maxHeartbeats 4000000 in
theorem it2x (l : Launch) (E : mE) {p : Program} {e : Env} {s : State} {m : MethodId} {below : List Frame} {meth : Method} {c : Code} {b L : Nat} {xs : Nat → Int32} (hL : L ≤ 260) (G : CallFix p m c code 12 s #[Value.ref b] mTs RL) (hX : scX b L xs s)  {σ : mSt} {tl : va_W} {lo : Nat} {cells slots : Nat} {x3 : Nat}  {H : Heap} {locs : List Loc} {ls : Array Slot} (hcs : cells ≤ 1000 ∧ slots ≤ 500000) (hS : lS E 256 σ tl lo [] s H locs) (hl : lv_has ls 12 [(6, vI (2)), (5, .ref (eA E 255)), (4, .ref (eA E 254)), (3, .ref x3), (2, .ref (eA E 253)), (1, .ref (eA E 0)), (0, .ref b)]) (kk : mGoP l p e s m b below meth c cells slots H locs (F0 m 278 ls [])) :
  mGoP l p e s m b below meth c cells slots H locs (F0 m 166 ls []) := by
  refine r_iload (np := 168) G hl 0 rfl dL_law_166 rfl ?_
  refine r_iconst (np := 169) G (2) dL_law_168 rfl ?_
  refine r_icmp_ge (np := 172) (tgt := 278) G (wI_eq (by omega) (by omega)) (wI_eq (by omega) (by omega)) dL_law_169 (by decide) rfl (fun hc => ?_) (fun hc => False.elim (by omega))
  exact kk
set_option maxRecDepth 100000 in
set_option maxHeartbeats 4000000 in
theorem it1x (l : Launch) (E : mE) {p : Program} {e : Env} {s : State} {m : MethodId} {below : List Frame} {meth : Method} {c : Code} {b L : Nat} {xs : Nat → Int32} (hL : L ≤ 260) (G : CallFix p m c code 12 s #[Value.ref b] mTs RL) (hX : scX b L xs s) {σ : mSt} {tl : va_W} {lo : Nat} {cells slots : Nat} {x3 : Nat} {H : Heap} {locs : List Loc} {ls : Array Slot} (hS : lS E 256 σ tl lo [] s H locs) (hl : lv_has ls 12 [(6, vI (3)), (5, .ref (eA E 255)), (4, .ref (eA E 254)), (3, .ref x3), (2, .ref (eA E 253)), (1, .ref (eA E 0)), (0, .ref b)]) (kk : ∀ ls2 : Array Slot, lv_has ls2 12 [(6, vI (0)), (5, .ref (eA E 255)), (4, .ref (eA E 254)), (3, .ref x3), (2, .ref (eA E 253)), (1, .ref (eA E 0)), (0, .ref b)] → mGoP l p e s m b below meth c cells slots H locs (F0 m 166 ls2 [])) :
  mGoP l p e s m b below meth c cells slots H locs (F0 m 59 ls []) := by
  refine r_iload (np := 61) G hl 0 rfl dL_law_59 rfl ?_
  refine r_iconst (np := 62) G (3) dL_law_61 rfl ?_
  refine r_icmp_ge (np := 65) (tgt := 163) G (wI_eq (by omega) (by omega)) (wI_eq (by omega) (by omega)) dL_law_62 (by decide) rfl (fun hc => ?_) (fun hc => False.elim (by omega))
  refine r_iconst (np := 164) G (0) dL_law_163 rfl ?_
  refine r_istore (np := 166) G hl (rfl) [(6, vI (0)), (5, .ref (eA E 255)), (4, .ref (eA E 254)), (3, .ref x3), (2, .ref (eA E 253)), (1, .ref (eA E 0)), (0, .ref b)] dL_law_164 rfl (by decide) rfl (fun ls hl => ?_)
  exact kk ls (lv_sub hl [0, 1, 2, 3, 4, 5, 6] rfl)
set_option maxRecDepth 100000 in
set_option maxHeartbeats 4000000 in
theorem st278 (l : Launch) (E : mE) {p : Program} {e : Env} {s : State} {m : MethodId} {below : List Frame} {meth : Method} {c : Code} {b L : Nat} {xs : Nat → Int32} (hL : L ≤ 260) (G : CallFix p m c code 12 s #[Value.ref b] mTs RL) (hX : scX b L xs s) {σ : mSt} (hZ : ∀ i k, i < 257 → σ i k ≠ 256) {tl : va_W} {lo : Nat} {x : sX} {cells slots : Nat} {H : Heap} {locs : List Loc} {ls : Array Slot} (hcs : cells ≤ 1000 ∧ slots ≤ 500000) (hS : lS E 256 σ tl lo [] s H locs) (hl : lv_has ls 12 [(5, .ref (eA E 255)), (4, .ref (eA E 254)), (3, .ref x.1), (2, .ref (eA E 253)), (1, .ref (eA E 0)), (0, .ref b)])
  (kk : ∀ (z nm : Nat) (fr : Nat → Option Nat) (H2 : Heap) (locs2 : List Loc) (ls2 : Array Slot) (c2 s2 : Nat), lS (eZ E z) 257 (upR σ 256) ((nm, .inl (eT E 8, 5, .inr (.inr (.inr (.inr fr))))) :: tl) H2.size [] s H2 locs2 → (∀ o, o < 5 → fr o = some (eK E (9 + o))) → c2 ≤ cells + 2 → s2 ≤ slots + 10 → lv_has ls2 12 [(6, .ref nm), (5, .ref (eA (eZ E z) 255)), (4, .ref (eA (eZ E z) 254)), (3, .ref x.1), (2, .ref (eA (eZ E z) 253)), (1, .ref (eA (eZ E z) 0)), (0, .ref b)] → mGoP l p e s m b below meth c c2 s2 H2 locs2 (F0 m 312 ls2 [.ref z])) :
  mGoP l p e s m b below meth c cells slots H locs (F0 m 278 ls []) := by
  refine r_iconst (np := 279) G (5) dL_law_278 rfl ?_
  refine l_newS (np := 282) G hS (mTs_in 1018 (by decide +kernel) (by decide +kernel)) (mTs_in 1019 (by decide +kernel) (by decide +kernel)) (by show _ ≤ 600000; omega) (by show _ ≤ 7302250; omega) dL_law_279 rfl (fun nm H hS => ?_)
  have hS := hS.perm (tl2 := (nm, .inl (eT E 8, 5, .inr (.inr (.inr (.inr (fun _ => none)))))) :: tl) (List.perm_append_singleton _ _).symm
  refine r_dup (np := 283) G dL_law_282 rfl rfl ?_
  refine r_iconst (np := 284) G (0) dL_law_283 rfl ?_
  refine l_ldc (np := 286) G hS 6 (by decide) dL_law_284 rfl ?_
  refine l_aast (np := 287) G hS 0 rfl (i := 9) (by decide) (y := 0) (by decide) dL_law_286 rfl (fun H locs hS => ?_)
  refine r_dup (np := 288) G dL_law_287 rfl rfl ?_
  refine r_iconst (np := 289) G (1) dL_law_288 rfl ?_
  refine l_ldc (np := 291) G hS 7 (by decide) dL_law_289 rfl ?_
  refine l_aast (np := 292) G hS 0 rfl (i := 10) (by decide) (y := 1) (by decide) dL_law_291 rfl (fun H locs hS => ?_)
  refine r_dup (np := 293) G dL_law_292 rfl rfl ?_
  refine r_iconst (np := 294) G (2) dL_law_293 rfl ?_
  refine l_ldc (np := 296) G hS 8 (by decide) dL_law_294 rfl ?_
  refine l_aast (np := 297) G hS 0 rfl (i := 11) (by decide) (y := 2) (by decide) dL_law_296 rfl (fun H locs hS => ?_)
  refine r_dup (np := 298) G dL_law_297 rfl rfl ?_
  refine r_iconst (np := 299) G (3) dL_law_298 rfl ?_
  refine l_ldc (np := 301) G hS 9 (by decide) dL_law_299 rfl ?_
  refine l_aast (np := 302) G hS 0 rfl (i := 12) (by decide) (y := 3) (by decide) dL_law_301 rfl (fun H locs hS => ?_)
  refine r_dup (np := 303) G dL_law_302 rfl rfl ?_
  refine r_iconst (np := 304) G (4) dL_law_303 rfl ?_
  refine l_ldc (np := 306) G hS 10 (by decide) dL_law_304 rfl ?_
  refine l_aast (np := 307) G hS 0 rfl (i := 13) (by decide) (y := 4) (by decide) dL_law_306 rfl (fun H locs hS => ?_)
  refine r_astore (np := 309) G hl (rfl) [(6, .ref nm), (5, .ref (eA E 255)), (4, .ref (eA E 254)), (3, .ref x.1), (2, .ref (eA E 253)), (1, .ref (eA E 0)), (0, .ref b)] dL_law_307 rfl (by decide) rfl (fun ls hl => ?_)
  refine r_iconst (np := 310) G (5) dL_law_309 rfl ?_
  refine l_newI (np := 312) G hS (by show _ ≤ 600000; omega) (by show _ ≤ 7302250; omega) dL_law_310 rfl (fun z H hS => ?_)
  have hS := hS.conv (z := z) (σ := σ) (tl := (nm, .inl (eT E 8, 5, .inr (.inr (.inr (.inr (va_up (va_up (va_up (va_up (va_up (fun _ => none) (wI 0).toNat (some (eK E 9))) (wI 1).toNat (some (eK E 10))) (wI 2).toNat (some (eK E 11))) (wI 3).toNat (some (eK E 12))) (wI 4).toNat (some (eK E 13)))))))) :: tl) hZ
  refine kk z nm _ H _ ls _ _ hS (fun o ho => ?_) ?_ ?_ ?_
  · rcases (show o = 0 ∨ o = 1 ∨ o = 2 ∨ o = 3 ∨ o = 4 by omega) with rfl | rfl | rfl | rfl | rfl <;> rfl
  · omega
  · omega
  · rw [eA_Z (by decide), eA_Z (by decide), eA_Z (by decide), eA_Z (by decide)]
    exact lv_sub hl [0, 1, 2, 3, 4, 5, 6] rfl
set_option maxRecDepth 100000 in
set_option maxHeartbeats 4000000 in
theorem st312 (l : Launch) (E : mE) {p : Program} {e : Env} {s : State} {m : MethodId} {below : List Frame} {meth : Method} {c : Code} {b L : Nat} {xs : Nat → Int32} (hL : L ≤ 260) (G : CallFix p m c code 12 s #[Value.ref b] mTs RL) (hX : scX b L xs s) {σ : mSt} {nm : Nat} {fr : Nat → Option Nat} {txt : va_W} {lo : Nat} {x : sX} {cells slots : Nat} {H : Heap} {locs : List Loc} {ls : Array Slot} (hcs : cells ≤ 1000 ∧ slots ≤ 500000) (hS : lS E 257 σ ((nm, .inl (eT E 8, 5, .inr (.inr (.inr (.inr fr))))) :: txt) lo [] s H locs) (hT : tS E ((nm, .inl (eT E 8, 5, .inr (.inr (.inr (.inr fr))))) :: txt) s x) (hxl : x.2.2.length ≤ 250) (hxa : ∀ c ∈ x.2.2, c < 128) (hl : lv_has ls 12 [(6, .ref nm), (5, .ref (eA E 255)), (4, .ref (eA E 254)), (3, .ref x.1), (2, .ref (eA E 253)), (1, .ref (eA E 0)), (0, .ref b)])
  (kk : ∀ (txt2 : va_W) (x2 : sX) (H2 : Heap) (locs2 : List Loc) (ls2 : Array Slot) (c2 s2 : Nat), x2.2.2 = x.2.2 ++ [115, 117, 109, 32, 115, 97] → lS E 257 σ ((nm, .inl (eT E 8, 5, .inr (.inr (.inr (.inr fr))))) :: txt2) H2.size [] s H2 locs2 → tS E ((nm, .inl (eT E 8, 5, .inr (.inr (.inr (.inr fr))))) :: txt2) s x2 → c2 ≤ cells + 10 → s2 ≤ slots + 6030 → lv_has ls2 12 [(8, vI (0)), (7, .ref (eA E 256)), (6, .ref nm), (5, .ref (eA E 255)), (4, .ref (eA E 254)), (3, .ref x2.1), (2, .ref (eA E 253)), (1, .ref (eA E 0)), (0, .ref b)] → mGoP l p e s m b below meth c c2 s2 H2 locs2 (F0 m 337 ls2 [])) :
  mGoP l p e s m b below meth c cells slots H locs (F0 m 312 ls [.ref (eA E 256)]) := by
  refine r_astore (np := 314) G hl (rfl) [(7, .ref (eA E 256)), (6, .ref nm), (5, .ref (eA E 255)), (4, .ref (eA E 254)), (3, .ref x.1), (2, .ref (eA E 253)), (1, .ref (eA E 0)), (0, .ref b)] dL_law_312 rfl (by decide) rfl (fun ls hl => ?_)
  refine l_newB (np := 317) G hS ljL_c49 jsbI jsbN inJ4 (by show _ ≤ 600000; omega) (by show _ ≤ 7302250; omega) dL_law_314 rfl (fun u lo2 H hS => ?_)
  refine r_dup (np := 318) G dL_law_317 rfl rfl ?_
  refine l_callI (np := 321) G hS hl.1 [] (qJ4_init_da8c8 l E lo2 u) (fun _ h => absurd h (List.not_mem_nil)) jqJ4_init_da8c8 ljL_51 ⟨(Nat.le_of_ble_eq_true rfl), (Nat.le_of_ble_eq_true rfl)⟩ ⟨by show _ ≤ 600000; omega, by show _ ≤ 7302250; omega⟩ [.ref u] rfl (Nat.le_of_ble_eq_true rfl) dL_law_318 rfl (fun v w2 H locs hp hS => ?_)
  obtain ⟨rfl, d0, rfl⟩ := hp
  have hS : lS E 257 _ _ lo2 (jB E u d0 (([] : List Nat).length : Int) 16 (fun _ => 0)) s H locs := hS
  have hB0 := bK_nil
  have ha0 : ∀ c ∈ ([] : List Nat), c < 128 := fun _ h => absurd h (List.not_mem_nil)
  have hn0 : ([] : List Nat).length = 0 := rfl
  refine r_aload_n (np := 322) G hl 4 rfl dL_law_321 rfl rfl ?_
  refine l_callB (np := 325) G hS hl.1 0 rfl [.ref x.1] (qJ4_append_15ec4 l E lo2 u d0 16 (fun _ => 0) ([] : List Nat) hB0 x (by omega)) (fun y hy => by rw [List.mem_singleton.mp hy]; exact hT) jqJ4_append_15ec4 jselJ4_append_15ec4 ljL_52 ⟨(Nat.le_of_ble_eq_true rfl), (Nat.le_of_ble_eq_true rfl)⟩ ⟨by show _ ≤ 600000; omega, by show _ ≤ 7302250; omega⟩ [] rfl (Nat.le_of_ble_eq_true rfl) dL_law_322 rfl (fun v w2 H locs hp hS => ?_)
  obtain ⟨rfl, d1, k1, f1, rfl, hB1⟩ := hp
  obtain ⟨bs1, hb1⟩ : ∃ z, z = ([] : List Nat) ++ x.2.2 := ⟨_, rfl⟩
  rw [← hb1] at hS hB1
  have hn1 : bs1.length = ([] : List Nat).length + x.2.2.length := by rw [hb1, List.length_append]
  have ha1 : ∀ c ∈ bs1, c < 128 := by rw [hb1]; intro c hc; rcases List.mem_append.mp hc with h | h; exact ha0 c h; exact hxa c h
  refine l_ldc (np := 327) G hS 11 (by decide) dL_law_325 rfl ?_
  refine l_callB (np := 330) G hS hl.1 0 rfl [.ref (eK E 14)] (qJ4_append_15ec4 l E lo2 u d1 k1 f1 bs1 hB1 (cX E 14) (by rw [show (cX E 14).2.2.length = 6 from rfl]; omega)) (fun y hy => by rw [List.mem_singleton.mp hy]; exact tS_const hS.2.2.1 (by decide)) jqJ4_append_15ec4 jselJ4_append_15ec4 ljL_52 ⟨(Nat.le_of_ble_eq_true rfl), (Nat.le_of_ble_eq_true rfl)⟩ ⟨by show _ ≤ 600000; omega, by show _ ≤ 7302250; omega⟩ [] rfl (Nat.le_of_ble_eq_true rfl) dL_law_327 rfl (fun v w2 H locs hp hS => ?_)
  obtain ⟨rfl, d2, k2, f2, rfl, hB2⟩ := hp
  obtain ⟨bs2, hb2⟩ : ∃ z, z = bs1 ++ (cX E 14).2.2 := ⟨_, rfl⟩
  rw [← hb2] at hS hB2
  have hn2 : bs2.length = bs1.length + 6 := by rw [hb2, List.length_append]; rfl
  have ha2 : ∀ c ∈ bs2, c < 128 := by rw [hb2]; intro c hc; rcases List.mem_append.mp hc with h | h; exact ha1 c h; exact (cT_ok 14 (by decide)).2.2.1 c h
  refine l_callB (np := 333) G hS hl.1 0 rfl [] (qJ4_toString_0e30d l E lo2 u d2 k2 f2 bs2.length hB2.1 hB2.2.1 hB2.2.2.1) (fun _ h => absurd h (List.not_mem_nil)) jqJ4_toString_0e30d jselJ4_toString_0e30d ljL_68 ⟨(Nat.le_of_ble_eq_true rfl), (Nat.le_of_ble_eq_true rfl)⟩ ⟨by show _ ≤ 600000; omega, by show _ ≤ 7302250; omega⟩ [] rfl (Nat.le_of_ble_eq_true rfl) dL_law_330 rfl (fun v w2 H locs hp hS => ?_)
  obtain ⟨t2, v2, g2, rfl, rfl, hg2⟩ := hp
  have hT2 : tS E ((nm, .inl (eT E 8, 5, .inr (.inr (.inr (.inr fr))))) :: [(t2, .inr (11, [.ref v2, vI 0, vI 0, vI 0])), (v2, .inl (eT E 2, bs2.length, .inl g2))]) s (t2, v2, bs2) := tS_dyn hS.1 hS.2.1 (List.mem_cons_of_mem _ (List.mem_cons_self)) (List.mem_cons_of_mem _ (List.mem_cons_of_mem _ (List.mem_cons_self))) (fun j hj => (hg2 j hj).trans (hB2.2.2.2 j hj)) (by omega) ha2
  have hS := hS.re (tl2 := (nm, .inl (eT E 8, 5, .inr (.inr (.inr (.inr fr))))) :: [(t2, .inr (11, [.ref v2, vI 0, vI 0, vI 0])), (v2, .inl (eT E 2, bs2.length, .inl g2))]) (List.Sublist.cons_cons _ (List.sublist_append_right _ _))
  refine r_astore_n (np := 334) G hl (rfl) [(3, .ref t2), (7, .ref (eA E 256)), (6, .ref nm), (5, .ref (eA E 255)), (4, .ref (eA E 254)), (2, .ref (eA E 253)), (1, .ref (eA E 0)), (0, .ref b)] dL_law_333 rfl rfl (by decide) rfl (fun ls hl => ?_)
  refine r_iconst (np := 335) G (0) dL_law_334 rfl ?_
  refine r_istore (np := 337) G hl (rfl) [(8, vI (0)), (3, .ref t2), (7, .ref (eA E 256)), (6, .ref nm), (5, .ref (eA E 255)), (4, .ref (eA E 254)), (2, .ref (eA E 253)), (1, .ref (eA E 0)), (0, .ref b)] dL_law_335 rfl (by decide) rfl (fun ls hl => ?_)
  refine kk _ (t2, v2, bs2) H _ ls _ _ ?_ hS hT2 ?_ ?_ (lv_sub hl [0, 2, 3, 4, 5, 1, 6, 7, 8] rfl)
  · show bs2 = _
    rw [hb2, hb1]
    rfl
  · omega
  · omega
set_option maxRecDepth 100000 in
set_option maxHeartbeats 4000000 in
theorem st445 (l : Launch) (E : mE) {p : Program} {e : Env} {s : State} {m : MethodId} {below : List Frame} {meth : Method} {c : Code} {b L : Nat} {xs : Nat → Int32} (hL : L ≤ 260) (G : CallFix p m c code 12 s #[Value.ref b] mTs RL) (hX : scX b L xs s) (hr : meth.sig.returnType = ret) (hk : meth.locks = false) {σ σ2 : mSt} {tl : va_W} {lo : Nat} {x : sX} {cells slots : Nat} {H : Heap} {locs : List Loc} {ls : Array Slot} (hcs : cells ≤ 1000 ∧ slots ≤ 500000) (hS : lS E 257 σ tl lo [] s H locs) (hT : tS E tl s x) (hxl : x.2.2.length ≤ 250) (hxa : ∀ c ∈ x.2.2, c < 128) (hl : lv_has ls 12 [(7, .ref (eA E 256)), (5, .ref (eA E 255)), (4, .ref (eA E 254)), (3, .ref x.1), (1, .ref (eA E 0))]) (hc0 : mX11_classes 0 σ = some (0, σ)) (hi0 : mX11_index 0 0 σ = some (-1, σ)) (hf : fdM (x.2.2 ++ [59]) 20 0 σ = some (6, σ2)) (hl1 : mX11_local 0 0 4 σ2 = some (-1, σ2)) (hl2 : mX11_local 0 6 2 σ2 = some (-1, σ2)) (out : Int × mSt) (hout : out.1 = 1) (htl : mTail 0 254 255 256 σ2 = some out) :
  mGoP l p e s m b below meth c cells slots H locs (F0 m 445 ls []) := by
  refine r_aload_n (np := 446) G hl 4 rfl dL_law_445 rfl rfl ?_
  refine l_callM (np := 449) G hS hl.1 [] (qX11_classes l E _ 0  _ hc0) myX11_classes (by decide) (gX11_classes hc0) rfl (by decide) lkL_92 ⟨Nat.le_of_ble_eq_true rfl, Nat.le_of_ble_eq_true rfl⟩ ⟨by show _ ≤ 600000; omega, by show _ ≤ 7302250; omega⟩ [] rfl (Nat.le_of_ble_eq_true rfl) dL_law_446 rfl (fun H locs hS => ?_)
  refine r_if_ne (np := 452) (tgt := 510) G (wI_eq (by omega) (by omega)) dL_law_449 (by decide) rfl (fun hc => False.elim (by omega)) (fun hc => ?_)
  refine r_aload_n (np := 453) G hl 4 rfl dL_law_452 rfl rfl ?_
  refine r_iconst (np := 454) G (0) dL_law_453 rfl ?_
  refine l_callM (np := 457) G hS hl.1 [vI 0] (qX11_index l E _ 0 (0) _ hi0) myX11_index (by decide) (gX11_index hi0) rfl (by decide) lkL_95 ⟨Nat.le_of_ble_eq_true rfl, Nat.le_of_ble_eq_true rfl⟩ ⟨by show _ ≤ 600000; omega, by show _ ≤ 7302250; omega⟩ [] rfl (Nat.le_of_ble_eq_true rfl) dL_law_454 rfl (fun H locs hS => ?_)
  refine r_iconst (np := 458) G (-1) dL_law_457 rfl ?_
  refine r_icmp_ne (np := 461) (tgt := 510) G (wI_eq (by omega) (by omega)) (wI_eq (by omega) (by omega)) dL_law_458 (by decide) rfl (fun hc => False.elim (by omega)) (fun hc => ?_)
  refine r_aload_n (np := 462) G hl 4 rfl dL_law_461 rfl rfl ?_
  refine l_newB (np := 465) G hS ljL_c49 jsbI jsbN inJ4 (by show _ ≤ 600000; omega) (by show _ ≤ 7302250; omega) dL_law_462 rfl (fun u lo2 H hS => ?_)
  refine r_dup (np := 466) G dL_law_465 rfl rfl ?_
  refine l_callI (np := 469) G hS hl.1 [] (qJ4_init_da8c8 l E lo2 u) (fun _ h => absurd h (List.not_mem_nil)) jqJ4_init_da8c8 ljL_51 ⟨(Nat.le_of_ble_eq_true rfl), (Nat.le_of_ble_eq_true rfl)⟩ ⟨by show _ ≤ 600000; omega, by show _ ≤ 7302250; omega⟩ [.ref u, .ref (eA E 0)] rfl (Nat.le_of_ble_eq_true rfl) dL_law_466 rfl (fun v w2 H locs hp hS => ?_)
  obtain ⟨rfl, d0, rfl⟩ := hp
  have hS : lS E 257 _ _ lo2 (jB E u d0 (([] : List Nat).length : Int) 16 (fun _ => 0)) s H locs := hS
  have hB0 := bK_nil
  have ha0 : ∀ c ∈ ([] : List Nat), c < 128 := fun _ h => absurd h (List.not_mem_nil)
  have hn0 : ([] : List Nat).length = 0 := rfl
  refine r_aload_n (np := 470) G hl 3 rfl dL_law_469 rfl rfl ?_
  refine l_callB (np := 473) G hS hl.1 0 rfl [.ref x.1] (qJ4_append_15ec4 l E lo2 u d0 16 (fun _ => 0) ([] : List Nat) hB0 x (by omega)) (fun y hy => by rw [List.mem_singleton.mp hy]; exact hT) jqJ4_append_15ec4 jselJ4_append_15ec4 ljL_52 ⟨(Nat.le_of_ble_eq_true rfl), (Nat.le_of_ble_eq_true rfl)⟩ ⟨by show _ ≤ 600000; omega, by show _ ≤ 7302250; omega⟩ [.ref (eA E 0)] rfl (Nat.le_of_ble_eq_true rfl) dL_law_470 rfl (fun v w2 H locs hp hS => ?_)
  obtain ⟨rfl, d1, k1, f1, rfl, hB1⟩ := hp
  obtain ⟨bs1, hb1⟩ : ∃ z, z = ([] : List Nat) ++ x.2.2 := ⟨_, rfl⟩
  rw [← hb1] at hS hB1
  have hn1 : bs1.length = ([] : List Nat).length + x.2.2.length := by rw [hb1, List.length_append]
  have ha1 : ∀ c ∈ bs1, c < 128 := by rw [hb1]; intro c hc; rcases List.mem_append.mp hc with h | h; exact ha0 c h; exact hxa c h
  refine l_ldc (np := 475) G hS 3 (by decide) dL_law_473 rfl ?_
  refine l_callB (np := 478) G hS hl.1 0 rfl [.ref (eK E 6)] (qJ4_append_15ec4 l E lo2 u d1 k1 f1 bs1 hB1 (cX E 6) (by rw [show (cX E 6).2.2.length = 1 from rfl]; omega)) (fun y hy => by rw [List.mem_singleton.mp hy]; exact tS_const hS.2.2.1 (by decide)) jqJ4_append_15ec4 jselJ4_append_15ec4 ljL_52 ⟨(Nat.le_of_ble_eq_true rfl), (Nat.le_of_ble_eq_true rfl)⟩ ⟨by show _ ≤ 600000; omega, by show _ ≤ 7302250; omega⟩ [.ref (eA E 0)] rfl (Nat.le_of_ble_eq_true rfl) dL_law_475 rfl (fun v w2 H locs hp hS => ?_)
  obtain ⟨rfl, d2, k2, f2, rfl, hB2⟩ := hp
  obtain ⟨bs2, hb2⟩ : ∃ z, z = bs1 ++ (cX E 6).2.2 := ⟨_, rfl⟩
  rw [← hb2] at hS hB2
  have hn2 : bs2.length = bs1.length + 1 := by rw [hb2, List.length_append]; rfl
  have ha2 : ∀ c ∈ bs2, c < 128 := by rw [hb2]; intro c hc; rcases List.mem_append.mp hc with h | h; exact ha1 c h; exact (cT_ok 6 (by decide)).2.2.1 c h
  refine l_callB (np := 481) G hS hl.1 0 rfl [] (qJ4_toString_0e30d l E lo2 u d2 k2 f2 bs2.length hB2.1 hB2.2.1 hB2.2.2.1) (fun _ h => absurd h (List.not_mem_nil)) jqJ4_toString_0e30d jselJ4_toString_0e30d ljL_68 ⟨(Nat.le_of_ble_eq_true rfl), (Nat.le_of_ble_eq_true rfl)⟩ ⟨by show _ ≤ 600000; omega, by show _ ≤ 7302250; omega⟩ [.ref (eA E 0)] rfl (Nat.le_of_ble_eq_true rfl) dL_law_478 rfl (fun v w2 H locs hp hS => ?_)
  obtain ⟨t2, v2, g2, rfl, rfl, hg2⟩ := hp
  have hBe : bs2 = x.2.2 ++ [59] := by rw [hb2, hb1]; rfl
  have hS := hS.re (tl2 := [(t2, .inr (11, [.ref v2, vI 0, vI 0, vI 0])), (v2, .inl (eT E 2, bs2.length, .inl g2))]) (List.sublist_append_right _ _)
  refine l_feeds (np := 484) G hS hl.1 jsL_feeds ljL_98 (List.mem_cons_self) (List.mem_cons_of_mem _ (List.mem_cons_self)) (fun j hj => (hg2 j hj).trans (hB2.2.2.2 j hj)) (by omega) ha2 (out := (6, σ2)) (by rw [hBe]; exact hf) ⟨Nat.le_of_ble_eq_true rfl, Nat.le_of_ble_eq_true rfl⟩ ⟨by show _ ≤ 600000; omega, by show _ ≤ 7302250; omega⟩ (Nat.le_of_ble_eq_true rfl) dL_law_481 rfl (fun H locs hM => ?_)
  refine r_bipush (np := 486) G (6) dL_law_484 (by decide) rfl ?_
  refine r_icmp_ne (np := 489) (tgt := 510) G (wI_eq (by omega) (by omega)) (wI_eq (by omega) (by omega)) dL_law_486 (by decide) rfl (fun hc => False.elim (by omega)) (fun hc => ?_)
  refine r_aload_n (np := 490) G hl 4 rfl dL_law_489 rfl rfl ?_
  refine r_iconst (np := 491) G (0) dL_law_490 rfl ?_
  refine r_iconst (np := 492) G (4) dL_law_491 rfl ?_
  refine m_callVI (np := 495) G hM hl.1 [vI 0, vI 4] (qX11_local l E _ 0 (0) (4) _ hl1) myX11_local (by decide) (gX11_local hl1) rfl (by decide) lkL_102 ⟨Nat.le_of_ble_eq_true rfl, Nat.le_of_ble_eq_true rfl⟩ ⟨by show _ ≤ 600000; omega, by show _ ≤ 7302250; omega⟩ [] rfl (Nat.le_of_ble_eq_true rfl) dL_law_492 rfl (fun H locs hM => ?_)
  refine r_iconst (np := 496) G (-1) dL_law_495 rfl ?_
  refine r_icmp_ne (np := 499) (tgt := 510) G (wI_eq (by omega) (by omega)) (wI_eq (by omega) (by omega)) dL_law_496 (by decide) rfl (fun hc => False.elim (by omega)) (fun hc => ?_)
  refine r_aload_n (np := 500) G hl 4 rfl dL_law_499 rfl rfl ?_
  refine r_bipush (np := 502) G (6) dL_law_500 (by decide) rfl ?_
  refine r_iconst (np := 503) G (2) dL_law_502 rfl ?_
  refine m_callVI (np := 506) G hM hl.1 [vI 6, vI 2] (qX11_local l E _ 0 (6) (2) _ hl2) myX11_local (by decide) (gX11_local hl2) rfl (by decide) lkL_102 ⟨Nat.le_of_ble_eq_true rfl, Nat.le_of_ble_eq_true rfl⟩ ⟨by show _ ≤ 600000; omega, by show _ ≤ 7302250; omega⟩ [] rfl (Nat.le_of_ble_eq_true rfl) dL_law_503 rfl (fun H locs hM => ?_)
  refine r_iconst (np := 507) G (-1) dL_law_506 rfl ?_
  refine r_icmp_eq (np := 510) (tgt := 512) G (wI_eq (by omega) (by omega)) (wI_eq (by omega) (by omega)) dL_law_507 (by decide) rfl (fun hc => ?_) (fun hc => False.elim (by omega))
  exact W.widen (by omega) (by omega) (wTail l E out hout G hr hk 0 254 255 256 σ2 H _ ls htl hM (lv_sub hl [4, 2, 1, 0] rfl))
