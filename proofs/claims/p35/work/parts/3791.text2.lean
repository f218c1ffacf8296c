/-! .. second loop (laid by text2.py) -/
def qv (j : Nat) : Int := [7, 13, 19, 31, 37, 43].getD j 0
theorem qv_rng : ∀ j, j < 6 → 7 ≤ qv j ∧ qv j ≤ 43 := by decide
theorem cX_3 (E : mE) : (cX E 3).2.2 = [] := rfl
theorem cX_7 (E : mE) : (cX E 7).2.2 = [99, 121, 99, 108, 105, 99, 32, 99] := rfl
theorem cX_8 (E : mE) : (cX E 8).2.2 = [45] := rfl
/-- a row of a cyclic algebra, as it is written -/
def tCy (k : Nat) (A g B : Int) : List Nat := [99, 121, 99, 108, 105, 99, 32, 99] ++ ([97 + k] ++ ([32] ++ (decI A ++ ([32] ++ ((if g = 0 then [45] else []) ++ (decI B ++ [59]))))))

set_option maxRecDepth 100000 in
set_option maxHeartbeats 4000000 in
theorem it2 (l : Launch) (E : mE) {p : Program} {e : Env} {s : State} {m : MethodId} {below : List Frame} {meth : Method} {c : Code} {b L : Nat} {xs : Nat → Int32} (hL : L ≤ 260) (G : CallFix p m c code 12 s #[Value.ref b] mTs RL) (hX : scX b L xs s) {k : Nat} (hk2 : k < 2) {σ : mSt} (hq : ∀ j, j < 6 → σ 253 j = qv j) {tl : va_W} {lo : Nat} {x : sX} {cells slots : Nat} {H : Heap} {locs : List Loc} {ls : Array Slot} (hcs : cells ≤ 1000 ∧ slots ≤ 500000) (hS : lS E 256 σ tl lo [] s H locs) (hT : tS E tl s x) (hxl : x.2.2.length ≤ 150) (hxa : ∀ c ∈ x.2.2, c < 128) (hl : lv_has ls 12 [(6, vI ((k : Int))), (5, .ref (eA E 255)), (4, .ref (eA E 254)), (3, .ref x.1), (2, .ref (eA E 253)), (1, .ref (eA E 0)), (0, .ref b)])
  (kk : ∀ (tl2 : va_W) (x2 : sX) (H2 : Heap) (locs2 : List Loc) (ls2 : Array Slot) (c2 s2 : Nat), x2.2.2 = x.2.2 ++ tCy k (qv (someV xs L (20 + k) 6).toNat) (someV xs L (22 + k) 2) (1 + someV xs L (24 + k) 999) → lS E 256 σ tl2 H2.size [] s H2 locs2 → tS E tl2 s x2 → c2 ≤ cells + 15 → s2 ≤ slots + 12030 → lv_has ls2 12 [(6, vI ((k + 1 : Nat) : Int)), (5, .ref (eA E 255)), (4, .ref (eA E 254)), (3, .ref x2.1), (2, .ref (eA E 253)), (1, .ref (eA E 0)), (0, .ref b)] → mGoP l p e s m b below meth c c2 s2 H2 locs2 (F0 m 166 ls2 [])) :
  mGoP l p e s m b below meth c cells slots H locs (F0 m 166 ls []) := by
  have hr20 := someV_rng (xs := xs) (L := L) (k := 20 + k) (n := 6) (by decide)
  have hr22 := someV_rng (xs := xs) (L := L) (k := 22 + k) (n := 2) (by decide)
  have hr24 := someV_rng (xs := xs) (L := L) (k := 24 + k) (n := 999) (by decide)
  obtain ⟨jq, hjq⟩ : ∃ z, z = (someV xs L (20 + k) 6).toNat := ⟨_, rfl⟩
  have hjq6 : jq < 6 := by omega
  have hQr := qv_rng jq hjq6
  obtain ⟨A, hAe⟩ : ∃ z, z = qv jq := ⟨_, rfl⟩
  rw [← hAe] at hQr
  obtain ⟨B, hBe⟩ : ∃ z, z = 1 + someV xs L (24 + k) 999 := ⟨_, rfl⟩
  have hlA := decI_len (x := A) (by omega)
  have hlB := decI_len (x := B) (by omega)
  refine r_iload (np := 168) G hl 0 rfl dL_law_166 rfl ?_
  refine r_iconst (np := 169) G (2) dL_law_168 rfl ?_
  refine r_icmp_ge (np := 172) (tgt := 278) G (wI_eq (by omega) (by omega)) (wI_eq (by omega) (by omega)) dL_law_169 (by decide) rfl (fun hc => False.elim (by omega)) (fun hc => ?_)
  refine l_newB (np := 175) G hS ljL_c49 jsbI jsbN inJ4 (by show _ ≤ 600000; omega) (by show _ ≤ 7302250; omega) dL_law_172 rfl (fun u lo2 H hS => ?_)
  refine r_dup (np := 176) G dL_law_175 rfl rfl ?_
  refine l_callI (np := 179) G hS hl.1 [] (qJ4_init_da8c8 l E lo2 u) (fun _ h => absurd h (List.not_mem_nil)) jqJ4_init_da8c8 ljL_51 ⟨(Nat.le_of_ble_eq_true rfl), (Nat.le_of_ble_eq_true rfl)⟩ ⟨by show _ ≤ 600000; omega, by show _ ≤ 7302250; omega⟩ [.ref u] rfl (Nat.le_of_ble_eq_true rfl) dL_law_176 rfl (fun v w2 H locs hp hS => ?_)
  obtain ⟨rfl, d0, rfl⟩ := hp
  have hS : lS E 256 _ _ lo2 (jB E u d0 (([] : List Nat).length : Int) 16 (fun _ => 0)) s H locs := hS
  have hB0 := bK_nil
  have ha0 : ∀ c ∈ ([] : List Nat), c < 128 := fun _ h => absurd h (List.not_mem_nil)
  have hn0 : ([] : List Nat).length = 0 := rfl
  refine r_aload_n (np := 180) G hl 3 rfl dL_law_179 rfl rfl ?_
  refine l_callB (np := 183) G hS hl.1 0 rfl [.ref x.1] (qJ4_append_15ec4 l E lo2 u d0 16 (fun _ => 0) ([] : List Nat) hB0 x (by omega)) (fun y hy => by rw [List.mem_singleton.mp hy]; exact hT) jqJ4_append_15ec4 jselJ4_append_15ec4 ljL_52 ⟨(Nat.le_of_ble_eq_true rfl), (Nat.le_of_ble_eq_true rfl)⟩ ⟨by show _ ≤ 600000; omega, by show _ ≤ 7302250; omega⟩ [] rfl (Nat.le_of_ble_eq_true rfl) dL_law_180 rfl (fun v w2 H locs hp hS => ?_)
  obtain ⟨rfl, d1, k1, f1, rfl, hB1⟩ := hp
  obtain ⟨bs1, hb1⟩ : ∃ z, z = ([] : List Nat) ++ x.2.2 := ⟨_, rfl⟩
  rw [← hb1] at hS hB1
  have hn1 : bs1.length = ([] : List Nat).length + x.2.2.length := by rw [hb1, List.length_append]
  have ha1 : ∀ c ∈ bs1, c < 128 := by rw [hb1]; intro c hc; rcases List.mem_append.mp hc with h | h; exact ha0 c h; exact hxa c h
  refine l_ldc (np := 185) G hS 4 (by decide) dL_law_183 rfl ?_
  refine l_callB (np := 188) G hS hl.1 0 rfl [.ref (eK E 7)] (qJ4_append_15ec4 l E lo2 u d1 k1 f1 bs1 hB1 (cX E 7) (by rw [show (cX E 7).2.2.length = 8 from rfl]; omega)) (fun y hy => by rw [List.mem_singleton.mp hy]; exact tS_const hS.2.2.1 (by decide)) jqJ4_append_15ec4 jselJ4_append_15ec4 ljL_52 ⟨(Nat.le_of_ble_eq_true rfl), (Nat.le_of_ble_eq_true rfl)⟩ ⟨by show _ ≤ 600000; omega, by show _ ≤ 7302250; omega⟩ [] rfl (Nat.le_of_ble_eq_true rfl) dL_law_185 rfl (fun v w2 H locs hp hS => ?_)
  obtain ⟨rfl, d2, k2, f2, rfl, hB2⟩ := hp
  obtain ⟨bs2, hb2⟩ : ∃ z, z = bs1 ++ (cX E 7).2.2 := ⟨_, rfl⟩
  rw [← hb2] at hS hB2
  have hn2 : bs2.length = bs1.length + 8 := by rw [hb2, List.length_append]; rfl
  have ha2 : ∀ c ∈ bs2, c < 128 := by rw [hb2]; intro c hc; rcases List.mem_append.mp hc with h | h; exact ha1 c h; exact (cT_ok 7 (by decide)).2.2.1 c h
  refine r_bipush (np := 190) G (97) dL_law_188 (by decide) rfl ?_
  refine r_iload (np := 192) G hl 0 rfl dL_law_190 rfl ?_
  refine r_iadd (np := 193) G dL_law_192 rfl ?_
  rw [show (97 : Int) + (k : Int) = ((97 + k : Nat) : Int) by omega]
  refine lv_i2c G.1 G.2.1 dL_law_193 (i2cK k (by omega)) ?_
  have e97 : Value.int (Int32.ofInt ((97 + k : Nat) : Int)) = vI ((97 + k : Nat) : Int) := rfl
  rw [e97]
  refine l_callB (np := 197) G hS hl.1 0 rfl [vI (((97 + k : Nat) : Int))] (qJ4_append_cf468 l E lo2 u d2 k2 f2 bs2 hB2 (97 + k) (by omega) (by omega)) (fun _ h => absurd h (List.not_mem_nil)) jqJ4_append_cf468 jselJ4_append_cf468 ljL_58 ⟨(Nat.le_of_ble_eq_true rfl), (Nat.le_of_ble_eq_true rfl)⟩ ⟨by show _ ≤ 600000; omega, by show _ ≤ 7302250; omega⟩ [] rfl (Nat.le_of_ble_eq_true rfl) dL_law_194 rfl (fun v w2 H locs hp hS => ?_)
  obtain ⟨rfl, d3, k3, f3, rfl, hB3⟩ := hp
  obtain ⟨bs3, hb3⟩ : ∃ z, z = bs2 ++ [97 + k] := ⟨_, rfl⟩
  rw [← hb3] at hS hB3
  have hn3 : bs3.length = bs2.length + 1 := by rw [hb3, List.length_append]; rfl
  have ha3 : ∀ c ∈ bs3, c < 128 := by rw [hb3]; intro c hc; rcases List.mem_append.mp hc with h | h; exact ha2 c h; exact (fun c9 h9 => Nat.lt_of_le_of_lt (Nat.le_of_eq (List.mem_singleton.mp h9)) (by omega)) c h
  refine l_ldc (np := 199) G hS 2 (by decide) dL_law_197 rfl ?_
  refine l_callB (np := 202) G hS hl.1 0 rfl [.ref (eK E 5)] (qJ4_append_15ec4 l E lo2 u d3 k3 f3 bs3 hB3 (cX E 5) (by rw [show (cX E 5).2.2.length = 1 from rfl]; omega)) (fun y hy => by rw [List.mem_singleton.mp hy]; exact tS_const hS.2.2.1 (by decide)) jqJ4_append_15ec4 jselJ4_append_15ec4 ljL_52 ⟨(Nat.le_of_ble_eq_true rfl), (Nat.le_of_ble_eq_true rfl)⟩ ⟨by show _ ≤ 600000; omega, by show _ ≤ 7302250; omega⟩ [] rfl (Nat.le_of_ble_eq_true rfl) dL_law_199 rfl (fun v w2 H locs hp hS => ?_)
  obtain ⟨rfl, d4, k4, f4, rfl, hB4⟩ := hp
  obtain ⟨bs4, hb4⟩ : ∃ z, z = bs3 ++ (cX E 5).2.2 := ⟨_, rfl⟩
  rw [← hb4] at hS hB4
  have hn4 : bs4.length = bs3.length + 1 := by rw [hb4, List.length_append]; rfl
  have ha4 : ∀ c ∈ bs4, c < 128 := by rw [hb4]; intro c hc; rcases List.mem_append.mp hc with h | h; exact ha3 c h; exact (cT_ok 5 (by decide)).2.2.1 c h
  refine r_aload_n (np := 203) G hl 4 rfl dL_law_202 rfl rfl ?_
  refine r_aload_n (np := 204) G hl 6 rfl dL_law_203 rfl rfl ?_
  refine r_bipush (np := 206) G (20) dL_law_204 (by decide) rfl ?_
  refine r_iload (np := 208) G hl 0 rfl dL_law_206 rfl ?_
  refine r_iadd (np := 209) G dL_law_208 rfl ?_
  refine r_bipush (np := 211) G (6) dL_law_209 (by decide) rfl ?_
  rw [show (20 : Int) + (k : Int) = ((20 + k : Nat) : Int) by omega]
  refine c_call (A := aL s) (np := 214) G hX hS.2.2.2.2.2.1 hl.1 [.ref b, vI ((20 + k : Nat) : Int), vI ((6 : Nat) : Int)] (cl_some l b L xs hL (20 + k) 6 (by omega) (by decide)) jsL_some ljL_35 ⟨(Nat.le_of_ble_eq_true rfl), (Nat.le_of_ble_eq_true rfl)⟩ ⟨by show _ ≤ 600000; omega, by show _ ≤ 7302250; omega⟩ [.ref (eA E 253), .ref u] rfl (Nat.le_of_ble_eq_true rfl) dL_law_211 rfl ?_ (Nat.not_le.mpr hX.2)
  refine l_iald (np := 215) G hS (i := 253) (n := 6) (by decide) (by decide +kernel) (by rw [wI_eq (by omega) (by omega)]; omega) dL_law_214 rfl ?_
  rw [wI_eq (x := someV xs L (20 + k) 6) (by omega) (by omega), ← hjq, hq jq hjq6, ← hAe]
  refine l_callB (np := 218) G hS hl.1 0 rfl [vI (A)] (qJ4_append_bf812 l E lo2 u d4 k4 f4 bs4 hB4 (A) (by omega) (by have := decI_len (x := A) (by omega); omega)) (fun _ h => absurd h (List.not_mem_nil)) jqJ4_append_bf812 jselJ4_append_bf812 ljL_63 ⟨(Nat.le_of_ble_eq_true rfl), (Nat.le_of_ble_eq_true rfl)⟩ ⟨by show _ ≤ 600000; omega, by show _ ≤ 7302250; omega⟩ [] rfl (Nat.le_of_ble_eq_true rfl) dL_law_215 rfl (fun v w2 H locs hp hS => ?_)
  obtain ⟨rfl, d5, k5, f5, rfl, hB5⟩ := hp
  obtain ⟨bs5, hb5⟩ : ∃ z, z = bs4 ++ decI (A) := ⟨_, rfl⟩
  rw [← hb5] at hS hB5
  have hn5 : bs5.length = bs4.length + (decI (A)).length := by rw [hb5, List.length_append]
  have ha5 : ∀ c ∈ bs5, c < 128 := by rw [hb5]; intro c hc; rcases List.mem_append.mp hc with h | h; exact ha4 c h; exact decI_asc (x := A) (by omega) c h
  refine l_ldc (np := 220) G hS 2 (by decide) dL_law_218 rfl ?_
  refine l_callB (np := 223) G hS hl.1 0 rfl [.ref (eK E 5)] (qJ4_append_15ec4 l E lo2 u d5 k5 f5 bs5 hB5 (cX E 5) (by rw [show (cX E 5).2.2.length = 1 from rfl]; omega)) (fun y hy => by rw [List.mem_singleton.mp hy]; exact tS_const hS.2.2.1 (by decide)) jqJ4_append_15ec4 jselJ4_append_15ec4 ljL_52 ⟨(Nat.le_of_ble_eq_true rfl), (Nat.le_of_ble_eq_true rfl)⟩ ⟨by show _ ≤ 600000; omega, by show _ ≤ 7302250; omega⟩ [] rfl (Nat.le_of_ble_eq_true rfl) dL_law_220 rfl (fun v w2 H locs hp hS => ?_)
  obtain ⟨rfl, d6, k6, f6, rfl, hB6⟩ := hp
  obtain ⟨bs6, hb6⟩ : ∃ z, z = bs5 ++ (cX E 5).2.2 := ⟨_, rfl⟩
  rw [← hb6] at hS hB6
  have hn6 : bs6.length = bs5.length + 1 := by rw [hb6, List.length_append]; rfl
  have ha6 : ∀ c ∈ bs6, c < 128 := by rw [hb6]; intro c hc; rcases List.mem_append.mp hc with h | h; exact ha5 c h; exact (cT_ok 5 (by decide)).2.2.1 c h
  refine r_aload_n (np := 224) G hl 6 rfl dL_law_223 rfl rfl ?_
  refine r_bipush (np := 226) G (22) dL_law_224 (by decide) rfl ?_
  refine r_iload (np := 228) G hl 0 rfl dL_law_226 rfl ?_
  refine r_iadd (np := 229) G dL_law_228 rfl ?_
  refine r_iconst (np := 230) G (2) dL_law_229 rfl ?_
  rw [show (22 : Int) + (k : Int) = ((22 + k : Nat) : Int) by omega]
  refine c_call (A := aL s) (np := 233) G hX hS.2.2.2.2.2.1 hl.1 [.ref b, vI ((22 + k : Nat) : Int), vI ((2 : Nat) : Int)] (cl_some l b L xs hL (22 + k) 2 (by omega) (by decide)) jsL_some ljL_35 ⟨(Nat.le_of_ble_eq_true rfl), (Nat.le_of_ble_eq_true rfl)⟩ ⟨by show _ ≤ 600000; omega, by show _ ≤ 7302250; omega⟩ [.ref u] rfl (Nat.le_of_ble_eq_true rfl) dL_law_230 rfl ?_ (Nat.not_le.mpr hX.2)
  refine r_if_ne (np := 236) (tgt := 241) G (wI_eq (by omega) (by omega)) dL_law_233 (by decide) rfl (fun hc => ?_) (fun hc => ?_)
  ·
    refine l_ldc (np := 243) G hS 0 (by decide) dL_law_241 rfl ?_
    refine l_callB (np := 246) G hS hl.1 0 rfl [.ref (eK E 3)] (qJ4_append_15ec4 l E lo2 u d6 k6 f6 bs6 hB6 (cX E 3) (by rw [show (cX E 3).2.2.length = 0 from rfl]; omega)) (fun y hy => by rw [List.mem_singleton.mp hy]; exact tS_const hS.2.2.1 (by decide)) jqJ4_append_15ec4 jselJ4_append_15ec4 ljL_52 ⟨(Nat.le_of_ble_eq_true rfl), (Nat.le_of_ble_eq_true rfl)⟩ ⟨by show _ ≤ 600000; omega, by show _ ≤ 7302250; omega⟩ [] rfl (Nat.le_of_ble_eq_true rfl) dL_law_243 rfl (fun v w2 H locs hp hS => ?_)
    obtain ⟨rfl, d7, k7, f7, rfl, hB7⟩ := hp
    obtain ⟨bs7, hb7⟩ : ∃ z, z = bs6 ++ (cX E 3).2.2 := ⟨_, rfl⟩
    rw [← hb7] at hS hB7
    have hn7 : bs7.length = bs6.length + 0 := by rw [hb7, List.length_append]; rfl
    have ha7 : ∀ c ∈ bs7, c < 128 := by rw [hb7]; intro c hc; rcases List.mem_append.mp hc with h | h; exact ha6 c h; exact (cT_ok 3 (by decide)).2.2.1 c h
    refine r_iconst (np := 247) G (1) dL_law_246 rfl ?_
    refine r_aload_n (np := 248) G hl 6 rfl dL_law_247 rfl rfl ?_
    refine r_bipush (np := 250) G (24) dL_law_248 (by decide) rfl ?_
    refine r_iload (np := 252) G hl 0 rfl dL_law_250 rfl ?_
    refine r_iadd (np := 253) G dL_law_252 rfl ?_
    refine r_sipush (np := 256) G (999) dL_law_253 (by decide) rfl ?_
    rw [show (24 : Int) + (k : Int) = ((24 + k : Nat) : Int) by omega]
    refine c_call (A := aL s) (np := 259) G hX hS.2.2.2.2.2.1 hl.1 [.ref b, vI ((24 + k : Nat) : Int), vI ((999 : Nat) : Int)] (cl_some l b L xs hL (24 + k) 999 (by omega) (by decide)) jsL_some ljL_35 ⟨(Nat.le_of_ble_eq_true rfl), (Nat.le_of_ble_eq_true rfl)⟩ ⟨by show _ ≤ 600000; omega, by show _ ≤ 7302250; omega⟩ [vI (1), .ref u] rfl (Nat.le_of_ble_eq_true rfl) dL_law_256 rfl ?_ (Nat.not_le.mpr hX.2)
    refine r_iadd (np := 260) G dL_law_259 rfl ?_
    rw [← hBe]
    refine l_callB (np := 263) G hS hl.1 0 rfl [vI (B)] (qJ4_append_bf812 l E lo2 u d7 k7 f7 bs7 hB7 (B) (by omega) (by have := decI_len (x := B) (by omega); omega)) (fun _ h => absurd h (List.not_mem_nil)) jqJ4_append_bf812 jselJ4_append_bf812 ljL_63 ⟨(Nat.le_of_ble_eq_true rfl), (Nat.le_of_ble_eq_true rfl)⟩ ⟨by show _ ≤ 600000; omega, by show _ ≤ 7302250; omega⟩ [] rfl (Nat.le_of_ble_eq_true rfl) dL_law_260 rfl (fun v w2 H locs hp hS => ?_)
    obtain ⟨rfl, d8, k8, f8, rfl, hB8⟩ := hp
    obtain ⟨bs8, hb8⟩ : ∃ z, z = bs7 ++ decI (B) := ⟨_, rfl⟩
    rw [← hb8] at hS hB8
    have hn8 : bs8.length = bs7.length + (decI (B)).length := by rw [hb8, List.length_append]
    have ha8 : ∀ c ∈ bs8, c < 128 := by rw [hb8]; intro c hc; rcases List.mem_append.mp hc with h | h; exact ha7 c h; exact decI_asc (x := B) (by omega) c h
    refine l_ldc (np := 265) G hS 3 (by decide) dL_law_263 rfl ?_
    refine l_callB (np := 268) G hS hl.1 0 rfl [.ref (eK E 6)] (qJ4_append_15ec4 l E lo2 u d8 k8 f8 bs8 hB8 (cX E 6) (by rw [show (cX E 6).2.2.length = 1 from rfl]; omega)) (fun y hy => by rw [List.mem_singleton.mp hy]; exact tS_const hS.2.2.1 (by decide)) jqJ4_append_15ec4 jselJ4_append_15ec4 ljL_52 ⟨(Nat.le_of_ble_eq_true rfl), (Nat.le_of_ble_eq_true rfl)⟩ ⟨by show _ ≤ 600000; omega, by show _ ≤ 7302250; omega⟩ [] rfl (Nat.le_of_ble_eq_true rfl) dL_law_265 rfl (fun v w2 H locs hp hS => ?_)
    obtain ⟨rfl, d9, k9, f9, rfl, hB9⟩ := hp
    obtain ⟨bs9, hb9⟩ : ∃ z, z = bs8 ++ (cX E 6).2.2 := ⟨_, rfl⟩
    rw [← hb9] at hS hB9
    have hn9 : bs9.length = bs8.length + 1 := by rw [hb9, List.length_append]; rfl
    have ha9 : ∀ c ∈ bs9, c < 128 := by rw [hb9]; intro c hc; rcases List.mem_append.mp hc with h | h; exact ha8 c h; exact (cT_ok 6 (by decide)).2.2.1 c h
    refine l_callB (np := 271) G hS hl.1 0 rfl [] (qJ4_toString_0e30d l E lo2 u d9 k9 f9 bs9.length hB9.1 hB9.2.1 hB9.2.2.1) (fun _ h => absurd h (List.not_mem_nil)) jqJ4_toString_0e30d jselJ4_toString_0e30d ljL_68 ⟨(Nat.le_of_ble_eq_true rfl), (Nat.le_of_ble_eq_true rfl)⟩ ⟨by show _ ≤ 600000; omega, by show _ ≤ 7302250; omega⟩ [] rfl (Nat.le_of_ble_eq_true rfl) dL_law_268 rfl (fun v w2 H locs hp hS => ?_)
    obtain ⟨t2, v2, g2, rfl, rfl, hg2⟩ := hp
    have hT2 : tS E [(t2, .inr (11, [.ref v2, vI 0, vI 0, vI 0])), (v2, .inl (eT E 2, bs9.length, .inl g2))] s (t2, v2, bs9) := tS_dyn hS.1 hS.2.1 (List.mem_cons_self) (List.mem_cons_of_mem _ (List.mem_cons_self)) (fun j hj => (hg2 j hj).trans (hB9.2.2.2 j hj)) (by omega) ha9
    have hS := hS.re (tl2 := [(t2, .inr (11, [.ref v2, vI 0, vI 0, vI 0])), (v2, .inl (eT E 2, bs9.length, .inl g2))]) (List.sublist_append_right _ _)
    refine r_astore_n (np := 272) G hl (rfl) [(3, .ref t2), (6, vI ((k : Int))), (5, .ref (eA E 255)), (4, .ref (eA E 254)), (2, .ref (eA E 253)), (1, .ref (eA E 0)), (0, .ref b)] dL_law_271 rfl rfl (by decide) rfl (fun ls hl => ?_)
    refine r_iinc (np := 275) G hl 1 rfl (y := ((k + 1 : Nat) : Int)) (by omega) [(6, vI (((k + 1 : Nat) : Int))), (3, .ref t2), (5, .ref (eA E 255)), (4, .ref (eA E 254)), (2, .ref (eA E 253)), (1, .ref (eA E 0)), (0, .ref b)] dL_law_272 rfl (by decide) rfl (fun ls hl => ?_)
    refine r_goto (np := 166) G dL_law_275 (by decide) ?_
    refine kk _ (t2, v2, bs9) H _ ls _ _ ?_ hS hT2 ?_ ?_ (lv_sub hl [0, 2, 3, 1, 4, 5, 6] rfl)
    · show bs9 = _
      rw [hb9, hb8, hb7, hb6, hb5, hb4, hb3, hb2, hb1, hBe]
      simp only [List.nil_append, List.append_assoc, cX_3, cX_5, cX_6, cX_7, cX_8, tCy, ← hjq, ← hAe, if_neg hc]
    · omega
    · omega
  ·
    refine l_ldc (np := 238) G hS 5 (by decide) dL_law_236 rfl ?_
    refine r_goto (np := 243) G dL_law_238 (by decide) ?_
    refine l_callB (np := 246) G hS hl.1 0 rfl [.ref (eK E 8)] (qJ4_append_15ec4 l E lo2 u d6 k6 f6 bs6 hB6 (cX E 8) (by rw [show (cX E 8).2.2.length = 1 from rfl]; omega)) (fun y hy => by rw [List.mem_singleton.mp hy]; exact tS_const hS.2.2.1 (by decide)) jqJ4_append_15ec4 jselJ4_append_15ec4 ljL_52 ⟨(Nat.le_of_ble_eq_true rfl), (Nat.le_of_ble_eq_true rfl)⟩ ⟨by show _ ≤ 600000; omega, by show _ ≤ 7302250; omega⟩ [] rfl (Nat.le_of_ble_eq_true rfl) dL_law_243 rfl (fun v w2 H locs hp hS => ?_)
    obtain ⟨rfl, d7, k7, f7, rfl, hB7⟩ := hp
    obtain ⟨bs7, hb7⟩ : ∃ z, z = bs6 ++ (cX E 8).2.2 := ⟨_, rfl⟩
    rw [← hb7] at hS hB7
    have hn7 : bs7.length = bs6.length + 1 := by rw [hb7, List.length_append]; rfl
    have ha7 : ∀ c ∈ bs7, c < 128 := by rw [hb7]; intro c hc; rcases List.mem_append.mp hc with h | h; exact ha6 c h; exact (cT_ok 8 (by decide)).2.2.1 c h
    refine r_iconst (np := 247) G (1) dL_law_246 rfl ?_
    refine r_aload_n (np := 248) G hl 6 rfl dL_law_247 rfl rfl ?_
    refine r_bipush (np := 250) G (24) dL_law_248 (by decide) rfl ?_
    refine r_iload (np := 252) G hl 0 rfl dL_law_250 rfl ?_
    refine r_iadd (np := 253) G dL_law_252 rfl ?_
    refine r_sipush (np := 256) G (999) dL_law_253 (by decide) rfl ?_
    rw [show (24 : Int) + (k : Int) = ((24 + k : Nat) : Int) by omega]
    refine c_call (A := aL s) (np := 259) G hX hS.2.2.2.2.2.1 hl.1 [.ref b, vI ((24 + k : Nat) : Int), vI ((999 : Nat) : Int)] (cl_some l b L xs hL (24 + k) 999 (by omega) (by decide)) jsL_some ljL_35 ⟨(Nat.le_of_ble_eq_true rfl), (Nat.le_of_ble_eq_true rfl)⟩ ⟨by show _ ≤ 600000; omega, by show _ ≤ 7302250; omega⟩ [vI (1), .ref u] rfl (Nat.le_of_ble_eq_true rfl) dL_law_256 rfl ?_ (Nat.not_le.mpr hX.2)
    refine r_iadd (np := 260) G dL_law_259 rfl ?_
    rw [← hBe]
    refine l_callB (np := 263) G hS hl.1 0 rfl [vI (B)] (qJ4_append_bf812 l E lo2 u d7 k7 f7 bs7 hB7 (B) (by omega) (by have := decI_len (x := B) (by omega); omega)) (fun _ h => absurd h (List.not_mem_nil)) jqJ4_append_bf812 jselJ4_append_bf812 ljL_63 ⟨(Nat.le_of_ble_eq_true rfl), (Nat.le_of_ble_eq_true rfl)⟩ ⟨by show _ ≤ 600000; omega, by show _ ≤ 7302250; omega⟩ [] rfl (Nat.le_of_ble_eq_true rfl) dL_law_260 rfl (fun v w2 H locs hp hS => ?_)
    obtain ⟨rfl, d8, k8, f8, rfl, hB8⟩ := hp
    obtain ⟨bs8, hb8⟩ : ∃ z, z = bs7 ++ decI (B) := ⟨_, rfl⟩
    rw [← hb8] at hS hB8
    have hn8 : bs8.length = bs7.length + (decI (B)).length := by rw [hb8, List.length_append]
    have ha8 : ∀ c ∈ bs8, c < 128 := by rw [hb8]; intro c hc; rcases List.mem_append.mp hc with h | h; exact ha7 c h; exact decI_asc (x := B) (by omega) c h
    refine l_ldc (np := 265) G hS 3 (by decide) dL_law_263 rfl ?_
    refine l_callB (np := 268) G hS hl.1 0 rfl [.ref (eK E 6)] (qJ4_append_15ec4 l E lo2 u d8 k8 f8 bs8 hB8 (cX E 6) (by rw [show (cX E 6).2.2.length = 1 from rfl]; omega)) (fun y hy => by rw [List.mem_singleton.mp hy]; exact tS_const hS.2.2.1 (by decide)) jqJ4_append_15ec4 jselJ4_append_15ec4 ljL_52 ⟨(Nat.le_of_ble_eq_true rfl), (Nat.le_of_ble_eq_true rfl)⟩ ⟨by show _ ≤ 600000; omega, by show _ ≤ 7302250; omega⟩ [] rfl (Nat.le_of_ble_eq_true rfl) dL_law_265 rfl (fun v w2 H locs hp hS => ?_)
    obtain ⟨rfl, d9, k9, f9, rfl, hB9⟩ := hp
    obtain ⟨bs9, hb9⟩ : ∃ z, z = bs8 ++ (cX E 6).2.2 := ⟨_, rfl⟩
    rw [← hb9] at hS hB9
    have hn9 : bs9.length = bs8.length + 1 := by rw [hb9, List.length_append]; rfl
    have ha9 : ∀ c ∈ bs9, c < 128 := by rw [hb9]; intro c hc; rcases List.mem_append.mp hc with h | h; exact ha8 c h; exact (cT_ok 6 (by decide)).2.2.1 c h
    refine l_callB (np := 271) G hS hl.1 0 rfl [] (qJ4_toString_0e30d l E lo2 u d9 k9 f9 bs9.length hB9.1 hB9.2.1 hB9.2.2.1) (fun _ h => absurd h (List.not_mem_nil)) jqJ4_toString_0e30d jselJ4_toString_0e30d ljL_68 ⟨(Nat.le_of_ble_eq_true rfl), (Nat.le_of_ble_eq_true rfl)⟩ ⟨by show _ ≤ 600000; omega, by show _ ≤ 7302250; omega⟩ [] rfl (Nat.le_of_ble_eq_true rfl) dL_law_268 rfl (fun v w2 H locs hp hS => ?_)
    obtain ⟨t2, v2, g2, rfl, rfl, hg2⟩ := hp
    have hT2 : tS E [(t2, .inr (11, [.ref v2, vI 0, vI 0, vI 0])), (v2, .inl (eT E 2, bs9.length, .inl g2))] s (t2, v2, bs9) := tS_dyn hS.1 hS.2.1 (List.mem_cons_self) (List.mem_cons_of_mem _ (List.mem_cons_self)) (fun j hj => (hg2 j hj).trans (hB9.2.2.2 j hj)) (by omega) ha9
    have hS := hS.re (tl2 := [(t2, .inr (11, [.ref v2, vI 0, vI 0, vI 0])), (v2, .inl (eT E 2, bs9.length, .inl g2))]) (List.sublist_append_right _ _)
    refine r_astore_n (np := 272) G hl (rfl) [(3, .ref t2), (6, vI ((k : Int))), (5, .ref (eA E 255)), (4, .ref (eA E 254)), (2, .ref (eA E 253)), (1, .ref (eA E 0)), (0, .ref b)] dL_law_271 rfl rfl (by decide) rfl (fun ls hl => ?_)
    refine r_iinc (np := 275) G hl 1 rfl (y := ((k + 1 : Nat) : Int)) (by omega) [(6, vI (((k + 1 : Nat) : Int))), (3, .ref t2), (5, .ref (eA E 255)), (4, .ref (eA E 254)), (2, .ref (eA E 253)), (1, .ref (eA E 0)), (0, .ref b)] dL_law_272 rfl (by decide) rfl (fun ls hl => ?_)
    refine r_goto (np := 166) G dL_law_275 (by decide) ?_
    refine kk _ (t2, v2, bs9) H _ ls _ _ ?_ hS hT2 ?_ ?_ (lv_sub hl [0, 2, 3, 1, 4, 5, 6] rfl)
    · show bs9 = _
      rw [hb9, hb8, hb7, hb6, hb5, hb4, hb3, hb2, hb1, hBe]
      simp only [List.nil_append, List.append_assoc, cX_3, cX_5, cX_6, cX_7, cX_8, tCy, ← hjq, ← hAe, if_pos hc]
    · omega
    · omega
