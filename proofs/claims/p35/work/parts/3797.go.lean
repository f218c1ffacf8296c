/-! THE LAW'S WALK, from its entry (laid by go.py) -/
def LawPure (gh : mSt) (xs : Nat → Int32) (L : Nat) : Prop := mX11_classes 0 (lawS gh xs L) = some (0, lawS gh xs L) ∧ mX11_index 0 0 (lawS gh xs L) = some (-1, lawS gh xs L) ∧ ∃ σ2, fdM (lawT xs L) 20 0 (lawS gh xs L) = some (6, σ2) ∧ mX11_local 0 0 4 σ2 = some (-1, σ2) ∧ mX11_local 0 6 2 σ2 = some (-1, σ2) ∧ ∃ out : Int × mSt, out.1 = 1 ∧ mTail 0 254 255 256 σ2 = some out
set_option maxRecDepth 100000 in
set_option maxHeartbeats 4000000 in
theorem go337 (gh : mSt) (l : Launch) (E : mE) {p : Program} {e : Env} {s : State} {m : MethodId} {below : List Frame} {meth : Method} {c : Code} {b L : Nat} {xs : Nat → Int32} (hL : L ≤ 260) (G : CallFix p m c code 12 s #[Value.ref b] mTs RL) (hX : scX b L xs s) (hr : meth.sig.returnType = ret) (hlk : meth.locks = false) (hP : LawPure gh xs L) {nm : Nat} {fr : Nat → Option Nat} (hfr : ∀ o, o < 5 → fr o = some (eK E (9 + o))) : ∀ (d k : Nat), k + d = lawN xs L → ∀ {txt : va_W} {lo : Nat} {x : sX} {cells slots : Nat} {H : Heap} {locs : List Loc} {ls : Array Slot}, cells ≤ 400 + 10 * k ∧ slots ≤ 100000 + 6030 * k → lS E 257 (lawB gh xs L k) ((nm, .inl (eT E 8, 5, .inr (.inr (.inr (.inr fr))))) :: txt) lo [] s H locs → tS E ((nm, .inl (eT E 8, 5, .inr (.inr (.inr (.inr fr))))) :: txt) s x → x.2.2 = tx3 xs L k → lv_has ls 12 [(8, vI ((k : Int))), (7, .ref (eA E 256)), (6, .ref nm), (5, .ref (eA E 255)), (4, .ref (eA E 254)), (3, .ref x.1), (2, .ref (eA E 253)), (1, .ref (eA E 0)), (0, .ref b)] → mGoP l p e s m b below meth c cells slots H locs (F0 m 337 ls []) := by
  intro d
  have hr30 := someV_rng (xs := xs) (L := L) (k := 30) (n := 4) (by decide)
  have hN := lawN_rng xs L
  have hNe : (lawN xs L : Int) = 1 + someV xs L 30 4 := by unfold lawN; omega
  induction d with
  | zero =>
    intro k hkd txt lo x cells slots H locs ls hcs hS hT hx hl
    obtain ⟨hc0, hi0, σ2, hf, hl1, hl2, out, ho, ht⟩ := hP
    have hok := tx3_ok xs L k
    rw [← hx] at hok
    have hkN : k = lawN xs L := hkd
    refine it3x l E hL G hX (by omega) (by omega) ⟨by omega, by omega⟩ hS hl ?_
    refine st445 l E hL G hX hr hlk ⟨by omega, by omega⟩ hS hT (by omega) hok.2 (lv_sub hl [1, 3, 4, 5, 7] rfl) (σ2 := σ2) ?_ ?_ ?_ hl1 hl2 out ho ht
    · rw [hkN]; exact hc0
    · rw [hkN]; exact hi0
    · rw [hx, hkN]; exact hf
  | succ d ih =>
    intro k hkd txt lo x cells slots H locs ls hcs hS hT hx hl
    have hok := tx3_ok xs L k
    rw [← hx] at hok
    refine it3 l E hL G hX (by omega) (fun o ho => by have := lawB_rng gh xs L k o; omega) hfr ⟨by omega, by omega⟩ hS hT (by omega) hok.2 hl (fun σ2 txt2 x2 H2 locs2 ls2 c2 s2 e1 e2 hS hT hc hs hl => ?_)
    rw [e1] at hS
    refine ih (k + 1) (by omega) ⟨by omega, by omega⟩ hS hT ?_ hl
    rw [e2, hx]; rfl
set_option maxRecDepth 100000 in
set_option maxHeartbeats 4000000 in
theorem go166 (gh : mSt) (l : Launch) (E : mE) {p : Program} {e : Env} {s : State} {m : MethodId} {below : List Frame} {meth : Method} {c : Code} {b L : Nat} {xs : Nat → Int32} (hL : L ≤ 260) (G : CallFix p m c code 12 s #[Value.ref b] mTs RL) (hX : scX b L xs s) (hr : meth.sig.returnType = ret) (hlk : meth.locks = false) (hP : LawPure gh xs L) : ∀ (d k : Nat), k + d = 2 → ∀ {tl : va_W} {lo : Nat} {x : sX} {cells slots : Nat} {H : Heap} {locs : List Loc} {ls : Array Slot}, cells ≤ 310 + 15 * k ∧ slots ≤ 40000 + 12030 * k → lS E 256 (lawA gh xs L 3) tl lo [] s H locs → tS E tl s x → x.2.2 = tx2 xs L k → lv_has ls 12 [(6, vI ((k : Int))), (5, .ref (eA E 255)), (4, .ref (eA E 254)), (3, .ref x.1), (2, .ref (eA E 253)), (1, .ref (eA E 0)), (0, .ref b)] → mGoP l p e s m b below meth c cells slots H locs (F0 m 166 ls []) := by
  intro d
  induction d with
  | zero =>
    intro k hkd tl lo x cells slots H locs ls hcs hS hT hx hl
    have hk2 : k = 2 := hkd
    subst hk2
    have hok := tx2_ok xs L 2 (by decide)
    rw [← hx] at hok
    refine it2x l E hL G hX ⟨by omega, by omega⟩ hS hl ?_
    refine st278 l E hL G hX (lawA_Z gh xs L 3) ⟨by omega, by omega⟩ hS (lv_sub hl [1, 2, 3, 4, 5, 6] rfl) (fun z nm fr H2 locs2 ls2 c2 s2 hS hfr hc hs hl => ?_)
    have hT2 : tS (eZ E z) ((nm, .inl (eT (eZ E z) 8, 5, .inr (.inr (.inr (.inr fr))))) :: tl) s x := (show tS (eZ E z) tl s x from hT).more (fun q hq => List.mem_cons_of_mem _ hq)
    have hz : (Value.ref z : Value) = .ref (eA (eZ E z) 256) := by show _ = Value.ref (if 256 = 256 then z else eA E 256); rw [if_pos rfl]
    rw [hz]
    refine st312 l (eZ E z) hL G hX (fr := fr) ⟨by omega, by omega⟩ hS hT2 (by omega) hok.2 hl (fun txt2 x2 H3 locs3 ls3 c3 s3 e2 hS hT hc3 hs3 hl => ?_)
    exact go337 gh l (eZ E z) hL G hX hr hlk hP (fr := fr) hfr (lawN xs L) 0 (by omega) ⟨by omega, by omega⟩ hS hT (by rw [e2, hx]; rfl) hl
  | succ d ih =>
    intro k hkd tl lo x cells slots H locs ls hcs hS hT hx hl
    have hok := tx2_ok xs L k (by omega)
    rw [← hx] at hok
    refine it2 l E hL G hX (by omega) (lawA_q gh xs L 3) ⟨by omega, by omega⟩ hS hT (by omega) hok.2 hl (fun tl2 x2 H2 locs2 ls2 c2 s2 e2 hS hT hc hs hl => ?_)
    refine ih (k + 1) (by omega) ⟨by omega, by omega⟩ hS hT ?_ hl
    rw [e2, hx]; rfl
set_option maxRecDepth 100000 in
set_option maxHeartbeats 4000000 in
theorem go59 (gh : mSt) (l : Launch) (E : mE) {p : Program} {e : Env} {s : State} {m : MethodId} {below : List Frame} {meth : Method} {c : Code} {b L : Nat} {xs : Nat → Int32} (hL : L ≤ 260) (G : CallFix p m c code 12 s #[Value.ref b] mTs RL) (hX : scX b L xs s) (hr : meth.sig.returnType = ret) (hlk : meth.locks = false) (hP : LawPure gh xs L) : ∀ (d k : Nat), k + d = 3 → ∀ {tl : va_W} {lo : Nat} {x : sX} {cells slots : Nat} {H : Heap} {locs : List Loc} {ls : Array Slot}, cells ≤ 265 + 13 * k ∧ slots ≤ 5000 + 10030 * k → lS E 256 (lawA gh xs L k) tl lo [] s H locs → tS E tl s x → x.2.2 = tx1 xs L k → lv_has ls 12 [(6, vI ((k : Int))), (5, .ref (eA E 255)), (4, .ref (eA E 254)), (3, .ref x.1), (2, .ref (eA E 253)), (1, .ref (eA E 0)), (0, .ref b)] → mGoP l p e s m b below meth c cells slots H locs (F0 m 59 ls []) := by
  intro d
  induction d with
  | zero =>
    intro k hkd tl lo x cells slots H locs ls hcs hS hT hx hl
    have hk2 : k = 3 := hkd
    subst hk2
    refine it1x l E hL G hX hS hl (fun ls2 hl => ?_)
    exact go166 gh l E hL G hX hr hlk hP 2 0 rfl ⟨by omega, by omega⟩ hS hT hx hl
  | succ d ih =>
    intro k hkd tl lo x cells slots H locs ls hcs hS hT hx hl
    have hok := tx1_ok xs L k (by omega)
    rw [← hx] at hok
    refine it1 l E hL G hX (by omega) ⟨by omega, by omega⟩ hS hT (by omega) hok.2 hl (fun σ2 tl2 x2 H2 locs2 ls2 c2 s2 e1 e2 hS hT hc hs hl => ?_)
    rw [e1] at hS
    refine ih (k + 1) (by omega) ⟨by omega, by omega⟩ hS hT ?_ hl
    rw [e2, hx]; rfl
set_option maxRecDepth 100000 in
set_option maxHeartbeats 4000000 in
theorem whole_go (gh : mSt) {p : Program} {e : Env} {s : State} {m : MethodId} {below : List Frame} {meth : Method} {c : Code} (l : Launch) (hflags : l.flags = flags0) {b L : Nat} {xs : Nat → Int32} (hL : L ≤ 260) (C0 : lw_At p s m meth c b L xs) (hP : LawPure gh xs L) : W p l e room_1 s m #[Value.ref b] below meth c s.heap [] 0 0 (lw_Z below #[Value.ref b] s) (entryFrame m ([Value.ref b] : List Value).toArray 12) := by
  obtain ⟨hx, hb, hr, hml, hown, hts, hX, hbl, hk, hgv⟩ := id C0
  obtain ⟨E, hEA, hK, hXX⟩ := st_world hts hgv
  have hE : ∀ i, eA E i = eA E 0 + i := fun i => by rw [hEA i, hEA 0]; omega
  have hA : ∀ q : Nat, s.heap.size ≤ q → aL s q := fun _ h => h
  have G : CallFix p m c code 12 s #[Value.ref b] mTs RL := ⟨hx, hb, hml, hown, fun w hw => hts w (List.mem_filter.mp hw).1⟩
  have hXs : scX b L xs s := ⟨hX, hbl⟩
  have hl := lv_entry ([.ref b]) (n := 12) (Nat.le_of_ble_eq_true rfl)
  rw [lg_entry_eq]
  generalize (lg_sl ([.ref b]) ++ List.replicate (12 - (lg_sl ([.ref b])).length) Slot.unset).toArray = ls at hl ⊢
  have hl : lv_has ls 12 [(0, .ref b)] := hl
  have hM : mM (aL s) E 0 (gz gh) s s.heap [] := ⟨mWords.ride (State.WarmedH.refl s) (fun w hw => hts w (List.mem_filter.mp hw).1), hK, hXX, fun k q h => by simp [wl] at h, ⟨fun i j p q h => by simp [wl] at h, fun k q h => by simp [wl] at h⟩, va_S.rf⟩
  have hz : s.heap.size = eA E 0 := by rw [hEA 0]; rfl
  obtain ⟨s1, e1⟩ : ∃ z, z = upR (gz gh) 0 := ⟨_, rfl⟩
  obtain ⟨s2, e2⟩ : ∃ z, z = sX11_init s1 := ⟨_, rfl⟩
  obtain ⟨s3, e3⟩ : ∃ z, z = upR s2 253 := ⟨_, rfl⟩
  obtain ⟨t0, f0⟩ : ∃ z, z = upS s3 253 0 7 := ⟨_, rfl⟩
  obtain ⟨t1, f1⟩ : ∃ z, z = upS t0 253 1 13 := ⟨_, rfl⟩
  obtain ⟨t2, f2⟩ : ∃ z, z = upS t1 253 2 19 := ⟨_, rfl⟩
  obtain ⟨t3, f3⟩ : ∃ z, z = upS t2 253 3 31 := ⟨_, rfl⟩
  obtain ⟨t4, f4⟩ : ∃ z, z = upS t3 253 4 37 := ⟨_, rfl⟩
  obtain ⟨t5, f5⟩ : ∃ z, z = upS t4 253 5 43 := ⟨_, rfl⟩
  obtain ⟨s4, e4⟩ : ∃ z, z = upR t5 254 := ⟨_, rfl⟩
  obtain ⟨s5, e5⟩ : ∃ z, z = upR s4 255 := ⟨_, rfl⟩
  have h0 : mSL gh = s5 := by rw [e5, e4, f5, f4, f3, f2, f1, f0, e3, e2, e1]; rfl
  refine r_newO (np := 3) (N := 0) G hM hz hE hA ln_X11 rfl lc_X11 li_X11 lt_X11 (Nat.le_of_ble_eq_true rfl) (Nat.le_of_ble_eq_true rfl) s1 e1 dL_law_0 rfl (fun H hM hz => ?_)
  refine r_dup (np := 4) G dL_law_3 rfl rfl ?_
  refine m_icall (np := 7) (N2 := 253) G hM hz hE hA hl.1 (iX11_init l E s1 s2 e2.symm) lm_X11 ll_X11 ⟨(Nat.le_of_ble_eq_true rfl), (Nat.le_of_ble_eq_true rfl)⟩ ⟨(Nat.le_of_ble_eq_true rfl), (Nat.le_of_ble_eq_true rfl)⟩ (Nat.le_of_ble_eq_true rfl) dL_law_4 rfl (fun H locs hM hz => ?_)
  refine r_astore_n (np := 8) G hl rfl [(1, .ref (eA E 0)), (0, .ref b)] dL_law_7 rfl rfl (by decide) rfl (fun ls hl => ?_)
  refine r_bipush (np := 10) G 6 dL_law_8 (by decide) rfl ?_
  refine r_newP (np := 12) (N := 253) G hM hz hE hA (at0 := .int) (t := 0) (n := 6) rfl (by decide) (by decide) rfl (fun _ h => nomatch h) rfl w_ac_int (by decide) (fun E => rfl) (Nat.le_of_ble_eq_true rfl) (Nat.le_of_ble_eq_true rfl) s3 e3 dL_law_10 rfl (fun H hM hz => ?_)
  refine r_dup (np := 13) G dL_law_12 rfl rfl ?_
  refine r_iconst (np := 14) G 0 dL_law_13 rfl ?_
  refine r_bipush (np := 16) G 7 dL_law_14 (by decide) rfl ?_
  refine r_iastN (np := 17) G hM (i := 253) (n := 6) (by decide) (by decide +kernel) (j := 0) (x := 7) (by decide) dL_law_16 rfl (fun H locs hM hz9 => ?_)
  have hz := hz9.trans hz
  have hM : mM (aL s) E 254 t0 s H locs := by rw [f0]; exact hM
  refine r_dup (np := 18) G dL_law_17 rfl rfl ?_
  refine r_iconst (np := 19) G 1 dL_law_18 rfl ?_
  refine r_bipush (np := 21) G 13 dL_law_19 (by decide) rfl ?_
  refine r_iastN (np := 22) G hM (i := 253) (n := 6) (by decide) (by decide +kernel) (j := 1) (x := 13) (by decide) dL_law_21 rfl (fun H locs hM hz9 => ?_)
  have hz := hz9.trans hz
  have hM : mM (aL s) E 254 t1 s H locs := by rw [f1]; exact hM
  refine r_dup (np := 23) G dL_law_22 rfl rfl ?_
  refine r_iconst (np := 24) G 2 dL_law_23 rfl ?_
  refine r_bipush (np := 26) G 19 dL_law_24 (by decide) rfl ?_
  refine r_iastN (np := 27) G hM (i := 253) (n := 6) (by decide) (by decide +kernel) (j := 2) (x := 19) (by decide) dL_law_26 rfl (fun H locs hM hz9 => ?_)
  have hz := hz9.trans hz
  have hM : mM (aL s) E 254 t2 s H locs := by rw [f2]; exact hM
  refine r_dup (np := 28) G dL_law_27 rfl rfl ?_
  refine r_iconst (np := 29) G 3 dL_law_28 rfl ?_
  refine r_bipush (np := 31) G 31 dL_law_29 (by decide) rfl ?_
  refine r_iastN (np := 32) G hM (i := 253) (n := 6) (by decide) (by decide +kernel) (j := 3) (x := 31) (by decide) dL_law_31 rfl (fun H locs hM hz9 => ?_)
  have hz := hz9.trans hz
  have hM : mM (aL s) E 254 t3 s H locs := by rw [f3]; exact hM
  refine r_dup (np := 33) G dL_law_32 rfl rfl ?_
  refine r_iconst (np := 34) G 4 dL_law_33 rfl ?_
  refine r_bipush (np := 36) G 37 dL_law_34 (by decide) rfl ?_
  refine r_iastN (np := 37) G hM (i := 253) (n := 6) (by decide) (by decide +kernel) (j := 4) (x := 37) (by decide) dL_law_36 rfl (fun H locs hM hz9 => ?_)
  have hz := hz9.trans hz
  have hM : mM (aL s) E 254 t4 s H locs := by rw [f4]; exact hM
  refine r_dup (np := 38) G dL_law_37 rfl rfl ?_
  refine r_iconst (np := 39) G 5 dL_law_38 rfl ?_
  refine r_bipush (np := 41) G 43 dL_law_39 (by decide) rfl ?_
  refine r_iastN (np := 42) G hM (i := 253) (n := 6) (by decide) (by decide +kernel) (j := 5) (x := 43) (by decide) dL_law_41 rfl (fun H locs hM hz9 => ?_)
  have hz := hz9.trans hz
  have hM : mM (aL s) E 254 t5 s H locs := by rw [f5]; exact hM
  refine r_astore_n (np := 43) G hl rfl [(2, .ref (eA E 253)), (1, .ref (eA E 0)), (0, .ref b)] dL_law_42 rfl rfl (by decide) rfl (fun ls hl => ?_)
  refine l_ldc (np := 45) G (lS.mk hM.1 hM.2.1 hM.2.2.1 (tl := []) (by rw [List.append_nil]; exact hM.2.2.2.1) (by rw [List.append_nil]; exact hM.2.2.2.2.1) hM.2.2.2.2.2) 0 (by decide) dL_law_43 rfl ?_
  refine r_astore_n (np := 46) G hl rfl [(3, .ref (eK E 3)), (2, .ref (eA E 253)), (1, .ref (eA E 0)), (0, .ref b)] dL_law_45 rfl rfl (by decide) rfl (fun ls hl => ?_)
  refine r_iconst (np := 47) G 3 dL_law_46 rfl ?_
  refine r_newP (np := 49) (N := 254) G hM hz hE hA (at0 := .int) (t := 0) (n := 3) rfl (by decide) (by decide) rfl (fun _ h => nomatch h) rfl w_ac_int (by decide) (fun E => rfl) (Nat.le_of_ble_eq_true rfl) (Nat.le_of_ble_eq_true rfl) s4 e4 dL_law_47 rfl (fun H hM hz => ?_)
  refine r_astore (np := 51) G hl rfl [(4, .ref (eA E 254)), (3, .ref (eK E 3)), (2, .ref (eA E 253)), (1, .ref (eA E 0)), (0, .ref b)] dL_law_49 rfl (by decide) rfl (fun ls hl => ?_)
  refine r_iconst (np := 52) G 3 dL_law_51 rfl ?_
  refine r_newP (np := 54) (N := 255) G hM hz hE hA (at0 := .int) (t := 0) (n := 3) rfl (by decide) (by decide) rfl (fun _ h => nomatch h) rfl w_ac_int (by decide) (fun E => rfl) (Nat.le_of_ble_eq_true rfl) (Nat.le_of_ble_eq_true rfl) s5 e5 dL_law_52 rfl (fun H hM hz => ?_)
  refine r_astore (np := 56) G hl rfl [(5, .ref (eA E 255)), (4, .ref (eA E 254)), (3, .ref (eK E 3)), (2, .ref (eA E 253)), (1, .ref (eA E 0)), (0, .ref b)] dL_law_54 rfl (by decide) rfl (fun ls hl => ?_)
  refine r_iconst (np := 57) G 0 dL_law_56 rfl ?_
  refine r_istore (np := 59) G hl rfl [(6, vI 0), (5, .ref (eA E 255)), (4, .ref (eA E 254)), (3, .ref (eK E 3)), (2, .ref (eA E 253)), (1, .ref (eA E 0)), (0, .ref b)] dL_law_57 rfl (by decide) rfl (fun ls hl => ?_)
  rw [← h0] at hM
  exact go59 gh l E hL G hXs hr hk hP 3 0 rfl (x := cX E 3) ⟨by decide, by decide⟩ (lS.mk hM.1 hM.2.1 hM.2.2.1 (tl := []) (by rw [List.append_nil]; exact hM.2.2.2.1) (by rw [List.append_nil]; exact hM.2.2.2.2.1) hM.2.2.2.2.2) (tS_const hM.2.2.1 (by decide)) rfl hl
