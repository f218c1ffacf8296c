set_option maxHeartbeats 4000000 in
set_option maxRecDepth 100000 in
/-- THE LAW, from its entry -/
theorem whole_start {p : Program} {e : Env} {s : State} {m : MethodId} {below : List Frame} {meth : Method} {c : Code} (l : Launch) (hflags : l.flags = flags0) {b L : Nat} {xs : Nat → Int32} (hL : L ≤ 3584) (C0 : lw_At p s m meth c b L xs) : W p l e room_1 s m #[Value.ref b] below meth c s.heap [] 0 0 (lw_Z below #[Value.ref b] s) (entryFrame m ([Value.ref b] : List Value).toArray 8) := by
  obtain ⟨hx, hb, hr, hml, hown, hts, hX, hbl, hk, hgv⟩ := id C0
  have hst : l.stackTraces = false := by unfold Launch.stackTraces; rw [hflags]; decide
  obtain ⟨E, hEA, hK, hXX⟩ := st_world hts hgv
  obtain ⟨σF, hm⟩ := pure_all xs L hL
  have hE : ∀ i, eA E i = eA E 0 + i := fun i => by rw [hEA i, hEA 0]; omega
  have hA : ∀ q : Nat, s.heap.size ≤ q → (fun q : Nat => s.heap.size ≤ q) q := fun _ h => h
  have G : CallFix p m c code 8 s #[Value.ref b] mTs RL := ⟨hx, hb, hml, hown, fun w hw => hts w (List.mem_filter.mp hw).1⟩
  have hl := lv_entry ([.ref b]) (n := 8) (Nat.le_of_ble_eq_true rfl)
  rw [lg_entry_eq]
  generalize (lg_sl ([.ref b]) ++ List.replicate (8 - (lg_sl ([.ref b])).length) Slot.unset).toArray = ls at hl ⊢
  have hl : lv_has ls 8 [(0, .ref b)] := hl
  have hM : mM (fun q : Nat => s.heap.size ≤ q) E 0 (fun _ _ => 0) s s.heap [] := ⟨mWords.ride (State.WarmedH.refl s) (fun w hw => hts w (List.mem_filter.mp hw).1), hK, hXX, fun k q h => by simp [wl] at h, ⟨fun i j p q h => by simp [wl] at h, fun k q h => by simp [wl] at h⟩, va_S.rf⟩
  have hz : s.heap.size = eA E 0 := by rw [hEA 0]; rfl
  obtain ⟨s1, e1⟩ : ∃ z, z = upR (fun _ _ => 0) 0 := ⟨_, rfl⟩
  obtain ⟨s2, e2⟩ : ∃ z, z = sX11_init s1 := ⟨_, rfl⟩
  obtain ⟨s3, e3⟩ : ∃ z, z = upR s2 253 := ⟨_, rfl⟩
  obtain ⟨s4, e4⟩ : ∃ z, z = sX12_init s3 := ⟨_, rfl⟩
  obtain ⟨s5, e5⟩ : ∃ z, z = upR s4 275 := ⟨_, rfl⟩
  have h0 : mS0 = s5 := by rw [e5, e4, e3, e2, e1]; rfl
  rw [h0] at hm
  refine r_newO (np := 3) (N := 0) G hM hz hE hA ln_X11 rfl lc_X11 li_X11 lt_X11 (Nat.le_of_ble_eq_true rfl) (Nat.le_of_ble_eq_true rfl) s1 e1 dL_law_0 rfl (fun H hM hz => ?_)
  refine r_dup (np := 4) G dL_law_3 rfl rfl ?_
  refine m_icall (np := 7) (N2 := 253) G hM hz hE hA hl.1 (iX11_init l E s1 s2 e2.symm) lm_X11 ll_X11 ⟨(Nat.le_of_ble_eq_true rfl), (Nat.le_of_ble_eq_true rfl)⟩ ⟨(Nat.le_of_ble_eq_true rfl), (Nat.le_of_ble_eq_true rfl)⟩ (Nat.le_of_ble_eq_true rfl) dL_law_4 rfl (fun H locs hM hz => ?_)
  refine r_astore_n (np := 8) G hl rfl [(1, .ref (eA E 0)), (0, .ref b)] dL_law_7 rfl rfl (by decide) rfl (fun ls hl => ?_)
  refine r_newO (np := 11) (N := 253) G hM hz hE hA ln_X12 rfl lc_X12 li_X12 lt_X12 (Nat.le_of_ble_eq_true rfl) (Nat.le_of_ble_eq_true rfl) s3 e3 dL_law_8 rfl (fun H hM hz => ?_)
  refine r_dup (np := 12) G dL_law_11 rfl rfl ?_
  refine m_icall (np := 15) (N2 := 275) G hM hz hE hA hl.1 (iX12_init l E s3 s4 e4.symm) lm_X12 ll_X12 ⟨(Nat.le_of_ble_eq_true rfl), (Nat.le_of_ble_eq_true rfl)⟩ ⟨(Nat.le_of_ble_eq_true rfl), (Nat.le_of_ble_eq_true rfl)⟩ (Nat.le_of_ble_eq_true rfl) dL_law_12 rfl (fun H locs hM hz => ?_)
  refine r_astore_n (np := 16) G hl rfl [(2, .ref (eA E 253)), (1, .ref (eA E 0)), (0, .ref b)] dL_law_15 rfl rfl (by decide) rfl (fun ls hl => ?_)
  refine r_iconst (np := 17) G 1 dL_law_16 rfl ?_
  refine r_newP (np := 19) (N := 275) G hM hz hE hA (at0 := .long) (t := 1) (n := 1) rfl (by decide) (by decide) rfl (fun _ h => nomatch h) rfl ac_long (by decide) (fun E => rfl) (Nat.le_of_ble_eq_true rfl) (Nat.le_of_ble_eq_true rfl) s5 e5 dL_law_17 rfl (fun H hM hz => ?_)
  refine r_astore_n (np := 20) G hl rfl [(3, .ref (eA E 275)), (2, .ref (eA E 253)), (1, .ref (eA E 0)), (0, .ref b)] dL_law_19 rfl rfl (by decide) rfl (fun ls hl => ?_)
  refine r_iconst (np := 21) G 0 dL_law_20 rfl ?_
  refine r_istore (np := 23) G hl rfl [(4, vI 0), (3, .ref (eA E 275)), (2, .ref (eA E 253)), (1, .ref (eA E 0)), (0, .ref b)] dL_law_21 rfl (by decide) rfl (fun ls hl => ?_)
  refine W.widen (k := 300 + 0) (n := 4000 + 6 * 0) (by omega) (by omega) ?_
  exact wL_law_L23 l hst E (1, σF) rfl xs L hL G hr hk hX hbl 0 253 275 (fun zσ => mL_law_B1663 xs L zσ) (fun k hk5 σ H locs ls hm hM hl => wL_law_B1663 l hst E (1, σF) rfl xs L hL G hr hk hX hbl k hk5 σ H locs ls hm hM hl) mF 0 0 rfl (by omega) s5 H _ ls hm hM (lv_sub hl [4, 3, 2, 1, 0] rfl)
set_option maxHeartbeats 4000000 in
theorem lw_walk (l : Launch) (hflags : l.flags = flags0) (b : Addr) (xs : List Int32) : MetFree l x (headSpec (Jvm.Cond.code x code maxLocals ret :: tables_1) room_1) (lw_P b xs) (fun _ _ _ _ _ => True) lw_Q := by
  refine MetFree.of_bodyS (code := code) (maxLocals := maxLocals) (ret := ret) (by decide) ?_ ?_
  · intro args s m h hn
    obtain ⟨meth, c, h1, h2, h3, h4, h5, h6, -, -⟩ := Cond.code_spec hn (atoms_spec (ws := Jvm.Cond.code x code maxLocals ret :: tables_1) h _ List.mem_cons_self)
    exact ⟨meth, c, h1, h2, h3, h4, h5, h6⟩
  · intro p e s m args below meth c s₁ B hml0 hP _
    obtain ⟨rfl, hx, hbd, hgv⟩ := hP
    obtain ⟨scr, harrAt, hlist, hof, hsmall⟩ := hx
    obtain ⟨hcb, hkn, -, -⟩ := State.arrayAt?_spec harrAt
    have hown : s.vm.findClass R_law = some m.cls := findClass_of_methodNamed B.named
    have hts0 : ∀ c ∈ (Jvm.Cond.code x code maxLocals ret :: tables_1), c.before #[Value.ref b] s = true := atoms_spec (ws := Jvm.Cond.code x code maxLocals ret :: tables_1) B.pre
    have hts : ∀ w ∈ lw_tbl, w.before #[Value.ref b] s = true := k2_hts_sels lw_privs (fun w hw => hts0 w (List.mem_cons_of_mem _ hw)) lw_privs_ok
    have hml : c.maxLocals = 8 := B.maxLocals_eq (hts0 _ List.mem_cons_self)
    have X₀ : Stand p l e room_1 s m #[Value.ref b] below meth c s₁ [] 0 0 := Stand.of_body B
    have hh0 : s₁.heap = s.heap := by rw [B.state]; rfl
    have hsz : scr.slots.size = xs.length := by rw [← Array.length_toList, hlist, List.length_map]
    have hval : ∀ j : Nat, j < xs.length → scr.slots[j]? = some (.int (xs.getD j 0)) := fun j hj => by
      rw [← Array.getElem?_toList, hlist]
      simp [hj]
    have hbl : b < s.heap.size := (Array.getElem?_eq_some_iff.mp hcb).1
    have hX : va_X b xs.length (fun j => xs.getD j 0) s s.heap := ⟨scr, hcb, hof, hkn, hsz, hval⟩
    have K : W p l e room_1 s m #[Value.ref b] below meth c s₁.heap [] 0 0 (lw_Z below #[Value.ref b] s) (entryFrame m ([Value.ref b] : List Value).toArray 8) := by
      rw [hh0]
      exact whole_start l hflags hbd ⟨B.exec, B.bytes, B.returns, hml, hown, hts, hX, hbl, B.notSynchronized, hgv⟩
    obtain ⟨t, a1, o, b1, b2, b3⟩ := K s₁ rfl X₀
    exact ⟨t, o, a1, b1, b2, b3⟩
theorem lw_pre_spec {args : Array Value} {s : State} (h : (Jvm.Cond.and given_1 narrow_1).before args s = true) (hr : rest_1_c.before args s = true) : ∃ (b : Addr) (xs : List Int32), lw_P b xs args s := by
  have hs := flat_of_before _ h
  have hq := flat_of_before _ hr
  have hc : (Cond.count 1).before args s = true := hs _ (by decide +kernel)
  have harr : (Cond.arrayOf (.arg 0) .int).before args s = true := hs _ (by decide +kernel)
  have hle : (Cond.le (.length (.arg 0)) (.int 3584)).before args s = true := hs _ (by decide +kernel)
  have hlen : (Cond.isInt (.length (.arg 0))).before args s = true := hq _ (by decide +kernel)
  have hall : (Cond.all (.arg 0) (.isInt (.elem (.arg 0) (.index 0)))).before args s = true := hq _ (by decide +kernel)
  obtain ⟨b, xs, hb, hx⟩ := State.ints_of_pre rfl harr hlen hall
  have hsm : xs.length < 2 ^ 31 := hx.choose_spec.2.2.2
  have hev : (Term.length (.arg 0)).eval args s none [] s = some (.int xs.length.toInt32) := hx.length_eval hb
  have hv := Cond.le_ints hev (show (Term.int 3584).eval args s none [] s = some (.int 3584) from rfl)
  have hd : xs.length.toInt32 ≤ 3584 := by
    simpa [Cond.before, Cond.holds, hv] using hle
  have hN : xs.length ≤ 3584 := (Int32.ofNat_le_ofNat hsm (by decide)).mp (show Int32.ofNat xs.length ≤ Int32.ofNat 3584 from hd)
  exact ⟨b, xs, Cond.one_arg hc (show args[0]? = some (.ref b) from hb), hx, hN, h⟩
theorem lw_comes (l : Launch) (hflags : l.flags = flags0) : Comes l x (Jvm.Cond.code x code maxLocals ret :: tables_1) room_1 (fun tb e args s => Calls_1 tb e args s ∧ rest_1 tb e args s ∧ Pre_1 tb e args s)
    (fun _ _ args s o t => lw_Q args s o t) := by
  intro p e ha hc hk s m args below hf hfit hheap happ hpre
  obtain ⟨b, xs, hP⟩ := lw_pre_spec hpre.2.2 hpre.2.1
  obtain ⟨k, o, h1, h2, h3, hQ⟩ := lw_walk l hflags b xs p e ha hc hk s m args below hf ((Spec.applies_iff_loose hf).mp happ).1 hP trivial
  exact ⟨k, o, h1, h2, h3, hQ⟩
theorem lw_frame {s t : State} {o : Outcome} {args : Array Value} (h : Framed s o t [] 602319 7289146) :
    Framed s o t (fieldLocs frame_1_writes args s ++ arrayLocs frame_1_arrays args s ++ staticLocs frame_1_statics s) 602319 7289146 := h
theorem lw_limb (L : Cond) (hL : ∀ (args : Array Value) (s t : State), L.after args s (.returned (some (.int 1))) t = true) :
    ArmFor flags0 classFile x code maxLocals ret World_1 tables_1 room_1 Calls_1 rest_1 Pre_1
      (fun tb e a s o t => postC L tb e a s o t ∧ Framed s o t (fieldLocs frame_1_writes a s ++ arrayLocs frame_1_arrays a s ++ staticLocs frame_1_statics s) 602319 7289146) := by
  intro l hflags _ _ p e ha hc hk s m args below hf hfit hheap happ hpre
  obtain ⟨k, o, h1, h2, h3, rfl, hF⟩ := lw_comes l hflags p e ha hc hk s m args below hf hfit hheap happ hpre
  exact ⟨k, _, h1, h2, h3, hL args s _, lw_frame hF⟩
theorem i_vc : Claimed_1_1 ∧ Claimed_1_2 := ⟨lw_limb limb_1_1 (fun args s t => by simp [limb_1_1, Cond.after, Cond.holds, Cond.value]), lw_limb limb_1_2 (fun args s t => Cond.after_iff.mpr (by
  first | (rw [show limb_1_2 = Cond.eq .result (.int 1) from rfl, Cond.eq_ints (x := 1) (y := 1) rfl rfl]; simp; done) | (simp [limb_1_2, Cond.value, Term.eval]; done)))⟩

