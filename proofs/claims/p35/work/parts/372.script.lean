/-! THE SCRIPT: methods of the law that only reckon (laid by script.py) -/
def scX (b L : Nat) (xs : Nat → Int32) (U : State) : Prop := va_X b L xs U U.heap ∧ b < U.heap.size
def cQ (r : Int) : Array Value → State → Outcome → State → Prop := fun _ st oc t => oc = .returned (some (vI r)) ∧ t.heap = st.heap
def cMet (l : Launch) (y : MethodName) (cc : ByteArray) (maxL : Nat) (ret : Option FieldType) (fr lc : Nat) (As : List Value) (Pre : State → Prop) (r : Int) : Prop :=
  Met l y [.code y cc maxL ret] ({ frames := fr, cells := 0, slots := 0, locals := lc } : Room) (va_Pc As (fun U => mWords U ∧ Pre U)) (cQ r) 0 0 (fun _ => False)
def cellV (xs : Nat → Int32) (L k : Nat) : Int := if L = 0 then 0 else (xs (k % L) ^^^ Int32.ofInt (40503 * ((k / L : Nat) : Int))).toInt
def someV (xs : Nat → Int32) (L k n : Nat) : Int := (wI (oAnd (cellV xs L k) 65535)).tmod (wI (n : Int))
theorem someV_eq {xs : Nat → Int32} {L k n : Nat} : (wI (oAnd (cellV xs L k) 65535)).tmod (wI (n : Int)) = someV xs L k n := rfl
theorem someV_rng {xs : Nat → Int32} {L k n : Nat} (hn : 0 < n ∧ n ≤ 1000) : 0 ≤ someV xs L k n ∧ someV xs L k n < (n : Int) := by
  unfold someV
  have h0 : 0 ≤ oAnd (cellV xs L k) 65535 ∧ oAnd (cellV xs L k) 65535 ≤ 65535 := by
    unfold oAnd
    generalize Int32.ofInt (cellV xs L k) = z
    have h1 : (z &&& Int32.ofInt 65535).toBitVec.toNat ≤ 65535 := by
      rw [Int32.toBitVec_and, BitVec.toNat_and]
      exact Nat.and_le_right
    have h2 : (z &&& Int32.ofInt 65535).toInt = ((z &&& Int32.ofInt 65535).toBitVec.toNat : Int) := by
      rw [← Int32.toInt_toBitVec, BitVec.toInt_eq_toNat_of_lt (by omega)]
    rw [h2]
    omega
  rw [wI_eq (x := oAnd (cellV xs L k) 65535) (by omega) (by omega), wI_eq (x := (n : Int)) (by omega) (by omega), Int.tmod_eq_emod_of_nonneg h0.1]
  exact ⟨Int.emod_nonneg _ (by omega), Int.emod_lt_of_pos _ (by omega)⟩
theorem tmodN {k L : Nat} (h1 : k ≤ 1000) (h2 : L ≤ 260) (h3 : L ≠ 0) : (wI (k : Int)).tmod (wI (L : Int)) = ((k % L : Nat) : Int) := by
  rw [wI_eq (x := (k : Int)) (by omega) (by omega), wI_eq (x := (L : Int)) (by omega) (by omega), Int.tmod_eq_emod_of_nonneg (by omega)]
  rfl
theorem tdivN {k L : Nat} (h1 : k ≤ 1000) (h2 : L ≤ 260) (h3 : L ≠ 0) : (wI (k : Int)).tdiv (wI (L : Int)) = ((k / L : Nat) : Int) := by
  rw [wI_eq (x := (k : Int)) (by omega) (by omega), wI_eq (x := (L : Int)) (by omega) (by omega), Int.tdiv_eq_ediv_of_nonneg (by omega)]
  rfl
theorem cellV_eq (xs : Nat → Int32) {L k : Nat} (h : ¬ (L : Int) = 0) : Value.int (xs (k % L) ^^^ Int32.ofInt (40503 * ((k / L : Nat) : Int))) = vI (cellV xs L k) := by
  unfold cellV vI
  rw [if_neg (by omega), Int32.ofInt_toInt]
def hsqL : Nat → Int → Int → Int
  | 0, _, _ => 0
  | f + 1, k, v => if v < k * k then 0 else if v.tmod (k * k) = 0 then 1 else hsqL f (k + 1) v
def hsq (v : Int) : Int := hsqL 7 2 v
/-- the greatest without squares, from v down -/
def frL : Nat → Int → Int
  | 0, v => v
  | f + 1, v => if hsq v = 0 then v else frL f (v - 1)
def freeV (xs : Nat → Int32) (L k : Nat) : Int := if someV xs L (k + 1) 2 = 0 then frL 60 (1 + someV xs L k 60) else -(frL 60 (1 + someV xs L k 60))
section SC
variable {p : Program} {l : Launch} {e : Env} {R : Room} {s : State} {m : MethodId} {args : Array Value} {below : List Frame} {meth : Method} {c : Code} {H : Heap} {locs : List Loc} {cells slots : Nat} {Q : State → Prop}
variable {cc : ByteArray} {pc np nL : Nat} {ls : Array Slot} {rest st : List Value} {own : String} {b L : Nat} {xs : Nat → Int32} {A : Nat → Prop}
theorem scX.blind {As : List Value} : FrameBlind (va_Pc As (fun U => mWords U ∧ scX b L xs U)) := by
  rintro a U g mk ⟨h0, h1, h2, h3⟩
  have hW : U.WarmedH (U.calling g mk a).vm := State.WarmedH.refl U
  exact ⟨h0, mWords.ride hW (mWords.use (args := #[]) h1), va_X.moved (U := U.calling g mk a) hW.alike h2, h3⟩
theorem c_entry {y : MethodName} {maxL fr lc : Nat} {ret : Option FieldType} {As : List Value} {r : Int} (hy : plainFor y = true) (hA : (lg_sl As).length ≤ maxL)
    (body : ∀ (p : Program) (e : Env) (s : State) (m : MethodId) (args : Array Value) (below : List Frame) (meth : Method) (c : Code) (_ : CallFix p m c cc maxL s args mTs y.cls) (_ : meth.sig.returnType = ret) (_ : meth.locks = false) (_ : scX b L xs s) (ls : Array Slot) (_ : lv_has ls maxL (lv_args 0 As)),
      W p l e ({ frames := fr, cells := 0, slots := 0, locals := lc } : Room) s m args below meth c s.heap [] 0 0 (MQ below (cQ r) args s 0 0 (fun _ => False)) (F0 m 0 ls [])) : cMet l y cc maxL ret fr lc As (scX b L xs) r := by
  refine va_MetF (cc := cc) (maxL := maxL) (ret := ret) hy rfl ?_
  intro p e s m args below meth c s₁ B hml hv
  obtain ⟨rfl, w1, w2⟩ := hv
  rw [lg_entry_eq]
  exact body p e s m _ below meth c ⟨B.exec, B.bytes, hml, findClass_of_methodNamed B.named, mWords.use w1⟩ B.returns B.notSynchronized w2 _ (lv_entry As hA)
theorem c_iret {x r : Int} (G : CallFix p m c cc nL s args mTs own) (hr : meth.sig.returnType = some .int) (hlk : meth.locks = false) (h : x = r) (d : decode cc pc = .ok (.ireturn, 1)) : W p l e R s m args below meth c s.heap [] 0 0 (MQ below (cQ r) args s 0 0 (fun _ => False)) (F0 m pc ls [vI x]) := by
  subst h
  exact W.iret G.1 G.2.1 hr (fun t ht _ => ⟨rfl, ht⟩) (fun _ h => absurd h (List.not_mem_nil)) d hlk
theorem c_zret {x r : Int} (h01 : x = 0 ∨ x = 1) (G : CallFix p m c cc nL s args mTs own) (hr : meth.sig.returnType = some .boolean) (hlk : meth.locks = false) (h : x = r) (d : decode cc pc = .ok (.ireturn, 1)) : W p l e R s m args below meth c s.heap [] 0 0 (MQ below (cQ r) args s 0 0 (fun _ => False)) (F0 m pc ls [vI x]) := by
  subst h
  exact W.zret G.1 G.2.1 hr (by rcases h01 with rfl | rfl <;> decide) (fun t ht _ => ⟨rfl, ht⟩) (fun _ h => absurd h (List.not_mem_nil)) d hlk
theorem c_sld (G : CallFix p m c cc nL s args mTs own) (hX : scX b L xs s) {i : Int} (hi : 0 ≤ wI i ∧ wI i < (L : Int)) (d : decode cc pc = .ok (.iaload, 1)) (hn : pc + 1 = np)
    (kk : W p l e R s m args below meth c s.heap [] cells slots Q (F0 m np ls (.int (xs (Int32.ofInt i).toNatClampNeg) :: rest))) : W p l e R s m args below meth c s.heap [] cells slots Q (F0 m pc ls (vI i :: .ref b :: rest)) := by
  subst hn
  exact va_sld (A := fun _ => False) G.1 G.2.1 hX.1 hX.2 (fun h => h) va_S.rf (vp_in_iff.mpr hi) d kk
theorem c_slen (G : CallFix p m c cc nL s args mTs own) (hX : scX b L xs s) (d : decode cc pc = .ok (.arraylength, 1)) (hn : pc + 1 = np)
    (kk : W p l e R s m args below meth c s.heap [] cells slots Q (F0 m np ls (vI (L : Int) :: rest))) : W p l e R s m args below meth c s.heap [] cells slots Q (F0 m pc ls (.ref b :: rest)) := by
  subst hn
  refine va_slen (A := fun _ => False) G.1 G.2.1 hX.1 hX.2 (fun h => h) va_S.rf d ?_
  rw [show Value.int (Int32.ofNat L) = vI (L : Int) by unfold vI; rw [Int32.ofInt_eq_ofNat]]
  exact kk
theorem c_go {st0 : List Value} {a : Array Value} {r : Int} (hr : va_Run p l e R s m args below meth c H locs cells slots 0 0 (F0 m pc ls st0) rest (cQ r a) (fun _ => False)) (kk : W p l e R s m args below meth c H locs cells slots Q (F0 m (pc + 3) ls (vI r :: rest))) : W p l e R s m args below meth c H locs cells slots Q (F0 m pc ls st0) := by
  intro T hT X
  obtain ⟨v', st₀, t, T', L9, h0, X', hL9, e1, e2, ⟨hv, hh⟩, st⟩ := hr T hT X
  cases hv
  have hnil : L9 = [] := List.eq_nil_iff_forall_not_mem.mpr (fun q hq => hL9 q hq)
  subst hnil
  rw [List.append_nil] at X'
  obtain ⟨t2, a1, b1⟩ := kk T' (by rw [e1, hh, h0]) X'
  exact ⟨t2, st t2 a1, b1⟩
/-- a call that only reckons: the heap stays -/
theorem c_call (G : CallFix p m c cc nL s args mTs own) (hX : scX b L xs s) (hS : va_S A s.heap H locs) (hls : ls.size = nL) {y : MethodName} {cc' : ByteArray} {maxL fr lc ix : Nat} {ret : Option FieldType} {r : Int} (As : List Value) (hc : cMet l y cc' maxL ret fr lc As (scX b L xs) r) (hY : mYS y cc' maxL ret As.length) (hw : Cond.methodLink own ix y ∈ mTs)
    (hroom : fr + 1 ≤ R.frames ∧ 8 + (maxL + 11) + lc ≤ R.locals) (hcs : cells + 0 ≤ R.cells ∧ slots + 0 ≤ R.slots) (rest : List Value)
    (hst : st = As.reverse ++ rest) (hcat : (rest.map fun v => v.category).sum ≤ 8) (d : decode cc pc = .ok (.invokestatic ix, 3)) (hn : pc + 3 = np) (kk : W p l e R s m args below meth c H locs cells slots Q (F0 m np ls (vI r :: rest))) (hA : ¬ A b := by exact fun h => h) : W p l e R s m args below meth c H locs cells slots Q (F0 m pc ls st) := by
  subst hn
  subst hst
  have hW0 : mWords s := mWords.ride (State.WarmedH.refl s) G.2.2.2.2
  exact c_go (va_runS (As := As) (rest := rest) G hc ⟨j_cb G hY.1 hw hroom, G.2.2.2.2 _ hY.2⟩ ⟨scX.blind, fun U hU hW => ⟨rfl, mWords.ride hW (mWords.use (args := #[]) hW0), va_X.moved hW.alike (by rw [hU]; exact hX.1.kept (hS.2.1 b hX.2 hA)), by rw [hU]; exact Nat.lt_of_lt_of_le hX.2 hS.1⟩⟩ rfl rfl hls rfl (lv_room hcat) d hcs) kk
end SC
theorem kL_7 : Cond.constant RL 7 40503 ∈ mTs := mTs_in 450 (by decide +kernel) (by decide +kernel)
theorem ljL_8 : Cond.methodLink RL 8 yL_cell ∈ mTs := mTs_in 447 (by decide +kernel) (by decide +kernel)
theorem jbL_cell : mY yL_cell cL_cell 2 (some .int) 2 := ⟨mTs_in 449 (by decide +kernel) (by decide +kernel), mTs_in 29 (by decide +kernel) (by decide +kernel), ⟨by decide, by decide⟩, by decide +kernel⟩
theorem jsL_cell : mYS yL_cell cL_cell 2 (some .int) 2 := ⟨jbL_cell, mTs_in 448 (by decide +kernel) (by decide +kernel)⟩
theorem kL_14 : Cond.constant RL 14 65535 ∈ mTs := mTs_in 451 (by decide +kernel) (by decide +kernel)
theorem jbL_hasSquare : mY yL_hasSquare cL_hasSquare 2 (some .boolean) 1 := ⟨mTs_in 767 (by decide +kernel) (by decide +kernel), mTs_in 29 (by decide +kernel) (by decide +kernel), ⟨by decide, by decide⟩, by decide +kernel⟩
theorem jsL_hasSquare : mYS yL_hasSquare cL_hasSquare 2 (some .boolean) 1 := ⟨jbL_hasSquare, mTs_in 766 (by decide +kernel) (by decide +kernel)⟩
theorem ljL_39 : Cond.methodLink RL 39 yL_hasSquare ∈ mTs := mTs_in 765 (by decide +kernel) (by decide +kernel)
theorem ljL_35 : Cond.methodLink RL 35 yL_some ∈ mTs := mTs_in 444 (by decide +kernel) (by decide +kernel)
theorem jbL_some : mY yL_some cL_some 3 (some .int) 3 := ⟨mTs_in 446 (by decide +kernel) (by decide +kernel), mTs_in 29 (by decide +kernel) (by decide +kernel), ⟨by decide, by decide⟩, by decide +kernel⟩
theorem jsL_some : mYS yL_some cL_some 3 (some .int) 3 := ⟨jbL_some, mTs_in 445 (by decide +kernel) (by decide +kernel)⟩
theorem dL_cell_0 : decode cL_cell 0 = .ok (.aload_n 0, 1) := by decide +kernel
theorem dL_cell_1 : decode cL_cell 1 = .ok (.arraylength, 1) := by decide +kernel
theorem dL_cell_2 : decode cL_cell 2 = .ok (.ifCond .ne 7, 3) := by decide +kernel
theorem dL_cell_5 : decode cL_cell 5 = .ok (.iconst 0, 1) := by decide +kernel
theorem dL_cell_6 : decode cL_cell 6 = .ok (.goto 17, 3) := by decide +kernel
theorem dL_cell_9 : decode cL_cell 9 = .ok (.aload_n 0, 1) := by decide +kernel
theorem dL_cell_10 : decode cL_cell 10 = .ok (.iload_n 1, 1) := by decide +kernel
theorem dL_cell_11 : decode cL_cell 11 = .ok (.aload_n 0, 1) := by decide +kernel
theorem dL_cell_12 : decode cL_cell 12 = .ok (.arraylength, 1) := by decide +kernel
theorem dL_cell_13 : decode cL_cell 13 = .ok (.irem, 1) := by decide +kernel
theorem dL_cell_14 : decode cL_cell 14 = .ok (.iaload, 1) := by decide +kernel
theorem dL_cell_15 : decode cL_cell 15 = .ok (.ldc 7, 2) := by decide +kernel
theorem dL_cell_17 : decode cL_cell 17 = .ok (.iload_n 1, 1) := by decide +kernel
theorem dL_cell_18 : decode cL_cell 18 = .ok (.aload_n 0, 1) := by decide +kernel
theorem dL_cell_19 : decode cL_cell 19 = .ok (.arraylength, 1) := by decide +kernel
theorem dL_cell_20 : decode cL_cell 20 = .ok (.idiv, 1) := by decide +kernel
theorem dL_cell_21 : decode cL_cell 21 = .ok (.imul, 1) := by decide +kernel
theorem dL_cell_22 : decode cL_cell 22 = .ok (.ixor, 1) := by decide +kernel
theorem dL_cell_23 : decode cL_cell 23 = .ok (.ireturn, 1) := by decide +kernel
theorem dL_some_0 : decode cL_some 0 = .ok (.aload_n 0, 1) := by decide +kernel
theorem dL_some_1 : decode cL_some 1 = .ok (.iload_n 1, 1) := by decide +kernel
theorem dL_some_2 : decode cL_some 2 = .ok (.invokestatic 8, 3) := by decide +kernel
theorem dL_some_5 : decode cL_some 5 = .ok (.ldc 14, 2) := by decide +kernel
theorem dL_some_7 : decode cL_some 7 = .ok (.iand, 1) := by decide +kernel
theorem dL_some_8 : decode cL_some 8 = .ok (.iload_n 2, 1) := by decide +kernel
theorem dL_some_9 : decode cL_some 9 = .ok (.irem, 1) := by decide +kernel
theorem dL_some_10 : decode cL_some 10 = .ok (.ireturn, 1) := by decide +kernel
theorem dL_hasSquare_0 : decode cL_hasSquare 0 = .ok (.iconst 2, 1) := by decide +kernel
theorem dL_hasSquare_1 : decode cL_hasSquare 1 = .ok (.istore_n 1, 1) := by decide +kernel
theorem dL_hasSquare_2 : decode cL_hasSquare 2 = .ok (.iload_n 1, 1) := by decide +kernel
theorem dL_hasSquare_3 : decode cL_hasSquare 3 = .ok (.iload_n 1, 1) := by decide +kernel
theorem dL_hasSquare_4 : decode cL_hasSquare 4 = .ok (.imul, 1) := by decide +kernel
theorem dL_hasSquare_5 : decode cL_hasSquare 5 = .ok (.iload_n 0, 1) := by decide +kernel
theorem dL_hasSquare_6 : decode cL_hasSquare 6 = .ok (.if_icmp .gt 19, 3) := by decide +kernel
theorem dL_hasSquare_9 : decode cL_hasSquare 9 = .ok (.iload_n 0, 1) := by decide +kernel
theorem dL_hasSquare_10 : decode cL_hasSquare 10 = .ok (.iload_n 1, 1) := by decide +kernel
theorem dL_hasSquare_11 : decode cL_hasSquare 11 = .ok (.iload_n 1, 1) := by decide +kernel
theorem dL_hasSquare_12 : decode cL_hasSquare 12 = .ok (.imul, 1) := by decide +kernel
theorem dL_hasSquare_13 : decode cL_hasSquare 13 = .ok (.irem, 1) := by decide +kernel
theorem dL_hasSquare_14 : decode cL_hasSquare 14 = .ok (.ifCond .ne 5, 3) := by decide +kernel
theorem dL_hasSquare_17 : decode cL_hasSquare 17 = .ok (.iconst 1, 1) := by decide +kernel
theorem dL_hasSquare_18 : decode cL_hasSquare 18 = .ok (.ireturn, 1) := by decide +kernel
theorem dL_hasSquare_19 : decode cL_hasSquare 19 = .ok (.iinc 1 1, 3) := by decide +kernel
theorem dL_hasSquare_22 : decode cL_hasSquare 22 = .ok (.goto (-20), 3) := by decide +kernel
theorem dL_hasSquare_25 : decode cL_hasSquare 25 = .ok (.iconst 0, 1) := by decide +kernel
theorem dL_hasSquare_26 : decode cL_hasSquare 26 = .ok (.ireturn, 1) := by decide +kernel
theorem dL_free_0 : decode cL_free 0 = .ok (.iconst 1, 1) := by decide +kernel
theorem dL_free_1 : decode cL_free 1 = .ok (.aload_n 0, 1) := by decide +kernel
theorem dL_free_2 : decode cL_free 2 = .ok (.iload_n 1, 1) := by decide +kernel
theorem dL_free_3 : decode cL_free 3 = .ok (.iload_n 2, 1) := by decide +kernel
theorem dL_free_4 : decode cL_free 4 = .ok (.invokestatic 35, 3) := by decide +kernel
theorem dL_free_7 : decode cL_free 7 = .ok (.iadd, 1) := by decide +kernel
theorem dL_free_8 : decode cL_free 8 = .ok (.istore_n 3, 1) := by decide +kernel
theorem dL_free_9 : decode cL_free 9 = .ok (.iload_n 3, 1) := by decide +kernel
theorem dL_free_10 : decode cL_free 10 = .ok (.invokestatic 39, 3) := by decide +kernel
theorem dL_free_13 : decode cL_free 13 = .ok (.ifCond .eq 9, 3) := by decide +kernel
theorem dL_free_16 : decode cL_free 16 = .ok (.iinc 3 (-1), 3) := by decide +kernel
theorem dL_free_19 : decode cL_free 19 = .ok (.goto (-10), 3) := by decide +kernel
theorem dL_free_22 : decode cL_free 22 = .ok (.aload_n 0, 1) := by decide +kernel
theorem dL_free_23 : decode cL_free 23 = .ok (.iload_n 1, 1) := by decide +kernel
theorem dL_free_24 : decode cL_free 24 = .ok (.iconst 1, 1) := by decide +kernel
theorem dL_free_25 : decode cL_free 25 = .ok (.iadd, 1) := by decide +kernel
theorem dL_free_26 : decode cL_free 26 = .ok (.iconst 2, 1) := by decide +kernel
theorem dL_free_27 : decode cL_free 27 = .ok (.invokestatic 35, 3) := by decide +kernel
theorem dL_free_30 : decode cL_free 30 = .ok (.ifCond .ne 7, 3) := by decide +kernel
theorem dL_free_33 : decode cL_free 33 = .ok (.iload_n 3, 1) := by decide +kernel
theorem dL_free_34 : decode cL_free 34 = .ok (.goto 5, 3) := by decide +kernel
theorem dL_free_37 : decode cL_free 37 = .ok (.iload_n 3, 1) := by decide +kernel
theorem dL_free_38 : decode cL_free 38 = .ok (.ineg, 1) := by decide +kernel
theorem dL_free_39 : decode cL_free 39 = .ok (.ireturn, 1) := by decide +kernel
set_option maxRecDepth 100000 in
set_option maxHeartbeats 1000000 in
theorem cl_cell (l : Launch) (b L : Nat) (xs : Nat → Int32) (hL : L ≤ 260) (k : Nat) (hk9 : k ≤ 1000) : cMet l yL_cell cL_cell 2 (some .int) 0 12 [.ref b, vI ((k : Int))] (scX b L xs) (cellV xs L k) := by
  refine c_entry (by decide +kernel) (Nat.le_of_ble_eq_true rfl) (fun p e s m args below meth c G hr hk hX ls hl => ?_)
  have G : CallFix p m c cL_cell 2 s args mTs RL := G
  have hl : lv_has ls 2 [(0, .ref b), (1, vI ((k : Int)))] := hl
  refine r_aload_n (np := 1) G hl 0 rfl dL_cell_0 rfl rfl ?_
  refine c_slen (np := 2) G hX dL_cell_1 rfl ?_
  refine r_if_ne (np := 5) (tgt := 9) G (wI_eq (by omega) (by omega)) dL_cell_2 (by decide) rfl (fun hc => ?_) (fun hc => ?_)
  ·
    refine r_aload_n (np := 10) G hl 0 rfl dL_cell_9 rfl rfl ?_
    refine r_iload_n (np := 11) G hl 1 rfl dL_cell_10 rfl rfl ?_
    refine r_aload_n (np := 12) G hl 0 rfl dL_cell_11 rfl rfl ?_
    refine c_slen (np := 13) G hX dL_cell_12 rfl ?_
    refine r_irem (np := 14) G (by rw [wI_eq (by omega) (by omega)]; omega) dL_cell_13 rfl ?_
    rw [tmodN (k := k) (L := L) (by omega) (by omega) (by omega)]
    refine c_sld (np := 15) G hX (i := ((k % L : Nat) : Int)) (by have := Nat.mod_lt k (show 0 < L by omega); rw [wI_eq (by omega) (by omega)]; omega) dL_cell_14 rfl ?_
    rw [(clampNat (n := k % L) (by have := Nat.mod_lt k (show 0 < L by omega); omega)).1]
    refine r_ldc (np := 17) G 40503 dL_cell_15 kL_7 rfl rfl ?_
    refine r_iload_n (np := 18) G hl 1 rfl dL_cell_17 rfl rfl ?_
    refine r_aload_n (np := 19) G hl 0 rfl dL_cell_18 rfl rfl ?_
    refine c_slen (np := 20) G hX dL_cell_19 rfl ?_
    refine r_idiv (np := 21) G (by rw [wI_eq (by omega) (by omega)]; omega) dL_cell_20 rfl ?_
    rw [tdivN (k := k) (L := L) (by omega) (by omega) (by omega)]
    refine r_imul (np := 22) G dL_cell_21 rfl ?_
    refine lv_ixor G.1 G.2.1 dL_cell_22 ?_
    rw [cellV_eq xs (k := k) hc]
    exact c_iret G hr hk (rfl) dL_cell_23
  ·
    refine r_iconst (np := 6) G (0) dL_cell_5 rfl ?_
    refine r_goto (np := 23) G dL_cell_6 (by decide) ?_
    exact c_iret G hr hk (by unfold cellV; rw [if_pos (by omega)]) dL_cell_23
set_option maxRecDepth 100000 in
set_option maxHeartbeats 1000000 in
theorem cl_some (l : Launch) (b L : Nat) (xs : Nat → Int32) (hL : L ≤ 260) (k n : Nat) (hk9 : k ≤ 1000) (hn : 0 < n ∧ n ≤ 1000) : cMet l yL_some cL_some 3 (some .int) 1 33 [.ref b, vI ((k : Int)), vI ((n : Int))] (scX b L xs) (someV xs L k n) := by
  refine c_entry (by decide +kernel) (Nat.le_of_ble_eq_true rfl) (fun p e s m args below meth c G hr hk hX ls hl => ?_)
  have G : CallFix p m c cL_some 3 s args mTs RL := G
  have hl : lv_has ls 3 [(0, .ref b), (1, vI ((k : Int))), (2, vI ((n : Int)))] := hl
  refine r_aload_n (np := 1) G hl 0 rfl dL_some_0 rfl rfl ?_
  refine r_iload_n (np := 2) G hl 1 rfl dL_some_1 rfl rfl ?_
  refine c_call (A := fun _ => False) (np := 5) G hX va_S.rf hl.1 [.ref b, vI ((k : Int))] (cl_cell l b L xs hL k hk9) jsL_cell ljL_8 ⟨(Nat.le_of_ble_eq_true rfl), (Nat.le_of_ble_eq_true rfl)⟩ ⟨(Nat.le_of_ble_eq_true rfl), (Nat.le_of_ble_eq_true rfl)⟩ [] rfl (Nat.le_of_ble_eq_true rfl) dL_some_2 rfl ?_ (fun h => h)
  refine r_ldc (np := 7) G 65535 dL_some_5 kL_14 rfl rfl ?_
  refine r_iand (np := 8) G dL_some_7 rfl ?_
  refine r_iload_n (np := 9) G hl 2 rfl dL_some_8 rfl rfl ?_
  refine r_irem (np := 10) G (by rw [wI_eq (by omega) (by omega)]; omega) dL_some_9 rfl ?_
  rw [someV_eq]
  exact c_iret G hr hk (rfl) dL_some_10
set_option maxHeartbeats 1000000 in
theorem hq_loop (l : Launch) {E0 : Nat} {v : Int} (hv : 1 ≤ v ∧ v ≤ 60) {p : Program} {e : Env} {s : State} {m : MethodId} {args : Array Value} {below : List Frame} {meth : Method} {c : Code} (G : CallFix p m c cL_hasSquare 2 s args mTs RL) (hr : meth.sig.returnType = some .boolean) (hk : meth.locks = false) {fr lc : Nat} : ∀ (f : Nat) (k : Int) (ls : Array Slot), 2 ≤ k → k + f = 9 → lv_has ls 2 [(1, vI k), (0, vI v)] → W p l e ({ frames := fr, cells := 0, slots := 0, locals := lc } : Room) s m args below meth c s.heap [] 0 0 (MQ below (cQ (hsqL f k v)) args s 0 0 (fun _ => False)) (F0 m 2 ls []) := by
  intro f
  induction f with
  | zero =>
    intro k ls h2 h9 hl
    obtain rfl : k = 9 := by omega
    refine r_iload_n (np := 3) G hl 0 rfl dL_hasSquare_2 rfl rfl ?_
    refine r_iload_n (np := 4) G hl 0 rfl dL_hasSquare_3 rfl rfl ?_
    refine r_imul (np := 5) G dL_hasSquare_4 rfl ?_
    refine r_iload_n (np := 6) G hl 1 rfl dL_hasSquare_5 rfl rfl ?_
    refine r_icmp_gt (np := 9) (tgt := 25) G (wI_eq (by omega) (by omega)) (wI_eq (by omega) (by omega)) dL_hasSquare_6 (by decide) rfl (fun hc => ?_) (fun hc => False.elim (by omega))
    refine r_iconst (np := 26) G 0 dL_hasSquare_25 rfl ?_
    exact c_zret (by decide) G hr hk rfl dL_hasSquare_26
  | succ f ih =>
    intro k ls h2 h9 hl
    have hk2 : 4 ≤ k * k ∧ k * k ≤ 64 := by
      have : k = 2 ∨ k = 3 ∨ k = 4 ∨ k = 5 ∨ k = 6 ∨ k = 7 ∨ k = 8 := by omega
      rcases this with rfl | rfl | rfl | rfl | rfl | rfl | rfl <;> decide
    refine r_iload_n (np := 3) G hl 0 rfl dL_hasSquare_2 rfl rfl ?_
    refine r_iload_n (np := 4) G hl 0 rfl dL_hasSquare_3 rfl rfl ?_
    refine r_imul (np := 5) G dL_hasSquare_4 rfl ?_
    refine r_iload_n (np := 6) G hl 1 rfl dL_hasSquare_5 rfl rfl ?_
    refine r_icmp_gt (np := 9) (tgt := 25) G (wI_eq (by omega) (by omega)) (wI_eq (by omega) (by omega)) dL_hasSquare_6 (by decide) rfl (fun hc => ?_) (fun hc => ?_)
    · refine r_iconst (np := 26) G 0 dL_hasSquare_25 rfl ?_
      exact c_zret (by decide) G hr hk (by show _ = (if v < k * k then (0 : Int) else _); rw [if_pos hc]) dL_hasSquare_26
    · refine r_iload_n (np := 10) G hl 1 rfl dL_hasSquare_9 rfl rfl ?_
      refine r_iload_n (np := 11) G hl 0 rfl dL_hasSquare_10 rfl rfl ?_
      refine r_iload_n (np := 12) G hl 0 rfl dL_hasSquare_11 rfl rfl ?_
      refine r_imul (np := 13) G dL_hasSquare_12 rfl ?_
      refine r_irem (np := 14) G (by rw [wI_eq (by omega) (by omega)]; omega) dL_hasSquare_13 rfl ?_
      rw [wI_eq (x := v) (by omega) (by omega), wI_eq (x := k * k) (by omega) (by omega)]
      have hb : -2147483648 ≤ v.tmod (k * k) ∧ v.tmod (k * k) < 2147483648 := by
        rw [Int.tmod_eq_emod_of_nonneg (by omega)]
        have h1 := Int.emod_nonneg v (show k * k ≠ 0 by omega)
        have h3 := Int.emod_lt_of_pos v (show 0 < k * k by omega)
        omega
      refine r_if_ne (np := 17) (tgt := 19) G (wI_eq hb.1 hb.2) dL_hasSquare_14 (by decide) rfl (fun hd => ?_) (fun hd => ?_)
      · refine r_iinc (np := 22) G hl 0 rfl (y := k + 1) rfl [(1, vI (k + 1)), (0, vI v)] dL_hasSquare_19 rfl (by decide) rfl (fun ls hl => ?_)
        refine r_goto (np := 2) G dL_hasSquare_22 (by decide) ?_
        have := ih (k + 1) ls (by omega) (by omega) hl
        have e1 : hsqL (f + 1) k v = hsqL f (k + 1) v := by
          show (if v < k * k then (0 : Int) else if v.tmod (k * k) = 0 then 1 else hsqL f (k + 1) v) = _
          rw [if_neg hc, if_neg hd]
        rw [e1]
        exact this
      · refine r_iconst (np := 18) G 1 dL_hasSquare_17 rfl ?_
        exact c_zret (by decide) G hr hk (by show _ = (if v < k * k then (0 : Int) else if v.tmod (k * k) = 0 then (1 : Int) else _); rw [if_neg hc, if_pos hd]) dL_hasSquare_18
set_option maxRecDepth 100000 in
set_option maxHeartbeats 1000000 in
theorem cl_hsq (l : Launch) (b L : Nat) (xs : Nat → Int32) (hL : L ≤ 260) (v : Int) (hv : 1 ≤ v ∧ v ≤ 60) : cMet l yL_hasSquare cL_hasSquare 2 (some .boolean) 0 12 [vI (v)] (scX b L xs) (hsq v) := by
  refine c_entry (by decide +kernel) (Nat.le_of_ble_eq_true rfl) (fun p e s m args below meth c G hr hk hX ls hl => ?_)
  have G : CallFix p m c cL_hasSquare 2 s args mTs RL := G
  have hl : lv_has ls 2 [(0, vI (v))] := hl
  refine r_iconst (np := 1) G (2) dL_hasSquare_0 rfl ?_
  refine r_istore_n (np := 2) G hl (rfl) [(1, vI (2)), (0, vI (v))] dL_hasSquare_1 rfl rfl (by decide) rfl (fun ls hl => ?_)
  exact hq_loop l (E0 := 0) hv G hr hk 7 2 ls (by decide) (by decide) hl
theorem hsqL_01 : ∀ (f : Nat) (k v : Int), hsqL f k v = 0 ∨ hsqL f k v = 1
  | 0, _, _ => Or.inl rfl
  | f + 1, k, v => by
    show (if v < k * k then (0 : Int) else if v.tmod (k * k) = 0 then 1 else hsqL f (k + 1) v) = 0 ∨ (if v < k * k then (0 : Int) else if v.tmod (k * k) = 0 then 1 else hsqL f (k + 1) v) = 1
    by_cases h1 : v < k * k
    · rw [if_pos h1]; exact Or.inl rfl
    · rw [if_neg h1]
      by_cases h2 : v.tmod (k * k) = 0
      · rw [if_pos h2]; exact Or.inr rfl
      · rw [if_neg h2]; exact hsqL_01 f (k + 1) v
set_option maxHeartbeats 1000000 in
theorem fr_loop (l : Launch) (b L : Nat) (xs : Nat → Int32) (hL : L ≤ 260) {k : Nat} {p : Program} {e : Env} {s : State} {m : MethodId} {args : Array Value} {below : List Frame} {meth : Method} {c : Code} (G : CallFix p m c cL_free 4 s args mTs RL) (hX : scX b L xs s) {R : Room} {Q : State → Prop} (hR : 1 ≤ R.frames ∧ 100 ≤ R.locals) : ∀ (f : Nat) (v : Int) (ls : Array Slot), 1 ≤ v → v ≤ 60 → v ≤ f → lv_has ls 4 [(3, vI v), (0, .ref b), (1, vI (k : Int)), (2, vI 60)] → (∀ ls : Array Slot, lv_has ls 4 [(3, vI (frL f v)), (0, .ref b), (1, vI (k : Int)), (2, vI 60)] → W p l e R s m args below meth c s.heap [] 0 0 Q (F0 m 22 ls [])) → W p l e R s m args below meth c s.heap [] 0 0 Q (F0 m 9 ls []) := by
  intro f
  induction f with
  | zero => intro v ls h1 h2 h3; omega
  | succ f ih =>
    intro v ls h1 h2 h3 hl kk
    have h01 : hsq v = 0 ∨ hsq v = 1 := hsqL_01 7 2 v
    refine r_iload_n (np := 10) G hl 0 rfl dL_free_9 rfl rfl ?_
    refine c_call (A := fun _ => False) (np := 13) G hX va_S.rf hl.1 [vI v] (cl_hsq l b L xs hL v ⟨h1, h2⟩) jsL_hasSquare ljL_39 ⟨by show 0 + 1 ≤ _; omega, by show 8 + (2 + 11) + 12 ≤ _; omega⟩ ⟨by omega, by omega⟩ [] rfl (Nat.le_of_ble_eq_true rfl) dL_free_10 rfl ?_ (fun h => h)
    refine r_if_eq (np := 16) (tgt := 22) G (wI_eq (by omega) (by omega)) dL_free_13 (by decide) rfl (fun hc => ?_) (fun hc => ?_)
    · refine kk ls ?_
      rw [show frL (f + 1) v = v from by show (if hsq v = 0 then v else frL f (v - 1)) = v; rw [if_pos hc]]
      exact hl
    · have hv1 : v ≠ 1 := by rintro rfl; exact hc (by decide)
      refine r_iinc (np := 19) G hl 0 rfl (y := v - 1) (by omega) [(3, vI (v - 1)), (0, .ref b), (1, vI (k : Int)), (2, vI 60)] dL_free_16 rfl (by decide) rfl (fun ls hl => ?_)
      refine r_goto (np := 9) G dL_free_19 (by decide) ?_
      refine ih (v - 1) ls (by omega) (by omega) (by omega) hl (fun ls hl => kk ls ?_)
      rw [show frL (f + 1) v = frL f (v - 1) from by show (if hsq v = 0 then v else frL f (v - 1)) = _; rw [if_neg hc]]
      exact hl
set_option maxRecDepth 100000 in
set_option maxHeartbeats 1000000 in
theorem cl_free (l : Launch) (b L : Nat) (xs : Nat → Int32) (hL : L ≤ 260) (k : Nat) (hk9 : k ≤ 900) : cMet l yL_free cL_free 4 (some .int) 3 120 [.ref b, vI ((k : Int)), vI (60)] (scX b L xs) (freeV xs L k) := by
  refine c_entry (by decide +kernel) (Nat.le_of_ble_eq_true rfl) (fun p e s m args below meth c G hr hk hX ls hl => ?_)
  have G : CallFix p m c cL_free 4 s args mTs RL := G
  have hl : lv_has ls 4 [(0, .ref b), (1, vI ((k : Int))), (2, vI (60))] := hl
  have hr1 := someV_rng (xs := xs) (L := L) (k := k) (n := 60) (by decide)
  have hr2 := someV_rng (xs := xs) (L := L) (k := k + 1) (n := 2) (by decide)
  refine r_iconst (np := 1) G (1) dL_free_0 rfl ?_
  refine r_aload_n (np := 2) G hl 0 rfl dL_free_1 rfl rfl ?_
  refine r_iload_n (np := 3) G hl 1 rfl dL_free_2 rfl rfl ?_
  refine r_iload_n (np := 4) G hl 2 rfl dL_free_3 rfl rfl ?_
  refine c_call (A := fun _ => False) (np := 7) G hX va_S.rf hl.1 [.ref b, vI ((k : Int)), vI (60)] (cl_some l b L xs hL k 60 (by omega) (by decide)) jsL_some ljL_35 ⟨(Nat.le_of_ble_eq_true rfl), (Nat.le_of_ble_eq_true rfl)⟩ ⟨(Nat.le_of_ble_eq_true rfl), (Nat.le_of_ble_eq_true rfl)⟩ [vI (1)] rfl (Nat.le_of_ble_eq_true rfl) dL_free_4 rfl ?_ (fun h => h)
  refine r_iadd (np := 8) G dL_free_7 rfl ?_
  refine r_istore_n (np := 9) G hl (rfl) [(3, vI ((1 + someV xs L k 60))), (0, .ref b), (1, vI ((k : Int))), (2, vI (60))] dL_free_8 rfl rfl (by decide) rfl (fun ls hl => ?_)
  refine fr_loop l b L xs hL G hX (by decide) 60 (1 + someV xs L k 60) ls (by omega) (by omega) (by omega) (lv_sub hl [0, 1, 2, 3] rfl) (fun ls hl => ?_)
  refine r_aload_n (np := 23) G hl 1 rfl dL_free_22 rfl rfl ?_
  refine r_iload_n (np := 24) G hl 2 rfl dL_free_23 rfl rfl ?_
  refine r_iconst (np := 25) G (1) dL_free_24 rfl ?_
  refine r_iadd (np := 26) G dL_free_25 rfl ?_
  refine r_iconst (np := 27) G (2) dL_free_26 rfl ?_
  rw [show (k : Int) + 1 = ((k + 1 : Nat) : Int) from rfl]
  refine c_call (A := fun _ => False) (np := 30) G hX va_S.rf hl.1 [.ref b, vI (((k + 1 : Nat) : Int)), vI (2)] (cl_some l b L xs hL (k + 1) 2 (by omega) (by decide)) jsL_some ljL_35 ⟨(Nat.le_of_ble_eq_true rfl), (Nat.le_of_ble_eq_true rfl)⟩ ⟨(Nat.le_of_ble_eq_true rfl), (Nat.le_of_ble_eq_true rfl)⟩ [] rfl (Nat.le_of_ble_eq_true rfl) dL_free_27 rfl ?_ (fun h => h)
  refine r_if_ne (np := 33) (tgt := 37) G (wI_eq (by omega) (by omega)) dL_free_30 (by decide) rfl (fun hc => ?_) (fun hc => ?_)
  ·
    refine r_iload_n (np := 38) G hl 0 rfl dL_free_37 rfl rfl ?_
    refine r_ineg (np := 39) G dL_free_38 rfl ?_
    exact c_iret G hr hk (by unfold freeV; rw [if_neg hc]) dL_free_39
  ·
    refine r_iload_n (np := 34) G hl 0 rfl dL_free_33 rfl rfl ?_
    refine r_goto (np := 39) G dL_free_34 (by decide) ?_
    exact c_iret G hr hk (by unfold freeV; rw [if_pos hc]) dL_free_39
