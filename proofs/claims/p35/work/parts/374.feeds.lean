theorem jbX11_feed : mY yX11_feed cX11_feed 6 (some .int) 5 := ⟨mTs_in 506 (by decide +kernel) (by decide +kernel), mTs_in 30 (by decide +kernel) (by decide +kernel), ⟨by decide, by decide⟩, by decide +kernel⟩
theorem mvX11_feed : mYV yX11_feed cX11_feed 6 (some .int) 5 := ⟨jbX11_feed, mTs_in 504 (by decide +kernel) (by decide +kernel), mTs_in 505 (by decide +kernel) (by decide +kernel)⟩
theorem jbX11_text : mY yX11_text cX11_text 4 (some .int) 1 := ⟨mTs_in 514 (by decide +kernel) (by decide +kernel), mTs_in 30 (by decide +kernel) (by decide +kernel), ⟨by decide, by decide⟩, by decide +kernel⟩
theorem mvX11_text : mYV yX11_text cX11_text 4 (some .int) 1 := ⟨jbX11_text, mTs_in 512 (by decide +kernel) (by decide +kernel), mTs_in 513 (by decide +kernel) (by decide +kernel)⟩
theorem jbJ0_charAt_5068e : mY yJ0_charAt_5068e cJ0_charAt_5068e 2 (some .char) 1 := ⟨mTs_in 468 (by decide +kernel) (by decide +kernel), mTs_in 43 (by decide +kernel) (by decide +kernel), ⟨by decide, by decide⟩, by decide +kernel⟩
theorem jiJ0_charAt_5068e : Cond.instanceMethod yJ0_charAt_5068e ∈ mTs := mTs_in 466 (by decide +kernel) (by decide +kernel)
theorem jvJ0_charAt_5068e : jYV "java/lang/String" yJ0_charAt_5068e cJ0_charAt_5068e 2 (some .char) 1 := ⟨jbJ0_charAt_5068e, jiJ0_charAt_5068e, Or.inl (mTs_in 467 (by decide +kernel) (by decide +kernel))⟩
theorem w_ac_int : Cond.arrayClass .int ∈ mTs := mTs_in 126 (by decide +kernel) (by decide +kernel)
theorem ljL_15 : Cond.methodLink RL 15 yJ0_length_8abf5 ∈ mTs := mTs_in 455 (by decide +kernel) (by decide +kernel)
theorem ljL_21 : Cond.methodLink RL 21 yJ0_charAt_5068e ∈ mTs := mTs_in 465 (by decide +kernel) (by decide +kernel)
theorem ljL_25 : Cond.methodLink RL 25 yX11_feed ∈ mTs := mTs_in 503 (by decide +kernel) (by decide +kernel)
theorem ljL_31 : Cond.methodLink RL 31 yX11_text ∈ mTs := mTs_in 511 (by decide +kernel) (by decide +kernel)
theorem dL_feeds_0 : decode cL_feeds 0 = .ok (.aload_n 1, 1) := by decide +kernel
theorem dL_feeds_1 : decode cL_feeds 1 = .ok (.invokevirtual 15, 3) := by decide +kernel
theorem dL_feeds_4 : decode cL_feeds 4 = .ok (.istore_n 2, 1) := by decide +kernel
theorem dL_feeds_5 : decode cL_feeds 5 = .ok (.iconst 0, 1) := by decide +kernel
theorem dL_feeds_6 : decode cL_feeds 6 = .ok (.istore_n 3, 1) := by decide +kernel
theorem dL_feeds_7 : decode cL_feeds 7 = .ok (.iload_n 3, 1) := by decide +kernel
theorem dL_feeds_8 : decode cL_feeds 8 = .ok (.iload_n 2, 1) := by decide +kernel
theorem dL_feeds_9 : decode cL_feeds 9 = .ok (.if_icmp .ge 94, 3) := by decide +kernel
theorem dL_feeds_12 : decode cL_feeds 12 = .ok (.iconst 5, 1) := by decide +kernel
theorem dL_feeds_13 : decode cL_feeds 13 = .ok (.newarray .int, 2) := by decide +kernel
theorem dL_feeds_15 : decode cL_feeds 15 = .ok (.astore 4, 2) := by decide +kernel
theorem dL_feeds_17 : decode cL_feeds 17 = .ok (.iconst 0, 1) := by decide +kernel
theorem dL_feeds_18 : decode cL_feeds 18 = .ok (.istore 5, 2) := by decide +kernel
theorem dL_feeds_20 : decode cL_feeds 20 = .ok (.iload 5, 2) := by decide +kernel
theorem dL_feeds_22 : decode cL_feeds 22 = .ok (.bipush 20, 2) := by decide +kernel
theorem dL_feeds_24 : decode cL_feeds 24 = .ok (.if_icmp .ge 48, 3) := by decide +kernel
theorem dL_feeds_27 : decode cL_feeds 27 = .ok (.aload 4, 2) := by decide +kernel
theorem dL_feeds_29 : decode cL_feeds 29 = .ok (.iload 5, 2) := by decide +kernel
theorem dL_feeds_31 : decode cL_feeds 31 = .ok (.iconst 4, 1) := by decide +kernel
theorem dL_feeds_32 : decode cL_feeds 32 = .ok (.idiv, 1) := by decide +kernel
theorem dL_feeds_33 : decode cL_feeds 33 = .ok (.aload 4, 2) := by decide +kernel
theorem dL_feeds_35 : decode cL_feeds 35 = .ok (.iload 5, 2) := by decide +kernel
theorem dL_feeds_37 : decode cL_feeds 37 = .ok (.iconst 4, 1) := by decide +kernel
theorem dL_feeds_38 : decode cL_feeds 38 = .ok (.idiv, 1) := by decide +kernel
theorem dL_feeds_39 : decode cL_feeds 39 = .ok (.iaload, 1) := by decide +kernel
theorem dL_feeds_40 : decode cL_feeds 40 = .ok (.bipush 8, 2) := by decide +kernel
theorem dL_feeds_42 : decode cL_feeds 42 = .ok (.ishl, 1) := by decide +kernel
theorem dL_feeds_43 : decode cL_feeds 43 = .ok (.iload_n 3, 1) := by decide +kernel
theorem dL_feeds_44 : decode cL_feeds 44 = .ok (.iload 5, 2) := by decide +kernel
theorem dL_feeds_46 : decode cL_feeds 46 = .ok (.iadd, 1) := by decide +kernel
theorem dL_feeds_47 : decode cL_feeds 47 = .ok (.iload_n 2, 1) := by decide +kernel
theorem dL_feeds_48 : decode cL_feeds 48 = .ok (.if_icmp .ge 14, 3) := by decide +kernel
theorem dL_feeds_51 : decode cL_feeds 51 = .ok (.aload_n 1, 1) := by decide +kernel
theorem dL_feeds_52 : decode cL_feeds 52 = .ok (.iload_n 3, 1) := by decide +kernel
theorem dL_feeds_53 : decode cL_feeds 53 = .ok (.iload 5, 2) := by decide +kernel
theorem dL_feeds_55 : decode cL_feeds 55 = .ok (.iadd, 1) := by decide +kernel
theorem dL_feeds_56 : decode cL_feeds 56 = .ok (.invokevirtual 21, 3) := by decide +kernel
theorem dL_feeds_59 : decode cL_feeds 59 = .ok (.goto 5, 3) := by decide +kernel
theorem dL_feeds_62 : decode cL_feeds 62 = .ok (.bipush 32, 2) := by decide +kernel
theorem dL_feeds_64 : decode cL_feeds 64 = .ok (.ior, 1) := by decide +kernel
theorem dL_feeds_65 : decode cL_feeds 65 = .ok (.iastore, 1) := by decide +kernel
theorem dL_feeds_66 : decode cL_feeds 66 = .ok (.iinc 5 1, 3) := by decide +kernel
theorem dL_feeds_69 : decode cL_feeds 69 = .ok (.goto (-49), 3) := by decide +kernel
theorem dL_feeds_72 : decode cL_feeds 72 = .ok (.aload_n 0, 1) := by decide +kernel
theorem dL_feeds_73 : decode cL_feeds 73 = .ok (.aload 4, 2) := by decide +kernel
theorem dL_feeds_75 : decode cL_feeds 75 = .ok (.iconst 0, 1) := by decide +kernel
theorem dL_feeds_76 : decode cL_feeds 76 = .ok (.iaload, 1) := by decide +kernel
theorem dL_feeds_77 : decode cL_feeds 77 = .ok (.aload 4, 2) := by decide +kernel
theorem dL_feeds_79 : decode cL_feeds 79 = .ok (.iconst 1, 1) := by decide +kernel
theorem dL_feeds_80 : decode cL_feeds 80 = .ok (.iaload, 1) := by decide +kernel
theorem dL_feeds_81 : decode cL_feeds 81 = .ok (.aload 4, 2) := by decide +kernel
theorem dL_feeds_83 : decode cL_feeds 83 = .ok (.iconst 2, 1) := by decide +kernel
theorem dL_feeds_84 : decode cL_feeds 84 = .ok (.iaload, 1) := by decide +kernel
theorem dL_feeds_85 : decode cL_feeds 85 = .ok (.aload 4, 2) := by decide +kernel
theorem dL_feeds_87 : decode cL_feeds 87 = .ok (.iconst 3, 1) := by decide +kernel
theorem dL_feeds_88 : decode cL_feeds 88 = .ok (.iaload, 1) := by decide +kernel
theorem dL_feeds_89 : decode cL_feeds 89 = .ok (.aload 4, 2) := by decide +kernel
theorem dL_feeds_91 : decode cL_feeds 91 = .ok (.iconst 4, 1) := by decide +kernel
theorem dL_feeds_92 : decode cL_feeds 92 = .ok (.iaload, 1) := by decide +kernel
theorem dL_feeds_93 : decode cL_feeds 93 = .ok (.invokevirtual 25, 3) := by decide +kernel
theorem dL_feeds_96 : decode cL_feeds 96 = .ok (.pop, 1) := by decide +kernel
theorem dL_feeds_97 : decode cL_feeds 97 = .ok (.iinc 3 20, 3) := by decide +kernel
theorem dL_feeds_100 : decode cL_feeds 100 = .ok (.goto (-93), 3) := by decide +kernel
theorem dL_feeds_103 : decode cL_feeds 103 = .ok (.aload_n 0, 1) := by decide +kernel
theorem dL_feeds_104 : decode cL_feeds 104 = .ok (.iload_n 2, 1) := by decide +kernel
theorem dL_feeds_105 : decode cL_feeds 105 = .ok (.invokevirtual 31, 3) := by decide +kernel
theorem dL_feeds_108 : decode cL_feeds 108 = .ok (.ireturn, 1) := by decide +kernel
/-! FEEDS: a text is fed by twenty letters, then read -/
def fA (E : mE) (z : Nat) : Nat → Prop := fun q => mA E 257 q ∨ z ≤ q
def fS (E : mE) (z : Nat) (σ : mSt) (vs : va_W) (x : sX) (s : State) (H : Heap) (locs : List Loc) : Prop :=
  mWords s ∧ va_K (eD E) vwCl (mTys E) s ∧ mX (fA E z) E s s.heap ∧ va_P (eD E) vwCl (wl E 257 σ ++ vs) H ∧ va_D (fA E z) (wl E 257 σ ++ vs) ∧ va_S (fA E z) s.heap H locs ∧ s.heap.size = z ∧ sT (fA E z) x s s.heap
def fPre (E : mE) (z : Nat) (σ : mSt) (x : sX) (U : State) : Prop :=
  mWords U ∧ va_K (eD E) vwCl (mTys E) U ∧ mX (fA E z) E U U.heap ∧ va_P (eD E) vwCl (wl E 257 σ) U.heap ∧ va_D (fA E z) (wl E 257 σ) ∧ U.heap.size = z ∧ sT (fA E z) x U U.heap
def fQ (E : mE) (z : Nat) (out : Int × mSt) : Array Value → State → Outcome → State → Prop := fun _ st oc t => oc = .returned (some (vI out.1)) ∧ va_P (eD E) vwCl (wl E 257 out.2) t.heap ∧ va_F (fA E z) st t
theorem fPre.blind {E : mE} {z : Nat} {σ : mSt} {x : sX} {As : List Value} : FrameBlind (va_Pc As (fPre E z σ x)) := by
  rintro a U g mk ⟨h0, h1, h2, h3, h4, h5, h6, h7⟩
  have hW : U.WarmedH (U.calling g mk a).vm := State.WarmedH.refl U
  exact ⟨h0, mWords.ride hW (mWords.use (args := #[]) h1), va_K.moved (U := U.calling g mk a) hW.alike h2, h3.ride (U := U.calling g mk a) hW (fun _ _ _ => rfl) (fun _ h => h), h4, h5, h6, h7.ride (U := U.calling g mk a) hW (fun _ _ _ => rfl) (fun _ h => h)⟩
def fdB (T : List Nat) (i : Nat) : Int := if i < T.length then ((T.getD i 0 : Nat) : Int) else 32
def fdV (T : List Nat) (i : Nat) : Nat → Nat → Int
  | 0 => fun _ => 0
  | k + 1 => fun j => if j = k / 4 then oOr (oShl (fdV T i k (k / 4)) 8) (fdB T (i + k)) else fdV T i k j
/-- what feeding a text does: by twenty letters, then the reading -/
def fdM (T : List Nat) : Nat → Nat → mSt → Option (Int × mSt)
  | 0, _, _ => none
  | f + 1, i, σ => if T.length ≤ i then mX11_text 0 (T.length : Int) σ else mCall (mX11_feed 0 (fdV T i 20 0) (fdV T i 20 1) (fdV T i 20 2) (fdV T i 20 3) (fdV T i 20 4) σ) fun _ s2 => fdM T f (i + 20) s2
theorem td4 {k : Nat} (h : k ≤ 1000) : (wI (k : Int)).tdiv (wI 4) = ((k / 4 : Nat) : Int) := by
  rw [wI_eq (x := (k : Int)) (by omega) (by omega), wI_eq (x := 4) (by omega) (by omega), Int.tdiv_eq_ediv_of_nonneg (by omega)]
  rfl
def vC (E : mE) (v : Nat) (g : Nat → Int) : va_W := [(v, .inl (eT E 0, 5, .inl (fun j => Int32.ofInt (g j))))]
theorem fS.toM {E : mE} {z : Nat} {σ : mSt} {vs : va_W} {x : sX} {s : State} {H : Heap} {locs : List Loc} (h : fS E z σ vs x s H locs) : mM (fA E z) E 257 σ s H locs := by
  obtain ⟨h1, h2, h3, h4, h5, h6, -⟩ := h
  have := vaD_pair.mp h5
  exact ⟨h1, h2, h3, vaP_mem.mpr (fun q hq => vaP_mem.mp h4 q (List.mem_append_left _ hq)), vaD_pair.mpr ⟨(List.pairwise_append.mp this.1).1, fun q hq => this.2 q (List.mem_append_left _ hq)⟩, h6⟩
theorem fS.of {E : mE} {z : Nat} {σ : mSt} {x : sX} {s : State} {H : Heap} {locs : List Loc} (h : mM (fA E z) E 257 σ s H locs) (hz : s.heap.size = z) (hx : sT (fA E z) x s s.heap) : fS E z σ [] x s H locs := by
  obtain ⟨h1, h2, h3, h4, h5, h6⟩ := h
  exact ⟨h1, h2, h3, by rw [List.append_nil]; exact h4, by rw [List.append_nil]; exact h5, h6, hz, hx⟩
section FE
variable {p : Program} {l : Launch} {e : Env} {R : Room} {s : State} {m : MethodId} {args : Array Value} {below : List Frame} {meth : Method} {c : Code} {H : Heap} {locs : List Loc} {cells slots : Nat} {Q : State → Prop}
variable {cc : ByteArray} {pc np nL : Nat} {ls : Array Slot} {rest st : List Value} {own : String} {E : mE} {z : Nat} {σ : mSt} {vs : va_W} {x : sX} {ys : List sX} {Post : Option Value → va_W → Prop}
theorem f_jgo {mc ms : Nat} {st0 : List Value} {a : Array Value} (hr : va_Run p l e R s m args below meth c H locs cells slots mc ms (F0 m pc ls st0) rest (jQ E H.size Post a) (jL H.size)) (hF : fS E z σ vs x s H locs)
    (kk : ∀ (v : Option Value) (ws2 : va_W) (H1 : Heap) (locs1 : List Loc), Post v ws2 → fS E z σ vs x s H1 locs1 → W p l e R s m args below meth c H1 locs1 (cells + mc) (slots + ms) Q (F0 m (pc + 3) ls (v.toList ++ rest))) : W p l e R s m args below meth c H locs cells slots Q (F0 m pc ls st0) := by
  intro T hT X
  obtain ⟨h1, h2, h3, h4, h5, h6, h7, h8⟩ := hF
  obtain ⟨v', st₀, t, T', L, h0, X', hL, e1, e2, ⟨⟨v, ws2, hv, hp, hP, hD⟩, hz, hk⟩, st⟩ := hr T hT X
  cases hv
  rw [h0] at hz hk
  have hzz : z ≤ H.size := by rw [← h7]; exact h6.1
  obtain ⟨t2, a1, b1⟩ := kk _ ws2 T'.heap (locs ++ L) hp ⟨h1, h2, h3, by rw [e1]; exact h4.kept (fun k q hq => hk q.1 ((h4 k q hq).lt) (Nat.not_le.mpr ((h4 k q hq).lt))), h5, ⟨Nat.le_trans h6.1 (by rw [e1]; exact hz), fun q g1 g2 => by rw [e1, hk q (Nat.lt_of_lt_of_le g1 h6.1) (Nat.not_le.mpr (Nat.lt_of_lt_of_le g1 h6.1))]; exact h6.2.1 q g1 g2, fun q hq => by
      rcases List.mem_append.mp hq with h | h
      · exact h6.2.2 q h
      · exact Or.inr (Nat.le_trans hzz (hL q h))⟩, h7, h8⟩ T' rfl X'
  exact ⟨t2, st t2 a1, b1⟩
theorem fS.pre {U : State} (h : fS E z σ vs x s H locs) (hU : U.heap = H) (hW : s.WarmedH U.vm) : jPre E H.size [] [x] U := by
  obtain ⟨h1, h2, h3, h4, h5, h6, h7, h8⟩ := h
  subst hU
  have hzz : z ≤ U.heap.size := by rw [← h7]; exact h6.1
  have hAB : ∀ q, jL U.heap.size q → fA E z q := fun q hq => Or.inr (Nat.le_trans hzz hq)
  refine ⟨mWords.ride hW (mWords.use (args := #[]) h1), va_K.moved hW.alike h2, h3.ride hW (fun a ha hn => h6.2.1 a ha hn) hAB, fun k q hq => by simp at hq, ⟨fun i j p q hi => by simp at hi, fun k q hk => by simp at hk⟩, Nat.le_refl _, fun y hy => ?_⟩
  rw [List.mem_singleton.mp hy]
  exact h8.ride hW (fun a ha hn => h6.2.1 a ha hn) hAB
theorem f_recX (hF : fS E z σ vs x s H locs) : ∃ cell : Cell, H[x.1]? = some cell ∧ cell.vm.isStatics = false ∧ s.vm.findClass "java/lang/String" = some cell.cls := by
  obtain ⟨cell, h1, h2, h3, -⟩ := hF.2.2.2.2.2.2.2.1.kept hF.2.2.2.2.2.1.2.1
  exact ⟨cell, h1, h2, h3⟩
theorem f_callX (G : CallFix p m c cc nL s args mTs own) (hF : fS E z σ vs x s H locs) (hls : ls.size = nL) {y : MethodName} {cc' : ByteArray} {maxL fr lc mc ms ix : Nat} {ret : Option FieldType} (As : List Value) (hc : jMet l y cc' maxL ret fr lc mc ms E H.size (.ref x.1 :: As) [] [x] Post) (hY : jYV "java/lang/String" y cc' maxL ret As.length) (hpv : Cond.privateMethod y ∉ mTs) (hw : Cond.methodLink own ix y ∈ mTs)
    (hroom : fr + 1 ≤ R.frames ∧ 8 + (maxL + 11) + lc ≤ R.locals) (hcs : cells + mc ≤ R.cells ∧ slots + ms ≤ R.slots) (rest : List Value)
    (hst : st = As.reverse ++ .ref x.1 :: rest) (hcat : (rest.map fun v => v.category).sum ≤ 8) (d : decode cc pc = .ok (.invokevirtual ix, 3)) (hn : pc + 3 = np)
    (kk : ∀ (v : Option Value) (ws2 : va_W) (H1 : Heap) (locs1 : List Loc), Post v ws2 → fS E z σ vs x s H1 locs1 → W p l e R s m args below meth c H1 locs1 (cells + mc) (slots + ms) Q (F0 m np ls (v.toList ++ rest))) : W p l e R s m args below meth c H locs cells slots Q (F0 m pc ls st) := by
  subst hn
  subst hst
  exact f_jgo (va_runV (C := "java/lang/String") (As := As) (rest := rest) G hc ⟨j_cb G hY.1 hw hroom, G.2.2.2.2 _ hY.2.1, j_sel G hY (fun h => absurd h.2 hpv)⟩ ⟨jPre.blind, f_recX hF, fun U hU hW => ⟨rfl, hF.pre hU hW⟩⟩ rfl rfl hls rfl (lv_room hcat) d hcs) hF kk
theorem f_new (G : CallFix p m c cc nL s args mTs own) (hF : fS E z σ [] x s H locs) (hcells : cells + 1 ≤ R.cells) (hslots : slots + 5 ≤ R.slots) (d : decode cc pc = .ok (.newarray .int, 2)) (hn : pc + 2 = np)
    (kk : ∀ (v : Nat) (H1 : Heap), fS E z σ (vC E v (fun _ => 0)) x s H1 locs → W p l e R s m args below meth c H1 locs (cells + 1) (slots + 5) Q (F0 m np ls (.ref v :: rest))) : W p l e R s m args below meth c H locs cells slots Q (F0 m pc ls (vI 5 :: rest)) := by
  subst hn
  obtain ⟨h1, h2, h3, h4, h5, h6, h7, h8⟩ := hF
  rw [List.append_nil] at h4 h5
  refine va_newa (atype := .int) (ty := .int) (a0 := (5, .inl fun _ => 0)) (N' := 5) G.1 G.2.1 (G.2.2.2.2 _ w_ac_int) rfl h2 h4 h5 h6 (fun q h => Or.inr (by rw [← h7]; exact h)) (fun cA => rfl) (by decide) (by decide) (by decide) hcells hslots d (fun q cA H1 hK hP hD hS => ?_)
  have hcA : cA = eT E 0 := by
    have h1 := (h2.2 0 _ (show (mTys E)[0]? = some (eT E 0, .int) from rfl)).2
    have h9 := (hK.2 9 _ (show (mTys E ++ [(cA, .int)])[9]? = some (cA, .int) from rfl)).2
    exact Option.some.inj (h9.symm.trans h1)
  subst hcA
  exact kk q H1 ⟨h1, h2, h3, hP, hD, hS, h7, h8⟩
theorem vC_at {v : Nat} {g : Nat → Int} : (wl E 257 σ ++ vC E v g)[257]? = some (v, .inl (eT E 0, 5, .inl (fun j => Int32.ofInt (g j)))) := by
  rw [List.getElem?_append_right (by simp [wl])]
  simp [wl, vC]
theorem f_ald (G : CallFix p m c cc nL s args mTs own) {v : Nat} {g : Nat → Int} (hF : fS E z σ (vC E v g) x s H locs) {j : Int} (hj : 0 ≤ wI j ∧ wI j < ((5 : Nat) : Int)) (d : decode cc pc = .ok (.iaload, 1)) (hn : pc + 1 = np)
    (kk : W p l e R s m args below meth c H locs cells slots Q (F0 m np ls (vI (g (wI j).toNat) :: rest))) : W p l e R s m args below meth c H locs cells slots Q (F0 m pc ls (vI j :: .ref v :: rest)) := by
  subst hn
  exact va_iald G.1 G.2.1 hF.2.1 hF.2.2.2.1 257 0 vC_at (show (mTys E)[0]? = some (eT E 0, .int) from rfl) (vp_in_iff.mpr hj) d kk
theorem f_ast (G : CallFix p m c cc nL s args mTs own) {v : Nat} {g : Nat → Int} (hF : fS E z σ (vC E v g) x s H locs) {j y : Int} (hj : 0 ≤ wI j ∧ wI j < ((5 : Nat) : Int)) (g2 : Nat → Int) (hg : ∀ q, g2 q = if q = (wI j).toNat then y else g q) (d : decode cc pc = .ok (.iastore, 1)) (hn : pc + 1 = np)
    (kk : ∀ (H1 : Heap) (locs1 : List Loc), fS E z σ (vC E v g2) x s H1 locs1 → W p l e R s m args below meth c H1 locs1 cells slots Q (F0 m np ls rest)) : W p l e R s m args below meth c H locs cells slots Q (F0 m pc ls (vI y :: vI j :: .ref v :: rest)) := by
  subst hn
  obtain ⟨h1, h2, h3, h4, h5, h6, h7, h8⟩ := hF
  refine va_iast G.1 G.2.1 h2 h4 h5 h6 257 0 vC_at (show (mTys E)[0]? = some (eT E 0, .int) from rfl) (vp_in_iff.mpr hj) d (fun H1 locs1 hP hD hS => ?_)
  have e1 : (wl E 257 σ ++ vC E v g).set 257 (v, .inl (eT E 0, 5, .inl (upd (fun k => Int32.ofInt (g k)) (Int32.ofInt j).toNatClampNeg (Int32.ofInt y)))) = wl E 257 σ ++ vC E v g2 := by
    rw [List.set_append_right _ _ (by simp [wl])]
    have : (257 - (wl E 257 σ).length) = 0 := by simp [wl]
    rw [this]
    unfold vC
    rw [List.set_cons_zero]
    have hf : upd (fun k => Int32.ofInt (g k)) (Int32.ofInt j).toNatClampNeg (Int32.ofInt y) = fun k => Int32.ofInt (g2 k) := by
      funext k
      show (if k = (wI j).toNat then Int32.ofInt y else Int32.ofInt (g k)) = Int32.ofInt (g2 k)
      rw [hg k]
      by_cases hk : k = (wI j).toNat
      · rw [if_pos hk, if_pos hk]
      · rw [if_neg hk, if_neg hk]
    rw [hf]
  rw [e1] at hP hD
  exact kk H1 locs1 ⟨h1, h2, h3, hP, hD, hS, h7, h8⟩
theorem f_iret (G : CallFix p m c cc nL s args mTs own) (hr : meth.sig.returnType = some .int) (hlk : meth.locks = false) (hM : mM (fA E z) E 257 σ s H locs) {out : Int × mSt} {y : Int} (hy : (y, σ) = out) (h1 : cells ≤ 16) (h2 : slots ≤ 80) (d : decode cc pc = .ok (.ireturn, 1)) : W p l e R s m args below meth c H locs cells slots (MQ below (fQ E z out) args s 16 80 (fA E z)) (F0 m pc ls [vI y]) := by
  subst hy
  exact W.widen h1 h2 (W.iret G.1 G.2.1 hr (fun t ht _ => ⟨rfl, by rw [ht]; exact hM.2.2.2.1, hM.2.2.2.2.2.F ht⟩) hM.2.2.2.2.2.2.2 d hlk)
end FE
abbrev mGoF (l : Launch) (p : Program) (e : Env) (s : State) (m : MethodId) (args : Array Value) (below : List Frame) (meth : Method) (c : Code) (E : mE) (z : Nat) (out : Int × mSt) (cells slots : Nat) (H : Heap) (locs : List Loc) (g : JFrame) : Prop := W p l e ({ frames := 12, cells := 16, slots := 80, locals := 400 } : Room) s m args below meth c H locs cells slots (MQ below (fQ E z out) args s 16 80 (fA E z)) g
theorem no_pv1 : Cond.privateMethod yJ0_length_8abf5 ∉ mTs := by
  unfold mTs
  intro h
  exact absurd (List.mem_filter.mp h).1 (by decide +kernel)
theorem no_pv2 : Cond.privateMethod yJ0_charAt_5068e ∉ mTs := by
  unfold mTs
  intro h
  exact absurd (List.mem_filter.mp h).1 (by decide +kernel)
section FW
variable (l : Launch) (E : mE) {z : Nat} (out : Int × mSt) {x : sX} {p : Program} {e : Env} {s : State} {m : MethodId} {args : Array Value} {below : List Frame} {meth : Method} {c : Code}
set_option maxHeartbeats 2000000 in
theorem f_inner (G : CallFix p m c cL_feeds 6 s args mTs RL) {cells slots i v : Nat} {σ : mSt} (hi : i ≤ 300) (hx3 : x.2.2.length ≤ 300) (hc : cells ≤ 16) (hs : slots ≤ 80) (kk : ∀ (H : Heap) (locs : List Loc) (ls : Array Slot), fS E z σ (vC E v (fdV x.2.2 i 20)) x s H locs → lv_has ls 6 [(4, .ref v), (3, vI (i : Int)), (2, vI (x.2.2.length : Int)), (0, .ref (eA E 0)), (1, .ref x.1)] → mGoF l p e s m args below meth c E z out cells slots H locs (F0 m 72 ls [])) : ∀ (f k : Nat), k + f = 20 → ∀ (H : Heap) (locs : List Loc) (ls : Array Slot), fS E z σ (vC E v (fdV x.2.2 i k)) x s H locs → lv_has ls 6 [(5, vI (k : Int)), (4, .ref v), (3, vI (i : Int)), (2, vI (x.2.2.length : Int)), (0, .ref (eA E 0)), (1, .ref x.1)] → mGoF l p e s m args below meth c E z out cells slots H locs (F0 m 20 ls []) := by
  intro f
  induction f with
  | zero =>
    intro k hk H locs ls hF hl
    obtain rfl : k = 20 := by omega
    refine r_iload (np := 22) G hl 0 rfl dL_feeds_20 rfl ?_
    refine r_bipush (np := 24) G 20 dL_feeds_22 (by decide) rfl ?_
    refine r_icmp_ge (np := 27) (tgt := 72) G (wI_eq (by omega) (by omega)) (wI_eq (by omega) (by omega)) dL_feeds_24 (by decide) rfl (fun hc => ?_) (fun hc => False.elim (by omega))
    exact kk H locs ls hF (lv_sub hl [1, 2, 3, 4, 5] rfl)
  | succ f ih =>
    intro k hk H locs ls hF hl
    have hk5 : k / 4 < 5 := by omega
    have hwk : (wI ((k / 4 : Nat) : Int)).toNat = k / 4 := by rw [wI_eq (by omega) (by omega)]; omega
    refine r_iload (np := 22) G hl 0 rfl dL_feeds_20 rfl ?_
    refine r_bipush (np := 24) G 20 dL_feeds_22 (by decide) rfl ?_
    refine r_icmp_ge (np := 27) (tgt := 72) G (wI_eq (by omega) (by omega)) (wI_eq (by omega) (by omega)) dL_feeds_24 (by decide) rfl (fun hc => False.elim (by omega)) (fun hc => ?_)
    refine r_aload (np := 29) G hl 1 rfl dL_feeds_27 rfl ?_
    refine r_iload (np := 31) G hl 0 rfl dL_feeds_29 rfl ?_
    refine r_iconst (np := 32) G 4 dL_feeds_31 rfl ?_
    refine r_idiv (np := 33) G (by decide) dL_feeds_32 rfl ?_
    rw [td4 (k := k) (by omega)]
    refine r_aload (np := 35) G hl 1 rfl dL_feeds_33 rfl ?_
    refine r_iload (np := 37) G hl 0 rfl dL_feeds_35 rfl ?_
    refine r_iconst (np := 38) G 4 dL_feeds_37 rfl ?_
    refine r_idiv (np := 39) G (by decide) dL_feeds_38 rfl ?_
    rw [td4 (k := k) (by omega)]
    refine f_ald (np := 40) G hF (by rw [wI_eq (by omega) (by omega)]; omega) dL_feeds_39 rfl ?_
    rw [hwk]
    refine r_bipush (np := 42) G 8 dL_feeds_40 (by decide) rfl ?_
    refine r_ishl (np := 43) G dL_feeds_42 rfl ?_
    refine r_iload_n (np := 44) G hl 2 rfl dL_feeds_43 rfl rfl ?_
    refine r_iload (np := 46) G hl 0 rfl dL_feeds_44 rfl ?_
    refine r_iadd (np := 47) G dL_feeds_46 rfl ?_
    refine r_iload_n (np := 48) G hl 3 rfl dL_feeds_47 rfl rfl ?_
    have tail : ∀ (b : Int) (H : Heap) (locs : List Loc), b = fdB x.2.2 (i + k) → fS E z σ (vC E v (fdV x.2.2 i k)) x s H locs → mGoF l p e s m args below meth c E z out cells slots H locs (F0 m 64 ls [vI b, vI (oShl (fdV x.2.2 i k (k / 4)) 8), vI ((k / 4 : Nat) : Int), .ref v]) := by
      intro b H locs hb hF
      refine r_ior (np := 65) G dL_feeds_64 rfl ?_
      refine f_ast (np := 66) G hF (by rw [wI_eq (by omega) (by omega)]; omega) (fdV x.2.2 i (k + 1)) (fun q => ?_) dL_feeds_65 rfl (fun H locs hF => ?_)
      · rw [hwk, hb]
        rfl
      · refine r_iinc (np := 69) G hl 0 rfl (y := ((k + 1 : Nat) : Int)) (by omega) [(5, vI ((k + 1 : Nat) : Int)), (4, .ref v), (3, vI (i : Int)), (2, vI (x.2.2.length : Int)), (0, .ref (eA E 0)), (1, .ref x.1)] dL_feeds_66 rfl (by decide) rfl (fun ls hl => ?_)
        refine r_goto (np := 20) G dL_feeds_69 (by decide) ?_
        exact ih (k + 1) (by omega) H locs ls hF hl
    refine r_icmp_ge (np := 51) (tgt := 62) G (wI_eq (by omega) (by omega)) (wI_eq (by omega) (by omega)) dL_feeds_48 (by decide) rfl (fun hc => ?_) (fun hc => ?_)
    · refine r_bipush (np := 64) G 32 dL_feeds_62 (by decide) rfl ?_
      exact tail 32 H locs (by unfold fdB; rw [if_neg (by omega)]) hF
    · refine r_aload_n (np := 52) G hl 5 rfl dL_feeds_51 rfl rfl ?_
      refine r_iload_n (np := 53) G hl 2 rfl dL_feeds_52 rfl rfl ?_
      refine r_iload (np := 55) G hl 0 rfl dL_feeds_53 rfl ?_
      refine r_iadd (np := 56) G dL_feeds_55 rfl ?_
      refine f_callX (np := 59) G hF hl.1 [vI ((i : Int) + (k : Int))] (qJ0_charAt_5068e l E H.size x [] ((i : Int) + (k : Int)) (by omega) hx3) jvJ0_charAt_5068e no_pv2 ljL_21 ⟨(Nat.le_of_ble_eq_true rfl), (Nat.le_of_ble_eq_true rfl)⟩ ⟨by show cells + 0 ≤ 16; omega, by show slots + 0 ≤ 80; omega⟩ [vI (oShl (fdV x.2.2 i k (k / 4)) 8), vI ((k / 4 : Nat) : Int), .ref v] rfl (Nat.le_of_ble_eq_true rfl) dL_feeds_56 rfl (fun v0 w2 H locs hp hF => ?_)
      obtain ⟨rfl, -⟩ := hp
      refine r_goto (np := 64) G dL_feeds_59 (by decide) ?_
      exact tail _ H locs (by unfold fdB; rw [if_pos (by omega), show ((i : Int) + (k : Int)).toNat = i + k by omega]) hF
set_option maxHeartbeats 2000000 in
theorem f_outer (G : CallFix p m c cL_feeds 6 s args mTs RL) (hr : meth.sig.returnType = some .int) (hk : meth.locks = false) (hx3 : x.2.2.length ≤ 300) (hz : s.heap.size = z) (hxs : sT (fA E z) x s s.heap) : ∀ (f n : Nat) (σ : mSt), fdM x.2.2 f (20 * n) σ = some out → n ≤ 15 → ∀ (H : Heap) (locs : List Loc) (ls : Array Slot), mM (fA E z) E 257 σ s H locs → lv_has ls 6 [(3, vI ((20 * n : Nat) : Int)), (2, vI (x.2.2.length : Int)), (0, .ref (eA E 0)), (1, .ref x.1)] → mGoF l p e s m args below meth c E z out n (5 * n) H locs (F0 m 7 ls []) := by
  intro f
  induction f with
  | zero => intro n σ hm; cases hm
  | succ f ih =>
    intro n σ hm hn H locs ls hM hl
    have hm : (if x.2.2.length ≤ 20 * n then mX11_text 0 (x.2.2.length : Int) σ else mCall (mX11_feed 0 (fdV x.2.2 (20 * n) 20 0) (fdV x.2.2 (20 * n) 20 1) (fdV x.2.2 (20 * n) 20 2) (fdV x.2.2 (20 * n) 20 3) (fdV x.2.2 (20 * n) 20 4) σ) fun _ s2 => fdM x.2.2 f (20 * n + 20) s2) = some out := hm
    refine r_iload_n (np := 8) G hl 0 rfl dL_feeds_7 rfl rfl ?_
    refine r_iload_n (np := 9) G hl 1 rfl dL_feeds_8 rfl rfl ?_
    refine r_icmp_ge (np := 12) (tgt := 103) G (wI_eq (by omega) (by omega)) (wI_eq (by omega) (by omega)) dL_feeds_9 (by decide) rfl (fun hc => ?_) (fun hc => ?_)
    · rw [if_pos (by omega)] at hm
      refine r_aload_n (np := 104) G hl 2 rfl dL_feeds_103 rfl rfl ?_
      refine r_iload_n (np := 105) G hl 1 rfl dL_feeds_104 rfl rfl ?_
      refine m_callVI (np := 108) G hM hl.1 [vI (x.2.2.length : Int)] (qX11_text l E σ 0 _ _ hm) mvX11_text (by decide) (gX11_text hm) rfl (by decide) ljL_31 ⟨(Nat.le_of_ble_eq_true rfl), (Nat.le_of_ble_eq_true rfl)⟩ ⟨by show n ≤ 16; omega, by show 5 * n ≤ 80; omega⟩ [] rfl (Nat.le_of_ble_eq_true rfl) dL_feeds_105 rfl (fun H locs hM => ?_)
      exact f_iret G hr hk hM (by rfl) (by omega) (by omega) dL_feeds_108
    · rw [if_neg (by omega)] at hm
      obtain ⟨b1, s2, e1, hm⟩ := call_t hm
      have hn14 : n ≤ 14 := by omega
      refine r_iconst (np := 13) G 5 dL_feeds_12 rfl ?_
      refine f_new (np := 15) G (fS.of hM hz hxs) (by show n + 1 ≤ 16; omega) (by show 5 * n + 5 ≤ 80; omega) dL_feeds_13 rfl (fun v H hF => ?_)
      refine r_astore (np := 17) G hl rfl [(4, .ref v), (3, vI ((20 * n : Nat) : Int)), (2, vI (x.2.2.length : Int)), (0, .ref (eA E 0)), (1, .ref x.1)] dL_feeds_15 rfl (by decide) rfl (fun ls hl => ?_)
      refine r_iconst (np := 18) G 0 dL_feeds_17 rfl ?_
      refine r_istore (np := 20) G hl rfl [(5, vI 0), (4, .ref v), (3, vI ((20 * n : Nat) : Int)), (2, vI (x.2.2.length : Int)), (0, .ref (eA E 0)), (1, .ref x.1)] dL_feeds_18 rfl (by decide) rfl (fun ls hl => ?_)
      refine f_inner l E out G (i := 20 * n) (v := v) (σ := σ) (by omega) hx3 (by omega) (by omega) (fun H locs ls hF hl => ?_) 20 0 rfl H _ ls hF hl
      refine r_aload_n (np := 73) G hl 3 rfl dL_feeds_72 rfl rfl ?_
      refine r_aload (np := 75) G hl 0 rfl dL_feeds_73 rfl ?_
      refine r_iconst (np := 76) G 0 dL_feeds_75 rfl ?_
      refine f_ald (np := 77) G hF (by decide) dL_feeds_76 rfl ?_
      refine r_aload (np := 79) G hl 0 rfl dL_feeds_77 rfl ?_
      refine r_iconst (np := 80) G 1 dL_feeds_79 rfl ?_
      refine f_ald (np := 81) G hF (by decide) dL_feeds_80 rfl ?_
      refine r_aload (np := 83) G hl 0 rfl dL_feeds_81 rfl ?_
      refine r_iconst (np := 84) G 2 dL_feeds_83 rfl ?_
      refine f_ald (np := 85) G hF (by decide) dL_feeds_84 rfl ?_
      refine r_aload (np := 87) G hl 0 rfl dL_feeds_85 rfl ?_
      refine r_iconst (np := 88) G 3 dL_feeds_87 rfl ?_
      refine f_ald (np := 89) G hF (by decide) dL_feeds_88 rfl ?_
      refine r_aload (np := 91) G hl 0 rfl dL_feeds_89 rfl ?_
      refine r_iconst (np := 92) G 4 dL_feeds_91 rfl ?_
      refine f_ald (np := 93) G hF (by decide) dL_feeds_92 rfl ?_
      refine m_callVI (np := 96) G hF.toM hl.1 [vI (fdV x.2.2 (20 * n) 20 0), vI (fdV x.2.2 (20 * n) 20 1), vI (fdV x.2.2 (20 * n) 20 2), vI (fdV x.2.2 (20 * n) 20 3), vI (fdV x.2.2 (20 * n) 20 4)] (qX11_feed l E σ 0 _ _ _ _ _ _ e1) mvX11_feed (by decide) (gX11_feed e1) rfl (by decide) ljL_25 ⟨(Nat.le_of_ble_eq_true rfl), (Nat.le_of_ble_eq_true rfl)⟩ ⟨by show n + 1 ≤ 16; omega, by show 5 * n + 5 ≤ 80; omega⟩ [] rfl (Nat.le_of_ble_eq_true rfl) dL_feeds_93 rfl (fun H locs hM => ?_)
      refine r_pop (np := 97) G dL_feeds_96 rfl rfl ?_
      refine r_iinc (np := 100) G hl 1 rfl (y := ((20 * (n + 1) : Nat) : Int)) (by omega) [(3, vI ((20 * (n + 1) : Nat) : Int)), (4, .ref v), (2, vI (x.2.2.length : Int)), (0, .ref (eA E 0)), (1, .ref x.1)] dL_feeds_97 rfl (by decide) rfl (fun ls hl => ?_)
      refine r_goto (np := 7) G dL_feeds_100 (by decide) ?_
      exact W.widen (by omega) (by omega) (ih (n + 1) s2 hm (by omega) H locs ls hM (lv_sub hl [0, 2, 3, 4] rfl))
end FW
set_option maxHeartbeats 2000000 in
theorem feeds_met (l : Launch) (E : mE) (z : Nat) (x : sX) (σ : mSt) (out : Int × mSt) (hx3 : x.2.2.length ≤ 300) (hm : fdM x.2.2 20 0 σ = some out) : Met l yL_feeds [.code yL_feeds cL_feeds 6 (some .int)] ({ frames := 12, cells := 16, slots := 80, locals := 400 } : Room) (va_Pc [.ref (eA E 0), .ref x.1] (fPre E z σ x)) (fQ E z out) 16 80 (fA E z) := by
  refine va_MetF (cc := cL_feeds) (maxL := 6) (ret := some .int) (by decide +kernel) rfl ?_
  intro p e s m args below meth c s₁ B hml hv
  obtain ⟨rfl, w1, w2, w3, w4, w5, w6, w7⟩ := hv
  rw [lg_entry_eq]
  have hl := lv_entry ([.ref (eA E 0), .ref x.1]) (n := 6) (Nat.le_of_ble_eq_true rfl)
  generalize (lg_sl ([.ref (eA E 0), .ref x.1]) ++ List.replicate (6 - (lg_sl ([.ref (eA E 0), .ref x.1])).length) Slot.unset).toArray = ls at hl ⊢
  have hl : lv_has ls 6 [(0, .ref (eA E 0)), (1, .ref x.1)] := hl
  have G : CallFix p m c cL_feeds 6 s #[Value.ref (eA E 0), Value.ref x.1] mTs RL := ⟨B.exec, B.bytes, hml, findClass_of_methodNamed B.named, mWords.use w1⟩
  have hM : mM (fA E z) E 257 σ s s.heap [] := ⟨w1, w2, w3, w4, w5, va_S.rf⟩
  refine r_aload_n (np := 1) G hl 1 rfl dL_feeds_0 rfl rfl ?_
  refine f_callX (np := 4) G (fS.of hM w6 w7) hl.1 [] (qJ0_length_8abf5 l E s.heap.size x []) jvJ0_length_8abf5 no_pv1 ljL_15 ⟨(Nat.le_of_ble_eq_true rfl), (Nat.le_of_ble_eq_true rfl)⟩ ⟨(Nat.le_of_ble_eq_true rfl), (Nat.le_of_ble_eq_true rfl)⟩ [] rfl (Nat.le_of_ble_eq_true rfl) dL_feeds_1 rfl (fun v0 w2 H locs hp hF => ?_)
  obtain ⟨rfl, -⟩ := hp
  refine r_istore_n (np := 5) G hl rfl [(2, vI (x.2.2.length : Int)), (0, .ref (eA E 0)), (1, .ref x.1)] dL_feeds_4 rfl rfl (by decide) rfl (fun ls hl => ?_)
  refine r_iconst (np := 6) G 0 dL_feeds_5 rfl ?_
  refine r_istore_n (np := 7) G hl rfl [(3, vI 0), (2, vI (x.2.2.length : Int)), (0, .ref (eA E 0)), (1, .ref x.1)] dL_feeds_6 rfl rfl (by decide) rfl (fun ls hl => ?_)
  exact f_outer l E out G B.returns B.notSynchronized hx3 w6 w7 20 0 σ hm (by decide) H _ ls hF.toM hl

