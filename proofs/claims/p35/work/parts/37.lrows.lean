/-! THE LAW'S STATE while it makes its text: the world's first N objects, further cells tl, a builder's cells ws (from lo on) -/
def aL (s : State) : Nat → Prop := fun q => s.heap.size ≤ q
def lS (E : mE) (N : Nat) (σ : mSt) (tl : va_W) (lo : Nat) (ws : va_W) (s : State) (H : Heap) (locs : List Loc) : Prop :=
  mWords s ∧ va_K (eD E) vwCl (mTys E) s ∧ mX (aL s) E s s.heap ∧ va_P (eD E) vwCl (wl E N σ ++ tl ++ ws) H ∧ va_D (aL s) (wl E N σ ++ tl ++ ws) ∧ va_S (aL s) s.heap H locs ∧ s.heap.size ≤ lo ∧ lo ≤ H.size ∧ (∀ q ∈ wl E N σ ++ tl, q.1 < lo) ∧ ∀ q ∈ ws, lo ≤ q.1
/-- a text that can be had as long as the cells tl stand -/
def tS (E : mE) (tl : va_W) (s : State) (x : sX) : Prop := ∀ (H : Heap) (lo : Nat), va_P (eD E) vwCl tl H → (∀ q : Nat, q < s.heap.size → H[q]? = s.heap[q]?) → (∀ q ∈ tl, q.1 < lo) → s.heap.size ≤ lo → sT (jL lo) x s H
theorem vaP_mem {D : va_G} {cl : List vw_C} {ws : va_W} {H : Heap} : va_P D cl ws H ↔ ∀ q ∈ ws, va_at D cl q H :=
  ⟨fun h q hq => by obtain ⟨k, hk⟩ := List.mem_iff_getElem?.mp hq; exact h k q hk, fun h k q hk => h q (List.mem_of_getElem? hk)⟩
theorem vaD_pair {A : Nat → Prop} {ws : va_W} : va_D A ws ↔ ws.Pairwise (fun p q => p.1 ≠ q.1) ∧ ∀ q ∈ ws, A q.1 := by
  constructor
  · intro h
    refine ⟨List.pairwise_iff_getElem.mpr (fun i j hi hj hij e => ?_), fun q hq => ?_⟩
    · have := h.1 i j _ _ (List.getElem?_eq_getElem hi) (List.getElem?_eq_getElem hj) e
      omega
    · obtain ⟨k, hk⟩ := List.mem_iff_getElem?.mp hq
      exact h.2 k q hk
  · intro h
    refine ⟨fun i j p q hi hj e => ?_, fun k q hk => h.2 q (List.mem_of_getElem? hk)⟩
    obtain ⟨hi', rfl⟩ := List.getElem?_eq_some_iff.mp hi
    obtain ⟨hj', rfl⟩ := List.getElem?_eq_some_iff.mp hj
    have hp := List.pairwise_iff_getElem.mp h.1
    rcases Nat.lt_trichotomy i j with hij | hij | hij
    · exact absurd e (hp i j hi' hj' hij)
    · exact hij
    · exact absurd e.symm (hp j i hj' hi' hij)
theorem vaat_lt {D : va_G} {cl : List vw_C} {q : Nat × va_E} {H : Heap} (h : va_at D cl q H) : q.1 < H.size := by
  have hP : va_P D cl [q] H := vaP_mem.mpr (fun x hx => by rw [List.mem_singleton.mp hx]; exact h)
  exact (hP 0 q rfl).lt
theorem lS.mM {E : mE} {N : Nat} {σ : mSt} {tl : va_W} {lo : Nat} {ws : va_W} {s : State} {H : Heap} {locs : List Loc} (h : lS E N σ tl lo ws s H locs) : mM (aL s) E N σ s H locs := by
  obtain ⟨h1, h2, h3, h4, h5, h6, -⟩ := h
  rw [List.append_assoc] at h4 h5
  refine ⟨h1, h2, h3, vaP_mem.mpr (fun q hq => vaP_mem.mp h4 q (List.mem_append_left _ hq)), vaD_pair.mpr ?_, h6⟩
  have := vaD_pair.mp h5
  exact ⟨(List.pairwise_append.mp this.1).1, fun q hq => this.2 q (List.mem_append_left _ hq)⟩
/-- other cells are told of: fewer, in their order -/
theorem lS.re {E : mE} {N : Nat} {σ : mSt} {tl tl2 : va_W} {lo : Nat} {ws : va_W} {s : State} {H : Heap} {locs : List Loc} (h : lS E N σ tl lo ws s H locs) (hs : List.Sublist tl2 (tl ++ ws)) : lS E N σ tl2 H.size [] s H locs := by
  obtain ⟨h1, h2, h3, h4, h5, h6, h7, h8, h9, h10⟩ := h
  rw [List.append_assoc] at h4 h5
  have hsub : List.Sublist (wl E N σ ++ tl2) (wl E N σ ++ (tl ++ ws)) := List.Sublist.append (List.Sublist.refl _) hs
  have h5' := vaD_pair.mp h5
  refine ⟨h1, h2, h3, ?_, ?_, h6, h6.1, Nat.le_refl _, fun q hq => ?_, fun q hq => absurd hq (List.not_mem_nil)⟩
  · rw [List.append_nil]
    exact vaP_mem.mpr (fun q hq => vaP_mem.mp h4 q (hsub.subset hq))
  · rw [List.append_nil]
    exact vaD_pair.mpr ⟨h5'.1.sublist hsub, fun q hq => h5'.2 q (hsub.subset hq)⟩
  · exact vaat_lt (vaP_mem.mp h4 q (hsub.subset hq))
theorem lS.pre {E : mE} {N : Nat} {σ : mSt} {tl : va_W} {lo : Nat} {ws : va_W} {xs : List sX} {s U : State} {H : Heap} {locs : List Loc} (h : lS E N σ tl lo ws s H locs) (hx : ∀ x ∈ xs, tS E tl s x) (hU : U.heap = H) (hW : s.WarmedH U.vm) : jPre E lo ws xs U := by
  obtain ⟨h1, h2, h3, h4, h5, h6, h7, h8, h9, h10⟩ := h
  subst hU
  have hk : ∀ a : Nat, a < s.heap.size → U.heap[a]? = s.heap[a]? := fun a ha => h6.2.1 a ha (Nat.not_le.mpr ha)
  have h5' := vaD_pair.mp h5
  refine ⟨mWords.ride hW (mWords.use (args := #[]) h1), va_K.moved hW.alike h2, h3.ride hW (fun a ha _ => hk a ha) (fun q hq => Nat.le_trans h7 hq), vaP_mem.mpr (fun q hq => vaP_mem.mp h4 q (List.mem_append_right _ hq)), vaD_pair.mpr ⟨(List.pairwise_append.mp h5'.1).2.1, h10⟩, h8, fun x hx' => ?_⟩
  have := hx x hx' U.heap lo (vaP_mem.mpr (fun q hq => vaP_mem.mp h4 q (List.mem_append_left _ (List.mem_append_right _ hq)))) hk (fun q hq => h9 q (List.mem_append_right _ hq)) h7
  exact this.ride hW (fun _ _ _ => rfl) (fun _ h => h)
section LR
variable {p : Program} {l : Launch} {e : Env} {R : Room} {s : State} {m : MethodId} {args : Array Value} {below : List Frame} {meth : Method} {c : Code} {H : Heap} {locs : List Loc} {cells slots : Nat} {Q : State → Prop}
variable {cc : ByteArray} {pc np nL : Nat} {ls : Array Slot} {rest st : List Value} {own : String} {E : mE} {N : Nat} {σ : mSt} {tl : va_W} {lo : Nat} {ws : va_W} {xs : List sX} {Post : Option Value → va_W → Prop}
theorem l_go {mc ms : Nat} {st0 : List Value} {a : Array Value} (hr : va_Run p l e R s m args below meth c H locs cells slots mc ms (F0 m pc ls st0) rest (jQ E lo Post a) (jL lo)) (hS : lS E N σ tl lo ws s H locs)
    (kk : ∀ (v : Option Value) (ws2 : va_W) (H1 : Heap) (locs1 : List Loc), Post v ws2 → lS E N σ tl lo ws2 s H1 locs1 → W p l e R s m args below meth c H1 locs1 (cells + mc) (slots + ms) Q (F0 m (pc + 3) ls (v.toList ++ rest))) : W p l e R s m args below meth c H locs cells slots Q (F0 m pc ls st0) := by
  intro T hT X
  obtain ⟨h1, h2, h3, h4, h5, h6, h7, h8, h9, h10⟩ := hS
  obtain ⟨v', st₀, t, T', L, h0, X', hL, e1, e2, ⟨⟨v, ws2, hv, hp, hP, hD⟩, hz, hk⟩, st⟩ := hr T hT X
  cases hv
  rw [h0] at hz hk
  have h5' := vaD_pair.mp h5
  have hD' := vaD_pair.mp hD
  have hkeep : va_P (eD E) vwCl (wl E N σ ++ tl) t.heap := va_P.kept (H := H) (vaP_mem.mpr (fun q hq => vaP_mem.mp h4 q (List.mem_append_left _ hq))) (fun k q hq => hk q.1 (vaat_lt (vaP_mem.mp h4 q (List.mem_append_left _ (List.mem_of_getElem? hq)))) (Nat.not_le.mpr (h9 q (List.mem_of_getElem? hq))))
  obtain ⟨t2, a1, b1⟩ := kk _ ws2 T'.heap (locs ++ L) hp ⟨h1, h2, h3, by
      rw [e1]
      refine vaP_mem.mpr (fun q hq => ?_)
      rcases List.mem_append.mp hq with hq | hq
      · exact vaP_mem.mp hkeep q hq
      · exact vaP_mem.mp hP q hq, vaD_pair.mpr ⟨List.pairwise_append.mpr ⟨(List.pairwise_append.mp h5'.1).1, hD'.1, fun x hx y hy => Nat.ne_of_lt (Nat.lt_of_lt_of_le (h9 x hx) (hD'.2 y hy))⟩, fun q hq => by
      rcases List.mem_append.mp hq with hq | hq
      · exact h5'.2 q (List.mem_append_left _ hq)
      · exact Nat.le_trans h7 (hD'.2 q hq)⟩, ⟨Nat.le_trans h6.1 (by rw [e1]; exact hz), fun q g1 g2 => by rw [e1, hk q (Nat.lt_of_lt_of_le g1 h6.1) (fun z => g2 (Nat.le_trans h7 z))]; exact h6.2.1 q g1 g2, fun q hq => by
      rcases List.mem_append.mp hq with h | h
      · exact h6.2.2 q h
      · exact Nat.le_trans h7 (hL q h)⟩, h7, by rw [e1]; exact Nat.le_trans h8 hz, h9, hD'.2⟩ T' rfl X'
  exact ⟨t2, st t2 a1, b1⟩
theorem l_recB (hS : lS E N σ tl lo ws s H locs) (k : Nat) {b : Nat} {fs : List Value} (hk : ws[k]? = some (b, .inr (12, fs))) : ∃ cell : Cell, H[b]? = some cell ∧ cell.vm.isStatics = false ∧ s.vm.findClass "java/lang/StringBuilder" = some cell.cls := by
  have hP : va_P (eD E) vwCl ws H := vaP_mem.mpr (fun q hq => vaP_mem.mp hS.2.2.2.1 q (List.mem_append_right _ hq))
  exact va_recv hS.2.1 hP (show vwCl[12]? = some (RJ4, TJ4, 4) from rfl) hk
/-- a call of the builder's own method -/
theorem l_callB (G : CallFix p m c cc nL s args mTs own) (hS : lS E N σ tl lo ws s H locs) (hls : ls.size = nL) {y : MethodName} {cc' : ByteArray} {maxL fr lc mc ms b ix : Nat} {ret : Option FieldType} {fs : List Value} (i : Nat) (hb : ws[i]? = some (b, .inr (12, fs))) (As : List Value) (hc : jMet l y cc' maxL ret fr lc mc ms E lo (.ref b :: As) ws xs Post) (hx : ∀ x ∈ xs, tS E tl s x) (hY : mY y cc' maxL ret As.length ∧ Cond.instanceMethod y ∈ mTs) (hsel : Cond.selects "java/lang/StringBuilder" y y ∈ mTs) (hw : Cond.methodLink own ix y ∈ mTs)
    (hroom : fr + 1 ≤ R.frames ∧ 8 + (maxL + 11) + lc ≤ R.locals) (hcs : cells + mc ≤ R.cells ∧ slots + ms ≤ R.slots) (rest : List Value)
    (hst : st = As.reverse ++ .ref b :: rest) (hcat : (rest.map fun v => v.category).sum ≤ 8) (d : decode cc pc = .ok (.invokevirtual ix, 3)) (hn : pc + 3 = np)
    (kk : ∀ (v : Option Value) (ws2 : va_W) (H1 : Heap) (locs1 : List Loc), Post v ws2 → lS E N σ tl lo ws2 s H1 locs1 → W p l e R s m args below meth c H1 locs1 (cells + mc) (slots + ms) Q (F0 m np ls (v.toList ++ rest))) : W p l e R s m args below meth c H locs cells slots Q (F0 m pc ls st) := by
  subst hn
  subst hst
  exact l_go (va_runV (C := "java/lang/StringBuilder") (As := As) (rest := rest) G hc ⟨j_cb G hY.1 hw hroom, G.2.2.2.2 _ hY.2, G.2.2.2.2 _ hsel⟩ ⟨jPre.blind, l_recB hS i hb, fun U hU hW => ⟨rfl, hS.pre hx hU hW⟩⟩ rfl rfl hls rfl (lv_room hcat) d hcs) hS kk
theorem l_callI (G : CallFix p m c cc nL s args mTs own) (hS : lS E N σ tl lo ws s H locs) (hls : ls.size = nL) {y : MethodName} {cc' : ByteArray} {maxL fr lc mc ms b ix : Nat} (As : List Value) (hc : jMet l y cc' maxL none fr lc mc ms E lo (.ref b :: As) ws xs Post) (hx : ∀ x ∈ xs, tS E tl s x) (hY : mY y cc' maxL none As.length ∧ Cond.instanceMethod y ∈ mTs) (hw : Cond.methodLink own ix y ∈ mTs)
    (hroom : fr + 1 ≤ R.frames ∧ 8 + (maxL + 11) + lc ≤ R.locals) (hcs : cells + mc ≤ R.cells ∧ slots + ms ≤ R.slots) (rest : List Value)
    (hst : st = As.reverse ++ .ref b :: rest) (hcat : (rest.map fun v => v.category).sum ≤ 8) (d : decode cc pc = .ok (.invokespecial ix, 3)) (hn : pc + 3 = np)
    (kk : ∀ (v : Option Value) (ws2 : va_W) (H1 : Heap) (locs1 : List Loc), Post v ws2 → lS E N σ tl lo ws2 s H1 locs1 → W p l e R s m args below meth c H1 locs1 (cells + mc) (slots + ms) Q (F0 m np ls (v.toList ++ rest))) (hy1 : y.name = "<init>" := by rfl) : W p l e R s m args below meth c H locs cells slots Q (F0 m pc ls st) := by
  subst hn
  subst hst
  exact l_go (va_runI (As := As) (rest := rest) G hc ⟨j_cb G hY.1 hw hroom, hy1, G.2.2.2.2 _ hY.2⟩ ⟨jPre.blind, fun U hU hW => ⟨rfl, hS.pre hx hU hW⟩⟩ rfl rfl hls rfl (lv_room hcat) d hcs) hS kk
/-- a new builder: its session begins -/
theorem l_newB (G : CallFix p m c cc nL s args mTs own) (hS : lS E N σ tl lo [] s H locs) {ix : Nat} (hcl : Cond.classLink own ix RJ4 ∈ mTs) (hinst : Cond.instantiable RJ4 4 ∈ mTs) (hini : Cond.initialized RJ4 ∈ mTs) (hin : ∀ w ∈ u_ws RJ4 TJ4 4, w ∈ mTs) (hcells : cells + 1 ≤ R.cells) (hslots : slots + 4 ≤ R.slots) (d : decode cc pc = .ok (.new ix, 3)) (hn : pc + 3 = np)
    (kk : ∀ (b lo2 : Nat) (H1 : Heap), lS E N σ tl lo2 [(b, .inr (12, [.null, vI 0, vI 0, vI 0]))] s H1 locs → W p l e R s m args below meth c H1 locs (cells + 1) (slots + 4) Q (F0 m np ls (.ref b :: rest))) : W p l e R s m args below meth c H locs cells slots Q (F0 m pc ls rest) := by
  subst hn
  obtain ⟨h1, h2, h3, h4, h5, h6, h7, h8, h9, h10⟩ := hS
  rw [List.append_nil] at h4 h5
  have hKn := h2.1 12 _ (show vwCl[12]? = some (RJ4, TJ4, 4) from rfl)
  refine W.newcK G.1 G.2.1 G.2.2.2.1 (G.2.2.2.2 _ hcl) (G.2.2.2.2 _ hinst) (G.2.2.2.2 _ hini) rfl d hcells hslots hKn.2.1 rfl fun H1 kC hkC e1 z1 o1 => ?_
  have hk : ∀ (k : Nat) (x : Nat × va_E), (wl E N σ ++ tl)[k]? = some x → H1[x.1]? = H[x.1]? := fun k x hx => o1 x.1 ((h4 k x hx).lt)
  have hnew : va_P (eD E) vwCl [(H.size, .inr (12, [.null, vI 0, vI 0, vI 0]))] H1 := vaP_mem.mpr (fun q hq => by
    rw [List.mem_singleton.mp hq]
    exact ⟨_, show vwCl[12]? = some (RJ4, TJ4, 4) from rfl, (u_born tyJ4 G.2.2.2.2 hin hKn hkC e1 tyJ4_ok).to (fun j hj => by rcases (show j = 0 ∨ j = 1 ∨ j = 2 ∨ j = 3 by omega) with rfl | rfl | rfl | rfl <;> rfl)⟩)
  have h5' := vaD_pair.mp h5
  have hlt : ∀ q ∈ wl E N σ ++ tl, q.1 < H.size := fun q hq => vaat_lt (vaP_mem.mp h4 q hq)
  refine kk H.size H.size H1 ⟨h1, h2, h3, ?_, ?_, ⟨Nat.le_trans h6.1 (by omega), fun x g1 g2 => (o1 x (Nat.lt_of_lt_of_le g1 h6.1)).trans (h6.2.1 x g1 g2), h6.2.2⟩, h6.1, by omega, hlt, fun q hq => by rw [List.mem_singleton.mp hq]; exact Nat.le_refl _⟩
  · refine vaP_mem.mpr (fun q hq => ?_)
    rcases List.mem_append.mp hq with hq | hq
    · exact vaP_mem.mp (h4.kept hk) q hq
    · exact vaP_mem.mp hnew q hq
  · refine vaD_pair.mpr ⟨List.pairwise_append.mpr ⟨h5'.1, List.pairwise_singleton _ _, fun x hx y hy => ?_⟩, fun q hq => ?_⟩
    · rw [List.mem_singleton.mp hy]
      exact Nat.ne_of_lt (hlt x hx)
    · rcases List.mem_append.mp hq with hq | hq
      · exact h5'.2 q hq
      · rw [List.mem_singleton.mp hq]
        exact h6.1
theorem lS_at (hS : lS E N σ tl lo ws s H locs) {i : Nat} (hi : i < N) : (wl E N σ ++ tl ++ ws)[i]? = some (eA E i, mEnt E (σ i) i) := by
  rw [List.append_assoc, List.getElem?_append_left (by simpa [wl] using hi)]
  exact wl_get hi
/-- ints of the world's rows -/
theorem l_iald (G : CallFix p m c cc nL s args mTs own) (hS : lS E N σ tl lo ws s H locs) {i n : Nat} (hi : i < N) (hsh : shp i = (20, n)) {j : Int} (hj : 0 ≤ wI j ∧ wI j < (n : Int)) (d : decode cc pc = .ok (.iaload, 1)) (hn : pc + 1 = np)
    (kk : W p l e R s m args below meth c H locs cells slots Q (F0 m np ls (vI (σ i (wI j).toNat) :: rest))) : W p l e R s m args below meth c H locs cells slots Q (F0 m pc ls (vI j :: .ref (eA E i) :: rest)) := by
  subst hn
  refine va_iald G.1 G.2.1 hS.2.1 hS.2.2.2.1 i 0 (n := n) (f := fun k => Int32.ofInt (σ i k)) ((lS_at hS hi).trans (by rw [mEnt_int (by rw [hsh]), hsh])) (show (mTys E)[0]? = some (eT E 0, .int) from rfl) (vp_in_iff.mpr hj) d ?_
  exact kk
theorem l_iast (G : CallFix p m c cc nL s args mTs own) (hS : lS E N σ tl lo ws s H locs) {i n : Nat} (hi : i < N) (hsh : shp i = (20, n)) {j x : Int} (hj : 0 ≤ wI j ∧ wI j < (n : Int)) (d : decode cc pc = .ok (.iastore, 1)) (hn : pc + 1 = np)
    (kk : ∀ (H1 : Heap) (locs1 : List Loc), lS E N (upS σ i (wI j).toNat x) tl lo ws s H1 locs1 → W p l e R s m args below meth c H1 locs1 cells slots Q (F0 m np ls rest)) : W p l e R s m args below meth c H locs cells slots Q (F0 m pc ls (vI x :: vI j :: .ref (eA E i) :: rest)) := by
  subst hn
  have hat := lS_at hS hi
  obtain ⟨h1, h2, h3, h4, h5, h6, h7, h8, h9, h10⟩ := hS
  have hlen : i < (wl E N σ).length := by simpa [wl] using hi
  have hset : (wl E N σ ++ tl ++ ws).set i (eA E i, .inl (eT E 0, n, .inl (upd (fun k => Int32.ofInt (σ i k)) (Int32.ofInt j).toNatClampNeg (Int32.ofInt x)))) = wl E N (upS σ i (wI j).toNat x) ++ tl ++ ws := by
    rw [List.append_assoc, List.append_assoc, List.set_append_left _ _ hlen, wl_set (σ' := upS σ i (wI j).toNat x) hi ?_ (fun k hk => upS_row hk)]
    rw [mEnt_int (by rw [hsh]), hsh]
    congr 3
    exact congrArg _ (upd_row σ i (wI j).toNat x)
  have hat2 : (wl E N σ ++ tl ++ ws)[i]? = some (eA E i, .inl (eT E 0, n, .inl (fun k => Int32.ofInt (σ i k)))) := hat.trans (by rw [mEnt_int (by rw [hsh]), hsh])
  have ha : H[eA E i]? = some (vp_cell (eT E 0) (n, .inl (fun k => Int32.ofInt (σ i k)))) := h4 i _ hat2
  refine W.iast G.1 G.2.1 ha ((h2.2 0 _ (show (mTys E)[0]? = some (eT E 0, .int) from rfl)).1 n (fun k => .int (Int32.ofInt (σ i k)))) (fun q => by cases q) (by show ¬ (Int32.ofInt j < 0 ∨ (arrV _ _ _).slots.size ≤ _); rw [arrV_size]; exact vp_in_iff.mpr hj) rfl rfl d fun H1 e1 z oq => ?_
  have hP := h4.set h5 hat2 (e := .inl (eT E 0, n, .inl (upd (fun k => Int32.ofInt (σ i k)) (Int32.ofInt j).toNatClampNeg (Int32.ofInt x)))) (by
    show H1[eA E i]? = some (vp_cell _ _)
    rw [e1, vp_cell_i, vp_cell_i, arrV_store]
    congr 2
    funext q
    by_cases hq : q = (Int32.ofInt j).toNatClampNeg
    · subst hq
      simp [updV, upd]
    · simp [updV, upd, hq]) oq
  have hD := h5.set (e := .inl (eT E 0, n, .inl (upd (fun k => Int32.ofInt (σ i k)) (Int32.ofInt j).toNatClampNeg (Int32.ofInt x)))) hat2
  rw [hset] at hP hD
  refine kk H1 _ ⟨h1, h2, h3, hP, hD, h6.put (k := (wI j).toNat) z oq (h5.2 i _ hat2), h7, by rw [z]; exact h8, fun q hq => ?_, h10⟩
  rcases List.mem_append.mp hq with hq | hq
  · obtain ⟨k, hk⟩ := List.mem_iff_getElem?.mp hq
    obtain ⟨hk1, rfl⟩ := wl_at hk
    exact h9 (eA E k, mEnt E (σ k) k) (List.mem_append_left _ (List.mem_of_getElem? (wl_get hk1)))
  · exact h9 q (List.mem_append_right _ hq)
end LR
