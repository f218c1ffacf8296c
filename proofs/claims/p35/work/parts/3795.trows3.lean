/-! THE LAW'S START: further rows, the store and the text -/
section TR3
variable {p : Program} {l : Launch} {e : Env} {R : Room} {s : State} {m : MethodId} {args : Array Value} {below : List Frame} {meth : Method} {c : Code} {H : Heap} {locs : List Loc} {cells slots : Nat} {Q : State → Prop}
variable {cc : ByteArray} {pc np nL : Nat} {ls : Array Slot} {rest st : List Value} {own : String} {E : mE} {N : Nat} {σ σ2 : mSt} {tl : va_W} {lo : Nat}
theorem r_iastN (G : CallFix p m c cc nL s args mTs own) (hM : mM (aL s) E N σ s H locs) {i n : Nat} (hi : i < N) (hsh : shp i = (20, n)) {j x : Int} (hj : 0 ≤ wI j ∧ wI j < (n : Int)) (d : decode cc pc = .ok (.iastore, 1)) (hn : pc + 1 = np)
    (kk : ∀ (H1 : Heap) (locs1 : List Loc), mM (aL s) E N (upS σ i (wI j).toNat x) s H1 locs1 → H1.size = H.size → W p l e R s m args below meth c H1 locs1 cells slots Q (F0 m np ls rest)) : W p l e R s m args below meth c H locs cells slots Q (F0 m pc ls (vI x :: vI j :: .ref (eA E i) :: rest)) := by
  subst hn
  obtain ⟨h1, h2, h3, h4, h5, h6⟩ := hM
  have hat : (wl E N σ)[i]? = some (eA E i, mEnt E (σ i) i) := wl_get hi
  have hset : (wl E N σ).set i (eA E i, .inl (eT E 0, n, .inl (upd (fun k => Int32.ofInt (σ i k)) (Int32.ofInt j).toNatClampNeg (Int32.ofInt x)))) = wl E N (upS σ i (wI j).toNat x) := by
    rw [wl_set (σ' := upS σ i (wI j).toNat x) hi ?_ (fun k hk => upS_row hk)]
    rw [mEnt_int (by rw [hsh]), hsh]
    congr 3
    exact congrArg _ (upd_row σ i (wI j).toNat x)
  have hat2 : (wl E N σ)[i]? = some (eA E i, .inl (eT E 0, n, .inl (fun k => Int32.ofInt (σ i k)))) := hat.trans (by rw [mEnt_int (by rw [hsh]), hsh])
  have ha : H[eA E i]? = some (vp_cell (eT E 0) (n, .inl (fun k => Int32.ofInt (σ i k)))) := h4 i _ hat2
  refine W.iast G.1 G.2.1 ha ((h2.2 0 _ (show (mTys E)[0]? = some (eT E 0, .int) from rfl)).1 n (fun k => .int (Int32.ofInt (σ i k)))) (fun q => by cases q) (by show ¬ (Int32.ofInt j < 0 ∨ (arrV _ _ _).slots.size ≤ _); rw [arrV_size]; exact vp_in_iff.mpr hj) rfl rfl d fun H1 e1 z oq => ?_
  have hP := h4.set h5 hat2 (e := .inl (eT E 0, n, .inl (upd (fun k => Int32.ofInt (σ i k)) (Int32.ofInt j).toNatClampNeg (Int32.ofInt x)))) (by
    show H1[eA E i]? = some (vp_cell _ _)
    rw [e1, vp_cell_i, vp_cell_i, arrV_store]
    congr 2
    funext q
    by_cases hq : q = (Int32.ofInt j).toNatClampNeg
    · subst hq
      simp [updV, upd]
    · simp [updV, upd, hq]) oq
  have hD := h5.set (e := .inl (eT E 0, n, .inl (upd (fun k => Int32.ofInt (σ i k)) (Int32.ofInt j).toNatClampNeg (Int32.ofInt x)))) hat2
  rw [hset] at hP hD
  exact kk H1 _ ⟨h1, h2, h3, hP, hD, h6.put (k := (wI j).toNat) z oq (h5.2 i _ hat2)⟩ z
theorem lS_dis (hS : lS E 257 σ tl lo [] s H locs) : ∀ q ∈ tl, ¬ mA E 257 q.1 := by
  rintro q hq ⟨i, hi, he⟩
  have h5 := hS.2.2.2.2.1
  rw [List.append_nil] at h5
  exact (List.pairwise_append.mp (vaD_pair.mp h5).1).2.2 _ (List.mem_of_getElem? (wl_get (σ := σ) (E := E) hi)) q hq he.symm
theorem l_mgo {v : Option Value} {st0 : List Value} {a : Array Value} (hr : va_Run p l e R s m args below meth c H locs cells slots 0 0 (F0 m pc ls st0) rest (mQ E 257 v σ2 a) (mA E 257)) (hS : lS E 257 σ tl lo [] s H locs)
    (kk : ∀ (H1 : Heap) (locs1 : List Loc), lS E 257 σ2 tl H1.size [] s H1 locs1 → W p l e R s m args below meth c H1 locs1 cells slots Q (F0 m (pc + 3) ls (v.toList ++ rest))) : W p l e R s m args below meth c H locs cells slots Q (F0 m pc ls st0) := by
  intro T hT X
  have hdis := lS_dis hS
  have hM := hS.mM
  obtain ⟨h1, h2, h3, h4, h5, h6, h7, h8, h9, h10⟩ := hS
  rw [List.append_nil] at h4 h5
  have hA : ∀ q, mA E 257 q → aL s q := wl_A hM.2.2.2.2.1
  obtain ⟨v', st₀, t, T', L, h0, X', hL, e1, e2, ⟨hv, hP, hz, hk⟩, st⟩ := hr T hT X
  cases hv
  rw [h0] at hz hk
  have h5' := vaD_pair.mp h5
  have hD2 := vaD_pair.mp (wl_D (σ' := σ2) hM.2.2.2.2.1 (fun i hi => hA _ ⟨i, hi, rfl⟩))
  have hkeep : va_P (eD E) vwCl tl t.heap := va_P.kept (H := H) (vaP_mem.mpr (fun q hq => vaP_mem.mp h4 q (List.mem_append_right _ hq))) (fun k q hq => hk q.1 (vaat_lt (vaP_mem.mp h4 q (List.mem_append_right _ (List.mem_of_getElem? hq)))) (hdis q (List.mem_of_getElem? hq)))
  have hD9 : va_D (aL s) (wl E 257 σ2 ++ tl) := by
    refine vaD_pair.mpr ⟨List.pairwise_append.mpr ⟨hD2.1, (List.pairwise_append.mp h5'.1).2.1, fun x hx y hy => ?_⟩, fun q hq => ?_⟩
    · intro hxy
      obtain ⟨k, hk⟩ := List.mem_iff_getElem?.mp hx
      have hkl : k < 257 := by have := (List.getElem?_eq_some_iff.mp hk).1; simpa [wl] using this
      have hx2 := Option.some.inj (hk.symm.trans (wl_get hkl))
      exact hdis y hy ⟨k, hkl, by rw [← hxy, hx2]⟩
    · rcases List.mem_append.mp hq with hq | hq
      · exact hD2.2 q hq
      · exact h5'.2 q (List.mem_append_right _ hq)
  have hP9 : va_P (eD E) vwCl (wl E 257 σ2 ++ tl) T'.heap := by
    rw [e1]
    refine vaP_mem.mpr (fun q hq => ?_)
    rcases List.mem_append.mp hq with hq | hq
    · exact vaP_mem.mp hP q hq
    · exact vaP_mem.mp hkeep q hq
  obtain ⟨t2, a1, b1⟩ := kk T'.heap (locs ++ L) (lS.mk h1 h2 h3 hP9 hD9 ⟨Nat.le_trans h6.1 (by rw [e1]; exact hz), fun q g1 g2 => by rw [e1, hk q (Nat.lt_of_lt_of_le g1 h6.1) (fun z => g2 (hA q z))]; exact h6.2.1 q g1 g2, fun q hq => by
      rcases List.mem_append.mp hq with h | h
      · exact h6.2.2 q h
      · exact hA _ (hL q h)⟩) T' rfl X'
  exact ⟨t2, st t2 a1, b1⟩
theorem l_callM (G : CallFix p m c cc nL s args mTs own) (hS : lS E 257 σ tl lo [] s H locs) (hls : ls.size = nL) {y : MethodName} {cc' : ByteArray} {maxL fr lc r ci n ix : Nat} {ret : Option FieldType} (As : List Value) {x : Int} {T : u_T} (hc : mMet l y cc' maxL ret fr lc E 257 (.ref (eA E r) :: As) σ (some (vI x)) σ2) (hY : mYV y cc' maxL ret As.length) (hr : r < 257) (hcl : isC r ci) (hcc : vwCl[ci]? = some (y.cls, T, n)) (hci : ci < 12) (hw : Cond.methodLink own ix y ∈ mTs) (hroom : fr + 1 ≤ R.frames ∧ 8 + (maxL + 11) + lc ≤ R.locals) (hcs : cells ≤ R.cells ∧ slots ≤ R.slots) (rest : List Value)
    (hst : st = As.reverse ++ .ref (eA E r) :: rest) (hcat : (rest.map fun v => v.category).sum ≤ 8) (d : decode cc pc = .ok (.invokevirtual ix, 3)) (hn : pc + 3 = np)
    (kk : ∀ (H1 : Heap) (locs1 : List Loc), lS E 257 σ2 tl H1.size [] s H1 locs1 → W p l e R s m args below meth c H1 locs1 cells slots Q (F0 m np ls (vI x :: rest))) : W p l e R s m args below meth c H locs cells slots Q (F0 m pc ls st) := by
  subst hn
  subst hst
  have hM := hS.mM
  exact l_mgo (va_runV (As := As) (rest := rest) G hc ⟨m_cb G hY.1 hw hroom, G.2.2.2.2 _ hY.2.1, G.2.2.2.2 _ hY.2.2⟩ ⟨mPre.blind, m_recv hM hr hcl hcc hci, fun U hU hW => ⟨rfl, hM.pre hU hW⟩⟩ rfl rfl hls rfl (lv_room hcat) d hcs) hS kk
theorem sT.free {A B : Nat → Prop} {x : sX} {U : State} {H : Heap} (h : sT A x U H) (h1 : ¬ B x.1) (h2 : ¬ B x.2.1) : sT B x U H := by
  obtain ⟨⟨c1, a1, a2, a3, -⟩, ⟨f1, f2, f3, f4, c2, b1, b2, b3, b4, b5, -⟩, ⟨g1, g2, g3, g4, c3, d1, d2, d3, d4, d5, -⟩, ⟨c4, e1, e2, e3, e4, e5, e6, -⟩, e7, e8⟩ := h
  exact ⟨⟨c1, a1, a2, a3, h1⟩, ⟨f1, f2, f3, f4, c2, b1, b2, b3, b4, b5, h1⟩, ⟨g1, g2, g3, g4, c3, d1, d2, d3, d4, d5, h1⟩, ⟨c4, e1, e2, e3, e4, e5, e6, h2⟩, e7, e8⟩
theorem l_feeds (G : CallFix p m c cc nL s args mTs RL) (hS : lS E 257 σ tl lo [] s H locs) (hls : ls.size = nL) {ix : Nat} (hY : mYS yL_feeds cL_feeds 6 (some .int) 2) (hw : Cond.methodLink RL ix yL_feeds ∈ mTs) {t v : Nat} {g : Nat → Int32} {bs : List Nat} (ht : (t, (.inr (11, [.ref v, vI 0, vI 0, vI 0]) : va_E)) ∈ tl) (hv : (v, (.inl (eT E 2, bs.length, .inl g) : va_E)) ∈ tl) (hg : ∀ j, j < bs.length → g j = Int32.ofNat (bs.getD j 0)) (hlen : bs.length ≤ 300) (hasc : ∀ c ∈ bs, c < 128) {out : Int × mSt} (hm : fdM bs 20 0 σ = some out) (hroom : 12 + 1 ≤ R.frames ∧ 8 + (6 + 11) + 400 ≤ R.locals) (hcs : cells + 16 ≤ R.cells ∧ slots + 80 ≤ R.slots)
    (hcat : (rest.map fun v => v.category).sum ≤ 8) (d : decode cc pc = .ok (.invokestatic ix, 3)) (hn : pc + 3 = np)
    (kk : ∀ (H1 : Heap) (locs1 : List Loc), mM (aL s) E 257 out.2 s H1 locs1 → W p l e R s m args below meth c H1 locs1 (cells + 16) (slots + 80) Q (F0 m np ls (vI out.1 :: rest))) : W p l e R s m args below meth c H locs cells slots Q (F0 m pc ls (.ref t :: .ref (eA E 0) :: rest)) := by
  subst hn
  have hdis := lS_dis hS
  have hM := hS.mM
  have htS := tS_dyn hS.1 hS.2.1 ht hv hg hlen hasc
  obtain ⟨h1, h2, h3, h4, h5, h6, h7, h8, h9, h10⟩ := hS
  rw [List.append_nil] at h4 h5
  have hA : ∀ q, mA E 257 q → aL s q := wl_A hM.2.2.2.2.1
  have hfA : ∀ q, fA E H.size q → aL s q := fun q hq => hq.elim (hA q) (fun z => Nat.le_trans h6.1 z)
  have hk0 : ∀ a : Nat, a < s.heap.size → H[a]? = s.heap[a]? := fun a ha => h6.2.1 a ha (Nat.not_le.mpr ha)
  have htl : ∀ q ∈ tl, q.1 < H.size := fun q hq => vaat_lt (vaP_mem.mp h4 q (List.mem_append_right _ hq))
  have hT0 := htS H H.size (vaP_mem.mpr (fun q hq => vaP_mem.mp h4 q (List.mem_append_right _ hq))) hk0 htl h6.1
  have hnf : ∀ q ∈ tl, ¬ fA E H.size q.1 := fun q hq z => z.elim (hdis q hq) (fun y => absurd (htl q hq) (Nat.not_lt.mpr y))
  have hT1 : sT (fA E H.size) (t, v, bs) s H := sT.free hT0 (hnf _ ht) (hnf _ hv)
  have hpre : ∀ U : State, U.heap = H → s.WarmedH U.vm → fPre E H.size σ (t, v, bs) U := by
    intro U hU hW
    subst hU
    refine ⟨mWords.ride hW (mWords.use (args := #[]) h1), va_K.moved hW.alike h2, h3.ride hW (fun a ha _ => hk0 a ha) hfA, hM.2.2.2.1, wl_D hM.2.2.2.2.1 (fun i hi => Or.inl ⟨i, hi, rfl⟩), rfl, hT1.ride hW (fun _ _ _ => rfl) (fun _ h => h)⟩
  have hr : va_Run p l e R s m args below meth c H locs cells slots 16 80 (F0 m pc ls (.ref t :: .ref (eA E 0) :: rest)) rest (fQ E H.size out [Value.ref (eA E 0), .ref t].toArray) (fA E H.size) := va_runS (As := [.ref (eA E 0), .ref t]) (rest := rest) G (feeds_met l E H.size (t, v, bs) σ out hlen hm) ⟨j_cb G hY.1 hw hroom, G.2.2.2.2 _ hY.2⟩ ⟨fPre.blind, fun U hU hW => ⟨rfl, hpre U hU hW⟩⟩ rfl rfl hls rfl (lv_room hcat) d hcs
  intro T hT X
  obtain ⟨v', st₀, t9, T', L, h0, X', hL, e1, e2, ⟨hv9, hP, hz, hk⟩, st⟩ := hr T hT X
  cases hv9
  rw [h0] at hz hk
  obtain ⟨t2, a1, b1⟩ := kk T'.heap (locs ++ L) ⟨h1, h2, h3, by rw [e1]; exact hP, wl_D hM.2.2.2.2.1 (fun i hi => hA _ ⟨i, hi, rfl⟩), ⟨Nat.le_trans h6.1 (by rw [e1]; exact hz), fun q g1 g2 => by rw [e1, hk q (Nat.lt_of_lt_of_le g1 h6.1) (fun z => g2 (hfA q z))]; exact h6.2.1 q g1 g2, fun q hq => by
      rcases List.mem_append.mp hq with h | h
      · exact h6.2.2 q h
      · exact hfA _ (hL q h)⟩⟩ T' rfl X'
  exact ⟨t2, st t2 a1, b1⟩
end TR3
/-! the store before the loops -/
def gz (gh : mSt) : mSt := fun i k => if i < 257 then 0 else gh i k
def mSq (gh : mSt) : mSt := upS (upS (upS (upS (upS (upS (upR (sX11_init (upR (gz gh) 0)) 253) 253 0 7) 253 1 13) 253 2 19) 253 3 31) 253 4 37) 253 5 43
def mSL (gh : mSt) : mSt := upR (upR (mSq gh) 254) 255
def pZ (σ : mSt) : Prop := ∀ i k, i < 257 → σ i k ≠ 256
theorem pZ.S {σ : mSt} {i k : Nat} {x : Int} (h : pZ σ) (hx : x ≠ 256) : pZ (upS σ i k x) := by
  intro a b ha
  unfold upS
  split
  · exact hx
  · exact h a b ha
theorem pZ.R {σ : mSt} {N : Nat} (h : pZ σ) : pZ (upR σ N) := by
  intro a b ha
  unfold upR
  split
  · decide
  · exact h a b ha
theorem pZ.M {σ : mSt} {N n : Nat} (h : pZ σ) (hN : N + n < 256) : pZ (upM σ N n) := by
  intro a b ha
  unfold upM
  split
  · split
    · omega
    · decide
  · split
    · decide
    · exact h a b ha
theorem pZ.X10 {σ : mSt} {r N : Nat} (h : pZ σ) (hN : N < 256) : pZ (sX10_init r N σ) := by
  unfold sX10_init
  simp only [bnd]
  repeat (first | assumption | refine pZ.R ?_ | refine pZ.S ?_ (by omega))
theorem pZ.X0 {σ : mSt} {r N : Nat} (h : pZ σ) (hN : N + 30 < 256) : pZ (sX0_init r N σ) := by
  unfold sX0_init
  simp only [bnd]
  repeat (first | assumption | refine pZ.R ?_ | refine pZ.S ?_ (by omega) | refine pZ.M ?_ (by omega))
theorem pZ.X8 {σ : mSt} {r N : Nat} (h : pZ σ) (hN : N + 33 < 256) : pZ (sX8_init r N σ) := by
  unfold sX8_init
  simp only [bnd]
  repeat (first | assumption | refine pZ.X10 ?_ (by omega) | refine pZ.X0 ?_ (by omega) | refine pZ.R ?_ | refine pZ.S ?_ (by omega))
theorem pZ.X7 {σ : mSt} {r N : Nat} (h : pZ σ) (hN : N + 9 < 256) : pZ (sX7_init r N σ) := by
  unfold sX7_init
  simp only [bnd]
  repeat (first | assumption | refine pZ.R ?_ | refine pZ.S ?_ (by omega) | refine pZ.M ?_ (by omega))
theorem pZ.X3 {σ : mSt} {r N : Nat} (h : pZ σ) (hN : N + 5 < 256) : pZ (sX3_init r N σ) := by
  unfold sX3_init
  simp only [bnd]
  repeat (first | assumption | refine pZ.R ?_ | refine pZ.S ?_ (by omega) | refine pZ.M ?_ (by omega))
theorem pZ.X6 {σ : mSt} {r N : Nat} (h : pZ σ) (hN : N + 7 < 256) : pZ (sX6_init r N σ) := by
  unfold sX6_init
  simp only [bnd]
  repeat (first | assumption | refine pZ.X3 ?_ (by omega) | refine pZ.R ?_ | refine pZ.S ?_ (by omega))
theorem pZ.X2 {σ : mSt} {r N : Nat} (h : pZ σ) (hN : N + 29 < 256) : pZ (sX2_init r N σ) := by
  unfold sX2_init
  simp only [bnd]
  repeat (first | assumption | refine pZ.X3 ?_ (by omega) | refine pZ.X6 ?_ (by omega) | refine pZ.R ?_ | refine pZ.S ?_ (by omega) | refine pZ.M ?_ (by omega))
theorem pZ.X9 {σ : mSt} {r N : Nat} (h : pZ σ) : pZ (sX9_init r N σ) := by
  unfold sX9_init
  simp only [bnd]
  repeat (first | assumption | refine pZ.R ?_ | refine pZ.S ?_ (by omega))
theorem pZ.X4 {σ : mSt} {r N : Nat} (h : pZ σ) (hN : N + 16 < 256) : pZ (sX4_init r N σ) := by
  unfold sX4_init
  simp only [bnd]
  repeat (first | assumption | refine pZ.X3 ?_ (by omega) | refine pZ.X6 ?_ (by omega) | refine pZ.R ?_ | refine pZ.S ?_ (by omega))
theorem pZ.X1 {σ : mSt} {r N : Nat} (h : pZ σ) (hN : N < 256) : pZ (sX1_init r N σ) := by
  unfold sX1_init
  simp only [bnd]
  repeat (first | assumption | refine pZ.R ?_ | refine pZ.S ?_ (by omega))
theorem pZ.X11 {σ : mSt} (h : pZ σ) : pZ (sX11_init σ) := by
  unfold sX11_init
  simp only [bnd]
  repeat (first | assumption | refine pZ.X8 ?_ (by decide) | refine pZ.X0 ?_ (by decide) | refine pZ.X7 ?_ (by decide) | refine pZ.X2 ?_ (by decide) | refine pZ.X9 ?_ | refine pZ.X4 ?_ (by decide) | refine pZ.X1 ?_ (by decide) | refine pZ.X6 ?_ (by decide) | refine pZ.R ?_ | refine pZ.S ?_ (by decide) | refine pZ.M ?_ (by decide))
theorem pZ_0 (gh : mSt) : pZ (mSL gh) := by
  unfold mSL mSq
  exact (((((((((pZ.X11 (pZ.R (fun i k hi => by show (if i < 257 then 0 else gh i k) ≠ 256; rw [if_pos hi]; decide))).R).S (by decide)).S (by decide)).S (by decide)).S (by decide)).S (by decide)).S (by decide)).R).R
/-! the store and the text of a script -/
def lawA (gh : mSt) (xs : Nat → Int32) (L : Nat) : Nat → mSt
  | 0 => mSL gh
  | n + 1 => upS (upS (lawA gh xs L n) 254 n (freeV xs L (4 * n))) 255 n (freeV xs L (4 * n + 2))
def lawB (gh : mSt) (xs : Nat → Int32) (L : Nat) : Nat → mSt
  | 0 => upR (lawA gh xs L 3) 256
  | n + 1 => upS (lawB gh xs L n) 256 (someV xs L (31 + n) 5).toNat (lawB gh xs L n 256 (someV xs L (31 + n) 5).toNat + (if someV xs L (36 + n) 2 = 0 then 1 else -1))
def lawN (xs : Nat → Int32) (L : Nat) : Nat := (1 + someV xs L 30 4).toNat
def tx1 (xs : Nat → Int32) (L : Nat) : Nat → List Nat
  | 0 => []
  | n + 1 => tx1 xs L n ++ tQ n (freeV xs L (4 * n)) (freeV xs L (4 * n + 2))
def tx2 (xs : Nat → Int32) (L : Nat) : Nat → List Nat
  | 0 => tx1 xs L 3
  | n + 1 => tx2 xs L n ++ tCy n (qv (someV xs L (20 + n) 6).toNat) (someV xs L (22 + n) 2) (1 + someV xs L (24 + n) 999)
def tx3 (xs : Nat → Int32) (L : Nat) : Nat → List Nat
  | 0 => tx2 xs L 2 ++ [115, 117, 109, 32, 115, 97]
  | n + 1 => tx3 xs L n ++ tT (someV xs L (36 + n) 2) (someV xs L (31 + n) 5).toNat
def lawS (gh : mSt) (xs : Nat → Int32) (L : Nat) : mSt := lawB gh xs L (lawN xs L)
def lawT (xs : Nat → Int32) (L : Nat) : List Nat := tx3 xs L (lawN xs L) ++ [59]
theorem lawN_rng (xs : Nat → Int32) (L : Nat) : 1 ≤ lawN xs L ∧ lawN xs L ≤ 4 := by
  have := someV_rng (xs := xs) (L := L) (k := 30) (n := 4) (by decide)
  unfold lawN
  omega
theorem lawA_Z (gh : mSt) (xs : Nat → Int32) (L n : Nat) : pZ (lawA gh xs L n) := by
  induction n with
  | zero => exact pZ_0 gh
  | succ n ih => exact (ih.S (by have := freeV_ok xs L (4 * n); omega)).S (by have := freeV_ok xs L (4 * n + 2); omega)
theorem mSL_q (gh : mSt) : ∀ j, j < 6 → mSL gh 253 j = qv j := by
  intro j hj
  show upR (upR (mSq gh) 254) 255 253 j = _
  rw [upR_old (by decide), upR_old (by decide)]
  unfold mSq
  rcases (show j = 0 ∨ j = 1 ∨ j = 2 ∨ j = 3 ∨ j = 4 ∨ j = 5 by omega) with rfl | rfl | rfl | rfl | rfl | rfl <;> rfl
theorem lawA_q (gh : mSt) (xs : Nat → Int32) (L n : Nat) : ∀ j, j < 6 → lawA gh xs L n 253 j = qv j := by
  induction n with
  | zero => exact mSL_q gh
  | succ n ih =>
    intro j hj
    show upS (upS (lawA gh xs L n) 254 n _) 255 n _ 253 j = _
    rw [upS_row (j := 253) (by decide), upS_row (j := 253) (by decide)]
    exact ih j hj
theorem lawB_rng (gh : mSt) (xs : Nat → Int32) (L n : Nat) : ∀ o, -(n : Int) ≤ lawB gh xs L n 256 o ∧ lawB gh xs L n 256 o ≤ (n : Int) := by
  induction n with
  | zero =>
    intro o
    show _ ≤ upR _ 256 256 o ∧ upR _ 256 256 o ≤ _
    rw [upR_new]
    exact ⟨Int.le_refl _, Int.le_refl _⟩
  | succ n ih =>
    intro o
    show _ ≤ upS (lawB gh xs L n) 256 _ _ 256 o ∧ upS (lawB gh xs L n) 256 _ _ 256 o ≤ _
    unfold upS
    split
    · have := ih (someV xs L (31 + n) 5).toNat
      split <;> omega
    · have := ih o
      omega
theorem tQ_ok {k : Nat} {A B : Int} (hk : k < 3) (hA : -60 ≤ A ∧ A ≤ 60) (hB : -60 ≤ B ∧ B ≤ 60) : (tQ k A B).length ≤ 24 ∧ ∀ c ∈ tQ k A B, c < 128 := by
  have h1 := decI_len (x := A) (by omega)
  have h2 := decI_len (x := B) (by omega)
  have a1 := decI_asc (x := A) (by omega)
  have a2 := decI_asc (x := B) (by omega)
  unfold tQ
  constructor
  · simp only [List.length_append, List.length_cons, List.length_nil]; omega
  · intro c hc
    simp only [List.mem_append, List.mem_cons, List.not_mem_nil, or_false] at hc
    rcases hc with h | h | h | h | h | h | h
    · omega
    · omega
    · omega
    · exact a1 c h
    · omega
    · exact a2 c h
    · omega
theorem tC_ok {k : Nat} {A g B : Int} (hk : k < 3) (hA : -60 ≤ A ∧ A ≤ 60) (hB : 0 ≤ B ∧ B ≤ 999) : (tCy k A g B).length ≤ 21 ∧ ∀ c ∈ tCy k A g B, c < 128 := by
  have h1 := decI_len (x := A) (by omega)
  have h2 := decI_len (x := B) (by omega)
  have a1 := decI_asc (x := A) (by omega)
  have a2 := decI_asc (x := B) (by omega)
  have h3 : (if g = 0 then [45] else ([] : List Nat)).length ≤ 1 ∧ ∀ c ∈ (if g = 0 then [45] else ([] : List Nat)), c < 128 := by
    split
    · exact ⟨by decide, by decide⟩
    · exact ⟨by decide, fun _ h => absurd h (List.not_mem_nil)⟩
  unfold tCy
  constructor
  · simp only [List.length_append, List.length_cons, List.length_nil]; omega
  · intro c hc
    rw [List.mem_append, List.mem_append, List.mem_append, List.mem_append, List.mem_append, List.mem_append, List.mem_append] at hc
    simp only [List.mem_cons, List.not_mem_nil, or_false] at hc
    rcases hc with h | h | h | h | h | h | h | h
    · omega
    · omega
    · omega
    · exact a1 c h
    · omega
    · exact h3.2 c h
    · exact a2 c h
    · omega
theorem cT_asc : ∀ o, o < 5 → ∀ c ∈ cTx.getD (9 + o) [], c < 128 := by decide
theorem tT_ok {g : Int} {o : Nat} (ho : o < 5) : (tT g o).length = 5 ∧ ∀ c ∈ tT g o, c < 128 := by
  have h1 := cT_2 o ho
  have h2 := cT_asc o ho
  unfold tT
  constructor
  · rw [List.length_append, h1]
    split <;> rfl
  · intro c hc
    rcases List.mem_append.mp hc with h | h
    · split at h
      · exact (show ∀ c ∈ [32, 43, 32], c < 128 by decide) c h
      · exact (show ∀ c ∈ [32, 45, 32], c < 128 by decide) c h
    · exact h2 c h
theorem tx1_ok (xs : Nat → Int32) (L : Nat) : ∀ n, n ≤ 3 → (tx1 xs L n).length ≤ 24 * n ∧ ∀ c ∈ tx1 xs L n, c < 128
  | 0, _ => ⟨Nat.le_refl _, fun _ h => absurd h (List.not_mem_nil)⟩
  | n + 1, h => by
    obtain ⟨i1, i2⟩ := tx1_ok xs L n (by omega)
    have f1 := freeV_ok xs L (4 * n)
    have f2 := freeV_ok xs L (4 * n + 2)
    obtain ⟨q1, q2⟩ := tQ_ok (k := n) (by omega) ⟨f1.1, f1.2.1⟩ ⟨f2.1, f2.2.1⟩
    refine ⟨?_, fun c hc => ?_⟩
    · show (tx1 xs L n ++ _).length ≤ _
      rw [List.length_append]; omega
    · rcases List.mem_append.mp hc with h | h
      · exact i2 c h
      · exact q2 c h
theorem tx2_ok (xs : Nat → Int32) (L : Nat) : ∀ n, n ≤ 2 → (tx2 xs L n).length ≤ 72 + 21 * n ∧ ∀ c ∈ tx2 xs L n, c < 128
  | 0, _ => tx1_ok xs L 3 (by decide)
  | n + 1, h => by
    obtain ⟨i1, i2⟩ := tx2_ok xs L n (by omega)
    have f1 := someV_rng (xs := xs) (L := L) (k := 20 + n) (n := 6) (by decide)
    have f2 := qv_rng (someV xs L (20 + n) 6).toNat (by omega)
    have f3 := someV_rng (xs := xs) (L := L) (k := 24 + n) (n := 999) (by decide)
    obtain ⟨q1, q2⟩ := tC_ok (k := n) (A := qv (someV xs L (20 + n) 6).toNat) (g := someV xs L (22 + n) 2) (B := 1 + someV xs L (24 + n) 999) (by omega) (by omega) (by omega)
    refine ⟨?_, fun c hc => ?_⟩
    · show (tx2 xs L n ++ _).length ≤ _
      rw [List.length_append]; omega
    · rcases List.mem_append.mp hc with h | h
      · exact i2 c h
      · exact q2 c h
theorem tx3_ok (xs : Nat → Int32) (L : Nat) : ∀ n, (tx3 xs L n).length ≤ 120 + 5 * n ∧ ∀ c ∈ tx3 xs L n, c < 128
  | 0 => by
    obtain ⟨i1, i2⟩ := tx2_ok xs L 2 (by decide)
    refine ⟨?_, fun c hc => ?_⟩
    · show (tx2 xs L 2 ++ _).length ≤ _
      rw [List.length_append]; simp only [List.length_cons, List.length_nil]; omega
    · rcases List.mem_append.mp hc with h | h
      · exact i2 c h
      · exact (show ∀ c ∈ [115, 117, 109, 32, 115, 97], c < 128 by decide) c h
  | n + 1 => by
    obtain ⟨i1, i2⟩ := tx3_ok xs L n
    have f1 := someV_rng (xs := xs) (L := L) (k := 31 + n) (n := 5) (by decide)
    obtain ⟨q1, q2⟩ := tT_ok (g := someV xs L (36 + n) 2) (o := (someV xs L (31 + n) 5).toNat) (by omega)
    refine ⟨?_, fun c hc => ?_⟩
    · show (tx3 xs L n ++ _).length ≤ _
      rw [List.length_append]; omega
    · rcases List.mem_append.mp hc with h | h
      · exact i2 c h
      · exact q2 c h
