/-! TEXTS OF THE LAW: constants, made texts -/
def cTx : List (List Nat) := [[113, 117, 97, 116, 101, 114, 110, 105, 111, 110], [99, 121, 99, 108, 105, 99], [115, 117, 109], [], [113, 117, 97, 116, 101, 114, 110, 105, 111, 110, 32, 113], [32], [59], [99, 121, 99, 108, 105, 99, 32, 99], [45], [113, 97], [113, 98], [113, 99], [99, 97], [99, 98], [115, 117, 109, 32, 115, 97], [32, 43, 32], [32, 45, 32]]
def cX (E : mE) (i : Nat) : sX := (eK E i, eV E i, cTx.getD i [])
theorem cT_ok : ∀ i, i < 17 → (cTx.getD i []).length = mXLen.getD i 0 ∧ (cTx.getD i []).length ≤ 300 ∧ (∀ c ∈ cTx.getD i [], c < 128) ∧ ∀ j, j < mXLen.getD i 0 → (mXByt.getD i []).getD j 0 = Int32.ofNat ((cTx.getD i []).getD j 0) := by decide +kernel
theorem tS_const {E : mE} {tl : va_W} {s : State} (hX : mX (aL s) E s s.heap) {i : Nat} (hi : i < 17) : tS E tl s (cX E i) := by
  intro H lo hP hk htl hlo
  obtain ⟨c1, c2, c3, c4⟩ := cT_ok i hi
  obtain ⟨v1, v2, v3, v4⟩ := hX.1.1 i hi
  have h0 : sT (aL s) (cX E i) s s.heap := by
    refine ⟨v1, v2, v3, ?_, c2, c3⟩
    obtain ⟨cell, h1, h2, h3, h4, h5, h6, h7⟩ := v4
    refine ⟨cell, h1, h2, h3, ?_, ?_, fun j hj => ?_, h7⟩
    · show (cTx.getD i []).length ≤ _; rw [c1]; exact h4
    · show _ = Int32.ofNat (cTx.getD i []).length; rw [c1]; exact h5
    · have hj' : j < mXLen.getD i 0 := by rw [← c1]; exact hj
      rw [h6 j hj']
      exact congrArg (fun z => some (Value.int z)) (c4 j hj')
  exact h0.ride (State.WarmedH.refl s) (fun a ha _ => hk a ha) (fun q hq => Nat.le_trans hlo hq)
theorem tS_dyn {E : mE} {tl : va_W} {s : State} (hW : mWords s) (hK : va_K (eD E) vwCl (mTys E) s) {t v : Nat} {g : Nat → Int32} {bs : List Nat} (ht : (t, (.inr (11, [.ref v, vI 0, vI 0, vI 0]) : va_E)) ∈ tl) (hv : (v, (.inl (eT E 2, bs.length, .inl g) : va_E)) ∈ tl) (hg : ∀ j, j < bs.length → g j = Int32.ofNat (bs.getD j 0)) (hn : bs.length ≤ 300) (hc : ∀ c ∈ bs, c < 128) : tS E tl s (t, v, bs) := by
  intro H lo hP hk htl hlo
  have hPm := vaP_mem.mp hP
  obtain ⟨r, h1, cell, q1, q2, q3, q4⟩ := hPm _ ht
  have hr : r = (RJ0, TJ0, 4) := Option.some.inj (h1.symm.trans (show vwCl[11]? = some (RJ0, TJ0, 4) from rfl))
  subst hr
  obtain ⟨hSl, hfc, kC, hkC, hkind⟩ := hK.1 11 _ (show vwCl[11]? = some (RJ0, TJ0, 4) from rfl)
  have hnt : ¬ jL lo t := Nat.not_le.mpr (htl _ ht)
  have hfld : ∀ k, k < 4 → ∀ val, ([.ref v, vI 0, vI 0, vI 0] : List Value)[k]? = some val → va_OF (TJ0 k).1 (TJ0 k).2.1 (TJ0 k).2.2.1 val t (jL lo) s H := by
    intro k hk4 val hval
    obtain ⟨cf, kf, fi, f, hi, hsl⟩ := hSl k hk4
    refine ⟨cf, kf, fi, f, cell, hi, (u_facts hfc hkC (u_lays (args := #[]) hW inJ0 hk4) hi).1, q1, by rw [q3]; exact fun h => (by cases h), ?_, hnt⟩
    rw [hsl, q4 k hk4]
    simp [vp_V, hval]
  have hb : H[v]? = some (vp_cell (eT E 2) (bs.length, .inl g)) := hPm _ hv
  refine ⟨⟨cell, q1, by rw [q3]; rfl, by rw [q2]; exact hfc, hnt⟩, hfld 1 (by decide) _ rfl, hfld 0 (by decide) _ rfl, ⟨_, hb, (hK.2 2 _ (show (mTys E)[2]? = some (eT E 2, .byte) from rfl)).1 bs.length (fun j => .int (g j)), (fun h => by cases h), ?_, ?_, fun j hj => ?_, Nat.not_le.mpr (htl _ hv)⟩, hn, hc⟩
  · show bs.length ≤ (arrV _ _ _).slots.size
    rw [arrV_size]
    exact Nat.le_refl _
  · show (arrV _ _ _).slots.size.toInt32 = _
    rw [arrV_size]
  · show (arrV _ _ _).slots[j]? = _
    rw [arrV_read _ _ hj, hg j hj]
section TR
variable {p : Program} {l : Launch} {e : Env} {R : Room} {s : State} {m : MethodId} {args : Array Value} {below : List Frame} {meth : Method} {c : Code} {H : Heap} {locs : List Loc} {cells slots : Nat} {Q : State → Prop}
variable {cc : ByteArray} {pc np nL : Nat} {ls : Array Slot} {rest st : List Value} {E : mE} {N : Nat} {σ : mSt} {tl : va_W} {lo : Nat} {ws : va_W}
theorem l_ldc (G : CallFix p m c cc nL s args mTs RL) (hS : lS E N σ tl lo ws s H locs) (i : Nat) (hi : i < 14) (d : decode cc pc = .ok (.ldc (mXIl.getD i 0), 2)) (hn : pc + 2 = np)
    (kk : W p l e R s m args below meth c H locs cells slots Q (F0 m np ls (.ref (eK E (3 + i)) :: rest))) : W p l e R s m args below meth c H locs cells slots Q (F0 m pc ls rest) := by
  subst hn
  exact va_ldcS G.1 G.2.1 G.2.2.2.1 (hS.2.2.1.2.2.2.2.1 i hi) d kk
end TR
theorem bK_nil : bK [] 16 (fun _ => 0) := ⟨by decide, by decide, sb_fit0, fun j hj => absurd hj (Nat.not_lt_zero j)⟩
theorem i2cK : ∀ k : Nat, k < 3 → ((Int32.ofInt ((97 + k : Nat) : Int)).toUInt32 % 65536).toInt32 = Int32.ofInt ((97 + k : Nat) : Int) := by
  intro k hk
  rcases (by omega : k = 0 ∨ k = 1 ∨ k = 2) with rfl | rfl | rfl <;> decide
theorem decI_len {x : Int} (h : -999 ≤ x ∧ x ≤ 999) : (decI x).length ≤ 4 := by
  by_cases h0 : x < 0
  · by_cases h1 : -10 < x
    · have := dl_m1 (x := x) (by omega); omega
    · by_cases h2 : -100 < x
      · have := dl_m2 (x := x) (by omega); omega
      · have := dl_m3 (x := x) (by omega); omega
  · by_cases h1 : x < 10
    · have := dl_p1 (x := x) (by omega); omega
    · by_cases h2 : x < 100
      · have := dl_p2 (x := x) (by omega); omega
      · have := dl_p3 (x := x) (by omega); omega
theorem decN_asc {n : Nat} (h : n ≤ 999) : ∀ c ∈ decN n, c < 128 := by
  intro c hc
  unfold decN at hc
  split at hc
  · simp at hc; omega
  · split at hc
    · simp at hc; omega
    · simp at hc; omega
theorem decI_asc {x : Int} (h : -999 ≤ x ∧ x ≤ 999) : ∀ c ∈ decI x, c < 128 := by
  intro c hc
  unfold decI at hc
  split at hc
  · rcases List.mem_cons.mp hc with rfl | hc
    · decide
    · exact decN_asc (by omega) c hc
  · exact decN_asc (by omega) c hc
theorem frL_ok : ∀ v : Fin 61, 1 ≤ v.val → 1 ≤ frL 60 (v.val : Int) ∧ frL 60 (v.val : Int) ≤ 60 ∧ hsq (frL 60 (v.val : Int)) = 0 := by decide +kernel
theorem freeV_ok (xs : Nat → Int32) (L k : Nat) : -60 ≤ freeV xs L k ∧ freeV xs L k ≤ 60 ∧ freeV xs L k ≠ 0 ∧ (hsq (freeV xs L k) = 0 ∨ hsq (-(freeV xs L k)) = 0) := by
  have h := someV_rng (xs := xs) (L := L) (k := k) (n := 60) (by decide)
  have h2 := frL_ok ⟨(1 + someV xs L k 60).toNat, by omega⟩ (by show 1 ≤ (1 + someV xs L k 60).toNat; omega)
  have e : (((⟨(1 + someV xs L k 60).toNat, by omega⟩ : Fin 61).val : Nat) : Int) = 1 + someV xs L k 60 := by show (((1 + someV xs L k 60).toNat : Nat) : Int) = _; omega
  rw [e] at h2
  unfold freeV
  split
  · exact ⟨by omega, by omega, by omega, Or.inl h2.2.2⟩
  · exact ⟨by omega, by omega, by omega, Or.inr (by rw [Int.neg_neg]; exact h2.2.2)⟩
