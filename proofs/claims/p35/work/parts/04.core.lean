/-! THE WORLD OF THE WHOLE SYSTEM: objects are numbered in the order of their making; a store gives each slot of each object a whole number (references: 0 is null, else the number of an object). -/
def mOK : Cond → Bool
  | .fieldLinkNest _ _ _ _ _ _ => true
  | .methodLinkNest _ _ _ _ => true
  | .arrayOver _ => true
  | .declares _ => true
  | .castable _ _ => true
  | .privateMethod _ => true
  | w => goodWord w
theorem ov_same {t : FieldType} {args a' : Array Value} {u U : State} (h : u.vm = U.vm) (hz : (Cond.arrayOver t).before args u = true) : (Cond.arrayOver t).before a' U = true := by
  unfold Cond.before Cond.holds at hz ⊢
  simp only [Cond.value] at hz ⊢
  rw [← h]
  exact hz
theorem ov_ride {t : FieldType} {args a' : Array Value} {s U : State} (hW : s.WarmedH U.vm) (h : (Cond.arrayOver t).before args s = true) : (Cond.arrayOver t).before a' U = true :=
  ov_same (u := s.setVm U.vm) (args := args) rfl (by rw [Cond.arrayOver_setVmC hW.alike]; exact h)
theorem mOK_ride {w : Cond} (hw : mOK w = true) {args a' : Array Value} {s U : State} (hW : s.WarmedH U.vm) (h : w.before args s = true) : w.before a' U = true := by
  unfold mOK at hw
  split at hw
  · exact va_Nw.use rfl (va_Nw.warmF hW (va_Nw.of rfl h))
  · exact va_Nw.use rfl (va_Nw.warmM hW (va_Nw.of rfl h))
  · exact ov_ride hW h
  · exact va_Nw.use rfl (va_Nw.warmD hW (va_Nw.of rfl h))
  · exact va_Nw.use rfl (va_Nw.warmC hW (va_Nw.of rfl h))
  · exact Cond.privateMethod_warm hW h
  · exact word_at hW (good_of_word hw) h
def mTs : List Cond := lw_tbl.filter mOK
theorem mTs_in {w : Cond} (i : Nat) (h : lw_tbl[i]? = some w) (h2 : mOK w = true) : w ∈ mTs := List.mem_filter.mpr ⟨List.mem_of_getElem? h, h2⟩
def mWords (U : State) : Prop := ∀ w ∈ mTs, w.before #[] U = true
theorem mWords.ride {s U : State} {args : Array Value} (hW : s.WarmedH U.vm) (h : ∀ w ∈ mTs, w.before args s = true) : mWords U :=
  fun w hw => mOK_ride (List.mem_filter.mp hw).2 hW (h w hw)
theorem mWords.use {s : State} {args : Array Value} (h : mWords s) : ∀ w ∈ mTs, w.before args s = true :=
  fun w hw => mOK_ride (List.mem_filter.mp hw).2 (State.WarmedH.refl s) (h w hw)
/-- kind and length of each object: 0 to 11 classes, 20 int[], 21 long[], 22 byte[], 23 to 27 rows of references -/
def shpL : List (Nat × Nat) := [(10, 0), (22, 600), (7, 0), (9, 0), (22, 0), (0, 0), (20, 8), (20, 8), (20, 8), (20, 8), (25, 8), (22, 10), (22, 10), (22, 10), (22, 10), (22, 10), (22, 10), (22, 10), (22, 10), (26, 8), (20, 4), (20, 4), (20, 4), (20, 4), (20, 4), (20, 4), (20, 4), (20, 4), (26, 8), (20, 4), (20, 4), (20, 4), (20, 4), (20, 4), (20, 4), (20, 4), (20, 4), (0, 0), (20, 8), (20, 8), (20, 8), (20, 8), (25, 8), (22, 10), (22, 10), (22, 10), (22, 10), (22, 10), (22, 10), (22, 10), (22, 10), (26, 8), (20, 4), (20, 4), (20, 4), (20, 4), (20, 4), (20, 4), (20, 4), (20, 4), (26, 8), (20, 4), (20, 4), (20, 4), (20, 4), (20, 4), (20, 4), (20, 4), (20, 4), (0, 0), (20, 8), (20, 8), (20, 8), (20, 8), (25, 8), (22, 10), (22, 10), (22, 10), (22, 10), (22, 10), (22, 10), (22, 10), (22, 10), (26, 8), (20, 4), (20, 4), (20, 4), (20, 4), (20, 4), (20, 4), (20, 4), (20, 4), (26, 8), (20, 4), (20, 4), (20, 4), (20, 4), (20, 4), (20, 4), (20, 4), (20, 4), (6, 0), (20, 64), (26, 8), (20, 64), (20, 64), (20, 64), (20, 64), (20, 64), (20, 64), (20, 64), (20, 64), (23, 8), (24, 8), (2, 0), (5, 0), (3, 0), (27, 4), (21, 4), (21, 4), (21, 4), (21, 4), (21, 4), (21, 4), (3, 0), (27, 4), (21, 4), (21, 4), (21, 4), (21, 4), (21, 4), (3, 0), (27, 4), (21, 4), (21, 4), (21, 4), (21, 4), (21, 4), (27, 5), (21, 4), (21, 4), (21, 4), (21, 4), (21, 4), (21, 4), (8, 0), (4, 0), (5, 0), (3, 0), (27, 4), (21, 4), (21, 4), (21, 4), (21, 4), (21, 4), (21, 4), (3, 0), (27, 4), (21, 4), (21, 4), (21, 4), (21, 4), (21, 4), (21, 4), (21, 4), (1, 0), (21, 4), (1, 0), (21, 4), (1, 0), (21, 4), (1, 0), (21, 4), (1, 0), (21, 4), (1, 0), (21, 4), (1, 0), (21, 4), (1, 0), (21, 4), (5, 0), (3, 0), (27, 4), (21, 4), (21, 4), (21, 4), (21, 4), (21, 4), (21, 4), (5, 0), (3, 0), (27, 4), (21, 4), (21, 4), (21, 4), (21, 4), (21, 4), (21, 4), (5, 0), (3, 0), (27, 4), (21, 4), (21, 4), (21, 4), (21, 4), (21, 4), (21, 4), (5, 0), (3, 0), (27, 4), (21, 4), (21, 4), (21, 4), (21, 4), (21, 4), (21, 4), (5, 0), (3, 0), (27, 4), (21, 4), (21, 4), (21, 4), (21, 4), (21, 4), (21, 4), (5, 0), (3, 0), (27, 4), (21, 4), (21, 4), (21, 4), (21, 4), (21, 4), (21, 4), (5, 0), (3, 0), (27, 4), (21, 4), (21, 4), (21, 4), (21, 4), (21, 4), (21, 4), (5, 0), (3, 0), (27, 4), (21, 4), (21, 4), (21, 4), (21, 4), (21, 4), (21, 4), (20, 6), (20, 3), (20, 3), (20, 5)]
def shp (i : Nat) : Nat × Nat := shpL.getD i (99, 0)
/-- what the fields of a class are: 0 int, 1 long, 2 reference -/
def mFt : Nat → List Nat
  | 0 => [0, 2, 2, 2, 2, 2, 2, 2]
  | 1 => [2, 1, 0]
  | 2 => [2, 0, 1, 2, 2, 2, 2]
  | 3 => [2, 2, 1]
  | 4 => [2, 2, 2]
  | 5 => [1, 1, 2, 2]
  | 6 => [0, 0, 2, 2]
  | 7 => [2, 2, 0, 1]
  | 8 => [1, 1, 1, 1, 1]
  | 9 => [2, 0, 0, 0, 0]
  | 10 => [2, 0, 2, 2, 2, 2, 2, 2, 2, 2, 2, 2]
  | _ => []
abbrev mE : Type := (va_G × (Nat → ClassId)) × (Nat → Nat) × (Nat → Nat) × (Nat → Nat)
abbrev eD (E : mE) : va_G := E.1.1
abbrev eT (E : mE) : Nat → ClassId := E.1.2
abbrev eA (E : mE) : Nat → Nat := E.2.1
abbrev eK (E : mE) : Nat → Nat := E.2.2.1
abbrev eV (E : mE) : Nat → Nat := E.2.2.2
abbrev mSt : Type := Nat → Nat → Int
def vI (x : Int) : Value := .int (Int32.ofInt x)
def vL (x : Int) : Value := .long (Int64.ofInt x)
def mRf (E : mE) (x : Int) : Option Nat := if x = 0 then none else some (eA E x.toNat)
def mV (E : mE) (t : Nat) (x : Int) : Value := match t with
  | 0 => vI x
  | 1 => vL x
  | _ => va_rf (mRf E x)
def mFs (E : mE) (f : Nat → Int) : List Nat → Nat → List Value
  | [], _ => []
  | t :: ts, k => mV E t (f k) :: mFs E f ts (k + 1)
def mEnt (E : mE) (f : Nat → Int) (i : Nat) : va_E :=
  if (shp i).1 < 12 then .inr ((shp i).1, mFs E f (mFt (shp i).1) 0)
  else if (shp i).1 = 20 then .inl (eT E 0, (shp i).2, .inl (fun j => Int32.ofInt (f j)))
  else if (shp i).1 = 21 then .inl (eT E 1, (shp i).2, .inr (.inl (fun j => Int64.ofInt (f j))))
  else if (shp i).1 = 22 then .inl (eT E 2, (shp i).2, .inl (fun j => Int32.ofInt (f j)))
  else .inl (eT E ((shp i).1 - 20), (shp i).2, .inr (.inr (.inr (.inr (fun j => mRf E (f j))))))
def wl (E : mE) (N : Nat) (σ : mSt) : va_W := (List.range N).map (fun i => (eA E i, mEnt E (σ i) i))
def mTys (E : mE) : List (ClassId × FieldType) := [(eT E 0, .int), (eT E 1, .long), (eT E 2, .byte), (eT E 3, .object "MiddleAlgebras$Element"), (eT E 4, .object "MiddleAlgebras$Order"), (eT E 5, .array .byte), (eT E 6, .array .int), (eT E 7, .array .long), (eT E 8, .object "java/lang/String")]
def mA (E : mE) (N : Nat) : Nat → Prop := fun a => ∃ i, i < N ∧ a = eA E i
/-- a slot takes a number -/
def upS (σ : mSt) (i k : Nat) (v : Int) : mSt := fun a b => if a = i ∧ b = k then v else σ a b
theorem upS_same (σ : mSt) (i k : Nat) (v : Int) : upS σ i k v i k = v := by simp [upS]
theorem upS_row {σ : mSt} {i k : Nat} {v : Int} {j : Nat} (h : j ≠ i) : upS σ i k v j = σ j := by
  funext b; simp [upS, h]
theorem wl_get {E : mE} {N : Nat} {σ : mSt} {i : Nat} (h : i < N) : (wl E N σ)[i]? = some (eA E i, mEnt E (σ i) i) := by
  simp [wl, List.getElem?_map, List.getElem?_range h]
theorem wl_at {E : mE} {N : Nat} {σ : mSt} {i : Nat} {q : Nat × va_E} (h : (wl E N σ)[i]? = some q) : i < N ∧ q = (eA E i, mEnt E (σ i) i) := by
  have hi : i < N := by
    have := (List.getElem?_eq_some_iff.mp h).1
    simpa [wl] using this
  exact ⟨hi, (Option.some.inj (h.symm.trans (wl_get hi)))⟩
theorem wl_set {E : mE} {N : Nat} {σ σ' : mSt} {i : Nat} {e : va_E} (hi : i < N) (he : e = mEnt E (σ' i) i) (ho : ∀ j, j ≠ i → σ' j = σ j) : (wl E N σ).set i (eA E i, e) = wl E N σ' := by
  subst he
  apply List.ext_getElem?
  intro j
  by_cases hj : j = i
  · subst hj
    rw [List.getElem?_set_self (by simpa [wl] using hi), wl_get hi]
  · rw [List.getElem?_set_ne (Ne.symm hj)]
    by_cases hN : j < N
    · rw [wl_get hN, wl_get hN, ho j hj]
    · rw [List.getElem?_eq_none (by simpa [wl] using hN), List.getElem?_eq_none (by simpa [wl] using hN)]
theorem wl_A {E : mE} {N : Nat} {σ : mSt} {A : Nat → Prop} (hD : va_D A (wl E N σ)) : ∀ q, mA E N q → A q := by
  rintro q ⟨i, hi, rfl⟩
  exact hD.2 i _ (wl_get hi)
theorem wl_D {E : mE} {N : Nat} {σ σ' : mSt} {A B : Nat → Prop} (hD : va_D A (wl E N σ)) (hB : ∀ i, i < N → B (eA E i)) : va_D B (wl E N σ') := by
  refine ⟨fun i j p q hi hj hpq => ?_, fun k q hk => ?_⟩
  · obtain ⟨h1, rfl⟩ := wl_at hi
    obtain ⟨h2, rfl⟩ := wl_at hj
    exact hD.1 i j _ _ (wl_get h1) (wl_get h2) hpq
  · obtain ⟨h1, rfl⟩ := wl_at hk
    exact hB k h1
theorem mFs_get {E : mE} {f : Nat → Int} : ∀ (ts : List Nat) (k0 j t : Nat), ts[j]? = some t → (mFs E f ts k0)[j]? = some (mV E t (f (k0 + j)))
  | [], _, j, _, h => by simp at h
  | t0 :: ts, k0, 0, t, h => by
    simp at h
    subst h
    rfl
  | t0 :: ts, k0, j + 1, t, h => by
    have := mFs_get (E := E) (f := f) ts (k0 + 1) j t (by simpa using h)
    simp only [mFs, List.getElem?_cons_succ]
    rw [this]
    congr 3
    omega
theorem mFs_len {E : mE} {f : Nat → Int} : ∀ (ts : List Nat) (k0 : Nat), (mFs E f ts k0).length = ts.length
  | [], _ => rfl
  | _ :: ts, k0 => by simp [mFs, mFs_len ts (k0 + 1)]
theorem mFs_ext {E : mE} {f g : Nat → Int} : ∀ (ts : List Nat) (k0 : Nat), (∀ j, k0 ≤ j → f j = g j) → mFs E f ts k0 = mFs E g ts k0
  | [], _, _ => rfl
  | t :: ts, k0, h => by
    simp only [mFs]
    rw [h k0 (Nat.le_refl _), mFs_ext ts (k0 + 1) (fun j hj => h j (by omega))]
theorem mFs_set {E : mE} {f g : Nat → Int} : ∀ (ts : List Nat) (k0 j t : Nat), ts[j]? = some t → (∀ b, b ≠ k0 + j → g b = f b) → (mFs E f ts k0).set j (mV E t (g (k0 + j))) = mFs E g ts k0
  | [], _, j, _, h, _ => by simp at h
  | t0 :: ts, k0, 0, t, h, hg => by
    simp at h
    subst h
    simp only [mFs, List.set_cons_zero, Nat.add_zero]
    rw [mFs_ext ts (k0 + 1) (fun b hb => (hg b (by omega)).symm)]
  | t0 :: ts, k0, j + 1, t, h, hg => by
    simp only [mFs, List.set_cons_succ]
    rw [hg k0 (by omega)]
    congr 1
    have := mFs_set (E := E) (f := f) (g := g) ts (k0 + 1) j t (by simpa using h) (fun b hb => hg b (by omega))
    rw [show k0 + (j + 1) = k0 + 1 + j by omega]
    exact this
theorem mEnt_obj {E : mE} {f : Nat → Int} {i ci : Nat} (h : (shp i).1 = ci) (h2 : ci < 12) : mEnt E f i = .inr (ci, mFs E f (mFt ci) 0) := by
  subst h
  simp [mEnt, h2]
theorem mEnt_int {E : mE} {f : Nat → Int} {i : Nat} (h : (shp i).1 = 20) : mEnt E f i = .inl (eT E 0, (shp i).2, .inl (fun j => Int32.ofInt (f j))) := by simp [mEnt, h]
theorem mEnt_long {E : mE} {f : Nat → Int} {i : Nat} (h : (shp i).1 = 21) : mEnt E f i = .inl (eT E 1, (shp i).2, .inr (.inl (fun j => Int64.ofInt (f j)))) := by simp [mEnt, h]
theorem mEnt_byte {E : mE} {f : Nat → Int} {i : Nat} (h : (shp i).1 = 22) : mEnt E f i = .inl (eT E 2, (shp i).2, .inl (fun j => Int32.ofInt (f j))) := by simp [mEnt, h]
theorem mEnt_refs {E : mE} {f : Nat → Int} {i t : Nat} (h : (shp i).1 = 20 + t) (h2 : 3 ≤ t) : mEnt E f i = .inl (eT E t, (shp i).2, .inr (.inr (.inr (.inr (fun j => mRf E (f j)))))) := by
  unfold mEnt
  rw [h, if_neg (by omega), if_neg (by omega), if_neg (by omega), if_neg (by omega)]
  rw [show 20 + t - 20 = t by omega]
/-! texts, and the one static -/
def mXLen : List Nat := [10, 6, 3, 0, 12, 1, 1, 8, 1, 2, 2, 2, 2, 2, 6, 3, 3]
def mXByt : List (List Int32) := [[113, 117, 97, 116, 101, 114, 110, 105, 111, 110], [99, 121, 99, 108, 105, 99], [115, 117, 109], [], [113, 117, 97, 116, 101, 114, 110, 105, 111, 110, 32, 113], [32], [59], [99, 121, 99, 108, 105, 99, 32, 99], [45], [113, 97], [113, 98], [113, 99], [99, 97], [99, 98], [115, 117, 109, 32, 115, 97], [32, 43, 32], [32, 45, 32]]
def mXTx : List String := ["quaternion", "cyclic", "sum", "", "quaternion q", " ", ";", "cyclic c", "-", "qa", "qb", "qc", "ca", "cb", "sum sa", " + ", " - "]
def mXIt : List Nat := [58, 64, 66]
def mXIl : List Nat := [44, 56, 61, 66, 72, 74, 76, 78, 80, 82, 84, 86, 88, 90]
def mX (B : Nat → Prop) (E : mE) (U : State) (H : Heap) : Prop :=
  vk_S 17 mXLen mXByt (eK E) (eV E) B U H ∧ (∀ i, i < 3 → vk_R "MiddleAlgebras$Tokens" (mXIt.getD i 0) (mXTx.getD i "") (eK E i) U) ∧ va_Z "java/lang/String" "COMPACT_STRINGS" "Z" (.int 1) B U H ∧ va_Zq "jdk/internal/util/Preconditions" "SIOOBE_FORMATTER" "Ljava/util/function/BiFunction;" B U H ∧ (∀ i, i < 14 → vk_R "MiddleAlgebrasLaw" (mXIl.getD i 0) (mXTx.getD (3 + i) "") (eK E (3 + i)) U) ∧ (va_Z "java/lang/Integer" "DigitOnes" "[B" (.ref (eV E 20)) B U H ∧ va_T .byte (eV E 20) 100 (fun j => .int (Int32.ofNat (48 + j % 10))) B U H) ∧ va_Z "java/lang/Integer" "DigitTens" "[B" (.ref (eV E 21)) B U H ∧ va_T .byte (eV E 21) 100 (fun j => .int (Int32.ofNat (48 + j / 10))) B U H
theorem mX.ride {A B : Nat → Prop} {E : mE} {s U : State} {H H' : Heap} (h : mX A E s H) (hW : s.WarmedH U.vm) (hH : ∀ a : Nat, a < H.size → ¬ A a → H'[a]? = H[a]?) (hAB : ∀ q, B q → A q) : mX B E U H' :=
  ⟨((h.1.kept hH).narrow hAB).moved hW.alike, fun i hi => (h.2.1 i hi).warm hW, ((h.2.2.1.kept hH).narrow hAB).moved hW.alike, ((h.2.2.2.1.kept hH).narrow hAB).moved hW.alike, fun i hi => (h.2.2.2.2.1 i hi).warm hW, ⟨((h.2.2.2.2.2.1.1.kept hH).narrow hAB).moved hW.alike, va_T.moved hW.alike ((h.2.2.2.2.2.1.2.kept hH).narrow hAB)⟩, ((h.2.2.2.2.2.2.1.kept hH).narrow hAB).moved hW.alike, va_T.moved hW.alike ((h.2.2.2.2.2.2.2.kept hH).narrow hAB)⟩
/-! the state in a walk; a method's start and end -/
def mM (A : Nat → Prop) (E : mE) (N : Nat) (σ : mSt) (s : State) (H : Heap) (locs : List Loc) : Prop :=
  mWords s ∧ va_K (eD E) vwCl (mTys E) s ∧ mX A E s s.heap ∧ va_P (eD E) vwCl (wl E N σ) H ∧ va_D A (wl E N σ) ∧ va_S A s.heap H locs
def mPre (E : mE) (N : Nat) (σ : mSt) (U : State) : Prop :=
  mWords U ∧ va_K (eD E) vwCl (mTys E) U ∧ mX (mA E N) E U U.heap ∧ va_P (eD E) vwCl (wl E N σ) U.heap ∧ va_D (mA E N) (wl E N σ)
def mQ (E : mE) (N : Nat) (v : Option Value) (σ : mSt) : Array Value → State → Outcome → State → Prop := fun _ st oc t =>
  oc = .returned v ∧ va_P (eD E) vwCl (wl E N σ) t.heap ∧ va_F (mA E N) st t
def mMet (l : Launch) (y : MethodName) (cc : ByteArray) (maxL : Nat) (ret : Option FieldType) (fr lo : Nat) (E : mE) (N : Nat) (As : List Value) (σ : mSt) (v : Option Value) (σ' : mSt) : Prop :=
  Met l y [.code y cc maxL ret] ({ frames := fr, cells := 0, slots := 0, locals := lo } : Room) (va_Pc As (mPre E N σ)) (mQ E N v σ') 0 0 (mA E N)
theorem mPre.blind {E : mE} {N : Nat} {σ : mSt} {As : List Value} : FrameBlind (va_Pc As (mPre E N σ)) := by
  rintro a U g mk ⟨h0, h1, h2, h3, h4, h5⟩
  have hW : U.WarmedH (U.calling g mk a).vm := State.WarmedH.refl U
  exact ⟨h0, mWords.ride hW (mWords.use (args := #[]) h1), va_K.moved (U := U.calling g mk a) hW.alike h2, h3.ride (U := U.calling g mk a) hW (fun _ _ _ => rfl) (fun _ h => h), h4, h5⟩
theorem mM.pre {A : Nat → Prop} {E : mE} {N : Nat} {σ : mSt} {s U : State} {H : Heap} {locs : List Loc} (h : mM A E N σ s H locs) (hU : U.heap = H) (hW : s.WarmedH U.vm) : mPre E N σ U := by
  obtain ⟨h1, h2, h3, h4, h5, h6⟩ := h
  subst hU
  exact ⟨mWords.ride hW (mWords.use (args := #[]) h1), va_K.moved hW.alike h2, h3.ride hW (fun a ha hn => h6.2.1 a ha hn) (wl_A h5), h4, wl_D h5 (fun i hi => ⟨i, hi, rfl⟩)⟩
theorem mTs_ins (ws : List Cond) (ps : List Nat) (hp : ws = ps.filterMap (fun i => lw_tbl[i]?)) (h : ws.all mOK = true) : ∀ w ∈ ws, w ∈ mTs := by
  intro w hw
  have h1 := List.all_eq_true.mp h w hw
  rw [hp] at hw
  obtain ⟨i, -, hi⟩ := List.mem_filterMap.mp hw
  exact mTs_in i hi h1
