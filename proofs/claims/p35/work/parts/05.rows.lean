/-! ROWS OF THE WALK: numbers as whole numbers; wI, wL: what a number is as an int, as a long -/
def wI (x : Int) : Int := (Int32.ofInt x).toInt
def wL (x : Int) : Int := (Int64.ofInt x).toInt
def wB (x : Int) : Int := (Int8.ofInt x).toInt
theorem wI_eq {x : Int} (h1 : -2147483648 ≤ x) (h2 : x < 2147483648) : wI x = x := by
  unfold wI
  rw [Int32.toInt_ofInt_of_le (by omega) (by omega)]
theorem wL_eq {x : Int} (h1 : -9223372036854775808 ≤ x) (h2 : x < 9223372036854775808) : wL x = x := by
  unfold wL
  rw [Int64.toInt_ofInt_of_le (by omega) (by omega)]
theorem wB_eq {x : Int} (h1 : -128 ≤ x) (h2 : x < 128) : wB x = x := by
  unfold wB
  rw [Int8.toInt_ofInt_of_le (by omega) (by omega)]
theorem vI_w {x : Int} {z : Int32} (h : z.toInt = wI x) : (Value.int z) = vI x := by
  unfold vI
  congr 1
  exact Int32.toInt_inj.mp h
theorem wI_toInt (z : Int32) : wI z.toInt = z.toInt := by
  unfold wI
  rw [Int32.ofInt_toInt]
theorem wL_toInt (z : Int64) : wL z.toInt = z.toInt := by
  unfold wL
  rw [Int64.ofInt_toInt]
theorem vL_w {x : Int} {z : Int64} (h : z.toInt = wL x) : (Value.long z) = vL x := by
  unfold vL
  congr 1
  exact Int64.toInt_inj.mp h
theorem ofI_w (x : Int) : Int32.ofInt (wI x) = Int32.ofInt x := Int32.ofInt_toInt _
theorem ofL_w (x : Int) : Int64.ofInt (wL x) = Int64.ofInt x := Int64.ofInt_toInt _
theorem i32_of_bmod (z : Int) : Int32.ofInt (z.bmod (2 ^ 32)) = Int32.ofInt z := by
  rw [Int32.ofInt_eq_iff_bmod_eq_toInt, Int32.toInt_ofInt]
  simp [Int32.size]
theorem i64_of_bmod (z : Int) : Int64.ofInt (z.bmod (2 ^ 64)) = Int64.ofInt z := by
  rw [Int64.ofInt_eq_iff_bmod_eq_toInt, Int64.toInt_ofInt]
  simp [Int64.size]
theorem i32_div (x y : Int) : Int32.ofInt x / Int32.ofInt y = Int32.ofInt ((wI x).tdiv (wI y)) := by
  rw [← Int32.ofInt_toInt (Int32.ofInt x / Int32.ofInt y), Int32.toInt_div, i32_of_bmod]; rfl
theorem i64_div (x y : Int) : Int64.ofInt x / Int64.ofInt y = Int64.ofInt ((wL x).tdiv (wL y)) := by
  rw [← Int64.ofInt_toInt (Int64.ofInt x / Int64.ofInt y), Int64.toInt_div, i64_of_bmod]; rfl
theorem i32_rem (x y : Int) : Int32.ofInt x - Int32.ofInt x / Int32.ofInt y * Int32.ofInt y = Int32.ofInt ((wI x).tmod (wI y)) := by
  rw [i32_div, show (wI x).tmod (wI y) = wI x - (wI x).tdiv (wI y) * wI y by have := Int.tdiv_mul_add_tmod (wI x) (wI y); omega, Int32.ofInt_sub, Int32.ofInt_mul, ofI_w, ofI_w]
theorem i64_rem (x y : Int) : Int64.ofInt x - Int64.ofInt x / Int64.ofInt y * Int64.ofInt y = Int64.ofInt ((wL x).tmod (wL y)) := by
  rw [i64_div, show (wL x).tmod (wL y) = wL x - (wL x).tdiv (wL y) * wL y by have := Int.tdiv_mul_add_tmod (wL x) (wL y); omega, Int64.ofInt_sub, Int64.ofInt_mul, ofL_w, ofL_w]
theorem i32_eq (x y : Int) : Int32.ofInt x = Int32.ofInt y ↔ wI x = wI y := Int32.toInt_inj.symm
theorem i32_le (x y : Int) : Int32.ofInt x ≤ Int32.ofInt y ↔ wI x ≤ wI y := Int32.le_iff_toInt_le
theorem i32_lt (x y : Int) : Int32.ofInt x < Int32.ofInt y ↔ wI x < wI y := Int32.lt_iff_toInt_lt
theorem i64_eq (x y : Int) : Int64.ofInt x = Int64.ofInt y ↔ wL x = wL y := Int64.toInt_inj.symm
theorem i64_le (x y : Int) : Int64.ofInt x ≤ Int64.ofInt y ↔ wL x ≤ wL y := Int64.le_iff_toInt_le
theorem i64_lt (x y : Int) : Int64.ofInt x < Int64.ofInt y ↔ wL x < wL y := Int64.lt_iff_toInt_lt
theorem i32_0 : (0 : Int32) = Int32.ofInt 0 := rfl
theorem wI_0 : wI 0 = 0 := rfl
def oAnd (x y : Int) : Int := (Int32.ofInt x &&& Int32.ofInt y).toInt
def oOr (x y : Int) : Int := (Int32.ofInt x ||| Int32.ofInt y).toInt
def oShl (x y : Int) : Int := (Int32.ofInt x <<< (Int32.ofInt y &&& 31)).toInt
def oShr (x y : Int) : Int := (Int32.ofInt x >>> (Int32.ofInt y &&& 31)).toInt
def oAndL (x y : Int) : Int := (Int64.ofInt x &&& Int64.ofInt y).toInt
def oOrL (x y : Int) : Int := (Int64.ofInt x ||| Int64.ofInt y).toInt
def oXorL (x y : Int) : Int := (Int64.ofInt x ^^^ Int64.ofInt y).toInt
def oShlL (x y : Int) : Int := (Int64.ofInt x <<< ((Int32.ofInt y).toInt64 &&& 63)).toInt
def oShrL (x y : Int) : Int := (Int64.ofInt x >>> ((Int32.ofInt y).toInt64 &&& 63)).toInt
/-! the models' own words -/
def mG {α : Type} (c : Prop) [Decidable c] (k : Option α) : Option α := if c then k else none
def bnd {α β : Type} (v : α) (f : α → β) : β := f v
def mRef {α : Type} (x : Int) (f : Nat → Option α) : Option α := if x = 0 then none else f x.toNat
def mCall {α β γ : Type} (o : Option (α × β)) (f : α → β → Option γ) : Option γ := match o with
  | some (x, y) => f x y
  | none => none
theorem g_t {α : Type} {c : Prop} [inst : Decidable c] {k : Option α} {o : α} (h : mG c k = some o) : c ∧ k = some o := by
  unfold mG at h
  by_cases hc : c
  · rw [if_pos hc] at h; exact ⟨hc, h⟩
  · rw [if_neg hc] at h; cases h
theorem b_t {α : Type} {c : Prop} [inst : Decidable c] {a b : α} {o : α} (hc : c) (h : (if c then a else b) = o) : a = o := by rw [if_pos hc] at h; exact h
theorem b_f {α : Type} {c : Prop} [inst : Decidable c] {a b : α} {o : α} (hc : ¬ c) (h : (if c then a else b) = o) : b = o := by rw [if_neg hc] at h; exact h
theorem bnd_t {α β : Type} {v : α} {f : α → β} {o : β} (h : bnd v f = o) : ∃ x, x = v ∧ f x = o := ⟨v, rfl, h⟩
theorem ref_t {α : Type} {x : Int} {f : Nat → Option α} {o : α} (h : mRef x f = some o) : ∃ r, (x ≠ 0 ∧ r = x.toNat) ∧ f r = some o := by
  unfold mRef at h
  by_cases hc : x = 0
  · rw [if_pos hc] at h; cases h
  · rw [if_neg hc] at h; exact ⟨_, ⟨hc, rfl⟩, h⟩
theorem call_t {α β γ : Type} {o : Option (α × β)} {f : α → β → Option γ} {z : γ} (h : mCall o f = some z) : ∃ x y, o = some (x, y) ∧ f x y = some z := by
  unfold mCall at h
  split at h
  · exact ⟨_, _, rfl, h⟩
  · cases h
abbrev ixOK (r κ : Nat) (j : Int) : Prop := (shp r).1 = κ ∧ 0 ≤ wI j ∧ wI j < ((shp r).2 : Int)
abbrev isC (r ci : Nat) : Prop := (shp r).1 = ci
theorem shpL_len : shpL.length = 257 := by decide +kernel
theorem shp_lt {r κ : Nat} (h : (shp r).1 = κ) (hk : κ ≠ 99) : r < 257 := by
  rcases Nat.lt_or_ge r 257 with h1 | h1
  · exact h1
  · exfalso
    apply hk
    rw [← h]
    unfold shp
    rw [List.getD_eq_getElem?_getD, List.getElem?_eq_none (by rw [shpL_len]; exact h1)]
    rfl
theorem ix_in {r κ n : Nat} {j : Int} (h : ixOK r κ j) (hn : (shp r).2 = n) : vp_in (Int32.ofInt j) n := by
  rw [vp_in_iff]
  subst hn
  exact h.2
section MR
variable {p : Program} {l : Launch} {e : Env} {R : Room} {s : State} {m : MethodId} {args : Array Value} {below : List Frame} {meth : Method} {c : Code} {H : Heap} {locs : List Loc} {cells slots : Nat} {Q : State → Prop}
variable {cc : ByteArray} {pc np nL : Nat} {ls : Array Slot} {rest : List Value} {own : String} {lv : List (Nat × Value)} {A : Nat → Prop} {E : mE} {σ : mSt}
theorem r_iconst (G : CallFix p m c cc nL s args mTs own) (n : Int) (d : decode cc pc = .ok (.iconst n, 1)) (hn : pc + 1 = np) (k : W p l e R s m args below meth c H locs cells slots Q (F0 m np ls (vI n :: rest))) : W p l e R s m args below meth c H locs cells slots Q (F0 m pc ls rest) := by
  subst hn
  exact lv_iconst G.1 G.2.1 d rfl k
theorem r_bipush (G : CallFix p m c cc nL s args mTs own) (n : Int) (d : decode cc pc = .ok (.bipush n, 2)) (hv : (Int8.ofInt n).toInt32 = Int32.ofInt n) (hn : pc + 2 = np) (k : W p l e R s m args below meth c H locs cells slots Q (F0 m np ls (vI n :: rest))) : W p l e R s m args below meth c H locs cells slots Q (F0 m pc ls rest) := by
  subst hn
  exact lv_bipush G.1 G.2.1 d hv k
theorem r_sipush (G : CallFix p m c cc nL s args mTs own) (n : Int) (d : decode cc pc = .ok (.sipush n, 3)) (hv : (Int16.ofInt n).toInt32 = Int32.ofInt n) (hn : pc + 3 = np) (k : W p l e R s m args below meth c H locs cells slots Q (F0 m np ls (vI n :: rest))) : W p l e R s m args below meth c H locs cells slots Q (F0 m pc ls rest) := by
  subst hn
  exact lv_sipush G.1 G.2.1 d hv k
theorem r_lconst (G : CallFix p m c cc nL s args mTs own) (n : Int) {f : Fin 2} (d : decode cc pc = .ok (.lconst f, 1)) (hv : Int64.ofNat (f : Nat) = Int64.ofInt n) (hn : pc + 1 = np) (k : W p l e R s m args below meth c H locs cells slots Q (F0 m np ls (vL n :: rest))) : W p l e R s m args below meth c H locs cells slots Q (F0 m pc ls rest) := by
  subst hn
  exact lv_lconst G.1 G.2.1 d hv k
theorem r_ldc (G : CallFix p m c cc nL s args mTs own) (n : Int) {ix : Nat} {z : Int32} (d : decode cc pc = .ok (.ldc ix, 2)) (hw : Cond.constant own ix z ∈ mTs) (hv : z = Int32.ofInt n) (hn : pc + 2 = np) (k : W p l e R s m args below meth c H locs cells slots Q (F0 m np ls (vI n :: rest))) : W p l e R s m args below meth c H locs cells slots Q (F0 m pc ls rest) := by
  subst hn
  subst hv
  exact lv_ldc G.1 G.2.1 G.2.2.2.1 (G.2.2.2.2 _ hw) d k
theorem r_ldc2 (G : CallFix p m c cc nL s args mTs own) (n : Int) {ix : Nat} {z : Int64} (d : decode cc pc = .ok (.ldc2_w ix, 3)) (hw : Cond.constantLong own ix z ∈ mTs) (hv : z = Int64.ofInt n) (hn : pc + 3 = np) (k : W p l e R s m args below meth c H locs cells slots Q (F0 m np ls (vL n :: rest))) : W p l e R s m args below meth c H locs cells slots Q (F0 m pc ls rest) := by
  subst hn
  subst hv
  exact lv_ldc2 G.1 G.2.1 G.2.2.2.1 (G.2.2.2.2 _ hw) d k
theorem r_iload_n (G : CallFix p m c cc nL s args mTs own) (hl : lv_has ls nL lv) (j : Nat) {i : Nat} {x : Int} (hj : lv[j]? = some (i, vI x)) {f : Fin 4} (d : decode cc pc = .ok (.iload_n f, 1)) (hf : (f : Nat) = i) (hn : pc + 1 = np) (k : W p l e R s m args below meth c H locs cells slots Q (F0 m np ls (vI x :: rest))) : W p l e R s m args below meth c H locs cells slots Q (F0 m pc ls rest) := by
  subst hn
  exact lv_iload_n G.1 G.2.1 d hf (lv_at hl j hj) k
theorem r_iload (G : CallFix p m c cc nL s args mTs own) (hl : lv_has ls nL lv) (j : Nat) {i : Nat} {x : Int} (hj : lv[j]? = some (i, vI x)) (d : decode cc pc = .ok (.iload i, 2)) (hn : pc + 2 = np) (k : W p l e R s m args below meth c H locs cells slots Q (F0 m np ls (vI x :: rest))) : W p l e R s m args below meth c H locs cells slots Q (F0 m pc ls rest) := by
  subst hn
  exact lv_iload G.1 G.2.1 d (lv_at hl j hj) k
theorem r_lload_n (G : CallFix p m c cc nL s args mTs own) (hl : lv_has ls nL lv) (j : Nat) {i : Nat} {x : Int} (hj : lv[j]? = some (i, vL x)) {f : Fin 4} (d : decode cc pc = .ok (.lload_n f, 1)) (hf : (f : Nat) = i) (hn : pc + 1 = np) (k : W p l e R s m args below meth c H locs cells slots Q (F0 m np ls (vL x :: rest))) : W p l e R s m args below meth c H locs cells slots Q (F0 m pc ls rest) := by
  subst hn
  exact lv_lload_n G.1 G.2.1 d hf (lv_at hl j hj) k
theorem r_lload (G : CallFix p m c cc nL s args mTs own) (hl : lv_has ls nL lv) (j : Nat) {i : Nat} {x : Int} (hj : lv[j]? = some (i, vL x)) (d : decode cc pc = .ok (.lload i, 2)) (hn : pc + 2 = np) (k : W p l e R s m args below meth c H locs cells slots Q (F0 m np ls (vL x :: rest))) : W p l e R s m args below meth c H locs cells slots Q (F0 m pc ls rest) := by
  subst hn
  exact lv_lload G.1 G.2.1 d (lv_at hl j hj) k
theorem r_aload_n (G : CallFix p m c cc nL s args mTs own) (hl : lv_has ls nL lv) (j : Nat) {i : Nat} {x : Nat} (hj : lv[j]? = some (i, .ref x)) {f : Fin 4} (d : decode cc pc = .ok (.aload_n f, 1)) (hf : (f : Nat) = i) (hn : pc + 1 = np) (k : W p l e R s m args below meth c H locs cells slots Q (F0 m np ls (.ref x :: rest))) : W p l e R s m args below meth c H locs cells slots Q (F0 m pc ls rest) := by
  subst hn
  exact lv_aload_n G.1 G.2.1 d hf (lv_at hl j hj) k
theorem r_aload (G : CallFix p m c cc nL s args mTs own) (hl : lv_has ls nL lv) (j : Nat) {i : Nat} {x : Nat} (hj : lv[j]? = some (i, .ref x)) (d : decode cc pc = .ok (.aload i, 2)) (hn : pc + 2 = np) (k : W p l e R s m args below meth c H locs cells slots Q (F0 m np ls (.ref x :: rest))) : W p l e R s m args below meth c H locs cells slots Q (F0 m pc ls rest) := by
  subst hn
  exact lv_aload G.1 G.2.1 d (lv_at hl j hj) k
theorem r_istore_n (G : CallFix p m c cc nL s args mTs own) (hl : lv_has ls nL lv) {i : Nat} {x y : Int} (hx : y = x) (lv2 : List (Nat × Value)) {f : Fin 4} (d : decode cc pc = .ok (.istore_n f, 1)) (hf : (f : Nat) = i) (hn : pc + 1 = np) (hi : i < nL) (hv : (i, (vI y : Value)) :: lv.filter (fun q => !(q.1 == i) && !(q.1 + 1 == i && q.2.category == 2)) = lv2) (k : ∀ ls2 : Array Slot, lv_has ls2 nL lv2 → W p l e R s m args below meth c H locs cells slots Q (F0 m np ls2 rest)) : W p l e R s m args below meth c H locs cells slots Q (F0 m pc ls ((vI x : Value) :: rest)) := by
  subst hn
  subst hx
  exact lv_istore_n G.1 G.2.1 d hf hl hi hv k
theorem r_istore (G : CallFix p m c cc nL s args mTs own) (hl : lv_has ls nL lv) {i : Nat} {x y : Int} (hx : y = x) (lv2 : List (Nat × Value)) (d : decode cc pc = .ok (.istore i, 2)) (hn : pc + 2 = np) (hi : i < nL) (hv : (i, (vI y : Value)) :: lv.filter (fun q => !(q.1 == i) && !(q.1 + 1 == i && q.2.category == 2)) = lv2) (k : ∀ ls2 : Array Slot, lv_has ls2 nL lv2 → W p l e R s m args below meth c H locs cells slots Q (F0 m np ls2 rest)) : W p l e R s m args below meth c H locs cells slots Q (F0 m pc ls ((vI x : Value) :: rest)) := by
  subst hn
  subst hx
  exact lv_istore G.1 G.2.1 d hl hi hv k
theorem r_lstore_n (G : CallFix p m c cc nL s args mTs own) (hl : lv_has ls nL lv) {i : Nat} {x y : Int} (hx : y = x) (lv2 : List (Nat × Value)) {f : Fin 4} (d : decode cc pc = .ok (.lstore_n f, 1)) (hf : (f : Nat) = i) (hn : pc + 1 = np) (hi : i + 1 < nL) (hv : (i, (vL y : Value)) :: lv.filter (fun q => !(q.1 == i) && (!(q.1 == i + 1) && !(q.1 + 1 == i && q.2.category == 2))) = lv2) (k : ∀ ls2 : Array Slot, lv_has ls2 nL lv2 → W p l e R s m args below meth c H locs cells slots Q (F0 m np ls2 rest)) : W p l e R s m args below meth c H locs cells slots Q (F0 m pc ls ((vL x : Value) :: rest)) := by
  subst hn
  subst hx
  exact lv_lstore_n G.1 G.2.1 d hf hl hi hv k
theorem r_lstore (G : CallFix p m c cc nL s args mTs own) (hl : lv_has ls nL lv) {i : Nat} {x y : Int} (hx : y = x) (lv2 : List (Nat × Value)) (d : decode cc pc = .ok (.lstore i, 2)) (hn : pc + 2 = np) (hi : i + 1 < nL) (hv : (i, (vL y : Value)) :: lv.filter (fun q => !(q.1 == i) && (!(q.1 == i + 1) && !(q.1 + 1 == i && q.2.category == 2))) = lv2) (k : ∀ ls2 : Array Slot, lv_has ls2 nL lv2 → W p l e R s m args below meth c H locs cells slots Q (F0 m np ls2 rest)) : W p l e R s m args below meth c H locs cells slots Q (F0 m pc ls ((vL x : Value) :: rest)) := by
  subst hn
  subst hx
  exact lv_lstore G.1 G.2.1 d hl hi hv k
theorem r_astore_n (G : CallFix p m c cc nL s args mTs own) (hl : lv_has ls nL lv) {i : Nat} {x y : Nat} (hx : y = x) (lv2 : List (Nat × Value)) {f : Fin 4} (d : decode cc pc = .ok (.astore_n f, 1)) (hf : (f : Nat) = i) (hn : pc + 1 = np) (hi : i < nL) (hv : (i, (.ref y : Value)) :: lv.filter (fun q => !(q.1 == i) && !(q.1 + 1 == i && q.2.category == 2)) = lv2) (k : ∀ ls2 : Array Slot, lv_has ls2 nL lv2 → W p l e R s m args below meth c H locs cells slots Q (F0 m np ls2 rest)) : W p l e R s m args below meth c H locs cells slots Q (F0 m pc ls ((.ref x : Value) :: rest)) := by
  subst hn
  subst hx
  exact lv_astore_n G.1 G.2.1 d hf hl hi hv k
theorem r_astore (G : CallFix p m c cc nL s args mTs own) (hl : lv_has ls nL lv) {i : Nat} {x y : Nat} (hx : y = x) (lv2 : List (Nat × Value)) (d : decode cc pc = .ok (.astore i, 2)) (hn : pc + 2 = np) (hi : i < nL) (hv : (i, (.ref y : Value)) :: lv.filter (fun q => !(q.1 == i) && !(q.1 + 1 == i && q.2.category == 2)) = lv2) (k : ∀ ls2 : Array Slot, lv_has ls2 nL lv2 → W p l e R s m args below meth c H locs cells slots Q (F0 m np ls2 rest)) : W p l e R s m args below meth c H locs cells slots Q (F0 m pc ls ((.ref x : Value) :: rest)) := by
  subst hn
  subst hx
  exact lv_astore G.1 G.2.1 d hl hi hv k
theorem r_iinc (G : CallFix p m c cc nL s args mTs own) (hl : lv_has ls nL lv) (j : Nat) {i : Nat} {n x y : Int} (hj : lv[j]? = some (i, vI x)) (hy : y = x + n) (lv2 : List (Nat × Value)) (d : decode cc pc = .ok (.iinc i n, 3)) (hn : pc + 3 = np) (hi : i < nL) (hv : (i, vI y) :: lv.filter (fun q => !(q.1 == i) && !(q.1 + 1 == i && q.2.category == 2)) = lv2) (k : ∀ ls2 : Array Slot, lv_has ls2 nL lv2 → W p l e R s m args below meth c H locs cells slots Q (F0 m np ls2 rest)) : W p l e R s m args below meth c H locs cells slots Q (F0 m pc ls rest) := by
  subst hn
  subst hy
  exact lv_iinc (k := j) (v := Int32.ofInt (x + n)) G.1 G.2.1 d hl hj (by rw [Int32.ofInt_add]) hi hv k
theorem r_iadd (G : CallFix p m c cc nL s args mTs own) {x y : Int} (d : decode cc pc = .ok (.iadd, 1)) (hn : pc + 1 = np) (k : W p l e R s m args below meth c H locs cells slots Q (F0 m np ls (vI (x + y) :: rest))) : W p l e R s m args below meth c H locs cells slots Q (F0 m pc ls (vI y :: vI x :: rest)) := by
  subst hn
  refine lv_iadd G.1 G.2.1 d ?_
  rw [← Int32.ofInt_add]
  exact k
theorem r_ladd (G : CallFix p m c cc nL s args mTs own) {x y : Int} (d : decode cc pc = .ok (.ladd, 1)) (hn : pc + 1 = np) (k : W p l e R s m args below meth c H locs cells slots Q (F0 m np ls (vL (x + y) :: rest))) : W p l e R s m args below meth c H locs cells slots Q (F0 m pc ls (vL y :: vL x :: rest)) := by
  subst hn
  refine lv_ladd G.1 G.2.1 d ?_
  rw [← Int64.ofInt_add]
  exact k
theorem r_isub (G : CallFix p m c cc nL s args mTs own) {x y : Int} (d : decode cc pc = .ok (.isub, 1)) (hn : pc + 1 = np) (k : W p l e R s m args below meth c H locs cells slots Q (F0 m np ls (vI (x - y) :: rest))) : W p l e R s m args below meth c H locs cells slots Q (F0 m pc ls (vI y :: vI x :: rest)) := by
  subst hn
  refine lv_isub G.1 G.2.1 d ?_
  rw [← Int32.ofInt_sub]
  exact k
theorem r_lsub (G : CallFix p m c cc nL s args mTs own) {x y : Int} (d : decode cc pc = .ok (.lsub, 1)) (hn : pc + 1 = np) (k : W p l e R s m args below meth c H locs cells slots Q (F0 m np ls (vL (x - y) :: rest))) : W p l e R s m args below meth c H locs cells slots Q (F0 m pc ls (vL y :: vL x :: rest)) := by
  subst hn
  refine lv_lsub G.1 G.2.1 d ?_
  rw [← Int64.ofInt_sub]
  exact k
theorem r_imul (G : CallFix p m c cc nL s args mTs own) {x y : Int} (d : decode cc pc = .ok (.imul, 1)) (hn : pc + 1 = np) (k : W p l e R s m args below meth c H locs cells slots Q (F0 m np ls (vI (x * y) :: rest))) : W p l e R s m args below meth c H locs cells slots Q (F0 m pc ls (vI y :: vI x :: rest)) := by
  subst hn
  refine lv_imul G.1 G.2.1 d ?_
  rw [← Int32.ofInt_mul]
  exact k
theorem r_lmul (G : CallFix p m c cc nL s args mTs own) {x y : Int} (d : decode cc pc = .ok (.lmul, 1)) (hn : pc + 1 = np) (k : W p l e R s m args below meth c H locs cells slots Q (F0 m np ls (vL (x * y) :: rest))) : W p l e R s m args below meth c H locs cells slots Q (F0 m pc ls (vL y :: vL x :: rest)) := by
  subst hn
  refine lv_lmul G.1 G.2.1 d ?_
  rw [← Int64.ofInt_mul]
  exact k
theorem r_ineg (G : CallFix p m c cc nL s args mTs own) {x : Int} (d : decode cc pc = .ok (.ineg, 1)) (hn : pc + 1 = np) (k : W p l e R s m args below meth c H locs cells slots Q (F0 m np ls (vI (-x) :: rest))) : W p l e R s m args below meth c H locs cells slots Q (F0 m pc ls (vI x :: rest)) := by
  subst hn
  refine lv_ineg G.1 G.2.1 d ?_
  rw [← Int32.ofInt_neg]
  exact k
theorem r_idiv (G : CallFix p m c cc nL s args mTs own) {x y : Int} (h : wI y ≠ 0) (d : decode cc pc = .ok (.idiv, 1)) (hn : pc + 1 = np) (k : W p l e R s m args below meth c H locs cells slots Q (F0 m np ls (vI ((wI x).tdiv (wI y)) :: rest))) : W p l e R s m args below meth c H locs cells slots Q (F0 m pc ls (vI y :: vI x :: rest)) := by
  subst hn
  refine lv_idiv G.1 G.2.1 d (fun q => h ?_) ?_
  · exact (i32_eq y 0).mp q
  · rw [i32_div]
    exact k
theorem r_irem (G : CallFix p m c cc nL s args mTs own) {x y : Int} (h : wI y ≠ 0) (d : decode cc pc = .ok (.irem, 1)) (hn : pc + 1 = np) (k : W p l e R s m args below meth c H locs cells slots Q (F0 m np ls (vI ((wI x).tmod (wI y)) :: rest))) : W p l e R s m args below meth c H locs cells slots Q (F0 m pc ls (vI y :: vI x :: rest)) := by
  subst hn
  refine lv_irem G.1 G.2.1 d (fun q => h ?_) ?_
  · exact (i32_eq y 0).mp q
  · rw [i32_rem]
    exact k
theorem r_lneg (G : CallFix p m c cc nL s args mTs own) {x : Int} (d : decode cc pc = .ok (.lneg, 1)) (hn : pc + 1 = np) (k : W p l e R s m args below meth c H locs cells slots Q (F0 m np ls (vL (-x) :: rest))) : W p l e R s m args below meth c H locs cells slots Q (F0 m pc ls (vL x :: rest)) := by
  subst hn
  refine lv_lneg G.1 G.2.1 d ?_
  rw [← Int64.ofInt_neg]
  exact k
theorem r_ldiv (G : CallFix p m c cc nL s args mTs own) {x y : Int} (h : wL y ≠ 0) (d : decode cc pc = .ok (.ldiv, 1)) (hn : pc + 1 = np) (k : W p l e R s m args below meth c H locs cells slots Q (F0 m np ls (vL ((wL x).tdiv (wL y)) :: rest))) : W p l e R s m args below meth c H locs cells slots Q (F0 m pc ls (vL y :: vL x :: rest)) := by
  subst hn
  refine lv_ldiv G.1 G.2.1 d (fun q => h ?_) ?_
  · exact (i64_eq y 0).mp q
  · rw [i64_div]
    exact k
theorem r_lrem (G : CallFix p m c cc nL s args mTs own) {x y : Int} (h : wL y ≠ 0) (d : decode cc pc = .ok (.lrem, 1)) (hn : pc + 1 = np) (k : W p l e R s m args below meth c H locs cells slots Q (F0 m np ls (vL ((wL x).tmod (wL y)) :: rest))) : W p l e R s m args below meth c H locs cells slots Q (F0 m pc ls (vL y :: vL x :: rest)) := by
  subst hn
  refine lv_lrem G.1 G.2.1 d (fun q => h ?_) ?_
  · exact (i64_eq y 0).mp q
  · rw [i64_rem]
    exact k
theorem r_iand (G : CallFix p m c cc nL s args mTs own) {x y : Int} (d : decode cc pc = .ok (.iand, 1)) (hn : pc + 1 = np) (k : W p l e R s m args below meth c H locs cells slots Q (F0 m np ls (vI (oAnd x y) :: rest))) : W p l e R s m args below meth c H locs cells slots Q (F0 m pc ls (vI y :: vI x :: rest)) := by
  subst hn
  refine lv_iand G.1 G.2.1 d ?_
  rw [vI_w (x := oAnd x y) (wI_toInt _).symm]
  exact k
theorem r_ior (G : CallFix p m c cc nL s args mTs own) {x y : Int} (d : decode cc pc = .ok (.ior, 1)) (hn : pc + 1 = np) (k : W p l e R s m args below meth c H locs cells slots Q (F0 m np ls (vI (oOr x y) :: rest))) : W p l e R s m args below meth c H locs cells slots Q (F0 m pc ls (vI y :: vI x :: rest)) := by
  subst hn
  refine lv_ior G.1 G.2.1 d ?_
  rw [vI_w (x := oOr x y) (wI_toInt _).symm]
  exact k
theorem r_ishl (G : CallFix p m c cc nL s args mTs own) {x y : Int} (d : decode cc pc = .ok (.ishl, 1)) (hn : pc + 1 = np) (k : W p l e R s m args below meth c H locs cells slots Q (F0 m np ls (vI (oShl x y) :: rest))) : W p l e R s m args below meth c H locs cells slots Q (F0 m pc ls (vI y :: vI x :: rest)) := by
  subst hn
  refine lv_ishl G.1 G.2.1 d ?_
  rw [vI_w (x := oShl x y) (wI_toInt _).symm]
  exact k
theorem r_ishr (G : CallFix p m c cc nL s args mTs own) {x y : Int} (d : decode cc pc = .ok (.ishr, 1)) (hn : pc + 1 = np) (k : W p l e R s m args below meth c H locs cells slots Q (F0 m np ls (vI (oShr x y) :: rest))) : W p l e R s m args below meth c H locs cells slots Q (F0 m pc ls (vI y :: vI x :: rest)) := by
  subst hn
  refine lv_ishr G.1 G.2.1 d ?_
  rw [vI_w (x := oShr x y) (wI_toInt _).symm]
  exact k
theorem r_land (G : CallFix p m c cc nL s args mTs own) {x y : Int} (d : decode cc pc = .ok (.land, 1)) (hn : pc + 1 = np) (k : W p l e R s m args below meth c H locs cells slots Q (F0 m np ls (vL (oAndL x y) :: rest))) : W p l e R s m args below meth c H locs cells slots Q (F0 m pc ls (vL y :: vL x :: rest)) := by
  subst hn
  refine lv_land G.1 G.2.1 d ?_
  rw [vL_w (x := oAndL x y) (wL_toInt _).symm]
  exact k
theorem r_lor (G : CallFix p m c cc nL s args mTs own) {x y : Int} (d : decode cc pc = .ok (.lor, 1)) (hn : pc + 1 = np) (k : W p l e R s m args below meth c H locs cells slots Q (F0 m np ls (vL (oOrL x y) :: rest))) : W p l e R s m args below meth c H locs cells slots Q (F0 m pc ls (vL y :: vL x :: rest)) := by
  subst hn
  refine lv_lor G.1 G.2.1 d ?_
  rw [vL_w (x := oOrL x y) (wL_toInt _).symm]
  exact k
theorem r_lxor (G : CallFix p m c cc nL s args mTs own) {x y : Int} (d : decode cc pc = .ok (.lxor, 1)) (hn : pc + 1 = np) (k : W p l e R s m args below meth c H locs cells slots Q (F0 m np ls (vL (oXorL x y) :: rest))) : W p l e R s m args below meth c H locs cells slots Q (F0 m pc ls (vL y :: vL x :: rest)) := by
  subst hn
  refine lv_lxor G.1 G.2.1 d ?_
  rw [vL_w (x := oXorL x y) (wL_toInt _).symm]
  exact k
theorem r_lshl (G : CallFix p m c cc nL s args mTs own) {x y : Int} (d : decode cc pc = .ok (.lshl, 1)) (hn : pc + 1 = np) (k : W p l e R s m args below meth c H locs cells slots Q (F0 m np ls (vL (oShlL x y) :: rest))) : W p l e R s m args below meth c H locs cells slots Q (F0 m pc ls (vI y :: vL x :: rest)) := by
  subst hn
  refine lv_lshl G.1 G.2.1 d rfl ?_
  rw [vL_w (x := oShlL x y) (wL_toInt _).symm]
  exact k
theorem r_lshr (G : CallFix p m c cc nL s args mTs own) {x y : Int} (d : decode cc pc = .ok (.lshr, 1)) (hn : pc + 1 = np) (k : W p l e R s m args below meth c H locs cells slots Q (F0 m np ls (vL (oShrL x y) :: rest))) : W p l e R s m args below meth c H locs cells slots Q (F0 m pc ls (vI y :: vL x :: rest)) := by
  subst hn
  refine lv_lshr G.1 G.2.1 d rfl ?_
  rw [vL_w (x := oShrL x y) (wL_toInt _).symm]
  exact k
theorem r_i2l (G : CallFix p m c cc nL s args mTs own) {x y : Int} (hy : wI x = y) (d : decode cc pc = .ok (.i2l, 1)) (hn : pc + 1 = np) (k : W p l e R s m args below meth c H locs cells slots Q (F0 m np ls (vL y :: rest))) : W p l e R s m args below meth c H locs cells slots Q (F0 m pc ls (vI x :: rest)) := by
  subst hn
  subst hy
  exact lv_i2l G.1 G.2.1 d (by rw [← Int64.ofInt_toInt (Int32.ofInt x).toInt64, Int32.toInt_toInt64]; rfl) k
theorem r_l2i (G : CallFix p m c cc nL s args mTs own) {x : Int} (d : decode cc pc = .ok (.l2i, 1)) (hn : pc + 1 = np) (k : W p l e R s m args below meth c H locs cells slots Q (F0 m np ls (vI x :: rest))) : W p l e R s m args below meth c H locs cells slots Q (F0 m pc ls (vL x :: rest)) := by
  subst hn
  exact lv_l2i G.1 G.2.1 d Int64.toInt32_ofInt k
theorem r_i2b (G : CallFix p m c cc nL s args mTs own) {x : Int} (d : decode cc pc = .ok (.i2b, 1)) (hn : pc + 1 = np) (k : W p l e R s m args below meth c H locs cells slots Q (F0 m np ls (vI (wB x) :: rest))) : W p l e R s m args below meth c H locs cells slots Q (F0 m pc ls (vI x :: rest)) := by
  subst hn
  exact lv_i2b G.1 G.2.1 d (by rw [Int32.toInt8_ofInt]; rfl) k
theorem r_dup (G : CallFix p m c cc nL s args mTs own) {v : Value} (d : decode cc pc = .ok (.dup, 1)) (hv : v.category = 1) (hn : pc + 1 = np) (k : W p l e R s m args below meth c H locs cells slots Q (F0 m np ls (v :: v :: rest))) : W p l e R s m args below meth c H locs cells slots Q (F0 m pc ls (v :: rest)) := by
  subst hn
  exact lv_dup G.1 G.2.1 d hv k
theorem r_pop (G : CallFix p m c cc nL s args mTs own) {v : Value} (d : decode cc pc = .ok (.pop, 1)) (hv : v.category = 1) (hn : pc + 1 = np) (k : W p l e R s m args below meth c H locs cells slots Q (F0 m np ls rest)) : W p l e R s m args below meth c H locs cells slots Q (F0 m pc ls (v :: rest)) := by
  subst hn
  exact lv_pop G.1 G.2.1 d hv k
theorem r_dup2 (G : CallFix p m c cc nL s args mTs own) {v u : Value} (d : decode cc pc = .ok (.dup2, 1)) (hv : v.category = 1) (hu : u.category = 1) (hn : pc + 1 = np) (k : W p l e R s m args below meth c H locs cells slots Q (F0 m np ls (v :: u :: v :: u :: rest))) : W p l e R s m args below meth c H locs cells slots Q (F0 m pc ls (v :: u :: rest)) := by
  subst hn
  exact lv_dup2_11 G.1 G.2.1 d hv hu k
theorem r_goto (G : CallFix p m c cc nL s args mTs own) {off : Int} (d : decode cc pc = .ok (.goto off, 3)) (ht : (pc : Int) + off = (np : Int)) (k : W p l e R s m args below meth c H locs cells slots Q (F0 m np ls rest)) : W p l e R s m args below meth c H locs cells slots Q (F0 m pc ls rest) := lv_goto G.1 G.2.1 d ht k
theorem r_icmp_eq (G : CallFix p m c cc nL s args mTs own) {x y a b : Int} {off : Int} {tgt : Nat} (ha : wI x = a) (hb : wI y = b) (d : decode cc pc = .ok (.if_icmp .eq off, 3)) (ht : (pc : Int) + off = (tgt : Int)) (hn : pc + 3 = np) (kt : a = b → W p l e R s m args below meth c H locs cells slots Q (F0 m tgt ls rest)) (kf : ¬ a = b → W p l e R s m args below meth c H locs cells slots Q (F0 m np ls rest)) : W p l e R s m args below meth c H locs cells slots Q (F0 m pc ls (vI y :: vI x :: rest)) := by
  subst hn
  subst ha
  subst hb
  exact lv_icmp_eq G.1 G.2.1 d ht (fun q => kt ((i32_eq x y).mp q)) (fun q => kf (fun z => q ((i32_eq x y).mpr z)))
theorem r_if_eq (G : CallFix p m c cc nL s args mTs own) {x a : Int} {off : Int} {tgt : Nat} (ha : wI x = a) (d : decode cc pc = .ok (.ifCond .eq off, 3)) (ht : (pc : Int) + off = (tgt : Int)) (hn : pc + 3 = np) (kt : a = 0 → W p l e R s m args below meth c H locs cells slots Q (F0 m tgt ls rest)) (kf : ¬ a = 0 → W p l e R s m args below meth c H locs cells slots Q (F0 m np ls rest)) : W p l e R s m args below meth c H locs cells slots Q (F0 m pc ls (vI x :: rest)) := by
  subst hn
  subst ha
  exact lv_if_eq G.1 G.2.1 d ht (fun q => kt ((i32_eq x 0).mp q)) (fun q => kf (fun z => q ((i32_eq x 0).mpr z)))
theorem r_lcmp_eq (G : CallFix p m c cc nL s args mTs own) {x y a b : Int} {off : Int} {tgt : Nat} (ha : wL x = a) (hb : wL y = b) (d : decode cc pc = .ok (.lcmp, 1)) (d2 : decode cc (pc + 1) = .ok (.ifCond .eq off, 3)) (ht : ((pc + 1 : Nat) : Int) + off = (tgt : Int)) (hn : pc + 1 + 3 = np) (kt : a = b → W p l e R s m args below meth c H locs cells slots Q (F0 m tgt ls rest)) (kf : ¬ a = b → W p l e R s m args below meth c H locs cells slots Q (F0 m np ls rest)) : W p l e R s m args below meth c H locs cells slots Q (F0 m pc ls (vL y :: vL x :: rest)) := by
  subst hn
  subst ha
  subst hb
  exact W.lcmp G.1 G.2.1 d (lv_if_eq G.1 G.2.1 d2 ht (fun q => kt (((lg_cmp_eq _ _).trans (i64_eq x y)).mp q)) (fun q => kf (fun z => q (((lg_cmp_eq _ _).trans (i64_eq x y)).mpr z))))
theorem r_icmp_ne (G : CallFix p m c cc nL s args mTs own) {x y a b : Int} {off : Int} {tgt : Nat} (ha : wI x = a) (hb : wI y = b) (d : decode cc pc = .ok (.if_icmp .ne off, 3)) (ht : (pc : Int) + off = (tgt : Int)) (hn : pc + 3 = np) (kt : ¬ a = b → W p l e R s m args below meth c H locs cells slots Q (F0 m tgt ls rest)) (kf : a = b → W p l e R s m args below meth c H locs cells slots Q (F0 m np ls rest)) : W p l e R s m args below meth c H locs cells slots Q (F0 m pc ls (vI y :: vI x :: rest)) := by
  subst hn
  subst ha
  subst hb
  exact lv_icmp_ne G.1 G.2.1 d ht (fun q => kt (fun z => q ((i32_eq x y).mpr z))) (fun q => kf ((i32_eq x y).mp q))
theorem r_if_ne (G : CallFix p m c cc nL s args mTs own) {x a : Int} {off : Int} {tgt : Nat} (ha : wI x = a) (d : decode cc pc = .ok (.ifCond .ne off, 3)) (ht : (pc : Int) + off = (tgt : Int)) (hn : pc + 3 = np) (kt : ¬ a = 0 → W p l e R s m args below meth c H locs cells slots Q (F0 m tgt ls rest)) (kf : a = 0 → W p l e R s m args below meth c H locs cells slots Q (F0 m np ls rest)) : W p l e R s m args below meth c H locs cells slots Q (F0 m pc ls (vI x :: rest)) := by
  subst hn
  subst ha
  exact lv_if_ne G.1 G.2.1 d ht (fun q => kt (fun z => q ((i32_eq x 0).mpr z))) (fun q => kf ((i32_eq x 0).mp q))
theorem r_lcmp_ne (G : CallFix p m c cc nL s args mTs own) {x y a b : Int} {off : Int} {tgt : Nat} (ha : wL x = a) (hb : wL y = b) (d : decode cc pc = .ok (.lcmp, 1)) (d2 : decode cc (pc + 1) = .ok (.ifCond .ne off, 3)) (ht : ((pc + 1 : Nat) : Int) + off = (tgt : Int)) (hn : pc + 1 + 3 = np) (kt : ¬ a = b → W p l e R s m args below meth c H locs cells slots Q (F0 m tgt ls rest)) (kf : a = b → W p l e R s m args below meth c H locs cells slots Q (F0 m np ls rest)) : W p l e R s m args below meth c H locs cells slots Q (F0 m pc ls (vL y :: vL x :: rest)) := by
  subst hn
  subst ha
  subst hb
  exact W.lcmp G.1 G.2.1 d (lv_if_ne G.1 G.2.1 d2 ht (fun q => kt (fun z => q (((lg_cmp_eq _ _).trans (i64_eq x y)).mpr z))) (fun q => kf (((lg_cmp_eq _ _).trans (i64_eq x y)).mp q)))
theorem r_icmp_lt (G : CallFix p m c cc nL s args mTs own) {x y a b : Int} {off : Int} {tgt : Nat} (ha : wI x = a) (hb : wI y = b) (d : decode cc pc = .ok (.if_icmp .lt off, 3)) (ht : (pc : Int) + off = (tgt : Int)) (hn : pc + 3 = np) (kt : a < b → W p l e R s m args below meth c H locs cells slots Q (F0 m tgt ls rest)) (kf : ¬ a < b → W p l e R s m args below meth c H locs cells slots Q (F0 m np ls rest)) : W p l e R s m args below meth c H locs cells slots Q (F0 m pc ls (vI y :: vI x :: rest)) := by
  subst hn
  subst ha
  subst hb
  exact lv_icmp_lt G.1 G.2.1 d ht (fun q => kt ((i32_lt x y).mp q)) (fun q => kf (fun z => q ((i32_lt x y).mpr z)))
theorem r_if_lt (G : CallFix p m c cc nL s args mTs own) {x a : Int} {off : Int} {tgt : Nat} (ha : wI x = a) (d : decode cc pc = .ok (.ifCond .lt off, 3)) (ht : (pc : Int) + off = (tgt : Int)) (hn : pc + 3 = np) (kt : a < 0 → W p l e R s m args below meth c H locs cells slots Q (F0 m tgt ls rest)) (kf : ¬ a < 0 → W p l e R s m args below meth c H locs cells slots Q (F0 m np ls rest)) : W p l e R s m args below meth c H locs cells slots Q (F0 m pc ls (vI x :: rest)) := by
  subst hn
  subst ha
  exact lv_if_lt G.1 G.2.1 d ht (fun q => kt ((i32_lt x 0).mp q)) (fun q => kf (fun z => q ((i32_lt x 0).mpr z)))
theorem r_lcmp_lt (G : CallFix p m c cc nL s args mTs own) {x y a b : Int} {off : Int} {tgt : Nat} (ha : wL x = a) (hb : wL y = b) (d : decode cc pc = .ok (.lcmp, 1)) (d2 : decode cc (pc + 1) = .ok (.ifCond .lt off, 3)) (ht : ((pc + 1 : Nat) : Int) + off = (tgt : Int)) (hn : pc + 1 + 3 = np) (kt : a < b → W p l e R s m args below meth c H locs cells slots Q (F0 m tgt ls rest)) (kf : ¬ a < b → W p l e R s m args below meth c H locs cells slots Q (F0 m np ls rest)) : W p l e R s m args below meth c H locs cells slots Q (F0 m pc ls (vL y :: vL x :: rest)) := by
  subst hn
  subst ha
  subst hb
  exact W.lcmp G.1 G.2.1 d (lv_if_lt G.1 G.2.1 d2 ht (fun q => kt (((lg_cmp_lt _ _).trans (i64_lt x y)).mp q)) (fun q => kf (fun z => q (((lg_cmp_lt _ _).trans (i64_lt x y)).mpr z))))
theorem r_icmp_ge (G : CallFix p m c cc nL s args mTs own) {x y a b : Int} {off : Int} {tgt : Nat} (ha : wI x = a) (hb : wI y = b) (d : decode cc pc = .ok (.if_icmp .ge off, 3)) (ht : (pc : Int) + off = (tgt : Int)) (hn : pc + 3 = np) (kt : b ≤ a → W p l e R s m args below meth c H locs cells slots Q (F0 m tgt ls rest)) (kf : ¬ b ≤ a → W p l e R s m args below meth c H locs cells slots Q (F0 m np ls rest)) : W p l e R s m args below meth c H locs cells slots Q (F0 m pc ls (vI y :: vI x :: rest)) := by
  subst hn
  subst ha
  subst hb
  exact lv_icmp_ge G.1 G.2.1 d ht (fun q => kt ((i32_le y x).mp q)) (fun q => kf (fun z => q ((i32_le y x).mpr z)))
theorem r_if_ge (G : CallFix p m c cc nL s args mTs own) {x a : Int} {off : Int} {tgt : Nat} (ha : wI x = a) (d : decode cc pc = .ok (.ifCond .ge off, 3)) (ht : (pc : Int) + off = (tgt : Int)) (hn : pc + 3 = np) (kt : 0 ≤ a → W p l e R s m args below meth c H locs cells slots Q (F0 m tgt ls rest)) (kf : ¬ 0 ≤ a → W p l e R s m args below meth c H locs cells slots Q (F0 m np ls rest)) : W p l e R s m args below meth c H locs cells slots Q (F0 m pc ls (vI x :: rest)) := by
  subst hn
  subst ha
  exact lv_if_ge G.1 G.2.1 d ht (fun q => kt ((i32_le 0 x).mp q)) (fun q => kf (fun z => q ((i32_le 0 x).mpr z)))
theorem r_lcmp_ge (G : CallFix p m c cc nL s args mTs own) {x y a b : Int} {off : Int} {tgt : Nat} (ha : wL x = a) (hb : wL y = b) (d : decode cc pc = .ok (.lcmp, 1)) (d2 : decode cc (pc + 1) = .ok (.ifCond .ge off, 3)) (ht : ((pc + 1 : Nat) : Int) + off = (tgt : Int)) (hn : pc + 1 + 3 = np) (kt : b ≤ a → W p l e R s m args below meth c H locs cells slots Q (F0 m tgt ls rest)) (kf : ¬ b ≤ a → W p l e R s m args below meth c H locs cells slots Q (F0 m np ls rest)) : W p l e R s m args below meth c H locs cells slots Q (F0 m pc ls (vL y :: vL x :: rest)) := by
  subst hn
  subst ha
  subst hb
  exact W.lcmp G.1 G.2.1 d (lv_if_ge G.1 G.2.1 d2 ht (fun q => kt (((lg_cmp_ge _ _).trans (i64_le y x)).mp q)) (fun q => kf (fun z => q (((lg_cmp_ge _ _).trans (i64_le y x)).mpr z))))
theorem r_icmp_gt (G : CallFix p m c cc nL s args mTs own) {x y a b : Int} {off : Int} {tgt : Nat} (ha : wI x = a) (hb : wI y = b) (d : decode cc pc = .ok (.if_icmp .gt off, 3)) (ht : (pc : Int) + off = (tgt : Int)) (hn : pc + 3 = np) (kt : b < a → W p l e R s m args below meth c H locs cells slots Q (F0 m tgt ls rest)) (kf : ¬ b < a → W p l e R s m args below meth c H locs cells slots Q (F0 m np ls rest)) : W p l e R s m args below meth c H locs cells slots Q (F0 m pc ls (vI y :: vI x :: rest)) := by
  subst hn
  subst ha
  subst hb
  exact lv_icmp_gt G.1 G.2.1 d ht (fun q => kt ((i32_lt y x).mp q)) (fun q => kf (fun z => q ((i32_lt y x).mpr z)))
theorem r_if_gt (G : CallFix p m c cc nL s args mTs own) {x a : Int} {off : Int} {tgt : Nat} (ha : wI x = a) (d : decode cc pc = .ok (.ifCond .gt off, 3)) (ht : (pc : Int) + off = (tgt : Int)) (hn : pc + 3 = np) (kt : 0 < a → W p l e R s m args below meth c H locs cells slots Q (F0 m tgt ls rest)) (kf : ¬ 0 < a → W p l e R s m args below meth c H locs cells slots Q (F0 m np ls rest)) : W p l e R s m args below meth c H locs cells slots Q (F0 m pc ls (vI x :: rest)) := by
  subst hn
  subst ha
  exact lv_if_gt G.1 G.2.1 d ht (fun q => kt ((i32_lt 0 x).mp q)) (fun q => kf (fun z => q ((i32_lt 0 x).mpr z)))
theorem r_lcmp_gt (G : CallFix p m c cc nL s args mTs own) {x y a b : Int} {off : Int} {tgt : Nat} (ha : wL x = a) (hb : wL y = b) (d : decode cc pc = .ok (.lcmp, 1)) (d2 : decode cc (pc + 1) = .ok (.ifCond .gt off, 3)) (ht : ((pc + 1 : Nat) : Int) + off = (tgt : Int)) (hn : pc + 1 + 3 = np) (kt : b < a → W p l e R s m args below meth c H locs cells slots Q (F0 m tgt ls rest)) (kf : ¬ b < a → W p l e R s m args below meth c H locs cells slots Q (F0 m np ls rest)) : W p l e R s m args below meth c H locs cells slots Q (F0 m pc ls (vL y :: vL x :: rest)) := by
  subst hn
  subst ha
  subst hb
  exact W.lcmp G.1 G.2.1 d (lv_if_gt G.1 G.2.1 d2 ht (fun q => kt (((lg_cmp_gt _ _).trans (i64_lt y x)).mp q)) (fun q => kf (fun z => q (((lg_cmp_gt _ _).trans (i64_lt y x)).mpr z))))
theorem r_icmp_le (G : CallFix p m c cc nL s args mTs own) {x y a b : Int} {off : Int} {tgt : Nat} (ha : wI x = a) (hb : wI y = b) (d : decode cc pc = .ok (.if_icmp .le off, 3)) (ht : (pc : Int) + off = (tgt : Int)) (hn : pc + 3 = np) (kt : a ≤ b → W p l e R s m args below meth c H locs cells slots Q (F0 m tgt ls rest)) (kf : ¬ a ≤ b → W p l e R s m args below meth c H locs cells slots Q (F0 m np ls rest)) : W p l e R s m args below meth c H locs cells slots Q (F0 m pc ls (vI y :: vI x :: rest)) := by
  subst hn
  subst ha
  subst hb
  exact lv_icmp_le G.1 G.2.1 d ht (fun q => kt ((i32_le x y).mp q)) (fun q => kf (fun z => q ((i32_le x y).mpr z)))
theorem r_if_le (G : CallFix p m c cc nL s args mTs own) {x a : Int} {off : Int} {tgt : Nat} (ha : wI x = a) (d : decode cc pc = .ok (.ifCond .le off, 3)) (ht : (pc : Int) + off = (tgt : Int)) (hn : pc + 3 = np) (kt : a ≤ 0 → W p l e R s m args below meth c H locs cells slots Q (F0 m tgt ls rest)) (kf : ¬ a ≤ 0 → W p l e R s m args below meth c H locs cells slots Q (F0 m np ls rest)) : W p l e R s m args below meth c H locs cells slots Q (F0 m pc ls (vI x :: rest)) := by
  subst hn
  subst ha
  exact lv_if_le G.1 G.2.1 d ht (fun q => kt ((i32_le x 0).mp q)) (fun q => kf (fun z => q ((i32_le x 0).mpr z)))
theorem r_lcmp_le (G : CallFix p m c cc nL s args mTs own) {x y a b : Int} {off : Int} {tgt : Nat} (ha : wL x = a) (hb : wL y = b) (d : decode cc pc = .ok (.lcmp, 1)) (d2 : decode cc (pc + 1) = .ok (.ifCond .le off, 3)) (ht : ((pc + 1 : Nat) : Int) + off = (tgt : Int)) (hn : pc + 1 + 3 = np) (kt : a ≤ b → W p l e R s m args below meth c H locs cells slots Q (F0 m tgt ls rest)) (kf : ¬ a ≤ b → W p l e R s m args below meth c H locs cells slots Q (F0 m np ls rest)) : W p l e R s m args below meth c H locs cells slots Q (F0 m pc ls (vL y :: vL x :: rest)) := by
  subst hn
  subst ha
  subst hb
  exact W.lcmp G.1 G.2.1 d (lv_if_le G.1 G.2.1 d2 ht (fun q => kt (((lg_cmp_le _ _).trans (i64_le x y)).mp q)) (fun q => kf (fun z => q (((lg_cmp_le _ _).trans (i64_le x y)).mpr z))))
theorem r_tswIn (G : CallFix p m c cc nL s args mTs own) {x k : Int} (hx : wI x = k) {dflt lo hi off : Int} {offs : Array Int} {len tgt : Nat} (d : decode cc pc = .ok (.tableswitch dflt lo hi offs, len)) (h1 : ¬ k < lo) (h2 : ¬ hi < k) (ho : offs[(k - lo).toNat]? = some off) (ht : (pc : Int) + off = (tgt : Int)) (kk : W p l e R s m args below meth c H locs cells slots Q (F0 m tgt ls rest)) : W p l e R s m args below meth c H locs cells slots Q (F0 m pc ls (vI x :: rest)) := by
  subst hx
  exact lv_tableIn G.1 G.2.1 d h1 h2 ho ht kk
theorem r_tswOut (G : CallFix p m c cc nL s args mTs own) {x : Int} {dflt lo hi : Int} {offs : Array Int} {len tgt : Nat} (h : wI x < lo ∨ hi < wI x) (d : decode cc pc = .ok (.tableswitch dflt lo hi offs, len)) (ht : (pc : Int) + dflt = (tgt : Int)) (kk : W p l e R s m args below meth c H locs cells slots Q (F0 m tgt ls rest)) : W p l e R s m args below meth c H locs cells slots Q (F0 m pc ls (vI x :: rest)) := by
  exact lv_tableOut G.1 G.2.1 d h ht kk
theorem r_lsw (G : CallFix p m c cc nL s args mTs own) {x dflt off : Int} {ps : Array (Int × Int)} {len tgt : Nat} (ho : Op.lookupswitch.offset ps.toList dflt (wI x) = off) (hp : (ps.toList.zip (ps.toList.drop 1)).all (fun (a, next) => a.1 < next.1) = true) (d : decode cc pc = .ok (.lookupswitch dflt ps, len)) (ht : (pc : Int) + off = (tgt : Int)) (kk : W p l e R s m args below meth c H locs cells slots Q (F0 m tgt ls rest)) : W p l e R s m args below meth c H locs cells slots Q (F0 m pc ls (vI x :: rest)) := by
  exact lv_lookup G.1 G.2.1 d hp ho ht kk
theorem ite_c {α : Type} {c : Prop} [inst : Decidable c] {a b o : α} (h : (if c then a else b) = o) : (c ∧ a = o) ∨ (¬ c ∧ b = o) := by
  by_cases hc : c
  · exact Or.inl ⟨hc, b_t hc h⟩
  · exact Or.inr ⟨hc, b_f hc h⟩
theorem wIk (n : Int) (h : (decide (-2147483648 ≤ n) && decide (n < 2147483648)) = true) : wI n = n := by
  simp only [Bool.and_eq_true, decide_eq_true_eq] at h
  exact wI_eq h.1 h.2
theorem wLk (n : Int) (h : (decide (-9223372036854775808 ≤ n) && decide (n < 9223372036854775808)) = true) : wL n = n := by
  simp only [Bool.and_eq_true, decide_eq_true_eq] at h
  exact wL_eq h.1 h.2
theorem lsw_out (L : List (Int × Int)) {ps : Array (Int × Int)} {d x : Int} (h : ∀ q ∈ L, q.1 ≠ x) (hL : ps.toList = L := by rfl) : Op.lookupswitch.offset ps.toList d x = d := by
  rw [hL]
  clear hL
  induction L with
  | nil => rfl
  | cons a l ih =>
    rw [Op.lookupswitch.offset_cons, if_neg (h a List.mem_cons_self)]
    exact ih (fun q hq => h q (List.mem_cons_of_mem _ hq))
/-- the fuel of every loop -/
def mF : Nat := 1000000000000
end MR
