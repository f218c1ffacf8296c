theorem st_RX0 : Cond.instantiable RX0 8 ∈ lw_tbl := List.mem_of_getElem? (i := 92) (by decide +kernel)
theorem st_RX1 : Cond.instantiable RX1 3 ∈ lw_tbl := List.mem_of_getElem? (i := 277) (by decide +kernel)
theorem st_RX2 : Cond.instantiable RX2 7 ∈ lw_tbl := List.mem_of_getElem? (i := 167) (by decide +kernel)
theorem st_RX3 : Cond.instantiable RX3 3 ∈ lw_tbl := List.mem_of_getElem? (i := 179) (by decide +kernel)
theorem st_RX4 : Cond.instantiable RX4 3 ∈ lw_tbl := List.mem_of_getElem? (i := 258) (by decide +kernel)
theorem st_RX6 : Cond.instantiable RX6 4 ∈ lw_tbl := List.mem_of_getElem? (i := 173) (by decide +kernel)
theorem st_RX7 : Cond.instantiable RX7 4 ∈ lw_tbl := List.mem_of_getElem? (i := 143) (by decide +kernel)
theorem st_RX8 : Cond.instantiable RX8 4 ∈ lw_tbl := List.mem_of_getElem? (i := 63) (by decide +kernel)
theorem st_RX9 : Cond.instantiable RX9 5 ∈ lw_tbl := List.mem_of_getElem? (i := 236) (by decide +kernel)
theorem st_RX10 : Cond.instantiable RX10 5 ∈ lw_tbl := List.mem_of_getElem? (i := 69) (by decide +kernel)
theorem st_RX11 : Cond.instantiable RX11 12 ∈ lw_tbl := List.mem_of_getElem? (i := 55) (by decide +kernel)
theorem st_RJ0 : Cond.instantiable RJ0 4 ∈ lw_tbl := List.mem_of_getElem? (i := 960) (by decide +kernel)
theorem st_RJ4 : Cond.instantiable RJ4 4 ∈ lw_tbl := List.mem_of_getElem? (i := 787) (by decide +kernel)
theorem st_cls {args : Array Value} {s : State} (hts : ∀ w ∈ lw_tbl, w.before args s = true) : ∀ k : Nat, ∃ q : ClassId × (Nat → Nat), ∀ r : vw_C, vwCl[k]? = some r → u_Kn s r.1 r.2.1 r.2.2 q.1 q.2 := by
  have one : ∀ (C : String) (T : u_T) (N n : Nat), (∀ w ∈ u_ws C T N, w ∈ mTs) → Cond.instantiable C n ∈ lw_tbl → ∃ q : ClassId × (Nat → Nat), u_Kn s C T N q.1 q.2 := fun C T N n h1 h2 => by
    obtain ⟨a, b, h⟩ := u_known (n := n) (fun w hw => hts w (List.mem_filter.mp hw).1) h1 (hts _ h2)
    exact ⟨(a, b), h⟩
  intro k
  match k with
  | 0 => obtain ⟨q, h⟩ := one _ _ _ _ inX0 st_RX0; exact ⟨q, fun r hr => by cases hr; exact h⟩
  | 1 => obtain ⟨q, h⟩ := one _ _ _ _ inX1 st_RX1; exact ⟨q, fun r hr => by cases hr; exact h⟩
  | 2 => obtain ⟨q, h⟩ := one _ _ _ _ inX2 st_RX2; exact ⟨q, fun r hr => by cases hr; exact h⟩
  | 3 => obtain ⟨q, h⟩ := one _ _ _ _ inX3 st_RX3; exact ⟨q, fun r hr => by cases hr; exact h⟩
  | 4 => obtain ⟨q, h⟩ := one _ _ _ _ inX4 st_RX4; exact ⟨q, fun r hr => by cases hr; exact h⟩
  | 5 => obtain ⟨q, h⟩ := one _ _ _ _ inX6 st_RX6; exact ⟨q, fun r hr => by cases hr; exact h⟩
  | 6 => obtain ⟨q, h⟩ := one _ _ _ _ inX7 st_RX7; exact ⟨q, fun r hr => by cases hr; exact h⟩
  | 7 => obtain ⟨q, h⟩ := one _ _ _ _ inX8 st_RX8; exact ⟨q, fun r hr => by cases hr; exact h⟩
  | 8 => obtain ⟨q, h⟩ := one _ _ _ _ inX9 st_RX9; exact ⟨q, fun r hr => by cases hr; exact h⟩
  | 9 => obtain ⟨q, h⟩ := one _ _ _ _ inX10 st_RX10; exact ⟨q, fun r hr => by cases hr; exact h⟩
  | 10 => obtain ⟨q, h⟩ := one _ _ _ _ inX11 st_RX11; exact ⟨q, fun r hr => by cases hr; exact h⟩
  | 11 => obtain ⟨q, h⟩ := one _ _ _ _ inJ0 st_RJ0; exact ⟨q, fun r hr => by cases hr; exact h⟩
  | 12 => obtain ⟨q, h⟩ := one _ _ _ _ inJ4 st_RJ4; exact ⟨q, fun r hr => by cases hr; exact h⟩
  | k + 13 => obtain ⟨q, _⟩ := one _ _ _ _ inX0 st_RX0; exact ⟨q, fun r hr => by simp [vwCl] at hr⟩
theorem st_ao {args : Array Value} {s : State} {C : String} (h : (Cond.arrayOver (.object C)).before args s = true) : ∃ c : ClassId, ArrOfT s c (.object C) ∧ va_RA s c (.object C) := by
  obtain ⟨comp, c, k, h1, h2, h3, h4, h5⟩ := Cond.arrayOver_spec h
  exact ⟨c, fun n z => ⟨fun q hq => (by cases hq), k, h3, comp, h4⟩, k, comp, h3, h4, h1, h5⟩
theorem st_aoA {args : Array Value} {s : State} {t : FieldType} (h : (Cond.arrayOver (.array t)).before args s = true) : ∃ c : ClassId, ArrOfT s c (.array t) ∧ va_RA s c (.array t) := by
  obtain ⟨comp, c, k, h1, h3, h4, h5⟩ := Cond.arrayOver_specA h
  exact ⟨c, fun n z => ⟨fun q hq => (by cases hq), k, h3, comp, h4⟩, h5⟩
theorem st_ac {args : Array Value} {s : State} {t : FieldType} (h : (Cond.arrayClass t).before args s = true) (ho : ∀ C, t ≠ .object C) : ∃ c : ClassId, ArrOfT s c t ∧ va_RA s c t := by
  obtain ⟨c, k, comp, h1, h2, h3⟩ := Cond.arrayClass_spec h
  refine ⟨c, fun N z => ⟨(fun q hq => by cases hq), k, h2, comp, h3⟩, ?_⟩
  cases t <;> first | exact h1 | exact absurd rfl (ho _)
def tyL : List FieldType := [.int, .long, .byte, .object "MiddleAlgebras$Element", .object "MiddleAlgebras$Order", .array .byte, .array .int, .array .long, .object "java/lang/String"]
theorem st_arr {args : Array Value} {s : State} (hts : ∀ w ∈ lw_tbl, w.before args s = true) : ∀ k : Nat, ∃ c : ClassId, ∀ ty, tyL[k]? = some ty → ArrOfT s c ty ∧ va_RA s c ty := by
  intro k
  match k with
  | 0 => obtain ⟨c, h⟩ := st_ac (t := .int) (hts _ (List.mem_of_getElem? (i := 126) (by decide +kernel))) (fun _ h => nomatch h); exact ⟨c, fun ty ht => by cases ht; exact h⟩
  | 1 => obtain ⟨c, h⟩ := st_ac (t := .long) (hts _ (List.mem_of_getElem? (i := 196) (by decide +kernel))) (fun _ h => nomatch h); exact ⟨c, fun ty ht => by cases ht; exact h⟩
  | 2 => obtain ⟨c, h⟩ := st_ac (t := .byte) (hts _ (List.mem_of_getElem? (i := 90) (by decide +kernel))) (fun _ h => nomatch h); exact ⟨c, fun ty ht => by cases ht; exact h⟩
  | 3 => obtain ⟨c, h⟩ := st_ao (C := "MiddleAlgebras$Element") (hts _ (List.mem_of_getElem? (i := 163) (by decide +kernel))); exact ⟨c, fun ty ht => by cases ht; exact h⟩
  | 4 => obtain ⟨c, h⟩ := st_ao (C := "MiddleAlgebras$Order") (hts _ (List.mem_of_getElem? (i := 165) (by decide +kernel))); exact ⟨c, fun ty ht => by cases ht; exact h⟩
  | 5 => obtain ⟨c, h⟩ := st_aoA (t := .byte) (hts _ (List.mem_of_getElem? (i := 98) (by decide +kernel))); exact ⟨c, fun ty ht => by cases ht; exact h⟩
  | 6 => obtain ⟨c, h⟩ := st_aoA (t := .int) (hts _ (List.mem_of_getElem? (i := 100) (by decide +kernel))); exact ⟨c, fun ty ht => by cases ht; exact h⟩
  | 7 => obtain ⟨c, h⟩ := st_aoA (t := .long) (hts _ (List.mem_of_getElem? (i := 185) (by decide +kernel))); exact ⟨c, fun ty ht => by cases ht; exact h⟩
  | 8 => obtain ⟨c, h⟩ := st_ao (C := "java/lang/String") (hts _ (List.mem_of_getElem? (i := 1019) (by decide +kernel))); exact ⟨c, fun ty ht => by cases ht; exact h⟩
  | k + 9 => obtain ⟨c, h⟩ := st_ac (t := .int) (hts _ (List.mem_of_getElem? (i := 126) (by decide +kernel))) (fun _ h => nomatch h); exact ⟨c, fun ty ht => by simp [tyL] at ht⟩
theorem st_world {args : Array Value} {s : State} (hts : ∀ w ∈ lw_tbl, w.before args s = true) (hgv : (Jvm.Cond.and given_1 narrow_1).before args s = true) : ∃ E : mE, (∀ i, eA E i = s.heap.size + i) ∧ va_K (eD E) vwCl (mTys E) s ∧ mX (fun q => s.heap.size ≤ q) E s s.heap := by
  have hA : ∀ a : Nat, a < s.heap.size → ¬ (fun q : Nat => s.heap.size ≤ q) a := fun a h => Nat.not_le.mpr h
  have hc := st_cls hts
  have ht := st_arr hts
  obtain ⟨adK, adV, hS, hev⟩ : ∃ adK adV : Nat → Nat, vk_S 17 mXLen mXByt adK adV (fun q => s.heap.size ≤ q) s s.heap ∧ ∀ i : Nat, i < 17 → (stTm i).eval args s none [] s = some (.ref (adK i)) := by
    refine vk_Sof (tm := stTm) (by decide) (fun i hi => (fl_ex hgv i hi).1) (fun i hi => (fl_ex hgv i hi).2.1) (fun i hi => (fl_ex hgv i hi).2.2.1) (fun i hi => (fl_ex hgv i hi).2.2.2) (fun i hi j hj => fl_el hgv i hi j hj) (fun i j hi hj hij => ?_) hA
    rcases Nat.lt_or_gt_of_ne hij with h | h
    · exact Or.inl (fl_ne hgv i hi j hj h)
    · exact Or.inr (fl_ne hgv j hj i hi h)
  obtain ⟨hm1, hm2, hm3, hm4, hm5, hm6⟩ := fl_mi hgv
  obtain ⟨tO, hO, hTO⟩ := va_Tof (s := s) (args := args) (tm := .static "java/lang/Integer" "DigitOnes" "[B") (ty := .byte) (N := 100) (f := fun j => .int (Int32.ofNat (48 + j % 10))) (A := fun q => s.heap.size ≤ q) (by decide) hm1 (va_eqt hm2) (fun j hj => va_eqt (fl_on hgv j hj)) hA
  obtain ⟨tT, hT, hTT⟩ := va_Tof (s := s) (args := args) (tm := .static "java/lang/Integer" "DigitTens" "[B") (ty := .byte) (N := 100) (f := fun j => .int (Int32.ofNat (48 + j / 10))) (A := fun q => s.heap.size ≤ q) (by decide) hm3 (va_eqt hm4) (fun j hj => va_eqt (fl_te hgv j hj)) hA
  refine ⟨((((fun k => (Classical.choose (hc k)).1, fun k => (Classical.choose (hc k)).2) : va_G), fun k => Classical.choose (ht k)), fun i => s.heap.size + i, adK, fun i => if i = 20 then tO else if i = 21 then tT else adV i), fun i => rfl, ⟨fun k r hr => Classical.choose_spec (hc k) r hr, fun k q hq => ?_⟩, ⟨fun i hi => ?_, hS.2⟩, fun i hi => ?_, ?_, ?_, fun i hi => ?_, ⟨?_, hTO⟩, ?_, hTT⟩
  · match k, hq with
    | 0, hq => cases hq; exact Classical.choose_spec (ht 0) _ rfl
    | 1, hq => cases hq; exact Classical.choose_spec (ht 1) _ rfl
    | 2, hq => cases hq; exact Classical.choose_spec (ht 2) _ rfl
    | 3, hq => cases hq; exact Classical.choose_spec (ht 3) _ rfl
    | 4, hq => cases hq; exact Classical.choose_spec (ht 4) _ rfl
    | 5, hq => cases hq; exact Classical.choose_spec (ht 5) _ rfl
    | 6, hq => cases hq; exact Classical.choose_spec (ht 6) _ rfl
    | 7, hq => cases hq; exact Classical.choose_spec (ht 7) _ rfl
    | 8, hq => cases hq; exact Classical.choose_spec (ht 8) _ rfl
    | k + 9, hq => simp [mTys] at hq
  · have := hS.1 i hi
    show va_O _ _ _ _ _ ∧ va_OF _ _ _ _ _ _ _ _ ∧ va_OF _ _ _ (.ref (if i = 20 then tO else if i = 21 then tT else adV i)) _ _ _ _ ∧ va_T _ (if i = 20 then tO else if i = 21 then tT else adV i) _ _ _ _ _
    rw [if_neg (by omega), if_neg (by omega)]
    exact this
  · match i, hi with
    | 0, h => exact vk_R.of (hts _ (List.mem_of_getElem? (i := 555) (by decide +kernel))) (hev 0 (by decide))
    | 1, h => exact vk_R.of (hts _ (List.mem_of_getElem? (i := 570) (by decide +kernel))) (hev 1 (by decide))
    | 2, h => exact vk_R.of (hts _ (List.mem_of_getElem? (i := 571) (by decide +kernel))) (hev 2 (by decide))
    | i + 3, h => exact absurd h (by omega)
  · exact va_Zof (hts _ (List.mem_of_getElem? (i := 464) (by decide +kernel))) (hts _ (List.mem_of_getElem? (i := 43) (by decide +kernel))) (va_eqt hm5) hA
  · exact va_Zqof (hts _ (List.mem_of_getElem? (i := 480) (by decide +kernel))) (hts _ (List.mem_of_getElem? (i := 49) (by decide +kernel))) hm6 hA
  · match i, hi with
    | 0, h => exact vk_R.of (hts _ (List.mem_of_getElem? (i := 1012) (by decide +kernel))) (hev 3 (by decide))
    | 1, h => exact vk_R.of (hts _ (List.mem_of_getElem? (i := 1013) (by decide +kernel))) (hev 4 (by decide))
    | 2, h => exact vk_R.of (hts _ (List.mem_of_getElem? (i := 1014) (by decide +kernel))) (hev 5 (by decide))
    | 3, h => exact vk_R.of (hts _ (List.mem_of_getElem? (i := 1015) (by decide +kernel))) (hev 6 (by decide))
    | 4, h => exact vk_R.of (hts _ (List.mem_of_getElem? (i := 1016) (by decide +kernel))) (hev 7 (by decide))
    | 5, h => exact vk_R.of (hts _ (List.mem_of_getElem? (i := 1017) (by decide +kernel))) (hev 8 (by decide))
    | 6, h => exact vk_R.of (hts _ (List.mem_of_getElem? (i := 1020) (by decide +kernel))) (hev 9 (by decide))
    | 7, h => exact vk_R.of (hts _ (List.mem_of_getElem? (i := 1021) (by decide +kernel))) (hev 10 (by decide))
    | 8, h => exact vk_R.of (hts _ (List.mem_of_getElem? (i := 1022) (by decide +kernel))) (hev 11 (by decide))
    | 9, h => exact vk_R.of (hts _ (List.mem_of_getElem? (i := 1023) (by decide +kernel))) (hev 12 (by decide))
    | 10, h => exact vk_R.of (hts _ (List.mem_of_getElem? (i := 1024) (by decide +kernel))) (hev 13 (by decide))
    | 11, h => exact vk_R.of (hts _ (List.mem_of_getElem? (i := 1025) (by decide +kernel))) (hev 14 (by decide))
    | 12, h => exact vk_R.of (hts _ (List.mem_of_getElem? (i := 1026) (by decide +kernel))) (hev 15 (by decide))
    | 13, h => exact vk_R.of (hts _ (List.mem_of_getElem? (i := 1027) (by decide +kernel))) (hev 16 (by decide))
    | i + 14, h => exact absurd h (by omega)
  · exact va_Zof (hts _ (List.mem_of_getElem? (i := 944) (by decide +kernel))) (hts _ (List.mem_of_getElem? (i := 52) (by decide +kernel))) hO hA
  · exact va_Zof (hts _ (List.mem_of_getElem? (i := 946) (by decide +kernel))) (hts _ (List.mem_of_getElem? (i := 52) (by decide +kernel))) hT hA
theorem ll_X11 : Cond.methodLink RL 43 yX11_init ∈ mTs := mTs_in 56 (by decide +kernel) (by decide +kernel)
theorem lc_X11 : Cond.classLink RL 26 RX11 ∈ mTs := mTs_in 54 (by decide +kernel) (by decide +kernel)
theorem li_X11 : Cond.instantiable RX11 12 ∈ mTs := mTs_in 55 (by decide +kernel) (by decide +kernel)
theorem lt_X11 : Cond.initialized RX11 ∈ mTs := mTs_in 30 (by decide +kernel) (by decide +kernel)
theorem lm_X11 : mY yX11_init cX11_init 2 none 0 ∧ Cond.instanceMethod yX11_init ∈ mTs := ⟨⟨mTs_in 58 (by decide +kernel) (by decide +kernel), mTs_in 30 (by decide +kernel) (by decide +kernel), ⟨by decide, by decide⟩, by decide +kernel⟩, mTs_in 57 (by decide +kernel) (by decide +kernel)⟩
theorem ln_X11 : mNew 10 12 RX11 TX11 tyX11 := ⟨rfl, inX11, tyX11_ok, by decide, fun E j hj => by rcases (show j = 0 ∨ j = 1 ∨ j = 2 ∨ j = 3 ∨ j = 4 ∨ j = 5 ∨ j = 6 ∨ j = 7 ∨ j = 8 ∨ j = 9 ∨ j = 10 ∨ j = 11 by omega) with rfl | rfl | rfl | rfl | rfl | rfl | rfl | rfl | rfl | rfl | rfl | rfl <;> rfl⟩
