theorem st_RX0 : Cond.instantiable RX0 8 ∈ lw_tbl := List.mem_of_getElem? (i := 176) (by decide +kernel)
theorem st_RX1 : Cond.instantiable RX1 3 ∈ lw_tbl := List.mem_of_getElem? (i := 366) (by decide +kernel)
theorem st_RX2 : Cond.instantiable RX2 7 ∈ lw_tbl := List.mem_of_getElem? (i := 251) (by decide +kernel)
theorem st_RX3 : Cond.instantiable RX3 3 ∈ lw_tbl := List.mem_of_getElem? (i := 263) (by decide +kernel)
theorem st_RX4 : Cond.instantiable RX4 3 ∈ lw_tbl := List.mem_of_getElem? (i := 347) (by decide +kernel)
theorem st_RX6 : Cond.instantiable RX6 4 ∈ lw_tbl := List.mem_of_getElem? (i := 257) (by decide +kernel)
theorem st_RX7 : Cond.instantiable RX7 4 ∈ lw_tbl := List.mem_of_getElem? (i := 227) (by decide +kernel)
theorem st_RX8 : Cond.instantiable RX8 4 ∈ lw_tbl := List.mem_of_getElem? (i := 147) (by decide +kernel)
theorem st_RX9 : Cond.instantiable RX9 5 ∈ lw_tbl := List.mem_of_getElem? (i := 325) (by decide +kernel)
theorem st_RX10 : Cond.instantiable RX10 5 ∈ lw_tbl := List.mem_of_getElem? (i := 153) (by decide +kernel)
theorem st_RX11 : Cond.instantiable RX11 12 ∈ lw_tbl := List.mem_of_getElem? (i := 139) (by decide +kernel)
theorem st_RX12 : Cond.instantiable RX12 37 ∈ lw_tbl := List.mem_of_getElem? (i := 1287) (by decide +kernel)
theorem st_cls {args : Array Value} {s : State} (hts : ∀ w ∈ lw_tbl, w.before args s = true) : ∀ k : Nat, ∃ q : ClassId × (Nat → Nat), ∀ r : vw_C, vwCl[k]? = some r → u_Kn s r.1 r.2.1 r.2.2 q.1 q.2 := by
  have one : ∀ (C : String) (T : u_T) (N n : Nat), (∀ w ∈ u_ws C T N, w ∈ mTs) → Cond.instantiable C n ∈ lw_tbl → ∃ q : ClassId × (Nat → Nat), u_Kn s C T N q.1 q.2 := fun C T N n h1 h2 => by
    obtain ⟨a, b, h⟩ := u_known (n := n) (fun w hw => hts w (List.mem_filter.mp hw).1) h1 (hts _ h2)
    exact ⟨(a, b), h⟩
  intro k
  match k with
  | 0 => obtain ⟨q, h⟩ := one _ _ _ _ inX0 st_RX0; exact ⟨q, fun r hr => by cases hr; exact h⟩
  | 1 => obtain ⟨q, h⟩ := one _ _ _ _ inX1 st_RX1; exact ⟨q, fun r hr => by cases hr; exact h⟩
  | 2 => obtain ⟨q, h⟩ := one _ _ _ _ inX2 st_RX2; exact ⟨q, fun r hr => by cases hr; exact h⟩
  | 3 => obtain ⟨q, h⟩ := one _ _ _ _ inX3 st_RX3; exact ⟨q, fun r hr => by cases hr; exact h⟩
  | 4 => obtain ⟨q, h⟩ := one _ _ _ _ inX4 st_RX4; exact ⟨q, fun r hr => by cases hr; exact h⟩
  | 5 => obtain ⟨q, h⟩ := one _ _ _ _ inX6 st_RX6; exact ⟨q, fun r hr => by cases hr; exact h⟩
  | 6 => obtain ⟨q, h⟩ := one _ _ _ _ inX7 st_RX7; exact ⟨q, fun r hr => by cases hr; exact h⟩
  | 7 => obtain ⟨q, h⟩ := one _ _ _ _ inX8 st_RX8; exact ⟨q, fun r hr => by cases hr; exact h⟩
  | 8 => obtain ⟨q, h⟩ := one _ _ _ _ inX9 st_RX9; exact ⟨q, fun r hr => by cases hr; exact h⟩
  | 9 => obtain ⟨q, h⟩ := one _ _ _ _ inX10 st_RX10; exact ⟨q, fun r hr => by cases hr; exact h⟩
  | 10 => obtain ⟨q, h⟩ := one _ _ _ _ inX11 st_RX11; exact ⟨q, fun r hr => by cases hr; exact h⟩
  | 11 => obtain ⟨q, h⟩ := one _ _ _ _ inX12 st_RX12; exact ⟨q, fun r hr => by cases hr; exact h⟩
  | k + 12 => obtain ⟨q, _⟩ := one _ _ _ _ inX0 st_RX0; exact ⟨q, fun r hr => by simp [vwCl] at hr⟩
theorem st_ao {args : Array Value} {s : State} {C : String} (h : (Cond.arrayOver (.object C)).before args s = true) : ∃ c : ClassId, ArrOfT s c (.object C) ∧ va_RA s c (.object C) := by
  obtain ⟨comp, c, k, h1, h2, h3, h4, h5⟩ := Cond.arrayOver_spec h
  exact ⟨c, fun n z => ⟨fun q hq => (by cases hq), k, h3, comp, h4⟩, k, comp, h3, h4, h1, h5⟩
theorem st_aoA {args : Array Value} {s : State} {t : FieldType} (h : (Cond.arrayOver (.array t)).before args s = true) : ∃ c : ClassId, ArrOfT s c (.array t) ∧ va_RA s c (.array t) := by
  obtain ⟨comp, c, k, h1, h3, h4, h5⟩ := Cond.arrayOver_specA h
  exact ⟨c, fun n z => ⟨fun q hq => (by cases hq), k, h3, comp, h4⟩, h5⟩
theorem st_ac {args : Array Value} {s : State} {t : FieldType} (h : (Cond.arrayClass t).before args s = true) (ho : ∀ C, t ≠ .object C) : ∃ c : ClassId, ArrOfT s c t ∧ va_RA s c t := by
  obtain ⟨c, k, comp, h1, h2, h3⟩ := Cond.arrayClass_spec h
  refine ⟨c, fun N z => ⟨(fun q hq => by cases hq), k, h2, comp, h3⟩, ?_⟩
  cases t <;> first | exact h1 | exact absurd rfl (ho _)
def tyL : List FieldType := [.int, .long, .byte, .object "MiddleAlgebras$Element", .object "MiddleAlgebras$Order", .array .byte, .array .int, .array .long]
theorem st_arr {args : Array Value} {s : State} (hts : ∀ w ∈ lw_tbl, w.before args s = true) : ∀ k : Nat, ∃ c : ClassId, ∀ ty, tyL[k]? = some ty → ArrOfT s c ty ∧ va_RA s c ty := by
  intro k
  match k with
  | 0 => obtain ⟨c, h⟩ := st_ac (t := .int) (hts _ (List.mem_of_getElem? (i := 210) (by decide +kernel))) (fun _ h => nomatch h); exact ⟨c, fun ty ht => by cases ht; exact h⟩
  | 1 => obtain ⟨c, h⟩ := st_ac (t := .long) (hts _ (List.mem_of_getElem? (i := 280) (by decide +kernel))) (fun _ h => nomatch h); exact ⟨c, fun ty ht => by cases ht; exact h⟩
  | 2 => obtain ⟨c, h⟩ := st_ac (t := .byte) (hts _ (List.mem_of_getElem? (i := 174) (by decide +kernel))) (fun _ h => nomatch h); exact ⟨c, fun ty ht => by cases ht; exact h⟩
  | 3 => obtain ⟨c, h⟩ := st_ao (C := "MiddleAlgebras$Element") (hts _ (List.mem_of_getElem? (i := 247) (by decide +kernel))); exact ⟨c, fun ty ht => by cases ht; exact h⟩
  | 4 => obtain ⟨c, h⟩ := st_ao (C := "MiddleAlgebras$Order") (hts _ (List.mem_of_getElem? (i := 249) (by decide +kernel))); exact ⟨c, fun ty ht => by cases ht; exact h⟩
  | 5 => obtain ⟨c, h⟩ := st_aoA (t := .byte) (hts _ (List.mem_of_getElem? (i := 182) (by decide +kernel))); exact ⟨c, fun ty ht => by cases ht; exact h⟩
  | 6 => obtain ⟨c, h⟩ := st_aoA (t := .int) (hts _ (List.mem_of_getElem? (i := 184) (by decide +kernel))); exact ⟨c, fun ty ht => by cases ht; exact h⟩
  | 7 => obtain ⟨c, h⟩ := st_aoA (t := .long) (hts _ (List.mem_of_getElem? (i := 269) (by decide +kernel))); exact ⟨c, fun ty ht => by cases ht; exact h⟩
  | k + 8 => obtain ⟨c, h⟩ := st_ac (t := .int) (hts _ (List.mem_of_getElem? (i := 210) (by decide +kernel))) (fun _ h => nomatch h); exact ⟨c, fun ty ht => by simp [tyL] at ht⟩
def stTm (i : Nat) : Term := .string "MiddleAlgebras$Tokens" (mXIt.getD i 0)
theorem st_world {args : Array Value} {s : State} (hts : ∀ w ∈ lw_tbl, w.before args s = true) (hgv : (Jvm.Cond.and given_1 narrow_1).before args s = true) : ∃ E : mE, (∀ i, eA E i = s.heap.size + i) ∧ va_K (eD E) vwCl (mTys E) s ∧ mX (fun q => s.heap.size ≤ q) E s s.heap := by
  have hn := flat_of_before _ hgv
  have hA : ∀ a : Nat, a < s.heap.size → ¬ (fun q : Nat => s.heap.size ≤ q) a := fun a h => Nat.not_le.mpr h
  have hc := st_cls hts
  have ht := st_arr hts
  obtain ⟨adK, adV, hS, hev⟩ : ∃ adK adV : Nat → Nat, vk_S 3 mXLen mXByt adK adV (fun q => s.heap.size ≤ q) s s.heap ∧ ∀ i : Nat, i < 3 → (stTm i).eval args s none [] s = some (.ref (adK i)) := by
    refine vk_Sof (tm := stTm) ?_ ?_ ?_ ?_ ?_ ?_ ?_ hA
    · intro i hi
      match i, hi with
      | 0, _ => decide
      | 1, _ => decide
      | 2, _ => decide
      | i + 3, h => exact absurd h (by omega)
    · intro i hi
      match i, hi with
      | 0, _ => exact hn _ (by decide +kernel)
      | 1, _ => exact hn _ (by decide +kernel)
      | 2, _ => exact hn _ (by decide +kernel)
      | i + 3, h => exact absurd h (by omega)
    · intro i hi
      match i, hi with
      | 0, _ => exact hn _ (by decide +kernel)
      | 1, _ => exact hn _ (by decide +kernel)
      | 2, _ => exact hn _ (by decide +kernel)
      | i + 3, h => exact absurd h (by omega)
    · intro i hi
      match i, hi with
      | 0, _ => exact hn _ (by decide +kernel)
      | 1, _ => exact hn _ (by decide +kernel)
      | 2, _ => exact hn _ (by decide +kernel)
      | i + 3, h => exact absurd h (by omega)
    · intro i hi
      match i, hi with
      | 0, _ => exact hn _ (by decide +kernel)
      | 1, _ => exact hn _ (by decide +kernel)
      | 2, _ => exact hn _ (by decide +kernel)
      | i + 3, h => exact absurd h (by omega)
    · intro i hi j hj
      match i, hi, j, hj with
      | 0, _, 0, _ => exact hn _ (by decide +kernel)
      | 0, _, 1, _ => exact hn _ (by decide +kernel)
      | 0, _, 2, _ => exact hn _ (by decide +kernel)
      | 0, _, 3, _ => exact hn _ (by decide +kernel)
      | 0, _, 4, _ => exact hn _ (by decide +kernel)
      | 0, _, 5, _ => exact hn _ (by decide +kernel)
      | 0, _, 6, _ => exact hn _ (by decide +kernel)
      | 0, _, 7, _ => exact hn _ (by decide +kernel)
      | 0, _, 8, _ => exact hn _ (by decide +kernel)
      | 0, _, 9, _ => exact hn _ (by decide +kernel)
      | 0, _, j + 10, h => exact absurd (show j + 10 < 10 from h) (by omega)
      | 1, _, 0, _ => exact hn _ (by decide +kernel)
      | 1, _, 1, _ => exact hn _ (by decide +kernel)
      | 1, _, 2, _ => exact hn _ (by decide +kernel)
      | 1, _, 3, _ => exact hn _ (by decide +kernel)
      | 1, _, 4, _ => exact hn _ (by decide +kernel)
      | 1, _, 5, _ => exact hn _ (by decide +kernel)
      | 1, _, j + 6, h => exact absurd (show j + 6 < 6 from h) (by omega)
      | 2, _, 0, _ => exact hn _ (by decide +kernel)
      | 2, _, 1, _ => exact hn _ (by decide +kernel)
      | 2, _, 2, _ => exact hn _ (by decide +kernel)
      | 2, _, j + 3, h => exact absurd (show j + 3 < 3 from h) (by omega)
      | i + 3, h, _, _ => exact absurd h (by omega)
    · intro i j hi hj hij
      match i, hi, j, hj, hij with
      | 0, _, 0, _, h => exact absurd rfl h
      | 0, _, 1, _, _ => exact Or.inl (hn _ (by decide +kernel))
      | 0, _, 2, _, _ => exact Or.inl (hn _ (by decide +kernel))
      | 1, _, 0, _, _ => exact Or.inr (hn _ (by decide +kernel))
      | 1, _, 1, _, h => exact absurd rfl h
      | 1, _, 2, _, _ => exact Or.inl (hn _ (by decide +kernel))
      | 2, _, 0, _, _ => exact Or.inr (hn _ (by decide +kernel))
      | 2, _, 1, _, _ => exact Or.inr (hn _ (by decide +kernel))
      | 2, _, 2, _, h => exact absurd rfl h
      | i + 3, h, _, _, _ => exact absurd h (by omega)
      | 0, _, j + 3, h, _ => exact absurd h (by omega)
      | 1, _, j + 3, h, _ => exact absurd h (by omega)
      | 2, _, j + 3, h, _ => exact absurd h (by omega)
  refine ⟨((((fun k => (Classical.choose (hc k)).1, fun k => (Classical.choose (hc k)).2) : va_G), fun k => Classical.choose (ht k)), fun i => s.heap.size + i, adK, adV), fun i => rfl, ⟨fun k r hr => Classical.choose_spec (hc k) r hr, fun k q hq => ?_⟩, hS, fun i hi => ?_, ?_, ?_, ?_, ?_⟩
  · match k, hq with
    | 0, hq => cases hq; exact Classical.choose_spec (ht 0) _ rfl
    | 1, hq => cases hq; exact Classical.choose_spec (ht 1) _ rfl
    | 2, hq => cases hq; exact Classical.choose_spec (ht 2) _ rfl
    | 3, hq => cases hq; exact Classical.choose_spec (ht 3) _ rfl
    | 4, hq => cases hq; exact Classical.choose_spec (ht 4) _ rfl
    | 5, hq => cases hq; exact Classical.choose_spec (ht 5) _ rfl
    | 6, hq => cases hq; exact Classical.choose_spec (ht 6) _ rfl
    | 7, hq => cases hq; exact Classical.choose_spec (ht 7) _ rfl
    | k + 8, hq => simp [mTys] at hq
  · match i, hi with
    | 0, h => exact ⟨vk_R.of (hts _ (List.mem_of_getElem? (i := 478) (by decide +kernel))) (hev 0 h), vk_R.of (hts _ (List.mem_of_getElem? (i := 1441) (by decide +kernel))) (va_eqR (t := stTm 0) (hn (.eq (stTm 0) (.string "MiddleAlgebrasModel" 148)) (by decide +kernel)) (hev 0 h))⟩
    | 1, h => exact ⟨vk_R.of (hts _ (List.mem_of_getElem? (i := 539) (by decide +kernel))) (hev 1 h), vk_R.of (hts _ (List.mem_of_getElem? (i := 1451) (by decide +kernel))) (va_eqR (t := stTm 1) (hn (.eq (stTm 1) (.string "MiddleAlgebrasModel" 154)) (by decide +kernel)) (hev 1 h))⟩
    | 2, h => exact ⟨vk_R.of (hts _ (List.mem_of_getElem? (i := 540) (by decide +kernel))) (hev 2 h), vk_R.of (hts _ (List.mem_of_getElem? (i := 1452) (by decide +kernel))) (va_eqR (t := stTm 2) (hn (.eq (stTm 2) (.string "MiddleAlgebrasModel" 156)) (by decide +kernel)) (hev 2 h))⟩
    | i + 3, h => exact absurd h (by omega)
  · exact va_Zof (hts _ (List.mem_of_getElem? (i := 492) (by decide +kernel))) (hts _ (List.mem_of_getElem? (i := 128) (by decide +kernel))) (va_eqt (hn _ (by decide +kernel))) hA
  · exact va_Zqof (hts _ (List.mem_of_getElem? (i := 512) (by decide +kernel))) (hts _ (List.mem_of_getElem? (i := 130) (by decide +kernel))) (hn _ (by decide +kernel)) hA
  · exact vx_Zqof (hts _ (List.mem_of_getElem? (i := 1185) (by decide +kernel))) (hts _ (List.mem_of_getElem? (i := 134) (by decide +kernel))) (hn _ (by decide +kernel)) hA
  · exact vx_Zqof (hts _ (List.mem_of_getElem? (i := 1187) (by decide +kernel))) (hts _ (List.mem_of_getElem? (i := 134) (by decide +kernel))) (hn _ (by decide +kernel)) hA
theorem ll_X11 : Cond.methodLink RL 37 yX11_init ∈ mTs := mTs_in 140 (by decide +kernel) (by decide +kernel)
theorem lc_X11 : Cond.classLink RL 8 RX11 ∈ mTs := mTs_in 138 (by decide +kernel) (by decide +kernel)
theorem li_X11 : Cond.instantiable RX11 12 ∈ mTs := mTs_in 139 (by decide +kernel) (by decide +kernel)
theorem lt_X11 : Cond.initialized RX11 ∈ mTs := mTs_in 116 (by decide +kernel) (by decide +kernel)
theorem lm_X11 : mY yX11_init cX11_init 2 none 0 ∧ Cond.instanceMethod yX11_init ∈ mTs := ⟨⟨mTs_in 142 (by decide +kernel) (by decide +kernel), mTs_in 116 (by decide +kernel) (by decide +kernel), ⟨by decide, by decide⟩, by decide +kernel⟩, mTs_in 141 (by decide +kernel) (by decide +kernel)⟩
theorem ln_X11 : mNew 10 12 RX11 TX11 tyX11 := ⟨rfl, inX11, tyX11_ok, by decide, fun E j hj => by rcases (show j = 0 ∨ j = 1 ∨ j = 2 ∨ j = 3 ∨ j = 4 ∨ j = 5 ∨ j = 6 ∨ j = 7 ∨ j = 8 ∨ j = 9 ∨ j = 10 ∨ j = 11 by omega) with rfl | rfl | rfl | rfl | rfl | rfl | rfl | rfl | rfl | rfl | rfl | rfl <;> rfl⟩
theorem ll_X12 : Cond.methodLink RL 40 yX12_init ∈ mTs := mTs_in 1288 (by decide +kernel) (by decide +kernel)
theorem lc_X12 : Cond.classLink RL 38 RX12 ∈ mTs := mTs_in 1286 (by decide +kernel) (by decide +kernel)
theorem li_X12 : Cond.instantiable RX12 37 ∈ mTs := mTs_in 1287 (by decide +kernel) (by decide +kernel)
theorem lt_X12 : Cond.initialized RX12 ∈ mTs := mTs_in 127 (by decide +kernel) (by decide +kernel)
theorem lm_X12 : mY yX12_init cX12_init 1 none 0 ∧ Cond.instanceMethod yX12_init ∈ mTs := ⟨⟨mTs_in 1290 (by decide +kernel) (by decide +kernel), mTs_in 127 (by decide +kernel) (by decide +kernel), ⟨by decide, by decide⟩, by decide +kernel⟩, mTs_in 1289 (by decide +kernel) (by decide +kernel)⟩
theorem ln_X12 : mNew 11 37 RX12 TX12 tyX12 := ⟨rfl, inX12, tyX12_ok, by decide, fun E j hj => by rcases (show j = 0 ∨ j = 1 ∨ j = 2 ∨ j = 3 ∨ j = 4 ∨ j = 5 ∨ j = 6 ∨ j = 7 ∨ j = 8 ∨ j = 9 ∨ j = 10 ∨ j = 11 ∨ j = 12 ∨ j = 13 ∨ j = 14 ∨ j = 15 ∨ j = 16 ∨ j = 17 ∨ j = 18 ∨ j = 19 ∨ j = 20 ∨ j = 21 ∨ j = 22 ∨ j = 23 ∨ j = 24 ∨ j = 25 ∨ j = 26 ∨ j = 27 ∨ j = 28 ∨ j = 29 ∨ j = 30 ∨ j = 31 ∨ j = 32 ∨ j = 33 ∨ j = 34 ∨ j = 35 ∨ j = 36 by omega) with rfl | rfl | rfl | rfl | rfl | rfl | rfl | rfl | rfl | rfl | rfl | rfl | rfl | rfl | rfl | rfl | rfl | rfl | rfl | rfl | rfl | rfl | rfl | rfl | rfl | rfl | rfl | rfl | rfl | rfl | rfl | rfl | rfl | rfl | rfl | rfl | rfl <;> rfl⟩
