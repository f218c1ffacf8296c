theorem lkL_120 : Cond.methodLink RL 120 yX11_disc ∈ mTs := mTs_in 421 (by decide +kernel) (by decide +kernel)
theorem myX11_disc : mYV yX11_disc cX11_disc 2 (some .int) 1 := ⟨⟨mTs_in 424 (by decide +kernel) (by decide +kernel), mTs_in 30 (by decide +kernel) (by decide +kernel), ⟨by decide, by decide⟩, by decide +kernel⟩, mTs_in 422 (by decide +kernel) (by decide +kernel), mTs_in 423 (by decide +kernel) (by decide +kernel)⟩
theorem lkL_113 : Cond.methodLink RL 113 yL_isSolved ∈ mTs := mTs_in 783 (by decide +kernel) (by decide +kernel)
theorem myL_isSolved : mYS yL_isSolved cL_isSolved 11 (some .boolean) 4 := ⟨⟨mTs_in 785 (by decide +kernel) (by decide +kernel), mTs_in 29 (by decide +kernel) (by decide +kernel), ⟨by decide, by decide⟩, by decide +kernel⟩, mTs_in 784 (by decide +kernel) (by decide +kernel)⟩
theorem lkL_92 : Cond.methodLink RL 92 yX11_classes ∈ mTs := mTs_in 380 (by decide +kernel) (by decide +kernel)
theorem myX11_classes : mYV yX11_classes cX11_classes 5 (some .int) 0 := ⟨⟨mTs_in 383 (by decide +kernel) (by decide +kernel), mTs_in 30 (by decide +kernel) (by decide +kernel), ⟨by decide, by decide⟩, by decide +kernel⟩, mTs_in 381 (by decide +kernel) (by decide +kernel), mTs_in 382 (by decide +kernel) (by decide +kernel)⟩
theorem lkL_106 : Cond.methodLink RL 106 yL_isWhole ∈ mTs := mTs_in 768 (by decide +kernel) (by decide +kernel)
theorem myL_isWhole : mYS yL_isWhole cL_isWhole 8 (some .boolean) 2 := ⟨⟨mTs_in 770 (by decide +kernel) (by decide +kernel), mTs_in 29 (by decide +kernel) (by decide +kernel), ⟨by decide, by decide⟩, by decide +kernel⟩, mTs_in 769 (by decide +kernel) (by decide +kernel)⟩
def mL_law_B773 (v1 : Nat) (σ : mSt) : Option (Int × mSt) := mCall (mX11_solution v1 3 0 σ) fun b1 s2 => if wI b1 = (-1) then (mCall (mX11_disc v1 5 s2) fun b5 s6 => if wI b5 = (-1) then (some (1, s6)) else some (0, s6)) else some (0, s2)
def mL_law_L740 (v1 : Nat) (v4 : Nat) (v5 : Nat) (x773 : mSt → Option (Int × mSt)) : Nat → Int → mSt → Option (Int × mSt)
  | 0, _, _ => none
  | n + 1, v9, σ => if 3 ≤ wI v9 then (x773 σ) else mG (ixOK v4 20 v9) <| mG (ixOK v5 20 v9) <| mCall (mL_isSolved v1 v9 (σ v4 (wI v9).toNat) (σ v5 (wI v9).toNat) σ) fun b12 s13 => if wI b12 = 0 then (some (0, s13)) else bnd (v9 + 1) fun a16 => mL_law_L740 v1 v4 v5 x773 n a16 s13
def mL_law_B726 (v1 : Nat) (v4 : Nat) (v5 : Nat) (v8 : Int) (σ : mSt) : Option (Int × mSt) := mCall (mX11_classes v1 σ) fun b18 s19 => if wI b18 = wI v8 then (mL_law_L740 v1 v4 v5 (fun zσ => mL_law_B773 v1 zσ) mF 0 s19) else some (0, s19)
def mL_law_B705 (v1 : Nat) (v4 : Nat) (v5 : Nat) (c635 : Int → Int → mSt → Option (Int × mSt)) (x726 : Int → mSt → Option (Int × mSt)) (v8 : Int) (v9 : Int) (v10 : Int) (σ : mSt) : Option (Int × mSt) := if wI v10 = 0 then (bnd (v8 + 0) fun a23 => bnd (v9 + 1) fun a25 => c635 a23 a25 σ) else bnd (v8 + 1) fun a27 => bnd (v9 + 1) fun a29 => c635 a27 a29 σ
def mL_law_B696 (v1 : Nat) (v4 : Nat) (v5 : Nat) (v8 : Int) (v9 : Int) (c648 : Int → Int → mSt → Option (Int × mSt)) (x705 : Int → mSt → Option (Int × mSt)) (v11 : Int) (σ : mSt) : Option (Int × mSt) := bnd (v11 + 1) fun a31 => c648 0 a31 σ
def mL_law_L648 (v1 : Nat) (v4 : Nat) (v5 : Nat) (v8 : Int) (v9 : Int) (x705 : Int → mSt → Option (Int × mSt)) : Nat → Int → Int → mSt → Option (Int × mSt)
  | 0, _, _, _ => none
  | n + 1, v10, v11, σ => if wI v9 ≤ wI v11 then (x705 v10 σ) else mCall (mX11_alike v1 v9 v11 σ) fun b34 s35 => mCall (mX11_alike v1 v11 v9 s35) fun b37 s38 => if wI b34 = wI b37 then (if wI v10 = 0 then (mL_law_B696 v1 v4 v5 v8 v9 (mL_law_L648 v1 v4 v5 v8 v9 x705 n) x705 v11 s38) else mCall (mX11_alike v1 v9 v11 s38) fun b42 s43 => if wI b42 = 0 then (bnd (v11 + 1) fun a46 => mL_law_L648 v1 v4 v5 v8 v9 x705 n 1 a46 s43) else mL_law_B696 v1 v4 v5 v8 v9 (mL_law_L648 v1 v4 v5 v8 v9 x705 n) x705 v11 s43) else some (0, s38)
def mL_law_L635 (v1 : Nat) (v4 : Nat) (v5 : Nat) (x726 : Int → mSt → Option (Int × mSt)) : Nat → Int → Int → mSt → Option (Int × mSt)
  | 0, _, _, _ => none
  | n + 1, v8, v9, σ => if 6 ≤ wI v9 then (x726 v8 σ) else mL_law_L648 v1 v4 v5 v8 v9 (fun z10 zσ => mL_law_B705 v1 v4 v5 (mL_law_L635 v1 v4 v5 x726 n) x726 v8 v9 z10 zσ) mF 1 0 σ
def mL_law_B629 (v1 : Nat) (v4 : Nat) (v5 : Nat) (σ : mSt) : Option (Int × mSt) := mL_law_L635 v1 v4 v5 (fun z8 zσ => mL_law_B726 v1 v4 v5 z8 zσ) mF 0 0 σ
def mL_law_B600 (v1 : Nat) (v4 : Nat) (v5 : Nat) (v7 : Nat) (c542 : Int → mSt → Option (Int × mSt)) (x629 : mSt → Option (Int × mSt)) (v8 : Int) (v9 : Int) (σ : mSt) : Option (Int × mSt) := mCall (mX11_local v1 5 v8 σ) fun b49 s50 => mG (wI 6 ≠ 0) <| if wI b49 = wI ((wI (((wI v9).tmod (wI 6)) + 6)).tmod (wI 6)) then (bnd (v8 + 1) fun a54 => c542 a54 s50) else some (0, s50)
def mL_law_L569 (v1 : Nat) (v4 : Nat) (v5 : Nat) (v7 : Nat) (v8 : Int) (x600 : Int → mSt → Option (Int × mSt)) : Nat → Int → Int → mSt → Option (Int × mSt)
  | 0, _, _, _ => none
  | n + 1, v9, v10, σ => if 5 ≤ wI v10 then (x600 v9 σ) else mG (ixOK v7 20 v10) <| mCall (mX11_local v1 v10 v8 σ) fun b58 s59 => bnd (v9 + ((σ v7 (wI v10).toNat) * b58)) fun a61 => bnd (v10 + 1) fun a63 => mL_law_L569 v1 v4 v5 v7 v8 x600 n a61 a63 s59
def mL_law_L542 (v1 : Nat) (v4 : Nat) (v5 : Nat) (v7 : Nat) (x629 : mSt → Option (Int × mSt)) : Nat → Int → mSt → Option (Int × mSt)
  | 0, _, _ => none
  | n + 1, v8, σ => if 1000 ≤ wI v8 then (x629 σ) else mCall (mX11_local v1 0 v8 σ) fun b66 s67 => if 0 ≤ wI b66 then (mL_law_L569 v1 v4 v5 v7 v8 (fun z9 zσ => mL_law_B600 v1 v4 v5 v7 (mL_law_L542 v1 v4 v5 v7 x629 n) x629 v8 z9 zσ) mF 0 0 s67) else bnd (v8 + 1) fun a70 => mL_law_L542 v1 v4 v5 v7 x629 n a70 s67
def mL_law_B539 (v1 : Nat) (v4 : Nat) (v5 : Nat) (v7 : Nat) (σ : mSt) : Option (Int × mSt) := mL_law_L542 v1 v4 v5 v7 (fun zσ => mL_law_B629 v1 v4 v5 zσ) mF 0 σ
def mL_law_L515 (v1 : Nat) (v4 : Nat) (v5 : Nat) (v7 : Nat) (x539 : mSt → Option (Int × mSt)) : Nat → Int → mSt → Option (Int × mSt)
  | 0, _, _ => none
  | n + 1, v8, σ => if 6 ≤ wI v8 then (x539 σ) else mCall (mL_isWhole v1 v8 σ) fun b73 s74 => if wI b73 = 0 then (some (0, s74)) else bnd (v8 + 1) fun a77 => mL_law_L515 v1 v4 v5 v7 x539 n a77 s74
def mTail (v1 : Nat) (v4 : Nat) (v5 : Nat) (v7 : Nat) (σ : mSt) : Option (Int × mSt) := mL_law_L515 v1 v4 v5 v7 (fun zσ => mL_law_B539 v1 v4 v5 v7 zσ) mF 0 σ
set_option maxRecDepth 100000 in
set_option maxHeartbeats 4000000 in
theorem wL_law_B773 (l : Launch) (E : mE) (out : Int × mSt) (hout : out.1 = 1) {p : Program} {e : Env} {s : State} {m : MethodId} {below : List Frame} {meth : Method} {c : Code} {b : Nat} (G : CallFix p m c code 12 s #[Value.ref b] mTs RL) (hr : meth.sig.returnType = ret) (hk : meth.locks = false) : ∀ (v1 : Nat) (σ : mSt) (H : Heap) (locs : List Loc) (ls : Array Slot), mL_law_B773 v1 σ = some out → mM (fun q => s.heap.size ≤ q) E 257 σ s H locs → lv_has ls 12 [(1, .ref (eA E v1))] → mGoT l p e s m b below meth c H locs (F0 m 773 ls []) := by
  intro v1 σ H locs ls hm hM hl
  unfold mL_law_B773 at hm
  refine r_aload_n (np := 774) G hl 0 rfl dL_law_773 rfl rfl ?_
  refine r_iconst (np := 775) G 3 dL_law_774 rfl ?_
  refine r_iconst (np := 776) G 0 dL_law_775 rfl ?_
  obtain ⟨b1, s2, e3, hm⟩ := call_t hm
  refine m_callVI (np := 779) G hM hl.1 [vI 3, vI 0] (qX11_solution l E σ v1 3 0 _ e3) myX11_solution (shp_lt (gX11_solution e3) (by decide)) (gX11_solution e3) rfl (by decide) lkL_117 ⟨Nat.le_of_ble_eq_true rfl, Nat.le_of_ble_eq_true rfl⟩ ⟨Nat.le_of_ble_eq_true rfl, Nat.le_of_ble_eq_true rfl⟩ [] rfl (Nat.le_of_ble_eq_true rfl) dL_law_776 rfl (fun H locs hM => ?_)
  refine r_iconst (np := 780) G (-1) dL_law_779 rfl ?_
  refine r_icmp_ne (np := 783) (tgt := 796) G rfl (wIk (-1) rfl) dL_law_780 (by decide) rfl (fun h4 => ?_) (fun h4 => ?_)
  · have hm := b_f h4 hm
    refine r_iconst (np := 797) G 0 dL_law_796 rfl ?_
    cases hm
    exact absurd (show (0 : Int) = 1 from hout) (by decide)
  · have hm := b_t h4 hm
    refine r_aload_n (np := 784) G hl 0 rfl dL_law_783 rfl rfl ?_
    refine r_iconst (np := 785) G 5 dL_law_784 rfl ?_
    obtain ⟨b5, s6, e7, hm⟩ := call_t hm
    refine m_callVI (np := 788) G hM hl.1 [vI 5] (qX11_disc l E s2 v1 5 _ e7) myX11_disc (shp_lt (gX11_disc e7) (by decide)) (gX11_disc e7) rfl (by decide) lkL_120 ⟨Nat.le_of_ble_eq_true rfl, Nat.le_of_ble_eq_true rfl⟩ ⟨Nat.le_of_ble_eq_true rfl, Nat.le_of_ble_eq_true rfl⟩ [] rfl (Nat.le_of_ble_eq_true rfl) dL_law_785 rfl (fun H locs hM => ?_)
    refine r_iconst (np := 789) G (-1) dL_law_788 rfl ?_
    refine r_icmp_ne (np := 792) (tgt := 796) G rfl (wIk (-1) rfl) dL_law_789 (by decide) rfl (fun h8 => ?_) (fun h8 => ?_)
    · have hm := b_f h8 hm
      refine r_iconst (np := 797) G 0 dL_law_796 rfl ?_
      cases hm
      exact absurd (show (0 : Int) = 1 from hout) (by decide)
    · have hm := b_t h8 hm
      refine r_iconst (np := 793) G 1 dL_law_792 rfl ?_
      refine r_goto (np := 797) G dL_law_793 (by decide) ?_
      exact r_lawEnd G hr hk hM rfl dL_law_797 (Nat.le_of_ble_eq_true rfl) (Nat.le_of_ble_eq_true rfl)
set_option maxRecDepth 100000 in
set_option maxHeartbeats 4000000 in
theorem wL_law_L740 (l : Launch) (E : mE) (out : Int × mSt) (hout : out.1 = 1) {p : Program} {e : Env} {s : State} {m : MethodId} {below : List Frame} {meth : Method} {c : Code} {b : Nat} (G : CallFix p m c code 12 s #[Value.ref b] mTs RL) (hr : meth.sig.returnType = ret) (hk : meth.locks = false) (v1 : Nat) (v4 : Nat) (v5 : Nat) (x773 : mSt → Option (Int × mSt)) (hx773 : ∀ (σ : mSt) (H : Heap) (locs : List Loc) (ls : Array Slot), x773 σ = some out → mM (fun q => s.heap.size ≤ q) E 257 σ s H locs → lv_has ls 12 [(1, .ref (eA E v1))] → mGoT l p e s m b below meth c H locs (F0 m 773 ls [])) : ∀ (n : Nat) (v9 : Int) (σ : mSt) (H : Heap) (locs : List Loc) (ls : Array Slot), mL_law_L740 v1 v4 v5 x773 n v9 σ = some out → mM (fun q => s.heap.size ≤ q) E 257 σ s H locs → lv_has ls 12 [(1, .ref (eA E v1)), (4, .ref (eA E v4)), (5, .ref (eA E v5)), (9, vI v9)] → mGoT l p e s m b below meth c H locs (F0 m 740 ls []) := by
  intro n
  induction n with
  | zero =>
    intro v9 σ H locs ls hm hM hl
    exact absurd hm (by rw [mL_law_L740.eq_1]; exact fun h => nomatch h)
  | succ n ih =>
    intro v9 σ H locs ls hm hM hl
    rw [mL_law_L740.eq_2] at hm
    refine r_iload (np := 742) G hl 3 rfl dL_law_740 rfl ?_
    refine r_iconst (np := 743) G 3 dL_law_742 rfl ?_
    refine r_icmp_ge (np := 746) (tgt := 773) G rfl (wIk 3 rfl) dL_law_743 (by decide) rfl (fun h9 => ?_) (fun h9 => ?_)
    · have hm := b_t h9 hm
      exact hx773 _ _ _ _ hm hM (lv_sub hl [0] rfl)
    · have hm := b_f h9 hm
      refine r_aload_n (np := 747) G hl 0 rfl dL_law_746 rfl rfl ?_
      refine r_iload (np := 749) G hl 3 rfl dL_law_747 rfl ?_
      refine r_aload (np := 751) G hl 1 rfl dL_law_749 rfl ?_
      refine r_iload (np := 753) G hl 3 rfl dL_law_751 rfl ?_
      obtain ⟨g10, hm⟩ := g_t hm
      refine r_iaload (np := 754) G hM g10 rfl dL_law_753 rfl ?_
      refine r_aload (np := 756) G hl 2 rfl dL_law_754 rfl ?_
      refine r_iload (np := 758) G hl 3 rfl dL_law_756 rfl ?_
      obtain ⟨g11, hm⟩ := g_t hm
      refine r_iaload (np := 759) G hM g11 rfl dL_law_758 rfl ?_
      obtain ⟨b12, s13, e14, hm⟩ := call_t hm
      refine m_callSI (np := 762) G hM hl.1 [.ref (eA E v1), vI v9, vI (σ v4 (wI v9).toNat), vI (σ v5 (wI v9).toNat)] (qL_isSolved l E σ v1 v9 (σ v4 (wI v9).toNat) (σ v5 (wI v9).toNat) _ e14) myL_isSolved lkL_113 ⟨Nat.le_of_ble_eq_true rfl, Nat.le_of_ble_eq_true rfl⟩ ⟨Nat.le_of_ble_eq_true rfl, Nat.le_of_ble_eq_true rfl⟩ [] rfl (Nat.le_of_ble_eq_true rfl) dL_law_759 rfl (fun H locs hM => ?_)
      refine r_if_ne (np := 765) (tgt := 767) G rfl dL_law_762 (by decide) rfl (fun h15 => ?_) (fun h15 => ?_)
      · have hm := b_f h15 hm
        obtain ⟨a16, e17, hm⟩ := bnd_t hm
        refine r_iinc (np := 770) G hl 3 rfl e17 [(9, vI a16), (1, .ref (eA E v1)), (4, .ref (eA E v4)), (5, .ref (eA E v5))] dL_law_767 rfl (by decide) rfl (fun ls hl => ?_)
        refine r_goto (np := 740) G dL_law_770 (by decide) ?_
        exact ih a16 _ _ _ _ hm hM (lv_sub hl [1, 2, 3, 0] rfl)
      · have hm := b_t h15 hm
        refine r_iconst (np := 766) G 0 dL_law_765 rfl ?_
        cases hm
        exact absurd (show (0 : Int) = 1 from hout) (by decide)
set_option maxRecDepth 100000 in
set_option maxHeartbeats 4000000 in
theorem wL_law_B726 (l : Launch) (E : mE) (out : Int × mSt) (hout : out.1 = 1) {p : Program} {e : Env} {s : State} {m : MethodId} {below : List Frame} {meth : Method} {c : Code} {b : Nat} (G : CallFix p m c code 12 s #[Value.ref b] mTs RL) (hr : meth.sig.returnType = ret) (hk : meth.locks = false) : ∀ (v1 : Nat) (v4 : Nat) (v5 : Nat) (v8 : Int) (σ : mSt) (H : Heap) (locs : List Loc) (ls : Array Slot), mL_law_B726 v1 v4 v5 v8 σ = some out → mM (fun q => s.heap.size ≤ q) E 257 σ s H locs → lv_has ls 12 [(1, .ref (eA E v1)), (4, .ref (eA E v4)), (5, .ref (eA E v5)), (8, vI v8)] → mGoT l p e s m b below meth c H locs (F0 m 726 ls []) := by
  intro v1 v4 v5 v8 σ H locs ls hm hM hl
  unfold mL_law_B726 at hm
  refine r_aload_n (np := 727) G hl 0 rfl dL_law_726 rfl rfl ?_
  obtain ⟨b18, s19, e20, hm⟩ := call_t hm
  refine m_callVI (np := 730) G hM hl.1 [] (qX11_classes l E σ v1 _ e20) myX11_classes (shp_lt (gX11_classes e20) (by decide)) (gX11_classes e20) rfl (by decide) lkL_92 ⟨Nat.le_of_ble_eq_true rfl, Nat.le_of_ble_eq_true rfl⟩ ⟨Nat.le_of_ble_eq_true rfl, Nat.le_of_ble_eq_true rfl⟩ [] rfl (Nat.le_of_ble_eq_true rfl) dL_law_727 rfl (fun H locs hM => ?_)
  refine r_iload (np := 732) G hl 3 rfl dL_law_730 rfl ?_
  refine r_icmp_eq (np := 735) (tgt := 737) G rfl rfl dL_law_732 (by decide) rfl (fun h21 => ?_) (fun h21 => ?_)
  · have hm := b_t h21 hm
    refine r_iconst (np := 738) G 0 dL_law_737 rfl ?_
    refine r_istore (np := 740) G hl rfl [(9, vI 0), (1, .ref (eA E v1)), (4, .ref (eA E v4)), (5, .ref (eA E v5)), (8, vI v8)] dL_law_738 rfl (by decide) rfl (fun ls hl => ?_)
    exact wL_law_L740 l E out hout G hr hk v1 v4 v5 (fun zσ => mL_law_B773 v1 zσ) (fun zσ zH zl zs zm zM zv => wL_law_B773 l E out hout G hr hk v1 zσ zH zl zs zm zM zv) mF 0 _ _ _ _ hm hM (lv_sub hl [1, 2, 3, 0] rfl)
  · have hm := b_f h21 hm
    refine r_iconst (np := 736) G 0 dL_law_735 rfl ?_
    cases hm
    exact absurd (show (0 : Int) = 1 from hout) (by decide)
set_option maxRecDepth 100000 in
set_option maxHeartbeats 4000000 in
theorem wL_law_B705 (l : Launch) (E : mE) (out : Int × mSt) (hout : out.1 = 1) {p : Program} {e : Env} {s : State} {m : MethodId} {below : List Frame} {meth : Method} {c : Code} {b : Nat} (G : CallFix p m c code 12 s #[Value.ref b] mTs RL) (hr : meth.sig.returnType = ret) (hk : meth.locks = false) (v1 : Nat) (v4 : Nat) (v5 : Nat) (c635 : Int → Int → mSt → Option (Int × mSt)) (x726 : Int → mSt → Option (Int × mSt)) (hc635 : ∀ (v8 : Int) (v9 : Int) (σ : mSt) (H : Heap) (locs : List Loc) (ls : Array Slot), c635 v8 v9 σ = some out → mM (fun q => s.heap.size ≤ q) E 257 σ s H locs → lv_has ls 12 [(1, .ref (eA E v1)), (4, .ref (eA E v4)), (5, .ref (eA E v5)), (8, vI v8), (9, vI v9)] → mGoT l p e s m b below meth c H locs (F0 m 635 ls [])) (hx726 : ∀ (v8 : Int) (σ : mSt) (H : Heap) (locs : List Loc) (ls : Array Slot), x726 v8 σ = some out → mM (fun q => s.heap.size ≤ q) E 257 σ s H locs → lv_has ls 12 [(1, .ref (eA E v1)), (4, .ref (eA E v4)), (5, .ref (eA E v5)), (8, vI v8)] → mGoT l p e s m b below meth c H locs (F0 m 726 ls [])) : ∀ (v8 : Int) (v9 : Int) (v10 : Int) (σ : mSt) (H : Heap) (locs : List Loc) (ls : Array Slot), mL_law_B705 v1 v4 v5 c635 x726 v8 v9 v10 σ = some out → mM (fun q => s.heap.size ≤ q) E 257 σ s H locs → lv_has ls 12 [(1, .ref (eA E v1)), (4, .ref (eA E v4)), (5, .ref (eA E v5)), (8, vI v8), (9, vI v9), (10, vI v10)] → mGoT l p e s m b below meth c H locs (F0 m 705 ls []) := by
  intro v8 v9 v10 σ H locs ls hm hM hl
  unfold mL_law_B705 at hm
  refine r_iload (np := 707) G hl 3 rfl dL_law_705 rfl ?_
  refine r_iload (np := 709) G hl 5 rfl dL_law_707 rfl ?_
  refine r_if_eq (np := 712) (tgt := 716) G rfl dL_law_709 (by decide) rfl (fun h22 => ?_) (fun h22 => ?_)
  · have hm := b_t h22 hm
    refine r_iconst (np := 717) G 0 dL_law_716 rfl ?_
    refine r_iadd (np := 718) G dL_law_717 rfl ?_
    obtain ⟨a23, e24, hm⟩ := bnd_t hm
    refine r_istore (np := 720) G hl e24 [(8, vI a23), (1, .ref (eA E v1)), (4, .ref (eA E v4)), (5, .ref (eA E v5)), (9, vI v9), (10, vI v10)] dL_law_718 rfl (by decide) rfl (fun ls hl => ?_)
    obtain ⟨a25, e26, hm⟩ := bnd_t hm
    refine r_iinc (np := 723) G hl 4 rfl e26 [(9, vI a25), (8, vI a23), (1, .ref (eA E v1)), (4, .ref (eA E v4)), (5, .ref (eA E v5)), (10, vI v10)] dL_law_720 rfl (by decide) rfl (fun ls hl => ?_)
    refine r_goto (np := 635) G dL_law_723 (by decide) ?_
    exact hc635 a23 a25 _ _ _ _ hm hM (lv_sub hl [2, 3, 4, 1, 0] rfl)
  · have hm := b_f h22 hm
    refine r_iconst (np := 713) G 1 dL_law_712 rfl ?_
    refine r_goto (np := 717) G dL_law_713 (by decide) ?_
    refine r_iadd (np := 718) G dL_law_717 rfl ?_
    obtain ⟨a27, e28, hm⟩ := bnd_t hm
    refine r_istore (np := 720) G hl e28 [(8, vI a27), (1, .ref (eA E v1)), (4, .ref (eA E v4)), (5, .ref (eA E v5)), (9, vI v9), (10, vI v10)] dL_law_718 rfl (by decide) rfl (fun ls hl => ?_)
    obtain ⟨a29, e30, hm⟩ := bnd_t hm
    refine r_iinc (np := 723) G hl 4 rfl e30 [(9, vI a29), (8, vI a27), (1, .ref (eA E v1)), (4, .ref (eA E v4)), (5, .ref (eA E v5)), (10, vI v10)] dL_law_720 rfl (by decide) rfl (fun ls hl => ?_)
    refine r_goto (np := 635) G dL_law_723 (by decide) ?_
    exact hc635 a27 a29 _ _ _ _ hm hM (lv_sub hl [2, 3, 4, 1, 0] rfl)
set_option maxRecDepth 100000 in
set_option maxHeartbeats 4000000 in
theorem wL_law_B696 (l : Launch) (E : mE) (out : Int × mSt) (hout : out.1 = 1) {p : Program} {e : Env} {s : State} {m : MethodId} {below : List Frame} {meth : Method} {c : Code} {b : Nat} (G : CallFix p m c code 12 s #[Value.ref b] mTs RL) (hr : meth.sig.returnType = ret) (hk : meth.locks = false) (v1 : Nat) (v4 : Nat) (v5 : Nat) (v8 : Int) (v9 : Int) (c648 : Int → Int → mSt → Option (Int × mSt)) (x705 : Int → mSt → Option (Int × mSt)) (hc648 : ∀ (v10 : Int) (v11 : Int) (σ : mSt) (H : Heap) (locs : List Loc) (ls : Array Slot), c648 v10 v11 σ = some out → mM (fun q => s.heap.size ≤ q) E 257 σ s H locs → lv_has ls 12 [(1, .ref (eA E v1)), (4, .ref (eA E v4)), (5, .ref (eA E v5)), (8, vI v8), (9, vI v9), (10, vI v10), (11, vI v11)] → mGoT l p e s m b below meth c H locs (F0 m 648 ls [])) (hx705 : ∀ (v10 : Int) (σ : mSt) (H : Heap) (locs : List Loc) (ls : Array Slot), x705 v10 σ = some out → mM (fun q => s.heap.size ≤ q) E 257 σ s H locs → lv_has ls 12 [(1, .ref (eA E v1)), (4, .ref (eA E v4)), (5, .ref (eA E v5)), (8, vI v8), (9, vI v9), (10, vI v10)] → mGoT l p e s m b below meth c H locs (F0 m 705 ls [])) : ∀ (v11 : Int) (σ : mSt) (H : Heap) (locs : List Loc) (ls : Array Slot), mL_law_B696 v1 v4 v5 v8 v9 c648 x705 v11 σ = some out → mM (fun q => s.heap.size ≤ q) E 257 σ s H locs → lv_has ls 12 [(1, .ref (eA E v1)), (4, .ref (eA E v4)), (5, .ref (eA E v5)), (8, vI v8), (9, vI v9), (11, vI v11)] → mGoT l p e s m b below meth c H locs (F0 m 696 ls []) := by
  intro v11 σ H locs ls hm hM hl
  unfold mL_law_B696 at hm
  refine r_iconst (np := 697) G 0 dL_law_696 rfl ?_
  refine r_istore (np := 699) G hl rfl [(10, vI 0), (1, .ref (eA E v1)), (4, .ref (eA E v4)), (5, .ref (eA E v5)), (8, vI v8), (9, vI v9), (11, vI v11)] dL_law_697 rfl (by decide) rfl (fun ls hl => ?_)
  obtain ⟨a31, e32, hm⟩ := bnd_t hm
  refine r_iinc (np := 702) G hl 6 rfl e32 [(11, vI a31), (10, vI 0), (1, .ref (eA E v1)), (4, .ref (eA E v4)), (5, .ref (eA E v5)), (8, vI v8), (9, vI v9)] dL_law_699 rfl (by decide) rfl (fun ls hl => ?_)
  refine r_goto (np := 648) G dL_law_702 (by decide) ?_
  exact hc648 0 a31 _ _ _ _ hm hM (lv_sub hl [2, 3, 4, 5, 6, 1, 0] rfl)
set_option maxRecDepth 100000 in
set_option maxHeartbeats 4000000 in
theorem wL_law_L648 (l : Launch) (E : mE) (out : Int × mSt) (hout : out.1 = 1) {p : Program} {e : Env} {s : State} {m : MethodId} {below : List Frame} {meth : Method} {c : Code} {b : Nat} (G : CallFix p m c code 12 s #[Value.ref b] mTs RL) (hr : meth.sig.returnType = ret) (hk : meth.locks = false) (v1 : Nat) (v4 : Nat) (v5 : Nat) (v8 : Int) (v9 : Int) (x705 : Int → mSt → Option (Int × mSt)) (hx705 : ∀ (v10 : Int) (σ : mSt) (H : Heap) (locs : List Loc) (ls : Array Slot), x705 v10 σ = some out → mM (fun q => s.heap.size ≤ q) E 257 σ s H locs → lv_has ls 12 [(1, .ref (eA E v1)), (4, .ref (eA E v4)), (5, .ref (eA E v5)), (8, vI v8), (9, vI v9), (10, vI v10)] → mGoT l p e s m b below meth c H locs (F0 m 705 ls [])) : ∀ (n : Nat) (v10 : Int) (v11 : Int) (σ : mSt) (H : Heap) (locs : List Loc) (ls : Array Slot), mL_law_L648 v1 v4 v5 v8 v9 x705 n v10 v11 σ = some out → mM (fun q => s.heap.size ≤ q) E 257 σ s H locs → lv_has ls 12 [(1, .ref (eA E v1)), (4, .ref (eA E v4)), (5, .ref (eA E v5)), (8, vI v8), (9, vI v9), (10, vI v10), (11, vI v11)] → mGoT l p e s m b below meth c H locs (F0 m 648 ls []) := by
  intro n
  induction n with
  | zero =>
    intro v10 v11 σ H locs ls hm hM hl
    exact absurd hm (by rw [mL_law_L648.eq_1]; exact fun h => nomatch h)
  | succ n ih =>
    intro v10 v11 σ H locs ls hm hM hl
    rw [mL_law_L648.eq_2] at hm
    refine r_iload (np := 650) G hl 6 rfl dL_law_648 rfl ?_
    refine r_iload (np := 652) G hl 4 rfl dL_law_650 rfl ?_
    refine r_icmp_ge (np := 655) (tgt := 705) G rfl rfl dL_law_652 (by decide) rfl (fun h33 => ?_) (fun h33 => ?_)
    · have hm := b_t h33 hm
      exact hx705 v10 _ _ _ _ hm hM (lv_sub hl [0, 1, 2, 3, 4, 5] rfl)
    · have hm := b_f h33 hm
      refine r_aload_n (np := 656) G hl 0 rfl dL_law_655 rfl rfl ?_
      refine r_iload (np := 658) G hl 4 rfl dL_law_656 rfl ?_
      refine r_iload (np := 660) G hl 6 rfl dL_law_658 rfl ?_
      obtain ⟨b34, s35, e36, hm⟩ := call_t hm
      refine m_callVI (np := 663) G hM hl.1 [vI v9, vI v11] (qX11_alike l E σ v1 v9 v11 _ e36) myX11_alike (shp_lt (gX11_alike e36) (by decide)) (gX11_alike e36) rfl (by decide) lkL_110 ⟨Nat.le_of_ble_eq_true rfl, Nat.le_of_ble_eq_true rfl⟩ ⟨Nat.le_of_ble_eq_true rfl, Nat.le_of_ble_eq_true rfl⟩ [] rfl (Nat.le_of_ble_eq_true rfl) dL_law_660 rfl (fun H locs hM => ?_)
      refine r_aload_n (np := 664) G hl 0 rfl dL_law_663 rfl rfl ?_
      refine r_iload (np := 666) G hl 6 rfl dL_law_664 rfl ?_
      refine r_iload (np := 668) G hl 4 rfl dL_law_666 rfl ?_
      obtain ⟨b37, s38, e39, hm⟩ := call_t hm
      refine m_callVI (np := 671) G hM hl.1 [vI v11, vI v9] (qX11_alike l E s35 v1 v11 v9 _ e39) myX11_alike (shp_lt (gX11_alike e39) (by decide)) (gX11_alike e39) rfl (by decide) lkL_110 ⟨Nat.le_of_ble_eq_true rfl, Nat.le_of_ble_eq_true rfl⟩ ⟨Nat.le_of_ble_eq_true rfl, Nat.le_of_ble_eq_true rfl⟩ [vI b34] rfl (Nat.le_of_ble_eq_true rfl) dL_law_668 rfl (fun H locs hM => ?_)
      refine r_icmp_eq (np := 674) (tgt := 676) G rfl rfl dL_law_671 (by decide) rfl (fun h40 => ?_) (fun h40 => ?_)
      · have hm := b_t h40 hm
        refine r_iload (np := 678) G hl 5 rfl dL_law_676 rfl ?_
        refine r_if_eq (np := 681) (tgt := 696) G rfl dL_law_678 (by decide) rfl (fun h41 => ?_) (fun h41 => ?_)
        · have hm := b_t h41 hm
          exact wL_law_B696 l E out hout G hr hk v1 v4 v5 v8 v9 (mL_law_L648 v1 v4 v5 v8 v9 x705 n) x705 ih hx705 v11 _ _ _ _ hm hM (lv_sub hl [0, 1, 2, 3, 4, 6] rfl)
        · have hm := b_f h41 hm
          refine r_aload_n (np := 682) G hl 0 rfl dL_law_681 rfl rfl ?_
          refine r_iload (np := 684) G hl 4 rfl dL_law_682 rfl ?_
          refine r_iload (np := 686) G hl 6 rfl dL_law_684 rfl ?_
          obtain ⟨b42, s43, e44, hm⟩ := call_t hm
          refine m_callVI (np := 689) G hM hl.1 [vI v9, vI v11] (qX11_alike l E s38 v1 v9 v11 _ e44) myX11_alike (shp_lt (gX11_alike e44) (by decide)) (gX11_alike e44) rfl (by decide) lkL_110 ⟨Nat.le_of_ble_eq_true rfl, Nat.le_of_ble_eq_true rfl⟩ ⟨Nat.le_of_ble_eq_true rfl, Nat.le_of_ble_eq_true rfl⟩ [] rfl (Nat.le_of_ble_eq_true rfl) dL_law_686 rfl (fun H locs hM => ?_)
          refine r_if_ne (np := 692) (tgt := 696) G rfl dL_law_689 (by decide) rfl (fun h45 => ?_) (fun h45 => ?_)
          · have hm := b_f h45 hm
            exact wL_law_B696 l E out hout G hr hk v1 v4 v5 v8 v9 (mL_law_L648 v1 v4 v5 v8 v9 x705 n) x705 ih hx705 v11 _ _ _ _ hm hM (lv_sub hl [0, 1, 2, 3, 4, 6] rfl)
          · have hm := b_t h45 hm
            refine r_iconst (np := 693) G 1 dL_law_692 rfl ?_
            refine r_goto (np := 697) G dL_law_693 (by decide) ?_
            refine r_istore (np := 699) G hl rfl [(10, vI 1), (1, .ref (eA E v1)), (4, .ref (eA E v4)), (5, .ref (eA E v5)), (8, vI v8), (9, vI v9), (11, vI v11)] dL_law_697 rfl (by decide) rfl (fun ls hl => ?_)
            obtain ⟨a46, e47, hm⟩ := bnd_t hm
            refine r_iinc (np := 702) G hl 6 rfl e47 [(11, vI a46), (10, vI 1), (1, .ref (eA E v1)), (4, .ref (eA E v4)), (5, .ref (eA E v5)), (8, vI v8), (9, vI v9)] dL_law_699 rfl (by decide) rfl (fun ls hl => ?_)
            refine r_goto (np := 648) G dL_law_702 (by decide) ?_
            exact ih 1 a46 _ _ _ _ hm hM (lv_sub hl [2, 3, 4, 5, 6, 1, 0] rfl)
      · have hm := b_f h40 hm
        refine r_iconst (np := 675) G 0 dL_law_674 rfl ?_
        cases hm
        exact absurd (show (0 : Int) = 1 from hout) (by decide)
set_option maxRecDepth 100000 in
set_option maxHeartbeats 4000000 in
theorem wL_law_L635 (l : Launch) (E : mE) (out : Int × mSt) (hout : out.1 = 1) {p : Program} {e : Env} {s : State} {m : MethodId} {below : List Frame} {meth : Method} {c : Code} {b : Nat} (G : CallFix p m c code 12 s #[Value.ref b] mTs RL) (hr : meth.sig.returnType = ret) (hk : meth.locks = false) (v1 : Nat) (v4 : Nat) (v5 : Nat) (x726 : Int → mSt → Option (Int × mSt)) (hx726 : ∀ (v8 : Int) (σ : mSt) (H : Heap) (locs : List Loc) (ls : Array Slot), x726 v8 σ = some out → mM (fun q => s.heap.size ≤ q) E 257 σ s H locs → lv_has ls 12 [(1, .ref (eA E v1)), (4, .ref (eA E v4)), (5, .ref (eA E v5)), (8, vI v8)] → mGoT l p e s m b below meth c H locs (F0 m 726 ls [])) : ∀ (n : Nat) (v8 : Int) (v9 : Int) (σ : mSt) (H : Heap) (locs : List Loc) (ls : Array Slot), mL_law_L635 v1 v4 v5 x726 n v8 v9 σ = some out → mM (fun q => s.heap.size ≤ q) E 257 σ s H locs → lv_has ls 12 [(1, .ref (eA E v1)), (4, .ref (eA E v4)), (5, .ref (eA E v5)), (8, vI v8), (9, vI v9)] → mGoT l p e s m b below meth c H locs (F0 m 635 ls []) := by
  intro n
  induction n with
  | zero =>
    intro v8 v9 σ H locs ls hm hM hl
    exact absurd hm (by rw [mL_law_L635.eq_1]; exact fun h => nomatch h)
  | succ n ih =>
    intro v8 v9 σ H locs ls hm hM hl
    rw [mL_law_L635.eq_2] at hm
    refine r_iload (np := 637) G hl 4 rfl dL_law_635 rfl ?_
    refine r_bipush (np := 639) G 6 dL_law_637 (by decide) rfl ?_
    refine r_icmp_ge (np := 642) (tgt := 726) G rfl (wIk 6 rfl) dL_law_639 (by decide) rfl (fun h48 => ?_) (fun h48 => ?_)
    · have hm := b_t h48 hm
      exact hx726 v8 _ _ _ _ hm hM (lv_sub hl [0, 1, 2, 3] rfl)
    · have hm := b_f h48 hm
      refine r_iconst (np := 643) G 1 dL_law_642 rfl ?_
      refine r_istore (np := 645) G hl rfl [(10, vI 1), (1, .ref (eA E v1)), (4, .ref (eA E v4)), (5, .ref (eA E v5)), (8, vI v8), (9, vI v9)] dL_law_643 rfl (by decide) rfl (fun ls hl => ?_)
      refine r_iconst (np := 646) G 0 dL_law_645 rfl ?_
      refine r_istore (np := 648) G hl rfl [(11, vI 0), (10, vI 1), (1, .ref (eA E v1)), (4, .ref (eA E v4)), (5, .ref (eA E v5)), (8, vI v8), (9, vI v9)] dL_law_646 rfl (by decide) rfl (fun ls hl => ?_)
      exact wL_law_L648 l E out hout G hr hk v1 v4 v5 v8 v9 (fun z10 zσ => mL_law_B705 v1 v4 v5 (mL_law_L635 v1 v4 v5 x726 n) x726 v8 v9 z10 zσ) (fun z10 zσ zH zl zs zm zM zv => wL_law_B705 l E out hout G hr hk v1 v4 v5 (mL_law_L635 v1 v4 v5 x726 n) x726 ih hx726 v8 v9 z10 zσ zH zl zs zm zM zv) mF 1 0 _ _ _ _ hm hM (lv_sub hl [2, 3, 4, 5, 6, 1, 0] rfl)
set_option maxRecDepth 100000 in
set_option maxHeartbeats 4000000 in
theorem wL_law_B629 (l : Launch) (E : mE) (out : Int × mSt) (hout : out.1 = 1) {p : Program} {e : Env} {s : State} {m : MethodId} {below : List Frame} {meth : Method} {c : Code} {b : Nat} (G : CallFix p m c code 12 s #[Value.ref b] mTs RL) (hr : meth.sig.returnType = ret) (hk : meth.locks = false) : ∀ (v1 : Nat) (v4 : Nat) (v5 : Nat) (σ : mSt) (H : Heap) (locs : List Loc) (ls : Array Slot), mL_law_B629 v1 v4 v5 σ = some out → mM (fun q => s.heap.size ≤ q) E 257 σ s H locs → lv_has ls 12 [(1, .ref (eA E v1)), (4, .ref (eA E v4)), (5, .ref (eA E v5))] → mGoT l p e s m b below meth c H locs (F0 m 629 ls []) := by
  intro v1 v4 v5 σ H locs ls hm hM hl
  unfold mL_law_B629 at hm
  refine r_iconst (np := 630) G 0 dL_law_629 rfl ?_
  refine r_istore (np := 632) G hl rfl [(8, vI 0), (1, .ref (eA E v1)), (4, .ref (eA E v4)), (5, .ref (eA E v5))] dL_law_630 rfl (by decide) rfl (fun ls hl => ?_)
  refine r_iconst (np := 633) G 0 dL_law_632 rfl ?_
  refine r_istore (np := 635) G hl rfl [(9, vI 0), (8, vI 0), (1, .ref (eA E v1)), (4, .ref (eA E v4)), (5, .ref (eA E v5))] dL_law_633 rfl (by decide) rfl (fun ls hl => ?_)
  exact wL_law_L635 l E out hout G hr hk v1 v4 v5 (fun z8 zσ => mL_law_B726 v1 v4 v5 z8 zσ) (fun z8 zσ zH zl zs zm zM zv => wL_law_B726 l E out hout G hr hk v1 v4 v5 z8 zσ zH zl zs zm zM zv) mF 0 0 _ _ _ _ hm hM (lv_sub hl [2, 3, 4, 1, 0] rfl)
set_option maxRecDepth 100000 in
set_option maxHeartbeats 4000000 in
theorem wL_law_B600 (l : Launch) (E : mE) (out : Int × mSt) (hout : out.1 = 1) {p : Program} {e : Env} {s : State} {m : MethodId} {below : List Frame} {meth : Method} {c : Code} {b : Nat} (G : CallFix p m c code 12 s #[Value.ref b] mTs RL) (hr : meth.sig.returnType = ret) (hk : meth.locks = false) (v1 : Nat) (v4 : Nat) (v5 : Nat) (v7 : Nat) (c542 : Int → mSt → Option (Int × mSt)) (x629 : mSt → Option (Int × mSt)) (hc542 : ∀ (v8 : Int) (σ : mSt) (H : Heap) (locs : List Loc) (ls : Array Slot), c542 v8 σ = some out → mM (fun q => s.heap.size ≤ q) E 257 σ s H locs → lv_has ls 12 [(1, .ref (eA E v1)), (4, .ref (eA E v4)), (5, .ref (eA E v5)), (7, .ref (eA E v7)), (8, vI v8)] → mGoT l p e s m b below meth c H locs (F0 m 542 ls [])) (hx629 : ∀ (σ : mSt) (H : Heap) (locs : List Loc) (ls : Array Slot), x629 σ = some out → mM (fun q => s.heap.size ≤ q) E 257 σ s H locs → lv_has ls 12 [(1, .ref (eA E v1)), (4, .ref (eA E v4)), (5, .ref (eA E v5))] → mGoT l p e s m b below meth c H locs (F0 m 629 ls [])) : ∀ (v8 : Int) (v9 : Int) (σ : mSt) (H : Heap) (locs : List Loc) (ls : Array Slot), mL_law_B600 v1 v4 v5 v7 c542 x629 v8 v9 σ = some out → mM (fun q => s.heap.size ≤ q) E 257 σ s H locs → lv_has ls 12 [(1, .ref (eA E v1)), (4, .ref (eA E v4)), (5, .ref (eA E v5)), (7, .ref (eA E v7)), (8, vI v8), (9, vI v9)] → mGoT l p e s m b below meth c H locs (F0 m 600 ls []) := by
  intro v8 v9 σ H locs ls hm hM hl
  unfold mL_law_B600 at hm
  refine r_aload_n (np := 601) G hl 0 rfl dL_law_600 rfl rfl ?_
  refine r_iconst (np := 602) G 5 dL_law_601 rfl ?_
  refine r_iload (np := 604) G hl 4 rfl dL_law_602 rfl ?_
  obtain ⟨b49, s50, e51, hm⟩ := call_t hm
  refine m_callVI (np := 607) G hM hl.1 [vI 5, vI v8] (qX11_local l E σ v1 5 v8 _ e51) myX11_local (shp_lt (gX11_local e51) (by decide)) (gX11_local e51) rfl (by decide) lkL_102 ⟨Nat.le_of_ble_eq_true rfl, Nat.le_of_ble_eq_true rfl⟩ ⟨Nat.le_of_ble_eq_true rfl, Nat.le_of_ble_eq_true rfl⟩ [] rfl (Nat.le_of_ble_eq_true rfl) dL_law_604 rfl (fun H locs hM => ?_)
  refine r_iload (np := 609) G hl 5 rfl dL_law_607 rfl ?_
  refine r_bipush (np := 611) G 6 dL_law_609 (by decide) rfl ?_
  obtain ⟨g52, hm⟩ := g_t hm
  refine r_irem (np := 612) G g52 dL_law_611 rfl ?_
  refine r_bipush (np := 614) G 6 dL_law_612 (by decide) rfl ?_
  refine r_iadd (np := 615) G dL_law_614 rfl ?_
  refine r_bipush (np := 617) G 6 dL_law_615 (by decide) rfl ?_
  refine r_irem (np := 618) G g52 dL_law_617 rfl ?_
  refine r_icmp_eq (np := 621) (tgt := 623) G rfl rfl dL_law_618 (by decide) rfl (fun h53 => ?_) (fun h53 => ?_)
  · have hm := b_t h53 hm
    obtain ⟨a54, e55, hm⟩ := bnd_t hm
    refine r_iinc (np := 626) G hl 4 rfl e55 [(8, vI a54), (1, .ref (eA E v1)), (4, .ref (eA E v4)), (5, .ref (eA E v5)), (7, .ref (eA E v7)), (9, vI v9)] dL_law_623 rfl (by decide) rfl (fun ls hl => ?_)
    refine r_goto (np := 542) G dL_law_626 (by decide) ?_
    exact hc542 a54 _ _ _ _ hm hM (lv_sub hl [1, 2, 3, 4, 0] rfl)
  · have hm := b_f h53 hm
    refine r_iconst (np := 622) G 0 dL_law_621 rfl ?_
    cases hm
    exact absurd (show (0 : Int) = 1 from hout) (by decide)
set_option maxRecDepth 100000 in
set_option maxHeartbeats 4000000 in
theorem wL_law_L569 (l : Launch) (E : mE) (out : Int × mSt) (hout : out.1 = 1) {p : Program} {e : Env} {s : State} {m : MethodId} {below : List Frame} {meth : Method} {c : Code} {b : Nat} (G : CallFix p m c code 12 s #[Value.ref b] mTs RL) (hr : meth.sig.returnType = ret) (hk : meth.locks = false) (v1 : Nat) (v4 : Nat) (v5 : Nat) (v7 : Nat) (v8 : Int) (x600 : Int → mSt → Option (Int × mSt)) (hx600 : ∀ (v9 : Int) (σ : mSt) (H : Heap) (locs : List Loc) (ls : Array Slot), x600 v9 σ = some out → mM (fun q => s.heap.size ≤ q) E 257 σ s H locs → lv_has ls 12 [(1, .ref (eA E v1)), (4, .ref (eA E v4)), (5, .ref (eA E v5)), (7, .ref (eA E v7)), (8, vI v8), (9, vI v9)] → mGoT l p e s m b below meth c H locs (F0 m 600 ls [])) : ∀ (n : Nat) (v9 : Int) (v10 : Int) (σ : mSt) (H : Heap) (locs : List Loc) (ls : Array Slot), mL_law_L569 v1 v4 v5 v7 v8 x600 n v9 v10 σ = some out → mM (fun q => s.heap.size ≤ q) E 257 σ s H locs → lv_has ls 12 [(1, .ref (eA E v1)), (4, .ref (eA E v4)), (5, .ref (eA E v5)), (7, .ref (eA E v7)), (8, vI v8), (9, vI v9), (10, vI v10)] → mGoT l p e s m b below meth c H locs (F0 m 569 ls []) := by
  intro n
  induction n with
  | zero =>
    intro v9 v10 σ H locs ls hm hM hl
    exact absurd hm (by rw [mL_law_L569.eq_1]; exact fun h => nomatch h)
  | succ n ih =>
    intro v9 v10 σ H locs ls hm hM hl
    rw [mL_law_L569.eq_2] at hm
    refine r_iload (np := 571) G hl 6 rfl dL_law_569 rfl ?_
    refine r_iconst (np := 572) G 5 dL_law_571 rfl ?_
    refine r_icmp_ge (np := 575) (tgt := 600) G rfl (wIk 5 rfl) dL_law_572 (by decide) rfl (fun h56 => ?_) (fun h56 => ?_)
    · have hm := b_t h56 hm
      exact hx600 v9 _ _ _ _ hm hM (lv_sub hl [0, 1, 2, 3, 4, 5] rfl)
    · have hm := b_f h56 hm
      refine r_iload (np := 577) G hl 5 rfl dL_law_575 rfl ?_
      refine r_aload (np := 579) G hl 3 rfl dL_law_577 rfl ?_
      refine r_iload (np := 581) G hl 6 rfl dL_law_579 rfl ?_
      obtain ⟨g57, hm⟩ := g_t hm
      refine r_iaload (np := 582) G hM g57 rfl dL_law_581 rfl ?_
      refine r_aload_n (np := 583) G hl 0 rfl dL_law_582 rfl rfl ?_
      refine r_iload (np := 585) G hl 6 rfl dL_law_583 rfl ?_
      refine r_iload (np := 587) G hl 4 rfl dL_law_585 rfl ?_
      obtain ⟨b58, s59, e60, hm⟩ := call_t hm
      refine m_callVI (np := 590) G hM hl.1 [vI v10, vI v8] (qX11_local l E σ v1 v10 v8 _ e60) myX11_local (shp_lt (gX11_local e60) (by decide)) (gX11_local e60) rfl (by decide) lkL_102 ⟨Nat.le_of_ble_eq_true rfl, Nat.le_of_ble_eq_true rfl⟩ ⟨Nat.le_of_ble_eq_true rfl, Nat.le_of_ble_eq_true rfl⟩ [vI (σ v7 (wI v10).toNat), vI v9] rfl (Nat.le_of_ble_eq_true rfl) dL_law_587 rfl (fun H locs hM => ?_)
      refine r_imul (np := 591) G dL_law_590 rfl ?_
      refine r_iadd (np := 592) G dL_law_591 rfl ?_
      obtain ⟨a61, e62, hm⟩ := bnd_t hm
      refine r_istore (np := 594) G hl e62 [(9, vI a61), (1, .ref (eA E v1)), (4, .ref (eA E v4)), (5, .ref (eA E v5)), (7, .ref (eA E v7)), (8, vI v8), (10, vI v10)] dL_law_592 rfl (by decide) rfl (fun ls hl => ?_)
      obtain ⟨a63, e64, hm⟩ := bnd_t hm
      refine r_iinc (np := 597) G hl 6 rfl e64 [(10, vI a63), (9, vI a61), (1, .ref (eA E v1)), (4, .ref (eA E v4)), (5, .ref (eA E v5)), (7, .ref (eA E v7)), (8, vI v8)] dL_law_594 rfl (by decide) rfl (fun ls hl => ?_)
      refine r_goto (np := 569) G dL_law_597 (by decide) ?_
      exact ih a61 a63 _ _ _ _ hm hM (lv_sub hl [2, 3, 4, 5, 6, 1, 0] rfl)
set_option maxRecDepth 100000 in
set_option maxHeartbeats 4000000 in
theorem wL_law_L542 (l : Launch) (E : mE) (out : Int × mSt) (hout : out.1 = 1) {p : Program} {e : Env} {s : State} {m : MethodId} {below : List Frame} {meth : Method} {c : Code} {b : Nat} (G : CallFix p m c code 12 s #[Value.ref b] mTs RL) (hr : meth.sig.returnType = ret) (hk : meth.locks = false) (v1 : Nat) (v4 : Nat) (v5 : Nat) (v7 : Nat) (x629 : mSt → Option (Int × mSt)) (hx629 : ∀ (σ : mSt) (H : Heap) (locs : List Loc) (ls : Array Slot), x629 σ = some out → mM (fun q => s.heap.size ≤ q) E 257 σ s H locs → lv_has ls 12 [(1, .ref (eA E v1)), (4, .ref (eA E v4)), (5, .ref (eA E v5))] → mGoT l p e s m b below meth c H locs (F0 m 629 ls [])) : ∀ (n : Nat) (v8 : Int) (σ : mSt) (H : Heap) (locs : List Loc) (ls : Array Slot), mL_law_L542 v1 v4 v5 v7 x629 n v8 σ = some out → mM (fun q => s.heap.size ≤ q) E 257 σ s H locs → lv_has ls 12 [(1, .ref (eA E v1)), (4, .ref (eA E v4)), (5, .ref (eA E v5)), (7, .ref (eA E v7)), (8, vI v8)] → mGoT l p e s m b below meth c H locs (F0 m 542 ls []) := by
  intro n
  induction n with
  | zero =>
    intro v8 σ H locs ls hm hM hl
    exact absurd hm (by rw [mL_law_L542.eq_1]; exact fun h => nomatch h)
  | succ n ih =>
    intro v8 σ H locs ls hm hM hl
    rw [mL_law_L542.eq_2] at hm
    refine r_iload (np := 544) G hl 4 rfl dL_law_542 rfl ?_
    refine r_sipush (np := 547) G 1000 dL_law_544 (by decide) rfl ?_
    refine r_icmp_ge (np := 550) (tgt := 629) G rfl (wIk 1000 rfl) dL_law_547 (by decide) rfl (fun h65 => ?_) (fun h65 => ?_)
    · have hm := b_t h65 hm
      exact hx629 _ _ _ _ hm hM (lv_sub hl [0, 1, 2] rfl)
    · have hm := b_f h65 hm
      refine r_aload_n (np := 551) G hl 0 rfl dL_law_550 rfl rfl ?_
      refine r_iconst (np := 552) G 0 dL_law_551 rfl ?_
      refine r_iload (np := 554) G hl 4 rfl dL_law_552 rfl ?_
      obtain ⟨b66, s67, e68, hm⟩ := call_t hm
      refine m_callVI (np := 557) G hM hl.1 [vI 0, vI v8] (qX11_local l E σ v1 0 v8 _ e68) myX11_local (shp_lt (gX11_local e68) (by decide)) (gX11_local e68) rfl (by decide) lkL_102 ⟨Nat.le_of_ble_eq_true rfl, Nat.le_of_ble_eq_true rfl⟩ ⟨Nat.le_of_ble_eq_true rfl, Nat.le_of_ble_eq_true rfl⟩ [] rfl (Nat.le_of_ble_eq_true rfl) dL_law_554 rfl (fun H locs hM => ?_)
      refine r_if_ge (np := 560) (tgt := 563) G rfl dL_law_557 (by decide) rfl (fun h69 => ?_) (fun h69 => ?_)
      · have hm := b_t h69 hm
        refine r_iconst (np := 564) G 0 dL_law_563 rfl ?_
        refine r_istore (np := 566) G hl rfl [(9, vI 0), (1, .ref (eA E v1)), (4, .ref (eA E v4)), (5, .ref (eA E v5)), (7, .ref (eA E v7)), (8, vI v8)] dL_law_564 rfl (by decide) rfl (fun ls hl => ?_)
        refine r_iconst (np := 567) G 0 dL_law_566 rfl ?_
        refine r_istore (np := 569) G hl rfl [(10, vI 0), (9, vI 0), (1, .ref (eA E v1)), (4, .ref (eA E v4)), (5, .ref (eA E v5)), (7, .ref (eA E v7)), (8, vI v8)] dL_law_567 rfl (by decide) rfl (fun ls hl => ?_)
        exact wL_law_L569 l E out hout G hr hk v1 v4 v5 v7 v8 (fun z9 zσ => mL_law_B600 v1 v4 v5 v7 (mL_law_L542 v1 v4 v5 v7 x629 n) x629 v8 z9 zσ) (fun z9 zσ zH zl zs zm zM zv => wL_law_B600 l E out hout G hr hk v1 v4 v5 v7 (mL_law_L542 v1 v4 v5 v7 x629 n) x629 ih hx629 v8 z9 zσ zH zl zs zm zM zv) mF 0 0 _ _ _ _ hm hM (lv_sub hl [2, 3, 4, 5, 6, 1, 0] rfl)
      · have hm := b_f h69 hm
        refine r_goto (np := 623) G dL_law_560 (by decide) ?_
        obtain ⟨a70, e71, hm⟩ := bnd_t hm
        refine r_iinc (np := 626) G hl 4 rfl e71 [(8, vI a70), (1, .ref (eA E v1)), (4, .ref (eA E v4)), (5, .ref (eA E v5)), (7, .ref (eA E v7))] dL_law_623 rfl (by decide) rfl (fun ls hl => ?_)
        refine r_goto (np := 542) G dL_law_626 (by decide) ?_
        exact ih a70 _ _ _ _ hm hM (lv_sub hl [1, 2, 3, 4, 0] rfl)
set_option maxRecDepth 100000 in
set_option maxHeartbeats 4000000 in
theorem wL_law_B539 (l : Launch) (E : mE) (out : Int × mSt) (hout : out.1 = 1) {p : Program} {e : Env} {s : State} {m : MethodId} {below : List Frame} {meth : Method} {c : Code} {b : Nat} (G : CallFix p m c code 12 s #[Value.ref b] mTs RL) (hr : meth.sig.returnType = ret) (hk : meth.locks = false) : ∀ (v1 : Nat) (v4 : Nat) (v5 : Nat) (v7 : Nat) (σ : mSt) (H : Heap) (locs : List Loc) (ls : Array Slot), mL_law_B539 v1 v4 v5 v7 σ = some out → mM (fun q => s.heap.size ≤ q) E 257 σ s H locs → lv_has ls 12 [(1, .ref (eA E v1)), (4, .ref (eA E v4)), (5, .ref (eA E v5)), (7, .ref (eA E v7))] → mGoT l p e s m b below meth c H locs (F0 m 539 ls []) := by
  intro v1 v4 v5 v7 σ H locs ls hm hM hl
  unfold mL_law_B539 at hm
  refine r_iconst (np := 540) G 0 dL_law_539 rfl ?_
  refine r_istore (np := 542) G hl rfl [(8, vI 0), (1, .ref (eA E v1)), (4, .ref (eA E v4)), (5, .ref (eA E v5)), (7, .ref (eA E v7))] dL_law_540 rfl (by decide) rfl (fun ls hl => ?_)
  exact wL_law_L542 l E out hout G hr hk v1 v4 v5 v7 (fun zσ => mL_law_B629 v1 v4 v5 zσ) (fun zσ zH zl zs zm zM zv => wL_law_B629 l E out hout G hr hk v1 v4 v5 zσ zH zl zs zm zM zv) mF 0 _ _ _ _ hm hM (lv_sub hl [1, 2, 3, 4, 0] rfl)
set_option maxRecDepth 100000 in
set_option maxHeartbeats 4000000 in
theorem wL_law_L515 (l : Launch) (E : mE) (out : Int × mSt) (hout : out.1 = 1) {p : Program} {e : Env} {s : State} {m : MethodId} {below : List Frame} {meth : Method} {c : Code} {b : Nat} (G : CallFix p m c code 12 s #[Value.ref b] mTs RL) (hr : meth.sig.returnType = ret) (hk : meth.locks = false) (v1 : Nat) (v4 : Nat) (v5 : Nat) (v7 : Nat) (x539 : mSt → Option (Int × mSt)) (hx539 : ∀ (σ : mSt) (H : Heap) (locs : List Loc) (ls : Array Slot), x539 σ = some out → mM (fun q => s.heap.size ≤ q) E 257 σ s H locs → lv_has ls 12 [(1, .ref (eA E v1)), (4, .ref (eA E v4)), (5, .ref (eA E v5)), (7, .ref (eA E v7))] → mGoT l p e s m b below meth c H locs (F0 m 539 ls [])) : ∀ (n : Nat) (v8 : Int) (σ : mSt) (H : Heap) (locs : List Loc) (ls : Array Slot), mL_law_L515 v1 v4 v5 v7 x539 n v8 σ = some out → mM (fun q => s.heap.size ≤ q) E 257 σ s H locs → lv_has ls 12 [(1, .ref (eA E v1)), (4, .ref (eA E v4)), (5, .ref (eA E v5)), (7, .ref (eA E v7)), (8, vI v8)] → mGoT l p e s m b below meth c H locs (F0 m 515 ls []) := by
  intro n
  induction n with
  | zero =>
    intro v8 σ H locs ls hm hM hl
    exact absurd hm (by rw [mL_law_L515.eq_1]; exact fun h => nomatch h)
  | succ n ih =>
    intro v8 σ H locs ls hm hM hl
    rw [mL_law_L515.eq_2] at hm
    refine r_iload (np := 517) G hl 4 rfl dL_law_515 rfl ?_
    refine r_bipush (np := 519) G 6 dL_law_517 (by decide) rfl ?_
    refine r_icmp_ge (np := 522) (tgt := 539) G rfl (wIk 6 rfl) dL_law_519 (by decide) rfl (fun h72 => ?_) (fun h72 => ?_)
    · have hm := b_t h72 hm
      exact hx539 _ _ _ _ hm hM (lv_sub hl [0, 1, 2, 3] rfl)
    · have hm := b_f h72 hm
      refine r_aload_n (np := 523) G hl 0 rfl dL_law_522 rfl rfl ?_
      refine r_iload (np := 525) G hl 4 rfl dL_law_523 rfl ?_
      obtain ⟨b73, s74, e75, hm⟩ := call_t hm
      refine m_callSI (np := 528) G hM hl.1 [.ref (eA E v1), vI v8] (qL_isWhole l E σ v1 v8 _ e75) myL_isWhole lkL_106 ⟨Nat.le_of_ble_eq_true rfl, Nat.le_of_ble_eq_true rfl⟩ ⟨Nat.le_of_ble_eq_true rfl, Nat.le_of_ble_eq_true rfl⟩ [] rfl (Nat.le_of_ble_eq_true rfl) dL_law_525 rfl (fun H locs hM => ?_)
      refine r_if_ne (np := 531) (tgt := 533) G rfl dL_law_528 (by decide) rfl (fun h76 => ?_) (fun h76 => ?_)
      · have hm := b_f h76 hm
        obtain ⟨a77, e78, hm⟩ := bnd_t hm
        refine r_iinc (np := 536) G hl 4 rfl e78 [(8, vI a77), (1, .ref (eA E v1)), (4, .ref (eA E v4)), (5, .ref (eA E v5)), (7, .ref (eA E v7))] dL_law_533 rfl (by decide) rfl (fun ls hl => ?_)
        refine r_goto (np := 515) G dL_law_536 (by decide) ?_
        exact ih a77 _ _ _ _ hm hM (lv_sub hl [1, 2, 3, 4, 0] rfl)
      · have hm := b_t h76 hm
        refine r_iconst (np := 532) G 0 dL_law_531 rfl ?_
        cases hm
        exact absurd (show (0 : Int) = 1 from hout) (by decide)
set_option maxRecDepth 100000 in
set_option maxHeartbeats 4000000 in
theorem wTail (l : Launch) (E : mE) (out : Int × mSt) (hout : out.1 = 1) {p : Program} {e : Env} {s : State} {m : MethodId} {below : List Frame} {meth : Method} {c : Code} {b : Nat} (G : CallFix p m c code 12 s #[Value.ref b] mTs RL) (hr : meth.sig.returnType = ret) (hk : meth.locks = false) (v1 : Nat) (v4 : Nat) (v5 : Nat) (v7 : Nat) : ∀ (σ : mSt) (H : Heap) (locs : List Loc) (ls : Array Slot), mTail v1 v4 v5 v7 σ = some out → mM (fun q => s.heap.size ≤ q) E 257 σ s H locs → lv_has ls 12 [(1, .ref (eA E v1)), (4, .ref (eA E v4)), (5, .ref (eA E v5)), (7, .ref (eA E v7))] → mGoT l p e s m b below meth c H locs (F0 m 512 ls []) := by
  intro σ H locs ls hm hM hl
  unfold mTail at hm
  refine r_iconst (np := 513) G 0 dL_law_512 rfl ?_
  refine r_istore (np := 515) G hl rfl [(8, vI 0), (1, .ref (eA E v1)), (4, .ref (eA E v4)), (5, .ref (eA E v5)), (7, .ref (eA E v7))] dL_law_513 rfl (by decide) rfl (fun ls hl => ?_)
  exact wL_law_L515 l E out hout G hr hk v1 v4 v5 v7 (fun zσ => mL_law_B539 v1 v4 v5 v7 zσ) (fun zσ zH zl zs zm zM zv => wL_law_B539 l E out hout G hr hk v1 v4 v5 v7 zσ zH zl zs zm zM zv) mF 0 _ _ _ _ hm hM (lv_sub hl [1, 2, 3, 4, 0] rfl)
