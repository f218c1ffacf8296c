theorem gl_feed {xs : Nat → Int32} {L k : Nat} (hL : L ≤ 3584) (hk : 7 * k + 7 ≤ L) {c : Int → mSt → Option (Int × mSt)} {x : mSt → Option (Int × mSt)} {Q : Int → mSt → Prop} {σ : mSt} (h : Inv σ) (hc : ∀ s, Inv s → mR (c (7 * (k : Int) + 7) s) Q) : mR (mL_law_B184 xs L 0 253 275 c x (7 * (k : Int)) σ) Q := by
  unfold mL_law_B184
  have hx : ∀ j, i32 (xs j).toInt := fun j => ⟨Int32.le_toInt _, Int32.toInt_lt _⟩
  refine mR_G (by rw [wI_id (by omega)]; omega) ?_
  refine mR_G (by rw [wI_id (by omega)]; omega) ?_
  refine mR_G (by rw [wI_id (by omega)]; omega) ?_
  refine mR_G (by rw [wI_id (by omega)]; omega) ?_
  refine mR_G (by rw [wI_id (by omega)]; omega) ?_
  obtain ⟨b, s, b2, s2, e1, e2, e3, e4⟩ := pr_feed σ h ((xs (wI (7 * (k : Int) + 1)).toNat).toInt) (hx _) ((xs (wI (7 * (k : Int) + 2)).toNat).toInt) (hx _) ((xs (wI (7 * (k : Int) + 3)).toNat).toInt) (hx _) ((xs (wI (7 * (k : Int) + 4)).toNat).toInt) (hx _) ((xs (wI (7 * (k : Int) + 5)).toNat).toInt) (hx _)
  exact mR_callE e1 (mR_callE e2 (mR_pos e3 (mR_bnd (hc s2 e4))))
theorem gl_text {xs : Nat → Int32} {L k : Nat} (hL : L ≤ 3584) (hk : 7 * k + 7 ≤ L) {c : Int → mSt → Option (Int × mSt)} {x : mSt → Option (Int × mSt)} {Q : Int → mSt → Prop} {σ : mSt} (h : Inv σ) (hc : ∀ s, Inv s → mR (c (7 * (k : Int) + 7) s) Q) : mR (mL_law_B257 xs L 0 253 275 c x (7 * (k : Int)) σ) Q := by
  unfold mL_law_B257
  have hx : ∀ j, i32 (xs j).toInt := fun j => ⟨Int32.le_toInt _, Int32.toInt_lt _⟩
  refine mR_G (by rw [wI_id (by omega)]; omega) ?_
  obtain ⟨b, s, b2, s2, e1, e2, e3, e4⟩ := pr_text σ h ((xs (wI (7 * (k : Int) + 1)).toNat).toInt) (hx _)
  exact mR_callE e1 (mR_callE e2 (mR_pos e3 (mR_bnd (hc s2 e4))))
theorem gl_algebra {xs : Nat → Int32} {L k : Nat} (hL : L ≤ 3584) (hk : 7 * k + 7 ≤ L) {c : Int → mSt → Option (Int × mSt)} {x : mSt → Option (Int × mSt)} {Q : Int → mSt → Prop} {σ : mSt} (h : Inv σ) (hc : ∀ s, Inv s → mR (c (7 * (k : Int) + 7) s) Q) : mR (mL_law_B282 xs L 0 253 275 c x (7 * (k : Int)) σ) Q := by
  unfold mL_law_B282
  have hx : ∀ j, i32 (xs j).toInt := fun j => ⟨Int32.le_toInt _, Int32.toInt_lt _⟩
  refine mR_G (by rw [wI_id (by omega)]; omega) ?_
  refine mR_G (by rw [wI_id (by omega)]; omega) ?_
  obtain ⟨b, s, e1, e4, hb⟩ := pr_algebra σ h ((xs (wI (7 * (k : Int) + 1)).toNat).toInt) (hx _) ((xs (wI (7 * (k : Int) + 2)).toNat).toInt) (hx _)
  rcases hb with ⟨rfl, b2, s2, e5, e6, e7⟩ | ⟨hb, hn⟩
  · refine mR_callE (b := 1) (s := s) ?_ ?_
    · unfold mL_algebra
      rw [mG_pos (by decide), e1, mCall_some, if_pos rfl]
    · refine mR_callE e5 (mR_callE (thrown_e s2) (mR_pos (by rw [e6]) (mR_neg (by decide) (mR_bnd (hc s2 e7)))))
  · obtain ⟨b2, s2, e5, e6, e7, e8, e9⟩ := hn (upS s 275 0 (wI b)) (e4.scr (frm.one (by exact ⟨fixR_data (by decide) _, Or.inl (by unfold sObj; omega)⟩))) (frm.one rfl)
    refine mR_callE (b := 0) (s := upS s 275 0 (wI b)) ?_ ?_
    · unfold mL_algebra
      rw [mG_pos (by decide), e1, mCall_some, if_neg hb, mG_pos (ixOK_of (n := 1) (by decide) (by omega) (by omega) (by omega))]
      rfl
    · refine mR_callE e5 (mR_callE (thrown_e s2) (mR_pos (by rw [e6]) (mR_pos (by decide) (mR_G (ixOK_of (n := 1) (by decide) (by omega) (by omega) (by omega)) (mR_pos ?_ (mR_bnd (hc s2 e9)))))))
      rw [e7, upS_same, e8]
theorem gl_local {xs : Nat → Int32} {L k : Nat} (hL : L ≤ 3584) (hk : 7 * k + 7 ≤ L) {c : Int → mSt → Option (Int × mSt)} {x : mSt → Option (Int × mSt)} {Q : Int → mSt → Prop} {σ : mSt} (h : Inv σ) (hc : ∀ s, Inv s → mR (c (7 * (k : Int) + 7) s) Q) : mR (mL_law_B350 xs L 0 253 275 c x (7 * (k : Int)) σ) Q := by
  unfold mL_law_B350
  have hx : ∀ j, i32 (xs j).toInt := fun j => ⟨Int32.le_toInt _, Int32.toInt_lt _⟩
  refine mR_G (by rw [wI_id (by omega)]; omega) ?_
  refine mR_G (by rw [wI_id (by omega)]; omega) ?_
  obtain ⟨b, s, b2, s2, e1, e2, e3, e4⟩ := pr_local σ h ((xs (wI (7 * (k : Int) + 1)).toNat).toInt) (hx _) ((xs (wI (7 * (k : Int) + 2)).toNat).toInt) (hx _)
  exact mR_callE e1 (mR_callE e2 (mR_pos e3 (mR_bnd (hc s2 e4))))
theorem gl_place {xs : Nat → Int32} {L k : Nat} (hL : L ≤ 3584) (hk : 7 * k + 7 ≤ L) {c : Int → mSt → Option (Int × mSt)} {x : mSt → Option (Int × mSt)} {Q : Int → mSt → Prop} {σ : mSt} (h : Inv σ) (hc : ∀ s, Inv s → mR (c (7 * (k : Int) + 7) s) Q) : mR (mL_law_B387 xs L 0 253 275 c x (7 * (k : Int)) σ) Q := by
  unfold mL_law_B387
  have hx : ∀ j, i32 (xs j).toInt := fun j => ⟨Int32.le_toInt _, Int32.toInt_lt _⟩
  refine mR_G (by rw [wI_id (by omega)]; omega) ?_
  refine mR_G (by rw [wI_id (by omega)]; omega) ?_
  obtain ⟨b, s, b2, s2, e1, e2, e3, e4⟩ := pr_place σ h ((xs (wI (7 * (k : Int) + 1)).toNat).toInt) (hx _) ((xs (wI (7 * (k : Int) + 2)).toNat).toInt) (hx _)
  exact mR_callE e1 (mR_callE e2 (mR_pos e3 (mR_bnd (hc s2 e4))))
theorem gl_index {xs : Nat → Int32} {L k : Nat} (hL : L ≤ 3584) (hk : 7 * k + 7 ≤ L) {c : Int → mSt → Option (Int × mSt)} {x : mSt → Option (Int × mSt)} {Q : Int → mSt → Prop} {σ : mSt} (h : Inv σ) (hc : ∀ s, Inv s → mR (c (7 * (k : Int) + 7) s) Q) : mR (mL_law_B424 xs L 0 253 275 c x (7 * (k : Int)) σ) Q := by
  unfold mL_law_B424
  have hx : ∀ j, i32 (xs j).toInt := fun j => ⟨Int32.le_toInt _, Int32.toInt_lt _⟩
  refine mR_G (by rw [wI_id (by omega)]; omega) ?_
  obtain ⟨b, s, b2, s2, e1, e2, e3, e4⟩ := pr_index σ h ((xs (wI (7 * (k : Int) + 1)).toNat).toInt) (hx _)
  exact mR_callE e1 (mR_callE e2 (mR_pos e3 (mR_bnd (hc s2 e4))))
theorem gl_alike {xs : Nat → Int32} {L k : Nat} (hL : L ≤ 3584) (hk : 7 * k + 7 ≤ L) {c : Int → mSt → Option (Int × mSt)} {x : mSt → Option (Int × mSt)} {Q : Int → mSt → Prop} {σ : mSt} (h : Inv σ) (hc : ∀ s, Inv s → mR (c (7 * (k : Int) + 7) s) Q) : mR (mL_law_B449 xs L 0 253 275 c x (7 * (k : Int)) σ) Q := by
  unfold mL_law_B449
  have hx : ∀ j, i32 (xs j).toInt := fun j => ⟨Int32.le_toInt _, Int32.toInt_lt _⟩
  refine mR_G (by rw [wI_id (by omega)]; omega) ?_
  refine mR_G (by rw [wI_id (by omega)]; omega) ?_
  obtain ⟨b, s, b2, s2, e1, e2, e3, e4⟩ := pr_alike σ h ((xs (wI (7 * (k : Int) + 1)).toNat).toInt) (hx _) ((xs (wI (7 * (k : Int) + 2)).toNat).toInt) (hx _)
  exact mR_callE e1 (mR_callE e2 (mR_pos e3 (mR_bnd (hc s2 e4))))
theorem gl_classes {xs : Nat → Int32} {L k : Nat} (hL : L ≤ 3584) (hk : 7 * k + 7 ≤ L) {c : Int → mSt → Option (Int × mSt)} {x : mSt → Option (Int × mSt)} {Q : Int → mSt → Prop} {σ : mSt} (h : Inv σ) (hc : ∀ s, Inv s → mR (c (7 * (k : Int) + 7) s) Q) : mR (mL_law_B486 xs L 0 253 275 c x (7 * (k : Int)) σ) Q := by
  unfold mL_law_B486
  have hx : ∀ j, i32 (xs j).toInt := fun j => ⟨Int32.le_toInt _, Int32.toInt_lt _⟩
  obtain ⟨b, s, b2, s2, e1, e2, e3, e4⟩ := pr_classes σ h 
  exact mR_callE e1 (mR_callE e2 (mR_pos e3 (mR_bnd (hc s2 e4))))
theorem gl_tell {xs : Nat → Int32} {L k : Nat} (hL : L ≤ 3584) (hk : 7 * k + 7 ≤ L) {c : Int → mSt → Option (Int × mSt)} {x : mSt → Option (Int × mSt)} {Q : Int → mSt → Prop} {σ : mSt} (h : Inv σ) (hc : ∀ s, Inv s → mR (c (7 * (k : Int) + 7) s) Q) : mR (mL_law_B499 xs L 0 253 275 c x (7 * (k : Int)) σ) Q := by
  unfold mL_law_B499
  have hx : ∀ j, i32 (xs j).toInt := fun j => ⟨Int32.le_toInt _, Int32.toInt_lt _⟩
  refine mR_G (by rw [wI_id (by omega)]; omega) ?_
  refine mR_G (by rw [wI_id (by omega)]; omega) ?_
  refine mR_G (by rw [wI_id (by omega)]; omega) ?_
  refine mR_G (by rw [wI_id (by omega)]; omega) ?_
  refine mR_G (by rw [wI_id (by omega)]; omega) ?_
  refine mR_G (by rw [wI_id (by omega)]; omega) ?_
  obtain ⟨b, s, b2, s2, e1, e2, e3, e4⟩ := pr_tell σ h ((xs (wI (7 * (k : Int) + 1)).toNat).toInt) (hx _) ((xs (wI (7 * (k : Int) + 2)).toNat).toInt) (hx _) ((xs (wI (7 * (k : Int) + 3)).toNat).toInt) (hx _) ((xs (wI (7 * (k : Int) + 4)).toNat).toInt) (hx _) ((xs (wI (7 * (k : Int) + 5)).toNat).toInt) (hx _) ((xs (wI (7 * (k : Int) + 6)).toNat).toInt) (hx _)
  exact mR_callE e1 (mR_callE e2 (mR_pos e3 (mR_bnd (hc s2 e4))))
theorem gl_over {xs : Nat → Int32} {L k : Nat} (hL : L ≤ 3584) (hk : 7 * k + 7 ≤ L) {c : Int → mSt → Option (Int × mSt)} {x : mSt → Option (Int × mSt)} {Q : Int → mSt → Prop} {σ : mSt} (h : Inv σ) (hc : ∀ s, Inv s → mR (c (7 * (k : Int) + 7) s) Q) : mR (mL_law_B586 xs L 0 253 275 c x (7 * (k : Int)) σ) Q := by
  unfold mL_law_B586
  have hx : ∀ j, i32 (xs j).toInt := fun j => ⟨Int32.le_toInt _, Int32.toInt_lt _⟩
  refine mR_G (by rw [wI_id (by omega)]; omega) ?_
  refine mR_G (by rw [wI_id (by omega)]; omega) ?_
  obtain ⟨b, s, b2, s2, e1, e2, e3, e4⟩ := pr_over σ h ((xs (wI (7 * (k : Int) + 1)).toNat).toInt) (hx _) ((xs (wI (7 * (k : Int) + 2)).toNat).toInt) (hx _)
  exact mR_callE e1 (mR_callE e2 (mR_pos e3 (mR_bnd (hc s2 e4))))
theorem gl_element {xs : Nat → Int32} {L k : Nat} (hL : L ≤ 3584) (hk : 7 * k + 7 ≤ L) {c : Int → mSt → Option (Int × mSt)} {x : mSt → Option (Int × mSt)} {Q : Int → mSt → Prop} {σ : mSt} (h : Inv σ) (hc : ∀ s, Inv s → mR (c (7 * (k : Int) + 7) s) Q) : mR (mL_law_B623 xs L 0 253 275 c x (7 * (k : Int)) σ) Q := by
  unfold mL_law_B623
  have hx : ∀ j, i32 (xs j).toInt := fun j => ⟨Int32.le_toInt _, Int32.toInt_lt _⟩
  refine mR_G (by rw [wI_id (by omega)]; omega) ?_
  refine mR_G (by rw [wI_id (by omega)]; omega) ?_
  obtain ⟨b, s, e1, e4, hb⟩ := pr_element σ h ((xs (wI (7 * (k : Int) + 1)).toNat).toInt) (hx _) ((xs (wI (7 * (k : Int) + 2)).toNat).toInt) (hx _)
  rcases hb with ⟨rfl, b2, s2, e5, e6, e7⟩ | ⟨hb, hn⟩
  · refine mR_callE (b := 1) (s := s) ?_ ?_
    · unfold mL_element
      rw [mG_pos (by decide), e1, mCall_some, if_pos rfl]
    · refine mR_callE e5 (mR_callE (thrown_e s2) (mR_pos (by rw [e6]) (mR_neg (by decide) (mR_bnd (hc s2 e7)))))
  · obtain ⟨b2, s2, e5, e6, e7, e8, e9⟩ := hn (upS s 275 0 (wI b)) (e4.scr (frm.one (by exact ⟨fixR_data (by decide) _, Or.inl (by unfold sObj; omega)⟩))) (frm.one rfl)
    refine mR_callE (b := 0) (s := upS s 275 0 (wI b)) ?_ ?_
    · unfold mL_element
      rw [mG_pos (by decide), e1, mCall_some, if_neg hb, mG_pos (ixOK_of (n := 1) (by decide) (by omega) (by omega) (by omega))]
      rfl
    · refine mR_callE e5 (mR_callE (thrown_e s2) (mR_pos (by rw [e6]) (mR_pos (by decide) (mR_G (ixOK_of (n := 1) (by decide) (by omega) (by omega) (by omega)) (mR_pos ?_ (mR_bnd (hc s2 e9)))))))
      rw [e7, upS_same, e8]
theorem gl_times {xs : Nat → Int32} {L k : Nat} (hL : L ≤ 3584) (hk : 7 * k + 7 ≤ L) {c : Int → mSt → Option (Int × mSt)} {x : mSt → Option (Int × mSt)} {Q : Int → mSt → Prop} {σ : mSt} (h : Inv σ) (hc : ∀ s, Inv s → mR (c (7 * (k : Int) + 7) s) Q) : mR (mL_law_B691 xs L 0 253 275 c x (7 * (k : Int)) σ) Q := by
  unfold mL_law_B691
  have hx : ∀ j, i32 (xs j).toInt := fun j => ⟨Int32.le_toInt _, Int32.toInt_lt _⟩
  refine mR_G (by rw [wI_id (by omega)]; omega) ?_
  refine mR_G (by rw [wI_id (by omega)]; omega) ?_
  refine mR_G (by rw [wI_id (by omega)]; omega) ?_
  obtain ⟨b, s, b2, s2, e1, e2, e3, e4⟩ := pr_times σ h ((xs (wI (7 * (k : Int) + 1)).toNat).toInt) (hx _) ((xs (wI (7 * (k : Int) + 2)).toNat).toInt) (hx _) ((xs (wI (7 * (k : Int) + 3)).toNat).toInt) (hx _)
  exact mR_callE e1 (mR_callE e2 (mR_pos e3 (mR_bnd (hc s2 e4))))
theorem gl_plus {xs : Nat → Int32} {L k : Nat} (hL : L ≤ 3584) (hk : 7 * k + 7 ≤ L) {c : Int → mSt → Option (Int × mSt)} {x : mSt → Option (Int × mSt)} {Q : Int → mSt → Prop} {σ : mSt} (h : Inv σ) (hc : ∀ s, Inv s → mR (c (7 * (k : Int) + 7) s) Q) : mR (mL_law_B740 xs L 0 253 275 c x (7 * (k : Int)) σ) Q := by
  unfold mL_law_B740
  have hx : ∀ j, i32 (xs j).toInt := fun j => ⟨Int32.le_toInt _, Int32.toInt_lt _⟩
  refine mR_G (by rw [wI_id (by omega)]; omega) ?_
  refine mR_G (by rw [wI_id (by omega)]; omega) ?_
  refine mR_G (by rw [wI_id (by omega)]; omega) ?_
  refine mR_G (by rw [wI_id (by omega)]; omega) ?_
  obtain ⟨b, s, b2, s2, e1, e2, e3, e4⟩ := pr_plus σ h ((xs (wI (7 * (k : Int) + 1)).toNat).toInt) (hx _) ((xs (wI (7 * (k : Int) + 2)).toNat).toInt) (hx _) ((xs (wI (7 * (k : Int) + 3)).toNat).toInt) (hx _) ((xs (wI (7 * (k : Int) + 4)).toNat).toInt) (hx _)
  exact mR_callE e1 (mR_callE e2 (mR_pos e3 (mR_bnd (hc s2 e4))))
theorem gl_mirror {xs : Nat → Int32} {L k : Nat} (hL : L ≤ 3584) (hk : 7 * k + 7 ≤ L) {c : Int → mSt → Option (Int × mSt)} {x : mSt → Option (Int × mSt)} {Q : Int → mSt → Prop} {σ : mSt} (h : Inv σ) (hc : ∀ s, Inv s → mR (c (7 * (k : Int) + 7) s) Q) : mR (mL_law_B801 xs L 0 253 275 c x (7 * (k : Int)) σ) Q := by
  unfold mL_law_B801
  have hx : ∀ j, i32 (xs j).toInt := fun j => ⟨Int32.le_toInt _, Int32.toInt_lt _⟩
  refine mR_G (by rw [wI_id (by omega)]; omega) ?_
  refine mR_G (by rw [wI_id (by omega)]; omega) ?_
  obtain ⟨b, s, b2, s2, e1, e2, e3, e4⟩ := pr_mirror σ h ((xs (wI (7 * (k : Int) + 1)).toNat).toInt) (hx _) ((xs (wI (7 * (k : Int) + 2)).toNat).toInt) (hx _)
  exact mR_callE e1 (mR_callE e2 (mR_pos e3 (mR_bnd (hc s2 e4))))
theorem gl_inverse {xs : Nat → Int32} {L k : Nat} (hL : L ≤ 3584) (hk : 7 * k + 7 ≤ L) {c : Int → mSt → Option (Int × mSt)} {x : mSt → Option (Int × mSt)} {Q : Int → mSt → Prop} {σ : mSt} (h : Inv σ) (hc : ∀ s, Inv s → mR (c (7 * (k : Int) + 7) s) Q) : mR (mL_law_B838 xs L 0 253 275 c x (7 * (k : Int)) σ) Q := by
  unfold mL_law_B838
  have hx : ∀ j, i32 (xs j).toInt := fun j => ⟨Int32.le_toInt _, Int32.toInt_lt _⟩
  refine mR_G (by rw [wI_id (by omega)]; omega) ?_
  refine mR_G (by rw [wI_id (by omega)]; omega) ?_
  obtain ⟨b, s, b2, s2, e1, e2, e3, e4⟩ := pr_inverse σ h ((xs (wI (7 * (k : Int) + 1)).toNat).toInt) (hx _) ((xs (wI (7 * (k : Int) + 2)).toNat).toInt) (hx _)
  exact mR_callE e1 (mR_callE e2 (mR_pos e3 (mR_bnd (hc s2 e4))))
theorem gl_norm {xs : Nat → Int32} {L k : Nat} (hL : L ≤ 3584) (hk : 7 * k + 7 ≤ L) {c : Int → mSt → Option (Int × mSt)} {x : mSt → Option (Int × mSt)} {Q : Int → mSt → Prop} {σ : mSt} (h : Inv σ) (hc : ∀ s, Inv s → mR (c (7 * (k : Int) + 7) s) Q) : mR (mL_law_B875 xs L 0 253 275 c x (7 * (k : Int)) σ) Q := by
  unfold mL_law_B875
  have hx : ∀ j, i32 (xs j).toInt := fun j => ⟨Int32.le_toInt _, Int32.toInt_lt _⟩
  refine mR_G (by rw [wI_id (by omega)]; omega) ?_
  refine mR_G (by rw [wI_id (by omega)]; omega) ?_
  obtain ⟨b, s, e1, e4, hb⟩ := pr_norm σ h ((xs (wI (7 * (k : Int) + 1)).toNat).toInt) (hx _) ((xs (wI (7 * (k : Int) + 2)).toNat).toInt) (hx _)
  rcases hb with ⟨rfl, b2, s2, e5, e6, e7⟩ | ⟨hb, hn⟩
  · refine mR_callE (b := 1) (s := s) ?_ ?_
    · unfold mL_norm
      rw [mG_pos (by decide), e1, mCall_some, if_pos rfl]
    · refine mR_callE e5 (mR_callE (thrown_e s2) (mR_pos (by rw [e6]) (mR_neg (by decide) (mR_bnd (hc s2 e7)))))
  · obtain ⟨b2, s2, e5, e6, e7, e8, e9⟩ := hn (upS s 275 0 (b)) (e4.scr (frm.one (by exact ⟨fixR_data (by decide) _, Or.inl (by unfold sObj; omega)⟩))) (frm.one rfl)
    refine mR_callE (b := 0) (s := upS s 275 0 (b)) ?_ ?_
    · unfold mL_norm
      rw [mG_pos (by decide), e1, mCall_some, if_neg hb, mG_pos (ixOK_of (n := 1) (by decide) (by omega) (by omega) (by omega))]
      rfl
    · refine mR_callE e5 (mR_callE (thrown_e s2) (mR_pos (by rw [e6]) (mR_pos (by decide) (mR_G (ixOK_of (n := 1) (by decide) (by omega) (by omega) (by omega)) (mR_pos ?_ (mR_bnd (hc s2 e9)))))))
      rw [e7, upS_same, e8]
theorem gl_trace {xs : Nat → Int32} {L k : Nat} (hL : L ≤ 3584) (hk : 7 * k + 7 ≤ L) {c : Int → mSt → Option (Int × mSt)} {x : mSt → Option (Int × mSt)} {Q : Int → mSt → Prop} {σ : mSt} (h : Inv σ) (hc : ∀ s, Inv s → mR (c (7 * (k : Int) + 7) s) Q) : mR (mL_law_B942 xs L 0 253 275 c x (7 * (k : Int)) σ) Q := by
  unfold mL_law_B942
  have hx : ∀ j, i32 (xs j).toInt := fun j => ⟨Int32.le_toInt _, Int32.toInt_lt _⟩
  refine mR_G (by rw [wI_id (by omega)]; omega) ?_
  refine mR_G (by rw [wI_id (by omega)]; omega) ?_
  obtain ⟨b, s, e1, e4, hb⟩ := pr_trace σ h ((xs (wI (7 * (k : Int) + 1)).toNat).toInt) (hx _) ((xs (wI (7 * (k : Int) + 2)).toNat).toInt) (hx _)
  rcases hb with ⟨rfl, b2, s2, e5, e6, e7⟩ | ⟨hb, hn⟩
  · refine mR_callE (b := 1) (s := s) ?_ ?_
    · unfold mL_trace
      rw [mG_pos (by decide), e1, mCall_some, if_pos rfl]
    · refine mR_callE e5 (mR_callE (thrown_e s2) (mR_pos (by rw [e6]) (mR_neg (by decide) (mR_bnd (hc s2 e7)))))
  · obtain ⟨b2, s2, e5, e6, e7, e8, e9⟩ := hn (upS s 275 0 (b)) (e4.scr (frm.one (by exact ⟨fixR_data (by decide) _, Or.inl (by unfold sObj; omega)⟩))) (frm.one rfl)
    refine mR_callE (b := 0) (s := upS s 275 0 (b)) ?_ ?_
    · unfold mL_trace
      rw [mG_pos (by decide), e1, mCall_some, if_neg hb, mG_pos (ixOK_of (n := 1) (by decide) (by omega) (by omega) (by omega))]
      rfl
    · refine mR_callE e5 (mR_callE (thrown_e s2) (mR_pos (by rw [e6]) (mR_pos (by decide) (mR_G (ixOK_of (n := 1) (by decide) (by omega) (by omega) (by omega)) (mR_pos ?_ (mR_bnd (hc s2 e9)))))))
      rw [e7, upS_same, e8]
theorem gl_solution {xs : Nat → Int32} {L k : Nat} (hL : L ≤ 3584) (hk : 7 * k + 7 ≤ L) {c : Int → mSt → Option (Int × mSt)} {x : mSt → Option (Int × mSt)} {Q : Int → mSt → Prop} {σ : mSt} (h : Inv σ) (hc : ∀ s, Inv s → mR (c (7 * (k : Int) + 7) s) Q) : mR (mL_law_B1009 xs L 0 253 275 c x (7 * (k : Int)) σ) Q := by
  unfold mL_law_B1009
  have hx : ∀ j, i32 (xs j).toInt := fun j => ⟨Int32.le_toInt _, Int32.toInt_lt _⟩
  refine mR_G (by rw [wI_id (by omega)]; omega) ?_
  refine mR_G (by rw [wI_id (by omega)]; omega) ?_
  obtain ⟨b, s, b2, s2, e1, e2, e3, e4⟩ := pr_solution σ h ((xs (wI (7 * (k : Int) + 1)).toNat).toInt) (hx _) ((xs (wI (7 * (k : Int) + 2)).toNat).toInt) (hx _)
  exact mR_callE e1 (mR_callE e2 (mR_pos e3 (mR_bnd (hc s2 e4))))
theorem gl_matrix {xs : Nat → Int32} {L k : Nat} (hL : L ≤ 3584) (hk : 7 * k + 7 ≤ L) {c : Int → mSt → Option (Int × mSt)} {x : mSt → Option (Int × mSt)} {Q : Int → mSt → Prop} {σ : mSt} (h : Inv σ) (hc : ∀ s, Inv s → mR (c (7 * (k : Int) + 7) s) Q) : mR (mL_law_B1046 xs L 0 253 275 c x (7 * (k : Int)) σ) Q := by
  unfold mL_law_B1046
  have hx : ∀ j, i32 (xs j).toInt := fun j => ⟨Int32.le_toInt _, Int32.toInt_lt _⟩
  refine mR_G (by rw [wI_id (by omega)]; omega) ?_
  refine mR_G (by rw [wI_id (by omega)]; omega) ?_
  refine mR_G (by rw [wI_id (by omega)]; omega) ?_
  refine mR_G (by rw [wI_id (by omega)]; omega) ?_
  obtain ⟨b, s, e1, e4, hb⟩ := pr_matrix σ h ((xs (wI (7 * (k : Int) + 1)).toNat).toInt) (hx _) ((xs (wI (7 * (k : Int) + 2)).toNat).toInt) (hx _) ((xs (wI (7 * (k : Int) + 3)).toNat).toInt) (hx _) ((xs (wI (7 * (k : Int) + 4)).toNat).toInt) (hx _)
  rcases hb with ⟨rfl, b2, s2, e5, e6, e7⟩ | ⟨hb, hn⟩
  · refine mR_callE (b := 1) (s := s) ?_ ?_
    · unfold mL_matrix
      rw [mG_pos (by decide), e1, mCall_some, if_pos rfl]
    · refine mR_callE e5 (mR_callE (thrown_e s2) (mR_pos (by rw [e6]) (mR_neg (by decide) (mR_bnd (hc s2 e7)))))
  · obtain ⟨b2, s2, e5, e6, e7, e8, e9⟩ := hn (upS s 275 0 (b)) (e4.scr (frm.one (by exact ⟨fixR_data (by decide) _, Or.inl (by unfold sObj; omega)⟩))) (frm.one rfl)
    refine mR_callE (b := 0) (s := upS s 275 0 (b)) ?_ ?_
    · unfold mL_matrix
      rw [mG_pos (by decide), e1, mCall_some, if_neg hb, mG_pos (ixOK_of (n := 1) (by decide) (by omega) (by omega) (by omega))]
      rfl
    · refine mR_callE e5 (mR_callE (thrown_e s2) (mR_pos (by rw [e6]) (mR_pos (by decide) (mR_G (ixOK_of (n := 1) (by decide) (by omega) (by omega) (by omega)) (mR_pos ?_ (mR_bnd (hc s2 e9)))))))
      rw [e7, upS_same, e8]
theorem gl_disc {xs : Nat → Int32} {L k : Nat} (hL : L ≤ 3584) (hk : 7 * k + 7 ≤ L) {c : Int → mSt → Option (Int × mSt)} {x : mSt → Option (Int × mSt)} {Q : Int → mSt → Prop} {σ : mSt} (h : Inv σ) (hc : ∀ s, Inv s → mR (c (7 * (k : Int) + 7) s) Q) : mR (mL_law_B1137 xs L 0 253 275 c x (7 * (k : Int)) σ) Q := by
  unfold mL_law_B1137
  have hx : ∀ j, i32 (xs j).toInt := fun j => ⟨Int32.le_toInt _, Int32.toInt_lt _⟩
  refine mR_G (by rw [wI_id (by omega)]; omega) ?_
  obtain ⟨b, s, b2, s2, e1, e2, e3, e4⟩ := pr_disc σ h ((xs (wI (7 * (k : Int) + 1)).toNat).toInt) (hx _)
  exact mR_callE e1 (mR_callE e2 (mR_pos e3 (mR_bnd (hc s2 e4))))
theorem gl_due {xs : Nat → Int32} {L k : Nat} (hL : L ≤ 3584) (hk : 7 * k + 7 ≤ L) {c : Int → mSt → Option (Int × mSt)} {x : mSt → Option (Int × mSt)} {Q : Int → mSt → Prop} {σ : mSt} (h : Inv σ) (hc : ∀ s, Inv s → mR (c (7 * (k : Int) + 7) s) Q) : mR (mL_law_B1162 xs L 0 253 275 c x (7 * (k : Int)) σ) Q := by
  unfold mL_law_B1162
  have hx : ∀ j, i32 (xs j).toInt := fun j => ⟨Int32.le_toInt _, Int32.toInt_lt _⟩
  refine mR_G (by rw [wI_id (by omega)]; omega) ?_
  obtain ⟨b, s, b2, s2, e1, e2, e3, e4⟩ := pr_due σ h ((xs (wI (7 * (k : Int) + 1)).toNat).toInt) (hx _)
  exact mR_callE e1 (mR_callE e2 (mR_pos e3 (mR_bnd (hc s2 e4))))
theorem gl_row {xs : Nat → Int32} {L k : Nat} (hL : L ≤ 3584) (hk : 7 * k + 7 ≤ L) {c : Int → mSt → Option (Int × mSt)} {x : mSt → Option (Int × mSt)} {Q : Int → mSt → Prop} {σ : mSt} (h : Inv σ) (hc : ∀ s, Inv s → mR (c (7 * (k : Int) + 7) s) Q) : mR (mL_law_B1187 xs L 0 253 275 c x (7 * (k : Int)) σ) Q := by
  unfold mL_law_B1187
  have hx : ∀ j, i32 (xs j).toInt := fun j => ⟨Int32.le_toInt _, Int32.toInt_lt _⟩
  refine mR_G (by rw [wI_id (by omega)]; omega) ?_
  refine mR_G (by rw [wI_id (by omega)]; omega) ?_
  refine mR_G (by rw [wI_id (by omega)]; omega) ?_
  obtain ⟨b, s, e1, e4, hb⟩ := pr_row σ h ((xs (wI (7 * (k : Int) + 1)).toNat).toInt) (hx _) ((xs (wI (7 * (k : Int) + 2)).toNat).toInt) (hx _) ((xs (wI (7 * (k : Int) + 3)).toNat).toInt) (hx _)
  rcases hb with ⟨rfl, b2, s2, e5, e6, e7⟩ | ⟨hb, hn⟩
  · refine mR_callE (b := 1) (s := s) ?_ ?_
    · unfold mL_row
      rw [mG_pos (by decide), e1, mCall_some, if_pos rfl]
    · refine mR_callE e5 (mR_callE (thrown_e s2) (mR_pos (by rw [e6]) (mR_neg (by decide) (mR_bnd (hc s2 e7)))))
  · obtain ⟨b2, s2, e5, e6, e7, e8, e9⟩ := hn (upS s 275 0 (wI b)) (e4.scr (frm.one (by exact ⟨fixR_data (by decide) _, Or.inl (by unfold sObj; omega)⟩))) (frm.one rfl)
    refine mR_callE (b := 0) (s := upS s 275 0 (wI b)) ?_ ?_
    · unfold mL_row
      rw [mG_pos (by decide), e1, mCall_some, if_neg hb, mG_pos (ixOK_of (n := 1) (by decide) (by omega) (by omega) (by omega))]
      rfl
    · refine mR_callE e5 (mR_callE (thrown_e s2) (mR_pos (by rw [e6]) (mR_pos (by decide) (mR_G (ixOK_of (n := 1) (by decide) (by omega) (by omega) (by omega)) (mR_pos ?_ (mR_bnd (hc s2 e9)))))))
      rw [e7, upS_same, e8]
theorem gl_enlarge {xs : Nat → Int32} {L k : Nat} (hL : L ≤ 3584) (hk : 7 * k + 7 ≤ L) {c : Int → mSt → Option (Int × mSt)} {x : mSt → Option (Int × mSt)} {Q : Int → mSt → Prop} {σ : mSt} (h : Inv σ) (hc : ∀ s, Inv s → mR (c (7 * (k : Int) + 7) s) Q) : mR (mL_law_B1267 xs L 0 253 275 c x (7 * (k : Int)) σ) Q := by
  unfold mL_law_B1267
  have hx : ∀ j, i32 (xs j).toInt := fun j => ⟨Int32.le_toInt _, Int32.toInt_lt _⟩
  refine mR_G (by rw [wI_id (by omega)]; omega) ?_
  refine mR_G (by rw [wI_id (by omega)]; omega) ?_
  obtain ⟨b, s, b2, s2, e1, e2, e3, e4⟩ := pr_enlarge σ h ((xs (wI (7 * (k : Int) + 1)).toNat).toInt) (hx _) ((xs (wI (7 * (k : Int) + 2)).toNat).toInt) (hx _)
  exact mR_callE e1 (mR_callE e2 (mR_pos e3 (mR_bnd (hc s2 e4))))
theorem gl_greatest {xs : Nat → Int32} {L k : Nat} (hL : L ≤ 3584) (hk : 7 * k + 7 ≤ L) {c : Int → mSt → Option (Int × mSt)} {x : mSt → Option (Int × mSt)} {Q : Int → mSt → Prop} {σ : mSt} (h : Inv σ) (hc : ∀ s, Inv s → mR (c (7 * (k : Int) + 7) s) Q) : mR (mL_law_B1304 xs L 0 253 275 c x (7 * (k : Int)) σ) Q := by
  unfold mL_law_B1304
  have hx : ∀ j, i32 (xs j).toInt := fun j => ⟨Int32.le_toInt _, Int32.toInt_lt _⟩
  refine mR_G (by rw [wI_id (by omega)]; omega) ?_
  obtain ⟨b, s, b2, s2, e1, e2, e3, e4⟩ := pr_greatest σ h ((xs (wI (7 * (k : Int) + 1)).toNat).toInt) (hx _)
  exact mR_callE e1 (mR_callE e2 (mR_pos e3 (mR_bnd (hc s2 e4))))
theorem gl_plain {xs : Nat → Int32} {L k : Nat} (hL : L ≤ 3584) (hk : 7 * k + 7 ≤ L) {c : Int → mSt → Option (Int × mSt)} {x : mSt → Option (Int × mSt)} {Q : Int → mSt → Prop} {σ : mSt} (h : Inv σ) (hc : ∀ s, Inv s → mR (c (7 * (k : Int) + 7) s) Q) : mR (mL_law_B1329 xs L 0 253 275 c x (7 * (k : Int)) σ) Q := by
  unfold mL_law_B1329
  have hx : ∀ j, i32 (xs j).toInt := fun j => ⟨Int32.le_toInt _, Int32.toInt_lt _⟩
  refine mR_G (by rw [wI_id (by omega)]; omega) ?_
  obtain ⟨b, s, b2, s2, e1, e2, e3, e4⟩ := pr_plain σ h ((xs (wI (7 * (k : Int) + 1)).toNat).toInt) (hx _)
  exact mR_callE e1 (mR_callE e2 (mR_pos e3 (mR_bnd (hc s2 e4))))
theorem gl_table {xs : Nat → Int32} {L k : Nat} (hL : L ≤ 3584) (hk : 7 * k + 7 ≤ L) {c : Int → mSt → Option (Int × mSt)} {x : mSt → Option (Int × mSt)} {Q : Int → mSt → Prop} {σ : mSt} (h : Inv σ) (hc : ∀ s, Inv s → mR (c (7 * (k : Int) + 7) s) Q) : mR (mL_law_B1354 xs L 0 253 275 c x (7 * (k : Int)) σ) Q := by
  unfold mL_law_B1354
  have hx : ∀ j, i32 (xs j).toInt := fun j => ⟨Int32.le_toInt _, Int32.toInt_lt _⟩
  refine mR_G (by rw [wI_id (by omega)]; omega) ?_
  refine mR_G (by rw [wI_id (by omega)]; omega) ?_
  refine mR_G (by rw [wI_id (by omega)]; omega) ?_
  refine mR_G (by rw [wI_id (by omega)]; omega) ?_
  obtain ⟨b, s, e1, e4, hb⟩ := pr_table σ h ((xs (wI (7 * (k : Int) + 1)).toNat).toInt) (hx _) ((xs (wI (7 * (k : Int) + 2)).toNat).toInt) (hx _) ((xs (wI (7 * (k : Int) + 3)).toNat).toInt) (hx _) ((xs (wI (7 * (k : Int) + 4)).toNat).toInt) (hx _)
  rcases hb with ⟨rfl, b2, s2, e5, e6, e7⟩ | ⟨hb, hn⟩
  · refine mR_callE (b := 1) (s := s) ?_ ?_
    · unfold mL_table
      rw [mG_pos (by decide), e1, mCall_some, if_pos rfl]
    · refine mR_callE e5 (mR_callE (thrown_e s2) (mR_pos (by rw [e6]) (mR_neg (by decide) (mR_bnd (hc s2 e7)))))
  · obtain ⟨b2, s2, e5, e6, e7, e8, e9⟩ := hn (upS s 275 0 (wI b)) (e4.scr (frm.one (by exact ⟨fixR_data (by decide) _, Or.inl (by unfold sObj; omega)⟩))) (frm.one rfl)
    refine mR_callE (b := 0) (s := upS s 275 0 (wI b)) ?_ ?_
    · unfold mL_table
      rw [mG_pos (by decide), e1, mCall_some, if_neg hb, mG_pos (ixOK_of (n := 1) (by decide) (by omega) (by omega) (by omega))]
      rfl
    · refine mR_callE e5 (mR_callE (thrown_e s2) (mR_pos (by rw [e6]) (mR_pos (by decide) (mR_G (ixOK_of (n := 1) (by decide) (by omega) (by omega) (by omega)) (mR_pos ?_ (mR_bnd (hc s2 e9)))))))
      rw [e7, upS_same, e8]
theorem gl_isIn {xs : Nat → Int32} {L k : Nat} (hL : L ≤ 3584) (hk : 7 * k + 7 ≤ L) {c : Int → mSt → Option (Int × mSt)} {x : mSt → Option (Int × mSt)} {Q : Int → mSt → Prop} {σ : mSt} (h : Inv σ) (hc : ∀ s, Inv s → mR (c (7 * (k : Int) + 7) s) Q) : mR (mL_law_B1446 xs L 0 253 275 c x (7 * (k : Int)) σ) Q := by
  unfold mL_law_B1446
  have hx : ∀ j, i32 (xs j).toInt := fun j => ⟨Int32.le_toInt _, Int32.toInt_lt _⟩
  refine mR_G (by rw [wI_id (by omega)]; omega) ?_
  obtain ⟨b, s, b2, s2, e1, e2, e3, e4⟩ := pr_isIn σ h ((xs (wI (7 * (k : Int) + 1)).toNat).toInt) (hx _)
  exact mR_callE e1 (mR_callE e2 (mR_pos e3 (mR_bnd (hc s2 e4))))
theorem gl_ideal {xs : Nat → Int32} {L k : Nat} (hL : L ≤ 3584) (hk : 7 * k + 7 ≤ L) {c : Int → mSt → Option (Int × mSt)} {x : mSt → Option (Int × mSt)} {Q : Int → mSt → Prop} {σ : mSt} (h : Inv σ) (hc : ∀ s, Inv s → mR (c (7 * (k : Int) + 7) s) Q) : mR (mL_law_B1471 xs L 0 253 275 c x (7 * (k : Int)) σ) Q := by
  unfold mL_law_B1471
  have hx : ∀ j, i32 (xs j).toInt := fun j => ⟨Int32.le_toInt _, Int32.toInt_lt _⟩
  refine mR_G (by rw [wI_id (by omega)]; omega) ?_
  refine mR_G (by rw [wI_id (by omega)]; omega) ?_
  obtain ⟨b, s, b2, s2, e1, e2, e3, e4⟩ := pr_ideal σ h ((xs (wI (7 * (k : Int) + 1)).toNat).toInt) (hx _) ((xs (wI (7 * (k : Int) + 2)).toNat).toInt) (hx _)
  exact mR_callE e1 (mR_callE e2 (mR_pos e3 (mR_bnd (hc s2 e4))))
theorem gl_isInIdeal {xs : Nat → Int32} {L k : Nat} (hL : L ≤ 3584) (hk : 7 * k + 7 ≤ L) {c : Int → mSt → Option (Int × mSt)} {x : mSt → Option (Int × mSt)} {Q : Int → mSt → Prop} {σ : mSt} (h : Inv σ) (hc : ∀ s, Inv s → mR (c (7 * (k : Int) + 7) s) Q) : mR (mL_law_B1509 xs L 0 253 275 c x (7 * (k : Int)) σ) Q := by
  unfold mL_law_B1509
  have hx : ∀ j, i32 (xs j).toInt := fun j => ⟨Int32.le_toInt _, Int32.toInt_lt _⟩
  refine mR_G (by rw [wI_id (by omega)]; omega) ?_
  refine mR_G (by rw [wI_id (by omega)]; omega) ?_
  refine mR_G (by rw [wI_id (by omega)]; omega) ?_
  obtain ⟨b, s, b2, s2, e1, e2, e3, e4⟩ := pr_isInIdeal σ h ((xs (wI (7 * (k : Int) + 1)).toNat).toInt) (hx _) ((xs (wI (7 * (k : Int) + 2)).toNat).toInt) (hx _) ((xs (wI (7 * (k : Int) + 3)).toNat).toInt) (hx _)
  exact mR_callE e1 (mR_callE e2 (mR_pos e3 (mR_bnd (hc s2 e4))))
theorem gl_isTwoSided {xs : Nat → Int32} {L k : Nat} (hL : L ≤ 3584) (hk : 7 * k + 7 ≤ L) {c : Int → mSt → Option (Int × mSt)} {x : mSt → Option (Int × mSt)} {Q : Int → mSt → Prop} {σ : mSt} (h : Inv σ) (hc : ∀ s, Inv s → mR (c (7 * (k : Int) + 7) s) Q) : mR (mL_law_B1558 xs L 0 253 275 c x (7 * (k : Int)) σ) Q := by
  unfold mL_law_B1558
  have hx : ∀ j, i32 (xs j).toInt := fun j => ⟨Int32.le_toInt _, Int32.toInt_lt _⟩
  refine mR_G (by rw [wI_id (by omega)]; omega) ?_
  refine mR_G (by rw [wI_id (by omega)]; omega) ?_
  obtain ⟨b, s, b2, s2, e1, e2, e3, e4⟩ := pr_isTwoSided σ h ((xs (wI (7 * (k : Int) + 1)).toNat).toInt) (hx _) ((xs (wI (7 * (k : Int) + 2)).toNat).toInt) (hx _)
  exact mR_callE e1 (mR_callE e2 (mR_pos e3 (mR_bnd (hc s2 e4))))
theorem gl_many {xs : Nat → Int32} {L k : Nat} (hL : L ≤ 3584) (hk : 7 * k + 7 ≤ L) {c : Int → mSt → Option (Int × mSt)} {x : mSt → Option (Int × mSt)} {Q : Int → mSt → Prop} {σ : mSt} (h : Inv σ) (hc : ∀ s, Inv s → mR (c (7 * (k : Int) + 7) s) Q) : mR (mL_law_B1595 xs L 0 253 275 c x (7 * (k : Int)) σ) Q := by
  unfold mL_law_B1595
  have hx : ∀ j, i32 (xs j).toInt := fun j => ⟨Int32.le_toInt _, Int32.toInt_lt _⟩
  refine mR_G (by rw [wI_id (by omega)]; omega) ?_
  refine mR_G (by rw [wI_id (by omega)]; omega) ?_
  obtain ⟨b, s, b2, s2, e1, e2, e3, e4⟩ := pr_many σ h ((xs (wI (7 * (k : Int) + 1)).toNat).toInt) (hx _) ((xs (wI (7 * (k : Int) + 2)).toNat).toInt) (hx _)
  exact mR_callE e1 (mR_callE e2 (mR_pos e3 (mR_bnd (hc s2 e4))))
theorem gl_count {xs : Nat → Int32} {L k : Nat} (hL : L ≤ 3584) (hk : 7 * k + 7 ≤ L) {c : Int → mSt → Option (Int × mSt)} {x : mSt → Option (Int × mSt)} {Q : Int → mSt → Prop} {σ : mSt} (h : Inv σ) (hc : ∀ s, Inv s → mR (c (7 * (k : Int) + 7) s) Q) : mR (mL_law_B1632 xs L 0 253 275 c x (7 * (k : Int)) σ) Q := by
  unfold mL_law_B1632
  have hx : ∀ j, i32 (xs j).toInt := fun j => ⟨Int32.le_toInt _, Int32.toInt_lt _⟩
  refine mR_G (by rw [wI_id (by omega)]; omega) ?_
  obtain ⟨b, s, b2, s2, e1, e2, e3, e4⟩ := pr_count σ h ((xs (wI (7 * (k : Int) + 1)).toNat).toInt) (hx _)
  exact mR_callE e1 (mR_callE e2 (mR_pos e3 (mR_bnd (hc s2 e4))))
theorem glue_loop {xs : Nat → Int32} {L : Nat} (hL : L ≤ 3584) : ∀ (n k : Nat) (σ : mSt), 1 ≤ n → L < 7 * (k + n) → k ≤ 512 → Inv σ → mR (mL_law_L23 xs L 0 253 275 (fun zσ => mL_law_B1663 xs L zσ) n (7 * (k : Int)) σ) (fun b _ => b = 1) := by
  intro n
  induction n with
  | zero => intro k σ h; omega
  | succ n ih =>
    intro k σ h1 h2 h3 h
    rw [mL_law_L23.eq_2]
    refine mR_if (fun _ => ?_) (fun c => ?_)
    · unfold mL_law_B1663
      exact mR_ret rfl
    · rw [wI_id (by omega), wI_id (by omega)] at c
      have hk : 7 * k + 7 ≤ L := by omega
      have hc : ∀ s, Inv s → mR (mL_law_L23 xs L 0 253 275 (fun zσ => mL_law_B1663 xs L zσ) n (7 * (k : Int) + 7) s) (fun b _ => b = 1) := fun s hs => by
        rw [show 7 * (k : Int) + 7 = 7 * ((k + 1 : Nat) : Int) by omega]
        exact ih (k + 1) s (by omega) (by omega) (by omega) hs
      refine mR_G (by rw [wI_id (by omega)]; omega) ?_
      refine mR_if (fun _ => gl_feed hL hk h hc) (fun _ => ?_)
      refine mR_if (fun _ => gl_text hL hk h hc) (fun _ => ?_)
      refine mR_if (fun _ => gl_algebra hL hk h hc) (fun _ => ?_)
      refine mR_if (fun _ => gl_local hL hk h hc) (fun _ => ?_)
      refine mR_if (fun _ => gl_place hL hk h hc) (fun _ => ?_)
      refine mR_if (fun _ => gl_index hL hk h hc) (fun _ => ?_)
      refine mR_if (fun _ => gl_alike hL hk h hc) (fun _ => ?_)
      refine mR_if (fun _ => gl_classes hL hk h hc) (fun _ => ?_)
      refine mR_if (fun _ => gl_tell hL hk h hc) (fun _ => ?_)
      refine mR_if (fun _ => gl_over hL hk h hc) (fun _ => ?_)
      refine mR_if (fun _ => gl_element hL hk h hc) (fun _ => ?_)
      refine mR_if (fun _ => gl_times hL hk h hc) (fun _ => ?_)
      refine mR_if (fun _ => gl_plus hL hk h hc) (fun _ => ?_)
      refine mR_if (fun _ => gl_mirror hL hk h hc) (fun _ => ?_)
      refine mR_if (fun _ => gl_inverse hL hk h hc) (fun _ => ?_)
      refine mR_if (fun _ => gl_norm hL hk h hc) (fun _ => ?_)
      refine mR_if (fun _ => gl_trace hL hk h hc) (fun _ => ?_)
      refine mR_if (fun _ => gl_solution hL hk h hc) (fun _ => ?_)
      refine mR_if (fun _ => gl_matrix hL hk h hc) (fun _ => ?_)
      refine mR_if (fun _ => gl_disc hL hk h hc) (fun _ => ?_)
      refine mR_if (fun _ => gl_due hL hk h hc) (fun _ => ?_)
      refine mR_if (fun _ => gl_row hL hk h hc) (fun _ => ?_)
      refine mR_if (fun _ => gl_enlarge hL hk h hc) (fun _ => ?_)
      refine mR_if (fun _ => gl_greatest hL hk h hc) (fun _ => ?_)
      refine mR_if (fun _ => gl_plain hL hk h hc) (fun _ => ?_)
      refine mR_if (fun _ => gl_table hL hk h hc) (fun _ => ?_)
      refine mR_if (fun _ => gl_isIn hL hk h hc) (fun _ => ?_)
      refine mR_if (fun _ => gl_ideal hL hk h hc) (fun _ => ?_)
      refine mR_if (fun _ => gl_isInIdeal hL hk h hc) (fun _ => ?_)
      refine mR_if (fun _ => gl_isTwoSided hL hk h hc) (fun _ => ?_)
      refine mR_if (fun _ => gl_many hL hk h hc) (fun _ => ?_)
      refine mR_if (fun _ => gl_count hL hk h hc) (fun _ => ?_)
      exact mR_bnd (hc σ h)
