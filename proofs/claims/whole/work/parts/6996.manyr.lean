/-! how many: the reference's levels -/
theorem wsF_c {T T' : V4} (E : Nat → V4) (r : Nat) : ∀ n, (∀ i, i < n → vg i T' = vg i T) → wsF T' E r n = wsF T E r n := by
  intro n
  induction n with
  | zero => intro _; rfl
  | succ n ih =>
    intro h
    show wsF T' E r n + vg n T' * vg r (E n) = wsF T E r n + vg n T * vg r (E n)
    rw [ih (fun i hi => h i (by omega)), h n (by omega)]
theorem wsF_s {T T' : V4} {E : Nat → V4} {r n : Nat} {j : Int} (h : ∀ i, i < n → vg i T' = vg i T) (hj : vg n T' = j) : wsF T' E r (n + 1) = wsF T E r n + j * vg r (E n) := by
  show wsF T' E r n + vg n T' * vg r (E n) = _
  rw [wsF_c E r n h, hj]
theorem ct4 {τ : mSt} {al : Nat} {left F : Int} {T : V4} (d : Nat) (hl : 0 ≤ left ∧ left ≤ 625000000) : mX12_counts (d + 1) 253 (al : Int) ((4 : Nat) : Int) left (cSt τ T F) = some (0, cSt τ T (F + if left = 0 then 1 else 0)) := by
  have f : cSt τ T F 253 35 = F := by unfold cSt; rw [upS_same]
  rw [mX12_counts.eq_2]
  unfold mX12_counts_body
  rw [gc253, if_pos (by decide), wL_id (x := left) (by omega), f, bnd_eq, cSt_f, bnd_eq, cSt_f]
  by_cases h : left = 0
  · rw [if_pos h, if_pos h]
  · rw [if_neg h, if_neg h]
theorem ct3 {τ : mSt} {al : Nat} {a b left F : Int} {T : V4} {E : Nat → V4} (d : Nat) (hL : Lay τ) (hal : al < 8) (h0 : τ 258 al = a) (h1 : τ 259 al = b) (hr : E = rowL τ al) (hE : cE E) (ha : a < 0 ∧ -60 ≤ a) (hb : b < 0 ∧ -60 ≤ b) (hl : 0 ≤ left ∧ left ≤ 625000000) (ht : -10000000000 ≤ wsF T E 3 3 ∧ wsF T E 3 3 ≤ 10000000000) : ∃ T'', (∀ i, i < 3 → vg i T'' = vg i T) ∧ mX12_counts (d + 2) 253 (al : Int) ((3 : Nat) : Int) left (cSt τ T F) = some (0, cSt τ T'' (F + cF3 (a * b) (vg 3 (E 3)) left (wsF T E 3 3))) := by
  have hab := ab_pos ha hb
  have d0 := tri_d hE.1 3 (by omega)
  have d1 := hE.2.2 3 (by omega)
  have l := lay253 hL
  have key := ctB81 (τ := τ) (al := al) (r := 3) (left := left) (by1 := a * b) (d := vg 3 (E 3)) (t := wsF T E 3 3) (m := fsq (left / (a * b))) (F := F) (T := T) (G := fun j => if left - (a * b) * ((wsF T E 3 3 + j * vg 3 (E 3)) * (wsF T E 3 3 + j * vg 3 (E 3))) = 0 then 1 else 0) (rec := mX12_counts (d + 1)) hL hal (by omega) (by rw [hr]) ⟨d0, by omega⟩ hl hab rfl (by rw [hr]) ht
    (fun j F T' k1 k2 k3 k4 => ⟨T', fun _ _ => rfl, by
      have lo := left_ok (by1 := a * b) (left := left) (v := wsF T E 3 3 + j * vg 3 (E 3)) (by omega) (by omega) rfl ((loK_iff d0).mp k1) ((hiK_iff d0).mp k2)
      exact ct4 d (by omega)⟩)
  obtain ⟨T'', g1, g2⟩ := key
  refine ⟨T'', g1, ?_⟩
  rw [mX12_counts.eq_2]
  unfold mX12_counts_body
  rw [gc253, if_neg (by decide), if_neg (by decide), if_neg (by decide), if_neg (by decide), gr' (r := 258) (by rw [cSt_ne _ _ _ _ _ (by omega) (by omega)]; exact l.2.2.2.2.1) (by omega), gx258 _ (by omega), gr' (r := 259) (by rw [cSt_ne _ _ _ _ _ (by omega) (by omega)]; exact l.2.2.2.2.2.1) (by omega), gx259 _ (by omega), wI_nat (by omega), cSt_ne _ _ _ _ _ (by omega) (by omega), cSt_ne _ _ _ _ _ (by omega) (by omega), h0, h1, wI_id (x := a) (by omega), wI_id (x := b) (by omega)]
  exact g2
theorem ct2 {τ : mSt} {al : Nat} {a b left F : Int} {T : V4} {E : Nat → V4} (d : Nat) (hL : Lay τ) (hal : al < 8) (h0 : τ 258 al = a) (h1 : τ 259 al = b) (hr : E = rowL τ al) (hE : cE E) (ha : a < 0 ∧ -60 ≤ a) (hb : b < 0 ∧ -60 ≤ b) (hl : 0 ≤ left ∧ left ≤ 625000000) (h2 : -(75000 * vg 2 (E 2)) ≤ wsF T E 2 2 ∧ wsF T E 2 2 ≤ 75000 * vg 2 (E 2)) (h3 : -1000000000 ≤ wsF T E 3 2 ∧ wsF T E 3 2 ≤ 1000000000) : ∃ T'', (∀ i, i < 2 → vg i T'' = vg i T) ∧ mX12_counts (d + 3) 253 (al : Int) ((2 : Nat) : Int) left (cSt τ T F) = some (0, cSt τ T'' (F + cF2 E (-b) (a * b) left (wsF T E 2 2) (wsF T E 3 2))) := by
  have d0 := tri_d hE.1 2 (by omega)
  have d1 := hE.2.2 2 (by omega)
  have d3 := hE.2.2 3 (by omega)
  have e23 := hE.2.1 2 3 (by omega) (by omega)
  have l := lay253 hL
  have q0 : 0 ≤ left / -b := Int.ediv_nonneg hl.1 (by omega)
  have q1 : left / -b ≤ left := Int.ediv_le_self _ hl.1
  obtain ⟨r0, r1, r2⟩ := fsq_p (n := left / -b) (by omega)
  have rm := fsq_le (m := 25000) (n := left / -b) (by omega) (by omega) (by omega)
  have key := ctB81 (τ := τ) (al := al) (r := 2) (left := left) (by1 := -b) (d := vg 2 (E 2)) (t := wsF T E 2 2) (m := fsq (left / -b)) (F := F) (T := T) (G := fun j => cF3 (a * b) (vg 3 (E 3)) (left - -b * ((wsF T E 2 2 + j * vg 2 (E 2)) * (wsF T E 2 2 + j * vg 2 (E 2)))) (wsF T E 3 2 + j * vg 3 (E 2))) (rec := mX12_counts (d + 2)) hL hal (by omega) (by rw [hr]) ⟨d0, by omega⟩ hl (by omega) rfl (by rw [hr]) (by omega)
    (fun j F T' k1 k2 k3 k4 => by
      have v1 := (loK_iff d0).mp k1
      have v2 := (hiK_iff d0).mp k2
      have lo := left_ok (by1 := -b) (left := left) (v := wsF T E 2 2 + j * vg 2 (E 2)) (by omega) (by omega) rfl v1 v2
      have jb := kb (T := 75000) d0 ⟨r0, rm⟩ (by omega) h2 v1 v2
      have je := mul_rng (x := j) (y := vg 3 (E 2)) (A := 100000) (B := 7200) (by omega) (by omega) (by omega)
      have ws := wsF_s (E := E) (r := 3) k3 k4
      have := ct3 (F := F) (T := T') (left := left - -b * ((wsF T E 2 2 + j * vg 2 (E 2)) * (wsF T E 2 2 + j * vg 2 (E 2)))) d hL hal h0 h1 hr hE ha hb (by omega) (by rw [ws]; omega)
      rw [ws] at this
      exact this)
  obtain ⟨T'', g1, g2⟩ := key
  refine ⟨T'', g1, ?_⟩
  rw [mX12_counts.eq_2]
  unfold mX12_counts_body
  rw [gc253, if_neg (by decide), if_neg (by decide), if_neg (by decide), if_pos (by decide), gr' (r := 259) (by rw [cSt_ne _ _ _ _ _ (by omega) (by omega)]; exact l.2.2.2.2.2.1) (by omega), gx259 _ (by omega), wI_nat (by omega), cSt_ne _ _ _ _ _ (by omega) (by omega), h1, wI_id (x := -b) (by omega)]
  exact g2
theorem ct1 {τ : mSt} {al : Nat} {a b left F : Int} {T : V4} {E : Nat → V4} (d : Nat) (hL : Lay τ) (hal : al < 8) (h0 : τ 258 al = a) (h1 : τ 259 al = b) (hr : E = rowL τ al) (hE : cE E) (ha : a < 0 ∧ -60 ≤ a) (hb : b < 0 ∧ -60 ≤ b) (hl : 0 ≤ left ∧ left ≤ 625000000) (g1 : -(25000 * vg 1 (E 1)) ≤ wsF T E 1 1 ∧ wsF T E 1 1 ≤ 25000 * vg 1 (E 1)) (g2 : -(25000 * vg 2 (E 2)) ≤ wsF T E 2 1 ∧ wsF T E 2 1 ≤ 25000 * vg 2 (E 2)) (g3 : -(25000 * vg 3 (E 3)) ≤ wsF T E 3 1 ∧ wsF T E 3 1 ≤ 25000 * vg 3 (E 3)) : ∃ T'', (∀ i, i < 1 → vg i T'' = vg i T) ∧ mX12_counts (d + 4) 253 (al : Int) ((1 : Nat) : Int) left (cSt τ T F) = some (0, cSt τ T'' (F + cF1 E (-a) (-b) (a * b) left (wsF T E 1 1) (wsF T E 2 1) (wsF T E 3 1))) := by
  have d0 := tri_d hE.1 1 (by omega)
  have d1 := hE.2.2 1 (by omega)
  have d2 := hE.2.2 2 (by omega)
  have d3 := hE.2.2 3 (by omega)
  have e12 := hE.2.1 1 2 (by omega) (by omega)
  have e13 := hE.2.1 1 3 (by omega) (by omega)
  have l := lay253 hL
  have q0 : 0 ≤ left / -a := Int.ediv_nonneg hl.1 (by omega)
  have q1 : left / -a ≤ left := Int.ediv_le_self _ hl.1
  obtain ⟨r0, r1, r2⟩ := fsq_p (n := left / -a) (by omega)
  have rm := fsq_le (m := 25000) (n := left / -a) (by omega) (by omega) (by omega)
  have key := ctB81 (τ := τ) (al := al) (r := 1) (left := left) (by1 := -a) (d := vg 1 (E 1)) (t := wsF T E 1 1) (m := fsq (left / -a)) (F := F) (T := T) (G := fun j => cF2 E (-b) (a * b) (left - -a * ((wsF T E 1 1 + j * vg 1 (E 1)) * (wsF T E 1 1 + j * vg 1 (E 1)))) (wsF T E 2 1 + j * vg 2 (E 1)) (wsF T E 3 1 + j * vg 3 (E 1))) (rec := mX12_counts (d + 3)) hL hal (by omega) (by rw [hr]) ⟨d0, by omega⟩ hl (by omega) rfl (by rw [hr]) (by omega)
    (fun j F T' k1 k2 k3 k4 => by
      have v1 := (loK_iff d0).mp k1
      have v2 := (hiK_iff d0).mp k2
      have lo := left_ok (by1 := -a) (left := left) (v := wsF T E 1 1 + j * vg 1 (E 1)) (by omega) (by omega) rfl v1 v2
      have jb := kb (T := 25000) d0 ⟨r0, rm⟩ (by omega) g1 v1 v2
      have je := mul_rng (x := j) (y := vg 2 (E 1)) (A := 50000) (B := vg 2 (E 2)) (by omega) (by omega) (by omega)
      have je3 := mul_rng (x := j) (y := vg 3 (E 1)) (A := 50000) (B := 7200) (by omega) (by omega) (by omega)
      have ws := wsF_s (E := E) (r := 2) k3 k4
      have ws3 := wsF_s (E := E) (r := 3) k3 k4
      have := ct2 (F := F) (T := T') (left := left - -a * ((wsF T E 1 1 + j * vg 1 (E 1)) * (wsF T E 1 1 + j * vg 1 (E 1)))) d hL hal h0 h1 hr hE ha hb (by omega) (by rw [ws]; omega) (by rw [ws3]; omega)
      rw [ws, ws3] at this
      exact this)
  obtain ⟨T'', g1, g2⟩ := key
  refine ⟨T'', g1, ?_⟩
  rw [mX12_counts.eq_2]
  unfold mX12_counts_body
  rw [gc253, if_neg (by decide), if_neg (by decide), if_pos (by decide), gr' (r := 258) (by rw [cSt_ne _ _ _ _ _ (by omega) (by omega)]; exact l.2.2.2.2.1) (by omega), gx258 _ (by omega), wI_nat (by omega), cSt_ne _ _ _ _ _ (by omega) (by omega), h0, wI_id (x := -a) (by omega)]
  exact g2
theorem ct0 {τ : mSt} {al : Nat} {a b left F : Int} {T : V4} {E : Nat → V4} (d : Nat) (hL : Lay τ) (hal : al < 8) (h0 : τ 258 al = a) (h1 : τ 259 al = b) (hr : E = rowL τ al) (hE : cE E) (ha : a < 0 ∧ -60 ≤ a) (hb : b < 0 ∧ -60 ≤ b) (hl : 0 ≤ left ∧ left ≤ 625000000) : ∃ T'', mX12_counts (d + 5) 253 (al : Int) 0 left (cSt τ T F) = some (0, cSt τ T'' (F + cF0 E (-a) (-b) (a * b) left)) := by
  have d0 := tri_d hE.1 0 (by omega)
  have d1 := hE.2.2 0 (by omega)
  have e1 := hE.2.1 0 1 (by omega) (by omega)
  have e2 := hE.2.1 0 2 (by omega) (by omega)
  have e3 := hE.2.1 0 3 (by omega) (by omega)
  have l := lay253 hL
  obtain ⟨r0, r1, r2⟩ := fsq_p (n := left) (by omega)
  have rm := fsq_le (m := 25000) (n := left) (by omega) (by omega) (by omega)
  have key := ctB81 (τ := τ) (al := al) (r := 0) (left := left) (by1 := 1) (d := vg 0 (E 0)) (t := 0) (m := fsq left) (F := F) (T := T) (G := fun j => cF1 E (-a) (-b) (a * b) (left - (j * vg 0 (E 0)) * (j * vg 0 (E 0))) (j * vg 1 (E 0)) (j * vg 2 (E 0)) (j * vg 3 (E 0))) (rec := mX12_counts (d + 4)) hL hal (by omega) (by rw [hr]) ⟨d0, by omega⟩ hl (by omega) (by rw [Int.ediv_one]) rfl (by omega)
    (fun j F T' k1 k2 k3 k4 => by
      have v1 := (loK_iff d0).mp k1
      have v2 := (hiK_iff d0).mp k2
      rw [Int.zero_add] at v1 v2
      have lo := left_ok (by1 := 1) (left := left) (v := j * vg 0 (E 0)) (m := fsq left) (by omega) (by omega) (by rw [Int.ediv_one]) v1 v2
      have jb := kb (t := 0) (k := j) (m := fsq left) (T := 0) d0 ⟨r0, rm⟩ (by omega) (by omega) (by omega) (by omega)
      have b1 := mul_rng (x := j) (y := vg 1 (E 0)) (A := 25000) (B := vg 1 (E 1)) (by omega) (by omega) (by omega)
      have b2 := mul_rng (x := j) (y := vg 2 (E 0)) (A := 25000) (B := vg 2 (E 2)) (by omega) (by omega) (by omega)
      have b3 := mul_rng (x := j) (y := vg 3 (E 0)) (A := 25000) (B := vg 3 (E 3)) (by omega) (by omega) (by omega)
      have w1 : wsF T' E 1 1 = j * vg 1 (E 0) := (wsF_s (T := T) k3 k4).trans (Int.zero_add _)
      have w2 : wsF T' E 2 1 = j * vg 2 (E 0) := (wsF_s (T := T) k3 k4).trans (Int.zero_add _)
      have w3 : wsF T' E 3 1 = j * vg 3 (E 0) := (wsF_s (T := T) k3 k4).trans (Int.zero_add _)
      rw [Int.one_mul] at lo
      have := ct1 (F := F) (T := T') (left := left - (j * vg 0 (E 0)) * (j * vg 0 (E 0))) d hL hal h0 h1 hr hE ha hb (by omega) (by rw [w1]; omega) (by rw [w2]; omega) (by rw [w3]; omega)
      rw [w1, w2, w3] at this
      rw [Int.one_mul, Int.zero_add]
      exact this)
  obtain ⟨T'', -, g2⟩ := key
  refine ⟨T'', ?_⟩
  rw [mX12_counts.eq_2]
  unfold mX12_counts_body
  rw [gc253, if_neg (by decide), if_pos (by decide)]
  exact g2
theorem pr_many (σ : mSt) (h : Inv σ) (a1 : Int) (h1 : i32 a1) (a2 : Int) (h2 : i32 a2) : ∃ b s b2 s2, mX11_many 0 a1 a2 σ = some (b, s) ∧ mX12_many 253 a1 a2 s = some (b2, s2) ∧ wI b = wI b2 ∧ Inv s2 := by
  have hI := h
  obtain ⟨hL, hb, t, B, n, s0, hT, hB, hP, hE, hO⟩ := h
  have hn := hB.2.1
  have hB1 := hB.1
  have ht := hI.scr (scr_t (σ := σ) (v := 0))
  have h2' := h2
  unfold i32 at h2'
  by_cases hv : 0 ≤ a1 ∧ a1 < (n : Int) ∧ σ 257 a1.toNat = 0
  · obtain ⟨k, rfl, hk, hq⟩ := quat_nat hv
    have hk8 : k < 8 := by omega
    obtain ⟨⟨ab1, ab2⟩, ⟨na, ra1, ra2, -⟩, nb, rb1, rb2, -⟩ := quatF hB hk hq
    have l := lay253 ht.1
    have rq := quatr_t ht.1 (book_up hB) hk (by rw [upS_row (by omega)]; exact hq)
    have rw' := within_e (wI a2) 0 12 (upS σ 253 0 0) (by have := wI_rng a2; omega) (by omega) (by omega)
    rw [wI_id h2] at rw'
    have e8 : upS σ 253 0 0 258 k = σ 258 k := by rw [upS_row (by omega)]
    have e9 : upS σ 253 0 0 259 k = σ 259 k := by rw [upS_row (by omega)]
    by_cases hw : 0 ≤ a2 ∧ a2 ≤ 12
    · by_cases hp : σ 258 k < 0 ∧ σ 259 k < 0
      · have io := hO.1 k hk hq
        obtain ⟨rc, rm⟩ := iord_c io
        obtain ⟨g1, g2, g3, g4, g5, g6⟩ := io
        obtain ⟨⟨m0, m1⟩, fE, fl, fd, -⟩ := ord_facts ⟨na, ra1, ra2⟩ ⟨nb, rb1, rb2⟩ g6
        have ce : cE (rowL σ k) := ⟨g6.2.1, red_le g6.2.2.1, fun i hi => by have := (fE i hi).2.2; omega⟩
        have cx : cX σ k (σ 258 k) (σ 259 k) (rowL σ k) := ⟨hL, g1, g2, rc⟩
        obtain ⟨v', hv'⟩ := countOfNorm_c (nn := a2) cx hk8 ce ⟨hp.1, ra1⟩ ⟨hp.2, rb1⟩ rm ⟨m0, m1⟩ hw
        have k2 := (ord_lay hL hk8).2.1
        have fs : frm scr σ (stV σ (189 + 9 * k) v') := (frm.rf σ).stV (fun j => ⟨fixR_data (by rw [k2]; decide) j, Or.inl (by unfold sObj; omega)⟩)
        have hs := hI.scr fs
        have o : ∀ i, i ≠ 189 + 9 * k → stV σ (189 + 9 * k) v' i = σ i := fun i hi => funext fun j => stV_ne _ _ _ _ _ hi
        have hL2 := hs.1
        have hB2 : iBook (stV σ (189 + 9 * k) v') B n := iBook_congr hB (by rw [o 0 (by omega)]) (by rw [o 0 (by omega)]) (fun i hi => o i (by omega))
        have hs0 := hs.scr (scr_t (σ := stV σ (189 + 9 * k) v') (v := 0))
        have l := lay253 hs0.1
        have u : ∀ i, i ≠ 253 → i ≠ 189 + 9 * k → upS (stV σ (189 + 9 * k) v') 253 0 0 i = σ i := fun i h1 h2 => by rw [upS_row h1, o i h2]
        have rq := quatr_t hs0.1 (book_up hB2) hk (by rw [u 257 (by omega) (by omega)]; exact hq)
        have rw' := within_e a2 0 12 (upS (stV σ (189 + 9 * k) v') 253 0 0) (by omega) (by omega) (by omega)
        have r1 := mul_rng (x := a2) (y := σ 270 k) (A := 12) (B := 7200) (by omega) (by omega) (by omega)
        have r2 := mul_rng (x := a2 * σ 270 k) (y := σ 270 k) (A := 12 * 7200) (B := 7200) (by omega) (by omega) (by omega)
        have r0 : 0 ≤ a2 * σ 270 k * σ 270 k := Int.mul_nonneg (Int.mul_nonneg hw.1 (by omega)) (by omega)
        obtain ⟨ρ, hρ⟩ : ∃ ρ, ρ = upS (stV σ (189 + 9 * k) v') 253 0 0 := ⟨_, rfl⟩
        rw [← hρ] at hs0 l u rq rw'
        have rr : rowL σ k = rowL ρ k := by unfold rowL; rw [u 269 (by omega) (by omega)]
        obtain ⟨T'', hT''⟩ := ct0 (τ := ρ) (F := 0) (T := rowV ρ 274) (left := a2 * σ 270 k * σ 270 k) (al := k) 1 hs0.1 hk8 (by rw [u 258 (by omega) (by omega)]) (by rw [u 259 (by omega) (by omega)]) rr ce ⟨hp.1, ra1⟩ ⟨hp.2, rb1⟩ (by omega)
        have e0 : cSt ρ (rowV ρ 274) 0 = upS ρ 253 35 0 := by unfold cSt; rw [stV_self]
        rw [e0, Int.zero_add] at hT''
        refine ⟨cF0 (rowL σ k) (-(σ 258 k)) (-(σ 259 k)) (σ 258 k * σ 259 k) (a2 * σ 270 k * σ 270 k), stV σ (189 + 9 * k) v', cF0 (rowL σ k) (-(σ 258 k)) (-(σ 259 k)) (σ 258 k * σ 259 k) (a2 * σ 270 k * σ 270 k), cSt ρ T'' (cF0 (rowL σ k) (-(σ 258 k)) (-(σ 259 k)) (σ 258 k * σ 259 k) (a2 * σ 270 k * σ 270 k)), ?_, ?_, rfl, hs0.scr ?_⟩
        · unfold mX11_many
          rw [gc0, quat_t hL hB hk hq, mCall_some, if_neg (by decide), wI_id h2, if_neg (by omega), if_pos hw.2, gr' hB.2.2.1 (by omega), first_c hL hB1 hk8, mCall_some, ab1, wI_id (x := σ 258 k) (by omega), if_neg (by omega), gr' hB.2.2.1 (by omega), second_c hL hB1 hk8, mCall_some, ab2, wI_id (x := σ 259 k) (by omega), if_pos hp.2, gr' (lay0 hL).2.2.2.2.1 (by omega), gx113 _ (by omega), wI_nat (by omega), gr' (ord_lay hL hk8).2.2.2.1 (by omega), hv', mCall_some]
        · unfold mX12_many
          have f35 : cSt ρ T'' (cF0 (rowL σ k) (-(σ 258 k)) (-(σ 259 k)) (σ 258 k * σ 259 k) (a2 * σ 270 k * σ 270 k)) 253 35 = cF0 (rowL σ k) (-(σ 258 k)) (-(σ 259 k)) (σ 258 k * σ 259 k) (a2 * σ 270 k * σ 270 k) := by unfold cSt; rw [upS_same]
          have l30 : upS ρ 253 35 0 253 30 = ((270 : Nat) : Int) := by rw [upS_ne (by omega)]; exact l.2.2.2.2.2.2.2.2.2.2.2.2.2.2.2.2.1
          have e270 : upS ρ 253 35 0 270 k = σ 270 k := by rw [upS_row (by omega), u 270 (by omega) (by omega)]
          rw [gc253, bnd_eq, ← hρ, rq, mCall_some, if_neg (by decide), wI_id h2, rw', mCall_some, if_neg (by rw [b2_t hw]; decide), gr' l.2.2.2.2.1 (by omega), gx258 _ (by omega), wI_nat (by omega), u 258 (by omega) (by omega), wI_id (x := σ 258 k) (by omega), if_neg (by omega), gr' l.2.2.2.2.2.1 (by omega), gx259 _ (by omega), u 259 (by omega) (by omega), wI_id (x := σ 259 k) (by omega), if_pos (by omega), bnd_eq, gr' l30 (by omega), gx270 _ (by omega), gr' l30 (by omega), gx270 _ (by omega), e270, hT'', mCall_some, f35]
        · unfold cSt
          exact ((frm.rf ρ).stV (fun j => scrD _ _ (by omega))).put (scr_s (by unfold sSlot; omega) (by decide +kernel))
      · refine ⟨-1, σ, -1, upS σ 253 0 0, ?_, ?_, rfl, ht⟩
        · unfold mX11_many
          rw [gc0, quat_t hL hB hk hq, mCall_some, if_neg (by decide), wI_id h2, if_neg (by omega), if_pos hw.2, gr' hB.2.2.1 (by omega), first_c hL hB1 hk8, mCall_some, ab1, wI_id (x := σ 258 k) (by omega)]
          by_cases c : 0 ≤ σ 258 k
          · rw [if_pos c]
          · rw [if_neg c, gr' hB.2.2.1 (by omega), second_c hL hB1 hk8, mCall_some, ab2, wI_id (x := σ 259 k) (by omega), if_neg (by omega)]
        · unfold mX12_many
          rw [gc253, bnd_eq, rq, mCall_some, if_neg (by decide), wI_id h2, rw', mCall_some, if_neg (by rw [b2_t hw]; decide), gr' l.2.2.2.2.1 (by omega), gx258 _ (by omega), wI_nat (by omega), e8, wI_id (x := σ 258 k) (by omega)]
          by_cases c : 0 < σ 258 k
          · rw [if_pos c]
          · rw [if_neg c, gr' l.2.2.2.2.2.1 (by omega), gx259 _ (by omega), e9, wI_id (x := σ 259 k) (by omega), if_neg (by omega)]
    · refine ⟨-1, σ, -1, upS σ 253 0 0, ?_, ?_, rfl, ht⟩
      · unfold mX11_many
        rw [gc0, quat_t hL hB hk hq, mCall_some, if_neg (by decide), wI_id h2]
        by_cases c : a2 < 0
        · rw [if_pos c]
        · rw [if_neg c, if_neg (by omega)]
      · unfold mX12_many
        rw [gc253, bnd_eq, rq, mCall_some, if_neg (by decide), wI_id h2, rw', mCall_some, if_pos (by rw [b2_f hw]; decide)]
  · refine ⟨-1, σ, -1, upS σ 253 0 0, ?_, ?_, rfl, ht⟩
    · unfold mX11_many
      exact mR_eq (mR_G (by decide) (mR_callE (quat_c hL hB h1) (mR_pos (by rw [wI_b2, b2_f hv]) (mR_ret ⟨rfl, rfl⟩))))
    · unfold mX12_many
      exact mR_eq (mR_G (by decide) (mR_bnd (mR_callE (quat_r ht.1 (book_up hB) h1) (mR_pos (by rw [wI_b2, b2_f (by rw [upS_row (by omega)]; exact hv)]) (mR_ret ⟨rfl, rfl⟩)))))
