/-! left ideals: both sides hold the same -/
theorem vC_vC (E G : Nat → V4) (k : V4) : vC (fun r => vC E (G r)) k = vC E (vC G k) := by
  show vA (vS k.1 (vC E (G 0))) (vA (vS k.2.1 (vC E (G 1))) (vA (vS k.2.2.1 (vC E (G 2))) (vS k.2.2.2 (vC E (G 3))))) = vC E (vA (vS k.1 (G 0)) (vA (vS k.2.1 (G 1)) (vA (vS k.2.2.1 (G 2)) (vS k.2.2.2 (G 3)))))
  rw [vC_add, vC_add, vC_add, vC_smul, vC_smul, vC_smul, vC_smul]
def clG (a b N : Int) (E G : Nat → V4) (u1 : V4) (d1 : Int) (P2 : Prop) (u2 : V4) (d2 : Int) : Prop := ∀ T, Sub4 T → (rws T G ↔ (rws T (idR N) ∧ gT a b E u1 d1 0 T ∧ (P2 → gT a b E u2 d2 0 T)))
def rfG (a b M N : Int) (E : Nat → V4) (L : Int) (F : Nat → V4) (u1 : V4) (d1 : Int) (P2 : Prop) (u2 : V4) (d2 : Int) : Prop := ∀ S, Grp S → (subL L F S ↔ (subL M (fun r => vS N (E r)) S ∧ (∀ r, r < 4 → S (vM a b (E r) u1) (M * d1)) ∧ (P2 → ∀ r, r < 4 → S (vM a b (E r) u2) (M * d2))))
theorem vC_vE (E : Nat → V4) {i : Nat} (hi : i < 4) (N : Int) : vC E (vS N (vE i)) = vS N (E i) := by rw [vC_smul, vC_row E hi]
theorem prodY {a b M d : Int} {E : Nat → V4} {u : V4} (hC : Clo a b (latS M E)) (hM : 0 < M) (hd : 0 < d) (hu : latS M E u d) {r : Nat} (hr : r < 4) : ∃ y, vM a b (E r) u = vS d (vC E y) := by
  have p := prodIn hC hM hM hd (latS_row hr) hu (Or.inl rfl)
  rw [if_pos rfl] at p
  obtain ⟨c, hc⟩ := p
  exact ⟨c, by rw [← hc, vS_one]⟩
theorem bridge {a b M N L d1 d2 : Int} {E G F : Nat → V4} {u1 u2 : V4} {P2 : Prop} (hO : Ord a b M E) (hN : 0 < N) (hL : 0 < L) (hd1 : 0 < d1) (hu1 : latS M E u1 d1) (h2 : P2 → 0 < d2 ∧ latS M E u2 d2) (hc : clG a b N E G u1 d1 P2 u2 d2) (hr : rfG a b M N E L F u1 d1 P2 u2 d2) : (∀ c, latS L F (vC E c) M ↔ spn G c) ∧ (∀ y K, 0 < K → latS L F y K → latS M E y K) ∧ (∀ y K, 0 < K → (latS L F y K ↔ latS M (fun r => vC E (G r)) y K)) := by
  obtain ⟨⟨⟨M0, tE, rI, uE⟩, -, -⟩, hC, hW⟩ := ord_ok hO
  have all := (hc _ (spn_sub G)).mp rws_spn
  have prodS : ∀ u d, 0 < d → latS M E u d → gT a b E u d 0 (spn G) → ∀ r, r < 4 → latS M (fun r => vC E (G r)) (vM a b (E r) u) (M * d) := fun u d hd hu hg r hr4 => by
    obtain ⟨y, hy⟩ := prodY hC M0 hd hu hr4
    obtain ⟨k, hk⟩ := hg r y (by omega) hr4 hy
    exact ⟨k, by rw [vC_vC, ← hk, hy, vS_vS]⟩
  have low : subL L F (latS M (fun r => vC E (G r))) := by
    refine (hr _ latS_grp).mpr ⟨fun r hr4 => ?_, prodS u1 d1 hd1 hu1 all.2.1, fun p => prodS u2 d2 (h2 p).1 (h2 p).2 (all.2.2 p)⟩
    obtain ⟨k, hk⟩ := all.1 r hr4
    refine ⟨k, ?_⟩
    rw [vC_vC, ← hk]
    show vS M (vS N (E r)) = vS M (vC E (vS N (vE r)))
    rw [vC_vE E hr4]
  have hself := (hr _ latS_grp).mp (subL_self L F)
  have up : ∀ c, spn G c → latS L F (vC E c) M := by
    intro c hcs
    have sb : Sub4 (fun c => latS L F (vC E c) M) := by
      have g : Grp (latS L F) := latS_grp
      refine ⟨?_, fun x y hx hy => ?_, fun k x hx => ?_⟩
      · show latS L F (vC E v0) M
        rw [vC_0]
        exact g.1 M M0
      · show latS L F (vC E (vA x y)) M
        rw [vC_add]
        exact g.2.1 _ _ M M0 hx hy
      · show latS L F (vC E (vS k x)) M
        rw [vC_smul]
        exact g.2.2.1 _ _ M M0 hx
    have gt : ∀ u d, 0 < d → (∀ r, r < 4 → latS L F (vM a b (E r) u) (M * d)) → gT a b E u d 0 (fun c => latS L F (vC E c) M) := fun u d hd h r y _ hr4 e => by
      have := h r hr4
      rw [e, Int.mul_comm] at this
      have g : Grp (latS L F) := latS_grp
      exact (g.2.2.2 d _ M M0 hd).mp this
    refine spn_le sb ((hc _ sb).mpr ⟨fun i hi => ?_, gt u1 d1 hd1 hself.2.1, fun p => gt u2 d2 (h2 p).1 (hself.2.2 p)⟩) hcs
    show latS L F (vC E (vS N (vE i))) M
    rw [vC_vE E hi]
    exact hself.1 i hi
  have lowA : ∀ y K, 0 < K → latS L F y K → latS M (fun r => vC E (G r)) y K := fun y K hK h => (subL_lat hL latS_grp).mp low y K hK h
  refine ⟨fun c => ⟨fun h => ?_, up c⟩, fun y K hK h => ?_, fun y K hK => ⟨lowA y K hK, fun h => ?_⟩⟩
  · obtain ⟨k, hk⟩ := lowA _ M M0 h
    rw [vC_vC] at hk
    exact ⟨k, vC_inj tE (vS_cancel (show M ≠ 0 by omega) hk)⟩
  · obtain ⟨k, hk⟩ := lowA y K hK h
    exact ⟨vC G k, by rw [← vC_vC]; exact hk⟩
  · refine (subL_lat M0 latS_grp).mp (fun r hr4 => ?_) y K hK h
    exact up (G r) (spn_row G hr4)
/-- the diagonals -/
theorem br_diag {a b M N L d1 d2 : Int} {E G F : Nat → V4} {u1 u2 : V4} {P2 : Prop} (hO : Ord a b M E) (hN : 0 < N) (hL : 0 < L) (hML : M ∣ L) (tG : Tri G) (tF : Tri F) (hd1 : 0 < d1) (hu1 : latS M E u1 d1) (h2 : P2 → 0 < d2 ∧ latS M E u2 d2) (hc : clG a b N E G u1 d1 P2 u2 d2) (hr : rfG a b M N E L F u1 d1 P2 u2 d2) : ∀ r, r < 4 → vg r (F r) = L / M * vg r (E r) * vg r (G r) := by
  have M0 := hO.1
  have tE := hO.2.1
  obtain ⟨k, hk⟩ := hML
  have k0 : 0 < k := by
    rcases Int.lt_or_le 0 k with h | h
    · exact h
    · have := Int.mul_le_mul_of_nonneg_left h (show 0 ≤ M by omega)
      omega
  have kL : L / M = k := by rw [hk, Int.mul_ediv_cancel_left _ (by omega)]
  obtain ⟨-, -, eq⟩ := bridge hO hN hL hd1 hu1 h2 hc hr
  obtain ⟨K, hK⟩ : ∃ K : Nat → V4, K = fun r => vS k (vC E (G r)) := ⟨_, rfl⟩
  have s : ∀ x, spn F x ↔ spn K x := fun x => by
    rw [← latS_spn (M := L) (by omega), eq x L hL, hK]
    constructor
    · rintro ⟨c, hc⟩
      refine ⟨c, ?_⟩
      rw [vS_rows (E := fun r => vC E (G r))]
      rw [hk, ← vS_vS] at hc
      exact vS_cancel (show M ≠ 0 by omega) hc
    · rintro ⟨c, hc⟩
      refine ⟨c, ?_⟩
      rw [vS_rows (E := fun r => vC E (G r))] at hc
      rw [hc, vS_vS, hk]
  have z := tri_z tE
  have zG := tri_z tG
  have e : ∀ r, r < 4 → (∀ i, i < r → vg i (K r) = 0) ∧ vg r (K r) = k * (vg r (E r) * vg r (G r)) := by
    have f : ∀ r i, r < 4 → i < 4 → vg i (K r) = k * (vg 0 (G r) * vg i (E 0) + (vg 1 (G r) * vg i (E 1) + (vg 2 (G r) * vg i (E 2) + vg 3 (G r) * vg i (E 3)))) := fun r i _ hi => by
      rw [hK]
      show vg i (vS k (vC E (G r))) = _
      rw [vg_vS _ _ hi, vg_vC _ _ hi]
    intro r hr4
    rcases (show r = 0 ∨ r = 1 ∨ r = 2 ∨ r = 3 by omega) with rfl | rfl | rfl | rfl
    · refine ⟨fun i hi => by omega, ?_⟩
      rw [f 0 0 (by omega) (by omega), z 1 0 (by omega) (by omega), z 2 0 (by omega) (by omega), z 3 0 (by omega) (by omega), Int.mul_comm (vg 0 (E 0))]
      simp
    · refine ⟨fun i hi => ?_, ?_⟩
      · obtain rfl : i = 0 := by omega
        rw [f 1 0 (by omega) (by omega), z 1 0 (by omega) (by omega), z 2 0 (by omega) (by omega), z 3 0 (by omega) (by omega), zG 1 0 (by omega) (by omega)]
        simp
      · rw [f 1 1 (by omega) (by omega), z 2 1 (by omega) (by omega), z 3 1 (by omega) (by omega), zG 1 0 (by omega) (by omega), Int.mul_comm (vg 1 (E 1))]
        simp
    · refine ⟨fun i hi => ?_, ?_⟩
      · rcases (show i = 0 ∨ i = 1 by omega) with rfl | rfl
        · rw [f 2 0 (by omega) (by omega), z 1 0 (by omega) (by omega), z 2 0 (by omega) (by omega), z 3 0 (by omega) (by omega), zG 2 0 (by omega) (by omega)]
          simp
        · rw [f 2 1 (by omega) (by omega), z 2 1 (by omega) (by omega), z 3 1 (by omega) (by omega), zG 2 0 (by omega) (by omega), zG 2 1 (by omega) (by omega)]
          simp
      · rw [f 2 2 (by omega) (by omega), z 3 2 (by omega) (by omega), zG 2 0 (by omega) (by omega), zG 2 1 (by omega) (by omega), Int.mul_comm (vg 2 (E 2))]
        simp
    · refine ⟨fun i hi => ?_, ?_⟩
      · rcases (show i = 0 ∨ i = 1 ∨ i = 2 by omega) with rfl | rfl | rfl
        · rw [f 3 0 (by omega) (by omega), z 1 0 (by omega) (by omega), z 2 0 (by omega) (by omega), z 3 0 (by omega) (by omega), zG 3 0 (by omega) (by omega)]
          simp
        · rw [f 3 1 (by omega) (by omega), z 2 1 (by omega) (by omega), z 3 1 (by omega) (by omega), zG 3 0 (by omega) (by omega), zG 3 1 (by omega) (by omega)]
          simp
        · rw [f 3 2 (by omega) (by omega), z 3 2 (by omega) (by omega), zG 3 0 (by omega) (by omega), zG 3 1 (by omega) (by omega), zG 3 2 (by omega) (by omega)]
          simp
      · rw [f 3 3 (by omega) (by omega), zG 3 0 (by omega) (by omega), zG 3 1 (by omega) (by omega), zG 3 2 (by omega) (by omega), Int.mul_comm (vg 3 (E 3))]
        simp
  have tK : Tri K := tri_mk (fun r hr4 => by
    rw [(e r hr4).2]
    exact Int.mul_pos k0 (Int.mul_pos (tri_d tE r hr4) (tri_d tG r hr4))) (fun r i hi hr4 => (e r hr4).1 i hi)
  intro r hr4
  obtain ⟨c1, g1, g2⟩ := diag_mul tF tK (fun x => (s x).mp) r hr4
  obtain ⟨c2, g3, g4⟩ := diag_mul tK tF (fun x => (s x).mpr) r hr4
  have p1 := tri_d tF r hr4
  have p2 := tri_d tK r hr4
  have a1 := Int.mul_le_mul_of_nonneg_right g1 (show 0 ≤ vg r (K r) by omega)
  have a2 := Int.mul_le_mul_of_nonneg_right g3 (show 0 ≤ vg r (F r) by omega)
  have : vg r (F r) = vg r (K r) := by omega
  rw [this, (e r hr4).2, kL, Int.mul_assoc]
/-- a left ideal is one -/
theorem left_mul {a b M N L d1 d2 : Int} {E F : Nat → V4} {u1 u2 : V4} {P2 : Prop} (hO : Ord a b M E) (hN : 0 < N) (hL : 0 < L) (hd1 : 0 < d1) (hd2 : P2 → 0 < d2) (hr : rfG a b M N E L F u1 d1 P2 u2 d2) : ∀ s y K, s < 4 → 0 < K → latS L F y K → latS L F (vM a b (E s) y) (M * K) := by
  obtain ⟨⟨⟨M0, tE, rI, uE⟩, -, -⟩, hC, hW⟩ := ord_ok hO
  have g : Grp (latS L F) := latS_grp
  have hself := (hr _ latS_grp).mp (subL_self L F)
  have sg : ∀ s, Grp (fun y K => latS L F (vM a b (E s) y) (M * K)) := fun s => by
    refine ⟨fun K hK => ?_, fun x y K hK hx hy => ?_, fun k x K hK hx => ?_, fun k x K hK hk => ?_⟩
    · have e : vM a b (E s) v0 = v0 := by apply vext <;> simp [vM, v0]
      show latS L F (vM a b (E s) v0) (M * K)
      rw [e]
      exact g.1 _ (Int.mul_pos M0 hK)
    · show latS L F (vM a b (E s) (vA x y)) (M * K)
      rw [vM_addr]
      exact g.2.1 _ _ _ (Int.mul_pos M0 hK) hx hy
    · show latS L F (vM a b (E s) (vS k x)) (M * K)
      rw [vM_sr]
      exact g.2.2.1 _ _ _ (Int.mul_pos M0 hK) hx
    · show latS L F (vM a b (E s) (vS k x)) (M * (k * K)) ↔ latS L F (vM a b (E s) x) (M * K)
      rw [vM_sr, Int.mul_left_comm]
      exact g.2.2.2 k _ _ (Int.mul_pos M0 hK) hk
  -- what an order's element times a maker is
  have gen : ∀ u d, 0 < d → (∀ r, r < 4 → latS L F (vM a b (E r) u) (M * d)) → ∀ x K, 0 < K → latS M E x K → latS L F (vM a b x u) (K * d) := fun u d hd h x K hK hx => by
    have s2 : Grp (fun x K => latS L F (vM a b x u) (K * d)) := by
      refine ⟨fun K hK => ?_, fun x y K hK hx hy => ?_, fun k x K hK hx => ?_, fun k x K hK hk => ?_⟩
      · have e : vM a b v0 u = v0 := by apply vext <;> simp [vM, v0]
        show latS L F (vM a b v0 u) (K * d)
        rw [e]
        exact g.1 _ (Int.mul_pos hK hd)
      · show latS L F (vM a b (vA x y) u) (K * d)
        rw [vM_addl]
        exact g.2.1 _ _ _ (Int.mul_pos hK hd) hx hy
      · show latS L F (vM a b (vS k x) u) (K * d)
        rw [vM_sl]
        exact g.2.2.1 _ _ _ (Int.mul_pos hK hd) hx
      · show latS L F (vM a b (vS k x) u) (k * K * d) ↔ latS L F (vM a b x u) (K * d)
        rw [vM_sl, Int.mul_assoc]
        exact g.2.2.2 k _ _ (Int.mul_pos hK hd) hk
    exact (subL_lat M0 s2).mp (fun r hr4 => h r hr4) x K hK hx
  have asc : ∀ x y z : V4, vM a b x (vM a b y z) = vM a b (vM a b x y) z := fun x y z => by apply vext <;> simp only [vM] <;> grind
  have all : ∀ s, s < 4 → subL L F (fun y K => latS L F (vM a b (E s) y) (M * K)) := fun s hs => by
    have pr := fun r (hr4 : r < 4) => hC (E s) (E r) M M M0 M0 (latS_row hs) (latS_row hr4)
    have gg : ∀ u d, 0 < d → (∀ r, r < 4 → latS L F (vM a b (E r) u) (M * d)) → ∀ r, r < 4 → latS L F (vM a b (E s) (vM a b (E r) u)) (M * (M * d)) := fun u d hd h r hr4 => by
      rw [asc, ← Int.mul_assoc]
      exact gen u d hd h _ _ (Int.mul_pos M0 M0) (pr r hr4)
    refine (hr _ (sg s)).mpr ⟨fun r hr4 => ?_, gg u1 d1 hd1 hself.2.1, fun p => gg u2 d2 (hd2 p) (hself.2.2 p)⟩
    show latS L F (vM a b (E s) (vS N (E r))) (M * M)
    rw [vM_sr]
    have sN : Grp (fun x K => latS L F (vS N x) K) := by
      refine ⟨fun K hK => ?_, fun x y K hK hx hy => ?_, fun k x K hK hx => ?_, fun k x K hK hk => ?_⟩
      · show latS L F (vS N v0) K
        rw [vS_v0]
        exact g.1 _ hK
      · show latS L F (vS N (vA x y)) K
        rw [vS_vA]
        exact g.2.1 _ _ _ hK hx hy
      · show latS L F (vS N (vS k x)) K
        rw [vS_comm]
        exact g.2.2.1 _ _ _ hK hx
      · show latS L F (vS N (vS k x)) (k * K) ↔ latS L F (vS N x) K
        rw [vS_comm]
        exact g.2.2.2 k _ _ hK hk
    exact (subL_lat M0 sN).mp (fun r hr4 => hself.1 r hr4) _ _ (Int.mul_pos M0 M0) (pr r hr4)
  exact fun s y K hs hK h => (subL_lat hL (sg s)).mp (all s hs) y K hK h
/-- a factor from the right: one side, both sides -/
theorem two_side {a b M N L d1 d2 d : Int} {E F : Nat → V4} {u1 u2 u : V4} {P2 : Prop} (hO : Ord a b M E) (hN : 0 < N) (hL : 0 < L) (hd1 : 0 < d1) (hd2 : P2 → 0 < d2) (hr : rfG a b M N E L F u1 d1 P2 u2 d2) (hd : 0 < d) : (∀ r, r < 4 → latS L F (vM a b u (E r)) (M * d)) ↔ ∀ s r, s < 4 → r < 4 → latS L F (vM a b (vM a b (E s) u) (E r)) (M * d * M) := by
  obtain ⟨⟨⟨M0, tE, rI, uE⟩, -, -⟩, hC, hW⟩ := ord_ok hO
  have g : Grp (latS L F) := latS_grp
  have asc : ∀ x y z : V4, vM a b x (vM a b y z) = vM a b (vM a b x y) z := fun x y z => by apply vext <;> simp only [vM] <;> grind
  constructor
  · intro h s r hs hr4
    have := left_mul hO hN hL hd1 hd2 hr s _ _ hs (Int.mul_pos M0 hd) (h r hr4)
    rw [asc, show M * (M * d) = M * d * M by grind] at this
    exact this
  · intro h r hr4
    have s2 : Grp (fun x K => latS L F (vM a b (vM a b x u) (E r)) (K * d * M)) := by
      refine ⟨fun K hK => ?_, fun x y K hK hx hy => ?_, fun k x K hK hx => ?_, fun k x K hK hk => ?_⟩
      · have e : vM a b (vM a b v0 u) (E r) = v0 := by apply vext <;> simp [vM, v0]
        show latS L F (vM a b (vM a b v0 u) (E r)) (K * d * M)
        rw [e]
        exact g.1 _ (Int.mul_pos (Int.mul_pos hK hd) M0)
      · show latS L F (vM a b (vM a b (vA x y) u) (E r)) (K * d * M)
        rw [vM_addl, vM_addl]
        exact g.2.1 _ _ _ (Int.mul_pos (Int.mul_pos hK hd) M0) hx hy
      · show latS L F (vM a b (vM a b (vS k x) u) (E r)) (K * d * M)
        rw [vM_sl, vM_sl]
        exact g.2.2.1 _ _ _ (Int.mul_pos (Int.mul_pos hK hd) M0) hx
      · show latS L F (vM a b (vM a b (vS k x) u) (E r)) (k * K * d * M) ↔ latS L F (vM a b (vM a b x u) (E r)) (K * d * M)
        rw [vM_sl, vM_sl, show k * K * d * M = k * (K * d * M) by grind]
        exact g.2.2.2 k _ _ (Int.mul_pos (Int.mul_pos hK hd) M0) hk
    have one := (subL_lat M0 s2).mp (fun s hs => h s r hs hr4) (vE 0) 1 (by omega) (uni_of uE 0 (by omega))
    have e : vM a b (vM a b (vE 0) u) (E r) = vM a b u (E r) := by
      have : vM a b (vE 0) u = u := by apply vext <;> simp [vM, vE]
      rw [this]
    have one' : latS L F (vM a b (vM a b (vE 0) u) (E r)) (1 * d * M) := one
    rw [e, Int.one_mul, Int.mul_comm] at one'
    exact one'
