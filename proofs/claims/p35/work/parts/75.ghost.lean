/-! THE GHOST ROWS: what the text tells; what follows from it -/
def ghF (xs : Nat → Int32) (L k : Nat) : Int := if k < 3 then freeV xs L (4 * k) else if k < 5 then qv (someV xs L (20 + (k - 3)) 6).toNat else (lawN xs L : Int)
def ghS (xs : Nat → Int32) (L k : Nat) : Int := if k < 3 then freeV xs L (4 * k + 2) else if k < 5 then (if someV xs L (22 + (k - 3)) 2 = 0 then -(1 + someV xs L (24 + (k - 3)) 999) else 1 + someV xs L (24 + (k - 3)) 999) else 0
def ghK (k : Nat) : Int := if k < 3 then 0 else if k < 5 then 1 else 2
def ghG (xs : Nat → Int32) (L j : Nat) : Int := if someV xs L (36 + (j - 20)) 2 = 0 then 1 else -1
def ghP (xs : Nat → Int32) (L j : Nat) : Int := someV xs L (31 + (j - 20)) 5
def ghost (xs : Nat → Int32) (L : Nat) : mSt := fun i k => if i = 257 then ghK k else if i = 258 then ghF xs L k else if i = 259 then ghS xs L k else if i = 260 then ghG xs L k else if i = 261 then ghP xs L k else 0
def GH (σ : mSt) (xs : Nat → Int32) (L : Nat) : Prop := (σ 257 = ghK ∧ σ 258 = ghF xs L ∧ σ 259 = ghS xs L ∧ σ 260 = ghG xs L ∧ σ 261 = ghP xs L) ∧ (∀ k, k < 3 → σ 254 k = ghF xs L k ∧ σ 255 k = ghS xs L k) ∧ ∀ gh, σ 256 = lawB gh xs L (lawN xs L) 256
theorem lawB_256 (gh gh' : mSt) (xs : Nat → Int32) (L : Nat) : ∀ n, lawB gh xs L n 256 = lawB gh' xs L n 256
  | 0 => by show upR _ 256 256 = upR _ 256 256; rw [upR_new, upR_new]
  | n + 1 => by
    show upS (lawB gh xs L n) 256 _ _ 256 = upS (lawB gh' xs L n) 256 _ _ 256
    funext o
    unfold upS
    rw [lawB_256 gh gh' xs L n]
theorem sqf_fr_t : ∀ v : Fin 61, 1 ≤ v.val → ∀ k : Fin 8, 2 ≤ k.val → (frL 60 (v.val : Int)) % ((k.val : Int) * (k.val : Int)) ≠ 0 ∧ (-(frL 60 (v.val : Int))) % ((k.val : Int) * (k.val : Int)) ≠ 0 := by decide +kernel
theorem free_side (xs : Nat → Int32) (L k : Nat) : freeV xs L k ≠ 0 ∧ -60 ≤ freeV xs L k ∧ freeV xs L k ≤ 60 ∧ sqf (freeV xs L k) := by
  obtain ⟨h1, h2, h3, h4⟩ := freeV_ok xs L k
  refine ⟨h3, h1, h2, fun d hd hd2 => ?_⟩
  obtain ⟨q, rfl⟩ := Int.eq_ofNat_of_zero_le (show 0 ≤ d by omega)
  have h := someV_rng (xs := xs) (L := L) (k := k) (n := 60) (by decide)
  have e : (((⟨(1 + someV xs L k 60).toNat, by omega⟩ : Fin 61).val : Nat) : Int) = 1 + someV xs L k 60 := by show (((1 + someV xs L k 60).toNat : Nat) : Int) = _; omega
  have h5 := sqf_fr_t ⟨(1 + someV xs L k 60).toNat, by omega⟩ (by show 1 ≤ (1 + someV xs L k 60).toNat; omega) ⟨q, by omega⟩ (by show 2 ≤ q; omega)
  rw [e] at h5
  unfold freeV
  split
  · exact h5.1
  · exact h5.2
theorem qv_qs : ∀ j, j < 6 → qv j ∈ qs := by decide
theorem ghS_cy (xs : Nat → Int32) (L k : Nat) (h : 3 ≤ k ∧ k < 5) : ghS xs L k ≠ 0 ∧ -999 ≤ ghS xs L k ∧ ghS xs L k ≤ 999 := by
  have hr := someV_rng (xs := xs) (L := L) (k := 24 + (k - 3)) (n := 999) (by decide)
  unfold ghS
  rw [if_neg (by omega), if_pos h.2]
  split <;> omega
theorem ghF_cy (xs : Nat → Int32) (L k : Nat) (h : 3 ≤ k ∧ k < 5) : ghF xs L k ∈ qs := by
  have hr := someV_rng (xs := xs) (L := L) (k := 20 + (k - 3)) (n := 6) (by decide)
  unfold ghF
  rw [if_neg (by omega), if_pos h.2]
  exact qv_qs _ (by omega)
theorem loc_q {σ : mSt} {xs : Nat → Int32} {L k : Nat} (h : GH σ xs L) (hk : k < 3) (p : Int) : loc σ k p = locQ (ghF xs L k) (ghS xs L k) p := by
  obtain ⟨⟨h1, h2, h3, h4, h5⟩, -⟩ := h
  unfold loc
  rw [h1, h2, h3, locF_at, if_pos (by unfold ghK; rw [if_pos hk])]
theorem loc_c {σ : mSt} {xs : Nat → Int32} {L k : Nat} (h : GH σ xs L) (hk : 3 ≤ k ∧ k < 5) (p : Int) : loc σ k p = locC (ghF xs L k) (ghS xs L k) p := by
  obtain ⟨⟨h1, h2, h3, h4, h5⟩, -⟩ := h
  unfold loc
  have e : ghK k = 1 := by unfold ghK; rw [if_neg (by omega), if_pos hk.2]
  rw [h1, h2, h3, locF_at, if_neg (by rw [e]; decide), if_pos e]
def ghO (xs : Nat → Int32) (L i : Nat) : Nat := (someV xs L (31 + i) 5).toNat
def ghg (xs : Nat → Int32) (L i : Nat) : Int := if someV xs L (36 + i) 2 = 0 then 1 else -1
theorem ghO_rng (xs : Nat → Int32) (L i : Nat) : ghO xs L i < 5 := by
  have := someV_rng (xs := xs) (L := L) (k := 31 + i) (n := 5) (by decide)
  unfold ghO; omega
theorem loc_s {σ : mSt} {xs : Nat → Int32} {L : Nat} (h : GH σ xs L) (p : Int) : loc σ 5 p = sumN (fun i => ghg xs L i * loc σ (ghO xs L i) p) (lawN xs L) % 6 := by
  have h' := h
  obtain ⟨⟨h1, h2, h3, h4, h5⟩, -⟩ := h
  have e5 : ghK 5 = 2 := rfl
  have eF : (ghF xs L 5).toNat = lawN xs L := by show ((lawN xs L : Int)).toNat = _; omega
  show locF (σ 257) (σ 258) (σ 259) (σ 260) (σ 261) (8 + 1) 5 p = _
  rw [locF_at, h1, if_neg (by rw [e5]; decide), if_neg (by rw [e5]; decide), h2, eF]
  congr 1
  refine sumN_cg _ (fun i hi => ?_)
  have eG : σ 260 (4 * 5 + i) = ghg xs L i := by rw [h4]; unfold ghG ghg; rw [show 4 * 5 + i - 20 = i by omega]
  have eP : (σ 261 (4 * 5 + i)).toNat = ghO xs L i := by rw [h5]; unfold ghP ghO; rw [show 4 * 5 + i - 20 = i by omega]
  rw [eG, eP]
  congr 1
  have ho := ghO_rng xs L i
  generalize ghO xs L i = k at ho ⊢
  show locF ghK (ghF xs L) (σ 259) (σ 260) (σ 261) (7 + 1) k p = _
  by_cases c : k < 3
  · rw [loc_q h' c, locF_at, if_pos (by unfold ghK; rw [if_pos c]), h3]
  · have e : ghK k = 1 := by unfold ghK; rw [if_neg c, if_pos ho]
    rw [loc_c h' ⟨by omega, ho⟩, locF_at, if_neg (by rw [e]; decide), if_pos e, h3]
theorem dot_sum (gh : mSt) (xs : Nat → Int32) (L : Nat) (y : Nat → Int) : ∀ n : Nat, ((((0 + lawB gh xs L n 256 0 * y 0) + lawB gh xs L n 256 1 * y 1) + lawB gh xs L n 256 2 * y 2) + lawB gh xs L n 256 3 * y 3) + lawB gh xs L n 256 4 * y 4 = sumN (fun i => ghg xs L i * y (ghO xs L i)) n
  | 0 => by
    have e : ∀ o, lawB gh xs L 0 256 o = 0 := fun o => by show upR _ 256 256 o = 0; rw [upR_new]
    rw [e, e, e, e, e]
    simp [sumN]
  | n + 1 => by
    have ih := dot_sum gh xs L y n
    have ho := ghO_rng xs L n
    have e : ∀ o, lawB gh xs L (n + 1) 256 o = if o = ghO xs L n then lawB gh xs L n 256 o + ghg xs L n else lawB gh xs L n 256 o := fun o => by
      show upS (lawB gh xs L n) 256 (ghO xs L n) (lawB gh xs L n 256 (ghO xs L n) + ghg xs L n) 256 o = _
      unfold upS
      by_cases c : o = ghO xs L n
      · rw [if_pos ⟨rfl, c⟩, if_pos c, c]
      · rw [if_neg (fun z => c z.2), if_neg c]
    show _ = sumN (fun i => ghg xs L i * y (ghO xs L i)) n + ghg xs L n * y (ghO xs L n)
    rw [← ih, e, e, e, e, e]
    generalize ghO xs L n = k at ho ⊢
    rcases (show k = 0 ∨ k = 1 ∨ k = 2 ∨ k = 3 ∨ k = 4 by omega) with rfl | rfl | rfl | rfl | rfl <;> simp only [if_pos, reduceIte, Int.add_mul, show (1 : Nat) ≠ 0 by decide, show (2 : Nat) ≠ 0 by decide, show (3 : Nat) ≠ 0 by decide, show (4 : Nat) ≠ 0 by decide, show (0 : Nat) ≠ 1 by decide, show (2 : Nat) ≠ 1 by decide, show (3 : Nat) ≠ 1 by decide, show (4 : Nat) ≠ 1 by decide, show (0 : Nat) ≠ 2 by decide, show (1 : Nat) ≠ 2 by decide, show (3 : Nat) ≠ 2 by decide, show (4 : Nat) ≠ 2 by decide, show (0 : Nat) ≠ 3 by decide, show (1 : Nat) ≠ 3 by decide, show (2 : Nat) ≠ 3 by decide, show (4 : Nat) ≠ 3 by decide, show (0 : Nat) ≠ 4 by decide, show (1 : Nat) ≠ 4 by decide, show (2 : Nat) ≠ 4 by decide, show (3 : Nat) ≠ 4 by decide] <;> omega
theorem GH.TI {σ : mSt} {xs : Nat → Int32} {L : Nat} (h : GH σ xs L) : TI σ := by
  have hN := lawN_rng xs L
  have h6 := h.2.2 (fun _ _ => 0)
  refine ⟨fun o ho => ?_, fun p hp => ?_⟩
  · have := lawB_rng (fun _ _ => 0) xs L (lawN xs L) o
    rw [h6]
    omega
  · rw [loc_s h p]
    have := dot_sum (fun _ _ => 0) xs L (fun k => loc σ k p) (lawN xs L)
    rw [← this, ← h6]
    rfl
theorem sumN_add (f g : Nat → Int) : ∀ n : Nat, sumN (fun i => f i + g i) n = sumN f n + sumN g n
  | 0 => rfl
  | n + 1 => by
    have := sumN_add f g n
    show sumN (fun i => f i + g i) n + (f n + g n) = (sumN f n + f n) + (sumN g n + g n)
    omega
theorem sumN_6 {f : Nat → Int} : ∀ n : Nat, (∀ i, i < n → f i % 6 = 0) → sumN f n % 6 = 0
  | 0, _ => rfl
  | n + 1, h => by
    have h1 := sumN_6 n (fun i hi => h i (by omega))
    have h2 := h n (by omega)
    show (sumN f n + f n) % 6 = 0
    omega
theorem tot_q {σ : mSt} {xs : Nat → Int32} {L k s : Nat} (h : GH σ xs L) (hP : iPlaces σ 6 s) (hk : k < 3) : sumN (lx σ k) s % 6 = 0 := by
  rw [list_tot hP (by omega)]
  have e : (fun o : Nat => b2 (place (o : Int)) * loc σ k (o : Int)) = fQ2 (ghF xs L k) (ghS xs L k) := by
    funext o
    rw [loc_q h hk]
    rfl
  rw [e]
  have e1 : ghF xs L k = freeV xs L (4 * k) := by unfold ghF; rw [if_pos hk]
  have e2 : ghS xs L k = freeV xs L (4 * k + 2) := by unfold ghS; rw [if_pos hk]
  rw [e1, e2]
  exact pair_tot (free_side xs L _) (free_side xs L _)
theorem sumN_one {c : Int} {q : Nat} : ∀ n : Nat, sumN (fun o => if o = q then c else 0) n = if q < n then c else 0
  | 0 => rfl
  | n + 1 => by
    have := sumN_one (c := c) (q := q) n
    show sumN (fun o => if o = q then c else 0) n + (if n = q then c else 0) = _
    rw [this]
    by_cases h1 : q < n
    · rw [if_pos h1, if_neg (by omega), if_pos (by omega), Int.add_zero]
    · rw [if_neg h1]
      by_cases h2 : n = q
      · rw [if_pos h2, if_pos (by omega), Int.zero_add]
      · rw [if_neg h2, if_neg (by omega)]; rfl
theorem tot_c {σ : mSt} {xs : Nat → Int32} {L k s : Nat} (h : GH σ xs L) (hP : iPlaces σ 6 s) (hk : 3 ≤ k ∧ k < 5) : sumN (lx σ k) s % 6 = 0 := by
  rw [list_tot hP (by omega)]
  have hq := ghF_cy xs L k hk
  obtain ⟨hqp, hq1⟩ := qs_prm hq
  generalize hqe : ghF xs L k = q at hq hqp hq1
  generalize hbe : ghS xs L k = b
  obtain ⟨S, hS⟩ : ∃ S, S = sumN (fun o => b2 (prm o ∧ (o : Int) ≠ q ∧ (o : Int) ∣ b) * locC1 q b o) 1000 := ⟨_, rfl⟩
  have hq0 := hqp.1
  have e : sumN (fun o : Nat => b2 (place (o : Int)) * loc σ k (o : Int)) 1000 = sumN (fun o : Nat => b2 (prm o ∧ (o : Int) ≠ q ∧ (o : Int) ∣ b) * locC1 q b o + (if o = q.toNat then (-S) % 6 else 0)) 1000 := by
    refine sumN_cg 1000 (fun o ho => ?_)
    rw [loc_c h hk, hqe, hbe]
    unfold locC
    rw [← hS]
    by_cases c0 : (o : Int) = 0
    · have n0 : ¬ prm (o : Int) := fun z => by have := z.1; omega
      rw [if_pos c0, Int.mul_zero, b2_f (fun z => n0 z.1), if_neg (by omega), Int.zero_mul]; rfl
    · rw [if_neg c0]
      by_cases cq : (o : Int) = q
      · rw [if_pos cq, b2_t (p := place (o : Int)) (Or.inr ⟨by rw [cq]; exact hqp, by omega⟩), b2_f (fun z => z.2.1 cq), if_pos (by omega), Int.one_mul, Int.zero_mul, Int.zero_add]
      · rw [if_neg cq, if_neg (by omega), Int.add_zero]
        by_cases cp : prm (o : Int)
        · rw [b2_t (p := place (o : Int)) (Or.inr ⟨cp, by omega⟩), Int.one_mul]
          by_cases cd : (o : Int) ∣ b
          · rw [b2_t ⟨cp, cq, cd⟩, Int.one_mul]
          · rw [locC1_0 cd, Int.mul_zero]
        · rw [b2_f (p := place (o : Int)) (fun z => z.elim c0 (fun y => cp y.1)), b2_f (p := prm (o : Int) ∧ _) (fun z => cp z.1), Int.zero_mul]
  rw [e, sumN_add, ← hS, sumN_one, if_pos (by omega)]
  omega
theorem tot_s {σ : mSt} {xs : Nat → Int32} {L s : Nat} (h : GH σ xs L) (h5 : ∀ k, k < 5 → sumN (lx σ k) s % 6 = 0) : sumN (lx σ 5) s % 6 = 0 := by
  have key : ∀ n : Nat, sumN (lx σ 5) n % 6 = sumN (fun i => ghg xs L i * sumN (lx σ (ghO xs L i)) n) (lawN xs L) % 6 := by
    intro n
    induction n with
    | zero =>
      rw [sumN_0 (f := fun i => ghg xs L i * sumN (lx σ (ghO xs L i)) 0) (lawN xs L) (fun i hi => Int.mul_zero _)]
      rfl
    | succ n ih =>
      have e : (fun i => ghg xs L i * sumN (lx σ (ghO xs L i)) (n + 1)) = fun i => ghg xs L i * sumN (lx σ (ghO xs L i)) n + ghg xs L i * lx σ (ghO xs L i) n := by
        funext i
        show _ * (sumN (lx σ (ghO xs L i)) n + lx σ (ghO xs L i) n) = _
        rw [Int.mul_add]
      have e2 : lx σ 5 n = sumN (fun i => ghg xs L i * lx σ (ghO xs L i) n) (lawN xs L) % 6 := loc_s h _
      rw [e, sumN_add]
      show (sumN (lx σ 5) n + lx σ 5 n) % 6 = _
      rw [e2]
      omega
  rw [key]
  refine sumN_6 _ (fun i hi => ?_)
  have := h5 _ (ghO_rng xs L i)
  obtain ⟨q, hq⟩ := Int.dvd_of_emod_eq_zero this
  rw [hq, show ghg xs L i * (6 * q) = 6 * (ghg xs L i * q) by rw [Int.mul_left_comm]]
  exact Int.mul_emod_right _ _
theorem odF_0 {X : Nat → Int} : ∀ n : Nat, odF X n = 0 → ∀ j, j < n → X j % 2 ≠ 1
  | 0, _, j, hj => by omega
  | n + 1, h, j, hj => by
    have h' : (if X n % 2 = 1 then 1 else odF X n) = 0 := h
    by_cases c : X n % 2 = 1
    · rw [if_pos c] at h'; cases h'
    · rw [if_neg c] at h'
      by_cases e : j = n
      · rw [e]; exact c
      · exact odF_0 n h' j (by omega)
theorem thF_0 {X : Nat → Int} : ∀ n : Nat, thF X n = 0 → ∀ j, j < n → X j % 3 = 0
  | 0, _, j, hj => by omega
  | n + 1, h, j, hj => by
    have h' : (if X n % 3 = 0 then thF X n else 1) = 0 := h
    by_cases c : X n % 3 = 0
    · rw [if_pos c] at h'
      by_cases e : j = n
      · rw [e]; exact c
      · exact thF_0 n h' j (by omega)
    · rw [if_neg c] at h'; cases h'
theorem gOT_6 : ∀ o ∈ [(0 : Int), 1], ∀ t ∈ [(0 : Int), 1], 6 / gOT o t = 1 → o = 0 ∧ t = 0 := by decide
theorem sol_q {σ : mSt} {xs : Nat → Int32} {L k s : Nat} (h : GH σ xs L) (hP : iPlaces σ 6 s) (hk : k < 3) (hi : 6 / gdF (lx σ k) s 0 6 = 1) : soZ (σ 258 k) (σ 259 k) 8 0 ≠ none := by
  have hg := gdF_ot (lx σ k) (lx_in σ k) s 0
  rw [show gOT (odF (lx σ k) 0) (thF (lx σ k) 0) = 6 from (show gOT 0 0 = 6 by decide), Nat.zero_add] at hg
  rw [hg] at hi
  have ho : odF (lx σ k) s ∈ [(0 : Int), 1] := by have := odF_01 (lx σ k) s; simp; exact this
  have hth : thF (lx σ k) s ∈ [(0 : Int), 1] := by have := thF_01 (lx σ k) s; simp; exact this
  obtain ⟨g1, g2⟩ := gOT_6 _ ho _ hth hi
  have z : ∀ j, j < s → lx σ k j = 0 := fun j hj => by
    have a1 := odF_0 s g1 j hj
    have a2 := thF_0 s g2 j hj
    have a3 := lx_rng σ k j
    omega
  rw [h.1.2.1, h.1.2.2.1]
  have e1 : ghF xs L k = freeV xs L (4 * k) := by unfold ghF; rw [if_pos hk]
  have e2 : ghS xs L k = freeV xs L (4 * k + 2) := by unfold ghS; rw [if_pos hk]
  rw [e1, e2]
  refine pair_sol (free_side xs L _) (free_side xs L _) (fun p hp => ?_)
  rw [← e1, ← e2, ← loc_q h hk p]
  by_cases c : ∃ j, j < s ∧ σ 102 j = p
  · obtain ⟨j, hj, hj2⟩ := c
    rw [← hj2]; exact z j hj
  · exact hP.2.2.2.2.2 k p (by omega) hp (fun j hj z => c ⟨j, hj, z⟩)
theorem tail_ok {σ : mSt} {xs : Nat → Int32} {L B s : Nat} (h : GH σ xs L) (hC : CI σ B s) : ∃ out : Int × mSt, out.1 = 1 ∧ mTail 0 254 255 256 σ = some out := by
  have t5 : ∀ k, k < 5 → sumN (lx σ k) s % 6 = 0 := fun k hk => by
    by_cases c : k < 3
    · exact tot_q h hC.2.2 c
    · exact tot_c h hC.2.2 ⟨by omega, hk⟩
  refine mTail_e (B := B) (s := s) ⟨hC, fun k hk => ⟨?_, ?_, ?_, sol_q h hC.2.2 hk⟩, ?_, ?_⟩ h.TI (fun k hk => ?_)
  · rw [h.1.1]; unfold ghK; rw [if_pos hk]
  · rw [(h.2.1 k hk).1, h.1.2.1]
  · rw [(h.2.1 k hk).2, h.1.2.2.1]
  · rw [h.1.1]; rfl
  · rw [h.1.1]; rfl
  · by_cases c : k < 5
    · exact t5 k c
    · rw [show k = 5 by omega]; exact tot_s h t5
