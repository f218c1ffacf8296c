theorem myL_algebra : mYW yL_algebra cL_algebra 5 [(0, 10, 13, 13)] 4 := ⟨mTs_in 1152 (by decide +kernel) (by decide +kernel), mTs_in 115 (by decide +kernel) (by decide +kernel), ⟨by decide, by decide⟩, by decide +kernel, mTs_in 1151 (by decide +kernel) (by decide +kernel)⟩
theorem lkL_7 : Cond.methodLink RL 7 yX11_algebra ∈ mTs := mTs_in 1154 (by decide +kernel) (by decide +kernel)
theorem myX11_algebra : mYV yX11_algebra cX11_algebra 3 (some .int) 2 := ⟨⟨mTs_in 1157 (by decide +kernel) (by decide +kernel), mTs_in 116 (by decide +kernel) (by decide +kernel), ⟨by decide, by decide⟩, by decide +kernel⟩, mTs_in 1155 (by decide +kernel) (by decide +kernel), mTs_in 1156 (by decide +kernel) (by decide +kernel)⟩
theorem lw_cast : Cond.castable nse nse ∈ mTs := mTs_in 1160 (by decide +kernel) (by decide +kernel)
theorem lw_clk : Cond.classLink RL 13 nse ∈ mTs := mTs_in 1153 (by decide +kernel) (by decide +kernel)
theorem myL_element : mYW yL_element cL_element 5 [(0, 10, 13, 13)] 4 := ⟨mTs_in 1225 (by decide +kernel) (by decide +kernel), mTs_in 115 (by decide +kernel) (by decide +kernel), ⟨by decide, by decide⟩, by decide +kernel, mTs_in 1224 (by decide +kernel) (by decide +kernel)⟩
theorem lkL_15 : Cond.methodLink RL 15 yX11_element ∈ mTs := mTs_in 1226 (by decide +kernel) (by decide +kernel)
theorem myX11_element : mYV yX11_element cX11_element 4 (some .int) 2 := ⟨⟨mTs_in 1229 (by decide +kernel) (by decide +kernel), mTs_in 116 (by decide +kernel) (by decide +kernel), ⟨by decide, by decide⟩, by decide +kernel⟩, mTs_in 1227 (by decide +kernel) (by decide +kernel), mTs_in 1228 (by decide +kernel) (by decide +kernel)⟩
theorem myL_norm : mYW yL_norm cL_norm 5 [(0, 9, 12, 13)] 4 := ⟨mTs_in 1232 (by decide +kernel) (by decide +kernel), mTs_in 115 (by decide +kernel) (by decide +kernel), ⟨by decide, by decide⟩, by decide +kernel, mTs_in 1231 (by decide +kernel) (by decide +kernel)⟩
theorem lkL_18 : Cond.methodLink RL 18 yX11_norm ∈ mTs := mTs_in 1233 (by decide +kernel) (by decide +kernel)
theorem myX11_norm : mYV yX11_norm cX11_norm 4 (some .long) 2 := ⟨⟨mTs_in 1236 (by decide +kernel) (by decide +kernel), mTs_in 116 (by decide +kernel) (by decide +kernel), ⟨by decide, by decide⟩, by decide +kernel⟩, mTs_in 1234 (by decide +kernel) (by decide +kernel), mTs_in 1235 (by decide +kernel) (by decide +kernel)⟩
theorem myL_trace : mYW yL_trace cL_trace 5 [(0, 9, 12, 13)] 4 := ⟨mTs_in 1244 (by decide +kernel) (by decide +kernel), mTs_in 115 (by decide +kernel) (by decide +kernel), ⟨by decide, by decide⟩, by decide +kernel, mTs_in 1243 (by decide +kernel) (by decide +kernel)⟩
theorem lkL_22 : Cond.methodLink RL 22 yX11_trace ∈ mTs := mTs_in 1245 (by decide +kernel) (by decide +kernel)
theorem myX11_trace : mYV yX11_trace cX11_trace 4 (some .long) 2 := ⟨⟨mTs_in 1248 (by decide +kernel) (by decide +kernel), mTs_in 116 (by decide +kernel) (by decide +kernel), ⟨by decide, by decide⟩, by decide +kernel⟩, mTs_in 1246 (by decide +kernel) (by decide +kernel), mTs_in 1247 (by decide +kernel) (by decide +kernel)⟩
theorem myL_matrix : mYW yL_matrix cL_matrix 7 [(0, 13, 16, 13)] 6 := ⟨mTs_in 1252 (by decide +kernel) (by decide +kernel), mTs_in 115 (by decide +kernel) (by decide +kernel), ⟨by decide, by decide⟩, by decide +kernel, mTs_in 1251 (by decide +kernel) (by decide +kernel)⟩
theorem lkL_25 : Cond.methodLink RL 25 yX11_matrix ∈ mTs := mTs_in 1253 (by decide +kernel) (by decide +kernel)
theorem myX11_matrix : mYV yX11_matrix cX11_matrix 8 (some .long) 4 := ⟨⟨mTs_in 1256 (by decide +kernel) (by decide +kernel), mTs_in 116 (by decide +kernel) (by decide +kernel), ⟨by decide, by decide⟩, by decide +kernel⟩, mTs_in 1254 (by decide +kernel) (by decide +kernel), mTs_in 1255 (by decide +kernel) (by decide +kernel)⟩
theorem myL_row : mYW yL_row cL_row 6 [(0, 12, 15, 13)] 5 := ⟨mTs_in 1271 (by decide +kernel) (by decide +kernel), mTs_in 115 (by decide +kernel) (by decide +kernel), ⟨by decide, by decide⟩, by decide +kernel, mTs_in 1270 (by decide +kernel) (by decide +kernel)⟩
theorem lkL_29 : Cond.methodLink RL 29 yX11_row ∈ mTs := mTs_in 1272 (by decide +kernel) (by decide +kernel)
theorem myX11_row : mYV yX11_row cX11_row 4 (some .int) 3 := ⟨⟨mTs_in 1275 (by decide +kernel) (by decide +kernel), mTs_in 116 (by decide +kernel) (by decide +kernel), ⟨by decide, by decide⟩, by decide +kernel⟩, mTs_in 1273 (by decide +kernel) (by decide +kernel), mTs_in 1274 (by decide +kernel) (by decide +kernel)⟩
theorem myL_table : mYW yL_table cL_table 7 [(0, 14, 17, 13)] 6 := ⟨mTs_in 1280 (by decide +kernel) (by decide +kernel), mTs_in 115 (by decide +kernel) (by decide +kernel), ⟨by decide, by decide⟩, by decide +kernel, mTs_in 1279 (by decide +kernel) (by decide +kernel)⟩
theorem lkL_33 : Cond.methodLink RL 33 yX11_table ∈ mTs := mTs_in 1281 (by decide +kernel) (by decide +kernel)
theorem myX11_table : mYV yX11_table cX11_table 6 (some .int) 4 := ⟨⟨mTs_in 1284 (by decide +kernel) (by decide +kernel), mTs_in 116 (by decide +kernel) (by decide +kernel), ⟨by decide, by decide⟩, by decide +kernel⟩, mTs_in 1282 (by decide +kernel) (by decide +kernel), mTs_in 1283 (by decide +kernel) (by decide +kernel)⟩
theorem dL_algebra_0 : decode cL_algebra 0 = .ok (.aload_n 3, 1) := by decide +kernel
theorem dL_algebra_1 : decode cL_algebra 1 = .ok (.iconst 0, 1) := by decide +kernel
theorem dL_algebra_2 : decode cL_algebra 2 = .ok (.aload_n 0, 1) := by decide +kernel
theorem dL_algebra_3 : decode cL_algebra 3 = .ok (.iload_n 1, 1) := by decide +kernel
theorem dL_algebra_4 : decode cL_algebra 4 = .ok (.iload_n 2, 1) := by decide +kernel
theorem dL_algebra_5 : decode cL_algebra 5 = .ok (.invokevirtual 7, 3) := by decide +kernel
theorem dL_algebra_8 : decode cL_algebra 8 = .ok (.i2l, 1) := by decide +kernel
theorem dL_algebra_9 : decode cL_algebra 9 = .ok (.lastore, 1) := by decide +kernel
theorem dL_algebra_10 : decode cL_algebra 10 = .ok (.goto 7, 3) := by decide +kernel
theorem dL_algebra_13 : decode cL_algebra 13 = .ok (.astore 4, 2) := by decide +kernel
theorem dL_algebra_15 : decode cL_algebra 15 = .ok (.iconst 1, 1) := by decide +kernel
theorem dL_algebra_16 : decode cL_algebra 16 = .ok (.ireturn, 1) := by decide +kernel
theorem dL_algebra_17 : decode cL_algebra 17 = .ok (.iconst 0, 1) := by decide +kernel
theorem dL_algebra_18 : decode cL_algebra 18 = .ok (.ireturn, 1) := by decide +kernel
theorem dL_element_0 : decode cL_element 0 = .ok (.aload_n 3, 1) := by decide +kernel
theorem dL_element_1 : decode cL_element 1 = .ok (.iconst 0, 1) := by decide +kernel
theorem dL_element_2 : decode cL_element 2 = .ok (.aload_n 0, 1) := by decide +kernel
theorem dL_element_3 : decode cL_element 3 = .ok (.iload_n 1, 1) := by decide +kernel
theorem dL_element_4 : decode cL_element 4 = .ok (.iload_n 2, 1) := by decide +kernel
theorem dL_element_5 : decode cL_element 5 = .ok (.invokevirtual 15, 3) := by decide +kernel
theorem dL_element_8 : decode cL_element 8 = .ok (.i2l, 1) := by decide +kernel
theorem dL_element_9 : decode cL_element 9 = .ok (.lastore, 1) := by decide +kernel
theorem dL_element_10 : decode cL_element 10 = .ok (.goto 7, 3) := by decide +kernel
theorem dL_element_13 : decode cL_element 13 = .ok (.astore 4, 2) := by decide +kernel
theorem dL_element_15 : decode cL_element 15 = .ok (.iconst 1, 1) := by decide +kernel
theorem dL_element_16 : decode cL_element 16 = .ok (.ireturn, 1) := by decide +kernel
theorem dL_element_17 : decode cL_element 17 = .ok (.iconst 0, 1) := by decide +kernel
theorem dL_element_18 : decode cL_element 18 = .ok (.ireturn, 1) := by decide +kernel
theorem dL_norm_0 : decode cL_norm 0 = .ok (.aload_n 3, 1) := by decide +kernel
theorem dL_norm_1 : decode cL_norm 1 = .ok (.iconst 0, 1) := by decide +kernel
theorem dL_norm_2 : decode cL_norm 2 = .ok (.aload_n 0, 1) := by decide +kernel
theorem dL_norm_3 : decode cL_norm 3 = .ok (.iload_n 1, 1) := by decide +kernel
theorem dL_norm_4 : decode cL_norm 4 = .ok (.iload_n 2, 1) := by decide +kernel
theorem dL_norm_5 : decode cL_norm 5 = .ok (.invokevirtual 18, 3) := by decide +kernel
theorem dL_norm_8 : decode cL_norm 8 = .ok (.lastore, 1) := by decide +kernel
theorem dL_norm_9 : decode cL_norm 9 = .ok (.goto 7, 3) := by decide +kernel
theorem dL_norm_12 : decode cL_norm 12 = .ok (.astore 4, 2) := by decide +kernel
theorem dL_norm_14 : decode cL_norm 14 = .ok (.iconst 1, 1) := by decide +kernel
theorem dL_norm_15 : decode cL_norm 15 = .ok (.ireturn, 1) := by decide +kernel
theorem dL_norm_16 : decode cL_norm 16 = .ok (.iconst 0, 1) := by decide +kernel
theorem dL_norm_17 : decode cL_norm 17 = .ok (.ireturn, 1) := by decide +kernel
theorem dL_trace_0 : decode cL_trace 0 = .ok (.aload_n 3, 1) := by decide +kernel
theorem dL_trace_1 : decode cL_trace 1 = .ok (.iconst 0, 1) := by decide +kernel
theorem dL_trace_2 : decode cL_trace 2 = .ok (.aload_n 0, 1) := by decide +kernel
theorem dL_trace_3 : decode cL_trace 3 = .ok (.iload_n 1, 1) := by decide +kernel
theorem dL_trace_4 : decode cL_trace 4 = .ok (.iload_n 2, 1) := by decide +kernel
theorem dL_trace_5 : decode cL_trace 5 = .ok (.invokevirtual 22, 3) := by decide +kernel
theorem dL_trace_8 : decode cL_trace 8 = .ok (.lastore, 1) := by decide +kernel
theorem dL_trace_9 : decode cL_trace 9 = .ok (.goto 7, 3) := by decide +kernel
theorem dL_trace_12 : decode cL_trace 12 = .ok (.astore 4, 2) := by decide +kernel
theorem dL_trace_14 : decode cL_trace 14 = .ok (.iconst 1, 1) := by decide +kernel
theorem dL_trace_15 : decode cL_trace 15 = .ok (.ireturn, 1) := by decide +kernel
theorem dL_trace_16 : decode cL_trace 16 = .ok (.iconst 0, 1) := by decide +kernel
theorem dL_trace_17 : decode cL_trace 17 = .ok (.ireturn, 1) := by decide +kernel
theorem dL_matrix_0 : decode cL_matrix 0 = .ok (.aload 5, 2) := by decide +kernel
theorem dL_matrix_2 : decode cL_matrix 2 = .ok (.iconst 0, 1) := by decide +kernel
theorem dL_matrix_3 : decode cL_matrix 3 = .ok (.aload_n 0, 1) := by decide +kernel
theorem dL_matrix_4 : decode cL_matrix 4 = .ok (.iload_n 1, 1) := by decide +kernel
theorem dL_matrix_5 : decode cL_matrix 5 = .ok (.iload_n 2, 1) := by decide +kernel
theorem dL_matrix_6 : decode cL_matrix 6 = .ok (.iload_n 3, 1) := by decide +kernel
theorem dL_matrix_7 : decode cL_matrix 7 = .ok (.iload 4, 2) := by decide +kernel
theorem dL_matrix_9 : decode cL_matrix 9 = .ok (.invokevirtual 25, 3) := by decide +kernel
theorem dL_matrix_12 : decode cL_matrix 12 = .ok (.lastore, 1) := by decide +kernel
theorem dL_matrix_13 : decode cL_matrix 13 = .ok (.goto 7, 3) := by decide +kernel
theorem dL_matrix_16 : decode cL_matrix 16 = .ok (.astore 6, 2) := by decide +kernel
theorem dL_matrix_18 : decode cL_matrix 18 = .ok (.iconst 1, 1) := by decide +kernel
theorem dL_matrix_19 : decode cL_matrix 19 = .ok (.ireturn, 1) := by decide +kernel
theorem dL_matrix_20 : decode cL_matrix 20 = .ok (.iconst 0, 1) := by decide +kernel
theorem dL_matrix_21 : decode cL_matrix 21 = .ok (.ireturn, 1) := by decide +kernel
theorem dL_row_0 : decode cL_row 0 = .ok (.aload 4, 2) := by decide +kernel
theorem dL_row_2 : decode cL_row 2 = .ok (.iconst 0, 1) := by decide +kernel
theorem dL_row_3 : decode cL_row 3 = .ok (.aload_n 0, 1) := by decide +kernel
theorem dL_row_4 : decode cL_row 4 = .ok (.iload_n 1, 1) := by decide +kernel
theorem dL_row_5 : decode cL_row 5 = .ok (.iload_n 2, 1) := by decide +kernel
theorem dL_row_6 : decode cL_row 6 = .ok (.iload_n 3, 1) := by decide +kernel
theorem dL_row_7 : decode cL_row 7 = .ok (.invokevirtual 29, 3) := by decide +kernel
theorem dL_row_10 : decode cL_row 10 = .ok (.i2l, 1) := by decide +kernel
theorem dL_row_11 : decode cL_row 11 = .ok (.lastore, 1) := by decide +kernel
theorem dL_row_12 : decode cL_row 12 = .ok (.goto 7, 3) := by decide +kernel
theorem dL_row_15 : decode cL_row 15 = .ok (.astore 5, 2) := by decide +kernel
theorem dL_row_17 : decode cL_row 17 = .ok (.iconst 1, 1) := by decide +kernel
theorem dL_row_18 : decode cL_row 18 = .ok (.ireturn, 1) := by decide +kernel
theorem dL_row_19 : decode cL_row 19 = .ok (.iconst 0, 1) := by decide +kernel
theorem dL_row_20 : decode cL_row 20 = .ok (.ireturn, 1) := by decide +kernel
theorem dL_table_0 : decode cL_table 0 = .ok (.aload 5, 2) := by decide +kernel
theorem dL_table_2 : decode cL_table 2 = .ok (.iconst 0, 1) := by decide +kernel
theorem dL_table_3 : decode cL_table 3 = .ok (.aload_n 0, 1) := by decide +kernel
theorem dL_table_4 : decode cL_table 4 = .ok (.iload_n 1, 1) := by decide +kernel
theorem dL_table_5 : decode cL_table 5 = .ok (.iload_n 2, 1) := by decide +kernel
theorem dL_table_6 : decode cL_table 6 = .ok (.iload_n 3, 1) := by decide +kernel
theorem dL_table_7 : decode cL_table 7 = .ok (.iload 4, 2) := by decide +kernel
theorem dL_table_9 : decode cL_table 9 = .ok (.invokevirtual 33, 3) := by decide +kernel
theorem dL_table_12 : decode cL_table 12 = .ok (.i2l, 1) := by decide +kernel
theorem dL_table_13 : decode cL_table 13 = .ok (.lastore, 1) := by decide +kernel
theorem dL_table_14 : decode cL_table 14 = .ok (.goto 7, 3) := by decide +kernel
theorem dL_table_17 : decode cL_table 17 = .ok (.astore 6, 2) := by decide +kernel
theorem dL_table_19 : decode cL_table 19 = .ok (.iconst 1, 1) := by decide +kernel
theorem dL_table_20 : decode cL_table 20 = .ok (.ireturn, 1) := by decide +kernel
theorem dL_table_21 : decode cL_table 21 = .ok (.iconst 0, 1) := by decide +kernel
theorem dL_table_22 : decode cL_table 22 = .ok (.ireturn, 1) := by decide +kernel
def mL_algebra (v0 : Nat) (v1 : Int) (v2 : Int) (v3 : Nat) (σ : mSt) : Option (Int × mSt) := mG (isC v0 10) <| mCall (mX11_algebra v0 v1 v2 σ) fun b1 s1 => if b1 = mThrow then some (1, s1) else mG (ixOK v3 21 0) <| bnd (upS s1 v3 0 (wI b1)) fun s2 => some (0, s2)
def mL_element (v0 : Nat) (v1 : Int) (v2 : Int) (v3 : Nat) (σ : mSt) : Option (Int × mSt) := mG (isC v0 10) <| mCall (mX11_element v0 v1 v2 σ) fun b1 s1 => if b1 = mThrow then some (1, s1) else mG (ixOK v3 21 0) <| bnd (upS s1 v3 0 (wI b1)) fun s2 => some (0, s2)
def mL_norm (v0 : Nat) (v1 : Int) (v2 : Int) (v3 : Nat) (σ : mSt) : Option (Int × mSt) := mG (isC v0 10) <| mCall (mX11_norm v0 v1 v2 σ) fun b1 s1 => if b1 = mThrow then some (1, s1) else mG (ixOK v3 21 0) <| bnd (upS s1 v3 0 (b1)) fun s2 => some (0, s2)
def mL_trace (v0 : Nat) (v1 : Int) (v2 : Int) (v3 : Nat) (σ : mSt) : Option (Int × mSt) := mG (isC v0 10) <| mCall (mX11_trace v0 v1 v2 σ) fun b1 s1 => if b1 = mThrow then some (1, s1) else mG (ixOK v3 21 0) <| bnd (upS s1 v3 0 (b1)) fun s2 => some (0, s2)
def mL_matrix (v0 : Nat) (v1 : Int) (v2 : Int) (v3 : Int) (v4 : Int) (v5 : Nat) (σ : mSt) : Option (Int × mSt) := mG (isC v0 10) <| mCall (mX11_matrix v0 v1 v2 v3 v4 σ) fun b1 s1 => if b1 = mThrow then some (1, s1) else mG (ixOK v5 21 0) <| bnd (upS s1 v5 0 (b1)) fun s2 => some (0, s2)
def mL_row (v0 : Nat) (v1 : Int) (v2 : Int) (v3 : Int) (v4 : Nat) (σ : mSt) : Option (Int × mSt) := mG (isC v0 10) <| mCall (mX11_row v0 v1 v2 v3 σ) fun b1 s1 => if b1 = mThrow then some (1, s1) else mG (ixOK v4 21 0) <| bnd (upS s1 v4 0 (wI b1)) fun s2 => some (0, s2)
def mL_table (v0 : Nat) (v1 : Int) (v2 : Int) (v3 : Int) (v4 : Int) (v5 : Nat) (σ : mSt) : Option (Int × mSt) := mG (isC v0 10) <| mCall (mX11_table v0 v1 v2 v3 v4 σ) fun b1 s1 => if b1 = mThrow then some (1, s1) else mG (ixOK v5 21 0) <| bnd (upS s1 v5 0 (wI b1)) fun s2 => some (0, s2)
set_option maxRecDepth 100000 in
set_option maxHeartbeats 4000000 in
theorem qL_algebra (l : Launch) (hst : l.stackTraces = false) (E : mE) (σ : mSt) (v0 : Nat) (v1 : Int) (v2 : Int) (v3 : Nat) (out : Int × mSt) (hm : mL_algebra v0 v1 v2 v3 σ = some out) : mWMet l yL_algebra cL_algebra 5 [(0, 10, 13, 13)] 7 122 E [.ref (eA E v0), vI v1, vI v2, .ref (eA E v3)] σ (some (vI out.1)) out.2 := by
  unfold mL_algebra at hm
  obtain ⟨g0, hm⟩ := g_t hm
  obtain ⟨b1, s1, e1, hm⟩ := call_t hm
  refine m_wentry (by decide +kernel) (Nat.le_of_ble_eq_true rfl) myL_algebra.1 (fun p e s m args below meth c G hr hk hT hM ls hl => ?_)
  have G : CallFix p m c cL_algebra 5 s args mTs RL := G
  have hl : lv_has ls 5 [(0, .ref (eA E v0)), (1, vI v1), (2, vI v2), (3, .ref (eA E v3))] := hl
  refine r_aload_n (np := 1) G hl 3 rfl dL_algebra_0 rfl rfl ?_
  refine r_iconst (np := 2) G 0 dL_algebra_1 rfl ?_
  refine r_aload_n (np := 3) G hl 0 rfl dL_algebra_2 rfl rfl ?_
  refine r_iload_n (np := 4) G hl 1 rfl dL_algebra_3 rfl rfl ?_
  refine r_iload_n (np := 5) G hl 2 rfl dL_algebra_4 rfl rfl ?_
  refine m_xcall (np := 8) G hM hl.1 [vI v1, vI v2] (qX11_algebra l hst E σ v0 v1 v2 _ e1) myX11_algebra (shp_lt g0 (by decide)) g0 rfl (by decide) lkL_7 ⟨Nat.le_of_ble_eq_true rfl, Nat.le_of_ble_eq_true rfl⟩ ⟨Nat.le_of_ble_eq_true rfl, Nat.le_of_ble_eq_true rfl⟩ [vI 0, .ref (eA E v3)] rfl (Nat.le_of_ble_eq_true rfl) dL_algebra_5 rfl (fun ce q H locs hx hM hc hv hn => ?_) (fun H locs hx hM => ?_)
  · have hx : b1 = mThrow := hx
    rw [if_pos hx] at hm
    cases hm
    refine vx_catch (own := RL) (name := nse) (E := nse) G.2.2.2.1 [] ⟨0, 10, 13, 13⟩ [] (by rw [hT]; rfl) (fun _ h => nomatch h) (by decide) (by decide) (G.2.2.2.2 _ lw_clk) (G.2.2.2.2 _ lw_cast) hc hv hn ?_
    refine r_astore (np := 15) G hl rfl [(4, .ref q), (0, .ref (eA E v0)), (1, vI v1), (2, vI v2), (3, .ref (eA E v3))] dL_algebra_13 rfl (by decide) rfl (fun ls hl => ?_)
    refine r_iconst (np := 16) G 1 dL_algebra_15 rfl ?_
    exact r_wret G hr hk hM rfl rfl dL_algebra_16 (Nat.le_of_ble_eq_true rfl) (Nat.le_of_ble_eq_true rfl)
  · have hx : ¬ b1 = mThrow := hx
    rw [if_neg hx] at hm
    obtain ⟨g1, hm⟩ := g_t hm
    obtain ⟨s2, e2, hm⟩ := bnd_t hm
    cases hm
    refine r_i2l (np := 9) G rfl dL_algebra_8 rfl ?_
    refine r_lastore (np := 10) G hM g1 rfl s2 e2 dL_algebra_9 rfl (fun H locs hM => ?_)
    refine r_goto (np := 17) G dL_algebra_10 (by decide) ?_
    refine r_iconst (np := 18) G 0 dL_algebra_17 rfl ?_
    exact r_wret G hr hk hM rfl rfl dL_algebra_18 (Nat.le_of_ble_eq_true rfl) (Nat.le_of_ble_eq_true rfl)
set_option maxRecDepth 100000 in
set_option maxHeartbeats 4000000 in
theorem qL_element (l : Launch) (hst : l.stackTraces = false) (E : mE) (σ : mSt) (v0 : Nat) (v1 : Int) (v2 : Int) (v3 : Nat) (out : Int × mSt) (hm : mL_element v0 v1 v2 v3 σ = some out) : mWMet l yL_element cL_element 5 [(0, 10, 13, 13)] 7 123 E [.ref (eA E v0), vI v1, vI v2, .ref (eA E v3)] σ (some (vI out.1)) out.2 := by
  unfold mL_element at hm
  obtain ⟨g0, hm⟩ := g_t hm
  obtain ⟨b1, s1, e1, hm⟩ := call_t hm
  refine m_wentry (by decide +kernel) (Nat.le_of_ble_eq_true rfl) myL_element.1 (fun p e s m args below meth c G hr hk hT hM ls hl => ?_)
  have G : CallFix p m c cL_element 5 s args mTs RL := G
  have hl : lv_has ls 5 [(0, .ref (eA E v0)), (1, vI v1), (2, vI v2), (3, .ref (eA E v3))] := hl
  refine r_aload_n (np := 1) G hl 3 rfl dL_element_0 rfl rfl ?_
  refine r_iconst (np := 2) G 0 dL_element_1 rfl ?_
  refine r_aload_n (np := 3) G hl 0 rfl dL_element_2 rfl rfl ?_
  refine r_iload_n (np := 4) G hl 1 rfl dL_element_3 rfl rfl ?_
  refine r_iload_n (np := 5) G hl 2 rfl dL_element_4 rfl rfl ?_
  refine m_xcall (np := 8) G hM hl.1 [vI v1, vI v2] (qX11_element l hst E σ v0 v1 v2 _ e1) myX11_element (shp_lt g0 (by decide)) g0 rfl (by decide) lkL_15 ⟨Nat.le_of_ble_eq_true rfl, Nat.le_of_ble_eq_true rfl⟩ ⟨Nat.le_of_ble_eq_true rfl, Nat.le_of_ble_eq_true rfl⟩ [vI 0, .ref (eA E v3)] rfl (Nat.le_of_ble_eq_true rfl) dL_element_5 rfl (fun ce q H locs hx hM hc hv hn => ?_) (fun H locs hx hM => ?_)
  · have hx : b1 = mThrow := hx
    rw [if_pos hx] at hm
    cases hm
    refine vx_catch (own := RL) (name := nse) (E := nse) G.2.2.2.1 [] ⟨0, 10, 13, 13⟩ [] (by rw [hT]; rfl) (fun _ h => nomatch h) (by decide) (by decide) (G.2.2.2.2 _ lw_clk) (G.2.2.2.2 _ lw_cast) hc hv hn ?_
    refine r_astore (np := 15) G hl rfl [(4, .ref q), (0, .ref (eA E v0)), (1, vI v1), (2, vI v2), (3, .ref (eA E v3))] dL_element_13 rfl (by decide) rfl (fun ls hl => ?_)
    refine r_iconst (np := 16) G 1 dL_element_15 rfl ?_
    exact r_wret G hr hk hM rfl rfl dL_element_16 (Nat.le_of_ble_eq_true rfl) (Nat.le_of_ble_eq_true rfl)
  · have hx : ¬ b1 = mThrow := hx
    rw [if_neg hx] at hm
    obtain ⟨g1, hm⟩ := g_t hm
    obtain ⟨s2, e2, hm⟩ := bnd_t hm
    cases hm
    refine r_i2l (np := 9) G rfl dL_element_8 rfl ?_
    refine r_lastore (np := 10) G hM g1 rfl s2 e2 dL_element_9 rfl (fun H locs hM => ?_)
    refine r_goto (np := 17) G dL_element_10 (by decide) ?_
    refine r_iconst (np := 18) G 0 dL_element_17 rfl ?_
    exact r_wret G hr hk hM rfl rfl dL_element_18 (Nat.le_of_ble_eq_true rfl) (Nat.le_of_ble_eq_true rfl)
set_option maxRecDepth 100000 in
set_option maxHeartbeats 4000000 in
theorem qL_norm (l : Launch) (hst : l.stackTraces = false) (E : mE) (σ : mSt) (v0 : Nat) (v1 : Int) (v2 : Int) (v3 : Nat) (out : Int × mSt) (hm : mL_norm v0 v1 v2 v3 σ = some out) : mWMet l yL_norm cL_norm 5 [(0, 9, 12, 13)] 7 123 E [.ref (eA E v0), vI v1, vI v2, .ref (eA E v3)] σ (some (vI out.1)) out.2 := by
  unfold mL_norm at hm
  obtain ⟨g0, hm⟩ := g_t hm
  obtain ⟨b1, s1, e1, hm⟩ := call_t hm
  refine m_wentry (by decide +kernel) (Nat.le_of_ble_eq_true rfl) myL_norm.1 (fun p e s m args below meth c G hr hk hT hM ls hl => ?_)
  have G : CallFix p m c cL_norm 5 s args mTs RL := G
  have hl : lv_has ls 5 [(0, .ref (eA E v0)), (1, vI v1), (2, vI v2), (3, .ref (eA E v3))] := hl
  refine r_aload_n (np := 1) G hl 3 rfl dL_norm_0 rfl rfl ?_
  refine r_iconst (np := 2) G 0 dL_norm_1 rfl ?_
  refine r_aload_n (np := 3) G hl 0 rfl dL_norm_2 rfl rfl ?_
  refine r_iload_n (np := 4) G hl 1 rfl dL_norm_3 rfl rfl ?_
  refine r_iload_n (np := 5) G hl 2 rfl dL_norm_4 rfl rfl ?_
  refine m_xcall (np := 8) G hM hl.1 [vI v1, vI v2] (qX11_norm l hst E σ v0 v1 v2 _ e1) myX11_norm (shp_lt g0 (by decide)) g0 rfl (by decide) lkL_18 ⟨Nat.le_of_ble_eq_true rfl, Nat.le_of_ble_eq_true rfl⟩ ⟨Nat.le_of_ble_eq_true rfl, Nat.le_of_ble_eq_true rfl⟩ [vI 0, .ref (eA E v3)] rfl (Nat.le_of_ble_eq_true rfl) dL_norm_5 rfl (fun ce q H locs hx hM hc hv hn => ?_) (fun H locs hx hM => ?_)
  · have hx : b1 = mThrow := hx
    rw [if_pos hx] at hm
    cases hm
    refine vx_catch (own := RL) (name := nse) (E := nse) G.2.2.2.1 [] ⟨0, 9, 12, 13⟩ [] (by rw [hT]; rfl) (fun _ h => nomatch h) (by decide) (by decide) (G.2.2.2.2 _ lw_clk) (G.2.2.2.2 _ lw_cast) hc hv hn ?_
    refine r_astore (np := 14) G hl rfl [(4, .ref q), (0, .ref (eA E v0)), (1, vI v1), (2, vI v2), (3, .ref (eA E v3))] dL_norm_12 rfl (by decide) rfl (fun ls hl => ?_)
    refine r_iconst (np := 15) G 1 dL_norm_14 rfl ?_
    exact r_wret G hr hk hM rfl rfl dL_norm_15 (Nat.le_of_ble_eq_true rfl) (Nat.le_of_ble_eq_true rfl)
  · have hx : ¬ b1 = mThrow := hx
    rw [if_neg hx] at hm
    obtain ⟨g1, hm⟩ := g_t hm
    obtain ⟨s2, e2, hm⟩ := bnd_t hm
    cases hm
    refine r_lastore (np := 9) G hM g1 rfl s2 e2 dL_norm_8 rfl (fun H locs hM => ?_)
    refine r_goto (np := 16) G dL_norm_9 (by decide) ?_
    refine r_iconst (np := 17) G 0 dL_norm_16 rfl ?_
    exact r_wret G hr hk hM rfl rfl dL_norm_17 (Nat.le_of_ble_eq_true rfl) (Nat.le_of_ble_eq_true rfl)
set_option maxRecDepth 100000 in
set_option maxHeartbeats 4000000 in
theorem qL_trace (l : Launch) (hst : l.stackTraces = false) (E : mE) (σ : mSt) (v0 : Nat) (v1 : Int) (v2 : Int) (v3 : Nat) (out : Int × mSt) (hm : mL_trace v0 v1 v2 v3 σ = some out) : mWMet l yL_trace cL_trace 5 [(0, 9, 12, 13)] 7 123 E [.ref (eA E v0), vI v1, vI v2, .ref (eA E v3)] σ (some (vI out.1)) out.2 := by
  unfold mL_trace at hm
  obtain ⟨g0, hm⟩ := g_t hm
  obtain ⟨b1, s1, e1, hm⟩ := call_t hm
  refine m_wentry (by decide +kernel) (Nat.le_of_ble_eq_true rfl) myL_trace.1 (fun p e s m args below meth c G hr hk hT hM ls hl => ?_)
  have G : CallFix p m c cL_trace 5 s args mTs RL := G
  have hl : lv_has ls 5 [(0, .ref (eA E v0)), (1, vI v1), (2, vI v2), (3, .ref (eA E v3))] := hl
  refine r_aload_n (np := 1) G hl 3 rfl dL_trace_0 rfl rfl ?_
  refine r_iconst (np := 2) G 0 dL_trace_1 rfl ?_
  refine r_aload_n (np := 3) G hl 0 rfl dL_trace_2 rfl rfl ?_
  refine r_iload_n (np := 4) G hl 1 rfl dL_trace_3 rfl rfl ?_
  refine r_iload_n (np := 5) G hl 2 rfl dL_trace_4 rfl rfl ?_
  refine m_xcall (np := 8) G hM hl.1 [vI v1, vI v2] (qX11_trace l hst E σ v0 v1 v2 _ e1) myX11_trace (shp_lt g0 (by decide)) g0 rfl (by decide) lkL_22 ⟨Nat.le_of_ble_eq_true rfl, Nat.le_of_ble_eq_true rfl⟩ ⟨Nat.le_of_ble_eq_true rfl, Nat.le_of_ble_eq_true rfl⟩ [vI 0, .ref (eA E v3)] rfl (Nat.le_of_ble_eq_true rfl) dL_trace_5 rfl (fun ce q H locs hx hM hc hv hn => ?_) (fun H locs hx hM => ?_)
  · have hx : b1 = mThrow := hx
    rw [if_pos hx] at hm
    cases hm
    refine vx_catch (own := RL) (name := nse) (E := nse) G.2.2.2.1 [] ⟨0, 9, 12, 13⟩ [] (by rw [hT]; rfl) (fun _ h => nomatch h) (by decide) (by decide) (G.2.2.2.2 _ lw_clk) (G.2.2.2.2 _ lw_cast) hc hv hn ?_
    refine r_astore (np := 14) G hl rfl [(4, .ref q), (0, .ref (eA E v0)), (1, vI v1), (2, vI v2), (3, .ref (eA E v3))] dL_trace_12 rfl (by decide) rfl (fun ls hl => ?_)
    refine r_iconst (np := 15) G 1 dL_trace_14 rfl ?_
    exact r_wret G hr hk hM rfl rfl dL_trace_15 (Nat.le_of_ble_eq_true rfl) (Nat.le_of_ble_eq_true rfl)
  · have hx : ¬ b1 = mThrow := hx
    rw [if_neg hx] at hm
    obtain ⟨g1, hm⟩ := g_t hm
    obtain ⟨s2, e2, hm⟩ := bnd_t hm
    cases hm
    refine r_lastore (np := 9) G hM g1 rfl s2 e2 dL_trace_8 rfl (fun H locs hM => ?_)
    refine r_goto (np := 16) G dL_trace_9 (by decide) ?_
    refine r_iconst (np := 17) G 0 dL_trace_16 rfl ?_
    exact r_wret G hr hk hM rfl rfl dL_trace_17 (Nat.le_of_ble_eq_true rfl) (Nat.le_of_ble_eq_true rfl)
set_option maxRecDepth 100000 in
set_option maxHeartbeats 4000000 in
theorem qL_matrix (l : Launch) (hst : l.stackTraces = false) (E : mE) (σ : mSt) (v0 : Nat) (v1 : Int) (v2 : Int) (v3 : Int) (v4 : Int) (v5 : Nat) (out : Int × mSt) (hm : mL_matrix v0 v1 v2 v3 v4 v5 σ = some out) : mWMet l yL_matrix cL_matrix 7 [(0, 13, 16, 13)] 7 127 E [.ref (eA E v0), vI v1, vI v2, vI v3, vI v4, .ref (eA E v5)] σ (some (vI out.1)) out.2 := by
  unfold mL_matrix at hm
  obtain ⟨g0, hm⟩ := g_t hm
  obtain ⟨b1, s1, e1, hm⟩ := call_t hm
  refine m_wentry (by decide +kernel) (Nat.le_of_ble_eq_true rfl) myL_matrix.1 (fun p e s m args below meth c G hr hk hT hM ls hl => ?_)
  have G : CallFix p m c cL_matrix 7 s args mTs RL := G
  have hl : lv_has ls 7 [(0, .ref (eA E v0)), (1, vI v1), (2, vI v2), (3, vI v3), (4, vI v4), (5, .ref (eA E v5))] := hl
  refine r_aload (np := 2) G hl 5 rfl dL_matrix_0 rfl ?_
  refine r_iconst (np := 3) G 0 dL_matrix_2 rfl ?_
  refine r_aload_n (np := 4) G hl 0 rfl dL_matrix_3 rfl rfl ?_
  refine r_iload_n (np := 5) G hl 1 rfl dL_matrix_4 rfl rfl ?_
  refine r_iload_n (np := 6) G hl 2 rfl dL_matrix_5 rfl rfl ?_
  refine r_iload_n (np := 7) G hl 3 rfl dL_matrix_6 rfl rfl ?_
  refine r_iload (np := 9) G hl 4 rfl dL_matrix_7 rfl ?_
  refine m_xcall (np := 12) G hM hl.1 [vI v1, vI v2, vI v3, vI v4] (qX11_matrix l hst E σ v0 v1 v2 v3 v4 _ e1) myX11_matrix (shp_lt g0 (by decide)) g0 rfl (by decide) lkL_25 ⟨Nat.le_of_ble_eq_true rfl, Nat.le_of_ble_eq_true rfl⟩ ⟨Nat.le_of_ble_eq_true rfl, Nat.le_of_ble_eq_true rfl⟩ [vI 0, .ref (eA E v5)] rfl (Nat.le_of_ble_eq_true rfl) dL_matrix_9 rfl (fun ce q H locs hx hM hc hv hn => ?_) (fun H locs hx hM => ?_)
  · have hx : b1 = mThrow := hx
    rw [if_pos hx] at hm
    cases hm
    refine vx_catch (own := RL) (name := nse) (E := nse) G.2.2.2.1 [] ⟨0, 13, 16, 13⟩ [] (by rw [hT]; rfl) (fun _ h => nomatch h) (by decide) (by decide) (G.2.2.2.2 _ lw_clk) (G.2.2.2.2 _ lw_cast) hc hv hn ?_
    refine r_astore (np := 18) G hl rfl [(6, .ref q), (0, .ref (eA E v0)), (1, vI v1), (2, vI v2), (3, vI v3), (4, vI v4), (5, .ref (eA E v5))] dL_matrix_16 rfl (by decide) rfl (fun ls hl => ?_)
    refine r_iconst (np := 19) G 1 dL_matrix_18 rfl ?_
    exact r_wret G hr hk hM rfl rfl dL_matrix_19 (Nat.le_of_ble_eq_true rfl) (Nat.le_of_ble_eq_true rfl)
  · have hx : ¬ b1 = mThrow := hx
    rw [if_neg hx] at hm
    obtain ⟨g1, hm⟩ := g_t hm
    obtain ⟨s2, e2, hm⟩ := bnd_t hm
    cases hm
    refine r_lastore (np := 13) G hM g1 rfl s2 e2 dL_matrix_12 rfl (fun H locs hM => ?_)
    refine r_goto (np := 20) G dL_matrix_13 (by decide) ?_
    refine r_iconst (np := 21) G 0 dL_matrix_20 rfl ?_
    exact r_wret G hr hk hM rfl rfl dL_matrix_21 (Nat.le_of_ble_eq_true rfl) (Nat.le_of_ble_eq_true rfl)
set_option maxRecDepth 100000 in
set_option maxHeartbeats 4000000 in
theorem qL_row (l : Launch) (hst : l.stackTraces = false) (E : mE) (σ : mSt) (v0 : Nat) (v1 : Int) (v2 : Int) (v3 : Int) (v4 : Nat) (out : Int × mSt) (hm : mL_row v0 v1 v2 v3 v4 σ = some out) : mWMet l yL_row cL_row 6 [(0, 12, 15, 13)] 7 123 E [.ref (eA E v0), vI v1, vI v2, vI v3, .ref (eA E v4)] σ (some (vI out.1)) out.2 := by
  unfold mL_row at hm
  obtain ⟨g0, hm⟩ := g_t hm
  obtain ⟨b1, s1, e1, hm⟩ := call_t hm
  refine m_wentry (by decide +kernel) (Nat.le_of_ble_eq_true rfl) myL_row.1 (fun p e s m args below meth c G hr hk hT hM ls hl => ?_)
  have G : CallFix p m c cL_row 6 s args mTs RL := G
  have hl : lv_has ls 6 [(0, .ref (eA E v0)), (1, vI v1), (2, vI v2), (3, vI v3), (4, .ref (eA E v4))] := hl
  refine r_aload (np := 2) G hl 4 rfl dL_row_0 rfl ?_
  refine r_iconst (np := 3) G 0 dL_row_2 rfl ?_
  refine r_aload_n (np := 4) G hl 0 rfl dL_row_3 rfl rfl ?_
  refine r_iload_n (np := 5) G hl 1 rfl dL_row_4 rfl rfl ?_
  refine r_iload_n (np := 6) G hl 2 rfl dL_row_5 rfl rfl ?_
  refine r_iload_n (np := 7) G hl 3 rfl dL_row_6 rfl rfl ?_
  refine m_xcall (np := 10) G hM hl.1 [vI v1, vI v2, vI v3] (qX11_row l hst E σ v0 v1 v2 v3 _ e1) myX11_row (shp_lt g0 (by decide)) g0 rfl (by decide) lkL_29 ⟨Nat.le_of_ble_eq_true rfl, Nat.le_of_ble_eq_true rfl⟩ ⟨Nat.le_of_ble_eq_true rfl, Nat.le_of_ble_eq_true rfl⟩ [vI 0, .ref (eA E v4)] rfl (Nat.le_of_ble_eq_true rfl) dL_row_7 rfl (fun ce q H locs hx hM hc hv hn => ?_) (fun H locs hx hM => ?_)
  · have hx : b1 = mThrow := hx
    rw [if_pos hx] at hm
    cases hm
    refine vx_catch (own := RL) (name := nse) (E := nse) G.2.2.2.1 [] ⟨0, 12, 15, 13⟩ [] (by rw [hT]; rfl) (fun _ h => nomatch h) (by decide) (by decide) (G.2.2.2.2 _ lw_clk) (G.2.2.2.2 _ lw_cast) hc hv hn ?_
    refine r_astore (np := 17) G hl rfl [(5, .ref q), (0, .ref (eA E v0)), (1, vI v1), (2, vI v2), (3, vI v3), (4, .ref (eA E v4))] dL_row_15 rfl (by decide) rfl (fun ls hl => ?_)
    refine r_iconst (np := 18) G 1 dL_row_17 rfl ?_
    exact r_wret G hr hk hM rfl rfl dL_row_18 (Nat.le_of_ble_eq_true rfl) (Nat.le_of_ble_eq_true rfl)
  · have hx : ¬ b1 = mThrow := hx
    rw [if_neg hx] at hm
    obtain ⟨g1, hm⟩ := g_t hm
    obtain ⟨s2, e2, hm⟩ := bnd_t hm
    cases hm
    refine r_i2l (np := 11) G rfl dL_row_10 rfl ?_
    refine r_lastore (np := 12) G hM g1 rfl s2 e2 dL_row_11 rfl (fun H locs hM => ?_)
    refine r_goto (np := 19) G dL_row_12 (by decide) ?_
    refine r_iconst (np := 20) G 0 dL_row_19 rfl ?_
    exact r_wret G hr hk hM rfl rfl dL_row_20 (Nat.le_of_ble_eq_true rfl) (Nat.le_of_ble_eq_true rfl)
set_option maxRecDepth 100000 in
set_option maxHeartbeats 4000000 in
theorem qL_table (l : Launch) (hst : l.stackTraces = false) (E : mE) (σ : mSt) (v0 : Nat) (v1 : Int) (v2 : Int) (v3 : Int) (v4 : Int) (v5 : Nat) (out : Int × mSt) (hm : mL_table v0 v1 v2 v3 v4 v5 σ = some out) : mWMet l yL_table cL_table 7 [(0, 14, 17, 13)] 7 150 E [.ref (eA E v0), vI v1, vI v2, vI v3, vI v4, .ref (eA E v5)] σ (some (vI out.1)) out.2 := by
  unfold mL_table at hm
  obtain ⟨g0, hm⟩ := g_t hm
  obtain ⟨b1, s1, e1, hm⟩ := call_t hm
  refine m_wentry (by decide +kernel) (Nat.le_of_ble_eq_true rfl) myL_table.1 (fun p e s m args below meth c G hr hk hT hM ls hl => ?_)
  have G : CallFix p m c cL_table 7 s args mTs RL := G
  have hl : lv_has ls 7 [(0, .ref (eA E v0)), (1, vI v1), (2, vI v2), (3, vI v3), (4, vI v4), (5, .ref (eA E v5))] := hl
  refine r_aload (np := 2) G hl 5 rfl dL_table_0 rfl ?_
  refine r_iconst (np := 3) G 0 dL_table_2 rfl ?_
  refine r_aload_n (np := 4) G hl 0 rfl dL_table_3 rfl rfl ?_
  refine r_iload_n (np := 5) G hl 1 rfl dL_table_4 rfl rfl ?_
  refine r_iload_n (np := 6) G hl 2 rfl dL_table_5 rfl rfl ?_
  refine r_iload_n (np := 7) G hl 3 rfl dL_table_6 rfl rfl ?_
  refine r_iload (np := 9) G hl 4 rfl dL_table_7 rfl ?_
  refine m_xcall (np := 12) G hM hl.1 [vI v1, vI v2, vI v3, vI v4] (qX11_table l hst E σ v0 v1 v2 v3 v4 _ e1) myX11_table (shp_lt g0 (by decide)) g0 rfl (by decide) lkL_33 ⟨Nat.le_of_ble_eq_true rfl, Nat.le_of_ble_eq_true rfl⟩ ⟨Nat.le_of_ble_eq_true rfl, Nat.le_of_ble_eq_true rfl⟩ [vI 0, .ref (eA E v5)] rfl (Nat.le_of_ble_eq_true rfl) dL_table_9 rfl (fun ce q H locs hx hM hc hv hn => ?_) (fun H locs hx hM => ?_)
  · have hx : b1 = mThrow := hx
    rw [if_pos hx] at hm
    cases hm
    refine vx_catch (own := RL) (name := nse) (E := nse) G.2.2.2.1 [] ⟨0, 14, 17, 13⟩ [] (by rw [hT]; rfl) (fun _ h => nomatch h) (by decide) (by decide) (G.2.2.2.2 _ lw_clk) (G.2.2.2.2 _ lw_cast) hc hv hn ?_
    refine r_astore (np := 19) G hl rfl [(6, .ref q), (0, .ref (eA E v0)), (1, vI v1), (2, vI v2), (3, vI v3), (4, vI v4), (5, .ref (eA E v5))] dL_table_17 rfl (by decide) rfl (fun ls hl => ?_)
    refine r_iconst (np := 20) G 1 dL_table_19 rfl ?_
    exact r_wret G hr hk hM rfl rfl dL_table_20 (Nat.le_of_ble_eq_true rfl) (Nat.le_of_ble_eq_true rfl)
  · have hx : ¬ b1 = mThrow := hx
    rw [if_neg hx] at hm
    obtain ⟨g1, hm⟩ := g_t hm
    obtain ⟨s2, e2, hm⟩ := bnd_t hm
    cases hm
    refine r_i2l (np := 13) G rfl dL_table_12 rfl ?_
    refine r_lastore (np := 14) G hM g1 rfl s2 e2 dL_table_13 rfl (fun H locs hM => ?_)
    refine r_goto (np := 21) G dL_table_14 (by decide) ?_
    refine r_iconst (np := 22) G 0 dL_table_21 rfl ?_
    exact r_wret G hr hk hM rfl rfl dL_table_22 (Nat.le_of_ble_eq_true rfl) (Nat.le_of_ble_eq_true rfl)
