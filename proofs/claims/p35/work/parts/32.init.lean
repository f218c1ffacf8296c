theorem lkX10_3 : Cond.methodLink RX10 3 Lib.objectInit ∈ mTs := mTs_in 73 (by decide +kernel) (by decide +kernel)
theorem oi_i : Cond.instanceMethod Lib.objectInit ∈ mTs := mTs_in 60 (by decide +kernel) (by decide +kernel)
theorem oi_c : Cond.code Lib.objectInit ⟨#[0xb1]⟩ 1 none ∈ mTs := mTs_in 61 (by decide +kernel) (by decide +kernel)
theorem ac_byte : Cond.arrayClass .byte ∈ mTs := mTs_in 90 (by decide +kernel) (by decide +kernel)
theorem lkX0_3 : Cond.methodLink RX0 3 Lib.objectInit ∈ mTs := mTs_in 96 (by decide +kernel) (by decide +kernel)
theorem ac_int : Cond.arrayClass .int ∈ mTs := mTs_in 126 (by decide +kernel) (by decide +kernel)
theorem ptX0_1 : mPut 0 1 2 8 RX0 TX0 tyX0 (.array .int) := ⟨fdX0_1, tyX0_ok, nmX0, (by decide +kernel), rfl⟩
theorem ptX0_2 : mPut 0 2 2 8 RX0 TX0 tyX0 (.array .int) := ⟨fdX0_2, tyX0_ok, nmX0, (by decide +kernel), rfl⟩
theorem ptX0_3 : mPut 0 3 2 8 RX0 TX0 tyX0 (.array .int) := ⟨fdX0_3, tyX0_ok, nmX0, (by decide +kernel), rfl⟩
theorem ptX0_4 : mPut 0 4 2 8 RX0 TX0 tyX0 (.array .int) := ⟨fdX0_4, tyX0_ok, nmX0, (by decide +kernel), rfl⟩
theorem clX0_init_28 : Cond.classLink RX0 28 "[[B" ∈ mTs := mTs_in 97 (by decide +kernel) (by decide +kernel)
theorem ova_byte : Cond.arrayOver (.array .byte) ∈ mTs := mTs_in 98 (by decide +kernel) (by decide +kernel)
theorem ptX0_5 : mPut 0 5 2 8 RX0 TX0 tyX0 (.array (.array .byte)) := ⟨fdX0_5, tyX0_ok, nmX0, (by decide +kernel), rfl⟩
theorem clX0_init_33 : Cond.classLink RX0 33 "[[I" ∈ mTs := mTs_in 99 (by decide +kernel) (by decide +kernel)
theorem ova_int : Cond.arrayOver (.array .int) ∈ mTs := mTs_in 100 (by decide +kernel) (by decide +kernel)
theorem ptX0_6 : mPut 0 6 2 8 RX0 TX0 tyX0 (.array (.array .int)) := ⟨fdX0_6, tyX0_ok, nmX0, (by decide +kernel), rfl⟩
theorem ptX0_7 : mPut 0 7 2 8 RX0 TX0 tyX0 (.array (.array .int)) := ⟨fdX0_7, tyX0_ok, nmX0, (by decide +kernel), rfl⟩
theorem lkX8_3 : Cond.methodLink RX8 3 Lib.objectInit ∈ mTs := mTs_in 67 (by decide +kernel) (by decide +kernel)
theorem nwX10 : mNew 9 5 RX10 TX10 tyX10 := ⟨rfl, inX10, tyX10_ok, by decide, fun E j hj => by rcases (show j = 0 ∨ j = 1 ∨ j = 2 ∨ j = 3 ∨ j = 4 by omega) with rfl | rfl | rfl | rfl | rfl <;> rfl⟩
theorem clX8_init_9 : Cond.classLink RX8 9 RX10 ∈ mTs := mTs_in 68 (by decide +kernel) (by decide +kernel)
theorem isX10 : Cond.instantiable RX10 5 ∈ mTs := mTs_in 69 (by decide +kernel) (by decide +kernel)
theorem itX10 : Cond.initialized RX10 ∈ mTs := mTs_in 32 (by decide +kernel) (by decide +kernel)
theorem lkX8_11 : Cond.methodLinkNest RX8 11 yX10_init "MiddleAlgebras" ∈ mTs := mTs_in 70 (by decide +kernel) (by decide +kernel)
theorem myX10_init : mY yX10_init cX10_init 1 none 0 ∧ Cond.instanceMethod yX10_init ∈ mTs := ⟨⟨mTs_in 72 (by decide +kernel) (by decide +kernel), mTs_in 32 (by decide +kernel) (by decide +kernel), ⟨by decide, by decide⟩, by decide +kernel⟩, mTs_in 71 (by decide +kernel) (by decide +kernel)⟩
theorem ptX8_0 : mPut 7 0 2 4 RX8 TX8 tyX8 (.object "MiddleAlgebras$Tokens") := ⟨fdX8_0, tyX8_ok, nmX8, (by decide +kernel), rfl⟩
theorem nwX0 : mNew 0 8 RX0 TX0 tyX0 := ⟨rfl, inX0, tyX0_ok, by decide, fun E j hj => by rcases (show j = 0 ∨ j = 1 ∨ j = 2 ∨ j = 3 ∨ j = 4 ∨ j = 5 ∨ j = 6 ∨ j = 7 by omega) with rfl | rfl | rfl | rfl | rfl | rfl | rfl | rfl <;> rfl⟩
theorem clX8_init_18 : Cond.classLink RX8 18 RX0 ∈ mTs := mTs_in 91 (by decide +kernel) (by decide +kernel)
theorem isX0 : Cond.instantiable RX0 8 ∈ mTs := mTs_in 92 (by decide +kernel) (by decide +kernel)
theorem itX0 : Cond.initialized RX0 ∈ mTs := mTs_in 33 (by decide +kernel) (by decide +kernel)
theorem lkX8_20 : Cond.methodLinkNest RX8 20 yX0_init "MiddleAlgebras" ∈ mTs := mTs_in 93 (by decide +kernel) (by decide +kernel)
theorem myX0_init : mY yX0_init cX0_init 1 none 0 ∧ Cond.instanceMethod yX0_init ∈ mTs := ⟨⟨mTs_in 95 (by decide +kernel) (by decide +kernel), mTs_in 33 (by decide +kernel) (by decide +kernel), ⟨by decide, by decide⟩, by decide +kernel⟩, mTs_in 94 (by decide +kernel) (by decide +kernel)⟩
theorem lkX7_3 : Cond.methodLink RX7 3 Lib.objectInit ∈ mTs := mTs_in 147 (by decide +kernel) (by decide +kernel)
theorem ptX7_2 : mPut 6 2 2 4 RX7 TX7 tyX7 (.array .int) := ⟨fdX7_2, tyX7_ok, nmX7, (by decide +kernel), rfl⟩
theorem clX7_init_22 : Cond.classLink RX7 22 "[[I" ∈ mTs := mTs_in 148 (by decide +kernel) (by decide +kernel)
theorem ptX7_3 : mPut 6 3 2 4 RX7 TX7 tyX7 (.array (.array .int)) := ⟨fdX7_3, tyX7_ok, nmX7, (by decide +kernel), rfl⟩
theorem lkX3_1 : Cond.methodLink RX3 1 Lib.objectInit ∈ mTs := mTs_in 183 (by decide +kernel) (by decide +kernel)
theorem clX3_init_7 : Cond.classLink RX3 7 "[[J" ∈ mTs := mTs_in 184 (by decide +kernel) (by decide +kernel)
theorem ac_long : Cond.arrayClass .long ∈ mTs := mTs_in 196 (by decide +kernel) (by decide +kernel)
theorem ova_long : Cond.arrayOver (.array .long) ∈ mTs := mTs_in 185 (by decide +kernel) (by decide +kernel)
theorem ptX3_0 : mPut 3 0 2 3 RX3 TX3 tyX3 (.array (.array .long)) := ⟨fdX3_0, tyX3_ok, nmX3, (by decide +kernel), rfl⟩
theorem lkX3_14 : Cond.fieldLink RX3 14 (TX3 1).1 (TX3 1).2.1 (TX3 1).2.2.1 ∈ mTs := mTs_in 187 (by decide +kernel) (by decide +kernel)
theorem fdX3_1 : mFld 3 1 2 3 RX3 TX3 := ⟨rfl, inX3, by decide, rfl, by decide⟩
theorem ptX3_1 : mPut 3 1 2 3 RX3 TX3 tyX3 (.array .long) := ⟨fdX3_1, tyX3_ok, nmX3, (by decide +kernel), rfl⟩
theorem lkX6_1 : Cond.methodLink RX6 1 Lib.objectInit ∈ mTs := mTs_in 177 (by decide +kernel) (by decide +kernel)
theorem nwX3 : mNew 3 3 RX3 TX3 tyX3 := ⟨rfl, inX3, tyX3_ok, by decide, fun E j hj => by rcases (show j = 0 ∨ j = 1 ∨ j = 2 by omega) with rfl | rfl | rfl <;> rfl⟩
theorem clX6_init_16 : Cond.classLink RX6 16 RX3 ∈ mTs := mTs_in 178 (by decide +kernel) (by decide +kernel)
theorem isX3 : Cond.instantiable RX3 3 ∈ mTs := mTs_in 179 (by decide +kernel) (by decide +kernel)
theorem itX3 : Cond.initialized RX3 ∈ mTs := mTs_in 37 (by decide +kernel) (by decide +kernel)
theorem lkX6_18 : Cond.methodLinkNest RX6 18 yX3_init "MiddleAlgebras" ∈ mTs := mTs_in 180 (by decide +kernel) (by decide +kernel)
theorem myX3_init : mY yX3_init cX3_init 1 none 0 ∧ Cond.instanceMethod yX3_init ∈ mTs := ⟨⟨mTs_in 182 (by decide +kernel) (by decide +kernel), mTs_in 37 (by decide +kernel) (by decide +kernel), ⟨by decide, by decide⟩, by decide +kernel⟩, mTs_in 181 (by decide +kernel) (by decide +kernel)⟩
theorem ptX6_2 : mPut 5 2 2 4 RX6 TX6 tyX6 (.object "MiddleAlgebras$Lattice") := ⟨fdX6_2, tyX6_ok, nmX6, (by decide +kernel), rfl⟩
theorem lkX6_23 : Cond.fieldLink RX6 23 (TX6 3).1 (TX6 3).2.1 (TX6 3).2.2.1 ∈ mTs := mTs_in 200 (by decide +kernel) (by decide +kernel)
theorem fdX6_3 : mFld 5 3 2 4 RX6 TX6 := ⟨rfl, inX6, by decide, rfl, by decide⟩
theorem ptX6_3 : mPut 5 3 2 4 RX6 TX6 tyX6 (.array .long) := ⟨fdX6_3, tyX6_ok, nmX6, (by decide +kernel), rfl⟩
theorem lkX2_1 : Cond.methodLink RX2 1 Lib.objectInit ∈ mTs := mTs_in 171 (by decide +kernel) (by decide +kernel)
theorem nwX6 : mNew 5 4 RX6 TX6 tyX6 := ⟨rfl, inX6, tyX6_ok, by decide, fun E j hj => by rcases (show j = 0 ∨ j = 1 ∨ j = 2 ∨ j = 3 by omega) with rfl | rfl | rfl | rfl <;> rfl⟩
theorem clX2_init_7 : Cond.classLink RX2 7 RX6 ∈ mTs := mTs_in 172 (by decide +kernel) (by decide +kernel)
theorem isX6 : Cond.instantiable RX6 4 ∈ mTs := mTs_in 173 (by decide +kernel) (by decide +kernel)
theorem itX6 : Cond.initialized RX6 ∈ mTs := mTs_in 36 (by decide +kernel) (by decide +kernel)
theorem lkX2_9 : Cond.methodLinkNest RX2 9 yX6_init "MiddleAlgebras" ∈ mTs := mTs_in 174 (by decide +kernel) (by decide +kernel)
theorem myX6_init : mY yX6_init cX6_init 1 none 0 ∧ Cond.instanceMethod yX6_init ∈ mTs := ⟨⟨mTs_in 176 (by decide +kernel) (by decide +kernel), mTs_in 36 (by decide +kernel) (by decide +kernel), ⟨by decide, by decide⟩, by decide +kernel⟩, mTs_in 175 (by decide +kernel) (by decide +kernel)⟩
theorem lkX2_10 : Cond.fieldLink RX2 10 (TX2 0).1 (TX2 0).2.1 (TX2 0).2.2.1 ∈ mTs := mTs_in 213 (by decide +kernel) (by decide +kernel)
theorem inX2 : ∀ w ∈ u_ws RX2 TX2 7, w ∈ mTs := mTs_ins _ [220, 222, 224, 226, 228, 230, 232] (by decide +kernel) (by decide +kernel)
theorem fdX2_0 : mFld 2 0 2 7 RX2 TX2 := ⟨rfl, inX2, by decide, rfl, by decide⟩
theorem ptX2_0 : mPut 2 0 2 7 RX2 TX2 tyX2 (.object "MiddleAlgebras$Order") := ⟨fdX2_0, tyX2_ok, nmX2, (by decide +kernel), rfl⟩
theorem lkX2_16 : Cond.fieldLink RX2 16 (TX2 1).1 (TX2 1).2.1 (TX2 1).2.2.1 ∈ mTs := mTs_in 214 (by decide +kernel) (by decide +kernel)
theorem fdX2_1 : mFld 2 1 0 7 RX2 TX2 := ⟨rfl, inX2, by decide, rfl, by decide⟩
theorem ptX2_1 : mPut 2 1 0 7 RX2 TX2 tyX2 .int := ⟨fdX2_1, tyX2_ok, nmX2, (by decide +kernel), rfl⟩
theorem lkX2_20 : Cond.fieldLink RX2 20 (TX2 2).1 (TX2 2).2.1 (TX2 2).2.2.1 ∈ mTs := mTs_in 215 (by decide +kernel) (by decide +kernel)
theorem fdX2_2 : mFld 2 2 1 7 RX2 TX2 := ⟨rfl, inX2, by decide, rfl, by decide⟩
theorem ptX2_2 : mPut 2 2 1 7 RX2 TX2 tyX2 .long := ⟨fdX2_2, tyX2_ok, nmX2, (by decide +kernel), rfl⟩
theorem clX2_init_24 : Cond.classLink RX2 24 RX3 ∈ mTs := mTs_in 210 (by decide +kernel) (by decide +kernel)
theorem lkX2_26 : Cond.methodLinkNest RX2 26 yX3_init "MiddleAlgebras" ∈ mTs := mTs_in 211 (by decide +kernel) (by decide +kernel)
theorem lkX2_27 : Cond.fieldLink RX2 27 (TX2 3).1 (TX2 3).2.1 (TX2 3).2.2.1 ∈ mTs := mTs_in 216 (by decide +kernel) (by decide +kernel)
theorem fdX2_3 : mFld 2 3 2 7 RX2 TX2 := ⟨rfl, inX2, by decide, rfl, by decide⟩
theorem ptX2_3 : mPut 2 3 2 7 RX2 TX2 tyX2 (.object "MiddleAlgebras$Lattice") := ⟨fdX2_3, tyX2_ok, nmX2, (by decide +kernel), rfl⟩
theorem lkX2_31 : Cond.fieldLink RX2 31 (TX2 4).1 (TX2 4).2.1 (TX2 4).2.2.1 ∈ mTs := mTs_in 217 (by decide +kernel) (by decide +kernel)
theorem fdX2_4 : mFld 2 4 2 7 RX2 TX2 := ⟨rfl, inX2, by decide, rfl, by decide⟩
theorem ptX2_4 : mPut 2 4 2 7 RX2 TX2 tyX2 (.object "MiddleAlgebras$Lattice") := ⟨fdX2_4, tyX2_ok, nmX2, (by decide +kernel), rfl⟩
theorem clX2_init_34 : Cond.classLink RX2 34 "[[J" ∈ mTs := mTs_in 212 (by decide +kernel) (by decide +kernel)
theorem lkX2_36 : Cond.fieldLink RX2 36 (TX2 5).1 (TX2 5).2.1 (TX2 5).2.2.1 ∈ mTs := mTs_in 218 (by decide +kernel) (by decide +kernel)
theorem fdX2_5 : mFld 2 5 2 7 RX2 TX2 := ⟨rfl, inX2, by decide, rfl, by decide⟩
theorem ptX2_5 : mPut 2 5 2 7 RX2 TX2 tyX2 (.array (.array .long)) := ⟨fdX2_5, tyX2_ok, nmX2, (by decide +kernel), rfl⟩
theorem lkX2_39 : Cond.fieldLink RX2 39 (TX2 6).1 (TX2 6).2.1 (TX2 6).2.2.1 ∈ mTs := mTs_in 219 (by decide +kernel) (by decide +kernel)
theorem fdX2_6 : mFld 2 6 2 7 RX2 TX2 := ⟨rfl, inX2, by decide, rfl, by decide⟩
theorem ptX2_6 : mPut 2 6 2 7 RX2 TX2 tyX2 (.array .long) := ⟨fdX2_6, tyX2_ok, nmX2, (by decide +kernel), rfl⟩
theorem lkX9_1 : Cond.methodLink RX9 1 Lib.objectInit ∈ mTs := mTs_in 240 (by decide +kernel) (by decide +kernel)
theorem lkX4_1 : Cond.methodLink RX4 1 Lib.objectInit ∈ mTs := mTs_in 262 (by decide +kernel) (by decide +kernel)
theorem clX4_init_7 : Cond.classLink RX4 7 RX6 ∈ mTs := mTs_in 263 (by decide +kernel) (by decide +kernel)
theorem lkX4_9 : Cond.methodLinkNest RX4 9 yX6_init "MiddleAlgebras" ∈ mTs := mTs_in 264 (by decide +kernel) (by decide +kernel)
theorem lkX4_10 : Cond.fieldLink RX4 10 (TX4 0).1 (TX4 0).2.1 (TX4 0).2.2.1 ∈ mTs := mTs_in 267 (by decide +kernel) (by decide +kernel)
theorem inX4 : ∀ w ∈ u_ws RX4 TX4 3, w ∈ mTs := mTs_ins _ [270, 272, 274] (by decide +kernel) (by decide +kernel)
theorem fdX4_0 : mFld 4 0 2 3 RX4 TX4 := ⟨rfl, inX4, by decide, rfl, by decide⟩
theorem ptX4_0 : mPut 4 0 2 3 RX4 TX4 tyX4 (.object "MiddleAlgebras$Order") := ⟨fdX4_0, tyX4_ok, nmX4, (by decide +kernel), rfl⟩
theorem clX4_init_16 : Cond.classLink RX4 16 RX3 ∈ mTs := mTs_in 265 (by decide +kernel) (by decide +kernel)
theorem lkX4_18 : Cond.methodLinkNest RX4 18 yX3_init "MiddleAlgebras" ∈ mTs := mTs_in 266 (by decide +kernel) (by decide +kernel)
theorem lkX4_19 : Cond.fieldLink RX4 19 (TX4 1).1 (TX4 1).2.1 (TX4 1).2.2.1 ∈ mTs := mTs_in 268 (by decide +kernel) (by decide +kernel)
theorem fdX4_1 : mFld 4 1 2 3 RX4 TX4 := ⟨rfl, inX4, by decide, rfl, by decide⟩
theorem ptX4_1 : mPut 4 1 2 3 RX4 TX4 tyX4 (.object "MiddleAlgebras$Lattice") := ⟨fdX4_1, tyX4_ok, nmX4, (by decide +kernel), rfl⟩
theorem lkX4_23 : Cond.fieldLink RX4 23 (TX4 2).1 (TX4 2).2.1 (TX4 2).2.2.1 ∈ mTs := mTs_in 269 (by decide +kernel) (by decide +kernel)
theorem fdX4_2 : mFld 4 2 2 3 RX4 TX4 := ⟨rfl, inX4, by decide, rfl, by decide⟩
theorem ptX4_2 : mPut 4 2 2 3 RX4 TX4 tyX4 (.array .long) := ⟨fdX4_2, tyX4_ok, nmX4, (by decide +kernel), rfl⟩
theorem lkX1_3 : Cond.methodLink RX1 3 Lib.objectInit ∈ mTs := mTs_in 281 (by decide +kernel) (by decide +kernel)
theorem lkX1_9 : Cond.fieldLink RX1 9 (TX1 0).1 (TX1 0).2.1 (TX1 0).2.2.1 ∈ mTs := mTs_in 282 (by decide +kernel) (by decide +kernel)
theorem fdX1_0 : mFld 1 0 2 3 RX1 TX1 := ⟨rfl, inX1, by decide, rfl, by decide⟩
theorem ptX1_0 : mPut 1 0 2 3 RX1 TX1 tyX1 (.array .long) := ⟨fdX1_0, tyX1_ok, nmX1, (by decide +kernel), rfl⟩
theorem lkX1_15 : Cond.fieldLink RX1 15 (TX1 1).1 (TX1 1).2.1 (TX1 1).2.2.1 ∈ mTs := mTs_in 283 (by decide +kernel) (by decide +kernel)
theorem fdX1_1 : mFld 1 1 1 3 RX1 TX1 := ⟨rfl, inX1, by decide, rfl, by decide⟩
theorem ptX1_1 : mPut 1 1 1 3 RX1 TX1 tyX1 .long := ⟨fdX1_1, tyX1_ok, nmX1, (by decide +kernel), rfl⟩
theorem lkX11_1 : Cond.methodLink RX11 1 Lib.objectInit ∈ mTs := mTs_in 59 (by decide +kernel) (by decide +kernel)
theorem ptX11_0 : mPut 10 0 2 12 RX11 TX11 tyX11 (.array .byte) := ⟨fdX11_0, tyX11_ok, nmX11, (by decide +kernel), rfl⟩
theorem nwX8 : mNew 7 4 RX8 TX8 tyX8 := ⟨rfl, inX8, tyX8_ok, by decide, fun E j hj => by rcases (show j = 0 ∨ j = 1 ∨ j = 2 ∨ j = 3 by omega) with rfl | rfl | rfl | rfl <;> rfl⟩
theorem clX11_init_17 : Cond.classLink RX11 17 RX8 ∈ mTs := mTs_in 62 (by decide +kernel) (by decide +kernel)
theorem isX8 : Cond.instantiable RX8 4 ∈ mTs := mTs_in 63 (by decide +kernel) (by decide +kernel)
theorem itX8 : Cond.initialized RX8 ∈ mTs := mTs_in 31 (by decide +kernel) (by decide +kernel)
theorem lkX11_19 : Cond.methodLinkNest RX11 19 yX8_init "MiddleAlgebras" ∈ mTs := mTs_in 64 (by decide +kernel) (by decide +kernel)
theorem myX8_init : mY yX8_init cX8_init 1 none 0 ∧ Cond.instanceMethod yX8_init ∈ mTs := ⟨⟨mTs_in 66 (by decide +kernel) (by decide +kernel), mTs_in 31 (by decide +kernel) (by decide +kernel), ⟨by decide, by decide⟩, by decide +kernel⟩, mTs_in 65 (by decide +kernel) (by decide +kernel)⟩
theorem ptX11_2 : mPut 10 2 2 12 RX11 TX11 tyX11 (.object "MiddleAlgebras$Reader") := ⟨fdX11_2, tyX11_ok, nmX11, (by decide +kernel), rfl⟩
theorem clX11_init_24 : Cond.classLink RX11 24 RX0 ∈ mTs := mTs_in 140 (by decide +kernel) (by decide +kernel)
theorem lkX11_26 : Cond.methodLinkNest RX11 26 yX0_init "MiddleAlgebras" ∈ mTs := mTs_in 141 (by decide +kernel) (by decide +kernel)
theorem nwX7 : mNew 6 4 RX7 TX7 tyX7 := ⟨rfl, inX7, tyX7_ok, by decide, fun E j hj => by rcases (show j = 0 ∨ j = 1 ∨ j = 2 ∨ j = 3 by omega) with rfl | rfl | rfl | rfl <;> rfl⟩
theorem clX11_init_34 : Cond.classLink RX11 34 RX7 ∈ mTs := mTs_in 142 (by decide +kernel) (by decide +kernel)
theorem isX7 : Cond.instantiable RX7 4 ∈ mTs := mTs_in 143 (by decide +kernel) (by decide +kernel)
theorem itX7 : Cond.initialized RX7 ∈ mTs := mTs_in 34 (by decide +kernel) (by decide +kernel)
theorem lkX11_36 : Cond.methodLinkNest RX11 36 yX7_init "MiddleAlgebras" ∈ mTs := mTs_in 144 (by decide +kernel) (by decide +kernel)
theorem myX7_init : mY yX7_init cX7_init 1 none 0 ∧ Cond.instanceMethod yX7_init ∈ mTs := ⟨⟨mTs_in 146 (by decide +kernel) (by decide +kernel), mTs_in 34 (by decide +kernel) (by decide +kernel), ⟨by decide, by decide⟩, by decide +kernel⟩, mTs_in 145 (by decide +kernel) (by decide +kernel)⟩
theorem ptX11_5 : mPut 10 5 2 12 RX11 TX11 tyX11 (.object "MiddleAlgebras$Places") := ⟨fdX11_5, tyX11_ok, nmX11, (by decide +kernel), rfl⟩
theorem clX11_init_41 : Cond.classLink RX11 41 "MiddleAlgebras$Element" ∈ mTs := mTs_in 162 (by decide +kernel) (by decide +kernel)
theorem ov_Element : Cond.arrayOver (.object "MiddleAlgebras$Element") ∈ mTs := mTs_in 163 (by decide +kernel) (by decide +kernel)
theorem ptX11_6 : mPut 10 6 2 12 RX11 TX11 tyX11 (.array (.object "MiddleAlgebras$Element")) := ⟨fdX11_6, tyX11_ok, nmX11, (by decide +kernel), rfl⟩
theorem clX11_init_47 : Cond.classLink RX11 47 "MiddleAlgebras$Order" ∈ mTs := mTs_in 164 (by decide +kernel) (by decide +kernel)
theorem ov_Order : Cond.arrayOver (.object "MiddleAlgebras$Order") ∈ mTs := mTs_in 165 (by decide +kernel) (by decide +kernel)
theorem ptX11_7 : mPut 10 7 2 12 RX11 TX11 tyX11 (.array (.object "MiddleAlgebras$Order")) := ⟨fdX11_7, tyX11_ok, nmX11, (by decide +kernel), rfl⟩
theorem nwX2 : mNew 2 7 RX2 TX2 tyX2 := ⟨rfl, inX2, tyX2_ok, by decide, fun E j hj => by rcases (show j = 0 ∨ j = 1 ∨ j = 2 ∨ j = 3 ∨ j = 4 ∨ j = 5 ∨ j = 6 by omega) with rfl | rfl | rfl | rfl | rfl | rfl | rfl <;> rfl⟩
theorem clX11_init_53 : Cond.classLink RX11 53 RX2 ∈ mTs := mTs_in 166 (by decide +kernel) (by decide +kernel)
theorem isX2 : Cond.instantiable RX2 7 ∈ mTs := mTs_in 167 (by decide +kernel) (by decide +kernel)
theorem itX2 : Cond.initialized RX2 ∈ mTs := mTs_in 35 (by decide +kernel) (by decide +kernel)
theorem lkX11_55 : Cond.methodLinkNest RX11 55 yX2_init "MiddleAlgebras" ∈ mTs := mTs_in 168 (by decide +kernel) (by decide +kernel)
theorem myX2_init : mY yX2_init cX2_init 1 none 0 ∧ Cond.instanceMethod yX2_init ∈ mTs := ⟨⟨mTs_in 170 (by decide +kernel) (by decide +kernel), mTs_in 35 (by decide +kernel) (by decide +kernel), ⟨by decide, by decide⟩, by decide +kernel⟩, mTs_in 169 (by decide +kernel) (by decide +kernel)⟩
theorem lkX11_56 : Cond.fieldLink RX11 56 (TX11 8).1 (TX11 8).2.1 (TX11 8).2.2.1 ∈ mTs := mTs_in 301 (by decide +kernel) (by decide +kernel)
theorem fdX11_8 : mFld 10 8 2 12 RX11 TX11 := ⟨rfl, inX11, by decide, rfl, by decide⟩
theorem ptX11_8 : mPut 10 8 2 12 RX11 TX11 tyX11 (.object "MiddleAlgebras$Enlarger") := ⟨fdX11_8, tyX11_ok, nmX11, (by decide +kernel), rfl⟩
theorem nwX9 : mNew 8 5 RX9 TX9 tyX9 := ⟨rfl, inX9, tyX9_ok, by decide, fun E j hj => by rcases (show j = 0 ∨ j = 1 ∨ j = 2 ∨ j = 3 ∨ j = 4 by omega) with rfl | rfl | rfl | rfl | rfl <;> rfl⟩
theorem clX11_init_60 : Cond.classLink RX11 60 RX9 ∈ mTs := mTs_in 235 (by decide +kernel) (by decide +kernel)
theorem isX9 : Cond.instantiable RX9 5 ∈ mTs := mTs_in 236 (by decide +kernel) (by decide +kernel)
theorem itX9 : Cond.initialized RX9 ∈ mTs := mTs_in 38 (by decide +kernel) (by decide +kernel)
theorem lkX11_62 : Cond.methodLinkNest RX11 62 yX9_init "MiddleAlgebras" ∈ mTs := mTs_in 237 (by decide +kernel) (by decide +kernel)
theorem myX9_init : mY yX9_init cX9_init 1 none 0 ∧ Cond.instanceMethod yX9_init ∈ mTs := ⟨⟨mTs_in 239 (by decide +kernel) (by decide +kernel), mTs_in 38 (by decide +kernel) (by decide +kernel), ⟨by decide, by decide⟩, by decide +kernel⟩, mTs_in 238 (by decide +kernel) (by decide +kernel)⟩
theorem ptX11_9 : mPut 10 9 2 12 RX11 TX11 tyX11 (.object "MiddleAlgebras$Splitting") := ⟨fdX11_9, tyX11_ok, nmX11, (by decide +kernel), rfl⟩
theorem nwX4 : mNew 4 3 RX4 TX4 tyX4 := ⟨rfl, inX4, tyX4_ok, by decide, fun E j hj => by rcases (show j = 0 ∨ j = 1 ∨ j = 2 by omega) with rfl | rfl | rfl <;> rfl⟩
theorem clX11_init_67 : Cond.classLink RX11 67 RX4 ∈ mTs := mTs_in 257 (by decide +kernel) (by decide +kernel)
theorem isX4 : Cond.instantiable RX4 3 ∈ mTs := mTs_in 258 (by decide +kernel) (by decide +kernel)
theorem itX4 : Cond.initialized RX4 ∈ mTs := mTs_in 39 (by decide +kernel) (by decide +kernel)
theorem lkX11_69 : Cond.methodLinkNest RX11 69 yX4_init "MiddleAlgebras" ∈ mTs := mTs_in 259 (by decide +kernel) (by decide +kernel)
theorem myX4_init : mY yX4_init cX4_init 1 none 0 ∧ Cond.instanceMethod yX4_init ∈ mTs := ⟨⟨mTs_in 261 (by decide +kernel) (by decide +kernel), mTs_in 39 (by decide +kernel) (by decide +kernel), ⟨by decide, by decide⟩, by decide +kernel⟩, mTs_in 260 (by decide +kernel) (by decide +kernel)⟩
theorem lkX11_70 : Cond.fieldLink RX11 70 (TX11 10).1 (TX11 10).2.1 (TX11 10).2.2.1 ∈ mTs := mTs_in 303 (by decide +kernel) (by decide +kernel)
theorem fdX11_10 : mFld 10 10 2 12 RX11 TX11 := ⟨rfl, inX11, by decide, rfl, by decide⟩
theorem ptX11_10 : mPut 10 10 2 12 RX11 TX11 tyX11 (.object "MiddleAlgebras$LeftIdeal") := ⟨fdX11_10, tyX11_ok, nmX11, (by decide +kernel), rfl⟩
theorem lkX11_74 : Cond.fieldLink RX11 74 (TX11 11).1 (TX11 11).2.1 (TX11 11).2.2.1 ∈ mTs := mTs_in 304 (by decide +kernel) (by decide +kernel)
theorem fdX11_11 : mFld 10 11 2 12 RX11 TX11 := ⟨rfl, inX11, by decide, rfl, by decide⟩
theorem ptX11_11 : mPut 10 11 2 12 RX11 TX11 tyX11 (.array .long) := ⟨fdX11_11, tyX11_ok, nmX11, (by decide +kernel), rfl⟩
theorem nwX1 : mNew 1 3 RX1 TX1 tyX1 := ⟨rfl, inX1, tyX1_ok, by decide, fun E j hj => by rcases (show j = 0 ∨ j = 1 ∨ j = 2 by omega) with rfl | rfl | rfl <;> rfl⟩
theorem isX1 : Cond.instantiable RX1 3 ∈ mTs := mTs_in 277 (by decide +kernel) (by decide +kernel)
theorem itX1 : Cond.initialized RX1 ∈ mTs := mTs_in 40 (by decide +kernel) (by decide +kernel)
theorem lkX11_78 : Cond.methodLinkNest RX11 78 yX1_init "MiddleAlgebras" ∈ mTs := mTs_in 278 (by decide +kernel) (by decide +kernel)
theorem myX1_init : mY yX1_init cX1_init 1 none 0 ∧ Cond.instanceMethod yX1_init ∈ mTs := ⟨⟨mTs_in 280 (by decide +kernel) (by decide +kernel), mTs_in 40 (by decide +kernel) (by decide +kernel), ⟨by decide, by decide⟩, by decide +kernel⟩, mTs_in 279 (by decide +kernel) (by decide +kernel)⟩
theorem lkX11_79 : Cond.methodLinkNest RX11 79 yX6_init "MiddleAlgebras" ∈ mTs := mTs_in 292 (by decide +kernel) (by decide +kernel)
theorem dX10_init_0 : decode cX10_init 0 = .ok (.aload_n 0, 1) := by decide +kernel
theorem dX10_init_1 : decode cX10_init 1 = .ok (.invokespecial 3, 3) := by decide +kernel
theorem dX10_init_4 : decode cX10_init 4 = .ok (.aload_n 0, 1) := by decide +kernel
theorem dX10_init_5 : decode cX10_init 5 = .ok (.iconst 0, 1) := by decide +kernel
theorem dX10_init_6 : decode cX10_init 6 = .ok (.newarray .byte, 2) := by decide +kernel
theorem dX10_init_8 : decode cX10_init 8 = .ok (.putfield 9, 3) := by decide +kernel
theorem dX10_init_11 : decode cX10_init 11 = .ok (.aload_n 0, 1) := by decide +kernel
theorem dX10_init_12 : decode cX10_init 12 = .ok (.iconst 0, 1) := by decide +kernel
theorem dX10_init_13 : decode cX10_init 13 = .ok (.putfield 15, 3) := by decide +kernel
theorem dX10_init_16 : decode cX10_init 16 = .ok (.aload_n 0, 1) := by decide +kernel
theorem dX10_init_17 : decode cX10_init 17 = .ok (.iconst 0, 1) := by decide +kernel
theorem dX10_init_18 : decode cX10_init 18 = .ok (.putfield 19, 3) := by decide +kernel
theorem dX10_init_21 : decode cX10_init 21 = .ok (.aload_n 0, 1) := by decide +kernel
theorem dX10_init_22 : decode cX10_init 22 = .ok (.iconst 0, 1) := by decide +kernel
theorem dX10_init_23 : decode cX10_init 23 = .ok (.putfield 22, 3) := by decide +kernel
theorem dX10_init_26 : decode cX10_init 26 = .ok (.aload_n 0, 1) := by decide +kernel
theorem dX10_init_27 : decode cX10_init 27 = .ok (.iconst 0, 1) := by decide +kernel
theorem dX10_init_28 : decode cX10_init 28 = .ok (.putfield 25, 3) := by decide +kernel
theorem dX10_init_31 : decode cX10_init 31 = .ok (.return_, 1) := by decide +kernel
theorem dX0_init_0 : decode cX0_init 0 = .ok (.aload_n 0, 1) := by decide +kernel
theorem dX0_init_1 : decode cX0_init 1 = .ok (.invokespecial 3, 3) := by decide +kernel
theorem dX0_init_4 : decode cX0_init 4 = .ok (.aload_n 0, 1) := by decide +kernel
theorem dX0_init_5 : decode cX0_init 5 = .ok (.iconst 0, 1) := by decide +kernel
theorem dX0_init_6 : decode cX0_init 6 = .ok (.putfield 9, 3) := by decide +kernel
theorem dX0_init_9 : decode cX0_init 9 = .ok (.aload_n 0, 1) := by decide +kernel
theorem dX0_init_10 : decode cX0_init 10 = .ok (.bipush 8, 2) := by decide +kernel
theorem dX0_init_12 : decode cX0_init 12 = .ok (.newarray .int, 2) := by decide +kernel
theorem dX0_init_14 : decode cX0_init 14 = .ok (.putfield 15, 3) := by decide +kernel
theorem dX0_init_17 : decode cX0_init 17 = .ok (.aload_n 0, 1) := by decide +kernel
theorem dX0_init_18 : decode cX0_init 18 = .ok (.bipush 8, 2) := by decide +kernel
theorem dX0_init_20 : decode cX0_init 20 = .ok (.newarray .int, 2) := by decide +kernel
theorem dX0_init_22 : decode cX0_init 22 = .ok (.putfield 19, 3) := by decide +kernel
theorem dX0_init_25 : decode cX0_init 25 = .ok (.aload_n 0, 1) := by decide +kernel
theorem dX0_init_26 : decode cX0_init 26 = .ok (.bipush 8, 2) := by decide +kernel
theorem dX0_init_28 : decode cX0_init 28 = .ok (.newarray .int, 2) := by decide +kernel
theorem dX0_init_30 : decode cX0_init 30 = .ok (.putfield 22, 3) := by decide +kernel
theorem dX0_init_33 : decode cX0_init 33 = .ok (.aload_n 0, 1) := by decide +kernel
theorem dX0_init_34 : decode cX0_init 34 = .ok (.bipush 8, 2) := by decide +kernel
theorem dX0_init_36 : decode cX0_init 36 = .ok (.newarray .int, 2) := by decide +kernel
theorem dX0_init_38 : decode cX0_init 38 = .ok (.putfield 25, 3) := by decide +kernel
theorem dX0_init_41 : decode cX0_init 41 = .ok (.aload_n 0, 1) := by decide +kernel
theorem dX0_init_42 : decode cX0_init 42 = .ok (.bipush 8, 2) := by decide +kernel
theorem dX0_init_44 : decode cX0_init 44 = .ok (.bipush 10, 2) := by decide +kernel
theorem dX0_init_46 : decode cX0_init 46 = .ok (.multianewarray 28 2, 4) := by decide +kernel
theorem dX0_init_50 : decode cX0_init 50 = .ok (.putfield 30, 3) := by decide +kernel
theorem dX0_init_53 : decode cX0_init 53 = .ok (.aload_n 0, 1) := by decide +kernel
theorem dX0_init_54 : decode cX0_init 54 = .ok (.bipush 8, 2) := by decide +kernel
theorem dX0_init_56 : decode cX0_init 56 = .ok (.iconst 4, 1) := by decide +kernel
theorem dX0_init_57 : decode cX0_init 57 = .ok (.multianewarray 33 2, 4) := by decide +kernel
theorem dX0_init_61 : decode cX0_init 61 = .ok (.putfield 35, 3) := by decide +kernel
theorem dX0_init_64 : decode cX0_init 64 = .ok (.aload_n 0, 1) := by decide +kernel
theorem dX0_init_65 : decode cX0_init 65 = .ok (.bipush 8, 2) := by decide +kernel
theorem dX0_init_67 : decode cX0_init 67 = .ok (.iconst 4, 1) := by decide +kernel
theorem dX0_init_68 : decode cX0_init 68 = .ok (.multianewarray 33 2, 4) := by decide +kernel
theorem dX0_init_72 : decode cX0_init 72 = .ok (.putfield 38, 3) := by decide +kernel
theorem dX0_init_75 : decode cX0_init 75 = .ok (.return_, 1) := by decide +kernel
theorem dX8_init_0 : decode cX8_init 0 = .ok (.aload_n 0, 1) := by decide +kernel
theorem dX8_init_1 : decode cX8_init 1 = .ok (.invokespecial 3, 3) := by decide +kernel
theorem dX8_init_4 : decode cX8_init 4 = .ok (.aload_n 0, 1) := by decide +kernel
theorem dX8_init_5 : decode cX8_init 5 = .ok (.new 9, 3) := by decide +kernel
theorem dX8_init_8 : decode cX8_init 8 = .ok (.dup, 1) := by decide +kernel
theorem dX8_init_9 : decode cX8_init 9 = .ok (.invokespecial 11, 3) := by decide +kernel
theorem dX8_init_12 : decode cX8_init 12 = .ok (.putfield 12, 3) := by decide +kernel
theorem dX8_init_15 : decode cX8_init 15 = .ok (.aload_n 0, 1) := by decide +kernel
theorem dX8_init_16 : decode cX8_init 16 = .ok (.new 18, 3) := by decide +kernel
theorem dX8_init_19 : decode cX8_init 19 = .ok (.dup, 1) := by decide +kernel
theorem dX8_init_20 : decode cX8_init 20 = .ok (.invokespecial 20, 3) := by decide +kernel
theorem dX8_init_23 : decode cX8_init 23 = .ok (.putfield 21, 3) := by decide +kernel
theorem dX8_init_26 : decode cX8_init 26 = .ok (.aload_n 0, 1) := by decide +kernel
theorem dX8_init_27 : decode cX8_init 27 = .ok (.iconst 0, 1) := by decide +kernel
theorem dX8_init_28 : decode cX8_init 28 = .ok (.putfield 25, 3) := by decide +kernel
theorem dX8_init_31 : decode cX8_init 31 = .ok (.aload_n 0, 1) := by decide +kernel
theorem dX8_init_32 : decode cX8_init 32 = .ok (.lconst 0, 1) := by decide +kernel
theorem dX8_init_33 : decode cX8_init 33 = .ok (.putfield 29, 3) := by decide +kernel
theorem dX8_init_36 : decode cX8_init 36 = .ok (.return_, 1) := by decide +kernel
theorem dX7_init_0 : decode cX7_init 0 = .ok (.aload_n 0, 1) := by decide +kernel
theorem dX7_init_1 : decode cX7_init 1 = .ok (.invokespecial 3, 3) := by decide +kernel
theorem dX7_init_4 : decode cX7_init 4 = .ok (.aload_n 0, 1) := by decide +kernel
theorem dX7_init_5 : decode cX7_init 5 = .ok (.iconst 0, 1) := by decide +kernel
theorem dX7_init_6 : decode cX7_init 6 = .ok (.putfield 9, 3) := by decide +kernel
theorem dX7_init_9 : decode cX7_init 9 = .ok (.aload_n 0, 1) := by decide +kernel
theorem dX7_init_10 : decode cX7_init 10 = .ok (.iconst 0, 1) := by decide +kernel
theorem dX7_init_11 : decode cX7_init 11 = .ok (.putfield 15, 3) := by decide +kernel
theorem dX7_init_14 : decode cX7_init 14 = .ok (.aload_n 0, 1) := by decide +kernel
theorem dX7_init_15 : decode cX7_init 15 = .ok (.bipush 64, 2) := by decide +kernel
theorem dX7_init_17 : decode cX7_init 17 = .ok (.newarray .int, 2) := by decide +kernel
theorem dX7_init_19 : decode cX7_init 19 = .ok (.putfield 18, 3) := by decide +kernel
theorem dX7_init_22 : decode cX7_init 22 = .ok (.aload_n 0, 1) := by decide +kernel
theorem dX7_init_23 : decode cX7_init 23 = .ok (.bipush 8, 2) := by decide +kernel
theorem dX7_init_25 : decode cX7_init 25 = .ok (.bipush 64, 2) := by decide +kernel
theorem dX7_init_27 : decode cX7_init 27 = .ok (.multianewarray 22 2, 4) := by decide +kernel
theorem dX7_init_31 : decode cX7_init 31 = .ok (.putfield 24, 3) := by decide +kernel
theorem dX7_init_34 : decode cX7_init 34 = .ok (.return_, 1) := by decide +kernel
theorem dX3_init_0 : decode cX3_init 0 = .ok (.aload_n 0, 1) := by decide +kernel
theorem dX3_init_1 : decode cX3_init 1 = .ok (.invokespecial 1, 3) := by decide +kernel
theorem dX3_init_4 : decode cX3_init 4 = .ok (.aload_n 0, 1) := by decide +kernel
theorem dX3_init_5 : decode cX3_init 5 = .ok (.iconst 4, 1) := by decide +kernel
theorem dX3_init_6 : decode cX3_init 6 = .ok (.iconst 4, 1) := by decide +kernel
theorem dX3_init_7 : decode cX3_init 7 = .ok (.multianewarray 7 2, 4) := by decide +kernel
theorem dX3_init_11 : decode cX3_init 11 = .ok (.putfield 9, 3) := by decide +kernel
theorem dX3_init_14 : decode cX3_init 14 = .ok (.aload_n 0, 1) := by decide +kernel
theorem dX3_init_15 : decode cX3_init 15 = .ok (.iconst 4, 1) := by decide +kernel
theorem dX3_init_16 : decode cX3_init 16 = .ok (.newarray .long, 2) := by decide +kernel
theorem dX3_init_18 : decode cX3_init 18 = .ok (.putfield 14, 3) := by decide +kernel
theorem dX3_init_21 : decode cX3_init 21 = .ok (.aload_n 0, 1) := by decide +kernel
theorem dX3_init_22 : decode cX3_init 22 = .ok (.lconst 1, 1) := by decide +kernel
theorem dX3_init_23 : decode cX3_init 23 = .ok (.putfield 18, 3) := by decide +kernel
theorem dX3_init_26 : decode cX3_init 26 = .ok (.return_, 1) := by decide +kernel
theorem dX6_init_0 : decode cX6_init 0 = .ok (.aload_n 0, 1) := by decide +kernel
theorem dX6_init_1 : decode cX6_init 1 = .ok (.invokespecial 1, 3) := by decide +kernel
theorem dX6_init_4 : decode cX6_init 4 = .ok (.aload_n 0, 1) := by decide +kernel
theorem dX6_init_5 : decode cX6_init 5 = .ok (.lconst 1, 1) := by decide +kernel
theorem dX6_init_6 : decode cX6_init 6 = .ok (.putfield 7, 3) := by decide +kernel
theorem dX6_init_9 : decode cX6_init 9 = .ok (.aload_n 0, 1) := by decide +kernel
theorem dX6_init_10 : decode cX6_init 10 = .ok (.lconst 1, 1) := by decide +kernel
theorem dX6_init_11 : decode cX6_init 11 = .ok (.putfield 13, 3) := by decide +kernel
theorem dX6_init_14 : decode cX6_init 14 = .ok (.aload_n 0, 1) := by decide +kernel
theorem dX6_init_15 : decode cX6_init 15 = .ok (.new 16, 3) := by decide +kernel
theorem dX6_init_18 : decode cX6_init 18 = .ok (.dup, 1) := by decide +kernel
theorem dX6_init_19 : decode cX6_init 19 = .ok (.invokespecial 18, 3) := by decide +kernel
theorem dX6_init_22 : decode cX6_init 22 = .ok (.putfield 19, 3) := by decide +kernel
theorem dX6_init_25 : decode cX6_init 25 = .ok (.aload_n 0, 1) := by decide +kernel
theorem dX6_init_26 : decode cX6_init 26 = .ok (.iconst 4, 1) := by decide +kernel
theorem dX6_init_27 : decode cX6_init 27 = .ok (.newarray .long, 2) := by decide +kernel
theorem dX6_init_29 : decode cX6_init 29 = .ok (.putfield 23, 3) := by decide +kernel
theorem dX6_init_32 : decode cX6_init 32 = .ok (.return_, 1) := by decide +kernel
theorem dX2_init_0 : decode cX2_init 0 = .ok (.aload_n 0, 1) := by decide +kernel
theorem dX2_init_1 : decode cX2_init 1 = .ok (.invokespecial 1, 3) := by decide +kernel
theorem dX2_init_4 : decode cX2_init 4 = .ok (.aload_n 0, 1) := by decide +kernel
theorem dX2_init_5 : decode cX2_init 5 = .ok (.new 7, 3) := by decide +kernel
theorem dX2_init_8 : decode cX2_init 8 = .ok (.dup, 1) := by decide +kernel
theorem dX2_init_9 : decode cX2_init 9 = .ok (.invokespecial 9, 3) := by decide +kernel
theorem dX2_init_12 : decode cX2_init 12 = .ok (.putfield 10, 3) := by decide +kernel
theorem dX2_init_15 : decode cX2_init 15 = .ok (.aload_n 0, 1) := by decide +kernel
theorem dX2_init_16 : decode cX2_init 16 = .ok (.iconst 2, 1) := by decide +kernel
theorem dX2_init_17 : decode cX2_init 17 = .ok (.putfield 16, 3) := by decide +kernel
theorem dX2_init_20 : decode cX2_init 20 = .ok (.aload_n 0, 1) := by decide +kernel
theorem dX2_init_21 : decode cX2_init 21 = .ok (.lconst 1, 1) := by decide +kernel
theorem dX2_init_22 : decode cX2_init 22 = .ok (.putfield 20, 3) := by decide +kernel
theorem dX2_init_25 : decode cX2_init 25 = .ok (.aload_n 0, 1) := by decide +kernel
theorem dX2_init_26 : decode cX2_init 26 = .ok (.new 24, 3) := by decide +kernel
theorem dX2_init_29 : decode cX2_init 29 = .ok (.dup, 1) := by decide +kernel
theorem dX2_init_30 : decode cX2_init 30 = .ok (.invokespecial 26, 3) := by decide +kernel
theorem dX2_init_33 : decode cX2_init 33 = .ok (.putfield 27, 3) := by decide +kernel
theorem dX2_init_36 : decode cX2_init 36 = .ok (.aload_n 0, 1) := by decide +kernel
theorem dX2_init_37 : decode cX2_init 37 = .ok (.new 24, 3) := by decide +kernel
theorem dX2_init_40 : decode cX2_init 40 = .ok (.dup, 1) := by decide +kernel
theorem dX2_init_41 : decode cX2_init 41 = .ok (.invokespecial 26, 3) := by decide +kernel
theorem dX2_init_44 : decode cX2_init 44 = .ok (.putfield 31, 3) := by decide +kernel
theorem dX2_init_47 : decode cX2_init 47 = .ok (.aload_n 0, 1) := by decide +kernel
theorem dX2_init_48 : decode cX2_init 48 = .ok (.iconst 5, 1) := by decide +kernel
theorem dX2_init_49 : decode cX2_init 49 = .ok (.iconst 4, 1) := by decide +kernel
theorem dX2_init_50 : decode cX2_init 50 = .ok (.multianewarray 34 2, 4) := by decide +kernel
theorem dX2_init_54 : decode cX2_init 54 = .ok (.putfield 36, 3) := by decide +kernel
theorem dX2_init_57 : decode cX2_init 57 = .ok (.aload_n 0, 1) := by decide +kernel
theorem dX2_init_58 : decode cX2_init 58 = .ok (.iconst 4, 1) := by decide +kernel
theorem dX2_init_59 : decode cX2_init 59 = .ok (.newarray .long, 2) := by decide +kernel
theorem dX2_init_61 : decode cX2_init 61 = .ok (.putfield 39, 3) := by decide +kernel
theorem dX2_init_64 : decode cX2_init 64 = .ok (.return_, 1) := by decide +kernel
theorem dX9_init_0 : decode cX9_init 0 = .ok (.aload_n 0, 1) := by decide +kernel
theorem dX9_init_1 : decode cX9_init 1 = .ok (.invokespecial 1, 3) := by decide +kernel
theorem dX9_init_4 : decode cX9_init 4 = .ok (.aload_n 0, 1) := by decide +kernel
theorem dX9_init_5 : decode cX9_init 5 = .ok (.lconst 1, 1) := by decide +kernel
theorem dX9_init_6 : decode cX9_init 6 = .ok (.putfield 7, 3) := by decide +kernel
theorem dX9_init_9 : decode cX9_init 9 = .ok (.aload_n 0, 1) := by decide +kernel
theorem dX9_init_10 : decode cX9_init 10 = .ok (.lconst 1, 1) := by decide +kernel
theorem dX9_init_11 : decode cX9_init 11 = .ok (.putfield 13, 3) := by decide +kernel
theorem dX9_init_14 : decode cX9_init 14 = .ok (.aload_n 0, 1) := by decide +kernel
theorem dX9_init_15 : decode cX9_init 15 = .ok (.lconst 1, 1) := by decide +kernel
theorem dX9_init_16 : decode cX9_init 16 = .ok (.putfield 16, 3) := by decide +kernel
theorem dX9_init_19 : decode cX9_init 19 = .ok (.aload_n 0, 1) := by decide +kernel
theorem dX9_init_20 : decode cX9_init 20 = .ok (.lconst 1, 1) := by decide +kernel
theorem dX9_init_21 : decode cX9_init 21 = .ok (.putfield 19, 3) := by decide +kernel
theorem dX9_init_24 : decode cX9_init 24 = .ok (.aload_n 0, 1) := by decide +kernel
theorem dX9_init_25 : decode cX9_init 25 = .ok (.lconst 0, 1) := by decide +kernel
theorem dX9_init_26 : decode cX9_init 26 = .ok (.putfield 22, 3) := by decide +kernel
theorem dX9_init_29 : decode cX9_init 29 = .ok (.return_, 1) := by decide +kernel
theorem dX4_init_0 : decode cX4_init 0 = .ok (.aload_n 0, 1) := by decide +kernel
theorem dX4_init_1 : decode cX4_init 1 = .ok (.invokespecial 1, 3) := by decide +kernel
theorem dX4_init_4 : decode cX4_init 4 = .ok (.aload_n 0, 1) := by decide +kernel
theorem dX4_init_5 : decode cX4_init 5 = .ok (.new 7, 3) := by decide +kernel
theorem dX4_init_8 : decode cX4_init 8 = .ok (.dup, 1) := by decide +kernel
theorem dX4_init_9 : decode cX4_init 9 = .ok (.invokespecial 9, 3) := by decide +kernel
theorem dX4_init_12 : decode cX4_init 12 = .ok (.putfield 10, 3) := by decide +kernel
theorem dX4_init_15 : decode cX4_init 15 = .ok (.aload_n 0, 1) := by decide +kernel
theorem dX4_init_16 : decode cX4_init 16 = .ok (.new 16, 3) := by decide +kernel
theorem dX4_init_19 : decode cX4_init 19 = .ok (.dup, 1) := by decide +kernel
theorem dX4_init_20 : decode cX4_init 20 = .ok (.invokespecial 18, 3) := by decide +kernel
theorem dX4_init_23 : decode cX4_init 23 = .ok (.putfield 19, 3) := by decide +kernel
theorem dX4_init_26 : decode cX4_init 26 = .ok (.aload_n 0, 1) := by decide +kernel
theorem dX4_init_27 : decode cX4_init 27 = .ok (.iconst 4, 1) := by decide +kernel
theorem dX4_init_28 : decode cX4_init 28 = .ok (.newarray .long, 2) := by decide +kernel
theorem dX4_init_30 : decode cX4_init 30 = .ok (.putfield 23, 3) := by decide +kernel
theorem dX4_init_33 : decode cX4_init 33 = .ok (.return_, 1) := by decide +kernel
theorem dX1_init_0 : decode cX1_init 0 = .ok (.aload_n 0, 1) := by decide +kernel
theorem dX1_init_1 : decode cX1_init 1 = .ok (.invokespecial 3, 3) := by decide +kernel
theorem dX1_init_4 : decode cX1_init 4 = .ok (.aload_n 0, 1) := by decide +kernel
theorem dX1_init_5 : decode cX1_init 5 = .ok (.iconst 4, 1) := by decide +kernel
theorem dX1_init_6 : decode cX1_init 6 = .ok (.newarray .long, 2) := by decide +kernel
theorem dX1_init_8 : decode cX1_init 8 = .ok (.putfield 9, 3) := by decide +kernel
theorem dX1_init_11 : decode cX1_init 11 = .ok (.aload_n 0, 1) := by decide +kernel
theorem dX1_init_12 : decode cX1_init 12 = .ok (.lconst 1, 1) := by decide +kernel
theorem dX1_init_13 : decode cX1_init 13 = .ok (.putfield 15, 3) := by decide +kernel
theorem dX1_init_16 : decode cX1_init 16 = .ok (.aload_n 0, 1) := by decide +kernel
theorem dX1_init_17 : decode cX1_init 17 = .ok (.iconst (-1), 1) := by decide +kernel
theorem dX1_init_18 : decode cX1_init 18 = .ok (.putfield 19, 3) := by decide +kernel
theorem dX1_init_21 : decode cX1_init 21 = .ok (.return_, 1) := by decide +kernel
theorem dX11_init_0 : decode cX11_init 0 = .ok (.aload_n 0, 1) := by decide +kernel
theorem dX11_init_1 : decode cX11_init 1 = .ok (.invokespecial 1, 3) := by decide +kernel
theorem dX11_init_4 : decode cX11_init 4 = .ok (.aload_n 0, 1) := by decide +kernel
theorem dX11_init_5 : decode cX11_init 5 = .ok (.sipush 600, 3) := by decide +kernel
theorem dX11_init_8 : decode cX11_init 8 = .ok (.newarray .byte, 2) := by decide +kernel
theorem dX11_init_10 : decode cX11_init 10 = .ok (.putfield 9, 3) := by decide +kernel
theorem dX11_init_13 : decode cX11_init 13 = .ok (.aload_n 0, 1) := by decide +kernel
theorem dX11_init_14 : decode cX11_init 14 = .ok (.iconst 0, 1) := by decide +kernel
theorem dX11_init_15 : decode cX11_init 15 = .ok (.putfield 13, 3) := by decide +kernel
theorem dX11_init_18 : decode cX11_init 18 = .ok (.aload_n 0, 1) := by decide +kernel
theorem dX11_init_19 : decode cX11_init 19 = .ok (.new 17, 3) := by decide +kernel
theorem dX11_init_22 : decode cX11_init 22 = .ok (.dup, 1) := by decide +kernel
theorem dX11_init_23 : decode cX11_init 23 = .ok (.invokespecial 19, 3) := by decide +kernel
theorem dX11_init_26 : decode cX11_init 26 = .ok (.putfield 20, 3) := by decide +kernel
theorem dX11_init_29 : decode cX11_init 29 = .ok (.aload_n 0, 1) := by decide +kernel
theorem dX11_init_30 : decode cX11_init 30 = .ok (.new 24, 3) := by decide +kernel
theorem dX11_init_33 : decode cX11_init 33 = .ok (.dup, 1) := by decide +kernel
theorem dX11_init_34 : decode cX11_init 34 = .ok (.invokespecial 26, 3) := by decide +kernel
theorem dX11_init_37 : decode cX11_init 37 = .ok (.putfield 27, 3) := by decide +kernel
theorem dX11_init_40 : decode cX11_init 40 = .ok (.aload_n 0, 1) := by decide +kernel
theorem dX11_init_41 : decode cX11_init 41 = .ok (.new 24, 3) := by decide +kernel
theorem dX11_init_44 : decode cX11_init 44 = .ok (.dup, 1) := by decide +kernel
theorem dX11_init_45 : decode cX11_init 45 = .ok (.invokespecial 26, 3) := by decide +kernel
theorem dX11_init_48 : decode cX11_init 48 = .ok (.putfield 31, 3) := by decide +kernel
theorem dX11_init_51 : decode cX11_init 51 = .ok (.aload_n 0, 1) := by decide +kernel
theorem dX11_init_52 : decode cX11_init 52 = .ok (.new 34, 3) := by decide +kernel
theorem dX11_init_55 : decode cX11_init 55 = .ok (.dup, 1) := by decide +kernel
theorem dX11_init_56 : decode cX11_init 56 = .ok (.invokespecial 36, 3) := by decide +kernel
theorem dX11_init_59 : decode cX11_init 59 = .ok (.putfield 37, 3) := by decide +kernel
theorem dX11_init_62 : decode cX11_init 62 = .ok (.aload_n 0, 1) := by decide +kernel
theorem dX11_init_63 : decode cX11_init 63 = .ok (.bipush 8, 2) := by decide +kernel
theorem dX11_init_65 : decode cX11_init 65 = .ok (.anewarray 41, 3) := by decide +kernel
theorem dX11_init_68 : decode cX11_init 68 = .ok (.putfield 43, 3) := by decide +kernel
theorem dX11_init_71 : decode cX11_init 71 = .ok (.aload_n 0, 1) := by decide +kernel
theorem dX11_init_72 : decode cX11_init 72 = .ok (.bipush 8, 2) := by decide +kernel
theorem dX11_init_74 : decode cX11_init 74 = .ok (.anewarray 47, 3) := by decide +kernel
theorem dX11_init_77 : decode cX11_init 77 = .ok (.putfield 49, 3) := by decide +kernel
theorem dX11_init_80 : decode cX11_init 80 = .ok (.aload_n 0, 1) := by decide +kernel
theorem dX11_init_81 : decode cX11_init 81 = .ok (.new 53, 3) := by decide +kernel
theorem dX11_init_84 : decode cX11_init 84 = .ok (.dup, 1) := by decide +kernel
theorem dX11_init_85 : decode cX11_init 85 = .ok (.invokespecial 55, 3) := by decide +kernel
theorem dX11_init_88 : decode cX11_init 88 = .ok (.putfield 56, 3) := by decide +kernel
theorem dX11_init_91 : decode cX11_init 91 = .ok (.aload_n 0, 1) := by decide +kernel
theorem dX11_init_92 : decode cX11_init 92 = .ok (.new 60, 3) := by decide +kernel
theorem dX11_init_95 : decode cX11_init 95 = .ok (.dup, 1) := by decide +kernel
theorem dX11_init_96 : decode cX11_init 96 = .ok (.invokespecial 62, 3) := by decide +kernel
theorem dX11_init_99 : decode cX11_init 99 = .ok (.putfield 63, 3) := by decide +kernel
theorem dX11_init_102 : decode cX11_init 102 = .ok (.aload_n 0, 1) := by decide +kernel
theorem dX11_init_103 : decode cX11_init 103 = .ok (.new 67, 3) := by decide +kernel
theorem dX11_init_106 : decode cX11_init 106 = .ok (.dup, 1) := by decide +kernel
theorem dX11_init_107 : decode cX11_init 107 = .ok (.invokespecial 69, 3) := by decide +kernel
theorem dX11_init_110 : decode cX11_init 110 = .ok (.putfield 70, 3) := by decide +kernel
theorem dX11_init_113 : decode cX11_init 113 = .ok (.aload_n 0, 1) := by decide +kernel
theorem dX11_init_114 : decode cX11_init 114 = .ok (.iconst 4, 1) := by decide +kernel
theorem dX11_init_115 : decode cX11_init 115 = .ok (.newarray .long, 2) := by decide +kernel
theorem dX11_init_117 : decode cX11_init 117 = .ok (.putfield 74, 3) := by decide +kernel
theorem dX11_init_120 : decode cX11_init 120 = .ok (.iconst 0, 1) := by decide +kernel
theorem dX11_init_121 : decode cX11_init 121 = .ok (.istore_n 1, 1) := by decide +kernel
theorem dX11_init_122 : decode cX11_init 122 = .ok (.iload_n 1, 1) := by decide +kernel
theorem dX11_init_123 : decode cX11_init 123 = .ok (.bipush 8, 2) := by decide +kernel
theorem dX11_init_125 : decode cX11_init 125 = .ok (.if_icmp .ge 22, 3) := by decide +kernel
theorem dX11_init_128 : decode cX11_init 128 = .ok (.aload_n 0, 1) := by decide +kernel
theorem dX11_init_129 : decode cX11_init 129 = .ok (.getfield 43, 3) := by decide +kernel
theorem dX11_init_132 : decode cX11_init 132 = .ok (.iload_n 1, 1) := by decide +kernel
theorem dX11_init_133 : decode cX11_init 133 = .ok (.new 41, 3) := by decide +kernel
theorem dX11_init_136 : decode cX11_init 136 = .ok (.dup, 1) := by decide +kernel
theorem dX11_init_137 : decode cX11_init 137 = .ok (.invokespecial 78, 3) := by decide +kernel
theorem dX11_init_140 : decode cX11_init 140 = .ok (.aastore, 1) := by decide +kernel
theorem dX11_init_141 : decode cX11_init 141 = .ok (.iinc 1 1, 3) := by decide +kernel
theorem dX11_init_144 : decode cX11_init 144 = .ok (.goto (-22), 3) := by decide +kernel
theorem dX11_init_147 : decode cX11_init 147 = .ok (.iconst 0, 1) := by decide +kernel
theorem dX11_init_148 : decode cX11_init 148 = .ok (.istore_n 1, 1) := by decide +kernel
theorem dX11_init_149 : decode cX11_init 149 = .ok (.iload_n 1, 1) := by decide +kernel
theorem dX11_init_150 : decode cX11_init 150 = .ok (.bipush 8, 2) := by decide +kernel
theorem dX11_init_152 : decode cX11_init 152 = .ok (.if_icmp .ge 22, 3) := by decide +kernel
theorem dX11_init_155 : decode cX11_init 155 = .ok (.aload_n 0, 1) := by decide +kernel
theorem dX11_init_156 : decode cX11_init 156 = .ok (.getfield 49, 3) := by decide +kernel
theorem dX11_init_159 : decode cX11_init 159 = .ok (.iload_n 1, 1) := by decide +kernel
theorem dX11_init_160 : decode cX11_init 160 = .ok (.new 47, 3) := by decide +kernel
theorem dX11_init_163 : decode cX11_init 163 = .ok (.dup, 1) := by decide +kernel
theorem dX11_init_164 : decode cX11_init 164 = .ok (.invokespecial 79, 3) := by decide +kernel
theorem dX11_init_167 : decode cX11_init 167 = .ok (.aastore, 1) := by decide +kernel
theorem dX11_init_168 : decode cX11_init 168 = .ok (.iinc 1 1, 3) := by decide +kernel
theorem dX11_init_171 : decode cX11_init 171 = .ok (.goto (-22), 3) := by decide +kernel
theorem dX11_init_174 : decode cX11_init 174 = .ok (.return_, 1) := by decide +kernel
def sX10_init (r N : Nat) (σ : mSt) : mSt := bnd (upR σ N) fun s1 => bnd (upS s1 r 0 ((N : Nat) : Int)) fun s3 => bnd (upS s3 r 1 0) fun s5 => bnd (upS s5 r 2 0) fun s7 => bnd (upS s7 r 3 0) fun s9 => bnd (upS s9 r 4 0) fun s11 => s11
def sX0_init (r N : Nat) (σ : mSt) : mSt := bnd (upS σ r 0 0) fun s1 => bnd (upR s1 N) fun s3 => bnd (upS s3 r 1 ((N : Nat) : Int)) fun s5 => bnd (upR s5 (N + 1)) fun s7 => bnd (upS s7 r 2 (((N + 1) : Nat) : Int)) fun s9 => bnd (upR s9 (N + 2)) fun s11 => bnd (upS s11 r 3 (((N + 2) : Nat) : Int)) fun s13 => bnd (upR s13 (N + 3)) fun s15 => bnd (upS s15 r 4 (((N + 3) : Nat) : Int)) fun s17 => bnd (upM s17 (N + 4) 8) fun s19 => bnd (upS s19 r 5 (((N + 4) : Nat) : Int)) fun s21 => bnd (upM s21 (N + 13) 8) fun s23 => bnd (upS s23 r 6 (((N + 13) : Nat) : Int)) fun s25 => bnd (upM s25 (N + 22) 8) fun s27 => bnd (upS s27 r 7 (((N + 22) : Nat) : Int)) fun s29 => s29
def sX8_init (r N : Nat) (σ : mSt) : mSt := bnd (upR σ N) fun s1 => bnd (sX10_init N (N + 1) s1) fun s3 => bnd (upS s3 r 0 ((N : Nat) : Int)) fun s5 => bnd (upR s5 (N + 2)) fun s7 => bnd (sX0_init (N + 2) (N + 3) s7) fun s9 => bnd (upS s9 r 1 (((N + 2) : Nat) : Int)) fun s11 => bnd (upS s11 r 2 0) fun s13 => bnd (upS s13 r 3 0) fun s15 => s15
def sX7_init (r N : Nat) (σ : mSt) : mSt := bnd (upS σ r 0 0) fun s1 => bnd (upS s1 r 1 0) fun s3 => bnd (upR s3 N) fun s5 => bnd (upS s5 r 2 ((N : Nat) : Int)) fun s7 => bnd (upM s7 (N + 1) 8) fun s9 => bnd (upS s9 r 3 (((N + 1) : Nat) : Int)) fun s11 => s11
def sX3_init (r N : Nat) (σ : mSt) : mSt := bnd (upM σ N 4) fun s1 => bnd (upS s1 r 0 ((N : Nat) : Int)) fun s3 => bnd (upR s3 (N + 5)) fun s5 => bnd (upS s5 r 1 (((N + 5) : Nat) : Int)) fun s7 => bnd (upS s7 r 2 1) fun s9 => s9
def sX6_init (r N : Nat) (σ : mSt) : mSt := bnd (upS σ r 0 1) fun s1 => bnd (upS s1 r 1 1) fun s3 => bnd (upR s3 N) fun s5 => bnd (sX3_init N (N + 1) s5) fun s7 => bnd (upS s7 r 2 ((N : Nat) : Int)) fun s9 => bnd (upR s9 (N + 7)) fun s11 => bnd (upS s11 r 3 (((N + 7) : Nat) : Int)) fun s13 => s13
def sX2_init (r N : Nat) (σ : mSt) : mSt := bnd (upR σ N) fun s1 => bnd (sX6_init N (N + 1) s1) fun s3 => bnd (upS s3 r 0 ((N : Nat) : Int)) fun s5 => bnd (upS s5 r 1 2) fun s7 => bnd (upS s7 r 2 1) fun s9 => bnd (upR s9 (N + 9)) fun s11 => bnd (sX3_init (N + 9) (N + 10) s11) fun s13 => bnd (upS s13 r 3 (((N + 9) : Nat) : Int)) fun s15 => bnd (upR s15 (N + 16)) fun s17 => bnd (sX3_init (N + 16) (N + 17) s17) fun s19 => bnd (upS s19 r 4 (((N + 16) : Nat) : Int)) fun s21 => bnd (upM s21 (N + 23) 5) fun s23 => bnd (upS s23 r 5 (((N + 23) : Nat) : Int)) fun s25 => bnd (upR s25 (N + 29)) fun s27 => bnd (upS s27 r 6 (((N + 29) : Nat) : Int)) fun s29 => s29
def sX9_init (r N : Nat) (σ : mSt) : mSt := bnd (upS σ r 0 1) fun s1 => bnd (upS s1 r 1 1) fun s3 => bnd (upS s3 r 2 1) fun s5 => bnd (upS s5 r 3 1) fun s7 => bnd (upS s7 r 4 0) fun s9 => s9
def sX4_init (r N : Nat) (σ : mSt) : mSt := bnd (upR σ N) fun s1 => bnd (sX6_init N (N + 1) s1) fun s3 => bnd (upS s3 r 0 ((N : Nat) : Int)) fun s5 => bnd (upR s5 (N + 9)) fun s7 => bnd (sX3_init (N + 9) (N + 10) s7) fun s9 => bnd (upS s9 r 1 (((N + 9) : Nat) : Int)) fun s11 => bnd (upR s11 (N + 16)) fun s13 => bnd (upS s13 r 2 (((N + 16) : Nat) : Int)) fun s15 => s15
def sX1_init (r N : Nat) (σ : mSt) : mSt := bnd (upR σ N) fun s1 => bnd (upS s1 r 0 ((N : Nat) : Int)) fun s3 => bnd (upS s3 r 1 1) fun s5 => bnd (upS s5 r 2 (-1)) fun s7 => s7
def sX11_init (σ : mSt) : mSt := bnd (upR σ 1) fun s1 => bnd (upS s1 0 0 ((1 : Nat) : Int)) fun s3 => bnd (upS s3 0 1 0) fun s5 => bnd (upR s5 2) fun s7 => bnd (sX8_init 2 3 s7) fun s9 => bnd (upS s9 0 2 ((2 : Nat) : Int)) fun s11 => bnd (upR s11 37) fun s13 => bnd (sX0_init 37 38 s13) fun s15 => bnd (upS s15 0 3 ((37 : Nat) : Int)) fun s17 => bnd (upR s17 69) fun s19 => bnd (sX0_init 69 70 s19) fun s21 => bnd (upS s21 0 4 ((69 : Nat) : Int)) fun s23 => bnd (upR s23 101) fun s25 => bnd (sX7_init 101 102 s25) fun s27 => bnd (upS s27 0 5 ((101 : Nat) : Int)) fun s29 => bnd (upR s29 112) fun s31 => bnd (upS s31 0 6 ((112 : Nat) : Int)) fun s33 => bnd (upR s33 113) fun s36 => bnd (upS s36 0 7 ((113 : Nat) : Int)) fun s39 => bnd (upR s39 114) fun s43 => bnd (sX2_init 114 115 s43) fun s47 => bnd (upS s47 0 8 ((114 : Nat) : Int)) fun s51 => bnd (upR s51 145) fun s55 => bnd (sX9_init 145 146 s55) fun s59 => bnd (upS s59 0 9 ((145 : Nat) : Int)) fun s63 => bnd (upR s63 146) fun s67 => bnd (sX4_init 146 147 s67) fun s71 => bnd (upS s71 0 10 ((146 : Nat) : Int)) fun s75 => bnd (upR s75 164) fun s79 => bnd (upS s79 0 11 ((164 : Nat) : Int)) fun s83 => bnd (upR s83 165) fun s88 => bnd (sX1_init 165 166 s88) fun s92 => bnd (upS s92 112 0 ((165 : Nat) : Int)) fun s96 => bnd (upR s96 167) fun s101 => bnd (sX1_init 167 168 s101) fun s105 => bnd (upS s105 112 1 ((167 : Nat) : Int)) fun s109 => bnd (upR s109 169) fun s114 => bnd (sX1_init 169 170 s114) fun s118 => bnd (upS s118 112 2 ((169 : Nat) : Int)) fun s122 => bnd (upR s122 171) fun s127 => bnd (sX1_init 171 172 s127) fun s131 => bnd (upS s131 112 3 ((171 : Nat) : Int)) fun s135 => bnd (upR s135 173) fun s140 => bnd (sX1_init 173 174 s140) fun s144 => bnd (upS s144 112 4 ((173 : Nat) : Int)) fun s148 => bnd (upR s148 175) fun s153 => bnd (sX1_init 175 176 s153) fun s157 => bnd (upS s157 112 5 ((175 : Nat) : Int)) fun s161 => bnd (upR s161 177) fun s166 => bnd (sX1_init 177 178 s166) fun s170 => bnd (upS s170 112 6 ((177 : Nat) : Int)) fun s174 => bnd (upR s174 179) fun s179 => bnd (sX1_init 179 180 s179) fun s183 => bnd (upS s183 112 7 ((179 : Nat) : Int)) fun s187 => bnd (upR s187 181) fun s193 => bnd (sX6_init 181 182 s193) fun s197 => bnd (upS s197 113 0 ((181 : Nat) : Int)) fun s201 => bnd (upR s201 190) fun s206 => bnd (sX6_init 190 191 s206) fun s210 => bnd (upS s210 113 1 ((190 : Nat) : Int)) fun s214 => bnd (upR s214 199) fun s219 => bnd (sX6_init 199 200 s219) fun s223 => bnd (upS s223 113 2 ((199 : Nat) : Int)) fun s227 => bnd (upR s227 208) fun s232 => bnd (sX6_init 208 209 s232) fun s236 => bnd (upS s236 113 3 ((208 : Nat) : Int)) fun s240 => bnd (upR s240 217) fun s245 => bnd (sX6_init 217 218 s245) fun s249 => bnd (upS s249 113 4 ((217 : Nat) : Int)) fun s253 => bnd (upR s253 226) fun s258 => bnd (sX6_init 226 227 s258) fun s262 => bnd (upS s262 113 5 ((226 : Nat) : Int)) fun s266 => bnd (upR s266 235) fun s271 => bnd (sX6_init 235 236 s271) fun s275 => bnd (upS s275 113 6 ((235 : Nat) : Int)) fun s279 => bnd (upR s279 244) fun s284 => bnd (sX6_init 244 245 s284) fun s288 => bnd (upS s288 113 7 ((244 : Nat) : Int)) fun s292 => s292
set_option maxRecDepth 100000 in
set_option maxHeartbeats 4000000 in
theorem iX10_init (l : Launch) (E : mE) (r N : Nat) (σ σ2 : mSt) (hm : sX10_init r N σ = σ2) (hrN : r < N) (hc0 : isC r 9) (hs : shpIs N [(22, 0)]) : mIMet l yX10_init cX10_init 1 1 12 E r N σ (N + 1) σ2 1 0 := by
  unfold sX10_init at hm
  refine m_ientry (by decide) (Nat.le_of_ble_eq_true rfl) (fun p e s m args below meth c G hr hk hin hM hz hE hA ls hl => ?_)
  have G : CallFix p m c cX10_init 1 s args mTs RX10 := G
  have hl : lv_has ls 1 [(0, .ref (eA E r))] := hl
  refine r_aload_n (np := 1) G hl 0 rfl dX10_init_0 rfl rfl ?_
  refine r_objInit (np := 4) G hl.1 lkX10_3 oi_i oi_c (Nat.le_of_ble_eq_true rfl) (Nat.le_of_ble_eq_true rfl) dX10_init_1 rfl ?_
  refine r_aload_n (np := 5) G hl 0 rfl dX10_init_4 rfl rfl ?_
  refine r_iconst (np := 6) G 0 dX10_init_5 rfl ?_
  obtain ⟨s1, e2, hm⟩ := bnd_t hm
  refine r_newP (np := 8) G hM hz hE hA (at0 := .byte) (t := 2) (n := 0) rfl (by decide) (by decide) rfl (fun _ h => nomatch h) (hs 0 (by decide)) ac_byte (by decide) (fun E => rfl) (Nat.le_of_ble_eq_true rfl) (Nat.le_of_ble_eq_true rfl) s1 e2 dX10_init_6 rfl (fun H hM hz => ?_)
  obtain ⟨s3, e4, hm⟩ := bnd_t hm
  refine mi_put (np := 11) G hM (r := r) (by omega) hc0 ptX10_0 rfl lkX10_9 (x := ((N : Nat) : Int)) (rf_ne (x := ((N : Nat) : Int)) (r := N) ⟨by omega, (Int.toNat_natCast _).symm⟩).symm rfl rfl s3 e4 dX10_init_8 rfl (fun H locs hM hz1 => ?_)
  have hz := hz1.trans hz
  refine r_aload_n (np := 12) G hl 0 rfl dX10_init_11 rfl rfl ?_
  refine r_iconst (np := 13) G 0 dX10_init_12 rfl ?_
  obtain ⟨s5, e6, hm⟩ := bnd_t hm
  refine mi_put (np := 16) G hM (r := r) (by omega) hc0 ptX10_1 rfl lkX10_15 (x := 0) rfl rfl rfl s5 e6 dX10_init_13 rfl (fun H locs hM hz1 => ?_)
  have hz := hz1.trans hz
  refine r_aload_n (np := 17) G hl 0 rfl dX10_init_16 rfl rfl ?_
  refine r_iconst (np := 18) G 0 dX10_init_17 rfl ?_
  obtain ⟨s7, e8, hm⟩ := bnd_t hm
  refine mi_put (np := 21) G hM (r := r) (by omega) hc0 ptX10_2 rfl lkX10_19 (x := 0) rfl rfl rfl s7 e8 dX10_init_18 rfl (fun H locs hM hz1 => ?_)
  have hz := hz1.trans hz
  refine r_aload_n (np := 22) G hl 0 rfl dX10_init_21 rfl rfl ?_
  refine r_iconst (np := 23) G 0 dX10_init_22 rfl ?_
  obtain ⟨s9, e10, hm⟩ := bnd_t hm
  refine mi_put (np := 26) G hM (r := r) (by omega) hc0 ptX10_3 rfl lkX10_22 (x := 0) rfl rfl rfl s9 e10 dX10_init_23 rfl (fun H locs hM hz1 => ?_)
  have hz := hz1.trans hz
  refine r_aload_n (np := 27) G hl 0 rfl dX10_init_26 rfl rfl ?_
  refine r_iconst (np := 28) G 0 dX10_init_27 rfl ?_
  obtain ⟨s11, e12, hm⟩ := bnd_t hm
  refine mi_put (np := 31) G hM (r := r) (by omega) hc0 ptX10_4 rfl lkX10_25 (x := 0) rfl rfl rfl s11 e12 dX10_init_28 rfl (fun H locs hM hz1 => ?_)
  have hz := hz1.trans hz
  subst hm
  exact r_ivret G hr hk hM hz rfl dX10_init_31
set_option maxRecDepth 100000 in
set_option maxHeartbeats 4000000 in
theorem iX0_init (l : Launch) (E : mE) (r N : Nat) (σ σ2 : mSt) (hm : sX0_init r N σ = σ2) (hrN : r < N) (hc0 : isC r 0) (hs : shpIs N [(20, 8), (20, 8), (20, 8), (20, 8), (25, 8), (22, 10), (22, 10), (22, 10), (22, 10), (22, 10), (22, 10), (22, 10), (22, 10), (26, 8), (20, 4), (20, 4), (20, 4), (20, 4), (20, 4), (20, 4), (20, 4), (20, 4), (26, 8), (20, 4), (20, 4), (20, 4), (20, 4), (20, 4), (20, 4), (20, 4), (20, 4)]) : mIMet l yX0_init cX0_init 1 1 12 E r N σ (N + 31) σ2 31 200 := by
  unfold sX0_init at hm
  refine m_ientry (by decide) (Nat.le_of_ble_eq_true rfl) (fun p e s m args below meth c G hr hk hin hM hz hE hA ls hl => ?_)
  have G : CallFix p m c cX0_init 1 s args mTs RX0 := G
  have hl : lv_has ls 1 [(0, .ref (eA E r))] := hl
  refine r_aload_n (np := 1) G hl 0 rfl dX0_init_0 rfl rfl ?_
  refine r_objInit (np := 4) G hl.1 lkX0_3 oi_i oi_c (Nat.le_of_ble_eq_true rfl) (Nat.le_of_ble_eq_true rfl) dX0_init_1 rfl ?_
  refine r_aload_n (np := 5) G hl 0 rfl dX0_init_4 rfl rfl ?_
  refine r_iconst (np := 6) G 0 dX0_init_5 rfl ?_
  obtain ⟨s1, e2, hm⟩ := bnd_t hm
  refine mi_put (np := 9) G hM (r := r) (by omega) hc0 ptX0_0 rfl lkX0_9 (x := 0) rfl rfl rfl s1 e2 dX0_init_6 rfl (fun H locs hM hz1 => ?_)
  have hz := hz1.trans hz
  refine r_aload_n (np := 10) G hl 0 rfl dX0_init_9 rfl rfl ?_
  refine r_bipush (np := 12) G 8 dX0_init_10 (by decide) rfl ?_
  obtain ⟨s3, e4, hm⟩ := bnd_t hm
  refine r_newP (np := 14) G hM hz hE hA (at0 := .int) (t := 0) (n := 8) rfl (by decide) (by decide) rfl (fun _ h => nomatch h) (hs 0 (by decide)) ac_int (by decide) (fun E => rfl) (Nat.le_of_ble_eq_true rfl) (Nat.le_of_ble_eq_true rfl) s3 e4 dX0_init_12 rfl (fun H hM hz => ?_)
  obtain ⟨s5, e6, hm⟩ := bnd_t hm
  refine mi_putF (np := 17) G hM (r := r) (by omega) hc0 ptX0_1 rfl hin rfl lkX0_15 (x := ((N : Nat) : Int)) (rf_ne (x := ((N : Nat) : Int)) (r := N) ⟨by omega, (Int.toNat_natCast _).symm⟩).symm rfl rfl s5 e6 dX0_init_14 rfl (fun H locs hM hz1 => ?_)
  have hz := hz1.trans hz
  refine r_aload_n (np := 18) G hl 0 rfl dX0_init_17 rfl rfl ?_
  refine r_bipush (np := 20) G 8 dX0_init_18 (by decide) rfl ?_
  obtain ⟨s7, e8, hm⟩ := bnd_t hm
  refine r_newP (np := 22) G hM hz hE hA (at0 := .int) (t := 0) (n := 8) rfl (by decide) (by decide) rfl (fun _ h => nomatch h) (hs 1 (by decide)) ac_int (by decide) (fun E => rfl) (Nat.le_of_ble_eq_true rfl) (Nat.le_of_ble_eq_true rfl) s7 e8 dX0_init_20 rfl (fun H hM hz => ?_)
  obtain ⟨s9, e10, hm⟩ := bnd_t hm
  refine mi_putF (np := 25) G hM (r := r) (by omega) hc0 ptX0_2 rfl hin rfl lkX0_19 (x := (((N + 1) : Nat) : Int)) (rf_ne (x := (((N + 1) : Nat) : Int)) (r := (N + 1)) ⟨by omega, (Int.toNat_natCast _).symm⟩).symm rfl rfl s9 e10 dX0_init_22 rfl (fun H locs hM hz1 => ?_)
  have hz := hz1.trans hz
  refine r_aload_n (np := 26) G hl 0 rfl dX0_init_25 rfl rfl ?_
  refine r_bipush (np := 28) G 8 dX0_init_26 (by decide) rfl ?_
  obtain ⟨s11, e12, hm⟩ := bnd_t hm
  refine r_newP (np := 30) G hM hz hE hA (at0 := .int) (t := 0) (n := 8) rfl (by decide) (by decide) rfl (fun _ h => nomatch h) (hs 2 (by decide)) ac_int (by decide) (fun E => rfl) (Nat.le_of_ble_eq_true rfl) (Nat.le_of_ble_eq_true rfl) s11 e12 dX0_init_28 rfl (fun H hM hz => ?_)
  obtain ⟨s13, e14, hm⟩ := bnd_t hm
  refine mi_putF (np := 33) G hM (r := r) (by omega) hc0 ptX0_3 rfl hin rfl lkX0_22 (x := (((N + 2) : Nat) : Int)) (rf_ne (x := (((N + 2) : Nat) : Int)) (r := (N + 2)) ⟨by omega, (Int.toNat_natCast _).symm⟩).symm rfl rfl s13 e14 dX0_init_30 rfl (fun H locs hM hz1 => ?_)
  have hz := hz1.trans hz
  refine r_aload_n (np := 34) G hl 0 rfl dX0_init_33 rfl rfl ?_
  refine r_bipush (np := 36) G 8 dX0_init_34 (by decide) rfl ?_
  obtain ⟨s15, e16, hm⟩ := bnd_t hm
  refine r_newP (np := 38) G hM hz hE hA (at0 := .int) (t := 0) (n := 8) rfl (by decide) (by decide) rfl (fun _ h => nomatch h) (hs 3 (by decide)) ac_int (by decide) (fun E => rfl) (Nat.le_of_ble_eq_true rfl) (Nat.le_of_ble_eq_true rfl) s15 e16 dX0_init_36 rfl (fun H hM hz => ?_)
  obtain ⟨s17, e18, hm⟩ := bnd_t hm
  refine mi_putF (np := 41) G hM (r := r) (by omega) hc0 ptX0_4 rfl hin rfl lkX0_25 (x := (((N + 3) : Nat) : Int)) (rf_ne (x := (((N + 3) : Nat) : Int)) (r := (N + 3)) ⟨by omega, (Int.toNat_natCast _).symm⟩).symm rfl rfl s17 e18 dX0_init_38 rfl (fun H locs hM hz1 => ?_)
  have hz := hz1.trans hz
  refine r_aload_n (np := 42) G hl 0 rfl dX0_init_41 rfl rfl ?_
  refine r_bipush (np := 44) G 8 dX0_init_42 (by decide) rfl ?_
  refine r_bipush (np := 46) G 10 dX0_init_44 (by decide) rfl ?_
  obtain ⟨s19, e20, hm⟩ := bnd_t hm
  refine r_newM (np := 50) G hM hz hE hA (t := 5) (t1 := 2) (n := 8) (k := 10) (ty := .byte) rfl rfl (by decide) (by decide) (by decide) (by decide) rfl rfl (fun _ h => nomatch h) (hs 4 (by decide)) (fun j hj => by have := hs (4 + 1 + j) (by simp; omega); rw [show N + (4 + 1 + j) = (N + 4) + 1 + j by omega] at this; rw [this]; rcases (show j = 0 ∨ j = 1 ∨ j = 2 ∨ j = 3 ∨ j = 4 ∨ j = 5 ∨ j = 6 ∨ j = 7 by omega) with rfl | rfl | rfl | rfl | rfl | rfl | rfl | rfl <;> rfl) clX0_init_28 ova_byte ac_byte (by decide) rfl rfl (fun E => rfl) (Nat.le_of_ble_eq_true rfl) (Nat.le_of_ble_eq_true rfl) s19 e20 dX0_init_46 rfl (fun H hM hz => ?_)
  obtain ⟨s21, e22, hm⟩ := bnd_t hm
  refine mi_putF (np := 53) G hM (r := r) (by omega) hc0 ptX0_5 rfl hin rfl lkX0_30 (x := (((N + 4) : Nat) : Int)) (rf_ne (x := (((N + 4) : Nat) : Int)) (r := (N + 4)) ⟨by omega, (Int.toNat_natCast _).symm⟩).symm rfl rfl s21 e22 dX0_init_50 rfl (fun H locs hM hz1 => ?_)
  have hz := hz1.trans hz
  refine r_aload_n (np := 54) G hl 0 rfl dX0_init_53 rfl rfl ?_
  refine r_bipush (np := 56) G 8 dX0_init_54 (by decide) rfl ?_
  refine r_iconst (np := 57) G 4 dX0_init_56 rfl ?_
  obtain ⟨s23, e24, hm⟩ := bnd_t hm
  refine r_newM (np := 61) G hM hz hE hA (t := 6) (t1 := 0) (n := 8) (k := 4) (ty := .int) rfl rfl (by decide) (by decide) (by decide) (by decide) rfl rfl (fun _ h => nomatch h) (hs 13 (by decide)) (fun j hj => by have := hs (13 + 1 + j) (by simp; omega); rw [show N + (13 + 1 + j) = (N + 13) + 1 + j by omega] at this; rw [this]; rcases (show j = 0 ∨ j = 1 ∨ j = 2 ∨ j = 3 ∨ j = 4 ∨ j = 5 ∨ j = 6 ∨ j = 7 by omega) with rfl | rfl | rfl | rfl | rfl | rfl | rfl | rfl <;> rfl) clX0_init_33 ova_int ac_int (by decide) rfl rfl (fun E => rfl) (Nat.le_of_ble_eq_true rfl) (Nat.le_of_ble_eq_true rfl) s23 e24 dX0_init_57 rfl (fun H hM hz => ?_)
  obtain ⟨s25, e26, hm⟩ := bnd_t hm
  refine mi_putF (np := 64) G hM (r := r) (by omega) hc0 ptX0_6 rfl hin rfl lkX0_35 (x := (((N + 13) : Nat) : Int)) (rf_ne (x := (((N + 13) : Nat) : Int)) (r := (N + 13)) ⟨by omega, (Int.toNat_natCast _).symm⟩).symm rfl rfl s25 e26 dX0_init_61 rfl (fun H locs hM hz1 => ?_)
  have hz := hz1.trans hz
  refine r_aload_n (np := 65) G hl 0 rfl dX0_init_64 rfl rfl ?_
  refine r_bipush (np := 67) G 8 dX0_init_65 (by decide) rfl ?_
  refine r_iconst (np := 68) G 4 dX0_init_67 rfl ?_
  obtain ⟨s27, e28, hm⟩ := bnd_t hm
  refine r_newM (np := 72) G hM hz hE hA (t := 6) (t1 := 0) (n := 8) (k := 4) (ty := .int) rfl rfl (by decide) (by decide) (by decide) (by decide) rfl rfl (fun _ h => nomatch h) (hs 22 (by decide)) (fun j hj => by have := hs (22 + 1 + j) (by simp; omega); rw [show N + (22 + 1 + j) = (N + 22) + 1 + j by omega] at this; rw [this]; rcases (show j = 0 ∨ j = 1 ∨ j = 2 ∨ j = 3 ∨ j = 4 ∨ j = 5 ∨ j = 6 ∨ j = 7 by omega) with rfl | rfl | rfl | rfl | rfl | rfl | rfl | rfl <;> rfl) clX0_init_33 ova_int ac_int (by decide) rfl rfl (fun E => rfl) (Nat.le_of_ble_eq_true rfl) (Nat.le_of_ble_eq_true rfl) s27 e28 dX0_init_68 rfl (fun H hM hz => ?_)
  obtain ⟨s29, e30, hm⟩ := bnd_t hm
  refine mi_putF (np := 75) G hM (r := r) (by omega) hc0 ptX0_7 rfl hin rfl lkX0_38 (x := (((N + 22) : Nat) : Int)) (rf_ne (x := (((N + 22) : Nat) : Int)) (r := (N + 22)) ⟨by omega, (Int.toNat_natCast _).symm⟩).symm rfl rfl s29 e30 dX0_init_72 rfl (fun H locs hM hz1 => ?_)
  have hz := hz1.trans hz
  subst hm
  exact r_ivret G hr hk hM hz rfl dX0_init_75
set_option maxRecDepth 100000 in
set_option maxHeartbeats 4000000 in
theorem iX8_init (l : Launch) (E : mE) (r N : Nat) (σ σ2 : mSt) (hm : sX8_init r N σ = σ2) (hrN : r < N) (hc0 : isC r 7) (hs : shpIs N [(9, 0), (22, 0), (0, 0), (20, 8), (20, 8), (20, 8), (20, 8), (25, 8), (22, 10), (22, 10), (22, 10), (22, 10), (22, 10), (22, 10), (22, 10), (22, 10), (26, 8), (20, 4), (20, 4), (20, 4), (20, 4), (20, 4), (20, 4), (20, 4), (20, 4), (26, 8), (20, 4), (20, 4), (20, 4), (20, 4), (20, 4), (20, 4), (20, 4), (20, 4)]) : mIMet l yX8_init cX8_init 1 2 32 E r N σ (N + 34) σ2 34 213 := by
  unfold sX8_init at hm
  refine m_ientry (by decide) (Nat.le_of_ble_eq_true rfl) (fun p e s m args below meth c G hr hk hin hM hz hE hA ls hl => ?_)
  have G : CallFix p m c cX8_init 1 s args mTs RX8 := G
  have hl : lv_has ls 1 [(0, .ref (eA E r))] := hl
  refine r_aload_n (np := 1) G hl 0 rfl dX8_init_0 rfl rfl ?_
  refine r_objInit (np := 4) G hl.1 lkX8_3 oi_i oi_c (Nat.le_of_ble_eq_true rfl) (Nat.le_of_ble_eq_true rfl) dX8_init_1 rfl ?_
  refine r_aload_n (np := 5) G hl 0 rfl dX8_init_4 rfl rfl ?_
  obtain ⟨s1, e2, hm⟩ := bnd_t hm
  refine r_newO (np := 8) G hM hz hE hA nwX10 (hs 0 (by decide)) clX8_init_9 isX10 itX10 (Nat.le_of_ble_eq_true rfl) (Nat.le_of_ble_eq_true rfl) s1 e2 dX8_init_5 rfl (fun H hM hz => ?_)
  refine r_dup (np := 9) G dX8_init_8 rfl rfl ?_
  obtain ⟨s3, e4, hm⟩ := bnd_t hm
  refine m_icallN (np := 12) (N2 := (N + 2)) G hM hz hE hA hl.1 (iX10_init l E N (N + 1) s1 s3 e4.symm (by omega) (show isC _ _ from congrArg Prod.fst (hs 0 (by decide))) (shpIs_sub hs 1 rfl)) myX10_init lkX8_11 ⟨(Nat.le_of_ble_eq_true rfl), (Nat.le_of_ble_eq_true rfl)⟩ ⟨(Nat.le_of_ble_eq_true rfl), (Nat.le_of_ble_eq_true rfl)⟩ (Nat.le_of_ble_eq_true rfl) dX8_init_9 rfl (fun H locs hM hz => ?_)
  obtain ⟨s5, e6, hm⟩ := bnd_t hm
  refine mi_putF (np := 15) G hM (r := r) (by omega) hc0 ptX8_0 rfl hin rfl lkX8_12 (x := ((N : Nat) : Int)) (rf_ne (x := ((N : Nat) : Int)) (r := N) ⟨by omega, (Int.toNat_natCast _).symm⟩).symm rfl rfl s5 e6 dX8_init_12 rfl (fun H locs hM hz1 => ?_)
  have hz := hz1.trans hz
  refine r_aload_n (np := 16) G hl 0 rfl dX8_init_15 rfl rfl ?_
  obtain ⟨s7, e8, hm⟩ := bnd_t hm
  refine r_newO (np := 19) G hM hz hE hA nwX0 (hs 2 (by decide)) clX8_init_18 isX0 itX0 (Nat.le_of_ble_eq_true rfl) (Nat.le_of_ble_eq_true rfl) s7 e8 dX8_init_16 rfl (fun H hM hz => ?_)
  refine r_dup (np := 20) G dX8_init_19 rfl rfl ?_
  obtain ⟨s9, e10, hm⟩ := bnd_t hm
  refine m_icallN (np := 23) (N2 := (N + 34)) G hM hz hE hA hl.1 (iX0_init l E (N + 2) (N + 3) s7 s9 e10.symm (by omega) (show isC _ _ from congrArg Prod.fst (hs 2 (by decide))) (shpIs_sub hs 3 rfl)) myX0_init lkX8_20 ⟨(Nat.le_of_ble_eq_true rfl), (Nat.le_of_ble_eq_true rfl)⟩ ⟨(Nat.le_of_ble_eq_true rfl), (Nat.le_of_ble_eq_true rfl)⟩ (Nat.le_of_ble_eq_true rfl) dX8_init_20 rfl (fun H locs hM hz => ?_)
  obtain ⟨s11, e12, hm⟩ := bnd_t hm
  refine mi_put (np := 26) G hM (r := r) (by omega) hc0 ptX8_1 rfl lkX8_21 (x := (((N + 2) : Nat) : Int)) (rf_ne (x := (((N + 2) : Nat) : Int)) (r := (N + 2)) ⟨by omega, (Int.toNat_natCast _).symm⟩).symm rfl rfl s11 e12 dX8_init_23 rfl (fun H locs hM hz1 => ?_)
  have hz := hz1.trans hz
  refine r_aload_n (np := 27) G hl 0 rfl dX8_init_26 rfl rfl ?_
  refine r_iconst (np := 28) G 0 dX8_init_27 rfl ?_
  obtain ⟨s13, e14, hm⟩ := bnd_t hm
  refine mi_put (np := 31) G hM (r := r) (by omega) hc0 ptX8_2 rfl lkX8_25 (x := 0) rfl rfl rfl s13 e14 dX8_init_28 rfl (fun H locs hM hz1 => ?_)
  have hz := hz1.trans hz
  refine r_aload_n (np := 32) G hl 0 rfl dX8_init_31 rfl rfl ?_
  refine r_lconst (np := 33) G 0 dX8_init_32 rfl rfl ?_
  obtain ⟨s15, e16, hm⟩ := bnd_t hm
  refine mi_put (np := 36) G hM (r := r) (by omega) hc0 ptX8_3 rfl lkX8_29 (x := 0) rfl rfl rfl s15 e16 dX8_init_33 rfl (fun H locs hM hz1 => ?_)
  have hz := hz1.trans hz
  subst hm
  exact r_ivret G hr hk hM hz rfl dX8_init_36
set_option maxRecDepth 100000 in
set_option maxHeartbeats 4000000 in
theorem iX7_init (l : Launch) (E : mE) (r N : Nat) (σ σ2 : mSt) (hm : sX7_init r N σ = σ2) (hrN : r < N) (hc0 : isC r 6) (hs : shpIs N [(20, 64), (26, 8), (20, 64), (20, 64), (20, 64), (20, 64), (20, 64), (20, 64), (20, 64), (20, 64)]) : mIMet l yX7_init cX7_init 1 1 12 E r N σ (N + 10) σ2 10 584 := by
  unfold sX7_init at hm
  refine m_ientry (by decide) (Nat.le_of_ble_eq_true rfl) (fun p e s m args below meth c G hr hk hin hM hz hE hA ls hl => ?_)
  have G : CallFix p m c cX7_init 1 s args mTs RX7 := G
  have hl : lv_has ls 1 [(0, .ref (eA E r))] := hl
  refine r_aload_n (np := 1) G hl 0 rfl dX7_init_0 rfl rfl ?_
  refine r_objInit (np := 4) G hl.1 lkX7_3 oi_i oi_c (Nat.le_of_ble_eq_true rfl) (Nat.le_of_ble_eq_true rfl) dX7_init_1 rfl ?_
  refine r_aload_n (np := 5) G hl 0 rfl dX7_init_4 rfl rfl ?_
  refine r_iconst (np := 6) G 0 dX7_init_5 rfl ?_
  obtain ⟨s1, e2, hm⟩ := bnd_t hm
  refine mi_put (np := 9) G hM (r := r) (by omega) hc0 ptX7_0 rfl lkX7_9 (x := 0) rfl rfl rfl s1 e2 dX7_init_6 rfl (fun H locs hM hz1 => ?_)
  have hz := hz1.trans hz
  refine r_aload_n (np := 10) G hl 0 rfl dX7_init_9 rfl rfl ?_
  refine r_iconst (np := 11) G 0 dX7_init_10 rfl ?_
  obtain ⟨s3, e4, hm⟩ := bnd_t hm
  refine mi_put (np := 14) G hM (r := r) (by omega) hc0 ptX7_1 rfl lkX7_15 (x := 0) rfl rfl rfl s3 e4 dX7_init_11 rfl (fun H locs hM hz1 => ?_)
  have hz := hz1.trans hz
  refine r_aload_n (np := 15) G hl 0 rfl dX7_init_14 rfl rfl ?_
  refine r_bipush (np := 17) G 64 dX7_init_15 (by decide) rfl ?_
  obtain ⟨s5, e6, hm⟩ := bnd_t hm
  refine r_newP (np := 19) G hM hz hE hA (at0 := .int) (t := 0) (n := 64) rfl (by decide) (by decide) rfl (fun _ h => nomatch h) (hs 0 (by decide)) ac_int (by decide) (fun E => rfl) (Nat.le_of_ble_eq_true rfl) (Nat.le_of_ble_eq_true rfl) s5 e6 dX7_init_17 rfl (fun H hM hz => ?_)
  obtain ⟨s7, e8, hm⟩ := bnd_t hm
  refine mi_putF (np := 22) G hM (r := r) (by omega) hc0 ptX7_2 rfl hin rfl lkX7_18 (x := ((N : Nat) : Int)) (rf_ne (x := ((N : Nat) : Int)) (r := N) ⟨by omega, (Int.toNat_natCast _).symm⟩).symm rfl rfl s7 e8 dX7_init_19 rfl (fun H locs hM hz1 => ?_)
  have hz := hz1.trans hz
  refine r_aload_n (np := 23) G hl 0 rfl dX7_init_22 rfl rfl ?_
  refine r_bipush (np := 25) G 8 dX7_init_23 (by decide) rfl ?_
  refine r_bipush (np := 27) G 64 dX7_init_25 (by decide) rfl ?_
  obtain ⟨s9, e10, hm⟩ := bnd_t hm
  refine r_newM (np := 31) G hM hz hE hA (t := 6) (t1 := 0) (n := 8) (k := 64) (ty := .int) rfl rfl (by decide) (by decide) (by decide) (by decide) rfl rfl (fun _ h => nomatch h) (hs 1 (by decide)) (fun j hj => by have := hs (1 + 1 + j) (by simp; omega); rw [show N + (1 + 1 + j) = (N + 1) + 1 + j by omega] at this; rw [this]; rcases (show j = 0 ∨ j = 1 ∨ j = 2 ∨ j = 3 ∨ j = 4 ∨ j = 5 ∨ j = 6 ∨ j = 7 by omega) with rfl | rfl | rfl | rfl | rfl | rfl | rfl | rfl <;> rfl) clX7_init_22 ova_int ac_int (by decide) rfl rfl (fun E => rfl) (Nat.le_of_ble_eq_true rfl) (Nat.le_of_ble_eq_true rfl) s9 e10 dX7_init_27 rfl (fun H hM hz => ?_)
  obtain ⟨s11, e12, hm⟩ := bnd_t hm
  refine mi_putF (np := 34) G hM (r := r) (by omega) hc0 ptX7_3 rfl hin rfl lkX7_24 (x := (((N + 1) : Nat) : Int)) (rf_ne (x := (((N + 1) : Nat) : Int)) (r := (N + 1)) ⟨by omega, (Int.toNat_natCast _).symm⟩).symm rfl rfl s11 e12 dX7_init_31 rfl (fun H locs hM hz1 => ?_)
  have hz := hz1.trans hz
  subst hm
  exact r_ivret G hr hk hM hz rfl dX7_init_34
set_option maxRecDepth 100000 in
set_option maxHeartbeats 4000000 in
theorem iX3_init (l : Launch) (E : mE) (r N : Nat) (σ σ2 : mSt) (hm : sX3_init r N σ = σ2) (hrN : r < N) (hc0 : isC r 3) (hs : shpIs N [(27, 4), (21, 4), (21, 4), (21, 4), (21, 4), (21, 4)]) : mIMet l yX3_init cX3_init 1 1 12 E r N σ (N + 6) σ2 6 24 := by
  unfold sX3_init at hm
  refine m_ientry (by decide) (Nat.le_of_ble_eq_true rfl) (fun p e s m args below meth c G hr hk hin hM hz hE hA ls hl => ?_)
  have G : CallFix p m c cX3_init 1 s args mTs RX3 := G
  have hl : lv_has ls 1 [(0, .ref (eA E r))] := hl
  refine r_aload_n (np := 1) G hl 0 rfl dX3_init_0 rfl rfl ?_
  refine r_objInit (np := 4) G hl.1 lkX3_1 oi_i oi_c (Nat.le_of_ble_eq_true rfl) (Nat.le_of_ble_eq_true rfl) dX3_init_1 rfl ?_
  refine r_aload_n (np := 5) G hl 0 rfl dX3_init_4 rfl rfl ?_
  refine r_iconst (np := 6) G 4 dX3_init_5 rfl ?_
  refine r_iconst (np := 7) G 4 dX3_init_6 rfl ?_
  obtain ⟨s1, e2, hm⟩ := bnd_t hm
  refine r_newM (np := 11) G hM hz hE hA (t := 7) (t1 := 1) (n := 4) (k := 4) (ty := .long) rfl rfl (by decide) (by decide) (by decide) (by decide) rfl rfl (fun _ h => nomatch h) (hs 0 (by decide)) (fun j hj => by have := hs (0 + 1 + j) (by simp; omega); rw [show N + (0 + 1 + j) = N + 1 + j by omega] at this; rw [this]; rcases (show j = 0 ∨ j = 1 ∨ j = 2 ∨ j = 3 by omega) with rfl | rfl | rfl | rfl <;> rfl) clX3_init_7 ova_long ac_long (by decide) rfl rfl (fun E => rfl) (Nat.le_of_ble_eq_true rfl) (Nat.le_of_ble_eq_true rfl) s1 e2 dX3_init_7 rfl (fun H hM hz => ?_)
  obtain ⟨s3, e4, hm⟩ := bnd_t hm
  refine mi_putF (np := 14) G hM (r := r) (by omega) hc0 ptX3_0 rfl hin rfl lkX3_9 (x := ((N : Nat) : Int)) (rf_ne (x := ((N : Nat) : Int)) (r := N) ⟨by omega, (Int.toNat_natCast _).symm⟩).symm rfl rfl s3 e4 dX3_init_11 rfl (fun H locs hM hz1 => ?_)
  have hz := hz1.trans hz
  refine r_aload_n (np := 15) G hl 0 rfl dX3_init_14 rfl rfl ?_
  refine r_iconst (np := 16) G 4 dX3_init_15 rfl ?_
  obtain ⟨s5, e6, hm⟩ := bnd_t hm
  refine r_newP (np := 18) G hM hz hE hA (at0 := .long) (t := 1) (n := 4) rfl (by decide) (by decide) rfl (fun _ h => nomatch h) (hs 5 (by decide)) ac_long (by decide) (fun E => rfl) (Nat.le_of_ble_eq_true rfl) (Nat.le_of_ble_eq_true rfl) s5 e6 dX3_init_16 rfl (fun H hM hz => ?_)
  obtain ⟨s7, e8, hm⟩ := bnd_t hm
  refine mi_putF (np := 21) G hM (r := r) (by omega) hc0 ptX3_1 rfl hin rfl lkX3_14 (x := (((N + 5) : Nat) : Int)) (rf_ne (x := (((N + 5) : Nat) : Int)) (r := (N + 5)) ⟨by omega, (Int.toNat_natCast _).symm⟩).symm rfl rfl s7 e8 dX3_init_18 rfl (fun H locs hM hz1 => ?_)
  have hz := hz1.trans hz
  refine r_aload_n (np := 22) G hl 0 rfl dX3_init_21 rfl rfl ?_
  refine r_lconst (np := 23) G 1 dX3_init_22 rfl rfl ?_
  obtain ⟨s9, e10, hm⟩ := bnd_t hm
  refine mi_put (np := 26) G hM (r := r) (by omega) hc0 ptX3_2 rfl lkX3_18 (x := 1) rfl rfl rfl s9 e10 dX3_init_23 rfl (fun H locs hM hz1 => ?_)
  have hz := hz1.trans hz
  subst hm
  exact r_ivret G hr hk hM hz rfl dX3_init_26
set_option maxRecDepth 100000 in
set_option maxHeartbeats 4000000 in
theorem iX6_init (l : Launch) (E : mE) (r N : Nat) (σ σ2 : mSt) (hm : sX6_init r N σ = σ2) (hrN : r < N) (hc0 : isC r 5) (hs : shpIs N [(3, 0), (27, 4), (21, 4), (21, 4), (21, 4), (21, 4), (21, 4), (21, 4)]) : mIMet l yX6_init cX6_init 1 2 32 E r N σ (N + 8) σ2 8 31 := by
  unfold sX6_init at hm
  refine m_ientry (by decide) (Nat.le_of_ble_eq_true rfl) (fun p e s m args below meth c G hr hk hin hM hz hE hA ls hl => ?_)
  have G : CallFix p m c cX6_init 1 s args mTs RX6 := G
  have hl : lv_has ls 1 [(0, .ref (eA E r))] := hl
  refine r_aload_n (np := 1) G hl 0 rfl dX6_init_0 rfl rfl ?_
  refine r_objInit (np := 4) G hl.1 lkX6_1 oi_i oi_c (Nat.le_of_ble_eq_true rfl) (Nat.le_of_ble_eq_true rfl) dX6_init_1 rfl ?_
  refine r_aload_n (np := 5) G hl 0 rfl dX6_init_4 rfl rfl ?_
  refine r_lconst (np := 6) G 1 dX6_init_5 rfl rfl ?_
  obtain ⟨s1, e2, hm⟩ := bnd_t hm
  refine mi_put (np := 9) G hM (r := r) (by omega) hc0 ptX6_0 rfl lkX6_7 (x := 1) rfl rfl rfl s1 e2 dX6_init_6 rfl (fun H locs hM hz1 => ?_)
  have hz := hz1.trans hz
  refine r_aload_n (np := 10) G hl 0 rfl dX6_init_9 rfl rfl ?_
  refine r_lconst (np := 11) G 1 dX6_init_10 rfl rfl ?_
  obtain ⟨s3, e4, hm⟩ := bnd_t hm
  refine mi_put (np := 14) G hM (r := r) (by omega) hc0 ptX6_1 rfl lkX6_13 (x := 1) rfl rfl rfl s3 e4 dX6_init_11 rfl (fun H locs hM hz1 => ?_)
  have hz := hz1.trans hz
  refine r_aload_n (np := 15) G hl 0 rfl dX6_init_14 rfl rfl ?_
  obtain ⟨s5, e6, hm⟩ := bnd_t hm
  refine r_newO (np := 18) G hM hz hE hA nwX3 (hs 0 (by decide)) clX6_init_16 isX3 itX3 (Nat.le_of_ble_eq_true rfl) (Nat.le_of_ble_eq_true rfl) s5 e6 dX6_init_15 rfl (fun H hM hz => ?_)
  refine r_dup (np := 19) G dX6_init_18 rfl rfl ?_
  obtain ⟨s7, e8, hm⟩ := bnd_t hm
  refine m_icallN (np := 22) (N2 := (N + 7)) G hM hz hE hA hl.1 (iX3_init l E N (N + 1) s5 s7 e8.symm (by omega) (show isC _ _ from congrArg Prod.fst (hs 0 (by decide))) (shpIs_sub hs 1 rfl)) myX3_init lkX6_18 ⟨(Nat.le_of_ble_eq_true rfl), (Nat.le_of_ble_eq_true rfl)⟩ ⟨(Nat.le_of_ble_eq_true rfl), (Nat.le_of_ble_eq_true rfl)⟩ (Nat.le_of_ble_eq_true rfl) dX6_init_19 rfl (fun H locs hM hz => ?_)
  obtain ⟨s9, e10, hm⟩ := bnd_t hm
  refine mi_putF (np := 25) G hM (r := r) (by omega) hc0 ptX6_2 rfl hin rfl lkX6_19 (x := ((N : Nat) : Int)) (rf_ne (x := ((N : Nat) : Int)) (r := N) ⟨by omega, (Int.toNat_natCast _).symm⟩).symm rfl rfl s9 e10 dX6_init_22 rfl (fun H locs hM hz1 => ?_)
  have hz := hz1.trans hz
  refine r_aload_n (np := 26) G hl 0 rfl dX6_init_25 rfl rfl ?_
  refine r_iconst (np := 27) G 4 dX6_init_26 rfl ?_
  obtain ⟨s11, e12, hm⟩ := bnd_t hm
  refine r_newP (np := 29) G hM hz hE hA (at0 := .long) (t := 1) (n := 4) rfl (by decide) (by decide) rfl (fun _ h => nomatch h) (hs 7 (by decide)) ac_long (by decide) (fun E => rfl) (Nat.le_of_ble_eq_true rfl) (Nat.le_of_ble_eq_true rfl) s11 e12 dX6_init_27 rfl (fun H hM hz => ?_)
  obtain ⟨s13, e14, hm⟩ := bnd_t hm
  refine mi_putF (np := 32) G hM (r := r) (by omega) hc0 ptX6_3 rfl hin rfl lkX6_23 (x := (((N + 7) : Nat) : Int)) (rf_ne (x := (((N + 7) : Nat) : Int)) (r := (N + 7)) ⟨by omega, (Int.toNat_natCast _).symm⟩).symm rfl rfl s13 e14 dX6_init_29 rfl (fun H locs hM hz1 => ?_)
  have hz := hz1.trans hz
  subst hm
  exact r_ivret G hr hk hM hz rfl dX6_init_32
set_option maxRecDepth 100000 in
set_option maxHeartbeats 4000000 in
theorem iX2_init (l : Launch) (E : mE) (r N : Nat) (σ σ2 : mSt) (hm : sX2_init r N σ = σ2) (hrN : r < N) (hc0 : isC r 2) (hs : shpIs N [(5, 0), (3, 0), (27, 4), (21, 4), (21, 4), (21, 4), (21, 4), (21, 4), (21, 4), (3, 0), (27, 4), (21, 4), (21, 4), (21, 4), (21, 4), (21, 4), (3, 0), (27, 4), (21, 4), (21, 4), (21, 4), (21, 4), (21, 4), (27, 5), (21, 4), (21, 4), (21, 4), (21, 4), (21, 4), (21, 4)]) : mIMet l yX2_init cX2_init 1 3 52 E r N σ (N + 30) σ2 30 118 := by
  unfold sX2_init at hm
  refine m_ientry (by decide) (Nat.le_of_ble_eq_true rfl) (fun p e s m args below meth c G hr hk hin hM hz hE hA ls hl => ?_)
  have G : CallFix p m c cX2_init 1 s args mTs RX2 := G
  have hl : lv_has ls 1 [(0, .ref (eA E r))] := hl
  refine r_aload_n (np := 1) G hl 0 rfl dX2_init_0 rfl rfl ?_
  refine r_objInit (np := 4) G hl.1 lkX2_1 oi_i oi_c (Nat.le_of_ble_eq_true rfl) (Nat.le_of_ble_eq_true rfl) dX2_init_1 rfl ?_
  refine r_aload_n (np := 5) G hl 0 rfl dX2_init_4 rfl rfl ?_
  obtain ⟨s1, e2, hm⟩ := bnd_t hm
  refine r_newO (np := 8) G hM hz hE hA nwX6 (hs 0 (by decide)) clX2_init_7 isX6 itX6 (Nat.le_of_ble_eq_true rfl) (Nat.le_of_ble_eq_true rfl) s1 e2 dX2_init_5 rfl (fun H hM hz => ?_)
  refine r_dup (np := 9) G dX2_init_8 rfl rfl ?_
  obtain ⟨s3, e4, hm⟩ := bnd_t hm
  refine m_icallN (np := 12) (N2 := (N + 9)) G hM hz hE hA hl.1 (iX6_init l E N (N + 1) s1 s3 e4.symm (by omega) (show isC _ _ from congrArg Prod.fst (hs 0 (by decide))) (shpIs_sub hs 1 rfl)) myX6_init lkX2_9 ⟨(Nat.le_of_ble_eq_true rfl), (Nat.le_of_ble_eq_true rfl)⟩ ⟨(Nat.le_of_ble_eq_true rfl), (Nat.le_of_ble_eq_true rfl)⟩ (Nat.le_of_ble_eq_true rfl) dX2_init_9 rfl (fun H locs hM hz => ?_)
  obtain ⟨s5, e6, hm⟩ := bnd_t hm
  refine mi_put (np := 15) G hM (r := r) (by omega) hc0 ptX2_0 rfl lkX2_10 (x := ((N : Nat) : Int)) (rf_ne (x := ((N : Nat) : Int)) (r := N) ⟨by omega, (Int.toNat_natCast _).symm⟩).symm rfl rfl s5 e6 dX2_init_12 rfl (fun H locs hM hz1 => ?_)
  have hz := hz1.trans hz
  refine r_aload_n (np := 16) G hl 0 rfl dX2_init_15 rfl rfl ?_
  refine r_iconst (np := 17) G 2 dX2_init_16 rfl ?_
  obtain ⟨s7, e8, hm⟩ := bnd_t hm
  refine mi_put (np := 20) G hM (r := r) (by omega) hc0 ptX2_1 rfl lkX2_16 (x := 2) rfl rfl rfl s7 e8 dX2_init_17 rfl (fun H locs hM hz1 => ?_)
  have hz := hz1.trans hz
  refine r_aload_n (np := 21) G hl 0 rfl dX2_init_20 rfl rfl ?_
  refine r_lconst (np := 22) G 1 dX2_init_21 rfl rfl ?_
  obtain ⟨s9, e10, hm⟩ := bnd_t hm
  refine mi_put (np := 25) G hM (r := r) (by omega) hc0 ptX2_2 rfl lkX2_20 (x := 1) rfl rfl rfl s9 e10 dX2_init_22 rfl (fun H locs hM hz1 => ?_)
  have hz := hz1.trans hz
  refine r_aload_n (np := 26) G hl 0 rfl dX2_init_25 rfl rfl ?_
  obtain ⟨s11, e12, hm⟩ := bnd_t hm
  refine r_newO (np := 29) G hM hz hE hA nwX3 (hs 9 (by decide)) clX2_init_24 isX3 itX3 (Nat.le_of_ble_eq_true rfl) (Nat.le_of_ble_eq_true rfl) s11 e12 dX2_init_26 rfl (fun H hM hz => ?_)
  refine r_dup (np := 30) G dX2_init_29 rfl rfl ?_
  obtain ⟨s13, e14, hm⟩ := bnd_t hm
  refine m_icallN (np := 33) (N2 := (N + 16)) G hM hz hE hA hl.1 (iX3_init l E (N + 9) (N + 10) s11 s13 e14.symm (by omega) (show isC _ _ from congrArg Prod.fst (hs 9 (by decide))) (shpIs_sub hs 10 rfl)) myX3_init lkX2_26 ⟨(Nat.le_of_ble_eq_true rfl), (Nat.le_of_ble_eq_true rfl)⟩ ⟨(Nat.le_of_ble_eq_true rfl), (Nat.le_of_ble_eq_true rfl)⟩ (Nat.le_of_ble_eq_true rfl) dX2_init_30 rfl (fun H locs hM hz => ?_)
  obtain ⟨s15, e16, hm⟩ := bnd_t hm
  refine mi_put (np := 36) G hM (r := r) (by omega) hc0 ptX2_3 rfl lkX2_27 (x := (((N + 9) : Nat) : Int)) (rf_ne (x := (((N + 9) : Nat) : Int)) (r := (N + 9)) ⟨by omega, (Int.toNat_natCast _).symm⟩).symm rfl rfl s15 e16 dX2_init_33 rfl (fun H locs hM hz1 => ?_)
  have hz := hz1.trans hz
  refine r_aload_n (np := 37) G hl 0 rfl dX2_init_36 rfl rfl ?_
  obtain ⟨s17, e18, hm⟩ := bnd_t hm
  refine r_newO (np := 40) G hM hz hE hA nwX3 (hs 16 (by decide)) clX2_init_24 isX3 itX3 (Nat.le_of_ble_eq_true rfl) (Nat.le_of_ble_eq_true rfl) s17 e18 dX2_init_37 rfl (fun H hM hz => ?_)
  refine r_dup (np := 41) G dX2_init_40 rfl rfl ?_
  obtain ⟨s19, e20, hm⟩ := bnd_t hm
  refine m_icallN (np := 44) (N2 := (N + 23)) G hM hz hE hA hl.1 (iX3_init l E (N + 16) (N + 17) s17 s19 e20.symm (by omega) (show isC _ _ from congrArg Prod.fst (hs 16 (by decide))) (shpIs_sub hs 17 rfl)) myX3_init lkX2_26 ⟨(Nat.le_of_ble_eq_true rfl), (Nat.le_of_ble_eq_true rfl)⟩ ⟨(Nat.le_of_ble_eq_true rfl), (Nat.le_of_ble_eq_true rfl)⟩ (Nat.le_of_ble_eq_true rfl) dX2_init_41 rfl (fun H locs hM hz => ?_)
  obtain ⟨s21, e22, hm⟩ := bnd_t hm
  refine mi_put (np := 47) G hM (r := r) (by omega) hc0 ptX2_4 rfl lkX2_31 (x := (((N + 16) : Nat) : Int)) (rf_ne (x := (((N + 16) : Nat) : Int)) (r := (N + 16)) ⟨by omega, (Int.toNat_natCast _).symm⟩).symm rfl rfl s21 e22 dX2_init_44 rfl (fun H locs hM hz1 => ?_)
  have hz := hz1.trans hz
  refine r_aload_n (np := 48) G hl 0 rfl dX2_init_47 rfl rfl ?_
  refine r_iconst (np := 49) G 5 dX2_init_48 rfl ?_
  refine r_iconst (np := 50) G 4 dX2_init_49 rfl ?_
  obtain ⟨s23, e24, hm⟩ := bnd_t hm
  refine r_newM (np := 54) G hM hz hE hA (t := 7) (t1 := 1) (n := 5) (k := 4) (ty := .long) rfl rfl (by decide) (by decide) (by decide) (by decide) rfl rfl (fun _ h => nomatch h) (hs 23 (by decide)) (fun j hj => by have := hs (23 + 1 + j) (by simp; omega); rw [show N + (23 + 1 + j) = (N + 23) + 1 + j by omega] at this; rw [this]; rcases (show j = 0 ∨ j = 1 ∨ j = 2 ∨ j = 3 ∨ j = 4 by omega) with rfl | rfl | rfl | rfl | rfl <;> rfl) clX2_init_34 ova_long ac_long (by decide) rfl rfl (fun E => rfl) (Nat.le_of_ble_eq_true rfl) (Nat.le_of_ble_eq_true rfl) s23 e24 dX2_init_50 rfl (fun H hM hz => ?_)
  obtain ⟨s25, e26, hm⟩ := bnd_t hm
  refine mi_putF (np := 57) G hM (r := r) (by omega) hc0 ptX2_5 rfl hin rfl lkX2_36 (x := (((N + 23) : Nat) : Int)) (rf_ne (x := (((N + 23) : Nat) : Int)) (r := (N + 23)) ⟨by omega, (Int.toNat_natCast _).symm⟩).symm rfl rfl s25 e26 dX2_init_54 rfl (fun H locs hM hz1 => ?_)
  have hz := hz1.trans hz
  refine r_aload_n (np := 58) G hl 0 rfl dX2_init_57 rfl rfl ?_
  refine r_iconst (np := 59) G 4 dX2_init_58 rfl ?_
  obtain ⟨s27, e28, hm⟩ := bnd_t hm
  refine r_newP (np := 61) G hM hz hE hA (at0 := .long) (t := 1) (n := 4) rfl (by decide) (by decide) rfl (fun _ h => nomatch h) (hs 29 (by decide)) ac_long (by decide) (fun E => rfl) (Nat.le_of_ble_eq_true rfl) (Nat.le_of_ble_eq_true rfl) s27 e28 dX2_init_59 rfl (fun H hM hz => ?_)
  obtain ⟨s29, e30, hm⟩ := bnd_t hm
  refine mi_putF (np := 64) G hM (r := r) (by omega) hc0 ptX2_6 rfl hin rfl lkX2_39 (x := (((N + 29) : Nat) : Int)) (rf_ne (x := (((N + 29) : Nat) : Int)) (r := (N + 29)) ⟨by omega, (Int.toNat_natCast _).symm⟩).symm rfl rfl s29 e30 dX2_init_61 rfl (fun H locs hM hz1 => ?_)
  have hz := hz1.trans hz
  subst hm
  exact r_ivret G hr hk hM hz rfl dX2_init_64
set_option maxRecDepth 100000 in
set_option maxHeartbeats 4000000 in
theorem iX9_init (l : Launch) (E : mE) (r N : Nat) (σ σ2 : mSt) (hm : sX9_init r N σ = σ2) (hrN : r < N) (hc0 : isC r 8) (hs : shpIs N []) : mIMet l yX9_init cX9_init 1 1 12 E r N σ (N + 0) σ2 0 0 := by
  unfold sX9_init at hm
  refine m_ientry (by decide) (Nat.le_of_ble_eq_true rfl) (fun p e s m args below meth c G hr hk hin hM hz hE hA ls hl => ?_)
  have G : CallFix p m c cX9_init 1 s args mTs RX9 := G
  have hl : lv_has ls 1 [(0, .ref (eA E r))] := hl
  refine r_aload_n (np := 1) G hl 0 rfl dX9_init_0 rfl rfl ?_
  refine r_objInit (np := 4) G hl.1 lkX9_1 oi_i oi_c (Nat.le_of_ble_eq_true rfl) (Nat.le_of_ble_eq_true rfl) dX9_init_1 rfl ?_
  refine r_aload_n (np := 5) G hl 0 rfl dX9_init_4 rfl rfl ?_
  refine r_lconst (np := 6) G 1 dX9_init_5 rfl rfl ?_
  obtain ⟨s1, e2, hm⟩ := bnd_t hm
  refine mi_put (np := 9) G hM (r := r) (by omega) hc0 ptX9_0 rfl lkX9_7 (x := 1) rfl rfl rfl s1 e2 dX9_init_6 rfl (fun H locs hM hz1 => ?_)
  have hz := hz1.trans hz
  refine r_aload_n (np := 10) G hl 0 rfl dX9_init_9 rfl rfl ?_
  refine r_lconst (np := 11) G 1 dX9_init_10 rfl rfl ?_
  obtain ⟨s3, e4, hm⟩ := bnd_t hm
  refine mi_put (np := 14) G hM (r := r) (by omega) hc0 ptX9_1 rfl lkX9_13 (x := 1) rfl rfl rfl s3 e4 dX9_init_11 rfl (fun H locs hM hz1 => ?_)
  have hz := hz1.trans hz
  refine r_aload_n (np := 15) G hl 0 rfl dX9_init_14 rfl rfl ?_
  refine r_lconst (np := 16) G 1 dX9_init_15 rfl rfl ?_
  obtain ⟨s5, e6, hm⟩ := bnd_t hm
  refine mi_put (np := 19) G hM (r := r) (by omega) hc0 ptX9_2 rfl lkX9_16 (x := 1) rfl rfl rfl s5 e6 dX9_init_16 rfl (fun H locs hM hz1 => ?_)
  have hz := hz1.trans hz
  refine r_aload_n (np := 20) G hl 0 rfl dX9_init_19 rfl rfl ?_
  refine r_lconst (np := 21) G 1 dX9_init_20 rfl rfl ?_
  obtain ⟨s7, e8, hm⟩ := bnd_t hm
  refine mi_put (np := 24) G hM (r := r) (by omega) hc0 ptX9_3 rfl lkX9_19 (x := 1) rfl rfl rfl s7 e8 dX9_init_21 rfl (fun H locs hM hz1 => ?_)
  have hz := hz1.trans hz
  refine r_aload_n (np := 25) G hl 0 rfl dX9_init_24 rfl rfl ?_
  refine r_lconst (np := 26) G 0 dX9_init_25 rfl rfl ?_
  obtain ⟨s9, e10, hm⟩ := bnd_t hm
  refine mi_put (np := 29) G hM (r := r) (by omega) hc0 ptX9_4 rfl lkX9_22 (x := 0) rfl rfl rfl s9 e10 dX9_init_26 rfl (fun H locs hM hz1 => ?_)
  have hz := hz1.trans hz
  subst hm
  exact r_ivret G hr hk hM hz rfl dX9_init_29
set_option maxRecDepth 100000 in
set_option maxHeartbeats 4000000 in
theorem iX4_init (l : Launch) (E : mE) (r N : Nat) (σ σ2 : mSt) (hm : sX4_init r N σ = σ2) (hrN : r < N) (hc0 : isC r 4) (hs : shpIs N [(5, 0), (3, 0), (27, 4), (21, 4), (21, 4), (21, 4), (21, 4), (21, 4), (21, 4), (3, 0), (27, 4), (21, 4), (21, 4), (21, 4), (21, 4), (21, 4), (21, 4)]) : mIMet l yX4_init cX4_init 1 3 52 E r N σ (N + 17) σ2 17 66 := by
  unfold sX4_init at hm
  refine m_ientry (by decide) (Nat.le_of_ble_eq_true rfl) (fun p e s m args below meth c G hr hk hin hM hz hE hA ls hl => ?_)
  have G : CallFix p m c cX4_init 1 s args mTs RX4 := G
  have hl : lv_has ls 1 [(0, .ref (eA E r))] := hl
  refine r_aload_n (np := 1) G hl 0 rfl dX4_init_0 rfl rfl ?_
  refine r_objInit (np := 4) G hl.1 lkX4_1 oi_i oi_c (Nat.le_of_ble_eq_true rfl) (Nat.le_of_ble_eq_true rfl) dX4_init_1 rfl ?_
  refine r_aload_n (np := 5) G hl 0 rfl dX4_init_4 rfl rfl ?_
  obtain ⟨s1, e2, hm⟩ := bnd_t hm
  refine r_newO (np := 8) G hM hz hE hA nwX6 (hs 0 (by decide)) clX4_init_7 isX6 itX6 (Nat.le_of_ble_eq_true rfl) (Nat.le_of_ble_eq_true rfl) s1 e2 dX4_init_5 rfl (fun H hM hz => ?_)
  refine r_dup (np := 9) G dX4_init_8 rfl rfl ?_
  obtain ⟨s3, e4, hm⟩ := bnd_t hm
  refine m_icallN (np := 12) (N2 := (N + 9)) G hM hz hE hA hl.1 (iX6_init l E N (N + 1) s1 s3 e4.symm (by omega) (show isC _ _ from congrArg Prod.fst (hs 0 (by decide))) (shpIs_sub hs 1 rfl)) myX6_init lkX4_9 ⟨(Nat.le_of_ble_eq_true rfl), (Nat.le_of_ble_eq_true rfl)⟩ ⟨(Nat.le_of_ble_eq_true rfl), (Nat.le_of_ble_eq_true rfl)⟩ (Nat.le_of_ble_eq_true rfl) dX4_init_9 rfl (fun H locs hM hz => ?_)
  obtain ⟨s5, e6, hm⟩ := bnd_t hm
  refine mi_put (np := 15) G hM (r := r) (by omega) hc0 ptX4_0 rfl lkX4_10 (x := ((N : Nat) : Int)) (rf_ne (x := ((N : Nat) : Int)) (r := N) ⟨by omega, (Int.toNat_natCast _).symm⟩).symm rfl rfl s5 e6 dX4_init_12 rfl (fun H locs hM hz1 => ?_)
  have hz := hz1.trans hz
  refine r_aload_n (np := 16) G hl 0 rfl dX4_init_15 rfl rfl ?_
  obtain ⟨s7, e8, hm⟩ := bnd_t hm
  refine r_newO (np := 19) G hM hz hE hA nwX3 (hs 9 (by decide)) clX4_init_16 isX3 itX3 (Nat.le_of_ble_eq_true rfl) (Nat.le_of_ble_eq_true rfl) s7 e8 dX4_init_16 rfl (fun H hM hz => ?_)
  refine r_dup (np := 20) G dX4_init_19 rfl rfl ?_
  obtain ⟨s9, e10, hm⟩ := bnd_t hm
  refine m_icallN (np := 23) (N2 := (N + 16)) G hM hz hE hA hl.1 (iX3_init l E (N + 9) (N + 10) s7 s9 e10.symm (by omega) (show isC _ _ from congrArg Prod.fst (hs 9 (by decide))) (shpIs_sub hs 10 rfl)) myX3_init lkX4_18 ⟨(Nat.le_of_ble_eq_true rfl), (Nat.le_of_ble_eq_true rfl)⟩ ⟨(Nat.le_of_ble_eq_true rfl), (Nat.le_of_ble_eq_true rfl)⟩ (Nat.le_of_ble_eq_true rfl) dX4_init_20 rfl (fun H locs hM hz => ?_)
  obtain ⟨s11, e12, hm⟩ := bnd_t hm
  refine mi_putF (np := 26) G hM (r := r) (by omega) hc0 ptX4_1 rfl hin rfl lkX4_19 (x := (((N + 9) : Nat) : Int)) (rf_ne (x := (((N + 9) : Nat) : Int)) (r := (N + 9)) ⟨by omega, (Int.toNat_natCast _).symm⟩).symm rfl rfl s11 e12 dX4_init_23 rfl (fun H locs hM hz1 => ?_)
  have hz := hz1.trans hz
  refine r_aload_n (np := 27) G hl 0 rfl dX4_init_26 rfl rfl ?_
  refine r_iconst (np := 28) G 4 dX4_init_27 rfl ?_
  obtain ⟨s13, e14, hm⟩ := bnd_t hm
  refine r_newP (np := 30) G hM hz hE hA (at0 := .long) (t := 1) (n := 4) rfl (by decide) (by decide) rfl (fun _ h => nomatch h) (hs 16 (by decide)) ac_long (by decide) (fun E => rfl) (Nat.le_of_ble_eq_true rfl) (Nat.le_of_ble_eq_true rfl) s13 e14 dX4_init_28 rfl (fun H hM hz => ?_)
  obtain ⟨s15, e16, hm⟩ := bnd_t hm
  refine mi_putF (np := 33) G hM (r := r) (by omega) hc0 ptX4_2 rfl hin rfl lkX4_23 (x := (((N + 16) : Nat) : Int)) (rf_ne (x := (((N + 16) : Nat) : Int)) (r := (N + 16)) ⟨by omega, (Int.toNat_natCast _).symm⟩).symm rfl rfl s15 e16 dX4_init_30 rfl (fun H locs hM hz1 => ?_)
  have hz := hz1.trans hz
  subst hm
  exact r_ivret G hr hk hM hz rfl dX4_init_33
set_option maxRecDepth 100000 in
set_option maxHeartbeats 4000000 in
theorem iX1_init (l : Launch) (E : mE) (r N : Nat) (σ σ2 : mSt) (hm : sX1_init r N σ = σ2) (hrN : r < N) (hc0 : isC r 1) (hs : shpIs N [(21, 4)]) : mIMet l yX1_init cX1_init 1 1 12 E r N σ (N + 1) σ2 1 4 := by
  unfold sX1_init at hm
  refine m_ientry (by decide) (Nat.le_of_ble_eq_true rfl) (fun p e s m args below meth c G hr hk hin hM hz hE hA ls hl => ?_)
  have G : CallFix p m c cX1_init 1 s args mTs RX1 := G
  have hl : lv_has ls 1 [(0, .ref (eA E r))] := hl
  refine r_aload_n (np := 1) G hl 0 rfl dX1_init_0 rfl rfl ?_
  refine r_objInit (np := 4) G hl.1 lkX1_3 oi_i oi_c (Nat.le_of_ble_eq_true rfl) (Nat.le_of_ble_eq_true rfl) dX1_init_1 rfl ?_
  refine r_aload_n (np := 5) G hl 0 rfl dX1_init_4 rfl rfl ?_
  refine r_iconst (np := 6) G 4 dX1_init_5 rfl ?_
  obtain ⟨s1, e2, hm⟩ := bnd_t hm
  refine r_newP (np := 8) G hM hz hE hA (at0 := .long) (t := 1) (n := 4) rfl (by decide) (by decide) rfl (fun _ h => nomatch h) (hs 0 (by decide)) ac_long (by decide) (fun E => rfl) (Nat.le_of_ble_eq_true rfl) (Nat.le_of_ble_eq_true rfl) s1 e2 dX1_init_6 rfl (fun H hM hz => ?_)
  obtain ⟨s3, e4, hm⟩ := bnd_t hm
  refine mi_putF (np := 11) G hM (r := r) (by omega) hc0 ptX1_0 rfl hin rfl lkX1_9 (x := ((N : Nat) : Int)) (rf_ne (x := ((N : Nat) : Int)) (r := N) ⟨by omega, (Int.toNat_natCast _).symm⟩).symm rfl rfl s3 e4 dX1_init_8 rfl (fun H locs hM hz1 => ?_)
  have hz := hz1.trans hz
  refine r_aload_n (np := 12) G hl 0 rfl dX1_init_11 rfl rfl ?_
  refine r_lconst (np := 13) G 1 dX1_init_12 rfl rfl ?_
  obtain ⟨s5, e6, hm⟩ := bnd_t hm
  refine mi_put (np := 16) G hM (r := r) (by omega) hc0 ptX1_1 rfl lkX1_15 (x := 1) rfl rfl rfl s5 e6 dX1_init_13 rfl (fun H locs hM hz1 => ?_)
  have hz := hz1.trans hz
  refine r_aload_n (np := 17) G hl 0 rfl dX1_init_16 rfl rfl ?_
  refine r_iconst (np := 18) G (-1) dX1_init_17 rfl ?_
  obtain ⟨s7, e8, hm⟩ := bnd_t hm
  refine mi_put (np := 21) G hM (r := r) (by omega) hc0 ptX1_2 rfl lkX1_19 (x := (-1)) rfl rfl rfl s7 e8 dX1_init_18 rfl (fun H locs hM hz1 => ?_)
  have hz := hz1.trans hz
  subst hm
  exact r_ivret G hr hk hM hz rfl dX1_init_21
set_option maxRecDepth 100000 in
set_option maxHeartbeats 4000000 in
theorem iX11_init (l : Launch) (E : mE) (σ σ2 : mSt) (hm : sX11_init σ = σ2) : mIMet l yX11_init cX11_init 2 4 72 E 0 1 σ 253 σ2 252 2376 := by
  unfold sX11_init at hm
  have hc0 : isC 0 10 := by decide +kernel
  refine m_ientry (by decide) (Nat.le_of_ble_eq_true rfl) (fun p e s m args below meth c G hr hk hin hM hz hE hA ls hl => ?_)
  have G : CallFix p m c cX11_init 2 s args mTs RX11 := G
  have hl : lv_has ls 2 [(0, .ref (eA E 0))] := hl
  refine r_aload_n (np := 1) G hl 0 rfl dX11_init_0 rfl rfl ?_
  refine r_objInit (np := 4) G hl.1 lkX11_1 oi_i oi_c (Nat.le_of_ble_eq_true rfl) (Nat.le_of_ble_eq_true rfl) dX11_init_1 rfl ?_
  refine r_aload_n (np := 5) G hl 0 rfl dX11_init_4 rfl rfl ?_
  refine r_sipush (np := 8) G 600 dX11_init_5 (by decide) rfl ?_
  obtain ⟨s1, e2, hm⟩ := bnd_t hm
  refine r_newP (np := 10) G hM hz hE hA (at0 := .byte) (t := 2) (n := 600) rfl (by decide) (by decide) rfl (fun _ h => nomatch h) (by decide +kernel) ac_byte (by decide) (fun E => rfl) (Nat.le_of_ble_eq_true rfl) (Nat.le_of_ble_eq_true rfl) s1 e2 dX11_init_8 rfl (fun H hM hz => ?_)
  obtain ⟨s3, e4, hm⟩ := bnd_t hm
  refine mi_putF (np := 13) G hM (r := 0) (by omega) hc0 ptX11_0 rfl hin rfl lkX11_9 (x := ((1 : Nat) : Int)) (rf_ne (x := ((1 : Nat) : Int)) (r := 1) ⟨by omega, (Int.toNat_natCast _).symm⟩).symm rfl rfl s3 e4 dX11_init_10 rfl (fun H locs hM hz1 => ?_)
  have hz := hz1.trans hz
  refine r_aload_n (np := 14) G hl 0 rfl dX11_init_13 rfl rfl ?_
  refine r_iconst (np := 15) G 0 dX11_init_14 rfl ?_
  obtain ⟨s5, e6, hm⟩ := bnd_t hm
  refine mi_put (np := 18) G hM (r := 0) (by omega) hc0 ptX11_1 rfl lkX11_13 (x := 0) rfl rfl rfl s5 e6 dX11_init_15 rfl (fun H locs hM hz1 => ?_)
  have hz := hz1.trans hz
  refine r_aload_n (np := 19) G hl 0 rfl dX11_init_18 rfl rfl ?_
  obtain ⟨s7, e8, hm⟩ := bnd_t hm
  refine r_newO (np := 22) G hM hz hE hA nwX8 (by decide +kernel) clX11_init_17 isX8 itX8 (Nat.le_of_ble_eq_true rfl) (Nat.le_of_ble_eq_true rfl) s7 e8 dX11_init_19 rfl (fun H hM hz => ?_)
  refine r_dup (np := 23) G dX11_init_22 rfl rfl ?_
  obtain ⟨s9, e10, hm⟩ := bnd_t hm
  refine m_icallN (np := 26) (N2 := 37) G hM hz hE hA hl.1 (iX8_init l E 2 3 s7 s9 e10.symm (by omega) (by decide +kernel) (shpIs_at rfl)) myX8_init lkX11_19 ⟨(Nat.le_of_ble_eq_true rfl), (Nat.le_of_ble_eq_true rfl)⟩ ⟨(Nat.le_of_ble_eq_true rfl), (Nat.le_of_ble_eq_true rfl)⟩ (Nat.le_of_ble_eq_true rfl) dX11_init_23 rfl (fun H locs hM hz => ?_)
  obtain ⟨s11, e12, hm⟩ := bnd_t hm
  refine mi_putF (np := 29) G hM (r := 0) (by omega) hc0 ptX11_2 rfl hin rfl lkX11_20 (x := ((2 : Nat) : Int)) (rf_ne (x := ((2 : Nat) : Int)) (r := 2) ⟨by omega, (Int.toNat_natCast _).symm⟩).symm rfl rfl s11 e12 dX11_init_26 rfl (fun H locs hM hz1 => ?_)
  have hz := hz1.trans hz
  refine r_aload_n (np := 30) G hl 0 rfl dX11_init_29 rfl rfl ?_
  obtain ⟨s13, e14, hm⟩ := bnd_t hm
  refine r_newO (np := 33) G hM hz hE hA nwX0 (by decide +kernel) clX11_init_24 isX0 itX0 (Nat.le_of_ble_eq_true rfl) (Nat.le_of_ble_eq_true rfl) s13 e14 dX11_init_30 rfl (fun H hM hz => ?_)
  refine r_dup (np := 34) G dX11_init_33 rfl rfl ?_
  obtain ⟨s15, e16, hm⟩ := bnd_t hm
  refine m_icallN (np := 37) (N2 := 69) G hM hz hE hA hl.1 (iX0_init l E 37 38 s13 s15 e16.symm (by omega) (by decide +kernel) (shpIs_at rfl)) myX0_init lkX11_26 ⟨(Nat.le_of_ble_eq_true rfl), (Nat.le_of_ble_eq_true rfl)⟩ ⟨(Nat.le_of_ble_eq_true rfl), (Nat.le_of_ble_eq_true rfl)⟩ (Nat.le_of_ble_eq_true rfl) dX11_init_34 rfl (fun H locs hM hz => ?_)
  obtain ⟨s17, e18, hm⟩ := bnd_t hm
  refine mi_put (np := 40) G hM (r := 0) (by omega) hc0 ptX11_3 rfl lkX11_27 (x := ((37 : Nat) : Int)) (rf_ne (x := ((37 : Nat) : Int)) (r := 37) ⟨by omega, (Int.toNat_natCast _).symm⟩).symm rfl rfl s17 e18 dX11_init_37 rfl (fun H locs hM hz1 => ?_)
  have hz := hz1.trans hz
  refine r_aload_n (np := 41) G hl 0 rfl dX11_init_40 rfl rfl ?_
  obtain ⟨s19, e20, hm⟩ := bnd_t hm
  refine r_newO (np := 44) G hM hz hE hA nwX0 (by decide +kernel) clX11_init_24 isX0 itX0 (Nat.le_of_ble_eq_true rfl) (Nat.le_of_ble_eq_true rfl) s19 e20 dX11_init_41 rfl (fun H hM hz => ?_)
  refine r_dup (np := 45) G dX11_init_44 rfl rfl ?_
  obtain ⟨s21, e22, hm⟩ := bnd_t hm
  refine m_icallN (np := 48) (N2 := 101) G hM hz hE hA hl.1 (iX0_init l E 69 70 s19 s21 e22.symm (by omega) (by decide +kernel) (shpIs_at rfl)) myX0_init lkX11_26 ⟨(Nat.le_of_ble_eq_true rfl), (Nat.le_of_ble_eq_true rfl)⟩ ⟨(Nat.le_of_ble_eq_true rfl), (Nat.le_of_ble_eq_true rfl)⟩ (Nat.le_of_ble_eq_true rfl) dX11_init_45 rfl (fun H locs hM hz => ?_)
  obtain ⟨s23, e24, hm⟩ := bnd_t hm
  refine mi_put (np := 51) G hM (r := 0) (by omega) hc0 ptX11_4 rfl lkX11_31 (x := ((69 : Nat) : Int)) (rf_ne (x := ((69 : Nat) : Int)) (r := 69) ⟨by omega, (Int.toNat_natCast _).symm⟩).symm rfl rfl s23 e24 dX11_init_48 rfl (fun H locs hM hz1 => ?_)
  have hz := hz1.trans hz
  refine r_aload_n (np := 52) G hl 0 rfl dX11_init_51 rfl rfl ?_
  obtain ⟨s25, e26, hm⟩ := bnd_t hm
  refine r_newO (np := 55) G hM hz hE hA nwX7 (by decide +kernel) clX11_init_34 isX7 itX7 (Nat.le_of_ble_eq_true rfl) (Nat.le_of_ble_eq_true rfl) s25 e26 dX11_init_52 rfl (fun H hM hz => ?_)
  refine r_dup (np := 56) G dX11_init_55 rfl rfl ?_
  obtain ⟨s27, e28, hm⟩ := bnd_t hm
  refine m_icallN (np := 59) (N2 := 112) G hM hz hE hA hl.1 (iX7_init l E 101 102 s25 s27 e28.symm (by omega) (by decide +kernel) (shpIs_at rfl)) myX7_init lkX11_36 ⟨(Nat.le_of_ble_eq_true rfl), (Nat.le_of_ble_eq_true rfl)⟩ ⟨(Nat.le_of_ble_eq_true rfl), (Nat.le_of_ble_eq_true rfl)⟩ (Nat.le_of_ble_eq_true rfl) dX11_init_56 rfl (fun H locs hM hz => ?_)
  obtain ⟨s29, e30, hm⟩ := bnd_t hm
  refine mi_putF (np := 62) G hM (r := 0) (by omega) hc0 ptX11_5 rfl hin rfl lkX11_37 (x := ((101 : Nat) : Int)) (rf_ne (x := ((101 : Nat) : Int)) (r := 101) ⟨by omega, (Int.toNat_natCast _).symm⟩).symm rfl rfl s29 e30 dX11_init_59 rfl (fun H locs hM hz1 => ?_)
  have hz := hz1.trans hz
  refine r_aload_n (np := 63) G hl 0 rfl dX11_init_62 rfl rfl ?_
  refine r_bipush (np := 65) G 8 dX11_init_63 (by decide) rfl ?_
  obtain ⟨s31, e32, hm⟩ := bnd_t hm
  refine r_newQ (np := 68) G hM hz hE hA (t := 3) (n := 8) rfl (by decide) (by decide) rfl (by decide +kernel) clX11_init_41 ov_Element (by decide) (Nat.le_of_ble_eq_true rfl) (Nat.le_of_ble_eq_true rfl) s31 e32 dX11_init_65 rfl (fun H hM hz => ?_)
  obtain ⟨s33, e34, hm⟩ := bnd_t hm
  refine mi_putF (np := 71) G hM (r := 0) (by omega) hc0 ptX11_6 rfl hin rfl lkX11_43 (x := ((112 : Nat) : Int)) (rf_ne (x := ((112 : Nat) : Int)) (r := 112) ⟨by omega, (Int.toNat_natCast _).symm⟩).symm rfl rfl s33 e34 dX11_init_68 rfl (fun H locs hM hz1 => ?_)
  have hz := hz1.trans hz
  have f35 : s33 0 6 = ((112 : Nat) : Int) := by rw [e34]; exact upS_same _ _ _ _
  refine r_aload_n (np := 72) G hl 0 rfl dX11_init_71 rfl rfl ?_
  refine r_bipush (np := 74) G 8 dX11_init_72 (by decide) rfl ?_
  obtain ⟨s36, e37, hm⟩ := bnd_t hm
  refine r_newQ (np := 77) G hM hz hE hA (t := 4) (n := 8) rfl (by decide) (by decide) rfl (by decide +kernel) clX11_init_47 ov_Order (by decide) (Nat.le_of_ble_eq_true rfl) (Nat.le_of_ble_eq_true rfl) s36 e37 dX11_init_74 rfl (fun H hM hz => ?_)
  have f38 : s36 0 6 = ((112 : Nat) : Int) := by rw [e37]; simp [upS, upR, upM, sX7_init, bnd]; exact f35
  obtain ⟨s39, e40, hm⟩ := bnd_t hm
  refine mi_putF (np := 80) G hM (r := 0) (by omega) hc0 ptX11_7 rfl hin rfl lkX11_49 (x := ((113 : Nat) : Int)) (rf_ne (x := ((113 : Nat) : Int)) (r := 113) ⟨by omega, (Int.toNat_natCast _).symm⟩).symm rfl rfl s39 e40 dX11_init_77 rfl (fun H locs hM hz1 => ?_)
  have hz := hz1.trans hz
  have f41 : s39 0 6 = ((112 : Nat) : Int) := by rw [e40]; simp [upS, upR, upM, sX7_init, bnd]; exact f38
  have f42 : s39 0 7 = ((113 : Nat) : Int) := by rw [e40]; exact upS_same _ _ _ _
  refine r_aload_n (np := 81) G hl 0 rfl dX11_init_80 rfl rfl ?_
  obtain ⟨s43, e44, hm⟩ := bnd_t hm
  refine r_newO (np := 84) G hM hz hE hA nwX2 (by decide +kernel) clX11_init_53 isX2 itX2 (Nat.le_of_ble_eq_true rfl) (Nat.le_of_ble_eq_true rfl) s43 e44 dX11_init_81 rfl (fun H hM hz => ?_)
  have f45 : s43 0 6 = ((112 : Nat) : Int) := by rw [e44]; simp [upS, upR, upM, sX7_init, bnd]; exact f41
  have f46 : s43 0 7 = ((113 : Nat) : Int) := by rw [e44]; simp [upS, upR, upM, sX7_init, bnd]; exact f42
  refine r_dup (np := 85) G dX11_init_84 rfl rfl ?_
  obtain ⟨s47, e48, hm⟩ := bnd_t hm
  refine m_icallN (np := 88) (N2 := 145) G hM hz hE hA hl.1 (iX2_init l E 114 115 s43 s47 e48.symm (by omega) (by decide +kernel) (shpIs_at rfl)) myX2_init lkX11_55 ⟨(Nat.le_of_ble_eq_true rfl), (Nat.le_of_ble_eq_true rfl)⟩ ⟨(Nat.le_of_ble_eq_true rfl), (Nat.le_of_ble_eq_true rfl)⟩ (Nat.le_of_ble_eq_true rfl) dX11_init_85 rfl (fun H locs hM hz => ?_)
  have f49 : s47 0 6 = ((112 : Nat) : Int) := by rw [e48]; simp [upS, upR, upM, sX2_init, bnd, sX10_init, sX0_init, sX8_init, sX7_init, sX3_init, sX6_init, sX2_init, sX9_init, sX4_init, sX1_init]; exact f45
  have f50 : s47 0 7 = ((113 : Nat) : Int) := by rw [e48]; simp [upS, upR, upM, sX2_init, bnd, sX10_init, sX0_init, sX8_init, sX7_init, sX3_init, sX6_init, sX2_init, sX9_init, sX4_init, sX1_init]; exact f46
  obtain ⟨s51, e52, hm⟩ := bnd_t hm
  refine mi_putF (np := 91) G hM (r := 0) (by omega) hc0 ptX11_8 rfl hin rfl lkX11_56 (x := ((114 : Nat) : Int)) (rf_ne (x := ((114 : Nat) : Int)) (r := 114) ⟨by omega, (Int.toNat_natCast _).symm⟩).symm rfl rfl s51 e52 dX11_init_88 rfl (fun H locs hM hz1 => ?_)
  have hz := hz1.trans hz
  have f53 : s51 0 6 = ((112 : Nat) : Int) := by rw [e52]; simp [upS, upR, upM, sX2_init, bnd, sX10_init, sX0_init, sX8_init, sX7_init, sX3_init, sX6_init, sX2_init, sX9_init, sX4_init, sX1_init]; exact f49
  have f54 : s51 0 7 = ((113 : Nat) : Int) := by rw [e52]; simp [upS, upR, upM, sX2_init, bnd, sX10_init, sX0_init, sX8_init, sX7_init, sX3_init, sX6_init, sX2_init, sX9_init, sX4_init, sX1_init]; exact f50
  refine r_aload_n (np := 92) G hl 0 rfl dX11_init_91 rfl rfl ?_
  obtain ⟨s55, e56, hm⟩ := bnd_t hm
  refine r_newO (np := 95) G hM hz hE hA nwX9 (by decide +kernel) clX11_init_60 isX9 itX9 (Nat.le_of_ble_eq_true rfl) (Nat.le_of_ble_eq_true rfl) s55 e56 dX11_init_92 rfl (fun H hM hz => ?_)
  have f57 : s55 0 6 = ((112 : Nat) : Int) := by rw [e56]; simp [upS, upR, upM, sX2_init, bnd, sX10_init, sX0_init, sX8_init, sX7_init, sX3_init, sX6_init, sX2_init, sX9_init, sX4_init, sX1_init]; exact f53
  have f58 : s55 0 7 = ((113 : Nat) : Int) := by rw [e56]; simp [upS, upR, upM, sX2_init, bnd, sX10_init, sX0_init, sX8_init, sX7_init, sX3_init, sX6_init, sX2_init, sX9_init, sX4_init, sX1_init]; exact f54
  refine r_dup (np := 96) G dX11_init_95 rfl rfl ?_
  obtain ⟨s59, e60, hm⟩ := bnd_t hm
  refine m_icallN (np := 99) (N2 := 146) G hM hz hE hA hl.1 (iX9_init l E 145 146 s55 s59 e60.symm (by omega) (by decide +kernel) (shpIs_at rfl)) myX9_init lkX11_62 ⟨(Nat.le_of_ble_eq_true rfl), (Nat.le_of_ble_eq_true rfl)⟩ ⟨(Nat.le_of_ble_eq_true rfl), (Nat.le_of_ble_eq_true rfl)⟩ (Nat.le_of_ble_eq_true rfl) dX11_init_96 rfl (fun H locs hM hz => ?_)
  have f61 : s59 0 6 = ((112 : Nat) : Int) := by rw [e60]; simp [upS, upR, upM, sX9_init, bnd, sX10_init, sX0_init, sX8_init, sX7_init, sX3_init, sX6_init, sX2_init, sX9_init, sX4_init, sX1_init]; exact f57
  have f62 : s59 0 7 = ((113 : Nat) : Int) := by rw [e60]; simp [upS, upR, upM, sX9_init, bnd, sX10_init, sX0_init, sX8_init, sX7_init, sX3_init, sX6_init, sX2_init, sX9_init, sX4_init, sX1_init]; exact f58
  obtain ⟨s63, e64, hm⟩ := bnd_t hm
  refine mi_putF (np := 102) G hM (r := 0) (by omega) hc0 ptX11_9 rfl hin rfl lkX11_63 (x := ((145 : Nat) : Int)) (rf_ne (x := ((145 : Nat) : Int)) (r := 145) ⟨by omega, (Int.toNat_natCast _).symm⟩).symm rfl rfl s63 e64 dX11_init_99 rfl (fun H locs hM hz1 => ?_)
  have hz := hz1.trans hz
  have f65 : s63 0 6 = ((112 : Nat) : Int) := by rw [e64]; simp [upS, upR, upM, sX9_init, bnd, sX10_init, sX0_init, sX8_init, sX7_init, sX3_init, sX6_init, sX2_init, sX9_init, sX4_init, sX1_init]; exact f61
  have f66 : s63 0 7 = ((113 : Nat) : Int) := by rw [e64]; simp [upS, upR, upM, sX9_init, bnd, sX10_init, sX0_init, sX8_init, sX7_init, sX3_init, sX6_init, sX2_init, sX9_init, sX4_init, sX1_init]; exact f62
  refine r_aload_n (np := 103) G hl 0 rfl dX11_init_102 rfl rfl ?_
  obtain ⟨s67, e68, hm⟩ := bnd_t hm
  refine r_newO (np := 106) G hM hz hE hA nwX4 (by decide +kernel) clX11_init_67 isX4 itX4 (Nat.le_of_ble_eq_true rfl) (Nat.le_of_ble_eq_true rfl) s67 e68 dX11_init_103 rfl (fun H hM hz => ?_)
  have f69 : s67 0 6 = ((112 : Nat) : Int) := by rw [e68]; simp [upS, upR, upM, sX9_init, bnd, sX10_init, sX0_init, sX8_init, sX7_init, sX3_init, sX6_init, sX2_init, sX9_init, sX4_init, sX1_init]; exact f65
  have f70 : s67 0 7 = ((113 : Nat) : Int) := by rw [e68]; simp [upS, upR, upM, sX9_init, bnd, sX10_init, sX0_init, sX8_init, sX7_init, sX3_init, sX6_init, sX2_init, sX9_init, sX4_init, sX1_init]; exact f66
  refine r_dup (np := 107) G dX11_init_106 rfl rfl ?_
  obtain ⟨s71, e72, hm⟩ := bnd_t hm
  refine m_icallN (np := 110) (N2 := 164) G hM hz hE hA hl.1 (iX4_init l E 146 147 s67 s71 e72.symm (by omega) (by decide +kernel) (shpIs_at rfl)) myX4_init lkX11_69 ⟨(Nat.le_of_ble_eq_true rfl), (Nat.le_of_ble_eq_true rfl)⟩ ⟨(Nat.le_of_ble_eq_true rfl), (Nat.le_of_ble_eq_true rfl)⟩ (Nat.le_of_ble_eq_true rfl) dX11_init_107 rfl (fun H locs hM hz => ?_)
  have f73 : s71 0 6 = ((112 : Nat) : Int) := by rw [e72]; simp [upS, upR, upM, sX4_init, bnd, sX10_init, sX0_init, sX8_init, sX7_init, sX3_init, sX6_init, sX2_init, sX9_init, sX4_init, sX1_init]; exact f69
  have f74 : s71 0 7 = ((113 : Nat) : Int) := by rw [e72]; simp [upS, upR, upM, sX4_init, bnd, sX10_init, sX0_init, sX8_init, sX7_init, sX3_init, sX6_init, sX2_init, sX9_init, sX4_init, sX1_init]; exact f70
  obtain ⟨s75, e76, hm⟩ := bnd_t hm
  refine mi_putF (np := 113) G hM (r := 0) (by omega) hc0 ptX11_10 rfl hin rfl lkX11_70 (x := ((146 : Nat) : Int)) (rf_ne (x := ((146 : Nat) : Int)) (r := 146) ⟨by omega, (Int.toNat_natCast _).symm⟩).symm rfl rfl s75 e76 dX11_init_110 rfl (fun H locs hM hz1 => ?_)
  have hz := hz1.trans hz
  have f77 : s75 0 6 = ((112 : Nat) : Int) := by rw [e76]; simp [upS, upR, upM, sX4_init, bnd, sX10_init, sX0_init, sX8_init, sX7_init, sX3_init, sX6_init, sX2_init, sX9_init, sX4_init, sX1_init]; exact f73
  have f78 : s75 0 7 = ((113 : Nat) : Int) := by rw [e76]; simp [upS, upR, upM, sX4_init, bnd, sX10_init, sX0_init, sX8_init, sX7_init, sX3_init, sX6_init, sX2_init, sX9_init, sX4_init, sX1_init]; exact f74
  refine r_aload_n (np := 114) G hl 0 rfl dX11_init_113 rfl rfl ?_
  refine r_iconst (np := 115) G 4 dX11_init_114 rfl ?_
  obtain ⟨s79, e80, hm⟩ := bnd_t hm
  refine r_newP (np := 117) G hM hz hE hA (at0 := .long) (t := 1) (n := 4) rfl (by decide) (by decide) rfl (fun _ h => nomatch h) (by decide +kernel) ac_long (by decide) (fun E => rfl) (Nat.le_of_ble_eq_true rfl) (Nat.le_of_ble_eq_true rfl) s79 e80 dX11_init_115 rfl (fun H hM hz => ?_)
  have f81 : s79 0 6 = ((112 : Nat) : Int) := by rw [e80]; simp [upS, upR, upM, sX4_init, bnd, sX10_init, sX0_init, sX8_init, sX7_init, sX3_init, sX6_init, sX2_init, sX9_init, sX4_init, sX1_init]; exact f77
  have f82 : s79 0 7 = ((113 : Nat) : Int) := by rw [e80]; simp [upS, upR, upM, sX4_init, bnd, sX10_init, sX0_init, sX8_init, sX7_init, sX3_init, sX6_init, sX2_init, sX9_init, sX4_init, sX1_init]; exact f78
  obtain ⟨s83, e84, hm⟩ := bnd_t hm
  refine mi_putF (np := 120) G hM (r := 0) (by omega) hc0 ptX11_11 rfl hin rfl lkX11_74 (x := ((164 : Nat) : Int)) (rf_ne (x := ((164 : Nat) : Int)) (r := 164) ⟨by omega, (Int.toNat_natCast _).symm⟩).symm rfl rfl s83 e84 dX11_init_117 rfl (fun H locs hM hz1 => ?_)
  have hz := hz1.trans hz
  have f85 : s83 0 6 = ((112 : Nat) : Int) := by rw [e84]; simp [upS, upR, upM, sX4_init, bnd, sX10_init, sX0_init, sX8_init, sX7_init, sX3_init, sX6_init, sX2_init, sX9_init, sX4_init, sX1_init]; exact f81
  have f86 : s83 0 7 = ((113 : Nat) : Int) := by rw [e84]; simp [upS, upR, upM, sX4_init, bnd, sX10_init, sX0_init, sX8_init, sX7_init, sX3_init, sX6_init, sX2_init, sX9_init, sX4_init, sX1_init]; exact f82
  refine r_iconst (np := 121) G 0 dX11_init_120 rfl ?_
  refine r_istore_n (np := 122) G hl rfl [(1, vI 0), (0, .ref (eA E 0))] dX11_init_121 rfl rfl (by decide) rfl (fun ls hl => ?_)
  refine r_iload_n (np := 123) G hl 0 rfl dX11_init_122 rfl rfl ?_
  refine r_bipush (np := 125) G 8 dX11_init_123 (by decide) rfl ?_
  refine r_icmp_ge (np := 128) (tgt := 147) G (wIk 0 rfl) (wIk 8 rfl) dX11_init_125 (by decide) rfl (fun h87 => absurd h87 (by decide)) (fun _ => ?_)
  refine r_aload_n (np := 129) G hl 1 rfl dX11_init_128 rfl rfl ?_
  refine m_get (np := 132) (t := 2) G hM (by omega) hc0 fdX11_6 lkX11_43 dX11_init_129 rfl ?_
  rw [f85, show mV E 2 ((112 : Nat) : Int) = .ref (eA E 112) from (show va_rf (mRf E ((112 : Nat) : Int)) = .ref (eA E 112) from rf_ne (r := 112) ⟨by omega, (Int.toNat_natCast _).symm⟩)]
  refine r_iload_n (np := 133) G hl 0 rfl dX11_init_132 rfl rfl ?_
  obtain ⟨s88, e89, hm⟩ := bnd_t hm
  refine r_newO (np := 136) G hM hz hE hA nwX1 (by decide +kernel) clX11_init_41 isX1 itX1 (Nat.le_of_ble_eq_true rfl) (Nat.le_of_ble_eq_true rfl) s88 e89 dX11_init_133 rfl (fun H hM hz => ?_)
  have f90 : s88 0 6 = ((112 : Nat) : Int) := by rw [e89]; simp [upS, upR, upM, sX4_init, bnd, sX10_init, sX0_init, sX8_init, sX7_init, sX3_init, sX6_init, sX2_init, sX9_init, sX4_init, sX1_init]; exact f85
  have f91 : s88 0 7 = ((113 : Nat) : Int) := by rw [e89]; simp [upS, upR, upM, sX4_init, bnd, sX10_init, sX0_init, sX8_init, sX7_init, sX3_init, sX6_init, sX2_init, sX9_init, sX4_init, sX1_init]; exact f86
  refine r_dup (np := 137) G dX11_init_136 rfl rfl ?_
  obtain ⟨s92, e93, hm⟩ := bnd_t hm
  refine m_icallN (np := 140) (N2 := 167) G hM hz hE hA hl.1 (iX1_init l E 165 166 s88 s92 e93.symm (by omega) (by decide +kernel) (shpIs_at rfl)) myX1_init lkX11_78 ⟨(Nat.le_of_ble_eq_true rfl), (Nat.le_of_ble_eq_true rfl)⟩ ⟨(Nat.le_of_ble_eq_true rfl), (Nat.le_of_ble_eq_true rfl)⟩ (Nat.le_of_ble_eq_true rfl) dX11_init_137 rfl (fun H locs hM hz => ?_)
  have f94 : s92 0 6 = ((112 : Nat) : Int) := by rw [e93]; simp [upS, upR, upM, sX1_init, bnd, sX10_init, sX0_init, sX8_init, sX7_init, sX3_init, sX6_init, sX2_init, sX9_init, sX4_init, sX1_init]; exact f90
  have f95 : s92 0 7 = ((113 : Nat) : Int) := by rw [e93]; simp [upS, upR, upM, sX1_init, bnd, sX10_init, sX0_init, sX8_init, sX7_init, sX3_init, sX6_init, sX2_init, sX9_init, sX4_init, sX1_init]; exact f91
  obtain ⟨s96, e97, hm⟩ := bnd_t hm
  refine r_aastore (np := 141) (t := 3) (k := 0) G hM (by omega) (by omega) (by omega) ⟨by decide +kernel, by rw [(wIk 0 rfl)]; decide, by rw [(wIk 0 rfl)]; decide +kernel⟩ (by rw [(wIk 0 rfl)]; rfl) (by decide) rfl (show vwCl[1]? = some (RX1, TX1, 3) from rfl) (by decide) (by decide +kernel) s96 e97 dX11_init_140 rfl (fun H locs hM hz1 => ?_)
  have hz := hz1.trans hz
  have f98 : s96 0 6 = ((112 : Nat) : Int) := by rw [e97]; simp [upS, upR, upM, sX1_init, bnd, sX10_init, sX0_init, sX8_init, sX7_init, sX3_init, sX6_init, sX2_init, sX9_init, sX4_init, sX1_init]; exact f94
  have f99 : s96 0 7 = ((113 : Nat) : Int) := by rw [e97]; simp [upS, upR, upM, sX1_init, bnd, sX10_init, sX0_init, sX8_init, sX7_init, sX3_init, sX6_init, sX2_init, sX9_init, sX4_init, sX1_init]; exact f95
  refine r_iinc (np := 144) G hl 0 rfl (y := 1) (by decide) [(1, vI 1), (0, .ref (eA E 0))] dX11_init_141 rfl (by decide) rfl (fun ls hl => ?_)
  refine r_goto (np := 122) G dX11_init_144 (by decide) ?_
  refine r_iload_n (np := 123) G hl 0 rfl dX11_init_122 rfl rfl ?_
  refine r_bipush (np := 125) G 8 dX11_init_123 (by decide) rfl ?_
  refine r_icmp_ge (np := 128) (tgt := 147) G (wIk 1 rfl) (wIk 8 rfl) dX11_init_125 (by decide) rfl (fun h100 => absurd h100 (by decide)) (fun _ => ?_)
  refine r_aload_n (np := 129) G hl 1 rfl dX11_init_128 rfl rfl ?_
  refine m_get (np := 132) (t := 2) G hM (by omega) hc0 fdX11_6 lkX11_43 dX11_init_129 rfl ?_
  rw [f98, show mV E 2 ((112 : Nat) : Int) = .ref (eA E 112) from (show va_rf (mRf E ((112 : Nat) : Int)) = .ref (eA E 112) from rf_ne (r := 112) ⟨by omega, (Int.toNat_natCast _).symm⟩)]
  refine r_iload_n (np := 133) G hl 0 rfl dX11_init_132 rfl rfl ?_
  obtain ⟨s101, e102, hm⟩ := bnd_t hm
  refine r_newO (np := 136) G hM hz hE hA nwX1 (by decide +kernel) clX11_init_41 isX1 itX1 (Nat.le_of_ble_eq_true rfl) (Nat.le_of_ble_eq_true rfl) s101 e102 dX11_init_133 rfl (fun H hM hz => ?_)
  have f103 : s101 0 6 = ((112 : Nat) : Int) := by rw [e102]; simp [upS, upR, upM, sX1_init, bnd, sX10_init, sX0_init, sX8_init, sX7_init, sX3_init, sX6_init, sX2_init, sX9_init, sX4_init, sX1_init]; exact f98
  have f104 : s101 0 7 = ((113 : Nat) : Int) := by rw [e102]; simp [upS, upR, upM, sX1_init, bnd, sX10_init, sX0_init, sX8_init, sX7_init, sX3_init, sX6_init, sX2_init, sX9_init, sX4_init, sX1_init]; exact f99
  refine r_dup (np := 137) G dX11_init_136 rfl rfl ?_
  obtain ⟨s105, e106, hm⟩ := bnd_t hm
  refine m_icallN (np := 140) (N2 := 169) G hM hz hE hA hl.1 (iX1_init l E 167 168 s101 s105 e106.symm (by omega) (by decide +kernel) (shpIs_at rfl)) myX1_init lkX11_78 ⟨(Nat.le_of_ble_eq_true rfl), (Nat.le_of_ble_eq_true rfl)⟩ ⟨(Nat.le_of_ble_eq_true rfl), (Nat.le_of_ble_eq_true rfl)⟩ (Nat.le_of_ble_eq_true rfl) dX11_init_137 rfl (fun H locs hM hz => ?_)
  have f107 : s105 0 6 = ((112 : Nat) : Int) := by rw [e106]; simp [upS, upR, upM, sX1_init, bnd, sX10_init, sX0_init, sX8_init, sX7_init, sX3_init, sX6_init, sX2_init, sX9_init, sX4_init, sX1_init]; exact f103
  have f108 : s105 0 7 = ((113 : Nat) : Int) := by rw [e106]; simp [upS, upR, upM, sX1_init, bnd, sX10_init, sX0_init, sX8_init, sX7_init, sX3_init, sX6_init, sX2_init, sX9_init, sX4_init, sX1_init]; exact f104
  obtain ⟨s109, e110, hm⟩ := bnd_t hm
  refine r_aastore (np := 141) (t := 3) (k := 1) G hM (by omega) (by omega) (by omega) ⟨by decide +kernel, by rw [(wIk 1 rfl)]; decide, by rw [(wIk 1 rfl)]; decide +kernel⟩ (by rw [(wIk 1 rfl)]; rfl) (by decide) rfl (show vwCl[1]? = some (RX1, TX1, 3) from rfl) (by decide) (by decide +kernel) s109 e110 dX11_init_140 rfl (fun H locs hM hz1 => ?_)
  have hz := hz1.trans hz
  have f111 : s109 0 6 = ((112 : Nat) : Int) := by rw [e110]; simp [upS, upR, upM, sX1_init, bnd, sX10_init, sX0_init, sX8_init, sX7_init, sX3_init, sX6_init, sX2_init, sX9_init, sX4_init, sX1_init]; exact f107
  have f112 : s109 0 7 = ((113 : Nat) : Int) := by rw [e110]; simp [upS, upR, upM, sX1_init, bnd, sX10_init, sX0_init, sX8_init, sX7_init, sX3_init, sX6_init, sX2_init, sX9_init, sX4_init, sX1_init]; exact f108
  refine r_iinc (np := 144) G hl 0 rfl (y := 2) (by decide) [(1, vI 2), (0, .ref (eA E 0))] dX11_init_141 rfl (by decide) rfl (fun ls hl => ?_)
  refine r_goto (np := 122) G dX11_init_144 (by decide) ?_
  refine r_iload_n (np := 123) G hl 0 rfl dX11_init_122 rfl rfl ?_
  refine r_bipush (np := 125) G 8 dX11_init_123 (by decide) rfl ?_
  refine r_icmp_ge (np := 128) (tgt := 147) G (wIk 2 rfl) (wIk 8 rfl) dX11_init_125 (by decide) rfl (fun h113 => absurd h113 (by decide)) (fun _ => ?_)
  refine r_aload_n (np := 129) G hl 1 rfl dX11_init_128 rfl rfl ?_
  refine m_get (np := 132) (t := 2) G hM (by omega) hc0 fdX11_6 lkX11_43 dX11_init_129 rfl ?_
  rw [f111, show mV E 2 ((112 : Nat) : Int) = .ref (eA E 112) from (show va_rf (mRf E ((112 : Nat) : Int)) = .ref (eA E 112) from rf_ne (r := 112) ⟨by omega, (Int.toNat_natCast _).symm⟩)]
  refine r_iload_n (np := 133) G hl 0 rfl dX11_init_132 rfl rfl ?_
  obtain ⟨s114, e115, hm⟩ := bnd_t hm
  refine r_newO (np := 136) G hM hz hE hA nwX1 (by decide +kernel) clX11_init_41 isX1 itX1 (Nat.le_of_ble_eq_true rfl) (Nat.le_of_ble_eq_true rfl) s114 e115 dX11_init_133 rfl (fun H hM hz => ?_)
  have f116 : s114 0 6 = ((112 : Nat) : Int) := by rw [e115]; simp [upS, upR, upM, sX1_init, bnd, sX10_init, sX0_init, sX8_init, sX7_init, sX3_init, sX6_init, sX2_init, sX9_init, sX4_init, sX1_init]; exact f111
  have f117 : s114 0 7 = ((113 : Nat) : Int) := by rw [e115]; simp [upS, upR, upM, sX1_init, bnd, sX10_init, sX0_init, sX8_init, sX7_init, sX3_init, sX6_init, sX2_init, sX9_init, sX4_init, sX1_init]; exact f112
  refine r_dup (np := 137) G dX11_init_136 rfl rfl ?_
  obtain ⟨s118, e119, hm⟩ := bnd_t hm
  refine m_icallN (np := 140) (N2 := 171) G hM hz hE hA hl.1 (iX1_init l E 169 170 s114 s118 e119.symm (by omega) (by decide +kernel) (shpIs_at rfl)) myX1_init lkX11_78 ⟨(Nat.le_of_ble_eq_true rfl), (Nat.le_of_ble_eq_true rfl)⟩ ⟨(Nat.le_of_ble_eq_true rfl), (Nat.le_of_ble_eq_true rfl)⟩ (Nat.le_of_ble_eq_true rfl) dX11_init_137 rfl (fun H locs hM hz => ?_)
  have f120 : s118 0 6 = ((112 : Nat) : Int) := by rw [e119]; simp [upS, upR, upM, sX1_init, bnd, sX10_init, sX0_init, sX8_init, sX7_init, sX3_init, sX6_init, sX2_init, sX9_init, sX4_init, sX1_init]; exact f116
  have f121 : s118 0 7 = ((113 : Nat) : Int) := by rw [e119]; simp [upS, upR, upM, sX1_init, bnd, sX10_init, sX0_init, sX8_init, sX7_init, sX3_init, sX6_init, sX2_init, sX9_init, sX4_init, sX1_init]; exact f117
  obtain ⟨s122, e123, hm⟩ := bnd_t hm
  refine r_aastore (np := 141) (t := 3) (k := 2) G hM (by omega) (by omega) (by omega) ⟨by decide +kernel, by rw [(wIk 2 rfl)]; decide, by rw [(wIk 2 rfl)]; decide +kernel⟩ (by rw [(wIk 2 rfl)]; rfl) (by decide) rfl (show vwCl[1]? = some (RX1, TX1, 3) from rfl) (by decide) (by decide +kernel) s122 e123 dX11_init_140 rfl (fun H locs hM hz1 => ?_)
  have hz := hz1.trans hz
  have f124 : s122 0 6 = ((112 : Nat) : Int) := by rw [e123]; simp [upS, upR, upM, sX1_init, bnd, sX10_init, sX0_init, sX8_init, sX7_init, sX3_init, sX6_init, sX2_init, sX9_init, sX4_init, sX1_init]; exact f120
  have f125 : s122 0 7 = ((113 : Nat) : Int) := by rw [e123]; simp [upS, upR, upM, sX1_init, bnd, sX10_init, sX0_init, sX8_init, sX7_init, sX3_init, sX6_init, sX2_init, sX9_init, sX4_init, sX1_init]; exact f121
  refine r_iinc (np := 144) G hl 0 rfl (y := 3) (by decide) [(1, vI 3), (0, .ref (eA E 0))] dX11_init_141 rfl (by decide) rfl (fun ls hl => ?_)
  refine r_goto (np := 122) G dX11_init_144 (by decide) ?_
  refine r_iload_n (np := 123) G hl 0 rfl dX11_init_122 rfl rfl ?_
  refine r_bipush (np := 125) G 8 dX11_init_123 (by decide) rfl ?_
  refine r_icmp_ge (np := 128) (tgt := 147) G (wIk 3 rfl) (wIk 8 rfl) dX11_init_125 (by decide) rfl (fun h126 => absurd h126 (by decide)) (fun _ => ?_)
  refine r_aload_n (np := 129) G hl 1 rfl dX11_init_128 rfl rfl ?_
  refine m_get (np := 132) (t := 2) G hM (by omega) hc0 fdX11_6 lkX11_43 dX11_init_129 rfl ?_
  rw [f124, show mV E 2 ((112 : Nat) : Int) = .ref (eA E 112) from (show va_rf (mRf E ((112 : Nat) : Int)) = .ref (eA E 112) from rf_ne (r := 112) ⟨by omega, (Int.toNat_natCast _).symm⟩)]
  refine r_iload_n (np := 133) G hl 0 rfl dX11_init_132 rfl rfl ?_
  obtain ⟨s127, e128, hm⟩ := bnd_t hm
  refine r_newO (np := 136) G hM hz hE hA nwX1 (by decide +kernel) clX11_init_41 isX1 itX1 (Nat.le_of_ble_eq_true rfl) (Nat.le_of_ble_eq_true rfl) s127 e128 dX11_init_133 rfl (fun H hM hz => ?_)
  have f129 : s127 0 6 = ((112 : Nat) : Int) := by rw [e128]; simp [upS, upR, upM, sX1_init, bnd, sX10_init, sX0_init, sX8_init, sX7_init, sX3_init, sX6_init, sX2_init, sX9_init, sX4_init, sX1_init]; exact f124
  have f130 : s127 0 7 = ((113 : Nat) : Int) := by rw [e128]; simp [upS, upR, upM, sX1_init, bnd, sX10_init, sX0_init, sX8_init, sX7_init, sX3_init, sX6_init, sX2_init, sX9_init, sX4_init, sX1_init]; exact f125
  refine r_dup (np := 137) G dX11_init_136 rfl rfl ?_
  obtain ⟨s131, e132, hm⟩ := bnd_t hm
  refine m_icallN (np := 140) (N2 := 173) G hM hz hE hA hl.1 (iX1_init l E 171 172 s127 s131 e132.symm (by omega) (by decide +kernel) (shpIs_at rfl)) myX1_init lkX11_78 ⟨(Nat.le_of_ble_eq_true rfl), (Nat.le_of_ble_eq_true rfl)⟩ ⟨(Nat.le_of_ble_eq_true rfl), (Nat.le_of_ble_eq_true rfl)⟩ (Nat.le_of_ble_eq_true rfl) dX11_init_137 rfl (fun H locs hM hz => ?_)
  have f133 : s131 0 6 = ((112 : Nat) : Int) := by rw [e132]; simp [upS, upR, upM, sX1_init, bnd, sX10_init, sX0_init, sX8_init, sX7_init, sX3_init, sX6_init, sX2_init, sX9_init, sX4_init, sX1_init]; exact f129
  have f134 : s131 0 7 = ((113 : Nat) : Int) := by rw [e132]; simp [upS, upR, upM, sX1_init, bnd, sX10_init, sX0_init, sX8_init, sX7_init, sX3_init, sX6_init, sX2_init, sX9_init, sX4_init, sX1_init]; exact f130
  obtain ⟨s135, e136, hm⟩ := bnd_t hm
  refine r_aastore (np := 141) (t := 3) (k := 3) G hM (by omega) (by omega) (by omega) ⟨by decide +kernel, by rw [(wIk 3 rfl)]; decide, by rw [(wIk 3 rfl)]; decide +kernel⟩ (by rw [(wIk 3 rfl)]; rfl) (by decide) rfl (show vwCl[1]? = some (RX1, TX1, 3) from rfl) (by decide) (by decide +kernel) s135 e136 dX11_init_140 rfl (fun H locs hM hz1 => ?_)
  have hz := hz1.trans hz
  have f137 : s135 0 6 = ((112 : Nat) : Int) := by rw [e136]; simp [upS, upR, upM, sX1_init, bnd, sX10_init, sX0_init, sX8_init, sX7_init, sX3_init, sX6_init, sX2_init, sX9_init, sX4_init, sX1_init]; exact f133
  have f138 : s135 0 7 = ((113 : Nat) : Int) := by rw [e136]; simp [upS, upR, upM, sX1_init, bnd, sX10_init, sX0_init, sX8_init, sX7_init, sX3_init, sX6_init, sX2_init, sX9_init, sX4_init, sX1_init]; exact f134
  refine r_iinc (np := 144) G hl 0 rfl (y := 4) (by decide) [(1, vI 4), (0, .ref (eA E 0))] dX11_init_141 rfl (by decide) rfl (fun ls hl => ?_)
  refine r_goto (np := 122) G dX11_init_144 (by decide) ?_
  refine r_iload_n (np := 123) G hl 0 rfl dX11_init_122 rfl rfl ?_
  refine r_bipush (np := 125) G 8 dX11_init_123 (by decide) rfl ?_
  refine r_icmp_ge (np := 128) (tgt := 147) G (wIk 4 rfl) (wIk 8 rfl) dX11_init_125 (by decide) rfl (fun h139 => absurd h139 (by decide)) (fun _ => ?_)
  refine r_aload_n (np := 129) G hl 1 rfl dX11_init_128 rfl rfl ?_
  refine m_get (np := 132) (t := 2) G hM (by omega) hc0 fdX11_6 lkX11_43 dX11_init_129 rfl ?_
  rw [f137, show mV E 2 ((112 : Nat) : Int) = .ref (eA E 112) from (show va_rf (mRf E ((112 : Nat) : Int)) = .ref (eA E 112) from rf_ne (r := 112) ⟨by omega, (Int.toNat_natCast _).symm⟩)]
  refine r_iload_n (np := 133) G hl 0 rfl dX11_init_132 rfl rfl ?_
  obtain ⟨s140, e141, hm⟩ := bnd_t hm
  refine r_newO (np := 136) G hM hz hE hA nwX1 (by decide +kernel) clX11_init_41 isX1 itX1 (Nat.le_of_ble_eq_true rfl) (Nat.le_of_ble_eq_true rfl) s140 e141 dX11_init_133 rfl (fun H hM hz => ?_)
  have f142 : s140 0 6 = ((112 : Nat) : Int) := by rw [e141]; simp [upS, upR, upM, sX1_init, bnd, sX10_init, sX0_init, sX8_init, sX7_init, sX3_init, sX6_init, sX2_init, sX9_init, sX4_init, sX1_init]; exact f137
  have f143 : s140 0 7 = ((113 : Nat) : Int) := by rw [e141]; simp [upS, upR, upM, sX1_init, bnd, sX10_init, sX0_init, sX8_init, sX7_init, sX3_init, sX6_init, sX2_init, sX9_init, sX4_init, sX1_init]; exact f138
  refine r_dup (np := 137) G dX11_init_136 rfl rfl ?_
  obtain ⟨s144, e145, hm⟩ := bnd_t hm
  refine m_icallN (np := 140) (N2 := 175) G hM hz hE hA hl.1 (iX1_init l E 173 174 s140 s144 e145.symm (by omega) (by decide +kernel) (shpIs_at rfl)) myX1_init lkX11_78 ⟨(Nat.le_of_ble_eq_true rfl), (Nat.le_of_ble_eq_true rfl)⟩ ⟨(Nat.le_of_ble_eq_true rfl), (Nat.le_of_ble_eq_true rfl)⟩ (Nat.le_of_ble_eq_true rfl) dX11_init_137 rfl (fun H locs hM hz => ?_)
  have f146 : s144 0 6 = ((112 : Nat) : Int) := by rw [e145]; simp [upS, upR, upM, sX1_init, bnd, sX10_init, sX0_init, sX8_init, sX7_init, sX3_init, sX6_init, sX2_init, sX9_init, sX4_init, sX1_init]; exact f142
  have f147 : s144 0 7 = ((113 : Nat) : Int) := by rw [e145]; simp [upS, upR, upM, sX1_init, bnd, sX10_init, sX0_init, sX8_init, sX7_init, sX3_init, sX6_init, sX2_init, sX9_init, sX4_init, sX1_init]; exact f143
  obtain ⟨s148, e149, hm⟩ := bnd_t hm
  refine r_aastore (np := 141) (t := 3) (k := 4) G hM (by omega) (by omega) (by omega) ⟨by decide +kernel, by rw [(wIk 4 rfl)]; decide, by rw [(wIk 4 rfl)]; decide +kernel⟩ (by rw [(wIk 4 rfl)]; rfl) (by decide) rfl (show vwCl[1]? = some (RX1, TX1, 3) from rfl) (by decide) (by decide +kernel) s148 e149 dX11_init_140 rfl (fun H locs hM hz1 => ?_)
  have hz := hz1.trans hz
  have f150 : s148 0 6 = ((112 : Nat) : Int) := by rw [e149]; simp [upS, upR, upM, sX1_init, bnd, sX10_init, sX0_init, sX8_init, sX7_init, sX3_init, sX6_init, sX2_init, sX9_init, sX4_init, sX1_init]; exact f146
  have f151 : s148 0 7 = ((113 : Nat) : Int) := by rw [e149]; simp [upS, upR, upM, sX1_init, bnd, sX10_init, sX0_init, sX8_init, sX7_init, sX3_init, sX6_init, sX2_init, sX9_init, sX4_init, sX1_init]; exact f147
  refine r_iinc (np := 144) G hl 0 rfl (y := 5) (by decide) [(1, vI 5), (0, .ref (eA E 0))] dX11_init_141 rfl (by decide) rfl (fun ls hl => ?_)
  refine r_goto (np := 122) G dX11_init_144 (by decide) ?_
  refine r_iload_n (np := 123) G hl 0 rfl dX11_init_122 rfl rfl ?_
  refine r_bipush (np := 125) G 8 dX11_init_123 (by decide) rfl ?_
  refine r_icmp_ge (np := 128) (tgt := 147) G (wIk 5 rfl) (wIk 8 rfl) dX11_init_125 (by decide) rfl (fun h152 => absurd h152 (by decide)) (fun _ => ?_)
  refine r_aload_n (np := 129) G hl 1 rfl dX11_init_128 rfl rfl ?_
  refine m_get (np := 132) (t := 2) G hM (by omega) hc0 fdX11_6 lkX11_43 dX11_init_129 rfl ?_
  rw [f150, show mV E 2 ((112 : Nat) : Int) = .ref (eA E 112) from (show va_rf (mRf E ((112 : Nat) : Int)) = .ref (eA E 112) from rf_ne (r := 112) ⟨by omega, (Int.toNat_natCast _).symm⟩)]
  refine r_iload_n (np := 133) G hl 0 rfl dX11_init_132 rfl rfl ?_
  obtain ⟨s153, e154, hm⟩ := bnd_t hm
  refine r_newO (np := 136) G hM hz hE hA nwX1 (by decide +kernel) clX11_init_41 isX1 itX1 (Nat.le_of_ble_eq_true rfl) (Nat.le_of_ble_eq_true rfl) s153 e154 dX11_init_133 rfl (fun H hM hz => ?_)
  have f155 : s153 0 6 = ((112 : Nat) : Int) := by rw [e154]; simp [upS, upR, upM, sX1_init, bnd, sX10_init, sX0_init, sX8_init, sX7_init, sX3_init, sX6_init, sX2_init, sX9_init, sX4_init, sX1_init]; exact f150
  have f156 : s153 0 7 = ((113 : Nat) : Int) := by rw [e154]; simp [upS, upR, upM, sX1_init, bnd, sX10_init, sX0_init, sX8_init, sX7_init, sX3_init, sX6_init, sX2_init, sX9_init, sX4_init, sX1_init]; exact f151
  refine r_dup (np := 137) G dX11_init_136 rfl rfl ?_
  obtain ⟨s157, e158, hm⟩ := bnd_t hm
  refine m_icallN (np := 140) (N2 := 177) G hM hz hE hA hl.1 (iX1_init l E 175 176 s153 s157 e158.symm (by omega) (by decide +kernel) (shpIs_at rfl)) myX1_init lkX11_78 ⟨(Nat.le_of_ble_eq_true rfl), (Nat.le_of_ble_eq_true rfl)⟩ ⟨(Nat.le_of_ble_eq_true rfl), (Nat.le_of_ble_eq_true rfl)⟩ (Nat.le_of_ble_eq_true rfl) dX11_init_137 rfl (fun H locs hM hz => ?_)
  have f159 : s157 0 6 = ((112 : Nat) : Int) := by rw [e158]; simp [upS, upR, upM, sX1_init, bnd, sX10_init, sX0_init, sX8_init, sX7_init, sX3_init, sX6_init, sX2_init, sX9_init, sX4_init, sX1_init]; exact f155
  have f160 : s157 0 7 = ((113 : Nat) : Int) := by rw [e158]; simp [upS, upR, upM, sX1_init, bnd, sX10_init, sX0_init, sX8_init, sX7_init, sX3_init, sX6_init, sX2_init, sX9_init, sX4_init, sX1_init]; exact f156
  obtain ⟨s161, e162, hm⟩ := bnd_t hm
  refine r_aastore (np := 141) (t := 3) (k := 5) G hM (by omega) (by omega) (by omega) ⟨by decide +kernel, by rw [(wIk 5 rfl)]; decide, by rw [(wIk 5 rfl)]; decide +kernel⟩ (by rw [(wIk 5 rfl)]; rfl) (by decide) rfl (show vwCl[1]? = some (RX1, TX1, 3) from rfl) (by decide) (by decide +kernel) s161 e162 dX11_init_140 rfl (fun H locs hM hz1 => ?_)
  have hz := hz1.trans hz
  have f163 : s161 0 6 = ((112 : Nat) : Int) := by rw [e162]; simp [upS, upR, upM, sX1_init, bnd, sX10_init, sX0_init, sX8_init, sX7_init, sX3_init, sX6_init, sX2_init, sX9_init, sX4_init, sX1_init]; exact f159
  have f164 : s161 0 7 = ((113 : Nat) : Int) := by rw [e162]; simp [upS, upR, upM, sX1_init, bnd, sX10_init, sX0_init, sX8_init, sX7_init, sX3_init, sX6_init, sX2_init, sX9_init, sX4_init, sX1_init]; exact f160
  refine r_iinc (np := 144) G hl 0 rfl (y := 6) (by decide) [(1, vI 6), (0, .ref (eA E 0))] dX11_init_141 rfl (by decide) rfl (fun ls hl => ?_)
  refine r_goto (np := 122) G dX11_init_144 (by decide) ?_
  refine r_iload_n (np := 123) G hl 0 rfl dX11_init_122 rfl rfl ?_
  refine r_bipush (np := 125) G 8 dX11_init_123 (by decide) rfl ?_
  refine r_icmp_ge (np := 128) (tgt := 147) G (wIk 6 rfl) (wIk 8 rfl) dX11_init_125 (by decide) rfl (fun h165 => absurd h165 (by decide)) (fun _ => ?_)
  refine r_aload_n (np := 129) G hl 1 rfl dX11_init_128 rfl rfl ?_
  refine m_get (np := 132) (t := 2) G hM (by omega) hc0 fdX11_6 lkX11_43 dX11_init_129 rfl ?_
  rw [f163, show mV E 2 ((112 : Nat) : Int) = .ref (eA E 112) from (show va_rf (mRf E ((112 : Nat) : Int)) = .ref (eA E 112) from rf_ne (r := 112) ⟨by omega, (Int.toNat_natCast _).symm⟩)]
  refine r_iload_n (np := 133) G hl 0 rfl dX11_init_132 rfl rfl ?_
  obtain ⟨s166, e167, hm⟩ := bnd_t hm
  refine r_newO (np := 136) G hM hz hE hA nwX1 (by decide +kernel) clX11_init_41 isX1 itX1 (Nat.le_of_ble_eq_true rfl) (Nat.le_of_ble_eq_true rfl) s166 e167 dX11_init_133 rfl (fun H hM hz => ?_)
  have f168 : s166 0 6 = ((112 : Nat) : Int) := by rw [e167]; simp [upS, upR, upM, sX1_init, bnd, sX10_init, sX0_init, sX8_init, sX7_init, sX3_init, sX6_init, sX2_init, sX9_init, sX4_init, sX1_init]; exact f163
  have f169 : s166 0 7 = ((113 : Nat) : Int) := by rw [e167]; simp [upS, upR, upM, sX1_init, bnd, sX10_init, sX0_init, sX8_init, sX7_init, sX3_init, sX6_init, sX2_init, sX9_init, sX4_init, sX1_init]; exact f164
  refine r_dup (np := 137) G dX11_init_136 rfl rfl ?_
  obtain ⟨s170, e171, hm⟩ := bnd_t hm
  refine m_icallN (np := 140) (N2 := 179) G hM hz hE hA hl.1 (iX1_init l E 177 178 s166 s170 e171.symm (by omega) (by decide +kernel) (shpIs_at rfl)) myX1_init lkX11_78 ⟨(Nat.le_of_ble_eq_true rfl), (Nat.le_of_ble_eq_true rfl)⟩ ⟨(Nat.le_of_ble_eq_true rfl), (Nat.le_of_ble_eq_true rfl)⟩ (Nat.le_of_ble_eq_true rfl) dX11_init_137 rfl (fun H locs hM hz => ?_)
  have f172 : s170 0 6 = ((112 : Nat) : Int) := by rw [e171]; simp [upS, upR, upM, sX1_init, bnd, sX10_init, sX0_init, sX8_init, sX7_init, sX3_init, sX6_init, sX2_init, sX9_init, sX4_init, sX1_init]; exact f168
  have f173 : s170 0 7 = ((113 : Nat) : Int) := by rw [e171]; simp [upS, upR, upM, sX1_init, bnd, sX10_init, sX0_init, sX8_init, sX7_init, sX3_init, sX6_init, sX2_init, sX9_init, sX4_init, sX1_init]; exact f169
  obtain ⟨s174, e175, hm⟩ := bnd_t hm
  refine r_aastore (np := 141) (t := 3) (k := 6) G hM (by omega) (by omega) (by omega) ⟨by decide +kernel, by rw [(wIk 6 rfl)]; decide, by rw [(wIk 6 rfl)]; decide +kernel⟩ (by rw [(wIk 6 rfl)]; rfl) (by decide) rfl (show vwCl[1]? = some (RX1, TX1, 3) from rfl) (by decide) (by decide +kernel) s174 e175 dX11_init_140 rfl (fun H locs hM hz1 => ?_)
  have hz := hz1.trans hz
  have f176 : s174 0 6 = ((112 : Nat) : Int) := by rw [e175]; simp [upS, upR, upM, sX1_init, bnd, sX10_init, sX0_init, sX8_init, sX7_init, sX3_init, sX6_init, sX2_init, sX9_init, sX4_init, sX1_init]; exact f172
  have f177 : s174 0 7 = ((113 : Nat) : Int) := by rw [e175]; simp [upS, upR, upM, sX1_init, bnd, sX10_init, sX0_init, sX8_init, sX7_init, sX3_init, sX6_init, sX2_init, sX9_init, sX4_init, sX1_init]; exact f173
  refine r_iinc (np := 144) G hl 0 rfl (y := 7) (by decide) [(1, vI 7), (0, .ref (eA E 0))] dX11_init_141 rfl (by decide) rfl (fun ls hl => ?_)
  refine r_goto (np := 122) G dX11_init_144 (by decide) ?_
  refine r_iload_n (np := 123) G hl 0 rfl dX11_init_122 rfl rfl ?_
  refine r_bipush (np := 125) G 8 dX11_init_123 (by decide) rfl ?_
  refine r_icmp_ge (np := 128) (tgt := 147) G (wIk 7 rfl) (wIk 8 rfl) dX11_init_125 (by decide) rfl (fun h178 => absurd h178 (by decide)) (fun _ => ?_)
  refine r_aload_n (np := 129) G hl 1 rfl dX11_init_128 rfl rfl ?_
  refine m_get (np := 132) (t := 2) G hM (by omega) hc0 fdX11_6 lkX11_43 dX11_init_129 rfl ?_
  rw [f176, show mV E 2 ((112 : Nat) : Int) = .ref (eA E 112) from (show va_rf (mRf E ((112 : Nat) : Int)) = .ref (eA E 112) from rf_ne (r := 112) ⟨by omega, (Int.toNat_natCast _).symm⟩)]
  refine r_iload_n (np := 133) G hl 0 rfl dX11_init_132 rfl rfl ?_
  obtain ⟨s179, e180, hm⟩ := bnd_t hm
  refine r_newO (np := 136) G hM hz hE hA nwX1 (by decide +kernel) clX11_init_41 isX1 itX1 (Nat.le_of_ble_eq_true rfl) (Nat.le_of_ble_eq_true rfl) s179 e180 dX11_init_133 rfl (fun H hM hz => ?_)
  have f181 : s179 0 6 = ((112 : Nat) : Int) := by rw [e180]; simp [upS, upR, upM, sX1_init, bnd, sX10_init, sX0_init, sX8_init, sX7_init, sX3_init, sX6_init, sX2_init, sX9_init, sX4_init, sX1_init]; exact f176
  have f182 : s179 0 7 = ((113 : Nat) : Int) := by rw [e180]; simp [upS, upR, upM, sX1_init, bnd, sX10_init, sX0_init, sX8_init, sX7_init, sX3_init, sX6_init, sX2_init, sX9_init, sX4_init, sX1_init]; exact f177
  refine r_dup (np := 137) G dX11_init_136 rfl rfl ?_
  obtain ⟨s183, e184, hm⟩ := bnd_t hm
  refine m_icallN (np := 140) (N2 := 181) G hM hz hE hA hl.1 (iX1_init l E 179 180 s179 s183 e184.symm (by omega) (by decide +kernel) (shpIs_at rfl)) myX1_init lkX11_78 ⟨(Nat.le_of_ble_eq_true rfl), (Nat.le_of_ble_eq_true rfl)⟩ ⟨(Nat.le_of_ble_eq_true rfl), (Nat.le_of_ble_eq_true rfl)⟩ (Nat.le_of_ble_eq_true rfl) dX11_init_137 rfl (fun H locs hM hz => ?_)
  have f185 : s183 0 6 = ((112 : Nat) : Int) := by rw [e184]; simp [upS, upR, upM, sX1_init, bnd, sX10_init, sX0_init, sX8_init, sX7_init, sX3_init, sX6_init, sX2_init, sX9_init, sX4_init, sX1_init]; exact f181
  have f186 : s183 0 7 = ((113 : Nat) : Int) := by rw [e184]; simp [upS, upR, upM, sX1_init, bnd, sX10_init, sX0_init, sX8_init, sX7_init, sX3_init, sX6_init, sX2_init, sX9_init, sX4_init, sX1_init]; exact f182
  obtain ⟨s187, e188, hm⟩ := bnd_t hm
  refine r_aastore (np := 141) (t := 3) (k := 7) G hM (by omega) (by omega) (by omega) ⟨by decide +kernel, by rw [(wIk 7 rfl)]; decide, by rw [(wIk 7 rfl)]; decide +kernel⟩ (by rw [(wIk 7 rfl)]; rfl) (by decide) rfl (show vwCl[1]? = some (RX1, TX1, 3) from rfl) (by decide) (by decide +kernel) s187 e188 dX11_init_140 rfl (fun H locs hM hz1 => ?_)
  have hz := hz1.trans hz
  have f189 : s187 0 6 = ((112 : Nat) : Int) := by rw [e188]; simp [upS, upR, upM, sX1_init, bnd, sX10_init, sX0_init, sX8_init, sX7_init, sX3_init, sX6_init, sX2_init, sX9_init, sX4_init, sX1_init]; exact f185
  have f190 : s187 0 7 = ((113 : Nat) : Int) := by rw [e188]; simp [upS, upR, upM, sX1_init, bnd, sX10_init, sX0_init, sX8_init, sX7_init, sX3_init, sX6_init, sX2_init, sX9_init, sX4_init, sX1_init]; exact f186
  refine r_iinc (np := 144) G hl 0 rfl (y := 8) (by decide) [(1, vI 8), (0, .ref (eA E 0))] dX11_init_141 rfl (by decide) rfl (fun ls hl => ?_)
  refine r_goto (np := 122) G dX11_init_144 (by decide) ?_
  refine r_iload_n (np := 123) G hl 0 rfl dX11_init_122 rfl rfl ?_
  refine r_bipush (np := 125) G 8 dX11_init_123 (by decide) rfl ?_
  refine r_icmp_ge (np := 128) (tgt := 147) G (wIk 8 rfl) (wIk 8 rfl) dX11_init_125 (by decide) rfl (fun _ => ?_) (fun h191 => absurd (by decide) h191)
  refine r_iconst (np := 148) G 0 dX11_init_147 rfl ?_
  refine r_istore_n (np := 149) G hl rfl [(1, vI 0), (0, .ref (eA E 0))] dX11_init_148 rfl rfl (by decide) rfl (fun ls hl => ?_)
  refine r_iload_n (np := 150) G hl 0 rfl dX11_init_149 rfl rfl ?_
  refine r_bipush (np := 152) G 8 dX11_init_150 (by decide) rfl ?_
  refine r_icmp_ge (np := 155) (tgt := 174) G (wIk 0 rfl) (wIk 8 rfl) dX11_init_152 (by decide) rfl (fun h192 => absurd h192 (by decide)) (fun _ => ?_)
  refine r_aload_n (np := 156) G hl 1 rfl dX11_init_155 rfl rfl ?_
  refine m_get (np := 159) (t := 2) G hM (by omega) hc0 fdX11_7 lkX11_49 dX11_init_156 rfl ?_
  rw [f190, show mV E 2 ((113 : Nat) : Int) = .ref (eA E 113) from (show va_rf (mRf E ((113 : Nat) : Int)) = .ref (eA E 113) from rf_ne (r := 113) ⟨by omega, (Int.toNat_natCast _).symm⟩)]
  refine r_iload_n (np := 160) G hl 0 rfl dX11_init_159 rfl rfl ?_
  obtain ⟨s193, e194, hm⟩ := bnd_t hm
  refine r_newO (np := 163) G hM hz hE hA nwX6 (by decide +kernel) clX11_init_47 isX6 itX6 (Nat.le_of_ble_eq_true rfl) (Nat.le_of_ble_eq_true rfl) s193 e194 dX11_init_160 rfl (fun H hM hz => ?_)
  have f195 : s193 0 6 = ((112 : Nat) : Int) := by rw [e194]; simp [upS, upR, upM, sX1_init, bnd, sX10_init, sX0_init, sX8_init, sX7_init, sX3_init, sX6_init, sX2_init, sX9_init, sX4_init, sX1_init]; exact f189
  have f196 : s193 0 7 = ((113 : Nat) : Int) := by rw [e194]; simp [upS, upR, upM, sX1_init, bnd, sX10_init, sX0_init, sX8_init, sX7_init, sX3_init, sX6_init, sX2_init, sX9_init, sX4_init, sX1_init]; exact f190
  refine r_dup (np := 164) G dX11_init_163 rfl rfl ?_
  obtain ⟨s197, e198, hm⟩ := bnd_t hm
  refine m_icallN (np := 167) (N2 := 190) G hM hz hE hA hl.1 (iX6_init l E 181 182 s193 s197 e198.symm (by omega) (by decide +kernel) (shpIs_at rfl)) myX6_init lkX11_79 ⟨(Nat.le_of_ble_eq_true rfl), (Nat.le_of_ble_eq_true rfl)⟩ ⟨(Nat.le_of_ble_eq_true rfl), (Nat.le_of_ble_eq_true rfl)⟩ (Nat.le_of_ble_eq_true rfl) dX11_init_164 rfl (fun H locs hM hz => ?_)
  have f199 : s197 0 6 = ((112 : Nat) : Int) := by rw [e198]; simp [upS, upR, upM, sX6_init, bnd, sX10_init, sX0_init, sX8_init, sX7_init, sX3_init, sX6_init, sX2_init, sX9_init, sX4_init, sX1_init]; exact f195
  have f200 : s197 0 7 = ((113 : Nat) : Int) := by rw [e198]; simp [upS, upR, upM, sX6_init, bnd, sX10_init, sX0_init, sX8_init, sX7_init, sX3_init, sX6_init, sX2_init, sX9_init, sX4_init, sX1_init]; exact f196
  obtain ⟨s201, e202, hm⟩ := bnd_t hm
  refine r_aastore (np := 168) (t := 4) (k := 0) G hM (by omega) (by omega) (by omega) ⟨by decide +kernel, by rw [(wIk 0 rfl)]; decide, by rw [(wIk 0 rfl)]; decide +kernel⟩ (by rw [(wIk 0 rfl)]; rfl) (by decide) rfl (show vwCl[5]? = some (RX6, TX6, 4) from rfl) (by decide) (by decide +kernel) s201 e202 dX11_init_167 rfl (fun H locs hM hz1 => ?_)
  have hz := hz1.trans hz
  have f203 : s201 0 6 = ((112 : Nat) : Int) := by rw [e202]; simp [upS, upR, upM, sX6_init, bnd, sX10_init, sX0_init, sX8_init, sX7_init, sX3_init, sX6_init, sX2_init, sX9_init, sX4_init, sX1_init]; exact f199
  have f204 : s201 0 7 = ((113 : Nat) : Int) := by rw [e202]; simp [upS, upR, upM, sX6_init, bnd, sX10_init, sX0_init, sX8_init, sX7_init, sX3_init, sX6_init, sX2_init, sX9_init, sX4_init, sX1_init]; exact f200
  refine r_iinc (np := 171) G hl 0 rfl (y := 1) (by decide) [(1, vI 1), (0, .ref (eA E 0))] dX11_init_168 rfl (by decide) rfl (fun ls hl => ?_)
  refine r_goto (np := 149) G dX11_init_171 (by decide) ?_
  refine r_iload_n (np := 150) G hl 0 rfl dX11_init_149 rfl rfl ?_
  refine r_bipush (np := 152) G 8 dX11_init_150 (by decide) rfl ?_
  refine r_icmp_ge (np := 155) (tgt := 174) G (wIk 1 rfl) (wIk 8 rfl) dX11_init_152 (by decide) rfl (fun h205 => absurd h205 (by decide)) (fun _ => ?_)
  refine r_aload_n (np := 156) G hl 1 rfl dX11_init_155 rfl rfl ?_
  refine m_get (np := 159) (t := 2) G hM (by omega) hc0 fdX11_7 lkX11_49 dX11_init_156 rfl ?_
  rw [f204, show mV E 2 ((113 : Nat) : Int) = .ref (eA E 113) from (show va_rf (mRf E ((113 : Nat) : Int)) = .ref (eA E 113) from rf_ne (r := 113) ⟨by omega, (Int.toNat_natCast _).symm⟩)]
  refine r_iload_n (np := 160) G hl 0 rfl dX11_init_159 rfl rfl ?_
  obtain ⟨s206, e207, hm⟩ := bnd_t hm
  refine r_newO (np := 163) G hM hz hE hA nwX6 (by decide +kernel) clX11_init_47 isX6 itX6 (Nat.le_of_ble_eq_true rfl) (Nat.le_of_ble_eq_true rfl) s206 e207 dX11_init_160 rfl (fun H hM hz => ?_)
  have f208 : s206 0 6 = ((112 : Nat) : Int) := by rw [e207]; simp [upS, upR, upM, sX6_init, bnd, sX10_init, sX0_init, sX8_init, sX7_init, sX3_init, sX6_init, sX2_init, sX9_init, sX4_init, sX1_init]; exact f203
  have f209 : s206 0 7 = ((113 : Nat) : Int) := by rw [e207]; simp [upS, upR, upM, sX6_init, bnd, sX10_init, sX0_init, sX8_init, sX7_init, sX3_init, sX6_init, sX2_init, sX9_init, sX4_init, sX1_init]; exact f204
  refine r_dup (np := 164) G dX11_init_163 rfl rfl ?_
  obtain ⟨s210, e211, hm⟩ := bnd_t hm
  refine m_icallN (np := 167) (N2 := 199) G hM hz hE hA hl.1 (iX6_init l E 190 191 s206 s210 e211.symm (by omega) (by decide +kernel) (shpIs_at rfl)) myX6_init lkX11_79 ⟨(Nat.le_of_ble_eq_true rfl), (Nat.le_of_ble_eq_true rfl)⟩ ⟨(Nat.le_of_ble_eq_true rfl), (Nat.le_of_ble_eq_true rfl)⟩ (Nat.le_of_ble_eq_true rfl) dX11_init_164 rfl (fun H locs hM hz => ?_)
  have f212 : s210 0 6 = ((112 : Nat) : Int) := by rw [e211]; simp [upS, upR, upM, sX6_init, bnd, sX10_init, sX0_init, sX8_init, sX7_init, sX3_init, sX6_init, sX2_init, sX9_init, sX4_init, sX1_init]; exact f208
  have f213 : s210 0 7 = ((113 : Nat) : Int) := by rw [e211]; simp [upS, upR, upM, sX6_init, bnd, sX10_init, sX0_init, sX8_init, sX7_init, sX3_init, sX6_init, sX2_init, sX9_init, sX4_init, sX1_init]; exact f209
  obtain ⟨s214, e215, hm⟩ := bnd_t hm
  refine r_aastore (np := 168) (t := 4) (k := 1) G hM (by omega) (by omega) (by omega) ⟨by decide +kernel, by rw [(wIk 1 rfl)]; decide, by rw [(wIk 1 rfl)]; decide +kernel⟩ (by rw [(wIk 1 rfl)]; rfl) (by decide) rfl (show vwCl[5]? = some (RX6, TX6, 4) from rfl) (by decide) (by decide +kernel) s214 e215 dX11_init_167 rfl (fun H locs hM hz1 => ?_)
  have hz := hz1.trans hz
  have f216 : s214 0 6 = ((112 : Nat) : Int) := by rw [e215]; simp [upS, upR, upM, sX6_init, bnd, sX10_init, sX0_init, sX8_init, sX7_init, sX3_init, sX6_init, sX2_init, sX9_init, sX4_init, sX1_init]; exact f212
  have f217 : s214 0 7 = ((113 : Nat) : Int) := by rw [e215]; simp [upS, upR, upM, sX6_init, bnd, sX10_init, sX0_init, sX8_init, sX7_init, sX3_init, sX6_init, sX2_init, sX9_init, sX4_init, sX1_init]; exact f213
  refine r_iinc (np := 171) G hl 0 rfl (y := 2) (by decide) [(1, vI 2), (0, .ref (eA E 0))] dX11_init_168 rfl (by decide) rfl (fun ls hl => ?_)
  refine r_goto (np := 149) G dX11_init_171 (by decide) ?_
  refine r_iload_n (np := 150) G hl 0 rfl dX11_init_149 rfl rfl ?_
  refine r_bipush (np := 152) G 8 dX11_init_150 (by decide) rfl ?_
  refine r_icmp_ge (np := 155) (tgt := 174) G (wIk 2 rfl) (wIk 8 rfl) dX11_init_152 (by decide) rfl (fun h218 => absurd h218 (by decide)) (fun _ => ?_)
  refine r_aload_n (np := 156) G hl 1 rfl dX11_init_155 rfl rfl ?_
  refine m_get (np := 159) (t := 2) G hM (by omega) hc0 fdX11_7 lkX11_49 dX11_init_156 rfl ?_
  rw [f217, show mV E 2 ((113 : Nat) : Int) = .ref (eA E 113) from (show va_rf (mRf E ((113 : Nat) : Int)) = .ref (eA E 113) from rf_ne (r := 113) ⟨by omega, (Int.toNat_natCast _).symm⟩)]
  refine r_iload_n (np := 160) G hl 0 rfl dX11_init_159 rfl rfl ?_
  obtain ⟨s219, e220, hm⟩ := bnd_t hm
  refine r_newO (np := 163) G hM hz hE hA nwX6 (by decide +kernel) clX11_init_47 isX6 itX6 (Nat.le_of_ble_eq_true rfl) (Nat.le_of_ble_eq_true rfl) s219 e220 dX11_init_160 rfl (fun H hM hz => ?_)
  have f221 : s219 0 6 = ((112 : Nat) : Int) := by rw [e220]; simp [upS, upR, upM, sX6_init, bnd, sX10_init, sX0_init, sX8_init, sX7_init, sX3_init, sX6_init, sX2_init, sX9_init, sX4_init, sX1_init]; exact f216
  have f222 : s219 0 7 = ((113 : Nat) : Int) := by rw [e220]; simp [upS, upR, upM, sX6_init, bnd, sX10_init, sX0_init, sX8_init, sX7_init, sX3_init, sX6_init, sX2_init, sX9_init, sX4_init, sX1_init]; exact f217
  refine r_dup (np := 164) G dX11_init_163 rfl rfl ?_
  obtain ⟨s223, e224, hm⟩ := bnd_t hm
  refine m_icallN (np := 167) (N2 := 208) G hM hz hE hA hl.1 (iX6_init l E 199 200 s219 s223 e224.symm (by omega) (by decide +kernel) (shpIs_at rfl)) myX6_init lkX11_79 ⟨(Nat.le_of_ble_eq_true rfl), (Nat.le_of_ble_eq_true rfl)⟩ ⟨(Nat.le_of_ble_eq_true rfl), (Nat.le_of_ble_eq_true rfl)⟩ (Nat.le_of_ble_eq_true rfl) dX11_init_164 rfl (fun H locs hM hz => ?_)
  have f225 : s223 0 6 = ((112 : Nat) : Int) := by rw [e224]; simp [upS, upR, upM, sX6_init, bnd, sX10_init, sX0_init, sX8_init, sX7_init, sX3_init, sX6_init, sX2_init, sX9_init, sX4_init, sX1_init]; exact f221
  have f226 : s223 0 7 = ((113 : Nat) : Int) := by rw [e224]; simp [upS, upR, upM, sX6_init, bnd, sX10_init, sX0_init, sX8_init, sX7_init, sX3_init, sX6_init, sX2_init, sX9_init, sX4_init, sX1_init]; exact f222
  obtain ⟨s227, e228, hm⟩ := bnd_t hm
  refine r_aastore (np := 168) (t := 4) (k := 2) G hM (by omega) (by omega) (by omega) ⟨by decide +kernel, by rw [(wIk 2 rfl)]; decide, by rw [(wIk 2 rfl)]; decide +kernel⟩ (by rw [(wIk 2 rfl)]; rfl) (by decide) rfl (show vwCl[5]? = some (RX6, TX6, 4) from rfl) (by decide) (by decide +kernel) s227 e228 dX11_init_167 rfl (fun H locs hM hz1 => ?_)
  have hz := hz1.trans hz
  have f229 : s227 0 6 = ((112 : Nat) : Int) := by rw [e228]; simp [upS, upR, upM, sX6_init, bnd, sX10_init, sX0_init, sX8_init, sX7_init, sX3_init, sX6_init, sX2_init, sX9_init, sX4_init, sX1_init]; exact f225
  have f230 : s227 0 7 = ((113 : Nat) : Int) := by rw [e228]; simp [upS, upR, upM, sX6_init, bnd, sX10_init, sX0_init, sX8_init, sX7_init, sX3_init, sX6_init, sX2_init, sX9_init, sX4_init, sX1_init]; exact f226
  refine r_iinc (np := 171) G hl 0 rfl (y := 3) (by decide) [(1, vI 3), (0, .ref (eA E 0))] dX11_init_168 rfl (by decide) rfl (fun ls hl => ?_)
  refine r_goto (np := 149) G dX11_init_171 (by decide) ?_
  refine r_iload_n (np := 150) G hl 0 rfl dX11_init_149 rfl rfl ?_
  refine r_bipush (np := 152) G 8 dX11_init_150 (by decide) rfl ?_
  refine r_icmp_ge (np := 155) (tgt := 174) G (wIk 3 rfl) (wIk 8 rfl) dX11_init_152 (by decide) rfl (fun h231 => absurd h231 (by decide)) (fun _ => ?_)
  refine r_aload_n (np := 156) G hl 1 rfl dX11_init_155 rfl rfl ?_
  refine m_get (np := 159) (t := 2) G hM (by omega) hc0 fdX11_7 lkX11_49 dX11_init_156 rfl ?_
  rw [f230, show mV E 2 ((113 : Nat) : Int) = .ref (eA E 113) from (show va_rf (mRf E ((113 : Nat) : Int)) = .ref (eA E 113) from rf_ne (r := 113) ⟨by omega, (Int.toNat_natCast _).symm⟩)]
  refine r_iload_n (np := 160) G hl 0 rfl dX11_init_159 rfl rfl ?_
  obtain ⟨s232, e233, hm⟩ := bnd_t hm
  refine r_newO (np := 163) G hM hz hE hA nwX6 (by decide +kernel) clX11_init_47 isX6 itX6 (Nat.le_of_ble_eq_true rfl) (Nat.le_of_ble_eq_true rfl) s232 e233 dX11_init_160 rfl (fun H hM hz => ?_)
  have f234 : s232 0 6 = ((112 : Nat) : Int) := by rw [e233]; simp [upS, upR, upM, sX6_init, bnd, sX10_init, sX0_init, sX8_init, sX7_init, sX3_init, sX6_init, sX2_init, sX9_init, sX4_init, sX1_init]; exact f229
  have f235 : s232 0 7 = ((113 : Nat) : Int) := by rw [e233]; simp [upS, upR, upM, sX6_init, bnd, sX10_init, sX0_init, sX8_init, sX7_init, sX3_init, sX6_init, sX2_init, sX9_init, sX4_init, sX1_init]; exact f230
  refine r_dup (np := 164) G dX11_init_163 rfl rfl ?_
  obtain ⟨s236, e237, hm⟩ := bnd_t hm
  refine m_icallN (np := 167) (N2 := 217) G hM hz hE hA hl.1 (iX6_init l E 208 209 s232 s236 e237.symm (by omega) (by decide +kernel) (shpIs_at rfl)) myX6_init lkX11_79 ⟨(Nat.le_of_ble_eq_true rfl), (Nat.le_of_ble_eq_true rfl)⟩ ⟨(Nat.le_of_ble_eq_true rfl), (Nat.le_of_ble_eq_true rfl)⟩ (Nat.le_of_ble_eq_true rfl) dX11_init_164 rfl (fun H locs hM hz => ?_)
  have f238 : s236 0 6 = ((112 : Nat) : Int) := by rw [e237]; simp [upS, upR, upM, sX6_init, bnd, sX10_init, sX0_init, sX8_init, sX7_init, sX3_init, sX6_init, sX2_init, sX9_init, sX4_init, sX1_init]; exact f234
  have f239 : s236 0 7 = ((113 : Nat) : Int) := by rw [e237]; simp [upS, upR, upM, sX6_init, bnd, sX10_init, sX0_init, sX8_init, sX7_init, sX3_init, sX6_init, sX2_init, sX9_init, sX4_init, sX1_init]; exact f235
  obtain ⟨s240, e241, hm⟩ := bnd_t hm
  refine r_aastore (np := 168) (t := 4) (k := 3) G hM (by omega) (by omega) (by omega) ⟨by decide +kernel, by rw [(wIk 3 rfl)]; decide, by rw [(wIk 3 rfl)]; decide +kernel⟩ (by rw [(wIk 3 rfl)]; rfl) (by decide) rfl (show vwCl[5]? = some (RX6, TX6, 4) from rfl) (by decide) (by decide +kernel) s240 e241 dX11_init_167 rfl (fun H locs hM hz1 => ?_)
  have hz := hz1.trans hz
  have f242 : s240 0 6 = ((112 : Nat) : Int) := by rw [e241]; simp [upS, upR, upM, sX6_init, bnd, sX10_init, sX0_init, sX8_init, sX7_init, sX3_init, sX6_init, sX2_init, sX9_init, sX4_init, sX1_init]; exact f238
  have f243 : s240 0 7 = ((113 : Nat) : Int) := by rw [e241]; simp [upS, upR, upM, sX6_init, bnd, sX10_init, sX0_init, sX8_init, sX7_init, sX3_init, sX6_init, sX2_init, sX9_init, sX4_init, sX1_init]; exact f239
  refine r_iinc (np := 171) G hl 0 rfl (y := 4) (by decide) [(1, vI 4), (0, .ref (eA E 0))] dX11_init_168 rfl (by decide) rfl (fun ls hl => ?_)
  refine r_goto (np := 149) G dX11_init_171 (by decide) ?_
  refine r_iload_n (np := 150) G hl 0 rfl dX11_init_149 rfl rfl ?_
  refine r_bipush (np := 152) G 8 dX11_init_150 (by decide) rfl ?_
  refine r_icmp_ge (np := 155) (tgt := 174) G (wIk 4 rfl) (wIk 8 rfl) dX11_init_152 (by decide) rfl (fun h244 => absurd h244 (by decide)) (fun _ => ?_)
  refine r_aload_n (np := 156) G hl 1 rfl dX11_init_155 rfl rfl ?_
  refine m_get (np := 159) (t := 2) G hM (by omega) hc0 fdX11_7 lkX11_49 dX11_init_156 rfl ?_
  rw [f243, show mV E 2 ((113 : Nat) : Int) = .ref (eA E 113) from (show va_rf (mRf E ((113 : Nat) : Int)) = .ref (eA E 113) from rf_ne (r := 113) ⟨by omega, (Int.toNat_natCast _).symm⟩)]
  refine r_iload_n (np := 160) G hl 0 rfl dX11_init_159 rfl rfl ?_
  obtain ⟨s245, e246, hm⟩ := bnd_t hm
  refine r_newO (np := 163) G hM hz hE hA nwX6 (by decide +kernel) clX11_init_47 isX6 itX6 (Nat.le_of_ble_eq_true rfl) (Nat.le_of_ble_eq_true rfl) s245 e246 dX11_init_160 rfl (fun H hM hz => ?_)
  have f247 : s245 0 6 = ((112 : Nat) : Int) := by rw [e246]; simp [upS, upR, upM, sX6_init, bnd, sX10_init, sX0_init, sX8_init, sX7_init, sX3_init, sX6_init, sX2_init, sX9_init, sX4_init, sX1_init]; exact f242
  have f248 : s245 0 7 = ((113 : Nat) : Int) := by rw [e246]; simp [upS, upR, upM, sX6_init, bnd, sX10_init, sX0_init, sX8_init, sX7_init, sX3_init, sX6_init, sX2_init, sX9_init, sX4_init, sX1_init]; exact f243
  refine r_dup (np := 164) G dX11_init_163 rfl rfl ?_
  obtain ⟨s249, e250, hm⟩ := bnd_t hm
  refine m_icallN (np := 167) (N2 := 226) G hM hz hE hA hl.1 (iX6_init l E 217 218 s245 s249 e250.symm (by omega) (by decide +kernel) (shpIs_at rfl)) myX6_init lkX11_79 ⟨(Nat.le_of_ble_eq_true rfl), (Nat.le_of_ble_eq_true rfl)⟩ ⟨(Nat.le_of_ble_eq_true rfl), (Nat.le_of_ble_eq_true rfl)⟩ (Nat.le_of_ble_eq_true rfl) dX11_init_164 rfl (fun H locs hM hz => ?_)
  have f251 : s249 0 6 = ((112 : Nat) : Int) := by rw [e250]; simp [upS, upR, upM, sX6_init, bnd, sX10_init, sX0_init, sX8_init, sX7_init, sX3_init, sX6_init, sX2_init, sX9_init, sX4_init, sX1_init]; exact f247
  have f252 : s249 0 7 = ((113 : Nat) : Int) := by rw [e250]; simp [upS, upR, upM, sX6_init, bnd, sX10_init, sX0_init, sX8_init, sX7_init, sX3_init, sX6_init, sX2_init, sX9_init, sX4_init, sX1_init]; exact f248
  obtain ⟨s253, e254, hm⟩ := bnd_t hm
  refine r_aastore (np := 168) (t := 4) (k := 4) G hM (by omega) (by omega) (by omega) ⟨by decide +kernel, by rw [(wIk 4 rfl)]; decide, by rw [(wIk 4 rfl)]; decide +kernel⟩ (by rw [(wIk 4 rfl)]; rfl) (by decide) rfl (show vwCl[5]? = some (RX6, TX6, 4) from rfl) (by decide) (by decide +kernel) s253 e254 dX11_init_167 rfl (fun H locs hM hz1 => ?_)
  have hz := hz1.trans hz
  have f255 : s253 0 6 = ((112 : Nat) : Int) := by rw [e254]; simp [upS, upR, upM, sX6_init, bnd, sX10_init, sX0_init, sX8_init, sX7_init, sX3_init, sX6_init, sX2_init, sX9_init, sX4_init, sX1_init]; exact f251
  have f256 : s253 0 7 = ((113 : Nat) : Int) := by rw [e254]; simp [upS, upR, upM, sX6_init, bnd, sX10_init, sX0_init, sX8_init, sX7_init, sX3_init, sX6_init, sX2_init, sX9_init, sX4_init, sX1_init]; exact f252
  refine r_iinc (np := 171) G hl 0 rfl (y := 5) (by decide) [(1, vI 5), (0, .ref (eA E 0))] dX11_init_168 rfl (by decide) rfl (fun ls hl => ?_)
  refine r_goto (np := 149) G dX11_init_171 (by decide) ?_
  refine r_iload_n (np := 150) G hl 0 rfl dX11_init_149 rfl rfl ?_
  refine r_bipush (np := 152) G 8 dX11_init_150 (by decide) rfl ?_
  refine r_icmp_ge (np := 155) (tgt := 174) G (wIk 5 rfl) (wIk 8 rfl) dX11_init_152 (by decide) rfl (fun h257 => absurd h257 (by decide)) (fun _ => ?_)
  refine r_aload_n (np := 156) G hl 1 rfl dX11_init_155 rfl rfl ?_
  refine m_get (np := 159) (t := 2) G hM (by omega) hc0 fdX11_7 lkX11_49 dX11_init_156 rfl ?_
  rw [f256, show mV E 2 ((113 : Nat) : Int) = .ref (eA E 113) from (show va_rf (mRf E ((113 : Nat) : Int)) = .ref (eA E 113) from rf_ne (r := 113) ⟨by omega, (Int.toNat_natCast _).symm⟩)]
  refine r_iload_n (np := 160) G hl 0 rfl dX11_init_159 rfl rfl ?_
  obtain ⟨s258, e259, hm⟩ := bnd_t hm
  refine r_newO (np := 163) G hM hz hE hA nwX6 (by decide +kernel) clX11_init_47 isX6 itX6 (Nat.le_of_ble_eq_true rfl) (Nat.le_of_ble_eq_true rfl) s258 e259 dX11_init_160 rfl (fun H hM hz => ?_)
  have f260 : s258 0 6 = ((112 : Nat) : Int) := by rw [e259]; simp [upS, upR, upM, sX6_init, bnd, sX10_init, sX0_init, sX8_init, sX7_init, sX3_init, sX6_init, sX2_init, sX9_init, sX4_init, sX1_init]; exact f255
  have f261 : s258 0 7 = ((113 : Nat) : Int) := by rw [e259]; simp [upS, upR, upM, sX6_init, bnd, sX10_init, sX0_init, sX8_init, sX7_init, sX3_init, sX6_init, sX2_init, sX9_init, sX4_init, sX1_init]; exact f256
  refine r_dup (np := 164) G dX11_init_163 rfl rfl ?_
  obtain ⟨s262, e263, hm⟩ := bnd_t hm
  refine m_icallN (np := 167) (N2 := 235) G hM hz hE hA hl.1 (iX6_init l E 226 227 s258 s262 e263.symm (by omega) (by decide +kernel) (shpIs_at rfl)) myX6_init lkX11_79 ⟨(Nat.le_of_ble_eq_true rfl), (Nat.le_of_ble_eq_true rfl)⟩ ⟨(Nat.le_of_ble_eq_true rfl), (Nat.le_of_ble_eq_true rfl)⟩ (Nat.le_of_ble_eq_true rfl) dX11_init_164 rfl (fun H locs hM hz => ?_)
  have f264 : s262 0 6 = ((112 : Nat) : Int) := by rw [e263]; simp [upS, upR, upM, sX6_init, bnd, sX10_init, sX0_init, sX8_init, sX7_init, sX3_init, sX6_init, sX2_init, sX9_init, sX4_init, sX1_init]; exact f260
  have f265 : s262 0 7 = ((113 : Nat) : Int) := by rw [e263]; simp [upS, upR, upM, sX6_init, bnd, sX10_init, sX0_init, sX8_init, sX7_init, sX3_init, sX6_init, sX2_init, sX9_init, sX4_init, sX1_init]; exact f261
  obtain ⟨s266, e267, hm⟩ := bnd_t hm
  refine r_aastore (np := 168) (t := 4) (k := 5) G hM (by omega) (by omega) (by omega) ⟨by decide +kernel, by rw [(wIk 5 rfl)]; decide, by rw [(wIk 5 rfl)]; decide +kernel⟩ (by rw [(wIk 5 rfl)]; rfl) (by decide) rfl (show vwCl[5]? = some (RX6, TX6, 4) from rfl) (by decide) (by decide +kernel) s266 e267 dX11_init_167 rfl (fun H locs hM hz1 => ?_)
  have hz := hz1.trans hz
  have f268 : s266 0 6 = ((112 : Nat) : Int) := by rw [e267]; simp [upS, upR, upM, sX6_init, bnd, sX10_init, sX0_init, sX8_init, sX7_init, sX3_init, sX6_init, sX2_init, sX9_init, sX4_init, sX1_init]; exact f264
  have f269 : s266 0 7 = ((113 : Nat) : Int) := by rw [e267]; simp [upS, upR, upM, sX6_init, bnd, sX10_init, sX0_init, sX8_init, sX7_init, sX3_init, sX6_init, sX2_init, sX9_init, sX4_init, sX1_init]; exact f265
  refine r_iinc (np := 171) G hl 0 rfl (y := 6) (by decide) [(1, vI 6), (0, .ref (eA E 0))] dX11_init_168 rfl (by decide) rfl (fun ls hl => ?_)
  refine r_goto (np := 149) G dX11_init_171 (by decide) ?_
  refine r_iload_n (np := 150) G hl 0 rfl dX11_init_149 rfl rfl ?_
  refine r_bipush (np := 152) G 8 dX11_init_150 (by decide) rfl ?_
  refine r_icmp_ge (np := 155) (tgt := 174) G (wIk 6 rfl) (wIk 8 rfl) dX11_init_152 (by decide) rfl (fun h270 => absurd h270 (by decide)) (fun _ => ?_)
  refine r_aload_n (np := 156) G hl 1 rfl dX11_init_155 rfl rfl ?_
  refine m_get (np := 159) (t := 2) G hM (by omega) hc0 fdX11_7 lkX11_49 dX11_init_156 rfl ?_
  rw [f269, show mV E 2 ((113 : Nat) : Int) = .ref (eA E 113) from (show va_rf (mRf E ((113 : Nat) : Int)) = .ref (eA E 113) from rf_ne (r := 113) ⟨by omega, (Int.toNat_natCast _).symm⟩)]
  refine r_iload_n (np := 160) G hl 0 rfl dX11_init_159 rfl rfl ?_
  obtain ⟨s271, e272, hm⟩ := bnd_t hm
  refine r_newO (np := 163) G hM hz hE hA nwX6 (by decide +kernel) clX11_init_47 isX6 itX6 (Nat.le_of_ble_eq_true rfl) (Nat.le_of_ble_eq_true rfl) s271 e272 dX11_init_160 rfl (fun H hM hz => ?_)
  have f273 : s271 0 6 = ((112 : Nat) : Int) := by rw [e272]; simp [upS, upR, upM, sX6_init, bnd, sX10_init, sX0_init, sX8_init, sX7_init, sX3_init, sX6_init, sX2_init, sX9_init, sX4_init, sX1_init]; exact f268
  have f274 : s271 0 7 = ((113 : Nat) : Int) := by rw [e272]; simp [upS, upR, upM, sX6_init, bnd, sX10_init, sX0_init, sX8_init, sX7_init, sX3_init, sX6_init, sX2_init, sX9_init, sX4_init, sX1_init]; exact f269
  refine r_dup (np := 164) G dX11_init_163 rfl rfl ?_
  obtain ⟨s275, e276, hm⟩ := bnd_t hm
  refine m_icallN (np := 167) (N2 := 244) G hM hz hE hA hl.1 (iX6_init l E 235 236 s271 s275 e276.symm (by omega) (by decide +kernel) (shpIs_at rfl)) myX6_init lkX11_79 ⟨(Nat.le_of_ble_eq_true rfl), (Nat.le_of_ble_eq_true rfl)⟩ ⟨(Nat.le_of_ble_eq_true rfl), (Nat.le_of_ble_eq_true rfl)⟩ (Nat.le_of_ble_eq_true rfl) dX11_init_164 rfl (fun H locs hM hz => ?_)
  have f277 : s275 0 6 = ((112 : Nat) : Int) := by rw [e276]; simp [upS, upR, upM, sX6_init, bnd, sX10_init, sX0_init, sX8_init, sX7_init, sX3_init, sX6_init, sX2_init, sX9_init, sX4_init, sX1_init]; exact f273
  have f278 : s275 0 7 = ((113 : Nat) : Int) := by rw [e276]; simp [upS, upR, upM, sX6_init, bnd, sX10_init, sX0_init, sX8_init, sX7_init, sX3_init, sX6_init, sX2_init, sX9_init, sX4_init, sX1_init]; exact f274
  obtain ⟨s279, e280, hm⟩ := bnd_t hm
  refine r_aastore (np := 168) (t := 4) (k := 6) G hM (by omega) (by omega) (by omega) ⟨by decide +kernel, by rw [(wIk 6 rfl)]; decide, by rw [(wIk 6 rfl)]; decide +kernel⟩ (by rw [(wIk 6 rfl)]; rfl) (by decide) rfl (show vwCl[5]? = some (RX6, TX6, 4) from rfl) (by decide) (by decide +kernel) s279 e280 dX11_init_167 rfl (fun H locs hM hz1 => ?_)
  have hz := hz1.trans hz
  have f281 : s279 0 6 = ((112 : Nat) : Int) := by rw [e280]; simp [upS, upR, upM, sX6_init, bnd, sX10_init, sX0_init, sX8_init, sX7_init, sX3_init, sX6_init, sX2_init, sX9_init, sX4_init, sX1_init]; exact f277
  have f282 : s279 0 7 = ((113 : Nat) : Int) := by rw [e280]; simp [upS, upR, upM, sX6_init, bnd, sX10_init, sX0_init, sX8_init, sX7_init, sX3_init, sX6_init, sX2_init, sX9_init, sX4_init, sX1_init]; exact f278
  refine r_iinc (np := 171) G hl 0 rfl (y := 7) (by decide) [(1, vI 7), (0, .ref (eA E 0))] dX11_init_168 rfl (by decide) rfl (fun ls hl => ?_)
  refine r_goto (np := 149) G dX11_init_171 (by decide) ?_
  refine r_iload_n (np := 150) G hl 0 rfl dX11_init_149 rfl rfl ?_
  refine r_bipush (np := 152) G 8 dX11_init_150 (by decide) rfl ?_
  refine r_icmp_ge (np := 155) (tgt := 174) G (wIk 7 rfl) (wIk 8 rfl) dX11_init_152 (by decide) rfl (fun h283 => absurd h283 (by decide)) (fun _ => ?_)
  refine r_aload_n (np := 156) G hl 1 rfl dX11_init_155 rfl rfl ?_
  refine m_get (np := 159) (t := 2) G hM (by omega) hc0 fdX11_7 lkX11_49 dX11_init_156 rfl ?_
  rw [f282, show mV E 2 ((113 : Nat) : Int) = .ref (eA E 113) from (show va_rf (mRf E ((113 : Nat) : Int)) = .ref (eA E 113) from rf_ne (r := 113) ⟨by omega, (Int.toNat_natCast _).symm⟩)]
  refine r_iload_n (np := 160) G hl 0 rfl dX11_init_159 rfl rfl ?_
  obtain ⟨s284, e285, hm⟩ := bnd_t hm
  refine r_newO (np := 163) G hM hz hE hA nwX6 (by decide +kernel) clX11_init_47 isX6 itX6 (Nat.le_of_ble_eq_true rfl) (Nat.le_of_ble_eq_true rfl) s284 e285 dX11_init_160 rfl (fun H hM hz => ?_)
  have f286 : s284 0 6 = ((112 : Nat) : Int) := by rw [e285]; simp [upS, upR, upM, sX6_init, bnd, sX10_init, sX0_init, sX8_init, sX7_init, sX3_init, sX6_init, sX2_init, sX9_init, sX4_init, sX1_init]; exact f281
  have f287 : s284 0 7 = ((113 : Nat) : Int) := by rw [e285]; simp [upS, upR, upM, sX6_init, bnd, sX10_init, sX0_init, sX8_init, sX7_init, sX3_init, sX6_init, sX2_init, sX9_init, sX4_init, sX1_init]; exact f282
  refine r_dup (np := 164) G dX11_init_163 rfl rfl ?_
  obtain ⟨s288, e289, hm⟩ := bnd_t hm
  refine m_icallN (np := 167) (N2 := 253) G hM hz hE hA hl.1 (iX6_init l E 244 245 s284 s288 e289.symm (by omega) (by decide +kernel) (shpIs_at rfl)) myX6_init lkX11_79 ⟨(Nat.le_of_ble_eq_true rfl), (Nat.le_of_ble_eq_true rfl)⟩ ⟨(Nat.le_of_ble_eq_true rfl), (Nat.le_of_ble_eq_true rfl)⟩ (Nat.le_of_ble_eq_true rfl) dX11_init_164 rfl (fun H locs hM hz => ?_)
  have f290 : s288 0 6 = ((112 : Nat) : Int) := by rw [e289]; simp [upS, upR, upM, sX6_init, bnd, sX10_init, sX0_init, sX8_init, sX7_init, sX3_init, sX6_init, sX2_init, sX9_init, sX4_init, sX1_init]; exact f286
  have f291 : s288 0 7 = ((113 : Nat) : Int) := by rw [e289]; simp [upS, upR, upM, sX6_init, bnd, sX10_init, sX0_init, sX8_init, sX7_init, sX3_init, sX6_init, sX2_init, sX9_init, sX4_init, sX1_init]; exact f287
  obtain ⟨s292, e293, hm⟩ := bnd_t hm
  refine r_aastore (np := 168) (t := 4) (k := 7) G hM (by omega) (by omega) (by omega) ⟨by decide +kernel, by rw [(wIk 7 rfl)]; decide, by rw [(wIk 7 rfl)]; decide +kernel⟩ (by rw [(wIk 7 rfl)]; rfl) (by decide) rfl (show vwCl[5]? = some (RX6, TX6, 4) from rfl) (by decide) (by decide +kernel) s292 e293 dX11_init_167 rfl (fun H locs hM hz1 => ?_)
  have hz := hz1.trans hz
  have f294 : s292 0 6 = ((112 : Nat) : Int) := by rw [e293]; simp [upS, upR, upM, sX6_init, bnd, sX10_init, sX0_init, sX8_init, sX7_init, sX3_init, sX6_init, sX2_init, sX9_init, sX4_init, sX1_init]; exact f290
  have f295 : s292 0 7 = ((113 : Nat) : Int) := by rw [e293]; simp [upS, upR, upM, sX6_init, bnd, sX10_init, sX0_init, sX8_init, sX7_init, sX3_init, sX6_init, sX2_init, sX9_init, sX4_init, sX1_init]; exact f291
  refine r_iinc (np := 171) G hl 0 rfl (y := 8) (by decide) [(1, vI 8), (0, .ref (eA E 0))] dX11_init_168 rfl (by decide) rfl (fun ls hl => ?_)
  refine r_goto (np := 149) G dX11_init_171 (by decide) ?_
  refine r_iload_n (np := 150) G hl 0 rfl dX11_init_149 rfl rfl ?_
  refine r_bipush (np := 152) G 8 dX11_init_150 (by decide) rfl ?_
  refine r_icmp_ge (np := 155) (tgt := 174) G (wIk 8 rfl) (wIk 8 rfl) dX11_init_152 (by decide) rfl (fun _ => ?_) (fun h296 => absurd (by decide) h296)
  subst hm
  exact r_ivret G hr hk hM hz rfl dX11_init_174
