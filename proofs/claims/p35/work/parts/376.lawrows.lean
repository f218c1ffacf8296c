/-! THE CLAIM OUT OF ONE WALK OF THE LAW'S BODY. Your part is whole_start (and what it stands on); all else here is the same for every law, but numbers. -/
def R_law : String := "MiddleAlgebrasLaw"
def lw_P (b : Addr) (xs : List Int32) (args : Array Value) (s : State) : Prop := args = #[.ref b] ∧ s.IntsAt b xs ∧ xs.length ≤ 260 ∧ (Jvm.Cond.and given_1 narrow_1).before args s = true
def lw_Q (_ : Array Value) (s : State) (o : Outcome) (t : State) : Prop := o = .returned (some (.int 1)) ∧ Framed s o t [] 600000 7302250
def lw_Z (below : List Frame) (a : Array Value) (s : State) : State → Prop := fun t => ∃ o, t.status = .running ∧ Ended t below o ∧ lw_Q a s o t
/-- the law's own end, with 1 on the stack, nothing written that was there before, its room as the claim has it -/
theorem lw_ret {p : Program} {l : Launch} {e : Env} {s : State} {m : MethodId} {below : List Frame} {meth : Method} {c : Code} {b : Nat} (hx : p.tables.exec = Jvm.exec) (hb : c.code = code) (hr : meth.sig.returnType = ret) (hlocks : meth.locks = false) {pc : Nat} {H : Heap} {ls : Array Slot} (hdg : decode code pc = .ok (.ireturn, 1)) : W p l e room_1 s m #[Value.ref b] below meth c H [] 600000 7302250 (lw_Z below #[Value.ref b] s) (F0 m pc ls [.int 1]) := by
  intro T hT X
  obtain ⟨fs, hret, hrun, hended, hW, hframe⟩ := X.leave (v := some (.int 1)) (hlocks := hlocks) (fun h => by rw [hr] at h; cases h)
  have hmeth' : T.vm.method? m = some meth := X.method'
  refine ⟨T.setFrames fs, ?_, .returned (some (.int 1)), hrun, hended, rfl, ⟨_, rfl⟩, hW, hframe⟩
  jvm_step X.here [X.here.top, hx, hb, hdg, hmeth', hr, ret, narrow_b1]
  (try refine ⟨rfl, ?_⟩); (try refine ⟨rfl, ?_⟩)
  first | (intro acts; rw [hret _ acts rfl rfl rfl]) | rw [hret _ _ rfl rfl rfl]
  exact Steps.refl _
/-- what holds at the law's entry: the machine, the code, the tables' words (any of lw_tbl by 'hts w (by decide +kernel)'), the script of L ints xs at the cell b, what the Statement gives of the start (any of its parts by flat_of_before) -/
def lw_At (p : Program) (s : State) (m : MethodId) (meth : Method) (c : Code) (b L : Nat) (xs : Nat → Int32) : Prop :=
  p.tables.exec = Jvm.exec ∧ c.code = code ∧ meth.sig.returnType = ret ∧ c.maxLocals = 12 ∧ s.vm.findClass R_law = some m.cls ∧ (∀ w ∈ lw_tbl, w.before #[Value.ref b] s = true) ∧ va_X b L xs s s.heap ∧ b < s.heap.size ∧ meth.locks = false ∧ (Jvm.Cond.and given_1 narrow_1).before #[Value.ref b] s = true
/-! THE LAW'S TAIL, behind the text: laid by tail.py -/
abbrev mGoT (l : Launch) (p : Program) (e : Env) (s : State) (m : MethodId) (b : Nat) (below : List Frame) (meth : Method) (c : Code) (H : Heap) (locs : List Loc) (g : JFrame) : Prop := W p l e room_1 s m #[Value.ref b] below meth c H locs 2000 900000 (lw_Z below #[Value.ref b] s) g
theorem r_lawEnd {p : Program} {l : Launch} {e : Env} {s : State} {m : MethodId} {below : List Frame} {meth : Method} {c : Code} {H : Heap} {locs : List Loc} {cells slots nL : Nat} {ls : Array Slot} {own : String} {E : mE} {σ : mSt} {N : Nat} {b : Nat} (G : CallFix p m c code nL s #[Value.ref b] mTs own) (hr : meth.sig.returnType = ret) (hlk : meth.locks = false) (hM : mM (fun q => s.heap.size ≤ q) E N σ s H locs) {pc : Nat} {x : Int} (hx : x = 1) (d : decode code pc = .ok (.ireturn, 1)) (h1 : cells ≤ 600000) (h2 : slots ≤ 7302250) : W p l e room_1 s m #[Value.ref b] below meth c H locs cells slots (lw_Z below #[Value.ref b] s) (F0 m pc ls [vI x]) := by
  subst hx
  exact va_forget hM.2.2.2.2.2.2.2 (W.widen h1 h2 (lw_ret G.1 G.2.1 hr hlk d))
theorem dL_law_0 : decode code 0 = .ok (.new 26, 3) := by decide +kernel
theorem dL_law_3 : decode code 3 = .ok (.dup, 1) := by decide +kernel
theorem dL_law_4 : decode code 4 = .ok (.invokespecial 43, 3) := by decide +kernel
theorem dL_law_7 : decode code 7 = .ok (.astore_n 1, 1) := by decide +kernel
theorem dL_law_8 : decode code 8 = .ok (.bipush 6, 2) := by decide +kernel
theorem dL_law_10 : decode code 10 = .ok (.newarray .int, 2) := by decide +kernel
theorem dL_law_12 : decode code 12 = .ok (.dup, 1) := by decide +kernel
theorem dL_law_13 : decode code 13 = .ok (.iconst 0, 1) := by decide +kernel
theorem dL_law_14 : decode code 14 = .ok (.bipush 7, 2) := by decide +kernel
theorem dL_law_16 : decode code 16 = .ok (.iastore, 1) := by decide +kernel
theorem dL_law_17 : decode code 17 = .ok (.dup, 1) := by decide +kernel
theorem dL_law_18 : decode code 18 = .ok (.iconst 1, 1) := by decide +kernel
theorem dL_law_19 : decode code 19 = .ok (.bipush 13, 2) := by decide +kernel
theorem dL_law_21 : decode code 21 = .ok (.iastore, 1) := by decide +kernel
theorem dL_law_22 : decode code 22 = .ok (.dup, 1) := by decide +kernel
theorem dL_law_23 : decode code 23 = .ok (.iconst 2, 1) := by decide +kernel
theorem dL_law_24 : decode code 24 = .ok (.bipush 19, 2) := by decide +kernel
theorem dL_law_26 : decode code 26 = .ok (.iastore, 1) := by decide +kernel
theorem dL_law_27 : decode code 27 = .ok (.dup, 1) := by decide +kernel
theorem dL_law_28 : decode code 28 = .ok (.iconst 3, 1) := by decide +kernel
theorem dL_law_29 : decode code 29 = .ok (.bipush 31, 2) := by decide +kernel
theorem dL_law_31 : decode code 31 = .ok (.iastore, 1) := by decide +kernel
theorem dL_law_32 : decode code 32 = .ok (.dup, 1) := by decide +kernel
theorem dL_law_33 : decode code 33 = .ok (.iconst 4, 1) := by decide +kernel
theorem dL_law_34 : decode code 34 = .ok (.bipush 37, 2) := by decide +kernel
theorem dL_law_36 : decode code 36 = .ok (.iastore, 1) := by decide +kernel
theorem dL_law_37 : decode code 37 = .ok (.dup, 1) := by decide +kernel
theorem dL_law_38 : decode code 38 = .ok (.iconst 5, 1) := by decide +kernel
theorem dL_law_39 : decode code 39 = .ok (.bipush 43, 2) := by decide +kernel
theorem dL_law_41 : decode code 41 = .ok (.iastore, 1) := by decide +kernel
theorem dL_law_42 : decode code 42 = .ok (.astore_n 2, 1) := by decide +kernel
theorem dL_law_43 : decode code 43 = .ok (.ldc 44, 2) := by decide +kernel
theorem dL_law_45 : decode code 45 = .ok (.astore_n 3, 1) := by decide +kernel
theorem dL_law_46 : decode code 46 = .ok (.iconst 3, 1) := by decide +kernel
theorem dL_law_47 : decode code 47 = .ok (.newarray .int, 2) := by decide +kernel
theorem dL_law_49 : decode code 49 = .ok (.astore 4, 2) := by decide +kernel
theorem dL_law_51 : decode code 51 = .ok (.iconst 3, 1) := by decide +kernel
theorem dL_law_52 : decode code 52 = .ok (.newarray .int, 2) := by decide +kernel
theorem dL_law_54 : decode code 54 = .ok (.astore 5, 2) := by decide +kernel
theorem dL_law_56 : decode code 56 = .ok (.iconst 0, 1) := by decide +kernel
theorem dL_law_57 : decode code 57 = .ok (.istore 6, 2) := by decide +kernel
theorem dL_law_59 : decode code 59 = .ok (.iload 6, 2) := by decide +kernel
theorem dL_law_61 : decode code 61 = .ok (.iconst 3, 1) := by decide +kernel
theorem dL_law_62 : decode code 62 = .ok (.if_icmp .ge 101, 3) := by decide +kernel
theorem dL_law_65 : decode code 65 = .ok (.aload 4, 2) := by decide +kernel
theorem dL_law_67 : decode code 67 = .ok (.iload 6, 2) := by decide +kernel
theorem dL_law_69 : decode code 69 = .ok (.aload_n 0, 1) := by decide +kernel
theorem dL_law_70 : decode code 70 = .ok (.iconst 4, 1) := by decide +kernel
theorem dL_law_71 : decode code 71 = .ok (.iload 6, 2) := by decide +kernel
theorem dL_law_73 : decode code 73 = .ok (.imul, 1) := by decide +kernel
theorem dL_law_74 : decode code 74 = .ok (.bipush 60, 2) := by decide +kernel
theorem dL_law_76 : decode code 76 = .ok (.invokestatic 46, 3) := by decide +kernel
theorem dL_law_79 : decode code 79 = .ok (.iastore, 1) := by decide +kernel
theorem dL_law_80 : decode code 80 = .ok (.aload 5, 2) := by decide +kernel
theorem dL_law_82 : decode code 82 = .ok (.iload 6, 2) := by decide +kernel
theorem dL_law_84 : decode code 84 = .ok (.aload_n 0, 1) := by decide +kernel
theorem dL_law_85 : decode code 85 = .ok (.iconst 4, 1) := by decide +kernel
theorem dL_law_86 : decode code 86 = .ok (.iload 6, 2) := by decide +kernel
theorem dL_law_88 : decode code 88 = .ok (.imul, 1) := by decide +kernel
theorem dL_law_89 : decode code 89 = .ok (.iconst 2, 1) := by decide +kernel
theorem dL_law_90 : decode code 90 = .ok (.iadd, 1) := by decide +kernel
theorem dL_law_91 : decode code 91 = .ok (.bipush 60, 2) := by decide +kernel
theorem dL_law_93 : decode code 93 = .ok (.invokestatic 46, 3) := by decide +kernel
theorem dL_law_96 : decode code 96 = .ok (.iastore, 1) := by decide +kernel
theorem dL_law_97 : decode code 97 = .ok (.new 49, 3) := by decide +kernel
theorem dL_law_100 : decode code 100 = .ok (.dup, 1) := by decide +kernel
theorem dL_law_101 : decode code 101 = .ok (.invokespecial 51, 3) := by decide +kernel
theorem dL_law_104 : decode code 104 = .ok (.aload_n 3, 1) := by decide +kernel
theorem dL_law_105 : decode code 105 = .ok (.invokevirtual 52, 3) := by decide +kernel
theorem dL_law_108 : decode code 108 = .ok (.ldc 56, 2) := by decide +kernel
theorem dL_law_110 : decode code 110 = .ok (.invokevirtual 52, 3) := by decide +kernel
theorem dL_law_113 : decode code 113 = .ok (.bipush 97, 2) := by decide +kernel
theorem dL_law_115 : decode code 115 = .ok (.iload 6, 2) := by decide +kernel
theorem dL_law_117 : decode code 117 = .ok (.iadd, 1) := by decide +kernel
theorem dL_law_118 : decode code 118 = .ok (.i2c, 1) := by decide +kernel
theorem dL_law_119 : decode code 119 = .ok (.invokevirtual 58, 3) := by decide +kernel
theorem dL_law_122 : decode code 122 = .ok (.ldc 61, 2) := by decide +kernel
theorem dL_law_124 : decode code 124 = .ok (.invokevirtual 52, 3) := by decide +kernel
theorem dL_law_127 : decode code 127 = .ok (.aload 4, 2) := by decide +kernel
theorem dL_law_129 : decode code 129 = .ok (.iload 6, 2) := by decide +kernel
theorem dL_law_131 : decode code 131 = .ok (.iaload, 1) := by decide +kernel
theorem dL_law_132 : decode code 132 = .ok (.invokevirtual 63, 3) := by decide +kernel
theorem dL_law_135 : decode code 135 = .ok (.ldc 61, 2) := by decide +kernel
theorem dL_law_137 : decode code 137 = .ok (.invokevirtual 52, 3) := by decide +kernel
theorem dL_law_140 : decode code 140 = .ok (.aload 5, 2) := by decide +kernel
theorem dL_law_142 : decode code 142 = .ok (.iload 6, 2) := by decide +kernel
theorem dL_law_144 : decode code 144 = .ok (.iaload, 1) := by decide +kernel
theorem dL_law_145 : decode code 145 = .ok (.invokevirtual 63, 3) := by decide +kernel
theorem dL_law_148 : decode code 148 = .ok (.ldc 66, 2) := by decide +kernel
theorem dL_law_150 : decode code 150 = .ok (.invokevirtual 52, 3) := by decide +kernel
theorem dL_law_153 : decode code 153 = .ok (.invokevirtual 68, 3) := by decide +kernel
theorem dL_law_156 : decode code 156 = .ok (.astore_n 3, 1) := by decide +kernel
theorem dL_law_157 : decode code 157 = .ok (.iinc 6 1, 3) := by decide +kernel
theorem dL_law_160 : decode code 160 = .ok (.goto (-101), 3) := by decide +kernel
theorem dL_law_163 : decode code 163 = .ok (.iconst 0, 1) := by decide +kernel
theorem dL_law_164 : decode code 164 = .ok (.istore 6, 2) := by decide +kernel
theorem dL_law_166 : decode code 166 = .ok (.iload 6, 2) := by decide +kernel
theorem dL_law_168 : decode code 168 = .ok (.iconst 2, 1) := by decide +kernel
theorem dL_law_169 : decode code 169 = .ok (.if_icmp .ge 109, 3) := by decide +kernel
theorem dL_law_172 : decode code 172 = .ok (.new 49, 3) := by decide +kernel
theorem dL_law_175 : decode code 175 = .ok (.dup, 1) := by decide +kernel
theorem dL_law_176 : decode code 176 = .ok (.invokespecial 51, 3) := by decide +kernel
theorem dL_law_179 : decode code 179 = .ok (.aload_n 3, 1) := by decide +kernel
theorem dL_law_180 : decode code 180 = .ok (.invokevirtual 52, 3) := by decide +kernel
theorem dL_law_183 : decode code 183 = .ok (.ldc 72, 2) := by decide +kernel
theorem dL_law_185 : decode code 185 = .ok (.invokevirtual 52, 3) := by decide +kernel
theorem dL_law_188 : decode code 188 = .ok (.bipush 97, 2) := by decide +kernel
theorem dL_law_190 : decode code 190 = .ok (.iload 6, 2) := by decide +kernel
theorem dL_law_192 : decode code 192 = .ok (.iadd, 1) := by decide +kernel
theorem dL_law_193 : decode code 193 = .ok (.i2c, 1) := by decide +kernel
theorem dL_law_194 : decode code 194 = .ok (.invokevirtual 58, 3) := by decide +kernel
theorem dL_law_197 : decode code 197 = .ok (.ldc 61, 2) := by decide +kernel
theorem dL_law_199 : decode code 199 = .ok (.invokevirtual 52, 3) := by decide +kernel
theorem dL_law_202 : decode code 202 = .ok (.aload_n 2, 1) := by decide +kernel
theorem dL_law_203 : decode code 203 = .ok (.aload_n 0, 1) := by decide +kernel
theorem dL_law_204 : decode code 204 = .ok (.bipush 20, 2) := by decide +kernel
theorem dL_law_206 : decode code 206 = .ok (.iload 6, 2) := by decide +kernel
theorem dL_law_208 : decode code 208 = .ok (.iadd, 1) := by decide +kernel
theorem dL_law_209 : decode code 209 = .ok (.bipush 6, 2) := by decide +kernel
theorem dL_law_211 : decode code 211 = .ok (.invokestatic 35, 3) := by decide +kernel
theorem dL_law_214 : decode code 214 = .ok (.iaload, 1) := by decide +kernel
theorem dL_law_215 : decode code 215 = .ok (.invokevirtual 63, 3) := by decide +kernel
theorem dL_law_218 : decode code 218 = .ok (.ldc 61, 2) := by decide +kernel
theorem dL_law_220 : decode code 220 = .ok (.invokevirtual 52, 3) := by decide +kernel
theorem dL_law_223 : decode code 223 = .ok (.aload_n 0, 1) := by decide +kernel
theorem dL_law_224 : decode code 224 = .ok (.bipush 22, 2) := by decide +kernel
theorem dL_law_226 : decode code 226 = .ok (.iload 6, 2) := by decide +kernel
theorem dL_law_228 : decode code 228 = .ok (.iadd, 1) := by decide +kernel
theorem dL_law_229 : decode code 229 = .ok (.iconst 2, 1) := by decide +kernel
theorem dL_law_230 : decode code 230 = .ok (.invokestatic 35, 3) := by decide +kernel
theorem dL_law_233 : decode code 233 = .ok (.ifCond .ne 8, 3) := by decide +kernel
theorem dL_law_236 : decode code 236 = .ok (.ldc 74, 2) := by decide +kernel
theorem dL_law_238 : decode code 238 = .ok (.goto 5, 3) := by decide +kernel
theorem dL_law_241 : decode code 241 = .ok (.ldc 44, 2) := by decide +kernel
theorem dL_law_243 : decode code 243 = .ok (.invokevirtual 52, 3) := by decide +kernel
theorem dL_law_246 : decode code 246 = .ok (.iconst 1, 1) := by decide +kernel
theorem dL_law_247 : decode code 247 = .ok (.aload_n 0, 1) := by decide +kernel
theorem dL_law_248 : decode code 248 = .ok (.bipush 24, 2) := by decide +kernel
theorem dL_law_250 : decode code 250 = .ok (.iload 6, 2) := by decide +kernel
theorem dL_law_252 : decode code 252 = .ok (.iadd, 1) := by decide +kernel
theorem dL_law_253 : decode code 253 = .ok (.sipush 999, 3) := by decide +kernel
theorem dL_law_256 : decode code 256 = .ok (.invokestatic 35, 3) := by decide +kernel
theorem dL_law_259 : decode code 259 = .ok (.iadd, 1) := by decide +kernel
theorem dL_law_260 : decode code 260 = .ok (.invokevirtual 63, 3) := by decide +kernel
theorem dL_law_263 : decode code 263 = .ok (.ldc 66, 2) := by decide +kernel
theorem dL_law_265 : decode code 265 = .ok (.invokevirtual 52, 3) := by decide +kernel
theorem dL_law_268 : decode code 268 = .ok (.invokevirtual 68, 3) := by decide +kernel
theorem dL_law_271 : decode code 271 = .ok (.astore_n 3, 1) := by decide +kernel
theorem dL_law_272 : decode code 272 = .ok (.iinc 6 1, 3) := by decide +kernel
theorem dL_law_275 : decode code 275 = .ok (.goto (-109), 3) := by decide +kernel
theorem dL_law_278 : decode code 278 = .ok (.iconst 5, 1) := by decide +kernel
theorem dL_law_279 : decode code 279 = .ok (.anewarray 16, 3) := by decide +kernel
theorem dL_law_282 : decode code 282 = .ok (.dup, 1) := by decide +kernel
theorem dL_law_283 : decode code 283 = .ok (.iconst 0, 1) := by decide +kernel
theorem dL_law_284 : decode code 284 = .ok (.ldc 76, 2) := by decide +kernel
theorem dL_law_286 : decode code 286 = .ok (.aastore, 1) := by decide +kernel
theorem dL_law_287 : decode code 287 = .ok (.dup, 1) := by decide +kernel
theorem dL_law_288 : decode code 288 = .ok (.iconst 1, 1) := by decide +kernel
theorem dL_law_289 : decode code 289 = .ok (.ldc 78, 2) := by decide +kernel
theorem dL_law_291 : decode code 291 = .ok (.aastore, 1) := by decide +kernel
theorem dL_law_292 : decode code 292 = .ok (.dup, 1) := by decide +kernel
theorem dL_law_293 : decode code 293 = .ok (.iconst 2, 1) := by decide +kernel
theorem dL_law_294 : decode code 294 = .ok (.ldc 80, 2) := by decide +kernel
theorem dL_law_296 : decode code 296 = .ok (.aastore, 1) := by decide +kernel
theorem dL_law_297 : decode code 297 = .ok (.dup, 1) := by decide +kernel
theorem dL_law_298 : decode code 298 = .ok (.iconst 3, 1) := by decide +kernel
theorem dL_law_299 : decode code 299 = .ok (.ldc 82, 2) := by decide +kernel
theorem dL_law_301 : decode code 301 = .ok (.aastore, 1) := by decide +kernel
theorem dL_law_302 : decode code 302 = .ok (.dup, 1) := by decide +kernel
theorem dL_law_303 : decode code 303 = .ok (.iconst 4, 1) := by decide +kernel
theorem dL_law_304 : decode code 304 = .ok (.ldc 84, 2) := by decide +kernel
theorem dL_law_306 : decode code 306 = .ok (.aastore, 1) := by decide +kernel
theorem dL_law_307 : decode code 307 = .ok (.astore 6, 2) := by decide +kernel
theorem dL_law_309 : decode code 309 = .ok (.iconst 5, 1) := by decide +kernel
theorem dL_law_310 : decode code 310 = .ok (.newarray .int, 2) := by decide +kernel
theorem dL_law_312 : decode code 312 = .ok (.astore 7, 2) := by decide +kernel
theorem dL_law_314 : decode code 314 = .ok (.new 49, 3) := by decide +kernel
theorem dL_law_317 : decode code 317 = .ok (.dup, 1) := by decide +kernel
theorem dL_law_318 : decode code 318 = .ok (.invokespecial 51, 3) := by decide +kernel
theorem dL_law_321 : decode code 321 = .ok (.aload_n 3, 1) := by decide +kernel
theorem dL_law_322 : decode code 322 = .ok (.invokevirtual 52, 3) := by decide +kernel
theorem dL_law_325 : decode code 325 = .ok (.ldc 86, 2) := by decide +kernel
theorem dL_law_327 : decode code 327 = .ok (.invokevirtual 52, 3) := by decide +kernel
theorem dL_law_330 : decode code 330 = .ok (.invokevirtual 68, 3) := by decide +kernel
theorem dL_law_333 : decode code 333 = .ok (.astore_n 3, 1) := by decide +kernel
theorem dL_law_334 : decode code 334 = .ok (.iconst 0, 1) := by decide +kernel
theorem dL_law_335 : decode code 335 = .ok (.istore 8, 2) := by decide +kernel
theorem dL_law_337 : decode code 337 = .ok (.iload 8, 2) := by decide +kernel
theorem dL_law_339 : decode code 339 = .ok (.iconst 1, 1) := by decide +kernel
theorem dL_law_340 : decode code 340 = .ok (.aload_n 0, 1) := by decide +kernel
theorem dL_law_341 : decode code 341 = .ok (.bipush 30, 2) := by decide +kernel
theorem dL_law_343 : decode code 343 = .ok (.iconst 4, 1) := by decide +kernel
theorem dL_law_344 : decode code 344 = .ok (.invokestatic 35, 3) := by decide +kernel
theorem dL_law_347 : decode code 347 = .ok (.iadd, 1) := by decide +kernel
theorem dL_law_348 : decode code 348 = .ok (.if_icmp .ge 97, 3) := by decide +kernel
theorem dL_law_351 : decode code 351 = .ok (.aload_n 0, 1) := by decide +kernel
theorem dL_law_352 : decode code 352 = .ok (.bipush 31, 2) := by decide +kernel
theorem dL_law_354 : decode code 354 = .ok (.iload 8, 2) := by decide +kernel
theorem dL_law_356 : decode code 356 = .ok (.iadd, 1) := by decide +kernel
theorem dL_law_357 : decode code 357 = .ok (.iconst 5, 1) := by decide +kernel
theorem dL_law_358 : decode code 358 = .ok (.invokestatic 35, 3) := by decide +kernel
theorem dL_law_361 : decode code 361 = .ok (.istore 9, 2) := by decide +kernel
theorem dL_law_363 : decode code 363 = .ok (.aload_n 0, 1) := by decide +kernel
theorem dL_law_364 : decode code 364 = .ok (.bipush 36, 2) := by decide +kernel
theorem dL_law_366 : decode code 366 = .ok (.iload 8, 2) := by decide +kernel
theorem dL_law_368 : decode code 368 = .ok (.iadd, 1) := by decide +kernel
theorem dL_law_369 : decode code 369 = .ok (.iconst 2, 1) := by decide +kernel
theorem dL_law_370 : decode code 370 = .ok (.invokestatic 35, 3) := by decide +kernel
theorem dL_law_373 : decode code 373 = .ok (.ifCond .ne 7, 3) := by decide +kernel
theorem dL_law_376 : decode code 376 = .ok (.iconst 1, 1) := by decide +kernel
theorem dL_law_377 : decode code 377 = .ok (.goto 4, 3) := by decide +kernel
theorem dL_law_380 : decode code 380 = .ok (.iconst 0, 1) := by decide +kernel
theorem dL_law_381 : decode code 381 = .ok (.istore 10, 2) := by decide +kernel
theorem dL_law_383 : decode code 383 = .ok (.aload 7, 2) := by decide +kernel
theorem dL_law_385 : decode code 385 = .ok (.iload 9, 2) := by decide +kernel
theorem dL_law_387 : decode code 387 = .ok (.dup2, 1) := by decide +kernel
theorem dL_law_388 : decode code 388 = .ok (.iaload, 1) := by decide +kernel
theorem dL_law_389 : decode code 389 = .ok (.iload 10, 2) := by decide +kernel
theorem dL_law_391 : decode code 391 = .ok (.ifCond .eq 7, 3) := by decide +kernel
theorem dL_law_394 : decode code 394 = .ok (.iconst 1, 1) := by decide +kernel
theorem dL_law_395 : decode code 395 = .ok (.goto 4, 3) := by decide +kernel
theorem dL_law_398 : decode code 398 = .ok (.iconst (-1), 1) := by decide +kernel
theorem dL_law_399 : decode code 399 = .ok (.iadd, 1) := by decide +kernel
theorem dL_law_400 : decode code 400 = .ok (.iastore, 1) := by decide +kernel
theorem dL_law_401 : decode code 401 = .ok (.new 49, 3) := by decide +kernel
theorem dL_law_404 : decode code 404 = .ok (.dup, 1) := by decide +kernel
theorem dL_law_405 : decode code 405 = .ok (.invokespecial 51, 3) := by decide +kernel
theorem dL_law_408 : decode code 408 = .ok (.aload_n 3, 1) := by decide +kernel
theorem dL_law_409 : decode code 409 = .ok (.invokevirtual 52, 3) := by decide +kernel
theorem dL_law_412 : decode code 412 = .ok (.iload 10, 2) := by decide +kernel
theorem dL_law_414 : decode code 414 = .ok (.ifCond .eq 8, 3) := by decide +kernel
theorem dL_law_417 : decode code 417 = .ok (.ldc 88, 2) := by decide +kernel
theorem dL_law_419 : decode code 419 = .ok (.goto 5, 3) := by decide +kernel
theorem dL_law_422 : decode code 422 = .ok (.ldc 90, 2) := by decide +kernel
theorem dL_law_424 : decode code 424 = .ok (.invokevirtual 52, 3) := by decide +kernel
theorem dL_law_427 : decode code 427 = .ok (.aload 6, 2) := by decide +kernel
theorem dL_law_429 : decode code 429 = .ok (.iload 9, 2) := by decide +kernel
theorem dL_law_431 : decode code 431 = .ok (.aaload, 1) := by decide +kernel
theorem dL_law_432 : decode code 432 = .ok (.invokevirtual 52, 3) := by decide +kernel
theorem dL_law_435 : decode code 435 = .ok (.invokevirtual 68, 3) := by decide +kernel
theorem dL_law_438 : decode code 438 = .ok (.astore_n 3, 1) := by decide +kernel
theorem dL_law_439 : decode code 439 = .ok (.iinc 8 1, 3) := by decide +kernel
theorem dL_law_442 : decode code 442 = .ok (.goto (-105), 3) := by decide +kernel
theorem dL_law_445 : decode code 445 = .ok (.aload_n 1, 1) := by decide +kernel
theorem dL_law_446 : decode code 446 = .ok (.invokevirtual 92, 3) := by decide +kernel
theorem dL_law_449 : decode code 449 = .ok (.ifCond .ne 61, 3) := by decide +kernel
theorem dL_law_452 : decode code 452 = .ok (.aload_n 1, 1) := by decide +kernel
theorem dL_law_453 : decode code 453 = .ok (.iconst 0, 1) := by decide +kernel
theorem dL_law_454 : decode code 454 = .ok (.invokevirtual 95, 3) := by decide +kernel
theorem dL_law_457 : decode code 457 = .ok (.iconst (-1), 1) := by decide +kernel
theorem dL_law_458 : decode code 458 = .ok (.if_icmp .ne 52, 3) := by decide +kernel
theorem dL_law_461 : decode code 461 = .ok (.aload_n 1, 1) := by decide +kernel
theorem dL_law_462 : decode code 462 = .ok (.new 49, 3) := by decide +kernel
theorem dL_law_465 : decode code 465 = .ok (.dup, 1) := by decide +kernel
theorem dL_law_466 : decode code 466 = .ok (.invokespecial 51, 3) := by decide +kernel
theorem dL_law_469 : decode code 469 = .ok (.aload_n 3, 1) := by decide +kernel
theorem dL_law_470 : decode code 470 = .ok (.invokevirtual 52, 3) := by decide +kernel
theorem dL_law_473 : decode code 473 = .ok (.ldc 66, 2) := by decide +kernel
theorem dL_law_475 : decode code 475 = .ok (.invokevirtual 52, 3) := by decide +kernel
theorem dL_law_478 : decode code 478 = .ok (.invokevirtual 68, 3) := by decide +kernel
theorem dL_law_481 : decode code 481 = .ok (.invokestatic 98, 3) := by decide +kernel
theorem dL_law_484 : decode code 484 = .ok (.bipush 6, 2) := by decide +kernel
theorem dL_law_486 : decode code 486 = .ok (.if_icmp .ne 24, 3) := by decide +kernel
theorem dL_law_489 : decode code 489 = .ok (.aload_n 1, 1) := by decide +kernel
theorem dL_law_490 : decode code 490 = .ok (.iconst 0, 1) := by decide +kernel
theorem dL_law_491 : decode code 491 = .ok (.iconst 4, 1) := by decide +kernel
theorem dL_law_492 : decode code 492 = .ok (.invokevirtual 102, 3) := by decide +kernel
theorem dL_law_495 : decode code 495 = .ok (.iconst (-1), 1) := by decide +kernel
theorem dL_law_496 : decode code 496 = .ok (.if_icmp .ne 14, 3) := by decide +kernel
theorem dL_law_499 : decode code 499 = .ok (.aload_n 1, 1) := by decide +kernel
theorem dL_law_500 : decode code 500 = .ok (.bipush 6, 2) := by decide +kernel
theorem dL_law_502 : decode code 502 = .ok (.iconst 2, 1) := by decide +kernel
theorem dL_law_503 : decode code 503 = .ok (.invokevirtual 102, 3) := by decide +kernel
theorem dL_law_506 : decode code 506 = .ok (.iconst (-1), 1) := by decide +kernel
theorem dL_law_507 : decode code 507 = .ok (.if_icmp .eq 5, 3) := by decide +kernel
theorem dL_law_510 : decode code 510 = .ok (.iconst 0, 1) := by decide +kernel
theorem dL_law_511 : decode code 511 = .ok (.ireturn, 1) := by decide +kernel
theorem dL_law_512 : decode code 512 = .ok (.iconst 0, 1) := by decide +kernel
theorem dL_law_513 : decode code 513 = .ok (.istore 8, 2) := by decide +kernel
theorem dL_law_515 : decode code 515 = .ok (.iload 8, 2) := by decide +kernel
theorem dL_law_517 : decode code 517 = .ok (.bipush 6, 2) := by decide +kernel
theorem dL_law_519 : decode code 519 = .ok (.if_icmp .ge 20, 3) := by decide +kernel
theorem dL_law_522 : decode code 522 = .ok (.aload_n 1, 1) := by decide +kernel
theorem dL_law_523 : decode code 523 = .ok (.iload 8, 2) := by decide +kernel
theorem dL_law_525 : decode code 525 = .ok (.invokestatic 106, 3) := by decide +kernel
theorem dL_law_528 : decode code 528 = .ok (.ifCond .ne 5, 3) := by decide +kernel
theorem dL_law_531 : decode code 531 = .ok (.iconst 0, 1) := by decide +kernel
theorem dL_law_532 : decode code 532 = .ok (.ireturn, 1) := by decide +kernel
theorem dL_law_533 : decode code 533 = .ok (.iinc 8 1, 3) := by decide +kernel
theorem dL_law_536 : decode code 536 = .ok (.goto (-21), 3) := by decide +kernel
theorem dL_law_539 : decode code 539 = .ok (.iconst 0, 1) := by decide +kernel
theorem dL_law_540 : decode code 540 = .ok (.istore 8, 2) := by decide +kernel
theorem dL_law_542 : decode code 542 = .ok (.iload 8, 2) := by decide +kernel
theorem dL_law_544 : decode code 544 = .ok (.sipush 1000, 3) := by decide +kernel
theorem dL_law_547 : decode code 547 = .ok (.if_icmp .ge 82, 3) := by decide +kernel
theorem dL_law_550 : decode code 550 = .ok (.aload_n 1, 1) := by decide +kernel
theorem dL_law_551 : decode code 551 = .ok (.iconst 0, 1) := by decide +kernel
theorem dL_law_552 : decode code 552 = .ok (.iload 8, 2) := by decide +kernel
theorem dL_law_554 : decode code 554 = .ok (.invokevirtual 102, 3) := by decide +kernel
theorem dL_law_557 : decode code 557 = .ok (.ifCond .ge 6, 3) := by decide +kernel
theorem dL_law_560 : decode code 560 = .ok (.goto 63, 3) := by decide +kernel
theorem dL_law_563 : decode code 563 = .ok (.iconst 0, 1) := by decide +kernel
theorem dL_law_564 : decode code 564 = .ok (.istore 9, 2) := by decide +kernel
theorem dL_law_566 : decode code 566 = .ok (.iconst 0, 1) := by decide +kernel
theorem dL_law_567 : decode code 567 = .ok (.istore 10, 2) := by decide +kernel
theorem dL_law_569 : decode code 569 = .ok (.iload 10, 2) := by decide +kernel
theorem dL_law_571 : decode code 571 = .ok (.iconst 5, 1) := by decide +kernel
theorem dL_law_572 : decode code 572 = .ok (.if_icmp .ge 28, 3) := by decide +kernel
theorem dL_law_575 : decode code 575 = .ok (.iload 9, 2) := by decide +kernel
theorem dL_law_577 : decode code 577 = .ok (.aload 7, 2) := by decide +kernel
theorem dL_law_579 : decode code 579 = .ok (.iload 10, 2) := by decide +kernel
theorem dL_law_581 : decode code 581 = .ok (.iaload, 1) := by decide +kernel
theorem dL_law_582 : decode code 582 = .ok (.aload_n 1, 1) := by decide +kernel
theorem dL_law_583 : decode code 583 = .ok (.iload 10, 2) := by decide +kernel
theorem dL_law_585 : decode code 585 = .ok (.iload 8, 2) := by decide +kernel
theorem dL_law_587 : decode code 587 = .ok (.invokevirtual 102, 3) := by decide +kernel
theorem dL_law_590 : decode code 590 = .ok (.imul, 1) := by decide +kernel
theorem dL_law_591 : decode code 591 = .ok (.iadd, 1) := by decide +kernel
theorem dL_law_592 : decode code 592 = .ok (.istore 9, 2) := by decide +kernel
theorem dL_law_594 : decode code 594 = .ok (.iinc 10 1, 3) := by decide +kernel
theorem dL_law_597 : decode code 597 = .ok (.goto (-28), 3) := by decide +kernel
theorem dL_law_600 : decode code 600 = .ok (.aload_n 1, 1) := by decide +kernel
theorem dL_law_601 : decode code 601 = .ok (.iconst 5, 1) := by decide +kernel
theorem dL_law_602 : decode code 602 = .ok (.iload 8, 2) := by decide +kernel
theorem dL_law_604 : decode code 604 = .ok (.invokevirtual 102, 3) := by decide +kernel
theorem dL_law_607 : decode code 607 = .ok (.iload 9, 2) := by decide +kernel
theorem dL_law_609 : decode code 609 = .ok (.bipush 6, 2) := by decide +kernel
theorem dL_law_611 : decode code 611 = .ok (.irem, 1) := by decide +kernel
theorem dL_law_612 : decode code 612 = .ok (.bipush 6, 2) := by decide +kernel
theorem dL_law_614 : decode code 614 = .ok (.iadd, 1) := by decide +kernel
theorem dL_law_615 : decode code 615 = .ok (.bipush 6, 2) := by decide +kernel
theorem dL_law_617 : decode code 617 = .ok (.irem, 1) := by decide +kernel
theorem dL_law_618 : decode code 618 = .ok (.if_icmp .eq 5, 3) := by decide +kernel
theorem dL_law_621 : decode code 621 = .ok (.iconst 0, 1) := by decide +kernel
theorem dL_law_622 : decode code 622 = .ok (.ireturn, 1) := by decide +kernel
theorem dL_law_623 : decode code 623 = .ok (.iinc 8 1, 3) := by decide +kernel
theorem dL_law_626 : decode code 626 = .ok (.goto (-84), 3) := by decide +kernel
theorem dL_law_629 : decode code 629 = .ok (.iconst 0, 1) := by decide +kernel
theorem dL_law_630 : decode code 630 = .ok (.istore 8, 2) := by decide +kernel
theorem dL_law_632 : decode code 632 = .ok (.iconst 0, 1) := by decide +kernel
theorem dL_law_633 : decode code 633 = .ok (.istore 9, 2) := by decide +kernel
theorem dL_law_635 : decode code 635 = .ok (.iload 9, 2) := by decide +kernel
theorem dL_law_637 : decode code 637 = .ok (.bipush 6, 2) := by decide +kernel
theorem dL_law_639 : decode code 639 = .ok (.if_icmp .ge 87, 3) := by decide +kernel
theorem dL_law_642 : decode code 642 = .ok (.iconst 1, 1) := by decide +kernel
theorem dL_law_643 : decode code 643 = .ok (.istore 10, 2) := by decide +kernel
theorem dL_law_645 : decode code 645 = .ok (.iconst 0, 1) := by decide +kernel
theorem dL_law_646 : decode code 646 = .ok (.istore 11, 2) := by decide +kernel
theorem dL_law_648 : decode code 648 = .ok (.iload 11, 2) := by decide +kernel
theorem dL_law_650 : decode code 650 = .ok (.iload 9, 2) := by decide +kernel
theorem dL_law_652 : decode code 652 = .ok (.if_icmp .ge 53, 3) := by decide +kernel
theorem dL_law_655 : decode code 655 = .ok (.aload_n 1, 1) := by decide +kernel
theorem dL_law_656 : decode code 656 = .ok (.iload 9, 2) := by decide +kernel
theorem dL_law_658 : decode code 658 = .ok (.iload 11, 2) := by decide +kernel
theorem dL_law_660 : decode code 660 = .ok (.invokevirtual 110, 3) := by decide +kernel
theorem dL_law_663 : decode code 663 = .ok (.aload_n 1, 1) := by decide +kernel
theorem dL_law_664 : decode code 664 = .ok (.iload 11, 2) := by decide +kernel
theorem dL_law_666 : decode code 666 = .ok (.iload 9, 2) := by decide +kernel
theorem dL_law_668 : decode code 668 = .ok (.invokevirtual 110, 3) := by decide +kernel
theorem dL_law_671 : decode code 671 = .ok (.if_icmp .eq 5, 3) := by decide +kernel
theorem dL_law_674 : decode code 674 = .ok (.iconst 0, 1) := by decide +kernel
theorem dL_law_675 : decode code 675 = .ok (.ireturn, 1) := by decide +kernel
theorem dL_law_676 : decode code 676 = .ok (.iload 10, 2) := by decide +kernel
theorem dL_law_678 : decode code 678 = .ok (.ifCond .eq 18, 3) := by decide +kernel
theorem dL_law_681 : decode code 681 = .ok (.aload_n 1, 1) := by decide +kernel
theorem dL_law_682 : decode code 682 = .ok (.iload 9, 2) := by decide +kernel
theorem dL_law_684 : decode code 684 = .ok (.iload 11, 2) := by decide +kernel
theorem dL_law_686 : decode code 686 = .ok (.invokevirtual 110, 3) := by decide +kernel
theorem dL_law_689 : decode code 689 = .ok (.ifCond .ne 7, 3) := by decide +kernel
theorem dL_law_692 : decode code 692 = .ok (.iconst 1, 1) := by decide +kernel
theorem dL_law_693 : decode code 693 = .ok (.goto 4, 3) := by decide +kernel
theorem dL_law_696 : decode code 696 = .ok (.iconst 0, 1) := by decide +kernel
theorem dL_law_697 : decode code 697 = .ok (.istore 10, 2) := by decide +kernel
theorem dL_law_699 : decode code 699 = .ok (.iinc 11 1, 3) := by decide +kernel
theorem dL_law_702 : decode code 702 = .ok (.goto (-54), 3) := by decide +kernel
theorem dL_law_705 : decode code 705 = .ok (.iload 8, 2) := by decide +kernel
theorem dL_law_707 : decode code 707 = .ok (.iload 10, 2) := by decide +kernel
theorem dL_law_709 : decode code 709 = .ok (.ifCond .eq 7, 3) := by decide +kernel
theorem dL_law_712 : decode code 712 = .ok (.iconst 1, 1) := by decide +kernel
theorem dL_law_713 : decode code 713 = .ok (.goto 4, 3) := by decide +kernel
theorem dL_law_716 : decode code 716 = .ok (.iconst 0, 1) := by decide +kernel
theorem dL_law_717 : decode code 717 = .ok (.iadd, 1) := by decide +kernel
theorem dL_law_718 : decode code 718 = .ok (.istore 8, 2) := by decide +kernel
theorem dL_law_720 : decode code 720 = .ok (.iinc 9 1, 3) := by decide +kernel
theorem dL_law_723 : decode code 723 = .ok (.goto (-88), 3) := by decide +kernel
theorem dL_law_726 : decode code 726 = .ok (.aload_n 1, 1) := by decide +kernel
theorem dL_law_727 : decode code 727 = .ok (.invokevirtual 92, 3) := by decide +kernel
theorem dL_law_730 : decode code 730 = .ok (.iload 8, 2) := by decide +kernel
theorem dL_law_732 : decode code 732 = .ok (.if_icmp .eq 5, 3) := by decide +kernel
theorem dL_law_735 : decode code 735 = .ok (.iconst 0, 1) := by decide +kernel
theorem dL_law_736 : decode code 736 = .ok (.ireturn, 1) := by decide +kernel
theorem dL_law_737 : decode code 737 = .ok (.iconst 0, 1) := by decide +kernel
theorem dL_law_738 : decode code 738 = .ok (.istore 9, 2) := by decide +kernel
theorem dL_law_740 : decode code 740 = .ok (.iload 9, 2) := by decide +kernel
theorem dL_law_742 : decode code 742 = .ok (.iconst 3, 1) := by decide +kernel
theorem dL_law_743 : decode code 743 = .ok (.if_icmp .ge 30, 3) := by decide +kernel
theorem dL_law_746 : decode code 746 = .ok (.aload_n 1, 1) := by decide +kernel
theorem dL_law_747 : decode code 747 = .ok (.iload 9, 2) := by decide +kernel
theorem dL_law_749 : decode code 749 = .ok (.aload 4, 2) := by decide +kernel
theorem dL_law_751 : decode code 751 = .ok (.iload 9, 2) := by decide +kernel
theorem dL_law_753 : decode code 753 = .ok (.iaload, 1) := by decide +kernel
theorem dL_law_754 : decode code 754 = .ok (.aload 5, 2) := by decide +kernel
theorem dL_law_756 : decode code 756 = .ok (.iload 9, 2) := by decide +kernel
theorem dL_law_758 : decode code 758 = .ok (.iaload, 1) := by decide +kernel
theorem dL_law_759 : decode code 759 = .ok (.invokestatic 113, 3) := by decide +kernel
theorem dL_law_762 : decode code 762 = .ok (.ifCond .ne 5, 3) := by decide +kernel
theorem dL_law_765 : decode code 765 = .ok (.iconst 0, 1) := by decide +kernel
theorem dL_law_766 : decode code 766 = .ok (.ireturn, 1) := by decide +kernel
theorem dL_law_767 : decode code 767 = .ok (.iinc 9 1, 3) := by decide +kernel
theorem dL_law_770 : decode code 770 = .ok (.goto (-30), 3) := by decide +kernel
theorem dL_law_773 : decode code 773 = .ok (.aload_n 1, 1) := by decide +kernel
theorem dL_law_774 : decode code 774 = .ok (.iconst 3, 1) := by decide +kernel
theorem dL_law_775 : decode code 775 = .ok (.iconst 0, 1) := by decide +kernel
theorem dL_law_776 : decode code 776 = .ok (.invokevirtual 117, 3) := by decide +kernel
theorem dL_law_779 : decode code 779 = .ok (.iconst (-1), 1) := by decide +kernel
theorem dL_law_780 : decode code 780 = .ok (.if_icmp .ne 16, 3) := by decide +kernel
theorem dL_law_783 : decode code 783 = .ok (.aload_n 1, 1) := by decide +kernel
theorem dL_law_784 : decode code 784 = .ok (.iconst 5, 1) := by decide +kernel
theorem dL_law_785 : decode code 785 = .ok (.invokevirtual 120, 3) := by decide +kernel
theorem dL_law_788 : decode code 788 = .ok (.iconst (-1), 1) := by decide +kernel
theorem dL_law_789 : decode code 789 = .ok (.if_icmp .ne 7, 3) := by decide +kernel
theorem dL_law_792 : decode code 792 = .ok (.iconst 1, 1) := by decide +kernel
theorem dL_law_793 : decode code 793 = .ok (.goto 4, 3) := by decide +kernel
theorem dL_law_796 : decode code 796 = .ok (.iconst 0, 1) := by decide +kernel
theorem dL_law_797 : decode code 797 = .ok (.ireturn, 1) := by decide +kernel
