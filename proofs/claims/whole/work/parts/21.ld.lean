def R_law : String := "LeanSetsLaw"
def lw_P (b : Addr) (xs : List Int32) (args : Array Value) (s : State) : Prop := args = #[.ref b] ∧ s.IntsAt b xs ∧ xs.length ≤ 2048 ∧ (Jvm.Cond.and given_1 narrow_1).before args s = true
def lw_Q (_ : Array Value) (s : State) (o : Outcome) (t : State) : Prop := o = .returned (some (.int 1)) ∧ Framed s o t [] 601024 7293033
def lw_Z (below : List Frame) (a : Array Value) (s : State) : State → Prop := fun t => ∃ o, t.status = .running ∧ Ended t below o ∧ lw_Q a s o t
/-- the law's own end, with 1 on the stack, nothing written that was there before, its room as the claim has it -/
theorem lw_ret {p : Program} {l : Launch} {e : Env} {s : State} {m : MethodId} {below : List Frame} {meth : Method} {c : Code} {b : Nat} (hx : p.tables.exec = Jvm.exec) (hb : c.code = code) (hr : meth.sig.returnType = ret) (hlocks : meth.locks = false) {pc : Nat} {H : Heap} {ls : Array Slot} (hdg : decode code pc = .ok (.ireturn, 1)) : W p l e room_1 s m #[Value.ref b] below meth c H [] 601024 7293033 (lw_Z below #[Value.ref b] s) (F0 m pc ls [.int 1]) := by
  intro T hT X
  obtain ⟨fs, hret, hrun, hended, hW, hframe⟩ := X.leave (v := some (.int 1)) (hlocks := hlocks) (fun h => by rw [hr] at h; cases h)
  have hmeth' : T.vm.method? m = some meth := X.method'
  refine ⟨T.setFrames fs, ?_, .returned (some (.int 1)), hrun, hended, rfl, ⟨_, rfl⟩, hW, hframe⟩
  jvm_step X.here [X.here.top, hx, hb, hdg, hmeth', hr, ret, narrow_b1]
  (try refine ⟨rfl, ?_⟩); (try refine ⟨rfl, ?_⟩)
  first | (intro acts; rw [hret _ acts rfl rfl rfl]) | rw [hret _ _ rfl rfl rfl]
  exact Steps.refl _
/-- what holds at the law's entry: the machine, the code, the tables' words (any of lw_tbl by 'hts w (by decide +kernel)'), the script of L ints xs at the cell b, what the Statement gives of the start (any of its parts by flat_of_before) -/
def lw_At (p : Program) (s : State) (m : MethodId) (meth : Method) (c : Code) (b L : Nat) (xs : Nat → Int32) : Prop :=
  p.tables.exec = Jvm.exec ∧ c.code = code ∧ meth.sig.returnType = ret ∧ c.maxLocals = 7 ∧ s.vm.findClass R_law = some m.cls ∧ (∀ w ∈ lw_tbl, w.before #[Value.ref b] s = true) ∧ va_X b L xs s s.heap ∧ b < s.heap.size ∧ meth.locks = false ∧ (Jvm.Cond.and given_1 narrow_1).before #[Value.ref b] s = true

theorem dl_0 : decode code 0 = .ok (.new 8, 3) := by decide +kernel
theorem dl_3 : decode code 3 = .ok (.dup, 1) := by decide +kernel
theorem dl_4 : decode code 4 = .ok (.invokespecial 57, 3) := by decide +kernel
theorem dl_7 : decode code 7 = .ok (.astore_n 1, 1) := by decide +kernel
theorem dl_8 : decode code 8 = .ok (.new 58, 3) := by decide +kernel
theorem dl_11 : decode code 11 = .ok (.dup, 1) := by decide +kernel
theorem dl_12 : decode code 12 = .ok (.invokespecial 60, 3) := by decide +kernel
theorem dl_15 : decode code 15 = .ok (.astore_n 2, 1) := by decide +kernel
theorem dl_16 : decode code 16 = .ok (.iconst 1, 1) := by decide +kernel
theorem dl_17 : decode code 17 = .ok (.newarray .long, 2) := by decide +kernel
theorem dl_19 : decode code 19 = .ok (.astore_n 3, 1) := by decide +kernel
theorem dl_20 : decode code 20 = .ok (.iconst 0, 1) := by decide +kernel
theorem dl_21 : decode code 21 = .ok (.istore 4, 2) := by decide +kernel
theorem dl_23 : decode code 23 = .ok (.iload 4, 2) := by decide +kernel
theorem dl_25 : decode code 25 = .ok (.aload_n 0, 1) := by decide +kernel
theorem dl_26 : decode code 26 = .ok (.arraylength, 1) := by decide +kernel
theorem dl_27 : decode code 27 = .ok (.iconst 4, 1) := by decide +kernel
theorem dl_28 : decode code 28 = .ok (.isub, 1) := by decide +kernel
theorem dl_29 : decode code 29 = .ok (.if_icmp .gt 904, 3) := by decide +kernel
theorem dl_32 : decode code 32 = .ok (.aload_n 0, 1) := by decide +kernel
theorem dl_33 : decode code 33 = .ok (.iload 4, 2) := by decide +kernel
theorem dl_35 : decode code 35 = .ok (.iaload, 1) := by decide +kernel
theorem dl_36 : decode code 36 = .ok (.bipush 15, 2) := by decide +kernel
theorem dl_38 : decode code 38 = .ok (.iand, 1) := by decide +kernel
theorem dl_39 : decode code 39 = .ok (.tableswitch 888 0 14 #[73, 142, 155, 168, 224, 280, 360, 460, 508, 552, 608, 664, 708, 776, 844], 73) := by decide +kernel
theorem dl_112 : decode code 112 = .ok (.aload_n 1, 1) := by decide +kernel
theorem dl_113 : decode code 113 = .ok (.aload_n 0, 1) := by decide +kernel
theorem dl_114 : decode code 114 = .ok (.iload 4, 2) := by decide +kernel
theorem dl_116 : decode code 116 = .ok (.iconst 1, 1) := by decide +kernel
theorem dl_117 : decode code 117 = .ok (.iadd, 1) := by decide +kernel
theorem dl_118 : decode code 118 = .ok (.iaload, 1) := by decide +kernel
theorem dl_119 : decode code 119 = .ok (.i2l, 1) := by decide +kernel
theorem dl_120 : decode code 120 = .ok (.bipush 32, 2) := by decide +kernel
theorem dl_122 : decode code 122 = .ok (.lshl, 1) := by decide +kernel
theorem dl_123 : decode code 123 = .ok (.aload_n 0, 1) := by decide +kernel
theorem dl_124 : decode code 124 = .ok (.iload 4, 2) := by decide +kernel
theorem dl_126 : decode code 126 = .ok (.iconst 2, 1) := by decide +kernel
theorem dl_127 : decode code 127 = .ok (.iadd, 1) := by decide +kernel
theorem dl_128 : decode code 128 = .ok (.iaload, 1) := by decide +kernel
theorem dl_129 : decode code 129 = .ok (.i2l, 1) := by decide +kernel
theorem dl_130 : decode code 130 = .ok (.ldc2_w 61, 3) := by decide +kernel
theorem dl_133 : decode code 133 = .ok (.land, 1) := by decide +kernel
theorem dl_134 : decode code 134 = .ok (.lor, 1) := by decide +kernel
theorem dl_135 : decode code 135 = .ok (.aload_n 0, 1) := by decide +kernel
theorem dl_136 : decode code 136 = .ok (.iload 4, 2) := by decide +kernel
theorem dl_138 : decode code 138 = .ok (.iconst 3, 1) := by decide +kernel
theorem dl_139 : decode code 139 = .ok (.iadd, 1) := by decide +kernel
theorem dl_140 : decode code 140 = .ok (.iaload, 1) := by decide +kernel
theorem dl_141 : decode code 141 = .ok (.invokevirtual 63, 3) := by decide +kernel
theorem dl_144 : decode code 144 = .ok (.aload_n 2, 1) := by decide +kernel
theorem dl_145 : decode code 145 = .ok (.aload_n 0, 1) := by decide +kernel
theorem dl_146 : decode code 146 = .ok (.iload 4, 2) := by decide +kernel
theorem dl_148 : decode code 148 = .ok (.iconst 1, 1) := by decide +kernel
theorem dl_149 : decode code 149 = .ok (.iadd, 1) := by decide +kernel
theorem dl_150 : decode code 150 = .ok (.iaload, 1) := by decide +kernel
theorem dl_151 : decode code 151 = .ok (.i2l, 1) := by decide +kernel
theorem dl_152 : decode code 152 = .ok (.bipush 32, 2) := by decide +kernel
theorem dl_154 : decode code 154 = .ok (.lshl, 1) := by decide +kernel
theorem dl_155 : decode code 155 = .ok (.aload_n 0, 1) := by decide +kernel
theorem dl_156 : decode code 156 = .ok (.iload 4, 2) := by decide +kernel
theorem dl_158 : decode code 158 = .ok (.iconst 2, 1) := by decide +kernel
theorem dl_159 : decode code 159 = .ok (.iadd, 1) := by decide +kernel
theorem dl_160 : decode code 160 = .ok (.iaload, 1) := by decide +kernel
theorem dl_161 : decode code 161 = .ok (.i2l, 1) := by decide +kernel
theorem dl_162 : decode code 162 = .ok (.ldc2_w 61, 3) := by decide +kernel
theorem dl_165 : decode code 165 = .ok (.land, 1) := by decide +kernel
theorem dl_166 : decode code 166 = .ok (.lor, 1) := by decide +kernel
theorem dl_167 : decode code 167 = .ok (.aload_n 0, 1) := by decide +kernel
theorem dl_168 : decode code 168 = .ok (.iload 4, 2) := by decide +kernel
theorem dl_170 : decode code 170 = .ok (.iconst 3, 1) := by decide +kernel
theorem dl_171 : decode code 171 = .ok (.iadd, 1) := by decide +kernel
theorem dl_172 : decode code 172 = .ok (.iaload, 1) := by decide +kernel
theorem dl_173 : decode code 173 = .ok (.invokevirtual 66, 3) := by decide +kernel
theorem dl_176 : decode code 176 = .ok (.if_icmp .eq 751, 3) := by decide +kernel
theorem dl_179 : decode code 179 = .ok (.iconst 0, 1) := by decide +kernel
theorem dl_180 : decode code 180 = .ok (.ireturn, 1) := by decide +kernel
theorem dl_181 : decode code 181 = .ok (.aload_n 1, 1) := by decide +kernel
theorem dl_182 : decode code 182 = .ok (.invokevirtual 67, 3) := by decide +kernel
theorem dl_185 : decode code 185 = .ok (.aload_n 2, 1) := by decide +kernel
theorem dl_186 : decode code 186 = .ok (.invokevirtual 70, 3) := by decide +kernel
theorem dl_189 : decode code 189 = .ok (.if_icmp .eq 738, 3) := by decide +kernel
theorem dl_192 : decode code 192 = .ok (.iconst 0, 1) := by decide +kernel
theorem dl_193 : decode code 193 = .ok (.ireturn, 1) := by decide +kernel
theorem dl_194 : decode code 194 = .ok (.aload_n 1, 1) := by decide +kernel
theorem dl_195 : decode code 195 = .ok (.invokevirtual 71, 3) := by decide +kernel
theorem dl_198 : decode code 198 = .ok (.aload_n 2, 1) := by decide +kernel
theorem dl_199 : decode code 199 = .ok (.invokevirtual 74, 3) := by decide +kernel
theorem dl_202 : decode code 202 = .ok (.if_icmp .eq 725, 3) := by decide +kernel
theorem dl_205 : decode code 205 = .ok (.iconst 0, 1) := by decide +kernel
theorem dl_206 : decode code 206 = .ok (.ireturn, 1) := by decide +kernel
theorem dl_207 : decode code 207 = .ok (.aload_n 1, 1) := by decide +kernel
theorem dl_208 : decode code 208 = .ok (.aload_n 0, 1) := by decide +kernel
theorem dl_209 : decode code 209 = .ok (.iload 4, 2) := by decide +kernel
theorem dl_211 : decode code 211 = .ok (.iconst 1, 1) := by decide +kernel
theorem dl_212 : decode code 212 = .ok (.iadd, 1) := by decide +kernel
theorem dl_213 : decode code 213 = .ok (.iaload, 1) := by decide +kernel
theorem dl_214 : decode code 214 = .ok (.aload_n 3, 1) := by decide +kernel
theorem dl_215 : decode code 215 = .ok (.invokestatic 75, 3) := by decide +kernel
theorem dl_218 : decode code 218 = .ok (.istore 5, 2) := by decide +kernel
theorem dl_220 : decode code 220 = .ok (.aload_n 2, 1) := by decide +kernel
theorem dl_221 : decode code 221 = .ok (.aload_n 0, 1) := by decide +kernel
theorem dl_222 : decode code 222 = .ok (.iload 4, 2) := by decide +kernel
theorem dl_224 : decode code 224 = .ok (.iconst 1, 1) := by decide +kernel
theorem dl_225 : decode code 225 = .ok (.iadd, 1) := by decide +kernel
theorem dl_226 : decode code 226 = .ok (.iaload, 1) := by decide +kernel
theorem dl_227 : decode code 227 = .ok (.invokevirtual 80, 3) := by decide +kernel
theorem dl_230 : decode code 230 = .ok (.istore 6, 2) := by decide +kernel
theorem dl_232 : decode code 232 = .ok (.aload_n 2, 1) := by decide +kernel
theorem dl_233 : decode code 233 = .ok (.invokevirtual 81, 3) := by decide +kernel
theorem dl_236 : decode code 236 = .ok (.iload 5, 2) := by decide +kernel
theorem dl_238 : decode code 238 = .ok (.if_icmp .eq 5, 3) := by decide +kernel
theorem dl_241 : decode code 241 = .ok (.iconst 0, 1) := by decide +kernel
theorem dl_242 : decode code 242 = .ok (.ireturn, 1) := by decide +kernel
theorem dl_243 : decode code 243 = .ok (.iload 5, 2) := by decide +kernel
theorem dl_245 : decode code 245 = .ok (.ifCond .ne 15, 3) := by decide +kernel
theorem dl_248 : decode code 248 = .ok (.aload_n 3, 1) := by decide +kernel
theorem dl_249 : decode code 249 = .ok (.iconst 0, 1) := by decide +kernel
theorem dl_250 : decode code 250 = .ok (.laload, 1) := by decide +kernel
theorem dl_251 : decode code 251 = .ok (.iload 6, 2) := by decide +kernel
theorem dl_253 : decode code 253 = .ok (.i2l, 1) := by decide +kernel
theorem dl_254 : decode code 254 = .ok (.lcmp, 1) := by decide +kernel
theorem dl_255 : decode code 255 = .ok (.ifCond .eq 5, 3) := by decide +kernel
theorem dl_258 : decode code 258 = .ok (.iconst 0, 1) := by decide +kernel
theorem dl_259 : decode code 259 = .ok (.ireturn, 1) := by decide +kernel
theorem dl_260 : decode code 260 = .ok (.goto 667, 3) := by decide +kernel
theorem dl_263 : decode code 263 = .ok (.aload_n 1, 1) := by decide +kernel
theorem dl_264 : decode code 264 = .ok (.aload_n 0, 1) := by decide +kernel
theorem dl_265 : decode code 265 = .ok (.iload 4, 2) := by decide +kernel
theorem dl_267 : decode code 267 = .ok (.iconst 1, 1) := by decide +kernel
theorem dl_268 : decode code 268 = .ok (.iadd, 1) := by decide +kernel
theorem dl_269 : decode code 269 = .ok (.iaload, 1) := by decide +kernel
theorem dl_270 : decode code 270 = .ok (.aload_n 3, 1) := by decide +kernel
theorem dl_271 : decode code 271 = .ok (.invokestatic 84, 3) := by decide +kernel
theorem dl_274 : decode code 274 = .ok (.istore 5, 2) := by decide +kernel
theorem dl_276 : decode code 276 = .ok (.aload_n 2, 1) := by decide +kernel
theorem dl_277 : decode code 277 = .ok (.aload_n 0, 1) := by decide +kernel
theorem dl_278 : decode code 278 = .ok (.iload 4, 2) := by decide +kernel
theorem dl_280 : decode code 280 = .ok (.iconst 1, 1) := by decide +kernel
theorem dl_281 : decode code 281 = .ok (.iadd, 1) := by decide +kernel
theorem dl_282 : decode code 282 = .ok (.iaload, 1) := by decide +kernel
theorem dl_283 : decode code 283 = .ok (.invokevirtual 86, 3) := by decide +kernel
theorem dl_286 : decode code 286 = .ok (.istore 6, 2) := by decide +kernel
theorem dl_288 : decode code 288 = .ok (.aload_n 2, 1) := by decide +kernel
theorem dl_289 : decode code 289 = .ok (.invokevirtual 81, 3) := by decide +kernel
theorem dl_292 : decode code 292 = .ok (.iload 5, 2) := by decide +kernel
theorem dl_294 : decode code 294 = .ok (.if_icmp .eq 5, 3) := by decide +kernel
theorem dl_297 : decode code 297 = .ok (.iconst 0, 1) := by decide +kernel
theorem dl_298 : decode code 298 = .ok (.ireturn, 1) := by decide +kernel
theorem dl_299 : decode code 299 = .ok (.iload 5, 2) := by decide +kernel
theorem dl_301 : decode code 301 = .ok (.ifCond .ne 15, 3) := by decide +kernel
theorem dl_304 : decode code 304 = .ok (.aload_n 3, 1) := by decide +kernel
theorem dl_305 : decode code 305 = .ok (.iconst 0, 1) := by decide +kernel
theorem dl_306 : decode code 306 = .ok (.laload, 1) := by decide +kernel
theorem dl_307 : decode code 307 = .ok (.iload 6, 2) := by decide +kernel
theorem dl_309 : decode code 309 = .ok (.i2l, 1) := by decide +kernel
theorem dl_310 : decode code 310 = .ok (.lcmp, 1) := by decide +kernel
theorem dl_311 : decode code 311 = .ok (.ifCond .eq 5, 3) := by decide +kernel
theorem dl_314 : decode code 314 = .ok (.iconst 0, 1) := by decide +kernel
theorem dl_315 : decode code 315 = .ok (.ireturn, 1) := by decide +kernel
theorem dl_316 : decode code 316 = .ok (.goto 611, 3) := by decide +kernel
theorem dl_319 : decode code 319 = .ok (.aload_n 1, 1) := by decide +kernel
theorem dl_320 : decode code 320 = .ok (.aload_n 0, 1) := by decide +kernel
theorem dl_321 : decode code 321 = .ok (.iload 4, 2) := by decide +kernel
theorem dl_323 : decode code 323 = .ok (.iconst 1, 1) := by decide +kernel
theorem dl_324 : decode code 324 = .ok (.iadd, 1) := by decide +kernel
theorem dl_325 : decode code 325 = .ok (.iaload, 1) := by decide +kernel
theorem dl_326 : decode code 326 = .ok (.aload_n 0, 1) := by decide +kernel
theorem dl_327 : decode code 327 = .ok (.iload 4, 2) := by decide +kernel
theorem dl_329 : decode code 329 = .ok (.iconst 2, 1) := by decide +kernel
theorem dl_330 : decode code 330 = .ok (.iadd, 1) := by decide +kernel
theorem dl_331 : decode code 331 = .ok (.iaload, 1) := by decide +kernel
theorem dl_332 : decode code 332 = .ok (.aload_n 0, 1) := by decide +kernel
theorem dl_333 : decode code 333 = .ok (.iload 4, 2) := by decide +kernel
theorem dl_335 : decode code 335 = .ok (.iconst 3, 1) := by decide +kernel
theorem dl_336 : decode code 336 = .ok (.iadd, 1) := by decide +kernel
theorem dl_337 : decode code 337 = .ok (.iaload, 1) := by decide +kernel
theorem dl_338 : decode code 338 = .ok (.aload_n 3, 1) := by decide +kernel
theorem dl_339 : decode code 339 = .ok (.invokestatic 87, 3) := by decide +kernel
theorem dl_342 : decode code 342 = .ok (.istore 5, 2) := by decide +kernel
theorem dl_344 : decode code 344 = .ok (.aload_n 2, 1) := by decide +kernel
theorem dl_345 : decode code 345 = .ok (.aload_n 0, 1) := by decide +kernel
theorem dl_346 : decode code 346 = .ok (.iload 4, 2) := by decide +kernel
theorem dl_348 : decode code 348 = .ok (.iconst 1, 1) := by decide +kernel
theorem dl_349 : decode code 349 = .ok (.iadd, 1) := by decide +kernel
theorem dl_350 : decode code 350 = .ok (.iaload, 1) := by decide +kernel
theorem dl_351 : decode code 351 = .ok (.aload_n 0, 1) := by decide +kernel
theorem dl_352 : decode code 352 = .ok (.iload 4, 2) := by decide +kernel
theorem dl_354 : decode code 354 = .ok (.iconst 2, 1) := by decide +kernel
theorem dl_355 : decode code 355 = .ok (.iadd, 1) := by decide +kernel
theorem dl_356 : decode code 356 = .ok (.iaload, 1) := by decide +kernel
theorem dl_357 : decode code 357 = .ok (.aload_n 0, 1) := by decide +kernel
theorem dl_358 : decode code 358 = .ok (.iload 4, 2) := by decide +kernel
theorem dl_360 : decode code 360 = .ok (.iconst 3, 1) := by decide +kernel
theorem dl_361 : decode code 361 = .ok (.iadd, 1) := by decide +kernel
theorem dl_362 : decode code 362 = .ok (.iaload, 1) := by decide +kernel
theorem dl_363 : decode code 363 = .ok (.invokevirtual 90, 3) := by decide +kernel
theorem dl_366 : decode code 366 = .ok (.istore 6, 2) := by decide +kernel
theorem dl_368 : decode code 368 = .ok (.aload_n 2, 1) := by decide +kernel
theorem dl_369 : decode code 369 = .ok (.invokevirtual 81, 3) := by decide +kernel
theorem dl_372 : decode code 372 = .ok (.iload 5, 2) := by decide +kernel
theorem dl_374 : decode code 374 = .ok (.if_icmp .eq 5, 3) := by decide +kernel
theorem dl_377 : decode code 377 = .ok (.iconst 0, 1) := by decide +kernel
theorem dl_378 : decode code 378 = .ok (.ireturn, 1) := by decide +kernel
theorem dl_379 : decode code 379 = .ok (.iload 5, 2) := by decide +kernel
theorem dl_381 : decode code 381 = .ok (.ifCond .ne 15, 3) := by decide +kernel
theorem dl_384 : decode code 384 = .ok (.aload_n 3, 1) := by decide +kernel
theorem dl_385 : decode code 385 = .ok (.iconst 0, 1) := by decide +kernel
theorem dl_386 : decode code 386 = .ok (.laload, 1) := by decide +kernel
theorem dl_387 : decode code 387 = .ok (.iload 6, 2) := by decide +kernel
theorem dl_389 : decode code 389 = .ok (.i2l, 1) := by decide +kernel
theorem dl_390 : decode code 390 = .ok (.lcmp, 1) := by decide +kernel
theorem dl_391 : decode code 391 = .ok (.ifCond .eq 5, 3) := by decide +kernel
theorem dl_394 : decode code 394 = .ok (.iconst 0, 1) := by decide +kernel
theorem dl_395 : decode code 395 = .ok (.ireturn, 1) := by decide +kernel
theorem dl_396 : decode code 396 = .ok (.goto 531, 3) := by decide +kernel
theorem dl_399 : decode code 399 = .ok (.aload_n 1, 1) := by decide +kernel
theorem dl_400 : decode code 400 = .ok (.aload_n 0, 1) := by decide +kernel
theorem dl_401 : decode code 401 = .ok (.iload 4, 2) := by decide +kernel
theorem dl_403 : decode code 403 = .ok (.iconst 1, 1) := by decide +kernel
theorem dl_404 : decode code 404 = .ok (.iadd, 1) := by decide +kernel
theorem dl_405 : decode code 405 = .ok (.iaload, 1) := by decide +kernel
theorem dl_406 : decode code 406 = .ok (.i2l, 1) := by decide +kernel
theorem dl_407 : decode code 407 = .ok (.bipush 32, 2) := by decide +kernel
theorem dl_409 : decode code 409 = .ok (.lshl, 1) := by decide +kernel
theorem dl_410 : decode code 410 = .ok (.aload_n 0, 1) := by decide +kernel
theorem dl_411 : decode code 411 = .ok (.iload 4, 2) := by decide +kernel
theorem dl_413 : decode code 413 = .ok (.iconst 2, 1) := by decide +kernel
theorem dl_414 : decode code 414 = .ok (.iadd, 1) := by decide +kernel
theorem dl_415 : decode code 415 = .ok (.iaload, 1) := by decide +kernel
theorem dl_416 : decode code 416 = .ok (.i2l, 1) := by decide +kernel
theorem dl_417 : decode code 417 = .ok (.ldc2_w 61, 3) := by decide +kernel
theorem dl_420 : decode code 420 = .ok (.land, 1) := by decide +kernel
theorem dl_421 : decode code 421 = .ok (.lor, 1) := by decide +kernel
theorem dl_422 : decode code 422 = .ok (.aload_n 0, 1) := by decide +kernel
theorem dl_423 : decode code 423 = .ok (.iload 4, 2) := by decide +kernel
theorem dl_425 : decode code 425 = .ok (.iconst 3, 1) := by decide +kernel
theorem dl_426 : decode code 426 = .ok (.iadd, 1) := by decide +kernel
theorem dl_427 : decode code 427 = .ok (.iaload, 1) := by decide +kernel
theorem dl_428 : decode code 428 = .ok (.aload_n 3, 1) := by decide +kernel
theorem dl_429 : decode code 429 = .ok (.invokestatic 91, 3) := by decide +kernel
theorem dl_432 : decode code 432 = .ok (.istore 5, 2) := by decide +kernel
theorem dl_434 : decode code 434 = .ok (.aload_n 2, 1) := by decide +kernel
theorem dl_435 : decode code 435 = .ok (.aload_n 0, 1) := by decide +kernel
theorem dl_436 : decode code 436 = .ok (.iload 4, 2) := by decide +kernel
theorem dl_438 : decode code 438 = .ok (.iconst 1, 1) := by decide +kernel
theorem dl_439 : decode code 439 = .ok (.iadd, 1) := by decide +kernel
theorem dl_440 : decode code 440 = .ok (.iaload, 1) := by decide +kernel
theorem dl_441 : decode code 441 = .ok (.i2l, 1) := by decide +kernel
theorem dl_442 : decode code 442 = .ok (.bipush 32, 2) := by decide +kernel
theorem dl_444 : decode code 444 = .ok (.lshl, 1) := by decide +kernel
theorem dl_445 : decode code 445 = .ok (.aload_n 0, 1) := by decide +kernel
theorem dl_446 : decode code 446 = .ok (.iload 4, 2) := by decide +kernel
theorem dl_448 : decode code 448 = .ok (.iconst 2, 1) := by decide +kernel
theorem dl_449 : decode code 449 = .ok (.iadd, 1) := by decide +kernel
theorem dl_450 : decode code 450 = .ok (.iaload, 1) := by decide +kernel
theorem dl_451 : decode code 451 = .ok (.i2l, 1) := by decide +kernel
theorem dl_452 : decode code 452 = .ok (.ldc2_w 61, 3) := by decide +kernel
theorem dl_455 : decode code 455 = .ok (.land, 1) := by decide +kernel
theorem dl_456 : decode code 456 = .ok (.lor, 1) := by decide +kernel
theorem dl_457 : decode code 457 = .ok (.aload_n 0, 1) := by decide +kernel
theorem dl_458 : decode code 458 = .ok (.iload 4, 2) := by decide +kernel
theorem dl_460 : decode code 460 = .ok (.iconst 3, 1) := by decide +kernel
theorem dl_461 : decode code 461 = .ok (.iadd, 1) := by decide +kernel
theorem dl_462 : decode code 462 = .ok (.iaload, 1) := by decide +kernel
theorem dl_463 : decode code 463 = .ok (.invokevirtual 94, 3) := by decide +kernel
theorem dl_466 : decode code 466 = .ok (.istore 6, 2) := by decide +kernel
theorem dl_468 : decode code 468 = .ok (.aload_n 2, 1) := by decide +kernel
theorem dl_469 : decode code 469 = .ok (.invokevirtual 81, 3) := by decide +kernel
theorem dl_472 : decode code 472 = .ok (.iload 5, 2) := by decide +kernel
theorem dl_474 : decode code 474 = .ok (.if_icmp .eq 5, 3) := by decide +kernel
theorem dl_477 : decode code 477 = .ok (.iconst 0, 1) := by decide +kernel
theorem dl_478 : decode code 478 = .ok (.ireturn, 1) := by decide +kernel
theorem dl_479 : decode code 479 = .ok (.iload 5, 2) := by decide +kernel
theorem dl_481 : decode code 481 = .ok (.ifCond .ne 15, 3) := by decide +kernel
theorem dl_484 : decode code 484 = .ok (.aload_n 3, 1) := by decide +kernel
theorem dl_485 : decode code 485 = .ok (.iconst 0, 1) := by decide +kernel
theorem dl_486 : decode code 486 = .ok (.laload, 1) := by decide +kernel
theorem dl_487 : decode code 487 = .ok (.iload 6, 2) := by decide +kernel
theorem dl_489 : decode code 489 = .ok (.i2l, 1) := by decide +kernel
theorem dl_490 : decode code 490 = .ok (.lcmp, 1) := by decide +kernel
theorem dl_491 : decode code 491 = .ok (.ifCond .eq 5, 3) := by decide +kernel
theorem dl_494 : decode code 494 = .ok (.iconst 0, 1) := by decide +kernel
theorem dl_495 : decode code 495 = .ok (.ireturn, 1) := by decide +kernel
theorem dl_496 : decode code 496 = .ok (.goto 431, 3) := by decide +kernel
theorem dl_499 : decode code 499 = .ok (.aload_n 1, 1) := by decide +kernel
theorem dl_500 : decode code 500 = .ok (.aload_n 0, 1) := by decide +kernel
theorem dl_501 : decode code 501 = .ok (.iload 4, 2) := by decide +kernel
theorem dl_503 : decode code 503 = .ok (.iconst 1, 1) := by decide +kernel
theorem dl_504 : decode code 504 = .ok (.iadd, 1) := by decide +kernel
theorem dl_505 : decode code 505 = .ok (.iaload, 1) := by decide +kernel
theorem dl_506 : decode code 506 = .ok (.aload_n 0, 1) := by decide +kernel
theorem dl_507 : decode code 507 = .ok (.iload 4, 2) := by decide +kernel
theorem dl_509 : decode code 509 = .ok (.iconst 2, 1) := by decide +kernel
theorem dl_510 : decode code 510 = .ok (.iadd, 1) := by decide +kernel
theorem dl_511 : decode code 511 = .ok (.iaload, 1) := by decide +kernel
theorem dl_512 : decode code 512 = .ok (.invokestatic 95, 3) := by decide +kernel
theorem dl_515 : decode code 515 = .ok (.istore 5, 2) := by decide +kernel
theorem dl_517 : decode code 517 = .ok (.aload_n 2, 1) := by decide +kernel
theorem dl_518 : decode code 518 = .ok (.aload_n 0, 1) := by decide +kernel
theorem dl_519 : decode code 519 = .ok (.iload 4, 2) := by decide +kernel
theorem dl_521 : decode code 521 = .ok (.iconst 1, 1) := by decide +kernel
theorem dl_522 : decode code 522 = .ok (.iadd, 1) := by decide +kernel
theorem dl_523 : decode code 523 = .ok (.iaload, 1) := by decide +kernel
theorem dl_524 : decode code 524 = .ok (.aload_n 0, 1) := by decide +kernel
theorem dl_525 : decode code 525 = .ok (.iload 4, 2) := by decide +kernel
theorem dl_527 : decode code 527 = .ok (.iconst 2, 1) := by decide +kernel
theorem dl_528 : decode code 528 = .ok (.iadd, 1) := by decide +kernel
theorem dl_529 : decode code 529 = .ok (.iaload, 1) := by decide +kernel
theorem dl_530 : decode code 530 = .ok (.invokevirtual 98, 3) := by decide +kernel
theorem dl_533 : decode code 533 = .ok (.aload_n 2, 1) := by decide +kernel
theorem dl_534 : decode code 534 = .ok (.invokevirtual 81, 3) := by decide +kernel
theorem dl_537 : decode code 537 = .ok (.iload 5, 2) := by decide +kernel
theorem dl_539 : decode code 539 = .ok (.if_icmp .eq 5, 3) := by decide +kernel
theorem dl_542 : decode code 542 = .ok (.iconst 0, 1) := by decide +kernel
theorem dl_543 : decode code 543 = .ok (.ireturn, 1) := by decide +kernel
theorem dl_544 : decode code 544 = .ok (.goto 383, 3) := by decide +kernel
theorem dl_547 : decode code 547 = .ok (.aload_n 1, 1) := by decide +kernel
theorem dl_548 : decode code 548 = .ok (.aload_n 3, 1) := by decide +kernel
theorem dl_549 : decode code 549 = .ok (.invokestatic 99, 3) := by decide +kernel
theorem dl_552 : decode code 552 = .ok (.istore 5, 2) := by decide +kernel
theorem dl_554 : decode code 554 = .ok (.aload_n 2, 1) := by decide +kernel
theorem dl_555 : decode code 555 = .ok (.invokevirtual 102, 3) := by decide +kernel
theorem dl_558 : decode code 558 = .ok (.istore 6, 2) := by decide +kernel
theorem dl_560 : decode code 560 = .ok (.aload_n 2, 1) := by decide +kernel
theorem dl_561 : decode code 561 = .ok (.invokevirtual 81, 3) := by decide +kernel
theorem dl_564 : decode code 564 = .ok (.iload 5, 2) := by decide +kernel
theorem dl_566 : decode code 566 = .ok (.if_icmp .eq 5, 3) := by decide +kernel
theorem dl_569 : decode code 569 = .ok (.iconst 0, 1) := by decide +kernel
theorem dl_570 : decode code 570 = .ok (.ireturn, 1) := by decide +kernel
theorem dl_571 : decode code 571 = .ok (.iload 5, 2) := by decide +kernel
theorem dl_573 : decode code 573 = .ok (.ifCond .ne 15, 3) := by decide +kernel
theorem dl_576 : decode code 576 = .ok (.aload_n 3, 1) := by decide +kernel
theorem dl_577 : decode code 577 = .ok (.iconst 0, 1) := by decide +kernel
theorem dl_578 : decode code 578 = .ok (.laload, 1) := by decide +kernel
theorem dl_579 : decode code 579 = .ok (.iload 6, 2) := by decide +kernel
theorem dl_581 : decode code 581 = .ok (.i2l, 1) := by decide +kernel
theorem dl_582 : decode code 582 = .ok (.lcmp, 1) := by decide +kernel
theorem dl_583 : decode code 583 = .ok (.ifCond .eq 5, 3) := by decide +kernel
theorem dl_586 : decode code 586 = .ok (.iconst 0, 1) := by decide +kernel
theorem dl_587 : decode code 587 = .ok (.ireturn, 1) := by decide +kernel
theorem dl_588 : decode code 588 = .ok (.goto 339, 3) := by decide +kernel
theorem dl_591 : decode code 591 = .ok (.aload_n 1, 1) := by decide +kernel
theorem dl_592 : decode code 592 = .ok (.aload_n 0, 1) := by decide +kernel
theorem dl_593 : decode code 593 = .ok (.iload 4, 2) := by decide +kernel
theorem dl_595 : decode code 595 = .ok (.iconst 1, 1) := by decide +kernel
theorem dl_596 : decode code 596 = .ok (.iadd, 1) := by decide +kernel
theorem dl_597 : decode code 597 = .ok (.iaload, 1) := by decide +kernel
theorem dl_598 : decode code 598 = .ok (.aload_n 3, 1) := by decide +kernel
theorem dl_599 : decode code 599 = .ok (.invokestatic 103, 3) := by decide +kernel
theorem dl_602 : decode code 602 = .ok (.istore 5, 2) := by decide +kernel
theorem dl_604 : decode code 604 = .ok (.aload_n 2, 1) := by decide +kernel
theorem dl_605 : decode code 605 = .ok (.aload_n 0, 1) := by decide +kernel
theorem dl_606 : decode code 606 = .ok (.iload 4, 2) := by decide +kernel
theorem dl_608 : decode code 608 = .ok (.iconst 1, 1) := by decide +kernel
theorem dl_609 : decode code 609 = .ok (.iadd, 1) := by decide +kernel
theorem dl_610 : decode code 610 = .ok (.iaload, 1) := by decide +kernel
theorem dl_611 : decode code 611 = .ok (.invokevirtual 105, 3) := by decide +kernel
theorem dl_614 : decode code 614 = .ok (.istore 6, 2) := by decide +kernel
theorem dl_616 : decode code 616 = .ok (.aload_n 2, 1) := by decide +kernel
theorem dl_617 : decode code 617 = .ok (.invokevirtual 81, 3) := by decide +kernel
theorem dl_620 : decode code 620 = .ok (.iload 5, 2) := by decide +kernel
theorem dl_622 : decode code 622 = .ok (.if_icmp .eq 5, 3) := by decide +kernel
theorem dl_625 : decode code 625 = .ok (.iconst 0, 1) := by decide +kernel
theorem dl_626 : decode code 626 = .ok (.ireturn, 1) := by decide +kernel
theorem dl_627 : decode code 627 = .ok (.iload 5, 2) := by decide +kernel
theorem dl_629 : decode code 629 = .ok (.ifCond .ne 15, 3) := by decide +kernel
theorem dl_632 : decode code 632 = .ok (.aload_n 3, 1) := by decide +kernel
theorem dl_633 : decode code 633 = .ok (.iconst 0, 1) := by decide +kernel
theorem dl_634 : decode code 634 = .ok (.laload, 1) := by decide +kernel
theorem dl_635 : decode code 635 = .ok (.iload 6, 2) := by decide +kernel
theorem dl_637 : decode code 637 = .ok (.i2l, 1) := by decide +kernel
theorem dl_638 : decode code 638 = .ok (.lcmp, 1) := by decide +kernel
theorem dl_639 : decode code 639 = .ok (.ifCond .eq 5, 3) := by decide +kernel
theorem dl_642 : decode code 642 = .ok (.iconst 0, 1) := by decide +kernel
theorem dl_643 : decode code 643 = .ok (.ireturn, 1) := by decide +kernel
theorem dl_644 : decode code 644 = .ok (.goto 283, 3) := by decide +kernel
theorem dl_647 : decode code 647 = .ok (.aload_n 1, 1) := by decide +kernel
theorem dl_648 : decode code 648 = .ok (.aload_n 0, 1) := by decide +kernel
theorem dl_649 : decode code 649 = .ok (.iload 4, 2) := by decide +kernel
theorem dl_651 : decode code 651 = .ok (.iconst 1, 1) := by decide +kernel
theorem dl_652 : decode code 652 = .ok (.iadd, 1) := by decide +kernel
theorem dl_653 : decode code 653 = .ok (.iaload, 1) := by decide +kernel
theorem dl_654 : decode code 654 = .ok (.aload_n 3, 1) := by decide +kernel
theorem dl_655 : decode code 655 = .ok (.invokestatic 106, 3) := by decide +kernel
theorem dl_658 : decode code 658 = .ok (.istore 5, 2) := by decide +kernel
theorem dl_660 : decode code 660 = .ok (.aload_n 2, 1) := by decide +kernel
theorem dl_661 : decode code 661 = .ok (.aload_n 0, 1) := by decide +kernel
theorem dl_662 : decode code 662 = .ok (.iload 4, 2) := by decide +kernel
theorem dl_664 : decode code 664 = .ok (.iconst 1, 1) := by decide +kernel
theorem dl_665 : decode code 665 = .ok (.iadd, 1) := by decide +kernel
theorem dl_666 : decode code 666 = .ok (.iaload, 1) := by decide +kernel
theorem dl_667 : decode code 667 = .ok (.invokevirtual 108, 3) := by decide +kernel
theorem dl_670 : decode code 670 = .ok (.istore 6, 2) := by decide +kernel
theorem dl_672 : decode code 672 = .ok (.aload_n 2, 1) := by decide +kernel
theorem dl_673 : decode code 673 = .ok (.invokevirtual 81, 3) := by decide +kernel
theorem dl_676 : decode code 676 = .ok (.iload 5, 2) := by decide +kernel
theorem dl_678 : decode code 678 = .ok (.if_icmp .eq 5, 3) := by decide +kernel
theorem dl_681 : decode code 681 = .ok (.iconst 0, 1) := by decide +kernel
theorem dl_682 : decode code 682 = .ok (.ireturn, 1) := by decide +kernel
theorem dl_683 : decode code 683 = .ok (.iload 5, 2) := by decide +kernel
theorem dl_685 : decode code 685 = .ok (.ifCond .ne 15, 3) := by decide +kernel
theorem dl_688 : decode code 688 = .ok (.aload_n 3, 1) := by decide +kernel
theorem dl_689 : decode code 689 = .ok (.iconst 0, 1) := by decide +kernel
theorem dl_690 : decode code 690 = .ok (.laload, 1) := by decide +kernel
theorem dl_691 : decode code 691 = .ok (.iload 6, 2) := by decide +kernel
theorem dl_693 : decode code 693 = .ok (.i2l, 1) := by decide +kernel
theorem dl_694 : decode code 694 = .ok (.lcmp, 1) := by decide +kernel
theorem dl_695 : decode code 695 = .ok (.ifCond .eq 5, 3) := by decide +kernel
theorem dl_698 : decode code 698 = .ok (.iconst 0, 1) := by decide +kernel
theorem dl_699 : decode code 699 = .ok (.ireturn, 1) := by decide +kernel
theorem dl_700 : decode code 700 = .ok (.goto 227, 3) := by decide +kernel
theorem dl_703 : decode code 703 = .ok (.aload_n 1, 1) := by decide +kernel
theorem dl_704 : decode code 704 = .ok (.aload_n 3, 1) := by decide +kernel
theorem dl_705 : decode code 705 = .ok (.invokestatic 109, 3) := by decide +kernel
theorem dl_708 : decode code 708 = .ok (.istore 5, 2) := by decide +kernel
theorem dl_710 : decode code 710 = .ok (.aload_n 2, 1) := by decide +kernel
theorem dl_711 : decode code 711 = .ok (.invokevirtual 111, 3) := by decide +kernel
theorem dl_714 : decode code 714 = .ok (.istore 6, 2) := by decide +kernel
theorem dl_716 : decode code 716 = .ok (.aload_n 2, 1) := by decide +kernel
theorem dl_717 : decode code 717 = .ok (.invokevirtual 81, 3) := by decide +kernel
theorem dl_720 : decode code 720 = .ok (.iload 5, 2) := by decide +kernel
theorem dl_722 : decode code 722 = .ok (.if_icmp .eq 5, 3) := by decide +kernel
theorem dl_725 : decode code 725 = .ok (.iconst 0, 1) := by decide +kernel
theorem dl_726 : decode code 726 = .ok (.ireturn, 1) := by decide +kernel
theorem dl_727 : decode code 727 = .ok (.iload 5, 2) := by decide +kernel
theorem dl_729 : decode code 729 = .ok (.ifCond .ne 15, 3) := by decide +kernel
theorem dl_732 : decode code 732 = .ok (.aload_n 3, 1) := by decide +kernel
theorem dl_733 : decode code 733 = .ok (.iconst 0, 1) := by decide +kernel
theorem dl_734 : decode code 734 = .ok (.laload, 1) := by decide +kernel
theorem dl_735 : decode code 735 = .ok (.iload 6, 2) := by decide +kernel
theorem dl_737 : decode code 737 = .ok (.i2l, 1) := by decide +kernel
theorem dl_738 : decode code 738 = .ok (.lcmp, 1) := by decide +kernel
theorem dl_739 : decode code 739 = .ok (.ifCond .eq 5, 3) := by decide +kernel
theorem dl_742 : decode code 742 = .ok (.iconst 0, 1) := by decide +kernel
theorem dl_743 : decode code 743 = .ok (.ireturn, 1) := by decide +kernel
theorem dl_744 : decode code 744 = .ok (.goto 183, 3) := by decide +kernel
theorem dl_747 : decode code 747 = .ok (.aload_n 1, 1) := by decide +kernel
theorem dl_748 : decode code 748 = .ok (.aload_n 0, 1) := by decide +kernel
theorem dl_749 : decode code 749 = .ok (.iload 4, 2) := by decide +kernel
theorem dl_751 : decode code 751 = .ok (.iconst 1, 1) := by decide +kernel
theorem dl_752 : decode code 752 = .ok (.iadd, 1) := by decide +kernel
theorem dl_753 : decode code 753 = .ok (.iaload, 1) := by decide +kernel
theorem dl_754 : decode code 754 = .ok (.aload_n 0, 1) := by decide +kernel
theorem dl_755 : decode code 755 = .ok (.iload 4, 2) := by decide +kernel
theorem dl_757 : decode code 757 = .ok (.iconst 2, 1) := by decide +kernel
theorem dl_758 : decode code 758 = .ok (.iadd, 1) := by decide +kernel
theorem dl_759 : decode code 759 = .ok (.iaload, 1) := by decide +kernel
theorem dl_760 : decode code 760 = .ok (.aload_n 3, 1) := by decide +kernel
theorem dl_761 : decode code 761 = .ok (.invokestatic 112, 3) := by decide +kernel
theorem dl_764 : decode code 764 = .ok (.istore 5, 2) := by decide +kernel
theorem dl_766 : decode code 766 = .ok (.aload_n 2, 1) := by decide +kernel
theorem dl_767 : decode code 767 = .ok (.aload_n 0, 1) := by decide +kernel
theorem dl_768 : decode code 768 = .ok (.iload 4, 2) := by decide +kernel
theorem dl_770 : decode code 770 = .ok (.iconst 1, 1) := by decide +kernel
theorem dl_771 : decode code 771 = .ok (.iadd, 1) := by decide +kernel
theorem dl_772 : decode code 772 = .ok (.iaload, 1) := by decide +kernel
theorem dl_773 : decode code 773 = .ok (.aload_n 0, 1) := by decide +kernel
theorem dl_774 : decode code 774 = .ok (.iload 4, 2) := by decide +kernel
theorem dl_776 : decode code 776 = .ok (.iconst 2, 1) := by decide +kernel
theorem dl_777 : decode code 777 = .ok (.iadd, 1) := by decide +kernel
theorem dl_778 : decode code 778 = .ok (.iaload, 1) := by decide +kernel
theorem dl_779 : decode code 779 = .ok (.invokevirtual 115, 3) := by decide +kernel
theorem dl_782 : decode code 782 = .ok (.istore 6, 2) := by decide +kernel
theorem dl_784 : decode code 784 = .ok (.aload_n 2, 1) := by decide +kernel
theorem dl_785 : decode code 785 = .ok (.invokevirtual 81, 3) := by decide +kernel
theorem dl_788 : decode code 788 = .ok (.iload 5, 2) := by decide +kernel
theorem dl_790 : decode code 790 = .ok (.if_icmp .eq 5, 3) := by decide +kernel
theorem dl_793 : decode code 793 = .ok (.iconst 0, 1) := by decide +kernel
theorem dl_794 : decode code 794 = .ok (.ireturn, 1) := by decide +kernel
theorem dl_795 : decode code 795 = .ok (.iload 5, 2) := by decide +kernel
theorem dl_797 : decode code 797 = .ok (.ifCond .ne 15, 3) := by decide +kernel
theorem dl_800 : decode code 800 = .ok (.aload_n 3, 1) := by decide +kernel
theorem dl_801 : decode code 801 = .ok (.iconst 0, 1) := by decide +kernel
theorem dl_802 : decode code 802 = .ok (.laload, 1) := by decide +kernel
theorem dl_803 : decode code 803 = .ok (.iload 6, 2) := by decide +kernel
theorem dl_805 : decode code 805 = .ok (.i2l, 1) := by decide +kernel
theorem dl_806 : decode code 806 = .ok (.lcmp, 1) := by decide +kernel
theorem dl_807 : decode code 807 = .ok (.ifCond .eq 5, 3) := by decide +kernel
theorem dl_810 : decode code 810 = .ok (.iconst 0, 1) := by decide +kernel
theorem dl_811 : decode code 811 = .ok (.ireturn, 1) := by decide +kernel
theorem dl_812 : decode code 812 = .ok (.goto 115, 3) := by decide +kernel
theorem dl_815 : decode code 815 = .ok (.aload_n 1, 1) := by decide +kernel
theorem dl_816 : decode code 816 = .ok (.aload_n 0, 1) := by decide +kernel
theorem dl_817 : decode code 817 = .ok (.iload 4, 2) := by decide +kernel
theorem dl_819 : decode code 819 = .ok (.iconst 1, 1) := by decide +kernel
theorem dl_820 : decode code 820 = .ok (.iadd, 1) := by decide +kernel
theorem dl_821 : decode code 821 = .ok (.iaload, 1) := by decide +kernel
theorem dl_822 : decode code 822 = .ok (.aload_n 0, 1) := by decide +kernel
theorem dl_823 : decode code 823 = .ok (.iload 4, 2) := by decide +kernel
theorem dl_825 : decode code 825 = .ok (.iconst 2, 1) := by decide +kernel
theorem dl_826 : decode code 826 = .ok (.iadd, 1) := by decide +kernel
theorem dl_827 : decode code 827 = .ok (.iaload, 1) := by decide +kernel
theorem dl_828 : decode code 828 = .ok (.aload_n 3, 1) := by decide +kernel
theorem dl_829 : decode code 829 = .ok (.invokestatic 116, 3) := by decide +kernel
theorem dl_832 : decode code 832 = .ok (.istore 5, 2) := by decide +kernel
theorem dl_834 : decode code 834 = .ok (.aload_n 2, 1) := by decide +kernel
theorem dl_835 : decode code 835 = .ok (.aload_n 0, 1) := by decide +kernel
theorem dl_836 : decode code 836 = .ok (.iload 4, 2) := by decide +kernel
theorem dl_838 : decode code 838 = .ok (.iconst 1, 1) := by decide +kernel
theorem dl_839 : decode code 839 = .ok (.iadd, 1) := by decide +kernel
theorem dl_840 : decode code 840 = .ok (.iaload, 1) := by decide +kernel
theorem dl_841 : decode code 841 = .ok (.aload_n 0, 1) := by decide +kernel
theorem dl_842 : decode code 842 = .ok (.iload 4, 2) := by decide +kernel
theorem dl_844 : decode code 844 = .ok (.iconst 2, 1) := by decide +kernel
theorem dl_845 : decode code 845 = .ok (.iadd, 1) := by decide +kernel
theorem dl_846 : decode code 846 = .ok (.iaload, 1) := by decide +kernel
theorem dl_847 : decode code 847 = .ok (.invokevirtual 118, 3) := by decide +kernel
theorem dl_850 : decode code 850 = .ok (.istore 6, 2) := by decide +kernel
theorem dl_852 : decode code 852 = .ok (.aload_n 2, 1) := by decide +kernel
theorem dl_853 : decode code 853 = .ok (.invokevirtual 81, 3) := by decide +kernel
theorem dl_856 : decode code 856 = .ok (.iload 5, 2) := by decide +kernel
theorem dl_858 : decode code 858 = .ok (.if_icmp .eq 5, 3) := by decide +kernel
theorem dl_861 : decode code 861 = .ok (.iconst 0, 1) := by decide +kernel
theorem dl_862 : decode code 862 = .ok (.ireturn, 1) := by decide +kernel
theorem dl_863 : decode code 863 = .ok (.iload 5, 2) := by decide +kernel
theorem dl_865 : decode code 865 = .ok (.ifCond .ne 15, 3) := by decide +kernel
theorem dl_868 : decode code 868 = .ok (.aload_n 3, 1) := by decide +kernel
theorem dl_869 : decode code 869 = .ok (.iconst 0, 1) := by decide +kernel
theorem dl_870 : decode code 870 = .ok (.laload, 1) := by decide +kernel
theorem dl_871 : decode code 871 = .ok (.iload 6, 2) := by decide +kernel
theorem dl_873 : decode code 873 = .ok (.i2l, 1) := by decide +kernel
theorem dl_874 : decode code 874 = .ok (.lcmp, 1) := by decide +kernel
theorem dl_875 : decode code 875 = .ok (.ifCond .eq 5, 3) := by decide +kernel
theorem dl_878 : decode code 878 = .ok (.iconst 0, 1) := by decide +kernel
theorem dl_879 : decode code 879 = .ok (.ireturn, 1) := by decide +kernel
theorem dl_880 : decode code 880 = .ok (.goto 47, 3) := by decide +kernel
theorem dl_883 : decode code 883 = .ok (.aload_n 1, 1) := by decide +kernel
theorem dl_884 : decode code 884 = .ok (.aload_n 3, 1) := by decide +kernel
theorem dl_885 : decode code 885 = .ok (.invokestatic 119, 3) := by decide +kernel
theorem dl_888 : decode code 888 = .ok (.istore 5, 2) := by decide +kernel
theorem dl_890 : decode code 890 = .ok (.aload_n 2, 1) := by decide +kernel
theorem dl_891 : decode code 891 = .ok (.invokevirtual 121, 3) := by decide +kernel
theorem dl_894 : decode code 894 = .ok (.istore 6, 2) := by decide +kernel
theorem dl_896 : decode code 896 = .ok (.aload_n 2, 1) := by decide +kernel
theorem dl_897 : decode code 897 = .ok (.invokevirtual 81, 3) := by decide +kernel
theorem dl_900 : decode code 900 = .ok (.iload 5, 2) := by decide +kernel
theorem dl_902 : decode code 902 = .ok (.if_icmp .eq 5, 3) := by decide +kernel
theorem dl_905 : decode code 905 = .ok (.iconst 0, 1) := by decide +kernel
theorem dl_906 : decode code 906 = .ok (.ireturn, 1) := by decide +kernel
theorem dl_907 : decode code 907 = .ok (.iload 5, 2) := by decide +kernel
theorem dl_909 : decode code 909 = .ok (.ifCond .ne 15, 3) := by decide +kernel
theorem dl_912 : decode code 912 = .ok (.aload_n 3, 1) := by decide +kernel
theorem dl_913 : decode code 913 = .ok (.iconst 0, 1) := by decide +kernel
theorem dl_914 : decode code 914 = .ok (.laload, 1) := by decide +kernel
theorem dl_915 : decode code 915 = .ok (.iload 6, 2) := by decide +kernel
theorem dl_917 : decode code 917 = .ok (.i2l, 1) := by decide +kernel
theorem dl_918 : decode code 918 = .ok (.lcmp, 1) := by decide +kernel
theorem dl_919 : decode code 919 = .ok (.ifCond .eq 5, 3) := by decide +kernel
theorem dl_922 : decode code 922 = .ok (.iconst 0, 1) := by decide +kernel
theorem dl_923 : decode code 923 = .ok (.ireturn, 1) := by decide +kernel
theorem dl_924 : decode code 924 = .ok (.goto 3, 3) := by decide +kernel
theorem dl_927 : decode code 927 = .ok (.iinc 4 4, 3) := by decide +kernel
theorem dl_930 : decode code 930 = .ok (.goto (-907), 3) := by decide +kernel
theorem dl_933 : decode code 933 = .ok (.iconst 1, 1) := by decide +kernel
theorem dl_934 : decode code 934 = .ok (.ireturn, 1) := by decide +kernel
