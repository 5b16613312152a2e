def R_law : String := "ProtocolAtlasLaw"
def lw_P (b : Addr) (xs : List Int32) (args : Array Value) (s : State) : Prop := args = #[.ref b] ∧ s.IntsAt b xs ∧ xs.length ≤ 3072 ∧ (Jvm.Cond.and given_1 narrow_1).before args s = true
def lw_Q (_ : Array Value) (s : State) (o : Outcome) (t : State) : Prop := o = .returned (some (.int 1)) ∧ Framed s o t [] 600000 7302250
def lw_Z (below : List Frame) (a : Array Value) (s : State) : State → Prop := fun t => ∃ o, t.status = .running ∧ Ended t below o ∧ lw_Q a s o t
/-- the law's own end, with 1 on the stack, nothing written that was there before, its room as the claim has it -/
theorem lw_ret {p : Program} {l : Launch} {e : Env} {s : State} {m : MethodId} {below : List Frame} {meth : Method} {c : Code} {b : Nat} (hx : p.tables.exec = Jvm.exec) (hb : c.code = code) (hr : meth.sig.returnType = ret) (hlocks : meth.locks = false) {pc : Nat} {H : Heap} {ls : Array Slot} (hdg : decode code pc = .ok (.ireturn, 1)) : W p l e room_1 s m #[Value.ref b] below meth c H [] 600000 7302250 (lw_Z below #[Value.ref b] s) (F0 m pc ls [.int 1]) := by
  intro T hT X
  obtain ⟨fs, hret, hrun, hended, hW, hframe⟩ := X.leave (v := some (.int 1)) (hlocks := hlocks) (fun h => by rw [hr] at h; cases h)
  have hmeth' : T.vm.method? m = some meth := X.method'
  refine ⟨T.setFrames fs, ?_, .returned (some (.int 1)), hrun, hended, rfl, ⟨_, rfl⟩, hW, hframe⟩
  jvm_step X.here [X.here.top, hx, hb, hdg, hmeth', hr, ret, narrow_b1]
  (try refine ⟨rfl, ?_⟩); (try refine ⟨rfl, ?_⟩)
  first | (intro acts; rw [hret _ acts rfl rfl rfl]) | rw [hret _ _ rfl rfl rfl]
  exact Steps.refl _
/-- what holds at the law's entry: the machine, the code, the tables' words (any of lw_tbl by 'hts w (by decide +kernel)'), the script of L ints xs at the cell b, what the Statement gives of the start (any of its parts by flat_of_before) -/
def lw_At (p : Program) (s : State) (m : MethodId) (meth : Method) (c : Code) (b L : Nat) (xs : Nat → Int32) : Prop :=
  p.tables.exec = Jvm.exec ∧ c.code = code ∧ meth.sig.returnType = ret ∧ c.maxLocals = 4 ∧ s.vm.findClass R_law = some m.cls ∧ (∀ w ∈ lw_tbl, w.before #[Value.ref b] s = true) ∧ va_X b L xs s s.heap ∧ b < s.heap.size ∧ meth.locks = false ∧ (Jvm.Cond.and given_1 narrow_1).before #[Value.ref b] s = true

theorem d_law_0 : decode code 0 = .ok (.new 7, 3) := by decide +kernel
theorem d_law_3 : decode code 3 = .ok (.dup, 1) := by decide +kernel
theorem d_law_4 : decode code 4 = .ok (.invokespecial 9, 3) := by decide +kernel
theorem d_law_7 : decode code 7 = .ok (.astore_n 1, 1) := by decide +kernel
theorem d_law_8 : decode code 8 = .ok (.new 10, 3) := by decide +kernel
theorem d_law_11 : decode code 11 = .ok (.dup, 1) := by decide +kernel
theorem d_law_12 : decode code 12 = .ok (.invokespecial 12, 3) := by decide +kernel
theorem d_law_15 : decode code 15 = .ok (.astore_n 2, 1) := by decide +kernel
theorem d_law_16 : decode code 16 = .ok (.iconst 0, 1) := by decide +kernel
theorem d_law_17 : decode code 17 = .ok (.istore_n 3, 1) := by decide +kernel
theorem d_law_18 : decode code 18 = .ok (.iload_n 3, 1) := by decide +kernel
theorem d_law_19 : decode code 19 = .ok (.aload_n 0, 1) := by decide +kernel
theorem d_law_20 : decode code 20 = .ok (.arraylength, 1) := by decide +kernel
theorem d_law_21 : decode code 21 = .ok (.bipush 6, 2) := by decide +kernel
theorem d_law_23 : decode code 23 = .ok (.isub, 1) := by decide +kernel
theorem d_law_24 : decode code 24 = .ok (.if_icmp .gt 1068, 3) := by decide +kernel
theorem d_law_27 : decode code 27 = .ok (.aload_n 0, 1) := by decide +kernel
theorem d_law_28 : decode code 28 = .ok (.iload_n 3, 1) := by decide +kernel
theorem d_law_29 : decode code 29 = .ok (.iaload, 1) := by decide +kernel
theorem d_law_30 : decode code 30 = .ok (.bipush 63, 2) := by decide +kernel
theorem d_law_32 : decode code 32 = .ok (.iand, 1) := by decide +kernel
theorem d_law_33 : decode code 33 = .ok (.tableswitch 1053 0 33 #[151, 214, 237, 250, 273, 296, 339, 372, 405, 448, 491, 534, 557, 590, 603, 626, 649, 682, 695, 728, 761, 794, 817, 840, 853, 876, 899, 922, 945, 968, 981, 994, 1017, 1030], 151) := by decide +kernel
theorem d_law_184 : decode code 184 = .ok (.aload_n 1, 1) := by decide +kernel
theorem d_law_185 : decode code 185 = .ok (.aload_n 0, 1) := by decide +kernel
theorem d_law_186 : decode code 186 = .ok (.iload_n 3, 1) := by decide +kernel
theorem d_law_187 : decode code 187 = .ok (.iconst 1, 1) := by decide +kernel
theorem d_law_188 : decode code 188 = .ok (.iadd, 1) := by decide +kernel
theorem d_law_189 : decode code 189 = .ok (.iaload, 1) := by decide +kernel
theorem d_law_190 : decode code 190 = .ok (.aload_n 0, 1) := by decide +kernel
theorem d_law_191 : decode code 191 = .ok (.iload_n 3, 1) := by decide +kernel
theorem d_law_192 : decode code 192 = .ok (.iconst 2, 1) := by decide +kernel
theorem d_law_193 : decode code 193 = .ok (.iadd, 1) := by decide +kernel
theorem d_law_194 : decode code 194 = .ok (.iaload, 1) := by decide +kernel
theorem d_law_195 : decode code 195 = .ok (.aload_n 0, 1) := by decide +kernel
theorem d_law_196 : decode code 196 = .ok (.iload_n 3, 1) := by decide +kernel
theorem d_law_197 : decode code 197 = .ok (.iconst 3, 1) := by decide +kernel
theorem d_law_198 : decode code 198 = .ok (.iadd, 1) := by decide +kernel
theorem d_law_199 : decode code 199 = .ok (.iaload, 1) := by decide +kernel
theorem d_law_200 : decode code 200 = .ok (.aload_n 0, 1) := by decide +kernel
theorem d_law_201 : decode code 201 = .ok (.iload_n 3, 1) := by decide +kernel
theorem d_law_202 : decode code 202 = .ok (.iconst 4, 1) := by decide +kernel
theorem d_law_203 : decode code 203 = .ok (.iadd, 1) := by decide +kernel
theorem d_law_204 : decode code 204 = .ok (.iaload, 1) := by decide +kernel
theorem d_law_205 : decode code 205 = .ok (.aload_n 0, 1) := by decide +kernel
theorem d_law_206 : decode code 206 = .ok (.iload_n 3, 1) := by decide +kernel
theorem d_law_207 : decode code 207 = .ok (.iconst 5, 1) := by decide +kernel
theorem d_law_208 : decode code 208 = .ok (.iadd, 1) := by decide +kernel
theorem d_law_209 : decode code 209 = .ok (.iaload, 1) := by decide +kernel
theorem d_law_210 : decode code 210 = .ok (.invokevirtual 13, 3) := by decide +kernel
theorem d_law_213 : decode code 213 = .ok (.aload_n 2, 1) := by decide +kernel
theorem d_law_214 : decode code 214 = .ok (.aload_n 0, 1) := by decide +kernel
theorem d_law_215 : decode code 215 = .ok (.iload_n 3, 1) := by decide +kernel
theorem d_law_216 : decode code 216 = .ok (.iconst 1, 1) := by decide +kernel
theorem d_law_217 : decode code 217 = .ok (.iadd, 1) := by decide +kernel
theorem d_law_218 : decode code 218 = .ok (.iaload, 1) := by decide +kernel
theorem d_law_219 : decode code 219 = .ok (.aload_n 0, 1) := by decide +kernel
theorem d_law_220 : decode code 220 = .ok (.iload_n 3, 1) := by decide +kernel
theorem d_law_221 : decode code 221 = .ok (.iconst 2, 1) := by decide +kernel
theorem d_law_222 : decode code 222 = .ok (.iadd, 1) := by decide +kernel
theorem d_law_223 : decode code 223 = .ok (.iaload, 1) := by decide +kernel
theorem d_law_224 : decode code 224 = .ok (.aload_n 0, 1) := by decide +kernel
theorem d_law_225 : decode code 225 = .ok (.iload_n 3, 1) := by decide +kernel
theorem d_law_226 : decode code 226 = .ok (.iconst 3, 1) := by decide +kernel
theorem d_law_227 : decode code 227 = .ok (.iadd, 1) := by decide +kernel
theorem d_law_228 : decode code 228 = .ok (.iaload, 1) := by decide +kernel
theorem d_law_229 : decode code 229 = .ok (.aload_n 0, 1) := by decide +kernel
theorem d_law_230 : decode code 230 = .ok (.iload_n 3, 1) := by decide +kernel
theorem d_law_231 : decode code 231 = .ok (.iconst 4, 1) := by decide +kernel
theorem d_law_232 : decode code 232 = .ok (.iadd, 1) := by decide +kernel
theorem d_law_233 : decode code 233 = .ok (.iaload, 1) := by decide +kernel
theorem d_law_234 : decode code 234 = .ok (.aload_n 0, 1) := by decide +kernel
theorem d_law_235 : decode code 235 = .ok (.iload_n 3, 1) := by decide +kernel
theorem d_law_236 : decode code 236 = .ok (.iconst 5, 1) := by decide +kernel
theorem d_law_237 : decode code 237 = .ok (.iadd, 1) := by decide +kernel
theorem d_law_238 : decode code 238 = .ok (.iaload, 1) := by decide +kernel
theorem d_law_239 : decode code 239 = .ok (.invokevirtual 17, 3) := by decide +kernel
theorem d_law_242 : decode code 242 = .ok (.if_icmp .eq 844, 3) := by decide +kernel
theorem d_law_245 : decode code 245 = .ok (.iconst 0, 1) := by decide +kernel
theorem d_law_246 : decode code 246 = .ok (.ireturn, 1) := by decide +kernel
theorem d_law_247 : decode code 247 = .ok (.aload_n 1, 1) := by decide +kernel
theorem d_law_248 : decode code 248 = .ok (.aload_n 0, 1) := by decide +kernel
theorem d_law_249 : decode code 249 = .ok (.iload_n 3, 1) := by decide +kernel
theorem d_law_250 : decode code 250 = .ok (.iconst 1, 1) := by decide +kernel
theorem d_law_251 : decode code 251 = .ok (.iadd, 1) := by decide +kernel
theorem d_law_252 : decode code 252 = .ok (.iaload, 1) := by decide +kernel
theorem d_law_253 : decode code 253 = .ok (.invokevirtual 18, 3) := by decide +kernel
theorem d_law_256 : decode code 256 = .ok (.aload_n 2, 1) := by decide +kernel
theorem d_law_257 : decode code 257 = .ok (.aload_n 0, 1) := by decide +kernel
theorem d_law_258 : decode code 258 = .ok (.iload_n 3, 1) := by decide +kernel
theorem d_law_259 : decode code 259 = .ok (.iconst 1, 1) := by decide +kernel
theorem d_law_260 : decode code 260 = .ok (.iadd, 1) := by decide +kernel
theorem d_law_261 : decode code 261 = .ok (.iaload, 1) := by decide +kernel
theorem d_law_262 : decode code 262 = .ok (.invokevirtual 22, 3) := by decide +kernel
theorem d_law_265 : decode code 265 = .ok (.if_icmp .eq 821, 3) := by decide +kernel
theorem d_law_268 : decode code 268 = .ok (.iconst 0, 1) := by decide +kernel
theorem d_law_269 : decode code 269 = .ok (.ireturn, 1) := by decide +kernel
theorem d_law_270 : decode code 270 = .ok (.aload_n 1, 1) := by decide +kernel
theorem d_law_271 : decode code 271 = .ok (.invokevirtual 23, 3) := by decide +kernel
theorem d_law_274 : decode code 274 = .ok (.aload_n 2, 1) := by decide +kernel
theorem d_law_275 : decode code 275 = .ok (.invokevirtual 27, 3) := by decide +kernel
theorem d_law_278 : decode code 278 = .ok (.if_icmp .eq 808, 3) := by decide +kernel
theorem d_law_281 : decode code 281 = .ok (.iconst 0, 1) := by decide +kernel
theorem d_law_282 : decode code 282 = .ok (.ireturn, 1) := by decide +kernel
theorem d_law_283 : decode code 283 = .ok (.aload_n 1, 1) := by decide +kernel
theorem d_law_284 : decode code 284 = .ok (.aload_n 0, 1) := by decide +kernel
theorem d_law_285 : decode code 285 = .ok (.iload_n 3, 1) := by decide +kernel
theorem d_law_286 : decode code 286 = .ok (.iconst 1, 1) := by decide +kernel
theorem d_law_287 : decode code 287 = .ok (.iadd, 1) := by decide +kernel
theorem d_law_288 : decode code 288 = .ok (.iaload, 1) := by decide +kernel
theorem d_law_289 : decode code 289 = .ok (.invokevirtual 28, 3) := by decide +kernel
theorem d_law_292 : decode code 292 = .ok (.aload_n 2, 1) := by decide +kernel
theorem d_law_293 : decode code 293 = .ok (.aload_n 0, 1) := by decide +kernel
theorem d_law_294 : decode code 294 = .ok (.iload_n 3, 1) := by decide +kernel
theorem d_law_295 : decode code 295 = .ok (.iconst 1, 1) := by decide +kernel
theorem d_law_296 : decode code 296 = .ok (.iadd, 1) := by decide +kernel
theorem d_law_297 : decode code 297 = .ok (.iaload, 1) := by decide +kernel
theorem d_law_298 : decode code 298 = .ok (.invokevirtual 32, 3) := by decide +kernel
theorem d_law_301 : decode code 301 = .ok (.if_icmp .eq 785, 3) := by decide +kernel
theorem d_law_304 : decode code 304 = .ok (.iconst 0, 1) := by decide +kernel
theorem d_law_305 : decode code 305 = .ok (.ireturn, 1) := by decide +kernel
theorem d_law_306 : decode code 306 = .ok (.aload_n 1, 1) := by decide +kernel
theorem d_law_307 : decode code 307 = .ok (.aload_n 0, 1) := by decide +kernel
theorem d_law_308 : decode code 308 = .ok (.iload_n 3, 1) := by decide +kernel
theorem d_law_309 : decode code 309 = .ok (.iconst 1, 1) := by decide +kernel
theorem d_law_310 : decode code 310 = .ok (.iadd, 1) := by decide +kernel
theorem d_law_311 : decode code 311 = .ok (.iaload, 1) := by decide +kernel
theorem d_law_312 : decode code 312 = .ok (.invokevirtual 33, 3) := by decide +kernel
theorem d_law_315 : decode code 315 = .ok (.aload_n 2, 1) := by decide +kernel
theorem d_law_316 : decode code 316 = .ok (.aload_n 0, 1) := by decide +kernel
theorem d_law_317 : decode code 317 = .ok (.iload_n 3, 1) := by decide +kernel
theorem d_law_318 : decode code 318 = .ok (.iconst 1, 1) := by decide +kernel
theorem d_law_319 : decode code 319 = .ok (.iadd, 1) := by decide +kernel
theorem d_law_320 : decode code 320 = .ok (.iaload, 1) := by decide +kernel
theorem d_law_321 : decode code 321 = .ok (.invokevirtual 36, 3) := by decide +kernel
theorem d_law_324 : decode code 324 = .ok (.if_icmp .eq 762, 3) := by decide +kernel
theorem d_law_327 : decode code 327 = .ok (.iconst 0, 1) := by decide +kernel
theorem d_law_328 : decode code 328 = .ok (.ireturn, 1) := by decide +kernel
theorem d_law_329 : decode code 329 = .ok (.aload_n 1, 1) := by decide +kernel
theorem d_law_330 : decode code 330 = .ok (.aload_n 0, 1) := by decide +kernel
theorem d_law_331 : decode code 331 = .ok (.iload_n 3, 1) := by decide +kernel
theorem d_law_332 : decode code 332 = .ok (.iconst 1, 1) := by decide +kernel
theorem d_law_333 : decode code 333 = .ok (.iadd, 1) := by decide +kernel
theorem d_law_334 : decode code 334 = .ok (.iaload, 1) := by decide +kernel
theorem d_law_335 : decode code 335 = .ok (.aload_n 0, 1) := by decide +kernel
theorem d_law_336 : decode code 336 = .ok (.iload_n 3, 1) := by decide +kernel
theorem d_law_337 : decode code 337 = .ok (.iconst 2, 1) := by decide +kernel
theorem d_law_338 : decode code 338 = .ok (.iadd, 1) := by decide +kernel
theorem d_law_339 : decode code 339 = .ok (.iaload, 1) := by decide +kernel
theorem d_law_340 : decode code 340 = .ok (.aload_n 0, 1) := by decide +kernel
theorem d_law_341 : decode code 341 = .ok (.iload_n 3, 1) := by decide +kernel
theorem d_law_342 : decode code 342 = .ok (.iconst 3, 1) := by decide +kernel
theorem d_law_343 : decode code 343 = .ok (.iadd, 1) := by decide +kernel
theorem d_law_344 : decode code 344 = .ok (.iaload, 1) := by decide +kernel
theorem d_law_345 : decode code 345 = .ok (.invokevirtual 37, 3) := by decide +kernel
theorem d_law_348 : decode code 348 = .ok (.aload_n 2, 1) := by decide +kernel
theorem d_law_349 : decode code 349 = .ok (.aload_n 0, 1) := by decide +kernel
theorem d_law_350 : decode code 350 = .ok (.iload_n 3, 1) := by decide +kernel
theorem d_law_351 : decode code 351 = .ok (.iconst 1, 1) := by decide +kernel
theorem d_law_352 : decode code 352 = .ok (.iadd, 1) := by decide +kernel
theorem d_law_353 : decode code 353 = .ok (.iaload, 1) := by decide +kernel
theorem d_law_354 : decode code 354 = .ok (.aload_n 0, 1) := by decide +kernel
theorem d_law_355 : decode code 355 = .ok (.iload_n 3, 1) := by decide +kernel
theorem d_law_356 : decode code 356 = .ok (.iconst 2, 1) := by decide +kernel
theorem d_law_357 : decode code 357 = .ok (.iadd, 1) := by decide +kernel
theorem d_law_358 : decode code 358 = .ok (.iaload, 1) := by decide +kernel
theorem d_law_359 : decode code 359 = .ok (.aload_n 0, 1) := by decide +kernel
theorem d_law_360 : decode code 360 = .ok (.iload_n 3, 1) := by decide +kernel
theorem d_law_361 : decode code 361 = .ok (.iconst 3, 1) := by decide +kernel
theorem d_law_362 : decode code 362 = .ok (.iadd, 1) := by decide +kernel
theorem d_law_363 : decode code 363 = .ok (.iaload, 1) := by decide +kernel
theorem d_law_364 : decode code 364 = .ok (.invokevirtual 41, 3) := by decide +kernel
theorem d_law_367 : decode code 367 = .ok (.if_icmp .eq 719, 3) := by decide +kernel
theorem d_law_370 : decode code 370 = .ok (.iconst 0, 1) := by decide +kernel
theorem d_law_371 : decode code 371 = .ok (.ireturn, 1) := by decide +kernel
theorem d_law_372 : decode code 372 = .ok (.aload_n 1, 1) := by decide +kernel
theorem d_law_373 : decode code 373 = .ok (.aload_n 0, 1) := by decide +kernel
theorem d_law_374 : decode code 374 = .ok (.iload_n 3, 1) := by decide +kernel
theorem d_law_375 : decode code 375 = .ok (.iconst 1, 1) := by decide +kernel
theorem d_law_376 : decode code 376 = .ok (.iadd, 1) := by decide +kernel
theorem d_law_377 : decode code 377 = .ok (.iaload, 1) := by decide +kernel
theorem d_law_378 : decode code 378 = .ok (.aload_n 0, 1) := by decide +kernel
theorem d_law_379 : decode code 379 = .ok (.iload_n 3, 1) := by decide +kernel
theorem d_law_380 : decode code 380 = .ok (.iconst 2, 1) := by decide +kernel
theorem d_law_381 : decode code 381 = .ok (.iadd, 1) := by decide +kernel
theorem d_law_382 : decode code 382 = .ok (.iaload, 1) := by decide +kernel
theorem d_law_383 : decode code 383 = .ok (.invokevirtual 42, 3) := by decide +kernel
theorem d_law_386 : decode code 386 = .ok (.aload_n 2, 1) := by decide +kernel
theorem d_law_387 : decode code 387 = .ok (.aload_n 0, 1) := by decide +kernel
theorem d_law_388 : decode code 388 = .ok (.iload_n 3, 1) := by decide +kernel
theorem d_law_389 : decode code 389 = .ok (.iconst 1, 1) := by decide +kernel
theorem d_law_390 : decode code 390 = .ok (.iadd, 1) := by decide +kernel
theorem d_law_391 : decode code 391 = .ok (.iaload, 1) := by decide +kernel
theorem d_law_392 : decode code 392 = .ok (.aload_n 0, 1) := by decide +kernel
theorem d_law_393 : decode code 393 = .ok (.iload_n 3, 1) := by decide +kernel
theorem d_law_394 : decode code 394 = .ok (.iconst 2, 1) := by decide +kernel
theorem d_law_395 : decode code 395 = .ok (.iadd, 1) := by decide +kernel
theorem d_law_396 : decode code 396 = .ok (.iaload, 1) := by decide +kernel
theorem d_law_397 : decode code 397 = .ok (.invokevirtual 46, 3) := by decide +kernel
theorem d_law_400 : decode code 400 = .ok (.if_icmp .eq 686, 3) := by decide +kernel
theorem d_law_403 : decode code 403 = .ok (.iconst 0, 1) := by decide +kernel
theorem d_law_404 : decode code 404 = .ok (.ireturn, 1) := by decide +kernel
theorem d_law_405 : decode code 405 = .ok (.aload_n 1, 1) := by decide +kernel
theorem d_law_406 : decode code 406 = .ok (.aload_n 0, 1) := by decide +kernel
theorem d_law_407 : decode code 407 = .ok (.iload_n 3, 1) := by decide +kernel
theorem d_law_408 : decode code 408 = .ok (.iconst 1, 1) := by decide +kernel
theorem d_law_409 : decode code 409 = .ok (.iadd, 1) := by decide +kernel
theorem d_law_410 : decode code 410 = .ok (.iaload, 1) := by decide +kernel
theorem d_law_411 : decode code 411 = .ok (.aload_n 0, 1) := by decide +kernel
theorem d_law_412 : decode code 412 = .ok (.iload_n 3, 1) := by decide +kernel
theorem d_law_413 : decode code 413 = .ok (.iconst 2, 1) := by decide +kernel
theorem d_law_414 : decode code 414 = .ok (.iadd, 1) := by decide +kernel
theorem d_law_415 : decode code 415 = .ok (.iaload, 1) := by decide +kernel
theorem d_law_416 : decode code 416 = .ok (.invokevirtual 47, 3) := by decide +kernel
theorem d_law_419 : decode code 419 = .ok (.aload_n 2, 1) := by decide +kernel
theorem d_law_420 : decode code 420 = .ok (.aload_n 0, 1) := by decide +kernel
theorem d_law_421 : decode code 421 = .ok (.iload_n 3, 1) := by decide +kernel
theorem d_law_422 : decode code 422 = .ok (.iconst 1, 1) := by decide +kernel
theorem d_law_423 : decode code 423 = .ok (.iadd, 1) := by decide +kernel
theorem d_law_424 : decode code 424 = .ok (.iaload, 1) := by decide +kernel
theorem d_law_425 : decode code 425 = .ok (.aload_n 0, 1) := by decide +kernel
theorem d_law_426 : decode code 426 = .ok (.iload_n 3, 1) := by decide +kernel
theorem d_law_427 : decode code 427 = .ok (.iconst 2, 1) := by decide +kernel
theorem d_law_428 : decode code 428 = .ok (.iadd, 1) := by decide +kernel
theorem d_law_429 : decode code 429 = .ok (.iaload, 1) := by decide +kernel
theorem d_law_430 : decode code 430 = .ok (.invokevirtual 50, 3) := by decide +kernel
theorem d_law_433 : decode code 433 = .ok (.if_icmp .eq 653, 3) := by decide +kernel
theorem d_law_436 : decode code 436 = .ok (.iconst 0, 1) := by decide +kernel
theorem d_law_437 : decode code 437 = .ok (.ireturn, 1) := by decide +kernel
theorem d_law_438 : decode code 438 = .ok (.aload_n 1, 1) := by decide +kernel
theorem d_law_439 : decode code 439 = .ok (.aload_n 0, 1) := by decide +kernel
theorem d_law_440 : decode code 440 = .ok (.iload_n 3, 1) := by decide +kernel
theorem d_law_441 : decode code 441 = .ok (.iconst 1, 1) := by decide +kernel
theorem d_law_442 : decode code 442 = .ok (.iadd, 1) := by decide +kernel
theorem d_law_443 : decode code 443 = .ok (.iaload, 1) := by decide +kernel
theorem d_law_444 : decode code 444 = .ok (.aload_n 0, 1) := by decide +kernel
theorem d_law_445 : decode code 445 = .ok (.iload_n 3, 1) := by decide +kernel
theorem d_law_446 : decode code 446 = .ok (.iconst 2, 1) := by decide +kernel
theorem d_law_447 : decode code 447 = .ok (.iadd, 1) := by decide +kernel
theorem d_law_448 : decode code 448 = .ok (.iaload, 1) := by decide +kernel
theorem d_law_449 : decode code 449 = .ok (.aload_n 0, 1) := by decide +kernel
theorem d_law_450 : decode code 450 = .ok (.iload_n 3, 1) := by decide +kernel
theorem d_law_451 : decode code 451 = .ok (.iconst 3, 1) := by decide +kernel
theorem d_law_452 : decode code 452 = .ok (.iadd, 1) := by decide +kernel
theorem d_law_453 : decode code 453 = .ok (.iaload, 1) := by decide +kernel
theorem d_law_454 : decode code 454 = .ok (.invokevirtual 51, 3) := by decide +kernel
theorem d_law_457 : decode code 457 = .ok (.aload_n 2, 1) := by decide +kernel
theorem d_law_458 : decode code 458 = .ok (.aload_n 0, 1) := by decide +kernel
theorem d_law_459 : decode code 459 = .ok (.iload_n 3, 1) := by decide +kernel
theorem d_law_460 : decode code 460 = .ok (.iconst 1, 1) := by decide +kernel
theorem d_law_461 : decode code 461 = .ok (.iadd, 1) := by decide +kernel
theorem d_law_462 : decode code 462 = .ok (.iaload, 1) := by decide +kernel
theorem d_law_463 : decode code 463 = .ok (.aload_n 0, 1) := by decide +kernel
theorem d_law_464 : decode code 464 = .ok (.iload_n 3, 1) := by decide +kernel
theorem d_law_465 : decode code 465 = .ok (.iconst 2, 1) := by decide +kernel
theorem d_law_466 : decode code 466 = .ok (.iadd, 1) := by decide +kernel
theorem d_law_467 : decode code 467 = .ok (.iaload, 1) := by decide +kernel
theorem d_law_468 : decode code 468 = .ok (.aload_n 0, 1) := by decide +kernel
theorem d_law_469 : decode code 469 = .ok (.iload_n 3, 1) := by decide +kernel
theorem d_law_470 : decode code 470 = .ok (.iconst 3, 1) := by decide +kernel
theorem d_law_471 : decode code 471 = .ok (.iadd, 1) := by decide +kernel
theorem d_law_472 : decode code 472 = .ok (.iaload, 1) := by decide +kernel
theorem d_law_473 : decode code 473 = .ok (.invokevirtual 54, 3) := by decide +kernel
theorem d_law_476 : decode code 476 = .ok (.if_icmp .eq 610, 3) := by decide +kernel
theorem d_law_479 : decode code 479 = .ok (.iconst 0, 1) := by decide +kernel
theorem d_law_480 : decode code 480 = .ok (.ireturn, 1) := by decide +kernel
theorem d_law_481 : decode code 481 = .ok (.aload_n 1, 1) := by decide +kernel
theorem d_law_482 : decode code 482 = .ok (.aload_n 0, 1) := by decide +kernel
theorem d_law_483 : decode code 483 = .ok (.iload_n 3, 1) := by decide +kernel
theorem d_law_484 : decode code 484 = .ok (.iconst 1, 1) := by decide +kernel
theorem d_law_485 : decode code 485 = .ok (.iadd, 1) := by decide +kernel
theorem d_law_486 : decode code 486 = .ok (.iaload, 1) := by decide +kernel
theorem d_law_487 : decode code 487 = .ok (.aload_n 0, 1) := by decide +kernel
theorem d_law_488 : decode code 488 = .ok (.iload_n 3, 1) := by decide +kernel
theorem d_law_489 : decode code 489 = .ok (.iconst 2, 1) := by decide +kernel
theorem d_law_490 : decode code 490 = .ok (.iadd, 1) := by decide +kernel
theorem d_law_491 : decode code 491 = .ok (.iaload, 1) := by decide +kernel
theorem d_law_492 : decode code 492 = .ok (.aload_n 0, 1) := by decide +kernel
theorem d_law_493 : decode code 493 = .ok (.iload_n 3, 1) := by decide +kernel
theorem d_law_494 : decode code 494 = .ok (.iconst 3, 1) := by decide +kernel
theorem d_law_495 : decode code 495 = .ok (.iadd, 1) := by decide +kernel
theorem d_law_496 : decode code 496 = .ok (.iaload, 1) := by decide +kernel
theorem d_law_497 : decode code 497 = .ok (.invokevirtual 55, 3) := by decide +kernel
theorem d_law_500 : decode code 500 = .ok (.aload_n 2, 1) := by decide +kernel
theorem d_law_501 : decode code 501 = .ok (.aload_n 0, 1) := by decide +kernel
theorem d_law_502 : decode code 502 = .ok (.iload_n 3, 1) := by decide +kernel
theorem d_law_503 : decode code 503 = .ok (.iconst 1, 1) := by decide +kernel
theorem d_law_504 : decode code 504 = .ok (.iadd, 1) := by decide +kernel
theorem d_law_505 : decode code 505 = .ok (.iaload, 1) := by decide +kernel
theorem d_law_506 : decode code 506 = .ok (.aload_n 0, 1) := by decide +kernel
theorem d_law_507 : decode code 507 = .ok (.iload_n 3, 1) := by decide +kernel
theorem d_law_508 : decode code 508 = .ok (.iconst 2, 1) := by decide +kernel
theorem d_law_509 : decode code 509 = .ok (.iadd, 1) := by decide +kernel
theorem d_law_510 : decode code 510 = .ok (.iaload, 1) := by decide +kernel
theorem d_law_511 : decode code 511 = .ok (.aload_n 0, 1) := by decide +kernel
theorem d_law_512 : decode code 512 = .ok (.iload_n 3, 1) := by decide +kernel
theorem d_law_513 : decode code 513 = .ok (.iconst 3, 1) := by decide +kernel
theorem d_law_514 : decode code 514 = .ok (.iadd, 1) := by decide +kernel
theorem d_law_515 : decode code 515 = .ok (.iaload, 1) := by decide +kernel
theorem d_law_516 : decode code 516 = .ok (.invokevirtual 58, 3) := by decide +kernel
theorem d_law_519 : decode code 519 = .ok (.if_icmp .eq 567, 3) := by decide +kernel
theorem d_law_522 : decode code 522 = .ok (.iconst 0, 1) := by decide +kernel
theorem d_law_523 : decode code 523 = .ok (.ireturn, 1) := by decide +kernel
theorem d_law_524 : decode code 524 = .ok (.aload_n 1, 1) := by decide +kernel
theorem d_law_525 : decode code 525 = .ok (.aload_n 0, 1) := by decide +kernel
theorem d_law_526 : decode code 526 = .ok (.iload_n 3, 1) := by decide +kernel
theorem d_law_527 : decode code 527 = .ok (.iconst 1, 1) := by decide +kernel
theorem d_law_528 : decode code 528 = .ok (.iadd, 1) := by decide +kernel
theorem d_law_529 : decode code 529 = .ok (.iaload, 1) := by decide +kernel
theorem d_law_530 : decode code 530 = .ok (.aload_n 0, 1) := by decide +kernel
theorem d_law_531 : decode code 531 = .ok (.iload_n 3, 1) := by decide +kernel
theorem d_law_532 : decode code 532 = .ok (.iconst 2, 1) := by decide +kernel
theorem d_law_533 : decode code 533 = .ok (.iadd, 1) := by decide +kernel
theorem d_law_534 : decode code 534 = .ok (.iaload, 1) := by decide +kernel
theorem d_law_535 : decode code 535 = .ok (.aload_n 0, 1) := by decide +kernel
theorem d_law_536 : decode code 536 = .ok (.iload_n 3, 1) := by decide +kernel
theorem d_law_537 : decode code 537 = .ok (.iconst 3, 1) := by decide +kernel
theorem d_law_538 : decode code 538 = .ok (.iadd, 1) := by decide +kernel
theorem d_law_539 : decode code 539 = .ok (.iaload, 1) := by decide +kernel
theorem d_law_540 : decode code 540 = .ok (.invokevirtual 59, 3) := by decide +kernel
theorem d_law_543 : decode code 543 = .ok (.aload_n 2, 1) := by decide +kernel
theorem d_law_544 : decode code 544 = .ok (.aload_n 0, 1) := by decide +kernel
theorem d_law_545 : decode code 545 = .ok (.iload_n 3, 1) := by decide +kernel
theorem d_law_546 : decode code 546 = .ok (.iconst 1, 1) := by decide +kernel
theorem d_law_547 : decode code 547 = .ok (.iadd, 1) := by decide +kernel
theorem d_law_548 : decode code 548 = .ok (.iaload, 1) := by decide +kernel
theorem d_law_549 : decode code 549 = .ok (.aload_n 0, 1) := by decide +kernel
theorem d_law_550 : decode code 550 = .ok (.iload_n 3, 1) := by decide +kernel
theorem d_law_551 : decode code 551 = .ok (.iconst 2, 1) := by decide +kernel
theorem d_law_552 : decode code 552 = .ok (.iadd, 1) := by decide +kernel
theorem d_law_553 : decode code 553 = .ok (.iaload, 1) := by decide +kernel
theorem d_law_554 : decode code 554 = .ok (.aload_n 0, 1) := by decide +kernel
theorem d_law_555 : decode code 555 = .ok (.iload_n 3, 1) := by decide +kernel
theorem d_law_556 : decode code 556 = .ok (.iconst 3, 1) := by decide +kernel
theorem d_law_557 : decode code 557 = .ok (.iadd, 1) := by decide +kernel
theorem d_law_558 : decode code 558 = .ok (.iaload, 1) := by decide +kernel
theorem d_law_559 : decode code 559 = .ok (.invokevirtual 62, 3) := by decide +kernel
theorem d_law_562 : decode code 562 = .ok (.if_icmp .eq 524, 3) := by decide +kernel
theorem d_law_565 : decode code 565 = .ok (.iconst 0, 1) := by decide +kernel
theorem d_law_566 : decode code 566 = .ok (.ireturn, 1) := by decide +kernel
theorem d_law_567 : decode code 567 = .ok (.aload_n 1, 1) := by decide +kernel
theorem d_law_568 : decode code 568 = .ok (.aload_n 0, 1) := by decide +kernel
theorem d_law_569 : decode code 569 = .ok (.iload_n 3, 1) := by decide +kernel
theorem d_law_570 : decode code 570 = .ok (.iconst 1, 1) := by decide +kernel
theorem d_law_571 : decode code 571 = .ok (.iadd, 1) := by decide +kernel
theorem d_law_572 : decode code 572 = .ok (.iaload, 1) := by decide +kernel
theorem d_law_573 : decode code 573 = .ok (.invokevirtual 63, 3) := by decide +kernel
theorem d_law_576 : decode code 576 = .ok (.aload_n 2, 1) := by decide +kernel
theorem d_law_577 : decode code 577 = .ok (.aload_n 0, 1) := by decide +kernel
theorem d_law_578 : decode code 578 = .ok (.iload_n 3, 1) := by decide +kernel
theorem d_law_579 : decode code 579 = .ok (.iconst 1, 1) := by decide +kernel
theorem d_law_580 : decode code 580 = .ok (.iadd, 1) := by decide +kernel
theorem d_law_581 : decode code 581 = .ok (.iaload, 1) := by decide +kernel
theorem d_law_582 : decode code 582 = .ok (.invokevirtual 66, 3) := by decide +kernel
theorem d_law_585 : decode code 585 = .ok (.if_icmp .eq 501, 3) := by decide +kernel
theorem d_law_588 : decode code 588 = .ok (.iconst 0, 1) := by decide +kernel
theorem d_law_589 : decode code 589 = .ok (.ireturn, 1) := by decide +kernel
theorem d_law_590 : decode code 590 = .ok (.aload_n 1, 1) := by decide +kernel
theorem d_law_591 : decode code 591 = .ok (.aload_n 0, 1) := by decide +kernel
theorem d_law_592 : decode code 592 = .ok (.iload_n 3, 1) := by decide +kernel
theorem d_law_593 : decode code 593 = .ok (.iconst 1, 1) := by decide +kernel
theorem d_law_594 : decode code 594 = .ok (.iadd, 1) := by decide +kernel
theorem d_law_595 : decode code 595 = .ok (.iaload, 1) := by decide +kernel
theorem d_law_596 : decode code 596 = .ok (.aload_n 0, 1) := by decide +kernel
theorem d_law_597 : decode code 597 = .ok (.iload_n 3, 1) := by decide +kernel
theorem d_law_598 : decode code 598 = .ok (.iconst 2, 1) := by decide +kernel
theorem d_law_599 : decode code 599 = .ok (.iadd, 1) := by decide +kernel
theorem d_law_600 : decode code 600 = .ok (.iaload, 1) := by decide +kernel
theorem d_law_601 : decode code 601 = .ok (.invokevirtual 67, 3) := by decide +kernel
theorem d_law_604 : decode code 604 = .ok (.aload_n 2, 1) := by decide +kernel
theorem d_law_605 : decode code 605 = .ok (.aload_n 0, 1) := by decide +kernel
theorem d_law_606 : decode code 606 = .ok (.iload_n 3, 1) := by decide +kernel
theorem d_law_607 : decode code 607 = .ok (.iconst 1, 1) := by decide +kernel
theorem d_law_608 : decode code 608 = .ok (.iadd, 1) := by decide +kernel
theorem d_law_609 : decode code 609 = .ok (.iaload, 1) := by decide +kernel
theorem d_law_610 : decode code 610 = .ok (.aload_n 0, 1) := by decide +kernel
theorem d_law_611 : decode code 611 = .ok (.iload_n 3, 1) := by decide +kernel
theorem d_law_612 : decode code 612 = .ok (.iconst 2, 1) := by decide +kernel
theorem d_law_613 : decode code 613 = .ok (.iadd, 1) := by decide +kernel
theorem d_law_614 : decode code 614 = .ok (.iaload, 1) := by decide +kernel
theorem d_law_615 : decode code 615 = .ok (.invokevirtual 70, 3) := by decide +kernel
theorem d_law_618 : decode code 618 = .ok (.if_icmp .eq 468, 3) := by decide +kernel
theorem d_law_621 : decode code 621 = .ok (.iconst 0, 1) := by decide +kernel
theorem d_law_622 : decode code 622 = .ok (.ireturn, 1) := by decide +kernel
theorem d_law_623 : decode code 623 = .ok (.aload_n 1, 1) := by decide +kernel
theorem d_law_624 : decode code 624 = .ok (.invokevirtual 71, 3) := by decide +kernel
theorem d_law_627 : decode code 627 = .ok (.aload_n 2, 1) := by decide +kernel
theorem d_law_628 : decode code 628 = .ok (.invokevirtual 74, 3) := by decide +kernel
theorem d_law_631 : decode code 631 = .ok (.if_icmp .eq 455, 3) := by decide +kernel
theorem d_law_634 : decode code 634 = .ok (.iconst 0, 1) := by decide +kernel
theorem d_law_635 : decode code 635 = .ok (.ireturn, 1) := by decide +kernel
theorem d_law_636 : decode code 636 = .ok (.aload_n 1, 1) := by decide +kernel
theorem d_law_637 : decode code 637 = .ok (.aload_n 0, 1) := by decide +kernel
theorem d_law_638 : decode code 638 = .ok (.iload_n 3, 1) := by decide +kernel
theorem d_law_639 : decode code 639 = .ok (.iconst 1, 1) := by decide +kernel
theorem d_law_640 : decode code 640 = .ok (.iadd, 1) := by decide +kernel
theorem d_law_641 : decode code 641 = .ok (.iaload, 1) := by decide +kernel
theorem d_law_642 : decode code 642 = .ok (.invokevirtual 75, 3) := by decide +kernel
theorem d_law_645 : decode code 645 = .ok (.aload_n 2, 1) := by decide +kernel
theorem d_law_646 : decode code 646 = .ok (.aload_n 0, 1) := by decide +kernel
theorem d_law_647 : decode code 647 = .ok (.iload_n 3, 1) := by decide +kernel
theorem d_law_648 : decode code 648 = .ok (.iconst 1, 1) := by decide +kernel
theorem d_law_649 : decode code 649 = .ok (.iadd, 1) := by decide +kernel
theorem d_law_650 : decode code 650 = .ok (.iaload, 1) := by decide +kernel
theorem d_law_651 : decode code 651 = .ok (.invokevirtual 78, 3) := by decide +kernel
theorem d_law_654 : decode code 654 = .ok (.if_icmp .eq 432, 3) := by decide +kernel
theorem d_law_657 : decode code 657 = .ok (.iconst 0, 1) := by decide +kernel
theorem d_law_658 : decode code 658 = .ok (.ireturn, 1) := by decide +kernel
theorem d_law_659 : decode code 659 = .ok (.aload_n 1, 1) := by decide +kernel
theorem d_law_660 : decode code 660 = .ok (.aload_n 0, 1) := by decide +kernel
theorem d_law_661 : decode code 661 = .ok (.iload_n 3, 1) := by decide +kernel
theorem d_law_662 : decode code 662 = .ok (.iconst 1, 1) := by decide +kernel
theorem d_law_663 : decode code 663 = .ok (.iadd, 1) := by decide +kernel
theorem d_law_664 : decode code 664 = .ok (.iaload, 1) := by decide +kernel
theorem d_law_665 : decode code 665 = .ok (.invokevirtual 79, 3) := by decide +kernel
theorem d_law_668 : decode code 668 = .ok (.aload_n 2, 1) := by decide +kernel
theorem d_law_669 : decode code 669 = .ok (.aload_n 0, 1) := by decide +kernel
theorem d_law_670 : decode code 670 = .ok (.iload_n 3, 1) := by decide +kernel
theorem d_law_671 : decode code 671 = .ok (.iconst 1, 1) := by decide +kernel
theorem d_law_672 : decode code 672 = .ok (.iadd, 1) := by decide +kernel
theorem d_law_673 : decode code 673 = .ok (.iaload, 1) := by decide +kernel
theorem d_law_674 : decode code 674 = .ok (.invokevirtual 82, 3) := by decide +kernel
theorem d_law_677 : decode code 677 = .ok (.if_icmp .eq 409, 3) := by decide +kernel
theorem d_law_680 : decode code 680 = .ok (.iconst 0, 1) := by decide +kernel
theorem d_law_681 : decode code 681 = .ok (.ireturn, 1) := by decide +kernel
theorem d_law_682 : decode code 682 = .ok (.aload_n 1, 1) := by decide +kernel
theorem d_law_683 : decode code 683 = .ok (.aload_n 0, 1) := by decide +kernel
theorem d_law_684 : decode code 684 = .ok (.iload_n 3, 1) := by decide +kernel
theorem d_law_685 : decode code 685 = .ok (.iconst 1, 1) := by decide +kernel
theorem d_law_686 : decode code 686 = .ok (.iadd, 1) := by decide +kernel
theorem d_law_687 : decode code 687 = .ok (.iaload, 1) := by decide +kernel
theorem d_law_688 : decode code 688 = .ok (.aload_n 0, 1) := by decide +kernel
theorem d_law_689 : decode code 689 = .ok (.iload_n 3, 1) := by decide +kernel
theorem d_law_690 : decode code 690 = .ok (.iconst 2, 1) := by decide +kernel
theorem d_law_691 : decode code 691 = .ok (.iadd, 1) := by decide +kernel
theorem d_law_692 : decode code 692 = .ok (.iaload, 1) := by decide +kernel
theorem d_law_693 : decode code 693 = .ok (.invokevirtual 83, 3) := by decide +kernel
theorem d_law_696 : decode code 696 = .ok (.aload_n 2, 1) := by decide +kernel
theorem d_law_697 : decode code 697 = .ok (.aload_n 0, 1) := by decide +kernel
theorem d_law_698 : decode code 698 = .ok (.iload_n 3, 1) := by decide +kernel
theorem d_law_699 : decode code 699 = .ok (.iconst 1, 1) := by decide +kernel
theorem d_law_700 : decode code 700 = .ok (.iadd, 1) := by decide +kernel
theorem d_law_701 : decode code 701 = .ok (.iaload, 1) := by decide +kernel
theorem d_law_702 : decode code 702 = .ok (.aload_n 0, 1) := by decide +kernel
theorem d_law_703 : decode code 703 = .ok (.iload_n 3, 1) := by decide +kernel
theorem d_law_704 : decode code 704 = .ok (.iconst 2, 1) := by decide +kernel
theorem d_law_705 : decode code 705 = .ok (.iadd, 1) := by decide +kernel
theorem d_law_706 : decode code 706 = .ok (.iaload, 1) := by decide +kernel
theorem d_law_707 : decode code 707 = .ok (.invokevirtual 86, 3) := by decide +kernel
theorem d_law_710 : decode code 710 = .ok (.if_icmp .eq 376, 3) := by decide +kernel
theorem d_law_713 : decode code 713 = .ok (.iconst 0, 1) := by decide +kernel
theorem d_law_714 : decode code 714 = .ok (.ireturn, 1) := by decide +kernel
theorem d_law_715 : decode code 715 = .ok (.aload_n 1, 1) := by decide +kernel
theorem d_law_716 : decode code 716 = .ok (.invokevirtual 87, 3) := by decide +kernel
theorem d_law_719 : decode code 719 = .ok (.aload_n 2, 1) := by decide +kernel
theorem d_law_720 : decode code 720 = .ok (.invokevirtual 90, 3) := by decide +kernel
theorem d_law_723 : decode code 723 = .ok (.if_icmp .eq 363, 3) := by decide +kernel
theorem d_law_726 : decode code 726 = .ok (.iconst 0, 1) := by decide +kernel
theorem d_law_727 : decode code 727 = .ok (.ireturn, 1) := by decide +kernel
theorem d_law_728 : decode code 728 = .ok (.aload_n 1, 1) := by decide +kernel
theorem d_law_729 : decode code 729 = .ok (.aload_n 0, 1) := by decide +kernel
theorem d_law_730 : decode code 730 = .ok (.iload_n 3, 1) := by decide +kernel
theorem d_law_731 : decode code 731 = .ok (.iconst 1, 1) := by decide +kernel
theorem d_law_732 : decode code 732 = .ok (.iadd, 1) := by decide +kernel
theorem d_law_733 : decode code 733 = .ok (.iaload, 1) := by decide +kernel
theorem d_law_734 : decode code 734 = .ok (.aload_n 0, 1) := by decide +kernel
theorem d_law_735 : decode code 735 = .ok (.iload_n 3, 1) := by decide +kernel
theorem d_law_736 : decode code 736 = .ok (.iconst 2, 1) := by decide +kernel
theorem d_law_737 : decode code 737 = .ok (.iadd, 1) := by decide +kernel
theorem d_law_738 : decode code 738 = .ok (.iaload, 1) := by decide +kernel
theorem d_law_739 : decode code 739 = .ok (.invokevirtual 91, 3) := by decide +kernel
theorem d_law_742 : decode code 742 = .ok (.aload_n 2, 1) := by decide +kernel
theorem d_law_743 : decode code 743 = .ok (.aload_n 0, 1) := by decide +kernel
theorem d_law_744 : decode code 744 = .ok (.iload_n 3, 1) := by decide +kernel
theorem d_law_745 : decode code 745 = .ok (.iconst 1, 1) := by decide +kernel
theorem d_law_746 : decode code 746 = .ok (.iadd, 1) := by decide +kernel
theorem d_law_747 : decode code 747 = .ok (.iaload, 1) := by decide +kernel
theorem d_law_748 : decode code 748 = .ok (.aload_n 0, 1) := by decide +kernel
theorem d_law_749 : decode code 749 = .ok (.iload_n 3, 1) := by decide +kernel
theorem d_law_750 : decode code 750 = .ok (.iconst 2, 1) := by decide +kernel
theorem d_law_751 : decode code 751 = .ok (.iadd, 1) := by decide +kernel
theorem d_law_752 : decode code 752 = .ok (.iaload, 1) := by decide +kernel
theorem d_law_753 : decode code 753 = .ok (.invokevirtual 94, 3) := by decide +kernel
theorem d_law_756 : decode code 756 = .ok (.if_icmp .eq 330, 3) := by decide +kernel
theorem d_law_759 : decode code 759 = .ok (.iconst 0, 1) := by decide +kernel
theorem d_law_760 : decode code 760 = .ok (.ireturn, 1) := by decide +kernel
theorem d_law_761 : decode code 761 = .ok (.aload_n 1, 1) := by decide +kernel
theorem d_law_762 : decode code 762 = .ok (.aload_n 0, 1) := by decide +kernel
theorem d_law_763 : decode code 763 = .ok (.iload_n 3, 1) := by decide +kernel
theorem d_law_764 : decode code 764 = .ok (.iconst 1, 1) := by decide +kernel
theorem d_law_765 : decode code 765 = .ok (.iadd, 1) := by decide +kernel
theorem d_law_766 : decode code 766 = .ok (.iaload, 1) := by decide +kernel
theorem d_law_767 : decode code 767 = .ok (.aload_n 0, 1) := by decide +kernel
theorem d_law_768 : decode code 768 = .ok (.iload_n 3, 1) := by decide +kernel
theorem d_law_769 : decode code 769 = .ok (.iconst 2, 1) := by decide +kernel
theorem d_law_770 : decode code 770 = .ok (.iadd, 1) := by decide +kernel
theorem d_law_771 : decode code 771 = .ok (.iaload, 1) := by decide +kernel
theorem d_law_772 : decode code 772 = .ok (.invokevirtual 95, 3) := by decide +kernel
theorem d_law_775 : decode code 775 = .ok (.aload_n 2, 1) := by decide +kernel
theorem d_law_776 : decode code 776 = .ok (.aload_n 0, 1) := by decide +kernel
theorem d_law_777 : decode code 777 = .ok (.iload_n 3, 1) := by decide +kernel
theorem d_law_778 : decode code 778 = .ok (.iconst 1, 1) := by decide +kernel
theorem d_law_779 : decode code 779 = .ok (.iadd, 1) := by decide +kernel
theorem d_law_780 : decode code 780 = .ok (.iaload, 1) := by decide +kernel
theorem d_law_781 : decode code 781 = .ok (.aload_n 0, 1) := by decide +kernel
theorem d_law_782 : decode code 782 = .ok (.iload_n 3, 1) := by decide +kernel
theorem d_law_783 : decode code 783 = .ok (.iconst 2, 1) := by decide +kernel
theorem d_law_784 : decode code 784 = .ok (.iadd, 1) := by decide +kernel
theorem d_law_785 : decode code 785 = .ok (.iaload, 1) := by decide +kernel
theorem d_law_786 : decode code 786 = .ok (.invokevirtual 98, 3) := by decide +kernel
theorem d_law_789 : decode code 789 = .ok (.if_icmp .eq 297, 3) := by decide +kernel
theorem d_law_792 : decode code 792 = .ok (.iconst 0, 1) := by decide +kernel
theorem d_law_793 : decode code 793 = .ok (.ireturn, 1) := by decide +kernel
theorem d_law_794 : decode code 794 = .ok (.aload_n 1, 1) := by decide +kernel
theorem d_law_795 : decode code 795 = .ok (.aload_n 0, 1) := by decide +kernel
theorem d_law_796 : decode code 796 = .ok (.iload_n 3, 1) := by decide +kernel
theorem d_law_797 : decode code 797 = .ok (.iconst 1, 1) := by decide +kernel
theorem d_law_798 : decode code 798 = .ok (.iadd, 1) := by decide +kernel
theorem d_law_799 : decode code 799 = .ok (.iaload, 1) := by decide +kernel
theorem d_law_800 : decode code 800 = .ok (.aload_n 0, 1) := by decide +kernel
theorem d_law_801 : decode code 801 = .ok (.iload_n 3, 1) := by decide +kernel
theorem d_law_802 : decode code 802 = .ok (.iconst 2, 1) := by decide +kernel
theorem d_law_803 : decode code 803 = .ok (.iadd, 1) := by decide +kernel
theorem d_law_804 : decode code 804 = .ok (.iaload, 1) := by decide +kernel
theorem d_law_805 : decode code 805 = .ok (.invokevirtual 99, 3) := by decide +kernel
theorem d_law_808 : decode code 808 = .ok (.aload_n 2, 1) := by decide +kernel
theorem d_law_809 : decode code 809 = .ok (.aload_n 0, 1) := by decide +kernel
theorem d_law_810 : decode code 810 = .ok (.iload_n 3, 1) := by decide +kernel
theorem d_law_811 : decode code 811 = .ok (.iconst 1, 1) := by decide +kernel
theorem d_law_812 : decode code 812 = .ok (.iadd, 1) := by decide +kernel
theorem d_law_813 : decode code 813 = .ok (.iaload, 1) := by decide +kernel
theorem d_law_814 : decode code 814 = .ok (.aload_n 0, 1) := by decide +kernel
theorem d_law_815 : decode code 815 = .ok (.iload_n 3, 1) := by decide +kernel
theorem d_law_816 : decode code 816 = .ok (.iconst 2, 1) := by decide +kernel
theorem d_law_817 : decode code 817 = .ok (.iadd, 1) := by decide +kernel
theorem d_law_818 : decode code 818 = .ok (.iaload, 1) := by decide +kernel
theorem d_law_819 : decode code 819 = .ok (.invokevirtual 102, 3) := by decide +kernel
theorem d_law_822 : decode code 822 = .ok (.if_icmp .eq 264, 3) := by decide +kernel
theorem d_law_825 : decode code 825 = .ok (.iconst 0, 1) := by decide +kernel
theorem d_law_826 : decode code 826 = .ok (.ireturn, 1) := by decide +kernel
theorem d_law_827 : decode code 827 = .ok (.aload_n 1, 1) := by decide +kernel
theorem d_law_828 : decode code 828 = .ok (.aload_n 0, 1) := by decide +kernel
theorem d_law_829 : decode code 829 = .ok (.iload_n 3, 1) := by decide +kernel
theorem d_law_830 : decode code 830 = .ok (.iconst 1, 1) := by decide +kernel
theorem d_law_831 : decode code 831 = .ok (.iadd, 1) := by decide +kernel
theorem d_law_832 : decode code 832 = .ok (.iaload, 1) := by decide +kernel
theorem d_law_833 : decode code 833 = .ok (.invokevirtual 103, 3) := by decide +kernel
theorem d_law_836 : decode code 836 = .ok (.aload_n 2, 1) := by decide +kernel
theorem d_law_837 : decode code 837 = .ok (.aload_n 0, 1) := by decide +kernel
theorem d_law_838 : decode code 838 = .ok (.iload_n 3, 1) := by decide +kernel
theorem d_law_839 : decode code 839 = .ok (.iconst 1, 1) := by decide +kernel
theorem d_law_840 : decode code 840 = .ok (.iadd, 1) := by decide +kernel
theorem d_law_841 : decode code 841 = .ok (.iaload, 1) := by decide +kernel
theorem d_law_842 : decode code 842 = .ok (.invokevirtual 106, 3) := by decide +kernel
theorem d_law_845 : decode code 845 = .ok (.if_icmp .eq 241, 3) := by decide +kernel
theorem d_law_848 : decode code 848 = .ok (.iconst 0, 1) := by decide +kernel
theorem d_law_849 : decode code 849 = .ok (.ireturn, 1) := by decide +kernel
theorem d_law_850 : decode code 850 = .ok (.aload_n 1, 1) := by decide +kernel
theorem d_law_851 : decode code 851 = .ok (.aload_n 0, 1) := by decide +kernel
theorem d_law_852 : decode code 852 = .ok (.iload_n 3, 1) := by decide +kernel
theorem d_law_853 : decode code 853 = .ok (.iconst 1, 1) := by decide +kernel
theorem d_law_854 : decode code 854 = .ok (.iadd, 1) := by decide +kernel
theorem d_law_855 : decode code 855 = .ok (.iaload, 1) := by decide +kernel
theorem d_law_856 : decode code 856 = .ok (.invokevirtual 107, 3) := by decide +kernel
theorem d_law_859 : decode code 859 = .ok (.aload_n 2, 1) := by decide +kernel
theorem d_law_860 : decode code 860 = .ok (.aload_n 0, 1) := by decide +kernel
theorem d_law_861 : decode code 861 = .ok (.iload_n 3, 1) := by decide +kernel
theorem d_law_862 : decode code 862 = .ok (.iconst 1, 1) := by decide +kernel
theorem d_law_863 : decode code 863 = .ok (.iadd, 1) := by decide +kernel
theorem d_law_864 : decode code 864 = .ok (.iaload, 1) := by decide +kernel
theorem d_law_865 : decode code 865 = .ok (.invokevirtual 110, 3) := by decide +kernel
theorem d_law_868 : decode code 868 = .ok (.if_icmp .eq 218, 3) := by decide +kernel
theorem d_law_871 : decode code 871 = .ok (.iconst 0, 1) := by decide +kernel
theorem d_law_872 : decode code 872 = .ok (.ireturn, 1) := by decide +kernel
theorem d_law_873 : decode code 873 = .ok (.aload_n 1, 1) := by decide +kernel
theorem d_law_874 : decode code 874 = .ok (.invokevirtual 111, 3) := by decide +kernel
theorem d_law_877 : decode code 877 = .ok (.aload_n 2, 1) := by decide +kernel
theorem d_law_878 : decode code 878 = .ok (.invokevirtual 115, 3) := by decide +kernel
theorem d_law_881 : decode code 881 = .ok (.if_icmp .eq 205, 3) := by decide +kernel
theorem d_law_884 : decode code 884 = .ok (.iconst 0, 1) := by decide +kernel
theorem d_law_885 : decode code 885 = .ok (.ireturn, 1) := by decide +kernel
theorem d_law_886 : decode code 886 = .ok (.aload_n 1, 1) := by decide +kernel
theorem d_law_887 : decode code 887 = .ok (.aload_n 0, 1) := by decide +kernel
theorem d_law_888 : decode code 888 = .ok (.iload_n 3, 1) := by decide +kernel
theorem d_law_889 : decode code 889 = .ok (.iconst 1, 1) := by decide +kernel
theorem d_law_890 : decode code 890 = .ok (.iadd, 1) := by decide +kernel
theorem d_law_891 : decode code 891 = .ok (.iaload, 1) := by decide +kernel
theorem d_law_892 : decode code 892 = .ok (.invokevirtual 116, 3) := by decide +kernel
theorem d_law_895 : decode code 895 = .ok (.aload_n 2, 1) := by decide +kernel
theorem d_law_896 : decode code 896 = .ok (.aload_n 0, 1) := by decide +kernel
theorem d_law_897 : decode code 897 = .ok (.iload_n 3, 1) := by decide +kernel
theorem d_law_898 : decode code 898 = .ok (.iconst 1, 1) := by decide +kernel
theorem d_law_899 : decode code 899 = .ok (.iadd, 1) := by decide +kernel
theorem d_law_900 : decode code 900 = .ok (.iaload, 1) := by decide +kernel
theorem d_law_901 : decode code 901 = .ok (.invokevirtual 119, 3) := by decide +kernel
theorem d_law_904 : decode code 904 = .ok (.if_icmp .eq 182, 3) := by decide +kernel
theorem d_law_907 : decode code 907 = .ok (.iconst 0, 1) := by decide +kernel
theorem d_law_908 : decode code 908 = .ok (.ireturn, 1) := by decide +kernel
theorem d_law_909 : decode code 909 = .ok (.aload_n 1, 1) := by decide +kernel
theorem d_law_910 : decode code 910 = .ok (.aload_n 0, 1) := by decide +kernel
theorem d_law_911 : decode code 911 = .ok (.iload_n 3, 1) := by decide +kernel
theorem d_law_912 : decode code 912 = .ok (.iconst 1, 1) := by decide +kernel
theorem d_law_913 : decode code 913 = .ok (.iadd, 1) := by decide +kernel
theorem d_law_914 : decode code 914 = .ok (.iaload, 1) := by decide +kernel
theorem d_law_915 : decode code 915 = .ok (.invokevirtual 120, 3) := by decide +kernel
theorem d_law_918 : decode code 918 = .ok (.aload_n 2, 1) := by decide +kernel
theorem d_law_919 : decode code 919 = .ok (.aload_n 0, 1) := by decide +kernel
theorem d_law_920 : decode code 920 = .ok (.iload_n 3, 1) := by decide +kernel
theorem d_law_921 : decode code 921 = .ok (.iconst 1, 1) := by decide +kernel
theorem d_law_922 : decode code 922 = .ok (.iadd, 1) := by decide +kernel
theorem d_law_923 : decode code 923 = .ok (.iaload, 1) := by decide +kernel
theorem d_law_924 : decode code 924 = .ok (.invokevirtual 123, 3) := by decide +kernel
theorem d_law_927 : decode code 927 = .ok (.if_icmp .eq 159, 3) := by decide +kernel
theorem d_law_930 : decode code 930 = .ok (.iconst 0, 1) := by decide +kernel
theorem d_law_931 : decode code 931 = .ok (.ireturn, 1) := by decide +kernel
theorem d_law_932 : decode code 932 = .ok (.aload_n 1, 1) := by decide +kernel
theorem d_law_933 : decode code 933 = .ok (.aload_n 0, 1) := by decide +kernel
theorem d_law_934 : decode code 934 = .ok (.iload_n 3, 1) := by decide +kernel
theorem d_law_935 : decode code 935 = .ok (.iconst 1, 1) := by decide +kernel
theorem d_law_936 : decode code 936 = .ok (.iadd, 1) := by decide +kernel
theorem d_law_937 : decode code 937 = .ok (.iaload, 1) := by decide +kernel
theorem d_law_938 : decode code 938 = .ok (.invokevirtual 124, 3) := by decide +kernel
theorem d_law_941 : decode code 941 = .ok (.aload_n 2, 1) := by decide +kernel
theorem d_law_942 : decode code 942 = .ok (.aload_n 0, 1) := by decide +kernel
theorem d_law_943 : decode code 943 = .ok (.iload_n 3, 1) := by decide +kernel
theorem d_law_944 : decode code 944 = .ok (.iconst 1, 1) := by decide +kernel
theorem d_law_945 : decode code 945 = .ok (.iadd, 1) := by decide +kernel
theorem d_law_946 : decode code 946 = .ok (.iaload, 1) := by decide +kernel
theorem d_law_947 : decode code 947 = .ok (.invokevirtual 127, 3) := by decide +kernel
theorem d_law_950 : decode code 950 = .ok (.if_icmp .eq 136, 3) := by decide +kernel
theorem d_law_953 : decode code 953 = .ok (.iconst 0, 1) := by decide +kernel
theorem d_law_954 : decode code 954 = .ok (.ireturn, 1) := by decide +kernel
theorem d_law_955 : decode code 955 = .ok (.aload_n 1, 1) := by decide +kernel
theorem d_law_956 : decode code 956 = .ok (.aload_n 0, 1) := by decide +kernel
theorem d_law_957 : decode code 957 = .ok (.iload_n 3, 1) := by decide +kernel
theorem d_law_958 : decode code 958 = .ok (.iconst 1, 1) := by decide +kernel
theorem d_law_959 : decode code 959 = .ok (.iadd, 1) := by decide +kernel
theorem d_law_960 : decode code 960 = .ok (.iaload, 1) := by decide +kernel
theorem d_law_961 : decode code 961 = .ok (.invokevirtual 128, 3) := by decide +kernel
theorem d_law_964 : decode code 964 = .ok (.aload_n 2, 1) := by decide +kernel
theorem d_law_965 : decode code 965 = .ok (.aload_n 0, 1) := by decide +kernel
theorem d_law_966 : decode code 966 = .ok (.iload_n 3, 1) := by decide +kernel
theorem d_law_967 : decode code 967 = .ok (.iconst 1, 1) := by decide +kernel
theorem d_law_968 : decode code 968 = .ok (.iadd, 1) := by decide +kernel
theorem d_law_969 : decode code 969 = .ok (.iaload, 1) := by decide +kernel
theorem d_law_970 : decode code 970 = .ok (.invokevirtual 131, 3) := by decide +kernel
theorem d_law_973 : decode code 973 = .ok (.if_icmp .eq 113, 3) := by decide +kernel
theorem d_law_976 : decode code 976 = .ok (.iconst 0, 1) := by decide +kernel
theorem d_law_977 : decode code 977 = .ok (.ireturn, 1) := by decide +kernel
theorem d_law_978 : decode code 978 = .ok (.aload_n 1, 1) := by decide +kernel
theorem d_law_979 : decode code 979 = .ok (.aload_n 0, 1) := by decide +kernel
theorem d_law_980 : decode code 980 = .ok (.iload_n 3, 1) := by decide +kernel
theorem d_law_981 : decode code 981 = .ok (.iconst 1, 1) := by decide +kernel
theorem d_law_982 : decode code 982 = .ok (.iadd, 1) := by decide +kernel
theorem d_law_983 : decode code 983 = .ok (.iaload, 1) := by decide +kernel
theorem d_law_984 : decode code 984 = .ok (.invokevirtual 132, 3) := by decide +kernel
theorem d_law_987 : decode code 987 = .ok (.aload_n 2, 1) := by decide +kernel
theorem d_law_988 : decode code 988 = .ok (.aload_n 0, 1) := by decide +kernel
theorem d_law_989 : decode code 989 = .ok (.iload_n 3, 1) := by decide +kernel
theorem d_law_990 : decode code 990 = .ok (.iconst 1, 1) := by decide +kernel
theorem d_law_991 : decode code 991 = .ok (.iadd, 1) := by decide +kernel
theorem d_law_992 : decode code 992 = .ok (.iaload, 1) := by decide +kernel
theorem d_law_993 : decode code 993 = .ok (.invokevirtual 135, 3) := by decide +kernel
theorem d_law_996 : decode code 996 = .ok (.if_icmp .eq 90, 3) := by decide +kernel
theorem d_law_999 : decode code 999 = .ok (.iconst 0, 1) := by decide +kernel
theorem d_law_1000 : decode code 1000 = .ok (.ireturn, 1) := by decide +kernel
theorem d_law_1001 : decode code 1001 = .ok (.aload_n 1, 1) := by decide +kernel
theorem d_law_1002 : decode code 1002 = .ok (.invokevirtual 136, 3) := by decide +kernel
theorem d_law_1005 : decode code 1005 = .ok (.aload_n 2, 1) := by decide +kernel
theorem d_law_1006 : decode code 1006 = .ok (.invokevirtual 139, 3) := by decide +kernel
theorem d_law_1009 : decode code 1009 = .ok (.if_icmp .eq 77, 3) := by decide +kernel
theorem d_law_1012 : decode code 1012 = .ok (.iconst 0, 1) := by decide +kernel
theorem d_law_1013 : decode code 1013 = .ok (.ireturn, 1) := by decide +kernel
theorem d_law_1014 : decode code 1014 = .ok (.aload_n 1, 1) := by decide +kernel
theorem d_law_1015 : decode code 1015 = .ok (.invokevirtual 140, 3) := by decide +kernel
theorem d_law_1018 : decode code 1018 = .ok (.aload_n 2, 1) := by decide +kernel
theorem d_law_1019 : decode code 1019 = .ok (.invokevirtual 143, 3) := by decide +kernel
theorem d_law_1022 : decode code 1022 = .ok (.if_icmp .eq 64, 3) := by decide +kernel
theorem d_law_1025 : decode code 1025 = .ok (.iconst 0, 1) := by decide +kernel
theorem d_law_1026 : decode code 1026 = .ok (.ireturn, 1) := by decide +kernel
theorem d_law_1027 : decode code 1027 = .ok (.aload_n 1, 1) := by decide +kernel
theorem d_law_1028 : decode code 1028 = .ok (.aload_n 0, 1) := by decide +kernel
theorem d_law_1029 : decode code 1029 = .ok (.iload_n 3, 1) := by decide +kernel
theorem d_law_1030 : decode code 1030 = .ok (.iconst 1, 1) := by decide +kernel
theorem d_law_1031 : decode code 1031 = .ok (.iadd, 1) := by decide +kernel
theorem d_law_1032 : decode code 1032 = .ok (.iaload, 1) := by decide +kernel
theorem d_law_1033 : decode code 1033 = .ok (.invokevirtual 144, 3) := by decide +kernel
theorem d_law_1036 : decode code 1036 = .ok (.aload_n 2, 1) := by decide +kernel
theorem d_law_1037 : decode code 1037 = .ok (.aload_n 0, 1) := by decide +kernel
theorem d_law_1038 : decode code 1038 = .ok (.iload_n 3, 1) := by decide +kernel
theorem d_law_1039 : decode code 1039 = .ok (.iconst 1, 1) := by decide +kernel
theorem d_law_1040 : decode code 1040 = .ok (.iadd, 1) := by decide +kernel
theorem d_law_1041 : decode code 1041 = .ok (.iaload, 1) := by decide +kernel
theorem d_law_1042 : decode code 1042 = .ok (.invokevirtual 147, 3) := by decide +kernel
theorem d_law_1045 : decode code 1045 = .ok (.if_icmp .eq 41, 3) := by decide +kernel
theorem d_law_1048 : decode code 1048 = .ok (.iconst 0, 1) := by decide +kernel
theorem d_law_1049 : decode code 1049 = .ok (.ireturn, 1) := by decide +kernel
theorem d_law_1050 : decode code 1050 = .ok (.aload_n 1, 1) := by decide +kernel
theorem d_law_1051 : decode code 1051 = .ok (.invokevirtual 148, 3) := by decide +kernel
theorem d_law_1054 : decode code 1054 = .ok (.aload_n 2, 1) := by decide +kernel
theorem d_law_1055 : decode code 1055 = .ok (.invokevirtual 151, 3) := by decide +kernel
theorem d_law_1058 : decode code 1058 = .ok (.if_icmp .eq 28, 3) := by decide +kernel
theorem d_law_1061 : decode code 1061 = .ok (.iconst 0, 1) := by decide +kernel
theorem d_law_1062 : decode code 1062 = .ok (.ireturn, 1) := by decide +kernel
theorem d_law_1063 : decode code 1063 = .ok (.aload_n 1, 1) := by decide +kernel
theorem d_law_1064 : decode code 1064 = .ok (.aload_n 0, 1) := by decide +kernel
theorem d_law_1065 : decode code 1065 = .ok (.iload_n 3, 1) := by decide +kernel
theorem d_law_1066 : decode code 1066 = .ok (.iconst 1, 1) := by decide +kernel
theorem d_law_1067 : decode code 1067 = .ok (.iadd, 1) := by decide +kernel
theorem d_law_1068 : decode code 1068 = .ok (.iaload, 1) := by decide +kernel
theorem d_law_1069 : decode code 1069 = .ok (.invokevirtual 152, 3) := by decide +kernel
theorem d_law_1072 : decode code 1072 = .ok (.aload_n 2, 1) := by decide +kernel
theorem d_law_1073 : decode code 1073 = .ok (.aload_n 0, 1) := by decide +kernel
theorem d_law_1074 : decode code 1074 = .ok (.iload_n 3, 1) := by decide +kernel
theorem d_law_1075 : decode code 1075 = .ok (.iconst 1, 1) := by decide +kernel
theorem d_law_1076 : decode code 1076 = .ok (.iadd, 1) := by decide +kernel
theorem d_law_1077 : decode code 1077 = .ok (.iaload, 1) := by decide +kernel
theorem d_law_1078 : decode code 1078 = .ok (.invokevirtual 155, 3) := by decide +kernel
theorem d_law_1081 : decode code 1081 = .ok (.if_icmp .eq 5, 3) := by decide +kernel
theorem d_law_1084 : decode code 1084 = .ok (.iconst 0, 1) := by decide +kernel
theorem d_law_1085 : decode code 1085 = .ok (.ireturn, 1) := by decide +kernel
theorem d_law_1086 : decode code 1086 = .ok (.iinc 3 6, 3) := by decide +kernel
theorem d_law_1089 : decode code 1089 = .ok (.goto (-1071), 3) := by decide +kernel
theorem d_law_1092 : decode code 1092 = .ok (.iconst 1, 1) := by decide +kernel
theorem d_law_1093 : decode code 1093 = .ok (.ireturn, 1) := by decide +kernel
theorem mv_law_13 : zLV R_law 13 s_PA_feed 5 := ⟨⟨by decide, by decide, by decide +kernel⟩, (ztb_3 (i := 92) rfl rfl), (ztb_3 (i := 90) rfl rfl), (ztb_3 (i := 91) rfl rfl), (ztb_1 (i := 1) rfl rfl), Or.inl (ztb_3 (i := 89) rfl rfl)⟩
theorem mv_law_17 : zLV R_law 17 s_MO_feed 5 := ⟨⟨by decide, by decide, by decide +kernel⟩, (ztb_8 (i := 9) rfl rfl), (ztb_8 (i := 7) rfl rfl), (ztb_8 (i := 8) rfl rfl), (ztb_1 (i := 13) rfl rfl), Or.inl (ztb_8 (i := 6) rfl rfl)⟩
theorem mv_law_18 : zLV R_law 18 s_PA_end 1 := ⟨⟨by decide, by decide, by decide +kernel⟩, (ztb_3 (i := 112) rfl rfl), (ztb_3 (i := 110) rfl rfl), (ztb_3 (i := 111) rfl rfl), (ztb_1 (i := 1) rfl rfl), Or.inl (ztb_3 (i := 109) rfl rfl)⟩
theorem mv_law_22 : zLV R_law 22 s_MO_end 1 := ⟨⟨by decide, by decide, by decide +kernel⟩, (ztb_8 (i := 17) rfl rfl), (ztb_8 (i := 15) rfl rfl), (ztb_8 (i := 16) rfl rfl), (ztb_1 (i := 13) rfl rfl), Or.inl (ztb_8 (i := 14) rfl rfl)⟩
theorem mv_law_23 : zLV R_law 23 s_PA_table 0 := ⟨⟨by decide, by decide, by decide +kernel⟩, (ztb_3 (i := 120) rfl rfl), (ztb_3 (i := 118) rfl rfl), (ztb_3 (i := 119) rfl rfl), (ztb_1 (i := 1) rfl rfl), Or.inl (ztb_3 (i := 117) rfl rfl)⟩
theorem mv_law_27 : zLV R_law 27 s_MO_table 0 := ⟨⟨by decide, by decide, by decide +kernel⟩, (ztb_8 (i := 37) rfl rfl), (ztb_8 (i := 35) rfl rfl), (ztb_8 (i := 36) rfl rfl), (ztb_1 (i := 13) rfl rfl), Or.inl (ztb_8 (i := 34) rfl rfl)⟩
theorem mv_law_28 : zLV R_law 28 s_PA_fault 1 := ⟨⟨by decide, by decide, by decide +kernel⟩, (ztb_5 (i := 113) rfl rfl), (ztb_5 (i := 111) rfl rfl), (ztb_5 (i := 112) rfl rfl), (ztb_1 (i := 1) rfl rfl), Or.inl (ztb_5 (i := 110) rfl rfl)⟩
theorem mv_law_32 : zLV R_law 32 s_MO_fault 1 := ⟨⟨by decide, by decide, by decide +kernel⟩, (ztb_8 (i := 33) rfl rfl), (ztb_8 (i := 31) rfl rfl), (ztb_8 (i := 32) rfl rfl), (ztb_1 (i := 13) rfl rfl), Or.inl (ztb_8 (i := 30) rfl rfl)⟩
theorem mv_law_33 : zLV R_law 33 s_PA_has 1 := ⟨⟨by decide, by decide, by decide +kernel⟩, (ztb_5 (i := 117) rfl rfl), (ztb_5 (i := 115) rfl rfl), (ztb_5 (i := 116) rfl rfl), (ztb_1 (i := 1) rfl rfl), Or.inl (ztb_5 (i := 114) rfl rfl)⟩
theorem mv_law_36 : zLV R_law 36 s_MO_has 1 := ⟨⟨by decide, by decide, by decide +kernel⟩, (ztb_8 (i := 226) rfl rfl), (ztb_8 (i := 224) rfl rfl), (ztb_8 (i := 225) rfl rfl), (ztb_1 (i := 13) rfl rfl), Or.inl (ztb_8 (i := 223) rfl rfl)⟩
theorem mv_law_37 : zLV R_law 37 s_PA_letter 3 := ⟨⟨by decide, by decide, by decide +kernel⟩, (ztb_5 (i := 142) rfl rfl), (ztb_5 (i := 140) rfl rfl), (ztb_5 (i := 141) rfl rfl), (ztb_1 (i := 1) rfl rfl), Or.inl (ztb_5 (i := 139) rfl rfl)⟩
theorem mv_law_41 : zLV R_law 41 s_MO_letter 3 := ⟨⟨by decide, by decide, by decide +kernel⟩, (ztb_9 (i := 39) rfl rfl), (ztb_9 (i := 37) rfl rfl), (ztb_9 (i := 38) rfl rfl), (ztb_1 (i := 13) rfl rfl), Or.inl (ztb_9 (i := 36) rfl rfl)⟩
theorem mv_law_42 : zLV R_law 42 s_PA_rule 2 := ⟨⟨by decide, by decide, by decide +kernel⟩, (ztb_5 (i := 153) rfl rfl), (ztb_5 (i := 151) rfl rfl), (ztb_5 (i := 152) rfl rfl), (ztb_1 (i := 1) rfl rfl), Or.inl (ztb_5 (i := 150) rfl rfl)⟩
theorem mv_law_46 : zLV R_law 46 s_MO_rule 2 := ⟨⟨by decide, by decide, by decide +kernel⟩, (ztb_9 (i := 47) rfl rfl), (ztb_9 (i := 45) rfl rfl), (ztb_9 (i := 46) rfl rfl), (ztb_1 (i := 13) rfl rfl), Or.inl (ztb_9 (i := 44) rfl rfl)⟩
theorem mv_law_47 : zLV R_law 47 s_PA_world 2 := ⟨⟨by decide, by decide, by decide +kernel⟩, (ztb_5 (i := 168) rfl rfl), (ztb_5 (i := 166) rfl rfl), (ztb_5 (i := 167) rfl rfl), (ztb_1 (i := 1) rfl rfl), Or.inl (ztb_5 (i := 165) rfl rfl)⟩
theorem mv_law_50 : zLV R_law 50 s_MO_world 2 := ⟨⟨by decide, by decide, by decide +kernel⟩, (ztb_9 (i := 60) rfl rfl), (ztb_9 (i := 58) rfl rfl), (ztb_9 (i := 59) rfl rfl), (ztb_1 (i := 13) rfl rfl), Or.inl (ztb_9 (i := 57) rfl rfl)⟩
theorem mv_law_51 : zLV R_law 51 s_PA_agent 3 := ⟨⟨by decide, by decide, by decide +kernel⟩, (ztb_5 (i := 182) rfl rfl), (ztb_5 (i := 180) rfl rfl), (ztb_5 (i := 181) rfl rfl), (ztb_1 (i := 1) rfl rfl), Or.inl (ztb_5 (i := 179) rfl rfl)⟩
theorem mv_law_54 : zLV R_law 54 s_MO_agent 3 := ⟨⟨by decide, by decide, by decide +kernel⟩, (ztb_9 (i := 68) rfl rfl), (ztb_9 (i := 66) rfl rfl), (ztb_9 (i := 67) rfl rfl), (ztb_1 (i := 13) rfl rfl), Or.inl (ztb_9 (i := 65) rfl rfl)⟩
theorem mv_law_55 : zLV R_law 55 s_PA_leads 3 := ⟨⟨by decide, by decide, by decide +kernel⟩, (ztb_5 (i := 191) rfl rfl), (ztb_5 (i := 189) rfl rfl), (ztb_5 (i := 190) rfl rfl), (ztb_1 (i := 1) rfl rfl), Or.inl (ztb_5 (i := 188) rfl rfl)⟩
theorem mv_law_58 : zLV R_law 58 s_MO_leads 3 := ⟨⟨by decide, by decide, by decide +kernel⟩, (ztb_9 (i := 119) rfl rfl), (ztb_9 (i := 117) rfl rfl), (ztb_9 (i := 118) rfl rfl), (ztb_1 (i := 13) rfl rfl), Or.inl (ztb_9 (i := 116) rfl rfl)⟩
theorem mv_law_59 : zLV R_law 59 s_PA_way 3 := ⟨⟨by decide, by decide, by decide +kernel⟩, (ztb_5 (i := 201) rfl rfl), (ztb_5 (i := 199) rfl rfl), (ztb_5 (i := 200) rfl rfl), (ztb_1 (i := 1) rfl rfl), Or.inl (ztb_5 (i := 198) rfl rfl)⟩
theorem mv_law_62 : zLV R_law 62 s_MO_way 3 := ⟨⟨by decide, by decide, by decide +kernel⟩, (ztb_9 (i := 127) rfl rfl), (ztb_9 (i := 125) rfl rfl), (ztb_9 (i := 126) rfl rfl), (ztb_1 (i := 13) rfl rfl), Or.inl (ztb_9 (i := 124) rfl rfl)⟩
theorem mv_law_63 : zLV R_law 63 s_PA_first 1 := ⟨⟨by decide, by decide, by decide +kernel⟩, (ztb_5 (i := 209) rfl rfl), (ztb_5 (i := 207) rfl rfl), (ztb_5 (i := 208) rfl rfl), (ztb_1 (i := 1) rfl rfl), Or.inl (ztb_5 (i := 206) rfl rfl)⟩
theorem mv_law_66 : zLV R_law 66 s_MO_first 1 := ⟨⟨by decide, by decide, by decide +kernel⟩, (ztb_9 (i := 144) rfl rfl), (ztb_9 (i := 142) rfl rfl), (ztb_9 (i := 143) rfl rfl), (ztb_1 (i := 13) rfl rfl), Or.inl (ztb_9 (i := 141) rfl rfl)⟩
theorem mv_law_67 : zLV R_law 67 s_PA_part 2 := ⟨⟨by decide, by decide, by decide +kernel⟩, (ztb_5 (i := 225) rfl rfl), (ztb_5 (i := 223) rfl rfl), (ztb_5 (i := 224) rfl rfl), (ztb_1 (i := 1) rfl rfl), Or.inl (ztb_5 (i := 222) rfl rfl)⟩
theorem mv_law_70 : zLV R_law 70 s_MO_part 2 := ⟨⟨by decide, by decide, by decide +kernel⟩, (ztb_9 (i := 52) rfl rfl), (ztb_9 (i := 50) rfl rfl), (ztb_9 (i := 51) rfl rfl), (ztb_1 (i := 13) rfl rfl), Or.inl (ztb_9 (i := 49) rfl rfl)⟩
theorem mv_law_71 : zLV R_law 71 s_PA_returns 0 := ⟨⟨by decide, by decide, by decide +kernel⟩, (ztb_5 (i := 229) rfl rfl), (ztb_5 (i := 227) rfl rfl), (ztb_5 (i := 228) rfl rfl), (ztb_1 (i := 1) rfl rfl), Or.inl (ztb_5 (i := 226) rfl rfl)⟩
theorem mv_law_74 : zLV R_law 74 s_MO_returns 0 := ⟨⟨by decide, by decide, by decide +kernel⟩, (ztb_9 (i := 157) rfl rfl), (ztb_9 (i := 155) rfl rfl), (ztb_9 (i := 156) rfl rfl), (ztb_1 (i := 13) rfl rfl), Or.inl (ztb_9 (i := 154) rfl rfl)⟩
theorem mv_law_75 : zLV R_law 75 s_PA_starving 1 := ⟨⟨by decide, by decide, by decide +kernel⟩, (ztb_5 (i := 237) rfl rfl), (ztb_5 (i := 235) rfl rfl), (ztb_5 (i := 236) rfl rfl), (ztb_1 (i := 1) rfl rfl), Or.inl (ztb_5 (i := 234) rfl rfl)⟩
theorem mv_law_78 : zLV R_law 78 s_MO_starving 1 := ⟨⟨by decide, by decide, by decide +kernel⟩, (ztb_9 (i := 161) rfl rfl), (ztb_9 (i := 159) rfl rfl), (ztb_9 (i := 160) rfl rfl), (ztb_1 (i := 13) rfl rfl), Or.inl (ztb_9 (i := 158) rfl rfl)⟩
theorem mv_law_79 : zLV R_law 79 s_PA_uses 1 := ⟨⟨by decide, by decide, by decide +kernel⟩, (ztb_6 (i := 5) rfl rfl), (ztb_6 (i := 3) rfl rfl), (ztb_6 (i := 4) rfl rfl), (ztb_1 (i := 1) rfl rfl), Or.inl (ztb_6 (i := 2) rfl rfl)⟩
theorem mv_law_82 : zLV R_law 82 s_MO_uses 1 := ⟨⟨by decide, by decide, by decide +kernel⟩, (ztb_9 (i := 169) rfl rfl), (ztb_9 (i := 167) rfl rfl), (ztb_9 (i := 168) rfl rfl), (ztb_1 (i := 13) rfl rfl), Or.inl (ztb_9 (i := 166) rfl rfl)⟩
theorem mv_law_83 : zLV R_law 83 s_PA_without 2 := ⟨⟨by decide, by decide, by decide +kernel⟩, (ztb_6 (i := 9) rfl rfl), (ztb_6 (i := 7) rfl rfl), (ztb_6 (i := 8) rfl rfl), (ztb_1 (i := 1) rfl rfl), Or.inl (ztb_6 (i := 6) rfl rfl)⟩
theorem mv_law_86 : zLV R_law 86 s_MO_without 2 := ⟨⟨by decide, by decide, by decide +kernel⟩, (ztb_9 (i := 173) rfl rfl), (ztb_9 (i := 171) rfl rfl), (ztb_9 (i := 172) rfl rfl), (ztb_1 (i := 13) rfl rfl), Or.inl (ztb_9 (i := 170) rfl rfl)⟩
theorem mv_law_87 : zLV R_law 87 s_PA_mend 0 := ⟨⟨by decide, by decide, by decide +kernel⟩, (ztb_6 (i := 34) rfl rfl), (ztb_6 (i := 32) rfl rfl), (ztb_6 (i := 33) rfl rfl), (ztb_1 (i := 1) rfl rfl), Or.inl (ztb_6 (i := 31) rfl rfl)⟩
theorem mv_law_90 : zLV R_law 90 s_MO_mend 0 := ⟨⟨by decide, by decide, by decide +kernel⟩, (ztb_9 (i := 182) rfl rfl), (ztb_9 (i := 180) rfl rfl), (ztb_9 (i := 181) rfl rfl), (ztb_1 (i := 13) rfl rfl), Or.inl (ztb_9 (i := 179) rfl rfl)⟩
theorem mv_law_91 : zLV R_law 91 s_PA_now 2 := ⟨⟨by decide, by decide, by decide +kernel⟩, (ztb_6 (i := 46) rfl rfl), (ztb_6 (i := 44) rfl rfl), (ztb_6 (i := 45) rfl rfl), (ztb_1 (i := 1) rfl rfl), Or.inl (ztb_6 (i := 43) rfl rfl)⟩
theorem mv_law_94 : zLV R_law 94 s_MO_now 2 := ⟨⟨by decide, by decide, by decide +kernel⟩, (ztb_9 (i := 194) rfl rfl), (ztb_9 (i := 192) rfl rfl), (ztb_9 (i := 193) rfl rfl), (ztb_1 (i := 13) rfl rfl), Or.inl (ztb_9 (i := 191) rfl rfl)⟩
theorem mv_law_95 : zLV R_law 95 s_PA_can 2 := ⟨⟨by decide, by decide, by decide +kernel⟩, (ztb_6 (i := 52) rfl rfl), (ztb_6 (i := 50) rfl rfl), (ztb_6 (i := 51) rfl rfl), (ztb_1 (i := 1) rfl rfl), Or.inl (ztb_6 (i := 49) rfl rfl)⟩
theorem mv_law_98 : zLV R_law 98 s_MO_can 2 := ⟨⟨by decide, by decide, by decide +kernel⟩, (ztb_9 (i := 199) rfl rfl), (ztb_9 (i := 197) rfl rfl), (ztb_9 (i := 198) rfl rfl), (ztb_1 (i := 13) rfl rfl), Or.inl (ztb_9 (i := 196) rfl rfl)⟩
theorem mv_law_99 : zLV R_law 99 s_PA_move 2 := ⟨⟨by decide, by decide, by decide +kernel⟩, (ztb_6 (i := 57) rfl rfl), (ztb_6 (i := 55) rfl rfl), (ztb_6 (i := 56) rfl rfl), (ztb_1 (i := 1) rfl rfl), Or.inl (ztb_6 (i := 54) rfl rfl)⟩
theorem mv_law_102 : zLV R_law 102 s_MO_move 2 := ⟨⟨by decide, by decide, by decide +kernel⟩, (ztb_9 (i := 203) rfl rfl), (ztb_9 (i := 201) rfl rfl), (ztb_9 (i := 202) rfl rfl), (ztb_1 (i := 13) rfl rfl), Or.inl (ztb_9 (i := 200) rfl rfl)⟩
theorem mv_law_103 : zLV R_law 103 s_PA_jump 1 := ⟨⟨by decide, by decide, by decide +kernel⟩, (ztb_6 (i := 68) rfl rfl), (ztb_6 (i := 66) rfl rfl), (ztb_6 (i := 67) rfl rfl), (ztb_1 (i := 1) rfl rfl), Or.inl (ztb_6 (i := 65) rfl rfl)⟩
theorem mv_law_106 : zLV R_law 106 s_MO_jump 1 := ⟨⟨by decide, by decide, by decide +kernel⟩, (ztb_9 (i := 212) rfl rfl), (ztb_9 (i := 210) rfl rfl), (ztb_9 (i := 211) rfl rfl), (ztb_1 (i := 13) rfl rfl), Or.inl (ztb_9 (i := 209) rfl rfl)⟩
theorem mv_law_107 : zLV R_law 107 s_PA_chance 1 := ⟨⟨by decide, by decide, by decide +kernel⟩, (ztb_6 (i := 73) rfl rfl), (ztb_6 (i := 71) rfl rfl), (ztb_6 (i := 72) rfl rfl), (ztb_1 (i := 1) rfl rfl), Or.inl (ztb_6 (i := 70) rfl rfl)⟩
theorem mv_law_110 : zLV R_law 110 s_MO_chance 1 := ⟨⟨by decide, by decide, by decide +kernel⟩, (ztb_9 (i := 220) rfl rfl), (ztb_9 (i := 218) rfl rfl), (ztb_9 (i := 219) rfl rfl), (ztb_1 (i := 13) rfl rfl), Or.inl (ztb_9 (i := 217) rfl rfl)⟩
theorem mv_law_111 : zLV R_law 111 s_PA_undo 0 := ⟨⟨by decide, by decide, by decide +kernel⟩, (ztb_6 (i := 94) rfl rfl), (ztb_6 (i := 92) rfl rfl), (ztb_6 (i := 93) rfl rfl), (ztb_1 (i := 1) rfl rfl), Or.inl (ztb_6 (i := 91) rfl rfl)⟩
theorem mv_law_115 : zLV R_law 115 s_MO_undo 0 := ⟨⟨by decide, by decide, by decide +kernel⟩, (ztb_9 (i := 190) rfl rfl), (ztb_9 (i := 188) rfl rfl), (ztb_9 (i := 189) rfl rfl), (ztb_1 (i := 13) rfl rfl), Or.inl (ztb_9 (i := 187) rfl rfl)⟩
theorem mv_law_116 : zLV R_law 116 s_PA_seed 1 := ⟨⟨by decide, by decide, by decide +kernel⟩, (ztb_6 (i := 98) rfl rfl), (ztb_6 (i := 96) rfl rfl), (ztb_6 (i := 97) rfl rfl), (ztb_1 (i := 1) rfl rfl), Or.inl (ztb_6 (i := 95) rfl rfl)⟩
theorem mv_law_119 : zLV R_law 119 s_MO_seed 1 := ⟨⟨by decide, by decide, by decide +kernel⟩, (ztb_9 (i := 216) rfl rfl), (ztb_9 (i := 214) rfl rfl), (ztb_9 (i := 215) rfl rfl), (ztb_1 (i := 13) rfl rfl), Or.inl (ztb_9 (i := 213) rfl rfl)⟩
theorem mv_law_120 : zLV R_law 120 s_PA_see 1 := ⟨⟨by decide, by decide, by decide +kernel⟩, (ztb_6 (i := 102) rfl rfl), (ztb_6 (i := 100) rfl rfl), (ztb_6 (i := 101) rfl rfl), (ztb_1 (i := 1) rfl rfl), Or.inl (ztb_6 (i := 99) rfl rfl)⟩
theorem mv_law_123 : zLV R_law 123 s_MO_see 1 := ⟨⟨by decide, by decide, by decide +kernel⟩, (ztb_9 (i := 237) rfl rfl), (ztb_9 (i := 235) rfl rfl), (ztb_9 (i := 236) rfl rfl), (ztb_1 (i := 13) rfl rfl), Or.inl (ztb_9 (i := 234) rfl rfl)⟩
theorem mv_law_124 : zLV R_law 124 s_PA_could 1 := ⟨⟨by decide, by decide, by decide +kernel⟩, (ztb_6 (i := 116) rfl rfl), (ztb_6 (i := 114) rfl rfl), (ztb_6 (i := 115) rfl rfl), (ztb_1 (i := 1) rfl rfl), Or.inl (ztb_6 (i := 113) rfl rfl)⟩
theorem mv_law_127 : zLV R_law 127 s_MO_could 1 := ⟨⟨by decide, by decide, by decide +kernel⟩, (ztb_10 (i := 2) rfl rfl), (ztb_10 (i := 0) rfl rfl), (ztb_10 (i := 1) rfl rfl), (ztb_1 (i := 13) rfl rfl), Or.inl (ztb_9 (i := 239) rfl rfl)⟩
theorem mv_law_128 : zLV R_law 128 s_PA_tells 1 := ⟨⟨by decide, by decide, by decide +kernel⟩, (ztb_6 (i := 138) rfl rfl), (ztb_6 (i := 136) rfl rfl), (ztb_6 (i := 137) rfl rfl), (ztb_1 (i := 1) rfl rfl), Or.inl (ztb_6 (i := 135) rfl rfl)⟩
theorem mv_law_131 : zLV R_law 131 s_MO_tells 1 := ⟨⟨by decide, by decide, by decide +kernel⟩, (ztb_10 (i := 22) rfl rfl), (ztb_10 (i := 20) rfl rfl), (ztb_10 (i := 21) rfl rfl), (ztb_1 (i := 13) rfl rfl), Or.inl (ztb_10 (i := 19) rfl rfl)⟩
theorem mv_law_132 : zLV R_law 132 s_PA_spell 1 := ⟨⟨by decide, by decide, by decide +kernel⟩, (ztb_6 (i := 155) rfl rfl), (ztb_6 (i := 153) rfl rfl), (ztb_6 (i := 154) rfl rfl), (ztb_1 (i := 1) rfl rfl), Or.inl (ztb_6 (i := 152) rfl rfl)⟩
theorem mv_law_135 : zLV R_law 135 s_MO_spell 1 := ⟨⟨by decide, by decide, by decide +kernel⟩, (ztb_10 (i := 30) rfl rfl), (ztb_10 (i := 28) rfl rfl), (ztb_10 (i := 29) rfl rfl), (ztb_1 (i := 13) rfl rfl), Or.inl (ztb_10 (i := 27) rfl rfl)⟩
theorem mv_law_136 : zLV R_law 136 s_PA_which 0 := ⟨⟨by decide, by decide, by decide +kernel⟩, (ztb_6 (i := 173) rfl rfl), (ztb_6 (i := 171) rfl rfl), (ztb_6 (i := 172) rfl rfl), (ztb_1 (i := 1) rfl rfl), Or.inl (ztb_6 (i := 170) rfl rfl)⟩
theorem mv_law_139 : zLV R_law 139 s_MO_which 0 := ⟨⟨by decide, by decide, by decide +kernel⟩, (ztb_10 (i := 50) rfl rfl), (ztb_10 (i := 48) rfl rfl), (ztb_10 (i := 49) rfl rfl), (ztb_1 (i := 13) rfl rfl), Or.inl (ztb_10 (i := 47) rfl rfl)⟩
theorem mv_law_140 : zLV R_law 140 s_PA_image 0 := ⟨⟨by decide, by decide, by decide +kernel⟩, (ztb_6 (i := 181) rfl rfl), (ztb_6 (i := 179) rfl rfl), (ztb_6 (i := 180) rfl rfl), (ztb_1 (i := 1) rfl rfl), Or.inl (ztb_6 (i := 178) rfl rfl)⟩
theorem mv_law_143 : zLV R_law 143 s_MO_image 0 := ⟨⟨by decide, by decide, by decide +kernel⟩, (ztb_10 (i := 58) rfl rfl), (ztb_10 (i := 56) rfl rfl), (ztb_10 (i := 57) rfl rfl), (ztb_1 (i := 13) rfl rfl), Or.inl (ztb_10 (i := 55) rfl rfl)⟩
theorem mv_law_144 : zLV R_law 144 s_PA_octet 1 := ⟨⟨by decide, by decide, by decide +kernel⟩, (ztb_6 (i := 192) rfl rfl), (ztb_6 (i := 190) rfl rfl), (ztb_6 (i := 191) rfl rfl), (ztb_1 (i := 1) rfl rfl), Or.inl (ztb_6 (i := 189) rfl rfl)⟩
theorem mv_law_147 : zLV R_law 147 s_MO_octet 1 := ⟨⟨by decide, by decide, by decide +kernel⟩, (ztb_10 (i := 65) rfl rfl), (ztb_10 (i := 63) rfl rfl), (ztb_10 (i := 64) rfl rfl), (ztb_1 (i := 13) rfl rfl), Or.inl (ztb_10 (i := 62) rfl rfl)⟩
theorem mv_law_148 : zLV R_law 148 s_PA_on 0 := ⟨⟨by decide, by decide, by decide +kernel⟩, (ztb_6 (i := 197) rfl rfl), (ztb_6 (i := 195) rfl rfl), (ztb_6 (i := 196) rfl rfl), (ztb_1 (i := 1) rfl rfl), Or.inl (ztb_6 (i := 194) rfl rfl)⟩
theorem mv_law_151 : zLV R_law 151 s_MO_on 0 := ⟨⟨by decide, by decide, by decide +kernel⟩, (ztb_10 (i := 69) rfl rfl), (ztb_10 (i := 67) rfl rfl), (ztb_10 (i := 68) rfl rfl), (ztb_1 (i := 13) rfl rfl), Or.inl (ztb_10 (i := 66) rfl rfl)⟩
theorem mv_law_152 : zLV R_law 152 s_PA_status 1 := ⟨⟨by decide, by decide, by decide +kernel⟩, (ztb_6 (i := 220) rfl rfl), (ztb_6 (i := 218) rfl rfl), (ztb_6 (i := 219) rfl rfl), (ztb_1 (i := 1) rfl rfl), Or.inl (ztb_6 (i := 217) rfl rfl)⟩
theorem mv_law_155 : zLV R_law 155 s_MO_status 1 := ⟨⟨by decide, by decide, by decide +kernel⟩, (ztb_8 (i := 25) rfl rfl), (ztb_8 (i := 23) rfl rfl), (ztb_8 (i := 24) rfl rfl), (ztb_1 (i := 13) rfl rfl), Or.inl (ztb_8 (i := 22) rfl rfl)⟩
