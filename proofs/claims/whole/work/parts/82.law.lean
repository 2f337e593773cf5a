/-! THE CLAIM OUT OF ONE WALK OF THE LAW'S BODY. Your part is whole_start (and what it stands on); all else here is the same for every law, but numbers. -/
def R_law : String := "FlagSignalsLaw"
def lw_P (b : Addr) (xs : List Int32) (args : Array Value) (s : State) : Prop := args = #[.ref b] ∧ s.IntsAt b xs ∧ xs.length ≤ 2560 ∧ (Jvm.Cond.and given_1 narrow_1).before args s = true
def lw_Q (_ : Array Value) (s : State) (o : Outcome) (t : State) : Prop := o = .returned (some (.int 1)) ∧ Framed s o t [] 600000 7302250
def lw_Z (below : List Frame) (a : Array Value) (s : State) : State → Prop := fun t => ∃ o, t.status = .running ∧ Ended t below o ∧ lw_Q a s o t
/-- the law's own end, with 1 on the stack, nothing written that was there before, its room as the claim has it -/
theorem lw_ret {p : Program} {l : Launch} {e : Env} {s : State} {m : MethodId} {below : List Frame} {meth : Method} {c : Code} {b : Nat} (hx : p.tables.exec = Jvm.exec) (hb : c.code = code) (hr : meth.sig.returnType = ret) (hlocks : meth.locks = false) {pc : Nat} {H : Heap} {ls : Array Slot} (hdg : decode code pc = .ok (.ireturn, 1)) : W p l e room_1 s m #[Value.ref b] below meth c H [] 600000 7302250 (lw_Z below #[Value.ref b] s) (F0 m pc ls [.int 1]) := by
  intro T hT X
  obtain ⟨fs, hret, hrun, hended, hW, hframe⟩ := X.leave (v := some (.int 1)) (hlocks := hlocks) (fun h => by rw [hr] at h; cases h)
  have hmeth' : T.vm.method? m = some meth := X.method'
  refine ⟨T.setFrames fs, ?_, .returned (some (.int 1)), hrun, hended, rfl, ⟨_, rfl⟩, hW, hframe⟩
  jvm_step X.here [X.here.top, hx, hb, hdg, hmeth', hr, ret, narrow_b1]
  (try refine ⟨rfl, ?_⟩); (try refine ⟨rfl, ?_⟩)
  first | (intro acts; rw [hret _ acts rfl rfl rfl]) | rw [hret _ _ rfl rfl rfl]
  exact Steps.refl _
/-- what holds at the law's entry: the machine, the code, the tables' words (any of lw_tbl by 'hts w (by decide +kernel)'), the script of L ints xs at the cell b, what the Statement gives of the start (any of its parts by flat_of_before) -/
def lw_At (p : Program) (s : State) (m : MethodId) (meth : Method) (c : Code) (b L : Nat) (xs : Nat → Int32) : Prop :=
  p.tables.exec = Jvm.exec ∧ c.code = code ∧ meth.sig.returnType = ret ∧ c.maxLocals = 4 ∧ s.vm.findClass R_law = some m.cls ∧ (∀ w ∈ lw_tbl, w.before #[Value.ref b] s = true) ∧ va_X b L xs s s.heap ∧ b < s.heap.size ∧ meth.locks = false ∧ (Jvm.Cond.and given_1 narrow_1).before #[Value.ref b] s = true
theorem dc_law_0 : decode code 0 = .ok (.new 7, 3) := by decide +kernel
theorem dc_law_3 : decode code 3 = .ok (.dup, 1) := by decide +kernel
theorem dc_law_4 : decode code 4 = .ok (.invokespecial 9, 3) := by decide +kernel
theorem dc_law_7 : decode code 7 = .ok (.astore_n 1, 1) := by decide +kernel
theorem dc_law_8 : decode code 8 = .ok (.new 10, 3) := by decide +kernel
theorem dc_law_11 : decode code 11 = .ok (.dup, 1) := by decide +kernel
theorem dc_law_12 : decode code 12 = .ok (.invokespecial 12, 3) := by decide +kernel
theorem dc_law_15 : decode code 15 = .ok (.astore_n 2, 1) := by decide +kernel
theorem dc_law_16 : decode code 16 = .ok (.iconst 0, 1) := by decide +kernel
theorem dc_law_17 : decode code 17 = .ok (.istore_n 3, 1) := by decide +kernel
theorem dc_law_18 : decode code 18 = .ok (.iload_n 3, 1) := by decide +kernel
theorem dc_law_19 : decode code 19 = .ok (.aload_n 0, 1) := by decide +kernel
theorem dc_law_20 : decode code 20 = .ok (.arraylength, 1) := by decide +kernel
theorem dc_law_21 : decode code 21 = .ok (.iconst 5, 1) := by decide +kernel
theorem dc_law_22 : decode code 22 = .ok (.isub, 1) := by decide +kernel
theorem dc_law_23 : decode code 23 = .ok (.if_icmp .gt 892, 3) := by decide +kernel
theorem dc_law_26 : decode code 26 = .ok (.aload_n 0, 1) := by decide +kernel
theorem dc_law_27 : decode code 27 = .ok (.iload_n 3, 1) := by decide +kernel
theorem dc_law_28 : decode code 28 = .ok (.iaload, 1) := by decide +kernel
theorem dc_law_29 : decode code 29 = .ok (.bipush 31, 2) := by decide +kernel
theorem dc_law_31 : decode code 31 = .ok (.iand, 1) := by decide +kernel
theorem dc_law_32 : decode code 32 = .ok (.tableswitch 877 0 26 #[124, 147, 160, 173, 196, 229, 262, 295, 328, 361, 384, 407, 430, 483, 532, 555, 568, 627, 650, 683, 716, 749, 782, 795, 808, 831, 854], 124) := by decide +kernel
theorem dc_law_156 : decode code 156 = .ok (.aload_n 1, 1) := by decide +kernel
theorem dc_law_157 : decode code 157 = .ok (.aload_n 0, 1) := by decide +kernel
theorem dc_law_158 : decode code 158 = .ok (.iload_n 3, 1) := by decide +kernel
theorem dc_law_159 : decode code 159 = .ok (.iconst 1, 1) := by decide +kernel
theorem dc_law_160 : decode code 160 = .ok (.iadd, 1) := by decide +kernel
theorem dc_law_161 : decode code 161 = .ok (.iaload, 1) := by decide +kernel
theorem dc_law_162 : decode code 162 = .ok (.invokevirtual 13, 3) := by decide +kernel
theorem dc_law_165 : decode code 165 = .ok (.aload_n 2, 1) := by decide +kernel
theorem dc_law_166 : decode code 166 = .ok (.aload_n 0, 1) := by decide +kernel
theorem dc_law_167 : decode code 167 = .ok (.iload_n 3, 1) := by decide +kernel
theorem dc_law_168 : decode code 168 = .ok (.iconst 1, 1) := by decide +kernel
theorem dc_law_169 : decode code 169 = .ok (.iadd, 1) := by decide +kernel
theorem dc_law_170 : decode code 170 = .ok (.iaload, 1) := by decide +kernel
theorem dc_law_171 : decode code 171 = .ok (.invokevirtual 17, 3) := by decide +kernel
theorem dc_law_174 : decode code 174 = .ok (.if_icmp .eq 735, 3) := by decide +kernel
theorem dc_law_177 : decode code 177 = .ok (.iconst 0, 1) := by decide +kernel
theorem dc_law_178 : decode code 178 = .ok (.ireturn, 1) := by decide +kernel
theorem dc_law_179 : decode code 179 = .ok (.aload_n 1, 1) := by decide +kernel
theorem dc_law_180 : decode code 180 = .ok (.invokevirtual 18, 3) := by decide +kernel
theorem dc_law_183 : decode code 183 = .ok (.aload_n 2, 1) := by decide +kernel
theorem dc_law_184 : decode code 184 = .ok (.invokevirtual 22, 3) := by decide +kernel
theorem dc_law_187 : decode code 187 = .ok (.if_icmp .eq 722, 3) := by decide +kernel
theorem dc_law_190 : decode code 190 = .ok (.iconst 0, 1) := by decide +kernel
theorem dc_law_191 : decode code 191 = .ok (.ireturn, 1) := by decide +kernel
theorem dc_law_192 : decode code 192 = .ok (.aload_n 1, 1) := by decide +kernel
theorem dc_law_193 : decode code 193 = .ok (.invokevirtual 23, 3) := by decide +kernel
theorem dc_law_196 : decode code 196 = .ok (.aload_n 2, 1) := by decide +kernel
theorem dc_law_197 : decode code 197 = .ok (.invokevirtual 26, 3) := by decide +kernel
theorem dc_law_200 : decode code 200 = .ok (.if_icmp .eq 709, 3) := by decide +kernel
theorem dc_law_203 : decode code 203 = .ok (.iconst 0, 1) := by decide +kernel
theorem dc_law_204 : decode code 204 = .ok (.ireturn, 1) := by decide +kernel
theorem dc_law_205 : decode code 205 = .ok (.aload_n 1, 1) := by decide +kernel
theorem dc_law_206 : decode code 206 = .ok (.aload_n 0, 1) := by decide +kernel
theorem dc_law_207 : decode code 207 = .ok (.iload_n 3, 1) := by decide +kernel
theorem dc_law_208 : decode code 208 = .ok (.iconst 1, 1) := by decide +kernel
theorem dc_law_209 : decode code 209 = .ok (.iadd, 1) := by decide +kernel
theorem dc_law_210 : decode code 210 = .ok (.iaload, 1) := by decide +kernel
theorem dc_law_211 : decode code 211 = .ok (.invokevirtual 27, 3) := by decide +kernel
theorem dc_law_214 : decode code 214 = .ok (.aload_n 2, 1) := by decide +kernel
theorem dc_law_215 : decode code 215 = .ok (.aload_n 0, 1) := by decide +kernel
theorem dc_law_216 : decode code 216 = .ok (.iload_n 3, 1) := by decide +kernel
theorem dc_law_217 : decode code 217 = .ok (.iconst 1, 1) := by decide +kernel
theorem dc_law_218 : decode code 218 = .ok (.iadd, 1) := by decide +kernel
theorem dc_law_219 : decode code 219 = .ok (.iaload, 1) := by decide +kernel
theorem dc_law_220 : decode code 220 = .ok (.invokevirtual 30, 3) := by decide +kernel
theorem dc_law_223 : decode code 223 = .ok (.if_icmp .eq 686, 3) := by decide +kernel
theorem dc_law_226 : decode code 226 = .ok (.iconst 0, 1) := by decide +kernel
theorem dc_law_227 : decode code 227 = .ok (.ireturn, 1) := by decide +kernel
theorem dc_law_228 : decode code 228 = .ok (.aload_n 1, 1) := by decide +kernel
theorem dc_law_229 : decode code 229 = .ok (.aload_n 0, 1) := by decide +kernel
theorem dc_law_230 : decode code 230 = .ok (.iload_n 3, 1) := by decide +kernel
theorem dc_law_231 : decode code 231 = .ok (.iconst 1, 1) := by decide +kernel
theorem dc_law_232 : decode code 232 = .ok (.iadd, 1) := by decide +kernel
theorem dc_law_233 : decode code 233 = .ok (.iaload, 1) := by decide +kernel
theorem dc_law_234 : decode code 234 = .ok (.aload_n 0, 1) := by decide +kernel
theorem dc_law_235 : decode code 235 = .ok (.iload_n 3, 1) := by decide +kernel
theorem dc_law_236 : decode code 236 = .ok (.iconst 2, 1) := by decide +kernel
theorem dc_law_237 : decode code 237 = .ok (.iadd, 1) := by decide +kernel
theorem dc_law_238 : decode code 238 = .ok (.iaload, 1) := by decide +kernel
theorem dc_law_239 : decode code 239 = .ok (.invokevirtual 31, 3) := by decide +kernel
theorem dc_law_242 : decode code 242 = .ok (.aload_n 2, 1) := by decide +kernel
theorem dc_law_243 : decode code 243 = .ok (.aload_n 0, 1) := by decide +kernel
theorem dc_law_244 : decode code 244 = .ok (.iload_n 3, 1) := by decide +kernel
theorem dc_law_245 : decode code 245 = .ok (.iconst 1, 1) := by decide +kernel
theorem dc_law_246 : decode code 246 = .ok (.iadd, 1) := by decide +kernel
theorem dc_law_247 : decode code 247 = .ok (.iaload, 1) := by decide +kernel
theorem dc_law_248 : decode code 248 = .ok (.aload_n 0, 1) := by decide +kernel
theorem dc_law_249 : decode code 249 = .ok (.iload_n 3, 1) := by decide +kernel
theorem dc_law_250 : decode code 250 = .ok (.iconst 2, 1) := by decide +kernel
theorem dc_law_251 : decode code 251 = .ok (.iadd, 1) := by decide +kernel
theorem dc_law_252 : decode code 252 = .ok (.iaload, 1) := by decide +kernel
theorem dc_law_253 : decode code 253 = .ok (.invokevirtual 35, 3) := by decide +kernel
theorem dc_law_256 : decode code 256 = .ok (.if_icmp .eq 653, 3) := by decide +kernel
theorem dc_law_259 : decode code 259 = .ok (.iconst 0, 1) := by decide +kernel
theorem dc_law_260 : decode code 260 = .ok (.ireturn, 1) := by decide +kernel
theorem dc_law_261 : decode code 261 = .ok (.aload_n 1, 1) := by decide +kernel
theorem dc_law_262 : decode code 262 = .ok (.aload_n 0, 1) := by decide +kernel
theorem dc_law_263 : decode code 263 = .ok (.iload_n 3, 1) := by decide +kernel
theorem dc_law_264 : decode code 264 = .ok (.iconst 1, 1) := by decide +kernel
theorem dc_law_265 : decode code 265 = .ok (.iadd, 1) := by decide +kernel
theorem dc_law_266 : decode code 266 = .ok (.iaload, 1) := by decide +kernel
theorem dc_law_267 : decode code 267 = .ok (.aload_n 0, 1) := by decide +kernel
theorem dc_law_268 : decode code 268 = .ok (.iload_n 3, 1) := by decide +kernel
theorem dc_law_269 : decode code 269 = .ok (.iconst 2, 1) := by decide +kernel
theorem dc_law_270 : decode code 270 = .ok (.iadd, 1) := by decide +kernel
theorem dc_law_271 : decode code 271 = .ok (.iaload, 1) := by decide +kernel
theorem dc_law_272 : decode code 272 = .ok (.invokevirtual 36, 3) := by decide +kernel
theorem dc_law_275 : decode code 275 = .ok (.aload_n 2, 1) := by decide +kernel
theorem dc_law_276 : decode code 276 = .ok (.aload_n 0, 1) := by decide +kernel
theorem dc_law_277 : decode code 277 = .ok (.iload_n 3, 1) := by decide +kernel
theorem dc_law_278 : decode code 278 = .ok (.iconst 1, 1) := by decide +kernel
theorem dc_law_279 : decode code 279 = .ok (.iadd, 1) := by decide +kernel
theorem dc_law_280 : decode code 280 = .ok (.iaload, 1) := by decide +kernel
theorem dc_law_281 : decode code 281 = .ok (.aload_n 0, 1) := by decide +kernel
theorem dc_law_282 : decode code 282 = .ok (.iload_n 3, 1) := by decide +kernel
theorem dc_law_283 : decode code 283 = .ok (.iconst 2, 1) := by decide +kernel
theorem dc_law_284 : decode code 284 = .ok (.iadd, 1) := by decide +kernel
theorem dc_law_285 : decode code 285 = .ok (.iaload, 1) := by decide +kernel
theorem dc_law_286 : decode code 286 = .ok (.invokevirtual 39, 3) := by decide +kernel
theorem dc_law_289 : decode code 289 = .ok (.if_icmp .eq 620, 3) := by decide +kernel
theorem dc_law_292 : decode code 292 = .ok (.iconst 0, 1) := by decide +kernel
theorem dc_law_293 : decode code 293 = .ok (.ireturn, 1) := by decide +kernel
theorem dc_law_294 : decode code 294 = .ok (.aload_n 1, 1) := by decide +kernel
theorem dc_law_295 : decode code 295 = .ok (.aload_n 0, 1) := by decide +kernel
theorem dc_law_296 : decode code 296 = .ok (.iload_n 3, 1) := by decide +kernel
theorem dc_law_297 : decode code 297 = .ok (.iconst 1, 1) := by decide +kernel
theorem dc_law_298 : decode code 298 = .ok (.iadd, 1) := by decide +kernel
theorem dc_law_299 : decode code 299 = .ok (.iaload, 1) := by decide +kernel
theorem dc_law_300 : decode code 300 = .ok (.aload_n 0, 1) := by decide +kernel
theorem dc_law_301 : decode code 301 = .ok (.iload_n 3, 1) := by decide +kernel
theorem dc_law_302 : decode code 302 = .ok (.iconst 2, 1) := by decide +kernel
theorem dc_law_303 : decode code 303 = .ok (.iadd, 1) := by decide +kernel
theorem dc_law_304 : decode code 304 = .ok (.iaload, 1) := by decide +kernel
theorem dc_law_305 : decode code 305 = .ok (.invokevirtual 40, 3) := by decide +kernel
theorem dc_law_308 : decode code 308 = .ok (.aload_n 2, 1) := by decide +kernel
theorem dc_law_309 : decode code 309 = .ok (.aload_n 0, 1) := by decide +kernel
theorem dc_law_310 : decode code 310 = .ok (.iload_n 3, 1) := by decide +kernel
theorem dc_law_311 : decode code 311 = .ok (.iconst 1, 1) := by decide +kernel
theorem dc_law_312 : decode code 312 = .ok (.iadd, 1) := by decide +kernel
theorem dc_law_313 : decode code 313 = .ok (.iaload, 1) := by decide +kernel
theorem dc_law_314 : decode code 314 = .ok (.aload_n 0, 1) := by decide +kernel
theorem dc_law_315 : decode code 315 = .ok (.iload_n 3, 1) := by decide +kernel
theorem dc_law_316 : decode code 316 = .ok (.iconst 2, 1) := by decide +kernel
theorem dc_law_317 : decode code 317 = .ok (.iadd, 1) := by decide +kernel
theorem dc_law_318 : decode code 318 = .ok (.iaload, 1) := by decide +kernel
theorem dc_law_319 : decode code 319 = .ok (.invokevirtual 43, 3) := by decide +kernel
theorem dc_law_322 : decode code 322 = .ok (.if_icmp .eq 587, 3) := by decide +kernel
theorem dc_law_325 : decode code 325 = .ok (.iconst 0, 1) := by decide +kernel
theorem dc_law_326 : decode code 326 = .ok (.ireturn, 1) := by decide +kernel
theorem dc_law_327 : decode code 327 = .ok (.aload_n 1, 1) := by decide +kernel
theorem dc_law_328 : decode code 328 = .ok (.aload_n 0, 1) := by decide +kernel
theorem dc_law_329 : decode code 329 = .ok (.iload_n 3, 1) := by decide +kernel
theorem dc_law_330 : decode code 330 = .ok (.iconst 1, 1) := by decide +kernel
theorem dc_law_331 : decode code 331 = .ok (.iadd, 1) := by decide +kernel
theorem dc_law_332 : decode code 332 = .ok (.iaload, 1) := by decide +kernel
theorem dc_law_333 : decode code 333 = .ok (.aload_n 0, 1) := by decide +kernel
theorem dc_law_334 : decode code 334 = .ok (.iload_n 3, 1) := by decide +kernel
theorem dc_law_335 : decode code 335 = .ok (.iconst 2, 1) := by decide +kernel
theorem dc_law_336 : decode code 336 = .ok (.iadd, 1) := by decide +kernel
theorem dc_law_337 : decode code 337 = .ok (.iaload, 1) := by decide +kernel
theorem dc_law_338 : decode code 338 = .ok (.invokevirtual 44, 3) := by decide +kernel
theorem dc_law_341 : decode code 341 = .ok (.aload_n 2, 1) := by decide +kernel
theorem dc_law_342 : decode code 342 = .ok (.aload_n 0, 1) := by decide +kernel
theorem dc_law_343 : decode code 343 = .ok (.iload_n 3, 1) := by decide +kernel
theorem dc_law_344 : decode code 344 = .ok (.iconst 1, 1) := by decide +kernel
theorem dc_law_345 : decode code 345 = .ok (.iadd, 1) := by decide +kernel
theorem dc_law_346 : decode code 346 = .ok (.iaload, 1) := by decide +kernel
theorem dc_law_347 : decode code 347 = .ok (.aload_n 0, 1) := by decide +kernel
theorem dc_law_348 : decode code 348 = .ok (.iload_n 3, 1) := by decide +kernel
theorem dc_law_349 : decode code 349 = .ok (.iconst 2, 1) := by decide +kernel
theorem dc_law_350 : decode code 350 = .ok (.iadd, 1) := by decide +kernel
theorem dc_law_351 : decode code 351 = .ok (.iaload, 1) := by decide +kernel
theorem dc_law_352 : decode code 352 = .ok (.invokevirtual 47, 3) := by decide +kernel
theorem dc_law_355 : decode code 355 = .ok (.if_icmp .eq 554, 3) := by decide +kernel
theorem dc_law_358 : decode code 358 = .ok (.iconst 0, 1) := by decide +kernel
theorem dc_law_359 : decode code 359 = .ok (.ireturn, 1) := by decide +kernel
theorem dc_law_360 : decode code 360 = .ok (.aload_n 1, 1) := by decide +kernel
theorem dc_law_361 : decode code 361 = .ok (.aload_n 0, 1) := by decide +kernel
theorem dc_law_362 : decode code 362 = .ok (.iload_n 3, 1) := by decide +kernel
theorem dc_law_363 : decode code 363 = .ok (.iconst 1, 1) := by decide +kernel
theorem dc_law_364 : decode code 364 = .ok (.iadd, 1) := by decide +kernel
theorem dc_law_365 : decode code 365 = .ok (.iaload, 1) := by decide +kernel
theorem dc_law_366 : decode code 366 = .ok (.aload_n 0, 1) := by decide +kernel
theorem dc_law_367 : decode code 367 = .ok (.iload_n 3, 1) := by decide +kernel
theorem dc_law_368 : decode code 368 = .ok (.iconst 2, 1) := by decide +kernel
theorem dc_law_369 : decode code 369 = .ok (.iadd, 1) := by decide +kernel
theorem dc_law_370 : decode code 370 = .ok (.iaload, 1) := by decide +kernel
theorem dc_law_371 : decode code 371 = .ok (.invokevirtual 48, 3) := by decide +kernel
theorem dc_law_374 : decode code 374 = .ok (.aload_n 2, 1) := by decide +kernel
theorem dc_law_375 : decode code 375 = .ok (.aload_n 0, 1) := by decide +kernel
theorem dc_law_376 : decode code 376 = .ok (.iload_n 3, 1) := by decide +kernel
theorem dc_law_377 : decode code 377 = .ok (.iconst 1, 1) := by decide +kernel
theorem dc_law_378 : decode code 378 = .ok (.iadd, 1) := by decide +kernel
theorem dc_law_379 : decode code 379 = .ok (.iaload, 1) := by decide +kernel
theorem dc_law_380 : decode code 380 = .ok (.aload_n 0, 1) := by decide +kernel
theorem dc_law_381 : decode code 381 = .ok (.iload_n 3, 1) := by decide +kernel
theorem dc_law_382 : decode code 382 = .ok (.iconst 2, 1) := by decide +kernel
theorem dc_law_383 : decode code 383 = .ok (.iadd, 1) := by decide +kernel
theorem dc_law_384 : decode code 384 = .ok (.iaload, 1) := by decide +kernel
theorem dc_law_385 : decode code 385 = .ok (.invokevirtual 51, 3) := by decide +kernel
theorem dc_law_388 : decode code 388 = .ok (.if_icmp .eq 521, 3) := by decide +kernel
theorem dc_law_391 : decode code 391 = .ok (.iconst 0, 1) := by decide +kernel
theorem dc_law_392 : decode code 392 = .ok (.ireturn, 1) := by decide +kernel
theorem dc_law_393 : decode code 393 = .ok (.aload_n 1, 1) := by decide +kernel
theorem dc_law_394 : decode code 394 = .ok (.aload_n 0, 1) := by decide +kernel
theorem dc_law_395 : decode code 395 = .ok (.iload_n 3, 1) := by decide +kernel
theorem dc_law_396 : decode code 396 = .ok (.iconst 1, 1) := by decide +kernel
theorem dc_law_397 : decode code 397 = .ok (.iadd, 1) := by decide +kernel
theorem dc_law_398 : decode code 398 = .ok (.iaload, 1) := by decide +kernel
theorem dc_law_399 : decode code 399 = .ok (.invokevirtual 52, 3) := by decide +kernel
theorem dc_law_402 : decode code 402 = .ok (.aload_n 2, 1) := by decide +kernel
theorem dc_law_403 : decode code 403 = .ok (.aload_n 0, 1) := by decide +kernel
theorem dc_law_404 : decode code 404 = .ok (.iload_n 3, 1) := by decide +kernel
theorem dc_law_405 : decode code 405 = .ok (.iconst 1, 1) := by decide +kernel
theorem dc_law_406 : decode code 406 = .ok (.iadd, 1) := by decide +kernel
theorem dc_law_407 : decode code 407 = .ok (.iaload, 1) := by decide +kernel
theorem dc_law_408 : decode code 408 = .ok (.invokevirtual 55, 3) := by decide +kernel
theorem dc_law_411 : decode code 411 = .ok (.if_icmp .eq 498, 3) := by decide +kernel
theorem dc_law_414 : decode code 414 = .ok (.iconst 0, 1) := by decide +kernel
theorem dc_law_415 : decode code 415 = .ok (.ireturn, 1) := by decide +kernel
theorem dc_law_416 : decode code 416 = .ok (.aload_n 1, 1) := by decide +kernel
theorem dc_law_417 : decode code 417 = .ok (.aload_n 0, 1) := by decide +kernel
theorem dc_law_418 : decode code 418 = .ok (.iload_n 3, 1) := by decide +kernel
theorem dc_law_419 : decode code 419 = .ok (.iconst 1, 1) := by decide +kernel
theorem dc_law_420 : decode code 420 = .ok (.iadd, 1) := by decide +kernel
theorem dc_law_421 : decode code 421 = .ok (.iaload, 1) := by decide +kernel
theorem dc_law_422 : decode code 422 = .ok (.invokevirtual 56, 3) := by decide +kernel
theorem dc_law_425 : decode code 425 = .ok (.aload_n 2, 1) := by decide +kernel
theorem dc_law_426 : decode code 426 = .ok (.aload_n 0, 1) := by decide +kernel
theorem dc_law_427 : decode code 427 = .ok (.iload_n 3, 1) := by decide +kernel
theorem dc_law_428 : decode code 428 = .ok (.iconst 1, 1) := by decide +kernel
theorem dc_law_429 : decode code 429 = .ok (.iadd, 1) := by decide +kernel
theorem dc_law_430 : decode code 430 = .ok (.iaload, 1) := by decide +kernel
theorem dc_law_431 : decode code 431 = .ok (.invokevirtual 59, 3) := by decide +kernel
theorem dc_law_434 : decode code 434 = .ok (.if_icmp .eq 475, 3) := by decide +kernel
theorem dc_law_437 : decode code 437 = .ok (.iconst 0, 1) := by decide +kernel
theorem dc_law_438 : decode code 438 = .ok (.ireturn, 1) := by decide +kernel
theorem dc_law_439 : decode code 439 = .ok (.aload_n 1, 1) := by decide +kernel
theorem dc_law_440 : decode code 440 = .ok (.aload_n 0, 1) := by decide +kernel
theorem dc_law_441 : decode code 441 = .ok (.iload_n 3, 1) := by decide +kernel
theorem dc_law_442 : decode code 442 = .ok (.iconst 1, 1) := by decide +kernel
theorem dc_law_443 : decode code 443 = .ok (.iadd, 1) := by decide +kernel
theorem dc_law_444 : decode code 444 = .ok (.iaload, 1) := by decide +kernel
theorem dc_law_445 : decode code 445 = .ok (.invokevirtual 60, 3) := by decide +kernel
theorem dc_law_448 : decode code 448 = .ok (.aload_n 2, 1) := by decide +kernel
theorem dc_law_449 : decode code 449 = .ok (.aload_n 0, 1) := by decide +kernel
theorem dc_law_450 : decode code 450 = .ok (.iload_n 3, 1) := by decide +kernel
theorem dc_law_451 : decode code 451 = .ok (.iconst 1, 1) := by decide +kernel
theorem dc_law_452 : decode code 452 = .ok (.iadd, 1) := by decide +kernel
theorem dc_law_453 : decode code 453 = .ok (.iaload, 1) := by decide +kernel
theorem dc_law_454 : decode code 454 = .ok (.invokevirtual 63, 3) := by decide +kernel
theorem dc_law_457 : decode code 457 = .ok (.if_icmp .eq 452, 3) := by decide +kernel
theorem dc_law_460 : decode code 460 = .ok (.iconst 0, 1) := by decide +kernel
theorem dc_law_461 : decode code 461 = .ok (.ireturn, 1) := by decide +kernel
theorem dc_law_462 : decode code 462 = .ok (.aload_n 1, 1) := by decide +kernel
theorem dc_law_463 : decode code 463 = .ok (.aload_n 0, 1) := by decide +kernel
theorem dc_law_464 : decode code 464 = .ok (.iload_n 3, 1) := by decide +kernel
theorem dc_law_465 : decode code 465 = .ok (.iconst 1, 1) := by decide +kernel
theorem dc_law_466 : decode code 466 = .ok (.iadd, 1) := by decide +kernel
theorem dc_law_467 : decode code 467 = .ok (.iaload, 1) := by decide +kernel
theorem dc_law_468 : decode code 468 = .ok (.aload_n 0, 1) := by decide +kernel
theorem dc_law_469 : decode code 469 = .ok (.iload_n 3, 1) := by decide +kernel
theorem dc_law_470 : decode code 470 = .ok (.iconst 2, 1) := by decide +kernel
theorem dc_law_471 : decode code 471 = .ok (.iadd, 1) := by decide +kernel
theorem dc_law_472 : decode code 472 = .ok (.iaload, 1) := by decide +kernel
theorem dc_law_473 : decode code 473 = .ok (.aload_n 0, 1) := by decide +kernel
theorem dc_law_474 : decode code 474 = .ok (.iload_n 3, 1) := by decide +kernel
theorem dc_law_475 : decode code 475 = .ok (.iconst 3, 1) := by decide +kernel
theorem dc_law_476 : decode code 476 = .ok (.iadd, 1) := by decide +kernel
theorem dc_law_477 : decode code 477 = .ok (.iaload, 1) := by decide +kernel
theorem dc_law_478 : decode code 478 = .ok (.aload_n 0, 1) := by decide +kernel
theorem dc_law_479 : decode code 479 = .ok (.iload_n 3, 1) := by decide +kernel
theorem dc_law_480 : decode code 480 = .ok (.iconst 4, 1) := by decide +kernel
theorem dc_law_481 : decode code 481 = .ok (.iadd, 1) := by decide +kernel
theorem dc_law_482 : decode code 482 = .ok (.iaload, 1) := by decide +kernel
theorem dc_law_483 : decode code 483 = .ok (.invokevirtual 64, 3) := by decide +kernel
theorem dc_law_486 : decode code 486 = .ok (.aload_n 2, 1) := by decide +kernel
theorem dc_law_487 : decode code 487 = .ok (.aload_n 0, 1) := by decide +kernel
theorem dc_law_488 : decode code 488 = .ok (.iload_n 3, 1) := by decide +kernel
theorem dc_law_489 : decode code 489 = .ok (.iconst 1, 1) := by decide +kernel
theorem dc_law_490 : decode code 490 = .ok (.iadd, 1) := by decide +kernel
theorem dc_law_491 : decode code 491 = .ok (.iaload, 1) := by decide +kernel
theorem dc_law_492 : decode code 492 = .ok (.aload_n 0, 1) := by decide +kernel
theorem dc_law_493 : decode code 493 = .ok (.iload_n 3, 1) := by decide +kernel
theorem dc_law_494 : decode code 494 = .ok (.iconst 2, 1) := by decide +kernel
theorem dc_law_495 : decode code 495 = .ok (.iadd, 1) := by decide +kernel
theorem dc_law_496 : decode code 496 = .ok (.iaload, 1) := by decide +kernel
theorem dc_law_497 : decode code 497 = .ok (.aload_n 0, 1) := by decide +kernel
theorem dc_law_498 : decode code 498 = .ok (.iload_n 3, 1) := by decide +kernel
theorem dc_law_499 : decode code 499 = .ok (.iconst 3, 1) := by decide +kernel
theorem dc_law_500 : decode code 500 = .ok (.iadd, 1) := by decide +kernel
theorem dc_law_501 : decode code 501 = .ok (.iaload, 1) := by decide +kernel
theorem dc_law_502 : decode code 502 = .ok (.aload_n 0, 1) := by decide +kernel
theorem dc_law_503 : decode code 503 = .ok (.iload_n 3, 1) := by decide +kernel
theorem dc_law_504 : decode code 504 = .ok (.iconst 4, 1) := by decide +kernel
theorem dc_law_505 : decode code 505 = .ok (.iadd, 1) := by decide +kernel
theorem dc_law_506 : decode code 506 = .ok (.iaload, 1) := by decide +kernel
theorem dc_law_507 : decode code 507 = .ok (.invokevirtual 68, 3) := by decide +kernel
theorem dc_law_510 : decode code 510 = .ok (.if_icmp .eq 399, 3) := by decide +kernel
theorem dc_law_513 : decode code 513 = .ok (.iconst 0, 1) := by decide +kernel
theorem dc_law_514 : decode code 514 = .ok (.ireturn, 1) := by decide +kernel
theorem dc_law_515 : decode code 515 = .ok (.aload_n 1, 1) := by decide +kernel
theorem dc_law_516 : decode code 516 = .ok (.aload_n 0, 1) := by decide +kernel
theorem dc_law_517 : decode code 517 = .ok (.iload_n 3, 1) := by decide +kernel
theorem dc_law_518 : decode code 518 = .ok (.iconst 1, 1) := by decide +kernel
theorem dc_law_519 : decode code 519 = .ok (.iadd, 1) := by decide +kernel
theorem dc_law_520 : decode code 520 = .ok (.iaload, 1) := by decide +kernel
theorem dc_law_521 : decode code 521 = .ok (.aload_n 0, 1) := by decide +kernel
theorem dc_law_522 : decode code 522 = .ok (.iload_n 3, 1) := by decide +kernel
theorem dc_law_523 : decode code 523 = .ok (.iconst 2, 1) := by decide +kernel
theorem dc_law_524 : decode code 524 = .ok (.iadd, 1) := by decide +kernel
theorem dc_law_525 : decode code 525 = .ok (.iaload, 1) := by decide +kernel
theorem dc_law_526 : decode code 526 = .ok (.ifCond .eq 7, 3) := by decide +kernel
theorem dc_law_529 : decode code 529 = .ok (.iconst 1, 1) := by decide +kernel
theorem dc_law_530 : decode code 530 = .ok (.goto 4, 3) := by decide +kernel
theorem dc_law_533 : decode code 533 = .ok (.iconst 0, 1) := by decide +kernel
theorem dc_law_534 : decode code 534 = .ok (.invokevirtual 69, 3) := by decide +kernel
theorem dc_law_537 : decode code 537 = .ok (.aload_n 2, 1) := by decide +kernel
theorem dc_law_538 : decode code 538 = .ok (.aload_n 0, 1) := by decide +kernel
theorem dc_law_539 : decode code 539 = .ok (.iload_n 3, 1) := by decide +kernel
theorem dc_law_540 : decode code 540 = .ok (.iconst 1, 1) := by decide +kernel
theorem dc_law_541 : decode code 541 = .ok (.iadd, 1) := by decide +kernel
theorem dc_law_542 : decode code 542 = .ok (.iaload, 1) := by decide +kernel
theorem dc_law_543 : decode code 543 = .ok (.aload_n 0, 1) := by decide +kernel
theorem dc_law_544 : decode code 544 = .ok (.iload_n 3, 1) := by decide +kernel
theorem dc_law_545 : decode code 545 = .ok (.iconst 2, 1) := by decide +kernel
theorem dc_law_546 : decode code 546 = .ok (.iadd, 1) := by decide +kernel
theorem dc_law_547 : decode code 547 = .ok (.iaload, 1) := by decide +kernel
theorem dc_law_548 : decode code 548 = .ok (.ifCond .eq 7, 3) := by decide +kernel
theorem dc_law_551 : decode code 551 = .ok (.iconst 1, 1) := by decide +kernel
theorem dc_law_552 : decode code 552 = .ok (.goto 4, 3) := by decide +kernel
theorem dc_law_555 : decode code 555 = .ok (.iconst 0, 1) := by decide +kernel
theorem dc_law_556 : decode code 556 = .ok (.invokevirtual 73, 3) := by decide +kernel
theorem dc_law_559 : decode code 559 = .ok (.if_icmp .eq 350, 3) := by decide +kernel
theorem dc_law_562 : decode code 562 = .ok (.iconst 0, 1) := by decide +kernel
theorem dc_law_563 : decode code 563 = .ok (.ireturn, 1) := by decide +kernel
theorem dc_law_564 : decode code 564 = .ok (.aload_n 1, 1) := by decide +kernel
theorem dc_law_565 : decode code 565 = .ok (.aload_n 0, 1) := by decide +kernel
theorem dc_law_566 : decode code 566 = .ok (.iload_n 3, 1) := by decide +kernel
theorem dc_law_567 : decode code 567 = .ok (.iconst 1, 1) := by decide +kernel
theorem dc_law_568 : decode code 568 = .ok (.iadd, 1) := by decide +kernel
theorem dc_law_569 : decode code 569 = .ok (.iaload, 1) := by decide +kernel
theorem dc_law_570 : decode code 570 = .ok (.invokevirtual 74, 3) := by decide +kernel
theorem dc_law_573 : decode code 573 = .ok (.aload_n 2, 1) := by decide +kernel
theorem dc_law_574 : decode code 574 = .ok (.aload_n 0, 1) := by decide +kernel
theorem dc_law_575 : decode code 575 = .ok (.iload_n 3, 1) := by decide +kernel
theorem dc_law_576 : decode code 576 = .ok (.iconst 1, 1) := by decide +kernel
theorem dc_law_577 : decode code 577 = .ok (.iadd, 1) := by decide +kernel
theorem dc_law_578 : decode code 578 = .ok (.iaload, 1) := by decide +kernel
theorem dc_law_579 : decode code 579 = .ok (.invokevirtual 77, 3) := by decide +kernel
theorem dc_law_582 : decode code 582 = .ok (.if_icmp .eq 327, 3) := by decide +kernel
theorem dc_law_585 : decode code 585 = .ok (.iconst 0, 1) := by decide +kernel
theorem dc_law_586 : decode code 586 = .ok (.ireturn, 1) := by decide +kernel
theorem dc_law_587 : decode code 587 = .ok (.aload_n 1, 1) := by decide +kernel
theorem dc_law_588 : decode code 588 = .ok (.invokevirtual 78, 3) := by decide +kernel
theorem dc_law_591 : decode code 591 = .ok (.aload_n 2, 1) := by decide +kernel
theorem dc_law_592 : decode code 592 = .ok (.invokevirtual 81, 3) := by decide +kernel
theorem dc_law_595 : decode code 595 = .ok (.if_icmp .eq 314, 3) := by decide +kernel
theorem dc_law_598 : decode code 598 = .ok (.iconst 0, 1) := by decide +kernel
theorem dc_law_599 : decode code 599 = .ok (.ireturn, 1) := by decide +kernel
theorem dc_law_600 : decode code 600 = .ok (.aload_n 1, 1) := by decide +kernel
theorem dc_law_601 : decode code 601 = .ok (.aload_n 0, 1) := by decide +kernel
theorem dc_law_602 : decode code 602 = .ok (.iload_n 3, 1) := by decide +kernel
theorem dc_law_603 : decode code 603 = .ok (.iconst 1, 1) := by decide +kernel
theorem dc_law_604 : decode code 604 = .ok (.iadd, 1) := by decide +kernel
theorem dc_law_605 : decode code 605 = .ok (.iaload, 1) := by decide +kernel
theorem dc_law_606 : decode code 606 = .ok (.aload_n 0, 1) := by decide +kernel
theorem dc_law_607 : decode code 607 = .ok (.iload_n 3, 1) := by decide +kernel
theorem dc_law_608 : decode code 608 = .ok (.iconst 2, 1) := by decide +kernel
theorem dc_law_609 : decode code 609 = .ok (.iadd, 1) := by decide +kernel
theorem dc_law_610 : decode code 610 = .ok (.iaload, 1) := by decide +kernel
theorem dc_law_611 : decode code 611 = .ok (.aload_n 0, 1) := by decide +kernel
theorem dc_law_612 : decode code 612 = .ok (.iload_n 3, 1) := by decide +kernel
theorem dc_law_613 : decode code 613 = .ok (.iconst 3, 1) := by decide +kernel
theorem dc_law_614 : decode code 614 = .ok (.iadd, 1) := by decide +kernel
theorem dc_law_615 : decode code 615 = .ok (.iaload, 1) := by decide +kernel
theorem dc_law_616 : decode code 616 = .ok (.ifCond .eq 7, 3) := by decide +kernel
theorem dc_law_619 : decode code 619 = .ok (.iconst 1, 1) := by decide +kernel
theorem dc_law_620 : decode code 620 = .ok (.goto 4, 3) := by decide +kernel
theorem dc_law_623 : decode code 623 = .ok (.iconst 0, 1) := by decide +kernel
theorem dc_law_624 : decode code 624 = .ok (.invokevirtual 82, 3) := by decide +kernel
theorem dc_law_627 : decode code 627 = .ok (.aload_n 2, 1) := by decide +kernel
theorem dc_law_628 : decode code 628 = .ok (.aload_n 0, 1) := by decide +kernel
theorem dc_law_629 : decode code 629 = .ok (.iload_n 3, 1) := by decide +kernel
theorem dc_law_630 : decode code 630 = .ok (.iconst 1, 1) := by decide +kernel
theorem dc_law_631 : decode code 631 = .ok (.iadd, 1) := by decide +kernel
theorem dc_law_632 : decode code 632 = .ok (.iaload, 1) := by decide +kernel
theorem dc_law_633 : decode code 633 = .ok (.aload_n 0, 1) := by decide +kernel
theorem dc_law_634 : decode code 634 = .ok (.iload_n 3, 1) := by decide +kernel
theorem dc_law_635 : decode code 635 = .ok (.iconst 2, 1) := by decide +kernel
theorem dc_law_636 : decode code 636 = .ok (.iadd, 1) := by decide +kernel
theorem dc_law_637 : decode code 637 = .ok (.iaload, 1) := by decide +kernel
theorem dc_law_638 : decode code 638 = .ok (.aload_n 0, 1) := by decide +kernel
theorem dc_law_639 : decode code 639 = .ok (.iload_n 3, 1) := by decide +kernel
theorem dc_law_640 : decode code 640 = .ok (.iconst 3, 1) := by decide +kernel
theorem dc_law_641 : decode code 641 = .ok (.iadd, 1) := by decide +kernel
theorem dc_law_642 : decode code 642 = .ok (.iaload, 1) := by decide +kernel
theorem dc_law_643 : decode code 643 = .ok (.ifCond .eq 7, 3) := by decide +kernel
theorem dc_law_646 : decode code 646 = .ok (.iconst 1, 1) := by decide +kernel
theorem dc_law_647 : decode code 647 = .ok (.goto 4, 3) := by decide +kernel
theorem dc_law_650 : decode code 650 = .ok (.iconst 0, 1) := by decide +kernel
theorem dc_law_651 : decode code 651 = .ok (.invokevirtual 86, 3) := by decide +kernel
theorem dc_law_654 : decode code 654 = .ok (.if_icmp .eq 255, 3) := by decide +kernel
theorem dc_law_657 : decode code 657 = .ok (.iconst 0, 1) := by decide +kernel
theorem dc_law_658 : decode code 658 = .ok (.ireturn, 1) := by decide +kernel
theorem dc_law_659 : decode code 659 = .ok (.aload_n 1, 1) := by decide +kernel
theorem dc_law_660 : decode code 660 = .ok (.aload_n 0, 1) := by decide +kernel
theorem dc_law_661 : decode code 661 = .ok (.iload_n 3, 1) := by decide +kernel
theorem dc_law_662 : decode code 662 = .ok (.iconst 1, 1) := by decide +kernel
theorem dc_law_663 : decode code 663 = .ok (.iadd, 1) := by decide +kernel
theorem dc_law_664 : decode code 664 = .ok (.iaload, 1) := by decide +kernel
theorem dc_law_665 : decode code 665 = .ok (.invokevirtual 87, 3) := by decide +kernel
theorem dc_law_668 : decode code 668 = .ok (.aload_n 2, 1) := by decide +kernel
theorem dc_law_669 : decode code 669 = .ok (.aload_n 0, 1) := by decide +kernel
theorem dc_law_670 : decode code 670 = .ok (.iload_n 3, 1) := by decide +kernel
theorem dc_law_671 : decode code 671 = .ok (.iconst 1, 1) := by decide +kernel
theorem dc_law_672 : decode code 672 = .ok (.iadd, 1) := by decide +kernel
theorem dc_law_673 : decode code 673 = .ok (.iaload, 1) := by decide +kernel
theorem dc_law_674 : decode code 674 = .ok (.invokevirtual 90, 3) := by decide +kernel
theorem dc_law_677 : decode code 677 = .ok (.if_icmp .eq 232, 3) := by decide +kernel
theorem dc_law_680 : decode code 680 = .ok (.iconst 0, 1) := by decide +kernel
theorem dc_law_681 : decode code 681 = .ok (.ireturn, 1) := by decide +kernel
theorem dc_law_682 : decode code 682 = .ok (.aload_n 1, 1) := by decide +kernel
theorem dc_law_683 : decode code 683 = .ok (.aload_n 0, 1) := by decide +kernel
theorem dc_law_684 : decode code 684 = .ok (.iload_n 3, 1) := by decide +kernel
theorem dc_law_685 : decode code 685 = .ok (.iconst 1, 1) := by decide +kernel
theorem dc_law_686 : decode code 686 = .ok (.iadd, 1) := by decide +kernel
theorem dc_law_687 : decode code 687 = .ok (.iaload, 1) := by decide +kernel
theorem dc_law_688 : decode code 688 = .ok (.aload_n 0, 1) := by decide +kernel
theorem dc_law_689 : decode code 689 = .ok (.iload_n 3, 1) := by decide +kernel
theorem dc_law_690 : decode code 690 = .ok (.iconst 2, 1) := by decide +kernel
theorem dc_law_691 : decode code 691 = .ok (.iadd, 1) := by decide +kernel
theorem dc_law_692 : decode code 692 = .ok (.iaload, 1) := by decide +kernel
theorem dc_law_693 : decode code 693 = .ok (.invokevirtual 91, 3) := by decide +kernel
theorem dc_law_696 : decode code 696 = .ok (.aload_n 2, 1) := by decide +kernel
theorem dc_law_697 : decode code 697 = .ok (.aload_n 0, 1) := by decide +kernel
theorem dc_law_698 : decode code 698 = .ok (.iload_n 3, 1) := by decide +kernel
theorem dc_law_699 : decode code 699 = .ok (.iconst 1, 1) := by decide +kernel
theorem dc_law_700 : decode code 700 = .ok (.iadd, 1) := by decide +kernel
theorem dc_law_701 : decode code 701 = .ok (.iaload, 1) := by decide +kernel
theorem dc_law_702 : decode code 702 = .ok (.aload_n 0, 1) := by decide +kernel
theorem dc_law_703 : decode code 703 = .ok (.iload_n 3, 1) := by decide +kernel
theorem dc_law_704 : decode code 704 = .ok (.iconst 2, 1) := by decide +kernel
theorem dc_law_705 : decode code 705 = .ok (.iadd, 1) := by decide +kernel
theorem dc_law_706 : decode code 706 = .ok (.iaload, 1) := by decide +kernel
theorem dc_law_707 : decode code 707 = .ok (.invokevirtual 94, 3) := by decide +kernel
theorem dc_law_710 : decode code 710 = .ok (.if_icmp .eq 199, 3) := by decide +kernel
theorem dc_law_713 : decode code 713 = .ok (.iconst 0, 1) := by decide +kernel
theorem dc_law_714 : decode code 714 = .ok (.ireturn, 1) := by decide +kernel
theorem dc_law_715 : decode code 715 = .ok (.aload_n 1, 1) := by decide +kernel
theorem dc_law_716 : decode code 716 = .ok (.aload_n 0, 1) := by decide +kernel
theorem dc_law_717 : decode code 717 = .ok (.iload_n 3, 1) := by decide +kernel
theorem dc_law_718 : decode code 718 = .ok (.iconst 1, 1) := by decide +kernel
theorem dc_law_719 : decode code 719 = .ok (.iadd, 1) := by decide +kernel
theorem dc_law_720 : decode code 720 = .ok (.iaload, 1) := by decide +kernel
theorem dc_law_721 : decode code 721 = .ok (.aload_n 0, 1) := by decide +kernel
theorem dc_law_722 : decode code 722 = .ok (.iload_n 3, 1) := by decide +kernel
theorem dc_law_723 : decode code 723 = .ok (.iconst 2, 1) := by decide +kernel
theorem dc_law_724 : decode code 724 = .ok (.iadd, 1) := by decide +kernel
theorem dc_law_725 : decode code 725 = .ok (.iaload, 1) := by decide +kernel
theorem dc_law_726 : decode code 726 = .ok (.invokevirtual 95, 3) := by decide +kernel
theorem dc_law_729 : decode code 729 = .ok (.aload_n 2, 1) := by decide +kernel
theorem dc_law_730 : decode code 730 = .ok (.aload_n 0, 1) := by decide +kernel
theorem dc_law_731 : decode code 731 = .ok (.iload_n 3, 1) := by decide +kernel
theorem dc_law_732 : decode code 732 = .ok (.iconst 1, 1) := by decide +kernel
theorem dc_law_733 : decode code 733 = .ok (.iadd, 1) := by decide +kernel
theorem dc_law_734 : decode code 734 = .ok (.iaload, 1) := by decide +kernel
theorem dc_law_735 : decode code 735 = .ok (.aload_n 0, 1) := by decide +kernel
theorem dc_law_736 : decode code 736 = .ok (.iload_n 3, 1) := by decide +kernel
theorem dc_law_737 : decode code 737 = .ok (.iconst 2, 1) := by decide +kernel
theorem dc_law_738 : decode code 738 = .ok (.iadd, 1) := by decide +kernel
theorem dc_law_739 : decode code 739 = .ok (.iaload, 1) := by decide +kernel
theorem dc_law_740 : decode code 740 = .ok (.invokevirtual 98, 3) := by decide +kernel
theorem dc_law_743 : decode code 743 = .ok (.if_icmp .eq 166, 3) := by decide +kernel
theorem dc_law_746 : decode code 746 = .ok (.iconst 0, 1) := by decide +kernel
theorem dc_law_747 : decode code 747 = .ok (.ireturn, 1) := by decide +kernel
theorem dc_law_748 : decode code 748 = .ok (.aload_n 1, 1) := by decide +kernel
theorem dc_law_749 : decode code 749 = .ok (.aload_n 0, 1) := by decide +kernel
theorem dc_law_750 : decode code 750 = .ok (.iload_n 3, 1) := by decide +kernel
theorem dc_law_751 : decode code 751 = .ok (.iconst 1, 1) := by decide +kernel
theorem dc_law_752 : decode code 752 = .ok (.iadd, 1) := by decide +kernel
theorem dc_law_753 : decode code 753 = .ok (.iaload, 1) := by decide +kernel
theorem dc_law_754 : decode code 754 = .ok (.aload_n 0, 1) := by decide +kernel
theorem dc_law_755 : decode code 755 = .ok (.iload_n 3, 1) := by decide +kernel
theorem dc_law_756 : decode code 756 = .ok (.iconst 2, 1) := by decide +kernel
theorem dc_law_757 : decode code 757 = .ok (.iadd, 1) := by decide +kernel
theorem dc_law_758 : decode code 758 = .ok (.iaload, 1) := by decide +kernel
theorem dc_law_759 : decode code 759 = .ok (.invokevirtual 99, 3) := by decide +kernel
theorem dc_law_762 : decode code 762 = .ok (.aload_n 2, 1) := by decide +kernel
theorem dc_law_763 : decode code 763 = .ok (.aload_n 0, 1) := by decide +kernel
theorem dc_law_764 : decode code 764 = .ok (.iload_n 3, 1) := by decide +kernel
theorem dc_law_765 : decode code 765 = .ok (.iconst 1, 1) := by decide +kernel
theorem dc_law_766 : decode code 766 = .ok (.iadd, 1) := by decide +kernel
theorem dc_law_767 : decode code 767 = .ok (.iaload, 1) := by decide +kernel
theorem dc_law_768 : decode code 768 = .ok (.aload_n 0, 1) := by decide +kernel
theorem dc_law_769 : decode code 769 = .ok (.iload_n 3, 1) := by decide +kernel
theorem dc_law_770 : decode code 770 = .ok (.iconst 2, 1) := by decide +kernel
theorem dc_law_771 : decode code 771 = .ok (.iadd, 1) := by decide +kernel
theorem dc_law_772 : decode code 772 = .ok (.iaload, 1) := by decide +kernel
theorem dc_law_773 : decode code 773 = .ok (.invokevirtual 102, 3) := by decide +kernel
theorem dc_law_776 : decode code 776 = .ok (.if_icmp .eq 133, 3) := by decide +kernel
theorem dc_law_779 : decode code 779 = .ok (.iconst 0, 1) := by decide +kernel
theorem dc_law_780 : decode code 780 = .ok (.ireturn, 1) := by decide +kernel
theorem dc_law_781 : decode code 781 = .ok (.aload_n 1, 1) := by decide +kernel
theorem dc_law_782 : decode code 782 = .ok (.aload_n 0, 1) := by decide +kernel
theorem dc_law_783 : decode code 783 = .ok (.iload_n 3, 1) := by decide +kernel
theorem dc_law_784 : decode code 784 = .ok (.iconst 1, 1) := by decide +kernel
theorem dc_law_785 : decode code 785 = .ok (.iadd, 1) := by decide +kernel
theorem dc_law_786 : decode code 786 = .ok (.iaload, 1) := by decide +kernel
theorem dc_law_787 : decode code 787 = .ok (.aload_n 0, 1) := by decide +kernel
theorem dc_law_788 : decode code 788 = .ok (.iload_n 3, 1) := by decide +kernel
theorem dc_law_789 : decode code 789 = .ok (.iconst 2, 1) := by decide +kernel
theorem dc_law_790 : decode code 790 = .ok (.iadd, 1) := by decide +kernel
theorem dc_law_791 : decode code 791 = .ok (.iaload, 1) := by decide +kernel
theorem dc_law_792 : decode code 792 = .ok (.invokevirtual 103, 3) := by decide +kernel
theorem dc_law_795 : decode code 795 = .ok (.aload_n 2, 1) := by decide +kernel
theorem dc_law_796 : decode code 796 = .ok (.aload_n 0, 1) := by decide +kernel
theorem dc_law_797 : decode code 797 = .ok (.iload_n 3, 1) := by decide +kernel
theorem dc_law_798 : decode code 798 = .ok (.iconst 1, 1) := by decide +kernel
theorem dc_law_799 : decode code 799 = .ok (.iadd, 1) := by decide +kernel
theorem dc_law_800 : decode code 800 = .ok (.iaload, 1) := by decide +kernel
theorem dc_law_801 : decode code 801 = .ok (.aload_n 0, 1) := by decide +kernel
theorem dc_law_802 : decode code 802 = .ok (.iload_n 3, 1) := by decide +kernel
theorem dc_law_803 : decode code 803 = .ok (.iconst 2, 1) := by decide +kernel
theorem dc_law_804 : decode code 804 = .ok (.iadd, 1) := by decide +kernel
theorem dc_law_805 : decode code 805 = .ok (.iaload, 1) := by decide +kernel
theorem dc_law_806 : decode code 806 = .ok (.invokevirtual 106, 3) := by decide +kernel
theorem dc_law_809 : decode code 809 = .ok (.if_icmp .eq 100, 3) := by decide +kernel
theorem dc_law_812 : decode code 812 = .ok (.iconst 0, 1) := by decide +kernel
theorem dc_law_813 : decode code 813 = .ok (.ireturn, 1) := by decide +kernel
theorem dc_law_814 : decode code 814 = .ok (.aload_n 1, 1) := by decide +kernel
theorem dc_law_815 : decode code 815 = .ok (.invokevirtual 107, 3) := by decide +kernel
theorem dc_law_818 : decode code 818 = .ok (.aload_n 2, 1) := by decide +kernel
theorem dc_law_819 : decode code 819 = .ok (.invokevirtual 110, 3) := by decide +kernel
theorem dc_law_822 : decode code 822 = .ok (.if_icmp .eq 87, 3) := by decide +kernel
theorem dc_law_825 : decode code 825 = .ok (.iconst 0, 1) := by decide +kernel
theorem dc_law_826 : decode code 826 = .ok (.ireturn, 1) := by decide +kernel
theorem dc_law_827 : decode code 827 = .ok (.aload_n 1, 1) := by decide +kernel
theorem dc_law_828 : decode code 828 = .ok (.invokevirtual 111, 3) := by decide +kernel
theorem dc_law_831 : decode code 831 = .ok (.aload_n 2, 1) := by decide +kernel
theorem dc_law_832 : decode code 832 = .ok (.invokevirtual 114, 3) := by decide +kernel
theorem dc_law_835 : decode code 835 = .ok (.if_icmp .eq 74, 3) := by decide +kernel
theorem dc_law_838 : decode code 838 = .ok (.iconst 0, 1) := by decide +kernel
theorem dc_law_839 : decode code 839 = .ok (.ireturn, 1) := by decide +kernel
theorem dc_law_840 : decode code 840 = .ok (.aload_n 1, 1) := by decide +kernel
theorem dc_law_841 : decode code 841 = .ok (.aload_n 0, 1) := by decide +kernel
theorem dc_law_842 : decode code 842 = .ok (.iload_n 3, 1) := by decide +kernel
theorem dc_law_843 : decode code 843 = .ok (.iconst 1, 1) := by decide +kernel
theorem dc_law_844 : decode code 844 = .ok (.iadd, 1) := by decide +kernel
theorem dc_law_845 : decode code 845 = .ok (.iaload, 1) := by decide +kernel
theorem dc_law_846 : decode code 846 = .ok (.invokevirtual 115, 3) := by decide +kernel
theorem dc_law_849 : decode code 849 = .ok (.aload_n 2, 1) := by decide +kernel
theorem dc_law_850 : decode code 850 = .ok (.aload_n 0, 1) := by decide +kernel
theorem dc_law_851 : decode code 851 = .ok (.iload_n 3, 1) := by decide +kernel
theorem dc_law_852 : decode code 852 = .ok (.iconst 1, 1) := by decide +kernel
theorem dc_law_853 : decode code 853 = .ok (.iadd, 1) := by decide +kernel
theorem dc_law_854 : decode code 854 = .ok (.iaload, 1) := by decide +kernel
theorem dc_law_855 : decode code 855 = .ok (.invokevirtual 118, 3) := by decide +kernel
theorem dc_law_858 : decode code 858 = .ok (.if_icmp .eq 51, 3) := by decide +kernel
theorem dc_law_861 : decode code 861 = .ok (.iconst 0, 1) := by decide +kernel
theorem dc_law_862 : decode code 862 = .ok (.ireturn, 1) := by decide +kernel
theorem dc_law_863 : decode code 863 = .ok (.aload_n 1, 1) := by decide +kernel
theorem dc_law_864 : decode code 864 = .ok (.aload_n 0, 1) := by decide +kernel
theorem dc_law_865 : decode code 865 = .ok (.iload_n 3, 1) := by decide +kernel
theorem dc_law_866 : decode code 866 = .ok (.iconst 1, 1) := by decide +kernel
theorem dc_law_867 : decode code 867 = .ok (.iadd, 1) := by decide +kernel
theorem dc_law_868 : decode code 868 = .ok (.iaload, 1) := by decide +kernel
theorem dc_law_869 : decode code 869 = .ok (.invokevirtual 119, 3) := by decide +kernel
theorem dc_law_872 : decode code 872 = .ok (.aload_n 2, 1) := by decide +kernel
theorem dc_law_873 : decode code 873 = .ok (.aload_n 0, 1) := by decide +kernel
theorem dc_law_874 : decode code 874 = .ok (.iload_n 3, 1) := by decide +kernel
theorem dc_law_875 : decode code 875 = .ok (.iconst 1, 1) := by decide +kernel
theorem dc_law_876 : decode code 876 = .ok (.iadd, 1) := by decide +kernel
theorem dc_law_877 : decode code 877 = .ok (.iaload, 1) := by decide +kernel
theorem dc_law_878 : decode code 878 = .ok (.invokevirtual 122, 3) := by decide +kernel
theorem dc_law_881 : decode code 881 = .ok (.if_icmp .eq 28, 3) := by decide +kernel
theorem dc_law_884 : decode code 884 = .ok (.iconst 0, 1) := by decide +kernel
theorem dc_law_885 : decode code 885 = .ok (.ireturn, 1) := by decide +kernel
theorem dc_law_886 : decode code 886 = .ok (.aload_n 1, 1) := by decide +kernel
theorem dc_law_887 : decode code 887 = .ok (.aload_n 0, 1) := by decide +kernel
theorem dc_law_888 : decode code 888 = .ok (.iload_n 3, 1) := by decide +kernel
theorem dc_law_889 : decode code 889 = .ok (.iconst 1, 1) := by decide +kernel
theorem dc_law_890 : decode code 890 = .ok (.iadd, 1) := by decide +kernel
theorem dc_law_891 : decode code 891 = .ok (.iaload, 1) := by decide +kernel
theorem dc_law_892 : decode code 892 = .ok (.invokevirtual 123, 3) := by decide +kernel
theorem dc_law_895 : decode code 895 = .ok (.aload_n 2, 1) := by decide +kernel
theorem dc_law_896 : decode code 896 = .ok (.aload_n 0, 1) := by decide +kernel
theorem dc_law_897 : decode code 897 = .ok (.iload_n 3, 1) := by decide +kernel
theorem dc_law_898 : decode code 898 = .ok (.iconst 1, 1) := by decide +kernel
theorem dc_law_899 : decode code 899 = .ok (.iadd, 1) := by decide +kernel
theorem dc_law_900 : decode code 900 = .ok (.iaload, 1) := by decide +kernel
theorem dc_law_901 : decode code 901 = .ok (.invokevirtual 126, 3) := by decide +kernel
theorem dc_law_904 : decode code 904 = .ok (.if_icmp .eq 5, 3) := by decide +kernel
theorem dc_law_907 : decode code 907 = .ok (.iconst 0, 1) := by decide +kernel
theorem dc_law_908 : decode code 908 = .ok (.ireturn, 1) := by decide +kernel
theorem dc_law_909 : decode code 909 = .ok (.iinc 3 5, 3) := by decide +kernel
theorem dc_law_912 : decode code 912 = .ok (.goto (-894), 3) := by decide +kernel
theorem dc_law_915 : decode code 915 = .ok (.iconst 1, 1) := by decide +kernel
theorem dc_law_916 : decode code 916 = .ok (.ireturn, 1) := by decide +kernel
def lw_Cx (p : Program) (s : State) (m : MethodId) (meth : Method) (c : Code) (b L : Nat) (xs : Nat → Int32) (Λ : fg_La) : Prop := lw_At p s m meth c b L xs ∧ fg_E Λ s ∧ fg_inj Λ ∧ (∀ h, h < 209 → s.heap.size ≤ Λ.1 h) ∧ L ≤ 2560
section
variable {p : Program} {l : Launch} {e : Env} {s : State} {m : MethodId} {below : List Frame} {meth : Method} {c : Code} {b L i : Nat} {xs : Nat → Int32} {Λ : fg_La} {σ : fg_St} {H : Heap} {locs : List Loc} {ls : Array Slot} {cells slots : Nat} {Q : State → Prop}
theorem lw_call {x j n h pc : Nat} {N : fg_M} {q : vw_C} {As rest : List Value} {Pm : Int32 → fg_St → Prop} (C : lw_Cx p s m meth c b L xs Λ) (hP : va_P (fg_D Λ) vwCl (fg_ws Λ σ) H) (hS : va_S (fun q : Nat => s.heap.size ≤ q) s.heap H locs) (hls : ls.size = 4) (hj : fg_mt[j]? = some N) (hsta : fg_sta.getD j false = false) (hw : Jvm.Cond.methodLink R_law x N.1 ∈ fg_T) (hnp : (parseMethodDescriptor N.1.desc).map (fun d => d.parameters.length) = some n) (hri : fg_ri N.2.2.2 = true) (hk : vwCl[fg_kd h]? = some q) (hcl : N.1.cls = q.1) (hcat : (rest.map fun v => v.category).sum ≤ 8) (hlen : (fg_fl (.ref h :: As)).length ≤ N.2.2.1) (r : fg_Run 8 j 0 (fg_ent N.2.2.1 (.ref h :: As)) [] σ Pm) (hAs : As.map (fg_cv Λ.1) = As) (hn : As.length = n) (hd : decode code pc = .ok (.invokevirtual x, 3)) (hc : cells ≤ 600000) (hsl : slots ≤ 7302250) (kk : ∀ (y : Int32) (u : fg_St) (H1 : Heap) (locs1 : List Loc), Pm y u → va_P (fg_D Λ) vwCl (fg_ws Λ u) H1 → va_S (fun q : Nat => s.heap.size ≤ q) s.heap H1 locs1 → W p l e room_1 s m #[Value.ref b] below meth c H1 locs1 cells slots Q (F0 m (pc + 3) ls (.int y :: rest))) : W p l e room_1 s m #[Value.ref b] below meth c H locs cells slots Q (F0 m pc ls (As.reverse ++ .ref (Λ.1 h) :: rest)) := by
  obtain ⟨⟨hx, hb, hr, hml, hown, hts0, hX, hbl, hlocks, hgv⟩, hE, hi, hA, hL⟩ := C
  have hts : ∀ w ∈ fg_T, w.before #[Value.ref b] s = true := fun w h => hts0 w (List.mem_filter.mp h).1
  have F := fg_mfacts hj
  have ha := fg_clok _ q hk
  have hM := fg_met (l := l) (Qc := va_Qi (fun y u => Pm y u) (fun u t => va_P (fg_D Λ) vwCl (fg_ws Λ u) t.heap) (fg_A Λ)) hi hj hlen (fg_sound r) (fun s t y u hp h1 h2 => by
    refine ⟨⟨y, u, ?_, hp, h1⟩, h2⟩
    unfold fg_rv
    cases hN : N.2.2.2 with
    | none => rw [hN] at hri; cases hri
    | some ty => rfl)
  have he := fg_ws_at (Λ := Λ) (σ := σ) (fg_kd_lt (h := h) rfl (by omega))
  rw [fg_cell_o rfl ha.1] at he
  have hFA : ∀ q, fg_A Λ q → s.heap.size ≤ q := fun q h => by obtain ⟨g, hg, rfl⟩ := h; exact hA g hg
  have em : (Value.ref h :: As).map (fg_cv Λ.1) = .ref (Λ.1 h) :: As := by rw [List.map_cons, hAs]; rfl
  rw [em] at hM
  refine va_calli (va_runV (b := Λ.1 h) (As := As) (rest := rest) ⟨hx, hb, hml, hown, hts⟩ hM (cwV n hts (fg_good (ws := wsV R_law x N.1.cls N.1 (fg_wm N)) ?_) rfl rfl rfl ⟨rfl, F.2.2.2.1.1, F.2.2.2.1.2, hnp⟩ ⟨Nat.le_of_ble_eq_true rfl, ?_⟩) ⟨fg_pcb, ?_, fun U hU hW => ⟨rfl, by rw [hU]; exact hP, hE.warm hW⟩⟩ rfl hn hls rfl (lv_room hcat) hd ⟨hc, hsl⟩) hS (fun q _ h => hFA q h) hFA (fun y u t H1 locs1 ht hvm hw hB hz1 hk1 hS1 => ?_)
  · intro w hw2
    have F8 := F.2.2.2.2.2.2.2 hsta
    rcases List.mem_append.mp hw2 with h2 | h2
    · simp only [List.mem_cons, List.not_mem_nil, or_false] at h2
      rcases h2 with rfl | rfl | rfl | rfl
      · exact hw
      · exact F8.1
      · exact F8.2
      · exact F.2.2.1
    · exact fg_wm_in hj w h2
  · show 8 + (N.2.2.1 + 11) + 30 * 8 ≤ 382
    have := F.2.2.2.2.2.1
    omega
  · rw [hcl]
    exact va_recv hE.1 hP hk he
  · rw [ht] at hB
    exact kk y u H1 locs1 hw hB hS1
theorem lw_cmp (hL : L ≤ 2560) (hi : i ≤ L) (h : ¬ nI L - 5 < nI i) : i + 5 ≤ L := by
  rcases Nat.lt_or_ge L 5 with q | q
  · have : ∀ L, L < 5 → ∀ i, i < 5 → nI L - 5 < nI i := by decide
    exact absurd (this L q i (by omega)) h
  · rw [show nI L - 5 = nI (L - 5) from pk_sub (b := 5) q, nI_ltI (by omega) (by omega)] at h
    omega
theorem lw_at (k : Nat) (hL : L ≤ 2560) (hi : i + 5 ≤ L) (hk : k < 5) : vp_in (nI i + nI k) L := by
  rw [nI_add]
  exact vp_in_nI (by omega) (by omega)
end
