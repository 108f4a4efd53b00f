/-! the law's walk: printed by wip/whole/gen.py; its head (R_law .. lw_At) is the skeleton's -/
def R_law : String := "RodDipsLaw"
def lw_P (b : Addr) (xs : List Int32) (args : Array Value) (s : State) : Prop := args = #[.ref b] ∧ s.IntsAt b xs ∧ xs.length ≤ 384 ∧ (Jvm.Cond.and given_1 narrow_1).before args s = true
def lw_Q (_ : Array Value) (s : State) (o : Outcome) (t : State) : Prop := o = .returned (some (.int 1)) ∧ Framed s o t [] 600000 7302250
def lw_Z (below : List Frame) (a : Array Value) (s : State) : State → Prop := fun t => ∃ o, t.status = .running ∧ Ended t below o ∧ lw_Q a s o t
/-- the law's own end, with 1 on the stack, nothing written that was there before, its room as the claim has it -/
theorem lw_ret {p : Program} {l : Launch} {e : Env} {s : State} {m : MethodId} {below : List Frame} {meth : Method} {c : Code} {b : Nat} (hx : p.tables.exec = Jvm.exec) (hb : c.code = code) (hr : meth.sig.returnType = ret) (hlocks : meth.locks = false) {pc : Nat} {H : Heap} {ls : Array Slot} (hdg : decode code pc = .ok (.ireturn, 1)) : W p l e room_1 s m #[Value.ref b] below meth c H [] 600000 7302250 (lw_Z below #[Value.ref b] s) (F0 m pc ls [.int 1]) := by
  intro T hT X
  obtain ⟨fs, hret, hrun, hended, hW, hframe⟩ := X.leave (v := some (.int 1)) (hlocks := hlocks) (fun h => by rw [hr] at h; cases h)
  have hmeth' : T.vm.method? m = some meth := X.method'
  refine ⟨T.setFrames fs, ?_, .returned (some (.int 1)), hrun, hended, rfl, ⟨_, rfl⟩, hW, hframe⟩
  jvm_step X.here [X.here.top, hx, hb, hdg, hmeth', hr, ret, narrow_b1]
  (try refine ⟨rfl, ?_⟩); (try refine ⟨rfl, ?_⟩)
  first | (intro acts; rw [hret _ acts rfl rfl rfl]) | rw [hret _ _ rfl rfl rfl]
  exact Steps.refl _
/-- what holds at the law's entry: the machine, the code, the tables' words (any of lw_tbl by 'hts w (by decide +kernel)'), the script of L ints xs at the cell b, what the Statement gives of the start (any of its parts by flat_of_before) -/
def lw_At (p : Program) (s : State) (m : MethodId) (meth : Method) (c : Code) (b L : Nat) (xs : Nat → Int32) : Prop :=
  p.tables.exec = Jvm.exec ∧ c.code = code ∧ meth.sig.returnType = ret ∧ c.maxLocals = 4 ∧ s.vm.findClass R_law = some m.cls ∧ (∀ w ∈ lw_tbl, w.before #[Value.ref b] s = true) ∧ va_X b L xs s s.heap ∧ b < s.heap.size ∧ meth.locks = false ∧ (Jvm.Cond.and given_1 narrow_1).before #[Value.ref b] s = true

theorem dL_law_0 : decode cL_law 0 = .ok (.new 7, 3) := by decide +kernel
theorem dL_law_3 : decode cL_law 3 = .ok (.dup, 1) := by decide +kernel
theorem dL_law_4 : decode cL_law 4 = .ok (.invokespecial 9, 3) := by decide +kernel
theorem dL_law_7 : decode cL_law 7 = .ok (.astore_n 1, 1) := by decide +kernel
theorem dL_law_8 : decode cL_law 8 = .ok (.new 10, 3) := by decide +kernel
theorem dL_law_11 : decode cL_law 11 = .ok (.dup, 1) := by decide +kernel
theorem dL_law_12 : decode cL_law 12 = .ok (.invokespecial 12, 3) := by decide +kernel
theorem dL_law_15 : decode cL_law 15 = .ok (.astore_n 2, 1) := by decide +kernel
theorem dL_law_16 : decode cL_law 16 = .ok (.iconst 0, 1) := by decide +kernel
theorem dL_law_17 : decode cL_law 17 = .ok (.istore_n 3, 1) := by decide +kernel
theorem dL_law_18 : decode cL_law 18 = .ok (.iload_n 3, 1) := by decide +kernel
theorem dL_law_19 : decode cL_law 19 = .ok (.aload_n 0, 1) := by decide +kernel
theorem dL_law_20 : decode cL_law 20 = .ok (.arraylength, 1) := by decide +kernel
theorem dL_law_21 : decode cL_law 21 = .ok (.bipush 6, 2) := by decide +kernel
theorem dL_law_23 : decode cL_law 23 = .ok (.isub, 1) := by decide +kernel
theorem dL_law_24 : decode cL_law 24 = .ok (.if_icmp .gt 1268, 3) := by decide +kernel
theorem dL_law_27 : decode cL_law 27 = .ok (.aload_n 0, 1) := by decide +kernel
theorem dL_law_28 : decode cL_law 28 = .ok (.iload_n 3, 1) := by decide +kernel
theorem dL_law_29 : decode cL_law 29 = .ok (.iaload, 1) := by decide +kernel
theorem dL_law_30 : decode cL_law 30 = .ok (.bipush 31, 2) := by decide +kernel
theorem dL_law_32 : decode cL_law 32 = .ok (.iand, 1) := by decide +kernel
theorem dL_law_33 : decode cL_law 33 = .ok (.tableswitch 1253 0 31 #[143, 166, 229, 262, 295, 358, 371, 404, 427, 471, 535, 589, 622, 645, 668, 701, 714, 747, 770, 803, 826, 889, 942, 986, 1019, 1062, 1105, 1148, 1171, 1204, 1217, 1230], 143) := by decide +kernel
theorem dL_law_176 : decode cL_law 176 = .ok (.aload_n 1, 1) := by decide +kernel
theorem dL_law_177 : decode cL_law 177 = .ok (.aload_n 0, 1) := by decide +kernel
theorem dL_law_178 : decode cL_law 178 = .ok (.iload_n 3, 1) := by decide +kernel
theorem dL_law_179 : decode cL_law 179 = .ok (.iconst 1, 1) := by decide +kernel
theorem dL_law_180 : decode cL_law 180 = .ok (.iadd, 1) := by decide +kernel
theorem dL_law_181 : decode cL_law 181 = .ok (.iaload, 1) := by decide +kernel
theorem dL_law_182 : decode cL_law 182 = .ok (.invokevirtual 13, 3) := by decide +kernel
theorem dL_law_185 : decode cL_law 185 = .ok (.aload_n 2, 1) := by decide +kernel
theorem dL_law_186 : decode cL_law 186 = .ok (.aload_n 0, 1) := by decide +kernel
theorem dL_law_187 : decode cL_law 187 = .ok (.iload_n 3, 1) := by decide +kernel
theorem dL_law_188 : decode cL_law 188 = .ok (.iconst 1, 1) := by decide +kernel
theorem dL_law_189 : decode cL_law 189 = .ok (.iadd, 1) := by decide +kernel
theorem dL_law_190 : decode cL_law 190 = .ok (.iaload, 1) := by decide +kernel
theorem dL_law_191 : decode cL_law 191 = .ok (.invokevirtual 17, 3) := by decide +kernel
theorem dL_law_194 : decode cL_law 194 = .ok (.if_icmp .eq 1092, 3) := by decide +kernel
theorem dL_law_197 : decode cL_law 197 = .ok (.iconst 0, 1) := by decide +kernel
theorem dL_law_198 : decode cL_law 198 = .ok (.ireturn, 1) := by decide +kernel
theorem dL_law_199 : decode cL_law 199 = .ok (.aload_n 1, 1) := by decide +kernel
theorem dL_law_200 : decode cL_law 200 = .ok (.aload_n 0, 1) := by decide +kernel
theorem dL_law_201 : decode cL_law 201 = .ok (.iload_n 3, 1) := by decide +kernel
theorem dL_law_202 : decode cL_law 202 = .ok (.iconst 1, 1) := by decide +kernel
theorem dL_law_203 : decode cL_law 203 = .ok (.iadd, 1) := by decide +kernel
theorem dL_law_204 : decode cL_law 204 = .ok (.iaload, 1) := by decide +kernel
theorem dL_law_205 : decode cL_law 205 = .ok (.aload_n 0, 1) := by decide +kernel
theorem dL_law_206 : decode cL_law 206 = .ok (.iload_n 3, 1) := by decide +kernel
theorem dL_law_207 : decode cL_law 207 = .ok (.iconst 2, 1) := by decide +kernel
theorem dL_law_208 : decode cL_law 208 = .ok (.iadd, 1) := by decide +kernel
theorem dL_law_209 : decode cL_law 209 = .ok (.iaload, 1) := by decide +kernel
theorem dL_law_210 : decode cL_law 210 = .ok (.aload_n 0, 1) := by decide +kernel
theorem dL_law_211 : decode cL_law 211 = .ok (.iload_n 3, 1) := by decide +kernel
theorem dL_law_212 : decode cL_law 212 = .ok (.iconst 3, 1) := by decide +kernel
theorem dL_law_213 : decode cL_law 213 = .ok (.iadd, 1) := by decide +kernel
theorem dL_law_214 : decode cL_law 214 = .ok (.iaload, 1) := by decide +kernel
theorem dL_law_215 : decode cL_law 215 = .ok (.aload_n 0, 1) := by decide +kernel
theorem dL_law_216 : decode cL_law 216 = .ok (.iload_n 3, 1) := by decide +kernel
theorem dL_law_217 : decode cL_law 217 = .ok (.iconst 4, 1) := by decide +kernel
theorem dL_law_218 : decode cL_law 218 = .ok (.iadd, 1) := by decide +kernel
theorem dL_law_219 : decode cL_law 219 = .ok (.iaload, 1) := by decide +kernel
theorem dL_law_220 : decode cL_law 220 = .ok (.aload_n 0, 1) := by decide +kernel
theorem dL_law_221 : decode cL_law 221 = .ok (.iload_n 3, 1) := by decide +kernel
theorem dL_law_222 : decode cL_law 222 = .ok (.iconst 5, 1) := by decide +kernel
theorem dL_law_223 : decode cL_law 223 = .ok (.iadd, 1) := by decide +kernel
theorem dL_law_224 : decode cL_law 224 = .ok (.iaload, 1) := by decide +kernel
theorem dL_law_225 : decode cL_law 225 = .ok (.invokevirtual 18, 3) := by decide +kernel
theorem dL_law_228 : decode cL_law 228 = .ok (.aload_n 2, 1) := by decide +kernel
theorem dL_law_229 : decode cL_law 229 = .ok (.aload_n 0, 1) := by decide +kernel
theorem dL_law_230 : decode cL_law 230 = .ok (.iload_n 3, 1) := by decide +kernel
theorem dL_law_231 : decode cL_law 231 = .ok (.iconst 1, 1) := by decide +kernel
theorem dL_law_232 : decode cL_law 232 = .ok (.iadd, 1) := by decide +kernel
theorem dL_law_233 : decode cL_law 233 = .ok (.iaload, 1) := by decide +kernel
theorem dL_law_234 : decode cL_law 234 = .ok (.aload_n 0, 1) := by decide +kernel
theorem dL_law_235 : decode cL_law 235 = .ok (.iload_n 3, 1) := by decide +kernel
theorem dL_law_236 : decode cL_law 236 = .ok (.iconst 2, 1) := by decide +kernel
theorem dL_law_237 : decode cL_law 237 = .ok (.iadd, 1) := by decide +kernel
theorem dL_law_238 : decode cL_law 238 = .ok (.iaload, 1) := by decide +kernel
theorem dL_law_239 : decode cL_law 239 = .ok (.aload_n 0, 1) := by decide +kernel
theorem dL_law_240 : decode cL_law 240 = .ok (.iload_n 3, 1) := by decide +kernel
theorem dL_law_241 : decode cL_law 241 = .ok (.iconst 3, 1) := by decide +kernel
theorem dL_law_242 : decode cL_law 242 = .ok (.iadd, 1) := by decide +kernel
theorem dL_law_243 : decode cL_law 243 = .ok (.iaload, 1) := by decide +kernel
theorem dL_law_244 : decode cL_law 244 = .ok (.aload_n 0, 1) := by decide +kernel
theorem dL_law_245 : decode cL_law 245 = .ok (.iload_n 3, 1) := by decide +kernel
theorem dL_law_246 : decode cL_law 246 = .ok (.iconst 4, 1) := by decide +kernel
theorem dL_law_247 : decode cL_law 247 = .ok (.iadd, 1) := by decide +kernel
theorem dL_law_248 : decode cL_law 248 = .ok (.iaload, 1) := by decide +kernel
theorem dL_law_249 : decode cL_law 249 = .ok (.aload_n 0, 1) := by decide +kernel
theorem dL_law_250 : decode cL_law 250 = .ok (.iload_n 3, 1) := by decide +kernel
theorem dL_law_251 : decode cL_law 251 = .ok (.iconst 5, 1) := by decide +kernel
theorem dL_law_252 : decode cL_law 252 = .ok (.iadd, 1) := by decide +kernel
theorem dL_law_253 : decode cL_law 253 = .ok (.iaload, 1) := by decide +kernel
theorem dL_law_254 : decode cL_law 254 = .ok (.invokevirtual 22, 3) := by decide +kernel
theorem dL_law_257 : decode cL_law 257 = .ok (.if_icmp .eq 1029, 3) := by decide +kernel
theorem dL_law_260 : decode cL_law 260 = .ok (.iconst 0, 1) := by decide +kernel
theorem dL_law_261 : decode cL_law 261 = .ok (.ireturn, 1) := by decide +kernel
theorem dL_law_262 : decode cL_law 262 = .ok (.aload_n 1, 1) := by decide +kernel
theorem dL_law_263 : decode cL_law 263 = .ok (.aload_n 0, 1) := by decide +kernel
theorem dL_law_264 : decode cL_law 264 = .ok (.iload_n 3, 1) := by decide +kernel
theorem dL_law_265 : decode cL_law 265 = .ok (.iconst 1, 1) := by decide +kernel
theorem dL_law_266 : decode cL_law 266 = .ok (.iadd, 1) := by decide +kernel
theorem dL_law_267 : decode cL_law 267 = .ok (.iaload, 1) := by decide +kernel
theorem dL_law_268 : decode cL_law 268 = .ok (.aload_n 0, 1) := by decide +kernel
theorem dL_law_269 : decode cL_law 269 = .ok (.iload_n 3, 1) := by decide +kernel
theorem dL_law_270 : decode cL_law 270 = .ok (.iconst 2, 1) := by decide +kernel
theorem dL_law_271 : decode cL_law 271 = .ok (.iadd, 1) := by decide +kernel
theorem dL_law_272 : decode cL_law 272 = .ok (.iaload, 1) := by decide +kernel
theorem dL_law_273 : decode cL_law 273 = .ok (.invokevirtual 23, 3) := by decide +kernel
theorem dL_law_276 : decode cL_law 276 = .ok (.aload_n 2, 1) := by decide +kernel
theorem dL_law_277 : decode cL_law 277 = .ok (.aload_n 0, 1) := by decide +kernel
theorem dL_law_278 : decode cL_law 278 = .ok (.iload_n 3, 1) := by decide +kernel
theorem dL_law_279 : decode cL_law 279 = .ok (.iconst 1, 1) := by decide +kernel
theorem dL_law_280 : decode cL_law 280 = .ok (.iadd, 1) := by decide +kernel
theorem dL_law_281 : decode cL_law 281 = .ok (.iaload, 1) := by decide +kernel
theorem dL_law_282 : decode cL_law 282 = .ok (.aload_n 0, 1) := by decide +kernel
theorem dL_law_283 : decode cL_law 283 = .ok (.iload_n 3, 1) := by decide +kernel
theorem dL_law_284 : decode cL_law 284 = .ok (.iconst 2, 1) := by decide +kernel
theorem dL_law_285 : decode cL_law 285 = .ok (.iadd, 1) := by decide +kernel
theorem dL_law_286 : decode cL_law 286 = .ok (.iaload, 1) := by decide +kernel
theorem dL_law_287 : decode cL_law 287 = .ok (.invokevirtual 27, 3) := by decide +kernel
theorem dL_law_290 : decode cL_law 290 = .ok (.if_icmp .eq 996, 3) := by decide +kernel
theorem dL_law_293 : decode cL_law 293 = .ok (.iconst 0, 1) := by decide +kernel
theorem dL_law_294 : decode cL_law 294 = .ok (.ireturn, 1) := by decide +kernel
theorem dL_law_295 : decode cL_law 295 = .ok (.aload_n 1, 1) := by decide +kernel
theorem dL_law_296 : decode cL_law 296 = .ok (.aload_n 0, 1) := by decide +kernel
theorem dL_law_297 : decode cL_law 297 = .ok (.iload_n 3, 1) := by decide +kernel
theorem dL_law_298 : decode cL_law 298 = .ok (.iconst 1, 1) := by decide +kernel
theorem dL_law_299 : decode cL_law 299 = .ok (.iadd, 1) := by decide +kernel
theorem dL_law_300 : decode cL_law 300 = .ok (.iaload, 1) := by decide +kernel
theorem dL_law_301 : decode cL_law 301 = .ok (.aload_n 0, 1) := by decide +kernel
theorem dL_law_302 : decode cL_law 302 = .ok (.iload_n 3, 1) := by decide +kernel
theorem dL_law_303 : decode cL_law 303 = .ok (.iconst 2, 1) := by decide +kernel
theorem dL_law_304 : decode cL_law 304 = .ok (.iadd, 1) := by decide +kernel
theorem dL_law_305 : decode cL_law 305 = .ok (.iaload, 1) := by decide +kernel
theorem dL_law_306 : decode cL_law 306 = .ok (.invokevirtual 28, 3) := by decide +kernel
theorem dL_law_309 : decode cL_law 309 = .ok (.aload_n 2, 1) := by decide +kernel
theorem dL_law_310 : decode cL_law 310 = .ok (.aload_n 0, 1) := by decide +kernel
theorem dL_law_311 : decode cL_law 311 = .ok (.iload_n 3, 1) := by decide +kernel
theorem dL_law_312 : decode cL_law 312 = .ok (.iconst 1, 1) := by decide +kernel
theorem dL_law_313 : decode cL_law 313 = .ok (.iadd, 1) := by decide +kernel
theorem dL_law_314 : decode cL_law 314 = .ok (.iaload, 1) := by decide +kernel
theorem dL_law_315 : decode cL_law 315 = .ok (.aload_n 0, 1) := by decide +kernel
theorem dL_law_316 : decode cL_law 316 = .ok (.iload_n 3, 1) := by decide +kernel
theorem dL_law_317 : decode cL_law 317 = .ok (.iconst 2, 1) := by decide +kernel
theorem dL_law_318 : decode cL_law 318 = .ok (.iadd, 1) := by decide +kernel
theorem dL_law_319 : decode cL_law 319 = .ok (.iaload, 1) := by decide +kernel
theorem dL_law_320 : decode cL_law 320 = .ok (.invokevirtual 31, 3) := by decide +kernel
theorem dL_law_323 : decode cL_law 323 = .ok (.if_icmp .eq 963, 3) := by decide +kernel
theorem dL_law_326 : decode cL_law 326 = .ok (.iconst 0, 1) := by decide +kernel
theorem dL_law_327 : decode cL_law 327 = .ok (.ireturn, 1) := by decide +kernel
theorem dL_law_328 : decode cL_law 328 = .ok (.aload_n 1, 1) := by decide +kernel
theorem dL_law_329 : decode cL_law 329 = .ok (.aload_n 0, 1) := by decide +kernel
theorem dL_law_330 : decode cL_law 330 = .ok (.iload_n 3, 1) := by decide +kernel
theorem dL_law_331 : decode cL_law 331 = .ok (.iconst 1, 1) := by decide +kernel
theorem dL_law_332 : decode cL_law 332 = .ok (.iadd, 1) := by decide +kernel
theorem dL_law_333 : decode cL_law 333 = .ok (.iaload, 1) := by decide +kernel
theorem dL_law_334 : decode cL_law 334 = .ok (.i2l, 1) := by decide +kernel
theorem dL_law_335 : decode cL_law 335 = .ok (.bipush 32, 2) := by decide +kernel
theorem dL_law_337 : decode cL_law 337 = .ok (.lshl, 1) := by decide +kernel
theorem dL_law_338 : decode cL_law 338 = .ok (.aload_n 0, 1) := by decide +kernel
theorem dL_law_339 : decode cL_law 339 = .ok (.iload_n 3, 1) := by decide +kernel
theorem dL_law_340 : decode cL_law 340 = .ok (.iconst 2, 1) := by decide +kernel
theorem dL_law_341 : decode cL_law 341 = .ok (.iadd, 1) := by decide +kernel
theorem dL_law_342 : decode cL_law 342 = .ok (.iaload, 1) := by decide +kernel
theorem dL_law_343 : decode cL_law 343 = .ok (.i2l, 1) := by decide +kernel
theorem dL_law_344 : decode cL_law 344 = .ok (.ldc2_w 32, 3) := by decide +kernel
theorem dL_law_347 : decode cL_law 347 = .ok (.land, 1) := by decide +kernel
theorem dL_law_348 : decode cL_law 348 = .ok (.lor, 1) := by decide +kernel
theorem dL_law_349 : decode cL_law 349 = .ok (.aload_n 0, 1) := by decide +kernel
theorem dL_law_350 : decode cL_law 350 = .ok (.iload_n 3, 1) := by decide +kernel
theorem dL_law_351 : decode cL_law 351 = .ok (.iconst 3, 1) := by decide +kernel
theorem dL_law_352 : decode cL_law 352 = .ok (.iadd, 1) := by decide +kernel
theorem dL_law_353 : decode cL_law 353 = .ok (.iaload, 1) := by decide +kernel
theorem dL_law_354 : decode cL_law 354 = .ok (.invokevirtual 34, 3) := by decide +kernel
theorem dL_law_357 : decode cL_law 357 = .ok (.aload_n 2, 1) := by decide +kernel
theorem dL_law_358 : decode cL_law 358 = .ok (.aload_n 0, 1) := by decide +kernel
theorem dL_law_359 : decode cL_law 359 = .ok (.iload_n 3, 1) := by decide +kernel
theorem dL_law_360 : decode cL_law 360 = .ok (.iconst 1, 1) := by decide +kernel
theorem dL_law_361 : decode cL_law 361 = .ok (.iadd, 1) := by decide +kernel
theorem dL_law_362 : decode cL_law 362 = .ok (.iaload, 1) := by decide +kernel
theorem dL_law_363 : decode cL_law 363 = .ok (.i2l, 1) := by decide +kernel
theorem dL_law_364 : decode cL_law 364 = .ok (.bipush 32, 2) := by decide +kernel
theorem dL_law_366 : decode cL_law 366 = .ok (.lshl, 1) := by decide +kernel
theorem dL_law_367 : decode cL_law 367 = .ok (.aload_n 0, 1) := by decide +kernel
theorem dL_law_368 : decode cL_law 368 = .ok (.iload_n 3, 1) := by decide +kernel
theorem dL_law_369 : decode cL_law 369 = .ok (.iconst 2, 1) := by decide +kernel
theorem dL_law_370 : decode cL_law 370 = .ok (.iadd, 1) := by decide +kernel
theorem dL_law_371 : decode cL_law 371 = .ok (.iaload, 1) := by decide +kernel
theorem dL_law_372 : decode cL_law 372 = .ok (.i2l, 1) := by decide +kernel
theorem dL_law_373 : decode cL_law 373 = .ok (.ldc2_w 32, 3) := by decide +kernel
theorem dL_law_376 : decode cL_law 376 = .ok (.land, 1) := by decide +kernel
theorem dL_law_377 : decode cL_law 377 = .ok (.lor, 1) := by decide +kernel
theorem dL_law_378 : decode cL_law 378 = .ok (.aload_n 0, 1) := by decide +kernel
theorem dL_law_379 : decode cL_law 379 = .ok (.iload_n 3, 1) := by decide +kernel
theorem dL_law_380 : decode cL_law 380 = .ok (.iconst 3, 1) := by decide +kernel
theorem dL_law_381 : decode cL_law 381 = .ok (.iadd, 1) := by decide +kernel
theorem dL_law_382 : decode cL_law 382 = .ok (.iaload, 1) := by decide +kernel
theorem dL_law_383 : decode cL_law 383 = .ok (.invokevirtual 38, 3) := by decide +kernel
theorem dL_law_386 : decode cL_law 386 = .ok (.if_icmp .eq 900, 3) := by decide +kernel
theorem dL_law_389 : decode cL_law 389 = .ok (.iconst 0, 1) := by decide +kernel
theorem dL_law_390 : decode cL_law 390 = .ok (.ireturn, 1) := by decide +kernel
theorem dL_law_391 : decode cL_law 391 = .ok (.aload_n 1, 1) := by decide +kernel
theorem dL_law_392 : decode cL_law 392 = .ok (.invokevirtual 39, 3) := by decide +kernel
theorem dL_law_395 : decode cL_law 395 = .ok (.aload_n 2, 1) := by decide +kernel
theorem dL_law_396 : decode cL_law 396 = .ok (.invokevirtual 43, 3) := by decide +kernel
theorem dL_law_399 : decode cL_law 399 = .ok (.if_icmp .eq 887, 3) := by decide +kernel
theorem dL_law_402 : decode cL_law 402 = .ok (.iconst 0, 1) := by decide +kernel
theorem dL_law_403 : decode cL_law 403 = .ok (.ireturn, 1) := by decide +kernel
theorem dL_law_404 : decode cL_law 404 = .ok (.aload_n 1, 1) := by decide +kernel
theorem dL_law_405 : decode cL_law 405 = .ok (.aload_n 0, 1) := by decide +kernel
theorem dL_law_406 : decode cL_law 406 = .ok (.iload_n 3, 1) := by decide +kernel
theorem dL_law_407 : decode cL_law 407 = .ok (.iconst 1, 1) := by decide +kernel
theorem dL_law_408 : decode cL_law 408 = .ok (.iadd, 1) := by decide +kernel
theorem dL_law_409 : decode cL_law 409 = .ok (.iaload, 1) := by decide +kernel
theorem dL_law_410 : decode cL_law 410 = .ok (.aload_n 0, 1) := by decide +kernel
theorem dL_law_411 : decode cL_law 411 = .ok (.iload_n 3, 1) := by decide +kernel
theorem dL_law_412 : decode cL_law 412 = .ok (.iconst 2, 1) := by decide +kernel
theorem dL_law_413 : decode cL_law 413 = .ok (.iadd, 1) := by decide +kernel
theorem dL_law_414 : decode cL_law 414 = .ok (.iaload, 1) := by decide +kernel
theorem dL_law_415 : decode cL_law 415 = .ok (.invokevirtual 44, 3) := by decide +kernel
theorem dL_law_418 : decode cL_law 418 = .ok (.aload_n 2, 1) := by decide +kernel
theorem dL_law_419 : decode cL_law 419 = .ok (.aload_n 0, 1) := by decide +kernel
theorem dL_law_420 : decode cL_law 420 = .ok (.iload_n 3, 1) := by decide +kernel
theorem dL_law_421 : decode cL_law 421 = .ok (.iconst 1, 1) := by decide +kernel
theorem dL_law_422 : decode cL_law 422 = .ok (.iadd, 1) := by decide +kernel
theorem dL_law_423 : decode cL_law 423 = .ok (.iaload, 1) := by decide +kernel
theorem dL_law_424 : decode cL_law 424 = .ok (.aload_n 0, 1) := by decide +kernel
theorem dL_law_425 : decode cL_law 425 = .ok (.iload_n 3, 1) := by decide +kernel
theorem dL_law_426 : decode cL_law 426 = .ok (.iconst 2, 1) := by decide +kernel
theorem dL_law_427 : decode cL_law 427 = .ok (.iadd, 1) := by decide +kernel
theorem dL_law_428 : decode cL_law 428 = .ok (.iaload, 1) := by decide +kernel
theorem dL_law_429 : decode cL_law 429 = .ok (.invokevirtual 47, 3) := by decide +kernel
theorem dL_law_432 : decode cL_law 432 = .ok (.if_icmp .eq 854, 3) := by decide +kernel
theorem dL_law_435 : decode cL_law 435 = .ok (.iconst 0, 1) := by decide +kernel
theorem dL_law_436 : decode cL_law 436 = .ok (.ireturn, 1) := by decide +kernel
theorem dL_law_437 : decode cL_law 437 = .ok (.aload_n 1, 1) := by decide +kernel
theorem dL_law_438 : decode cL_law 438 = .ok (.aload_n 0, 1) := by decide +kernel
theorem dL_law_439 : decode cL_law 439 = .ok (.iload_n 3, 1) := by decide +kernel
theorem dL_law_440 : decode cL_law 440 = .ok (.iconst 1, 1) := by decide +kernel
theorem dL_law_441 : decode cL_law 441 = .ok (.iadd, 1) := by decide +kernel
theorem dL_law_442 : decode cL_law 442 = .ok (.iaload, 1) := by decide +kernel
theorem dL_law_443 : decode cL_law 443 = .ok (.invokevirtual 48, 3) := by decide +kernel
theorem dL_law_446 : decode cL_law 446 = .ok (.aload_n 2, 1) := by decide +kernel
theorem dL_law_447 : decode cL_law 447 = .ok (.aload_n 0, 1) := by decide +kernel
theorem dL_law_448 : decode cL_law 448 = .ok (.iload_n 3, 1) := by decide +kernel
theorem dL_law_449 : decode cL_law 449 = .ok (.iconst 1, 1) := by decide +kernel
theorem dL_law_450 : decode cL_law 450 = .ok (.iadd, 1) := by decide +kernel
theorem dL_law_451 : decode cL_law 451 = .ok (.iaload, 1) := by decide +kernel
theorem dL_law_452 : decode cL_law 452 = .ok (.invokevirtual 51, 3) := by decide +kernel
theorem dL_law_455 : decode cL_law 455 = .ok (.if_icmp .eq 831, 3) := by decide +kernel
theorem dL_law_458 : decode cL_law 458 = .ok (.iconst 0, 1) := by decide +kernel
theorem dL_law_459 : decode cL_law 459 = .ok (.ireturn, 1) := by decide +kernel
theorem dL_law_460 : decode cL_law 460 = .ok (.aload_n 1, 1) := by decide +kernel
theorem dL_law_461 : decode cL_law 461 = .ok (.aload_n 0, 1) := by decide +kernel
theorem dL_law_462 : decode cL_law 462 = .ok (.iload_n 3, 1) := by decide +kernel
theorem dL_law_463 : decode cL_law 463 = .ok (.iconst 1, 1) := by decide +kernel
theorem dL_law_464 : decode cL_law 464 = .ok (.iadd, 1) := by decide +kernel
theorem dL_law_465 : decode cL_law 465 = .ok (.iaload, 1) := by decide +kernel
theorem dL_law_466 : decode cL_law 466 = .ok (.aload_n 0, 1) := by decide +kernel
theorem dL_law_467 : decode cL_law 467 = .ok (.iload_n 3, 1) := by decide +kernel
theorem dL_law_468 : decode cL_law 468 = .ok (.iconst 2, 1) := by decide +kernel
theorem dL_law_469 : decode cL_law 469 = .ok (.iadd, 1) := by decide +kernel
theorem dL_law_470 : decode cL_law 470 = .ok (.iaload, 1) := by decide +kernel
theorem dL_law_471 : decode cL_law 471 = .ok (.aload_n 0, 1) := by decide +kernel
theorem dL_law_472 : decode cL_law 472 = .ok (.iload_n 3, 1) := by decide +kernel
theorem dL_law_473 : decode cL_law 473 = .ok (.iconst 3, 1) := by decide +kernel
theorem dL_law_474 : decode cL_law 474 = .ok (.iadd, 1) := by decide +kernel
theorem dL_law_475 : decode cL_law 475 = .ok (.iaload, 1) := by decide +kernel
theorem dL_law_476 : decode cL_law 476 = .ok (.invokevirtual 52, 3) := by decide +kernel
theorem dL_law_479 : decode cL_law 479 = .ok (.aload_n 2, 1) := by decide +kernel
theorem dL_law_480 : decode cL_law 480 = .ok (.aload_n 0, 1) := by decide +kernel
theorem dL_law_481 : decode cL_law 481 = .ok (.iload_n 3, 1) := by decide +kernel
theorem dL_law_482 : decode cL_law 482 = .ok (.iconst 1, 1) := by decide +kernel
theorem dL_law_483 : decode cL_law 483 = .ok (.iadd, 1) := by decide +kernel
theorem dL_law_484 : decode cL_law 484 = .ok (.iaload, 1) := by decide +kernel
theorem dL_law_485 : decode cL_law 485 = .ok (.aload_n 0, 1) := by decide +kernel
theorem dL_law_486 : decode cL_law 486 = .ok (.iload_n 3, 1) := by decide +kernel
theorem dL_law_487 : decode cL_law 487 = .ok (.iconst 2, 1) := by decide +kernel
theorem dL_law_488 : decode cL_law 488 = .ok (.iadd, 1) := by decide +kernel
theorem dL_law_489 : decode cL_law 489 = .ok (.iaload, 1) := by decide +kernel
theorem dL_law_490 : decode cL_law 490 = .ok (.aload_n 0, 1) := by decide +kernel
theorem dL_law_491 : decode cL_law 491 = .ok (.iload_n 3, 1) := by decide +kernel
theorem dL_law_492 : decode cL_law 492 = .ok (.iconst 3, 1) := by decide +kernel
theorem dL_law_493 : decode cL_law 493 = .ok (.iadd, 1) := by decide +kernel
theorem dL_law_494 : decode cL_law 494 = .ok (.iaload, 1) := by decide +kernel
theorem dL_law_495 : decode cL_law 495 = .ok (.invokevirtual 56, 3) := by decide +kernel
theorem dL_law_498 : decode cL_law 498 = .ok (.lcmp, 1) := by decide +kernel
theorem dL_law_499 : decode cL_law 499 = .ok (.ifCond .eq 787, 3) := by decide +kernel
theorem dL_law_502 : decode cL_law 502 = .ok (.iconst 0, 1) := by decide +kernel
theorem dL_law_503 : decode cL_law 503 = .ok (.ireturn, 1) := by decide +kernel
theorem dL_law_504 : decode cL_law 504 = .ok (.aload_n 1, 1) := by decide +kernel
theorem dL_law_505 : decode cL_law 505 = .ok (.aload_n 0, 1) := by decide +kernel
theorem dL_law_506 : decode cL_law 506 = .ok (.iload_n 3, 1) := by decide +kernel
theorem dL_law_507 : decode cL_law 507 = .ok (.iconst 1, 1) := by decide +kernel
theorem dL_law_508 : decode cL_law 508 = .ok (.iadd, 1) := by decide +kernel
theorem dL_law_509 : decode cL_law 509 = .ok (.iaload, 1) := by decide +kernel
theorem dL_law_510 : decode cL_law 510 = .ok (.aload_n 0, 1) := by decide +kernel
theorem dL_law_511 : decode cL_law 511 = .ok (.iload_n 3, 1) := by decide +kernel
theorem dL_law_512 : decode cL_law 512 = .ok (.iconst 2, 1) := by decide +kernel
theorem dL_law_513 : decode cL_law 513 = .ok (.iadd, 1) := by decide +kernel
theorem dL_law_514 : decode cL_law 514 = .ok (.iaload, 1) := by decide +kernel
theorem dL_law_515 : decode cL_law 515 = .ok (.aload_n 0, 1) := by decide +kernel
theorem dL_law_516 : decode cL_law 516 = .ok (.iload_n 3, 1) := by decide +kernel
theorem dL_law_517 : decode cL_law 517 = .ok (.iconst 3, 1) := by decide +kernel
theorem dL_law_518 : decode cL_law 518 = .ok (.iadd, 1) := by decide +kernel
theorem dL_law_519 : decode cL_law 519 = .ok (.iaload, 1) := by decide +kernel
theorem dL_law_520 : decode cL_law 520 = .ok (.aload_n 0, 1) := by decide +kernel
theorem dL_law_521 : decode cL_law 521 = .ok (.iload_n 3, 1) := by decide +kernel
theorem dL_law_522 : decode cL_law 522 = .ok (.iconst 4, 1) := by decide +kernel
theorem dL_law_523 : decode cL_law 523 = .ok (.iadd, 1) := by decide +kernel
theorem dL_law_524 : decode cL_law 524 = .ok (.iaload, 1) := by decide +kernel
theorem dL_law_525 : decode cL_law 525 = .ok (.aload_n 0, 1) := by decide +kernel
theorem dL_law_526 : decode cL_law 526 = .ok (.iload_n 3, 1) := by decide +kernel
theorem dL_law_527 : decode cL_law 527 = .ok (.iconst 5, 1) := by decide +kernel
theorem dL_law_528 : decode cL_law 528 = .ok (.iadd, 1) := by decide +kernel
theorem dL_law_529 : decode cL_law 529 = .ok (.iaload, 1) := by decide +kernel
theorem dL_law_530 : decode cL_law 530 = .ok (.invokevirtual 57, 3) := by decide +kernel
theorem dL_law_533 : decode cL_law 533 = .ok (.aload_n 2, 1) := by decide +kernel
theorem dL_law_534 : decode cL_law 534 = .ok (.aload_n 0, 1) := by decide +kernel
theorem dL_law_535 : decode cL_law 535 = .ok (.iload_n 3, 1) := by decide +kernel
theorem dL_law_536 : decode cL_law 536 = .ok (.iconst 1, 1) := by decide +kernel
theorem dL_law_537 : decode cL_law 537 = .ok (.iadd, 1) := by decide +kernel
theorem dL_law_538 : decode cL_law 538 = .ok (.iaload, 1) := by decide +kernel
theorem dL_law_539 : decode cL_law 539 = .ok (.aload_n 0, 1) := by decide +kernel
theorem dL_law_540 : decode cL_law 540 = .ok (.iload_n 3, 1) := by decide +kernel
theorem dL_law_541 : decode cL_law 541 = .ok (.iconst 2, 1) := by decide +kernel
theorem dL_law_542 : decode cL_law 542 = .ok (.iadd, 1) := by decide +kernel
theorem dL_law_543 : decode cL_law 543 = .ok (.iaload, 1) := by decide +kernel
theorem dL_law_544 : decode cL_law 544 = .ok (.aload_n 0, 1) := by decide +kernel
theorem dL_law_545 : decode cL_law 545 = .ok (.iload_n 3, 1) := by decide +kernel
theorem dL_law_546 : decode cL_law 546 = .ok (.iconst 3, 1) := by decide +kernel
theorem dL_law_547 : decode cL_law 547 = .ok (.iadd, 1) := by decide +kernel
theorem dL_law_548 : decode cL_law 548 = .ok (.iaload, 1) := by decide +kernel
theorem dL_law_549 : decode cL_law 549 = .ok (.aload_n 0, 1) := by decide +kernel
theorem dL_law_550 : decode cL_law 550 = .ok (.iload_n 3, 1) := by decide +kernel
theorem dL_law_551 : decode cL_law 551 = .ok (.iconst 4, 1) := by decide +kernel
theorem dL_law_552 : decode cL_law 552 = .ok (.iadd, 1) := by decide +kernel
theorem dL_law_553 : decode cL_law 553 = .ok (.iaload, 1) := by decide +kernel
theorem dL_law_554 : decode cL_law 554 = .ok (.aload_n 0, 1) := by decide +kernel
theorem dL_law_555 : decode cL_law 555 = .ok (.iload_n 3, 1) := by decide +kernel
theorem dL_law_556 : decode cL_law 556 = .ok (.iconst 5, 1) := by decide +kernel
theorem dL_law_557 : decode cL_law 557 = .ok (.iadd, 1) := by decide +kernel
theorem dL_law_558 : decode cL_law 558 = .ok (.iaload, 1) := by decide +kernel
theorem dL_law_559 : decode cL_law 559 = .ok (.invokevirtual 61, 3) := by decide +kernel
theorem dL_law_562 : decode cL_law 562 = .ok (.lcmp, 1) := by decide +kernel
theorem dL_law_563 : decode cL_law 563 = .ok (.ifCond .eq 723, 3) := by decide +kernel
theorem dL_law_566 : decode cL_law 566 = .ok (.iconst 0, 1) := by decide +kernel
theorem dL_law_567 : decode cL_law 567 = .ok (.ireturn, 1) := by decide +kernel
theorem dL_law_568 : decode cL_law 568 = .ok (.aload_n 1, 1) := by decide +kernel
theorem dL_law_569 : decode cL_law 569 = .ok (.aload_n 0, 1) := by decide +kernel
theorem dL_law_570 : decode cL_law 570 = .ok (.iload_n 3, 1) := by decide +kernel
theorem dL_law_571 : decode cL_law 571 = .ok (.iconst 1, 1) := by decide +kernel
theorem dL_law_572 : decode cL_law 572 = .ok (.iadd, 1) := by decide +kernel
theorem dL_law_573 : decode cL_law 573 = .ok (.iaload, 1) := by decide +kernel
theorem dL_law_574 : decode cL_law 574 = .ok (.aload_n 0, 1) := by decide +kernel
theorem dL_law_575 : decode cL_law 575 = .ok (.iload_n 3, 1) := by decide +kernel
theorem dL_law_576 : decode cL_law 576 = .ok (.iconst 2, 1) := by decide +kernel
theorem dL_law_577 : decode cL_law 577 = .ok (.iadd, 1) := by decide +kernel
theorem dL_law_578 : decode cL_law 578 = .ok (.iaload, 1) := by decide +kernel
theorem dL_law_579 : decode cL_law 579 = .ok (.aload_n 0, 1) := by decide +kernel
theorem dL_law_580 : decode cL_law 580 = .ok (.iload_n 3, 1) := by decide +kernel
theorem dL_law_581 : decode cL_law 581 = .ok (.iconst 3, 1) := by decide +kernel
theorem dL_law_582 : decode cL_law 582 = .ok (.iadd, 1) := by decide +kernel
theorem dL_law_583 : decode cL_law 583 = .ok (.iaload, 1) := by decide +kernel
theorem dL_law_584 : decode cL_law 584 = .ok (.aload_n 0, 1) := by decide +kernel
theorem dL_law_585 : decode cL_law 585 = .ok (.iload_n 3, 1) := by decide +kernel
theorem dL_law_586 : decode cL_law 586 = .ok (.iconst 4, 1) := by decide +kernel
theorem dL_law_587 : decode cL_law 587 = .ok (.iadd, 1) := by decide +kernel
theorem dL_law_588 : decode cL_law 588 = .ok (.iaload, 1) := by decide +kernel
theorem dL_law_589 : decode cL_law 589 = .ok (.invokevirtual 62, 3) := by decide +kernel
theorem dL_law_592 : decode cL_law 592 = .ok (.aload_n 2, 1) := by decide +kernel
theorem dL_law_593 : decode cL_law 593 = .ok (.aload_n 0, 1) := by decide +kernel
theorem dL_law_594 : decode cL_law 594 = .ok (.iload_n 3, 1) := by decide +kernel
theorem dL_law_595 : decode cL_law 595 = .ok (.iconst 1, 1) := by decide +kernel
theorem dL_law_596 : decode cL_law 596 = .ok (.iadd, 1) := by decide +kernel
theorem dL_law_597 : decode cL_law 597 = .ok (.iaload, 1) := by decide +kernel
theorem dL_law_598 : decode cL_law 598 = .ok (.aload_n 0, 1) := by decide +kernel
theorem dL_law_599 : decode cL_law 599 = .ok (.iload_n 3, 1) := by decide +kernel
theorem dL_law_600 : decode cL_law 600 = .ok (.iconst 2, 1) := by decide +kernel
theorem dL_law_601 : decode cL_law 601 = .ok (.iadd, 1) := by decide +kernel
theorem dL_law_602 : decode cL_law 602 = .ok (.iaload, 1) := by decide +kernel
theorem dL_law_603 : decode cL_law 603 = .ok (.aload_n 0, 1) := by decide +kernel
theorem dL_law_604 : decode cL_law 604 = .ok (.iload_n 3, 1) := by decide +kernel
theorem dL_law_605 : decode cL_law 605 = .ok (.iconst 3, 1) := by decide +kernel
theorem dL_law_606 : decode cL_law 606 = .ok (.iadd, 1) := by decide +kernel
theorem dL_law_607 : decode cL_law 607 = .ok (.iaload, 1) := by decide +kernel
theorem dL_law_608 : decode cL_law 608 = .ok (.aload_n 0, 1) := by decide +kernel
theorem dL_law_609 : decode cL_law 609 = .ok (.iload_n 3, 1) := by decide +kernel
theorem dL_law_610 : decode cL_law 610 = .ok (.iconst 4, 1) := by decide +kernel
theorem dL_law_611 : decode cL_law 611 = .ok (.iadd, 1) := by decide +kernel
theorem dL_law_612 : decode cL_law 612 = .ok (.iaload, 1) := by decide +kernel
theorem dL_law_613 : decode cL_law 613 = .ok (.invokevirtual 66, 3) := by decide +kernel
theorem dL_law_616 : decode cL_law 616 = .ok (.lcmp, 1) := by decide +kernel
theorem dL_law_617 : decode cL_law 617 = .ok (.ifCond .eq 669, 3) := by decide +kernel
theorem dL_law_620 : decode cL_law 620 = .ok (.iconst 0, 1) := by decide +kernel
theorem dL_law_621 : decode cL_law 621 = .ok (.ireturn, 1) := by decide +kernel
theorem dL_law_622 : decode cL_law 622 = .ok (.aload_n 1, 1) := by decide +kernel
theorem dL_law_623 : decode cL_law 623 = .ok (.aload_n 0, 1) := by decide +kernel
theorem dL_law_624 : decode cL_law 624 = .ok (.iload_n 3, 1) := by decide +kernel
theorem dL_law_625 : decode cL_law 625 = .ok (.iconst 1, 1) := by decide +kernel
theorem dL_law_626 : decode cL_law 626 = .ok (.iadd, 1) := by decide +kernel
theorem dL_law_627 : decode cL_law 627 = .ok (.iaload, 1) := by decide +kernel
theorem dL_law_628 : decode cL_law 628 = .ok (.aload_n 0, 1) := by decide +kernel
theorem dL_law_629 : decode cL_law 629 = .ok (.iload_n 3, 1) := by decide +kernel
theorem dL_law_630 : decode cL_law 630 = .ok (.iconst 2, 1) := by decide +kernel
theorem dL_law_631 : decode cL_law 631 = .ok (.iadd, 1) := by decide +kernel
theorem dL_law_632 : decode cL_law 632 = .ok (.iaload, 1) := by decide +kernel
theorem dL_law_633 : decode cL_law 633 = .ok (.invokevirtual 67, 3) := by decide +kernel
theorem dL_law_636 : decode cL_law 636 = .ok (.aload_n 2, 1) := by decide +kernel
theorem dL_law_637 : decode cL_law 637 = .ok (.aload_n 0, 1) := by decide +kernel
theorem dL_law_638 : decode cL_law 638 = .ok (.iload_n 3, 1) := by decide +kernel
theorem dL_law_639 : decode cL_law 639 = .ok (.iconst 1, 1) := by decide +kernel
theorem dL_law_640 : decode cL_law 640 = .ok (.iadd, 1) := by decide +kernel
theorem dL_law_641 : decode cL_law 641 = .ok (.iaload, 1) := by decide +kernel
theorem dL_law_642 : decode cL_law 642 = .ok (.aload_n 0, 1) := by decide +kernel
theorem dL_law_643 : decode cL_law 643 = .ok (.iload_n 3, 1) := by decide +kernel
theorem dL_law_644 : decode cL_law 644 = .ok (.iconst 2, 1) := by decide +kernel
theorem dL_law_645 : decode cL_law 645 = .ok (.iadd, 1) := by decide +kernel
theorem dL_law_646 : decode cL_law 646 = .ok (.iaload, 1) := by decide +kernel
theorem dL_law_647 : decode cL_law 647 = .ok (.invokevirtual 70, 3) := by decide +kernel
theorem dL_law_650 : decode cL_law 650 = .ok (.if_icmp .eq 636, 3) := by decide +kernel
theorem dL_law_653 : decode cL_law 653 = .ok (.iconst 0, 1) := by decide +kernel
theorem dL_law_654 : decode cL_law 654 = .ok (.ireturn, 1) := by decide +kernel
theorem dL_law_655 : decode cL_law 655 = .ok (.aload_n 1, 1) := by decide +kernel
theorem dL_law_656 : decode cL_law 656 = .ok (.aload_n 0, 1) := by decide +kernel
theorem dL_law_657 : decode cL_law 657 = .ok (.iload_n 3, 1) := by decide +kernel
theorem dL_law_658 : decode cL_law 658 = .ok (.iconst 1, 1) := by decide +kernel
theorem dL_law_659 : decode cL_law 659 = .ok (.iadd, 1) := by decide +kernel
theorem dL_law_660 : decode cL_law 660 = .ok (.iaload, 1) := by decide +kernel
theorem dL_law_661 : decode cL_law 661 = .ok (.invokevirtual 71, 3) := by decide +kernel
theorem dL_law_664 : decode cL_law 664 = .ok (.aload_n 2, 1) := by decide +kernel
theorem dL_law_665 : decode cL_law 665 = .ok (.aload_n 0, 1) := by decide +kernel
theorem dL_law_666 : decode cL_law 666 = .ok (.iload_n 3, 1) := by decide +kernel
theorem dL_law_667 : decode cL_law 667 = .ok (.iconst 1, 1) := by decide +kernel
theorem dL_law_668 : decode cL_law 668 = .ok (.iadd, 1) := by decide +kernel
theorem dL_law_669 : decode cL_law 669 = .ok (.iaload, 1) := by decide +kernel
theorem dL_law_670 : decode cL_law 670 = .ok (.invokevirtual 74, 3) := by decide +kernel
theorem dL_law_673 : decode cL_law 673 = .ok (.if_icmp .eq 613, 3) := by decide +kernel
theorem dL_law_676 : decode cL_law 676 = .ok (.iconst 0, 1) := by decide +kernel
theorem dL_law_677 : decode cL_law 677 = .ok (.ireturn, 1) := by decide +kernel
theorem dL_law_678 : decode cL_law 678 = .ok (.aload_n 1, 1) := by decide +kernel
theorem dL_law_679 : decode cL_law 679 = .ok (.aload_n 0, 1) := by decide +kernel
theorem dL_law_680 : decode cL_law 680 = .ok (.iload_n 3, 1) := by decide +kernel
theorem dL_law_681 : decode cL_law 681 = .ok (.iconst 1, 1) := by decide +kernel
theorem dL_law_682 : decode cL_law 682 = .ok (.iadd, 1) := by decide +kernel
theorem dL_law_683 : decode cL_law 683 = .ok (.iaload, 1) := by decide +kernel
theorem dL_law_684 : decode cL_law 684 = .ok (.invokevirtual 75, 3) := by decide +kernel
theorem dL_law_687 : decode cL_law 687 = .ok (.aload_n 2, 1) := by decide +kernel
theorem dL_law_688 : decode cL_law 688 = .ok (.aload_n 0, 1) := by decide +kernel
theorem dL_law_689 : decode cL_law 689 = .ok (.iload_n 3, 1) := by decide +kernel
theorem dL_law_690 : decode cL_law 690 = .ok (.iconst 1, 1) := by decide +kernel
theorem dL_law_691 : decode cL_law 691 = .ok (.iadd, 1) := by decide +kernel
theorem dL_law_692 : decode cL_law 692 = .ok (.iaload, 1) := by decide +kernel
theorem dL_law_693 : decode cL_law 693 = .ok (.invokevirtual 78, 3) := by decide +kernel
theorem dL_law_696 : decode cL_law 696 = .ok (.if_icmp .eq 590, 3) := by decide +kernel
theorem dL_law_699 : decode cL_law 699 = .ok (.iconst 0, 1) := by decide +kernel
theorem dL_law_700 : decode cL_law 700 = .ok (.ireturn, 1) := by decide +kernel
theorem dL_law_701 : decode cL_law 701 = .ok (.aload_n 1, 1) := by decide +kernel
theorem dL_law_702 : decode cL_law 702 = .ok (.aload_n 0, 1) := by decide +kernel
theorem dL_law_703 : decode cL_law 703 = .ok (.iload_n 3, 1) := by decide +kernel
theorem dL_law_704 : decode cL_law 704 = .ok (.iconst 1, 1) := by decide +kernel
theorem dL_law_705 : decode cL_law 705 = .ok (.iadd, 1) := by decide +kernel
theorem dL_law_706 : decode cL_law 706 = .ok (.iaload, 1) := by decide +kernel
theorem dL_law_707 : decode cL_law 707 = .ok (.aload_n 0, 1) := by decide +kernel
theorem dL_law_708 : decode cL_law 708 = .ok (.iload_n 3, 1) := by decide +kernel
theorem dL_law_709 : decode cL_law 709 = .ok (.iconst 2, 1) := by decide +kernel
theorem dL_law_710 : decode cL_law 710 = .ok (.iadd, 1) := by decide +kernel
theorem dL_law_711 : decode cL_law 711 = .ok (.iaload, 1) := by decide +kernel
theorem dL_law_712 : decode cL_law 712 = .ok (.invokevirtual 79, 3) := by decide +kernel
theorem dL_law_715 : decode cL_law 715 = .ok (.aload_n 2, 1) := by decide +kernel
theorem dL_law_716 : decode cL_law 716 = .ok (.aload_n 0, 1) := by decide +kernel
theorem dL_law_717 : decode cL_law 717 = .ok (.iload_n 3, 1) := by decide +kernel
theorem dL_law_718 : decode cL_law 718 = .ok (.iconst 1, 1) := by decide +kernel
theorem dL_law_719 : decode cL_law 719 = .ok (.iadd, 1) := by decide +kernel
theorem dL_law_720 : decode cL_law 720 = .ok (.iaload, 1) := by decide +kernel
theorem dL_law_721 : decode cL_law 721 = .ok (.aload_n 0, 1) := by decide +kernel
theorem dL_law_722 : decode cL_law 722 = .ok (.iload_n 3, 1) := by decide +kernel
theorem dL_law_723 : decode cL_law 723 = .ok (.iconst 2, 1) := by decide +kernel
theorem dL_law_724 : decode cL_law 724 = .ok (.iadd, 1) := by decide +kernel
theorem dL_law_725 : decode cL_law 725 = .ok (.iaload, 1) := by decide +kernel
theorem dL_law_726 : decode cL_law 726 = .ok (.invokevirtual 82, 3) := by decide +kernel
theorem dL_law_729 : decode cL_law 729 = .ok (.if_icmp .eq 557, 3) := by decide +kernel
theorem dL_law_732 : decode cL_law 732 = .ok (.iconst 0, 1) := by decide +kernel
theorem dL_law_733 : decode cL_law 733 = .ok (.ireturn, 1) := by decide +kernel
theorem dL_law_734 : decode cL_law 734 = .ok (.aload_n 1, 1) := by decide +kernel
theorem dL_law_735 : decode cL_law 735 = .ok (.invokevirtual 83, 3) := by decide +kernel
theorem dL_law_738 : decode cL_law 738 = .ok (.aload_n 2, 1) := by decide +kernel
theorem dL_law_739 : decode cL_law 739 = .ok (.invokevirtual 86, 3) := by decide +kernel
theorem dL_law_742 : decode cL_law 742 = .ok (.if_icmp .eq 544, 3) := by decide +kernel
theorem dL_law_745 : decode cL_law 745 = .ok (.iconst 0, 1) := by decide +kernel
theorem dL_law_746 : decode cL_law 746 = .ok (.ireturn, 1) := by decide +kernel
theorem dL_law_747 : decode cL_law 747 = .ok (.aload_n 1, 1) := by decide +kernel
theorem dL_law_748 : decode cL_law 748 = .ok (.aload_n 0, 1) := by decide +kernel
theorem dL_law_749 : decode cL_law 749 = .ok (.iload_n 3, 1) := by decide +kernel
theorem dL_law_750 : decode cL_law 750 = .ok (.iconst 1, 1) := by decide +kernel
theorem dL_law_751 : decode cL_law 751 = .ok (.iadd, 1) := by decide +kernel
theorem dL_law_752 : decode cL_law 752 = .ok (.iaload, 1) := by decide +kernel
theorem dL_law_753 : decode cL_law 753 = .ok (.aload_n 0, 1) := by decide +kernel
theorem dL_law_754 : decode cL_law 754 = .ok (.iload_n 3, 1) := by decide +kernel
theorem dL_law_755 : decode cL_law 755 = .ok (.iconst 2, 1) := by decide +kernel
theorem dL_law_756 : decode cL_law 756 = .ok (.iadd, 1) := by decide +kernel
theorem dL_law_757 : decode cL_law 757 = .ok (.iaload, 1) := by decide +kernel
theorem dL_law_758 : decode cL_law 758 = .ok (.invokevirtual 87, 3) := by decide +kernel
theorem dL_law_761 : decode cL_law 761 = .ok (.aload_n 2, 1) := by decide +kernel
theorem dL_law_762 : decode cL_law 762 = .ok (.aload_n 0, 1) := by decide +kernel
theorem dL_law_763 : decode cL_law 763 = .ok (.iload_n 3, 1) := by decide +kernel
theorem dL_law_764 : decode cL_law 764 = .ok (.iconst 1, 1) := by decide +kernel
theorem dL_law_765 : decode cL_law 765 = .ok (.iadd, 1) := by decide +kernel
theorem dL_law_766 : decode cL_law 766 = .ok (.iaload, 1) := by decide +kernel
theorem dL_law_767 : decode cL_law 767 = .ok (.aload_n 0, 1) := by decide +kernel
theorem dL_law_768 : decode cL_law 768 = .ok (.iload_n 3, 1) := by decide +kernel
theorem dL_law_769 : decode cL_law 769 = .ok (.iconst 2, 1) := by decide +kernel
theorem dL_law_770 : decode cL_law 770 = .ok (.iadd, 1) := by decide +kernel
theorem dL_law_771 : decode cL_law 771 = .ok (.iaload, 1) := by decide +kernel
theorem dL_law_772 : decode cL_law 772 = .ok (.invokevirtual 90, 3) := by decide +kernel
theorem dL_law_775 : decode cL_law 775 = .ok (.if_icmp .eq 511, 3) := by decide +kernel
theorem dL_law_778 : decode cL_law 778 = .ok (.iconst 0, 1) := by decide +kernel
theorem dL_law_779 : decode cL_law 779 = .ok (.ireturn, 1) := by decide +kernel
theorem dL_law_780 : decode cL_law 780 = .ok (.aload_n 1, 1) := by decide +kernel
theorem dL_law_781 : decode cL_law 781 = .ok (.aload_n 0, 1) := by decide +kernel
theorem dL_law_782 : decode cL_law 782 = .ok (.iload_n 3, 1) := by decide +kernel
theorem dL_law_783 : decode cL_law 783 = .ok (.iconst 1, 1) := by decide +kernel
theorem dL_law_784 : decode cL_law 784 = .ok (.iadd, 1) := by decide +kernel
theorem dL_law_785 : decode cL_law 785 = .ok (.iaload, 1) := by decide +kernel
theorem dL_law_786 : decode cL_law 786 = .ok (.invokevirtual 91, 3) := by decide +kernel
theorem dL_law_789 : decode cL_law 789 = .ok (.aload_n 2, 1) := by decide +kernel
theorem dL_law_790 : decode cL_law 790 = .ok (.aload_n 0, 1) := by decide +kernel
theorem dL_law_791 : decode cL_law 791 = .ok (.iload_n 3, 1) := by decide +kernel
theorem dL_law_792 : decode cL_law 792 = .ok (.iconst 1, 1) := by decide +kernel
theorem dL_law_793 : decode cL_law 793 = .ok (.iadd, 1) := by decide +kernel
theorem dL_law_794 : decode cL_law 794 = .ok (.iaload, 1) := by decide +kernel
theorem dL_law_795 : decode cL_law 795 = .ok (.invokevirtual 94, 3) := by decide +kernel
theorem dL_law_798 : decode cL_law 798 = .ok (.if_icmp .eq 488, 3) := by decide +kernel
theorem dL_law_801 : decode cL_law 801 = .ok (.iconst 0, 1) := by decide +kernel
theorem dL_law_802 : decode cL_law 802 = .ok (.ireturn, 1) := by decide +kernel
theorem dL_law_803 : decode cL_law 803 = .ok (.aload_n 1, 1) := by decide +kernel
theorem dL_law_804 : decode cL_law 804 = .ok (.aload_n 0, 1) := by decide +kernel
theorem dL_law_805 : decode cL_law 805 = .ok (.iload_n 3, 1) := by decide +kernel
theorem dL_law_806 : decode cL_law 806 = .ok (.iconst 1, 1) := by decide +kernel
theorem dL_law_807 : decode cL_law 807 = .ok (.iadd, 1) := by decide +kernel
theorem dL_law_808 : decode cL_law 808 = .ok (.iaload, 1) := by decide +kernel
theorem dL_law_809 : decode cL_law 809 = .ok (.aload_n 0, 1) := by decide +kernel
theorem dL_law_810 : decode cL_law 810 = .ok (.iload_n 3, 1) := by decide +kernel
theorem dL_law_811 : decode cL_law 811 = .ok (.iconst 2, 1) := by decide +kernel
theorem dL_law_812 : decode cL_law 812 = .ok (.iadd, 1) := by decide +kernel
theorem dL_law_813 : decode cL_law 813 = .ok (.iaload, 1) := by decide +kernel
theorem dL_law_814 : decode cL_law 814 = .ok (.invokevirtual 95, 3) := by decide +kernel
theorem dL_law_817 : decode cL_law 817 = .ok (.aload_n 2, 1) := by decide +kernel
theorem dL_law_818 : decode cL_law 818 = .ok (.aload_n 0, 1) := by decide +kernel
theorem dL_law_819 : decode cL_law 819 = .ok (.iload_n 3, 1) := by decide +kernel
theorem dL_law_820 : decode cL_law 820 = .ok (.iconst 1, 1) := by decide +kernel
theorem dL_law_821 : decode cL_law 821 = .ok (.iadd, 1) := by decide +kernel
theorem dL_law_822 : decode cL_law 822 = .ok (.iaload, 1) := by decide +kernel
theorem dL_law_823 : decode cL_law 823 = .ok (.aload_n 0, 1) := by decide +kernel
theorem dL_law_824 : decode cL_law 824 = .ok (.iload_n 3, 1) := by decide +kernel
theorem dL_law_825 : decode cL_law 825 = .ok (.iconst 2, 1) := by decide +kernel
theorem dL_law_826 : decode cL_law 826 = .ok (.iadd, 1) := by decide +kernel
theorem dL_law_827 : decode cL_law 827 = .ok (.iaload, 1) := by decide +kernel
theorem dL_law_828 : decode cL_law 828 = .ok (.invokevirtual 98, 3) := by decide +kernel
theorem dL_law_831 : decode cL_law 831 = .ok (.if_icmp .eq 455, 3) := by decide +kernel
theorem dL_law_834 : decode cL_law 834 = .ok (.iconst 0, 1) := by decide +kernel
theorem dL_law_835 : decode cL_law 835 = .ok (.ireturn, 1) := by decide +kernel
theorem dL_law_836 : decode cL_law 836 = .ok (.aload_n 1, 1) := by decide +kernel
theorem dL_law_837 : decode cL_law 837 = .ok (.aload_n 0, 1) := by decide +kernel
theorem dL_law_838 : decode cL_law 838 = .ok (.iload_n 3, 1) := by decide +kernel
theorem dL_law_839 : decode cL_law 839 = .ok (.iconst 1, 1) := by decide +kernel
theorem dL_law_840 : decode cL_law 840 = .ok (.iadd, 1) := by decide +kernel
theorem dL_law_841 : decode cL_law 841 = .ok (.iaload, 1) := by decide +kernel
theorem dL_law_842 : decode cL_law 842 = .ok (.invokevirtual 99, 3) := by decide +kernel
theorem dL_law_845 : decode cL_law 845 = .ok (.aload_n 2, 1) := by decide +kernel
theorem dL_law_846 : decode cL_law 846 = .ok (.aload_n 0, 1) := by decide +kernel
theorem dL_law_847 : decode cL_law 847 = .ok (.iload_n 3, 1) := by decide +kernel
theorem dL_law_848 : decode cL_law 848 = .ok (.iconst 1, 1) := by decide +kernel
theorem dL_law_849 : decode cL_law 849 = .ok (.iadd, 1) := by decide +kernel
theorem dL_law_850 : decode cL_law 850 = .ok (.iaload, 1) := by decide +kernel
theorem dL_law_851 : decode cL_law 851 = .ok (.invokevirtual 102, 3) := by decide +kernel
theorem dL_law_854 : decode cL_law 854 = .ok (.if_icmp .eq 432, 3) := by decide +kernel
theorem dL_law_857 : decode cL_law 857 = .ok (.iconst 0, 1) := by decide +kernel
theorem dL_law_858 : decode cL_law 858 = .ok (.ireturn, 1) := by decide +kernel
theorem dL_law_859 : decode cL_law 859 = .ok (.aload_n 1, 1) := by decide +kernel
theorem dL_law_860 : decode cL_law 860 = .ok (.aload_n 0, 1) := by decide +kernel
theorem dL_law_861 : decode cL_law 861 = .ok (.iload_n 3, 1) := by decide +kernel
theorem dL_law_862 : decode cL_law 862 = .ok (.iconst 1, 1) := by decide +kernel
theorem dL_law_863 : decode cL_law 863 = .ok (.iadd, 1) := by decide +kernel
theorem dL_law_864 : decode cL_law 864 = .ok (.iaload, 1) := by decide +kernel
theorem dL_law_865 : decode cL_law 865 = .ok (.aload_n 0, 1) := by decide +kernel
theorem dL_law_866 : decode cL_law 866 = .ok (.iload_n 3, 1) := by decide +kernel
theorem dL_law_867 : decode cL_law 867 = .ok (.iconst 2, 1) := by decide +kernel
theorem dL_law_868 : decode cL_law 868 = .ok (.iadd, 1) := by decide +kernel
theorem dL_law_869 : decode cL_law 869 = .ok (.iaload, 1) := by decide +kernel
theorem dL_law_870 : decode cL_law 870 = .ok (.aload_n 0, 1) := by decide +kernel
theorem dL_law_871 : decode cL_law 871 = .ok (.iload_n 3, 1) := by decide +kernel
theorem dL_law_872 : decode cL_law 872 = .ok (.iconst 3, 1) := by decide +kernel
theorem dL_law_873 : decode cL_law 873 = .ok (.iadd, 1) := by decide +kernel
theorem dL_law_874 : decode cL_law 874 = .ok (.iaload, 1) := by decide +kernel
theorem dL_law_875 : decode cL_law 875 = .ok (.aload_n 0, 1) := by decide +kernel
theorem dL_law_876 : decode cL_law 876 = .ok (.iload_n 3, 1) := by decide +kernel
theorem dL_law_877 : decode cL_law 877 = .ok (.iconst 4, 1) := by decide +kernel
theorem dL_law_878 : decode cL_law 878 = .ok (.iadd, 1) := by decide +kernel
theorem dL_law_879 : decode cL_law 879 = .ok (.iaload, 1) := by decide +kernel
theorem dL_law_880 : decode cL_law 880 = .ok (.aload_n 0, 1) := by decide +kernel
theorem dL_law_881 : decode cL_law 881 = .ok (.iload_n 3, 1) := by decide +kernel
theorem dL_law_882 : decode cL_law 882 = .ok (.iconst 5, 1) := by decide +kernel
theorem dL_law_883 : decode cL_law 883 = .ok (.iadd, 1) := by decide +kernel
theorem dL_law_884 : decode cL_law 884 = .ok (.iaload, 1) := by decide +kernel
theorem dL_law_885 : decode cL_law 885 = .ok (.invokevirtual 103, 3) := by decide +kernel
theorem dL_law_888 : decode cL_law 888 = .ok (.aload_n 2, 1) := by decide +kernel
theorem dL_law_889 : decode cL_law 889 = .ok (.aload_n 0, 1) := by decide +kernel
theorem dL_law_890 : decode cL_law 890 = .ok (.iload_n 3, 1) := by decide +kernel
theorem dL_law_891 : decode cL_law 891 = .ok (.iconst 1, 1) := by decide +kernel
theorem dL_law_892 : decode cL_law 892 = .ok (.iadd, 1) := by decide +kernel
theorem dL_law_893 : decode cL_law 893 = .ok (.iaload, 1) := by decide +kernel
theorem dL_law_894 : decode cL_law 894 = .ok (.aload_n 0, 1) := by decide +kernel
theorem dL_law_895 : decode cL_law 895 = .ok (.iload_n 3, 1) := by decide +kernel
theorem dL_law_896 : decode cL_law 896 = .ok (.iconst 2, 1) := by decide +kernel
theorem dL_law_897 : decode cL_law 897 = .ok (.iadd, 1) := by decide +kernel
theorem dL_law_898 : decode cL_law 898 = .ok (.iaload, 1) := by decide +kernel
theorem dL_law_899 : decode cL_law 899 = .ok (.aload_n 0, 1) := by decide +kernel
theorem dL_law_900 : decode cL_law 900 = .ok (.iload_n 3, 1) := by decide +kernel
theorem dL_law_901 : decode cL_law 901 = .ok (.iconst 3, 1) := by decide +kernel
theorem dL_law_902 : decode cL_law 902 = .ok (.iadd, 1) := by decide +kernel
theorem dL_law_903 : decode cL_law 903 = .ok (.iaload, 1) := by decide +kernel
theorem dL_law_904 : decode cL_law 904 = .ok (.aload_n 0, 1) := by decide +kernel
theorem dL_law_905 : decode cL_law 905 = .ok (.iload_n 3, 1) := by decide +kernel
theorem dL_law_906 : decode cL_law 906 = .ok (.iconst 4, 1) := by decide +kernel
theorem dL_law_907 : decode cL_law 907 = .ok (.iadd, 1) := by decide +kernel
theorem dL_law_908 : decode cL_law 908 = .ok (.iaload, 1) := by decide +kernel
theorem dL_law_909 : decode cL_law 909 = .ok (.aload_n 0, 1) := by decide +kernel
theorem dL_law_910 : decode cL_law 910 = .ok (.iload_n 3, 1) := by decide +kernel
theorem dL_law_911 : decode cL_law 911 = .ok (.iconst 5, 1) := by decide +kernel
theorem dL_law_912 : decode cL_law 912 = .ok (.iadd, 1) := by decide +kernel
theorem dL_law_913 : decode cL_law 913 = .ok (.iaload, 1) := by decide +kernel
theorem dL_law_914 : decode cL_law 914 = .ok (.invokevirtual 106, 3) := by decide +kernel
theorem dL_law_917 : decode cL_law 917 = .ok (.if_icmp .eq 369, 3) := by decide +kernel
theorem dL_law_920 : decode cL_law 920 = .ok (.iconst 0, 1) := by decide +kernel
theorem dL_law_921 : decode cL_law 921 = .ok (.ireturn, 1) := by decide +kernel
theorem dL_law_922 : decode cL_law 922 = .ok (.aload_n 1, 1) := by decide +kernel
theorem dL_law_923 : decode cL_law 923 = .ok (.aload_n 0, 1) := by decide +kernel
theorem dL_law_924 : decode cL_law 924 = .ok (.iload_n 3, 1) := by decide +kernel
theorem dL_law_925 : decode cL_law 925 = .ok (.iconst 1, 1) := by decide +kernel
theorem dL_law_926 : decode cL_law 926 = .ok (.iadd, 1) := by decide +kernel
theorem dL_law_927 : decode cL_law 927 = .ok (.iaload, 1) := by decide +kernel
theorem dL_law_928 : decode cL_law 928 = .ok (.aload_n 0, 1) := by decide +kernel
theorem dL_law_929 : decode cL_law 929 = .ok (.iload_n 3, 1) := by decide +kernel
theorem dL_law_930 : decode cL_law 930 = .ok (.iconst 2, 1) := by decide +kernel
theorem dL_law_931 : decode cL_law 931 = .ok (.iadd, 1) := by decide +kernel
theorem dL_law_932 : decode cL_law 932 = .ok (.iaload, 1) := by decide +kernel
theorem dL_law_933 : decode cL_law 933 = .ok (.aload_n 0, 1) := by decide +kernel
theorem dL_law_934 : decode cL_law 934 = .ok (.iload_n 3, 1) := by decide +kernel
theorem dL_law_935 : decode cL_law 935 = .ok (.iconst 3, 1) := by decide +kernel
theorem dL_law_936 : decode cL_law 936 = .ok (.iadd, 1) := by decide +kernel
theorem dL_law_937 : decode cL_law 937 = .ok (.iaload, 1) := by decide +kernel
theorem dL_law_938 : decode cL_law 938 = .ok (.aload_n 0, 1) := by decide +kernel
theorem dL_law_939 : decode cL_law 939 = .ok (.iload_n 3, 1) := by decide +kernel
theorem dL_law_940 : decode cL_law 940 = .ok (.iconst 4, 1) := by decide +kernel
theorem dL_law_941 : decode cL_law 941 = .ok (.iadd, 1) := by decide +kernel
theorem dL_law_942 : decode cL_law 942 = .ok (.iaload, 1) := by decide +kernel
theorem dL_law_943 : decode cL_law 943 = .ok (.invokevirtual 107, 3) := by decide +kernel
theorem dL_law_946 : decode cL_law 946 = .ok (.aload_n 2, 1) := by decide +kernel
theorem dL_law_947 : decode cL_law 947 = .ok (.aload_n 0, 1) := by decide +kernel
theorem dL_law_948 : decode cL_law 948 = .ok (.iload_n 3, 1) := by decide +kernel
theorem dL_law_949 : decode cL_law 949 = .ok (.iconst 1, 1) := by decide +kernel
theorem dL_law_950 : decode cL_law 950 = .ok (.iadd, 1) := by decide +kernel
theorem dL_law_951 : decode cL_law 951 = .ok (.iaload, 1) := by decide +kernel
theorem dL_law_952 : decode cL_law 952 = .ok (.aload_n 0, 1) := by decide +kernel
theorem dL_law_953 : decode cL_law 953 = .ok (.iload_n 3, 1) := by decide +kernel
theorem dL_law_954 : decode cL_law 954 = .ok (.iconst 2, 1) := by decide +kernel
theorem dL_law_955 : decode cL_law 955 = .ok (.iadd, 1) := by decide +kernel
theorem dL_law_956 : decode cL_law 956 = .ok (.iaload, 1) := by decide +kernel
theorem dL_law_957 : decode cL_law 957 = .ok (.aload_n 0, 1) := by decide +kernel
theorem dL_law_958 : decode cL_law 958 = .ok (.iload_n 3, 1) := by decide +kernel
theorem dL_law_959 : decode cL_law 959 = .ok (.iconst 3, 1) := by decide +kernel
theorem dL_law_960 : decode cL_law 960 = .ok (.iadd, 1) := by decide +kernel
theorem dL_law_961 : decode cL_law 961 = .ok (.iaload, 1) := by decide +kernel
theorem dL_law_962 : decode cL_law 962 = .ok (.aload_n 0, 1) := by decide +kernel
theorem dL_law_963 : decode cL_law 963 = .ok (.iload_n 3, 1) := by decide +kernel
theorem dL_law_964 : decode cL_law 964 = .ok (.iconst 4, 1) := by decide +kernel
theorem dL_law_965 : decode cL_law 965 = .ok (.iadd, 1) := by decide +kernel
theorem dL_law_966 : decode cL_law 966 = .ok (.iaload, 1) := by decide +kernel
theorem dL_law_967 : decode cL_law 967 = .ok (.invokevirtual 111, 3) := by decide +kernel
theorem dL_law_970 : decode cL_law 970 = .ok (.if_icmp .eq 316, 3) := by decide +kernel
theorem dL_law_973 : decode cL_law 973 = .ok (.iconst 0, 1) := by decide +kernel
theorem dL_law_974 : decode cL_law 974 = .ok (.ireturn, 1) := by decide +kernel
theorem dL_law_975 : decode cL_law 975 = .ok (.aload_n 1, 1) := by decide +kernel
theorem dL_law_976 : decode cL_law 976 = .ok (.aload_n 0, 1) := by decide +kernel
theorem dL_law_977 : decode cL_law 977 = .ok (.iload_n 3, 1) := by decide +kernel
theorem dL_law_978 : decode cL_law 978 = .ok (.iconst 1, 1) := by decide +kernel
theorem dL_law_979 : decode cL_law 979 = .ok (.iadd, 1) := by decide +kernel
theorem dL_law_980 : decode cL_law 980 = .ok (.iaload, 1) := by decide +kernel
theorem dL_law_981 : decode cL_law 981 = .ok (.aload_n 0, 1) := by decide +kernel
theorem dL_law_982 : decode cL_law 982 = .ok (.iload_n 3, 1) := by decide +kernel
theorem dL_law_983 : decode cL_law 983 = .ok (.iconst 2, 1) := by decide +kernel
theorem dL_law_984 : decode cL_law 984 = .ok (.iadd, 1) := by decide +kernel
theorem dL_law_985 : decode cL_law 985 = .ok (.iaload, 1) := by decide +kernel
theorem dL_law_986 : decode cL_law 986 = .ok (.aload_n 0, 1) := by decide +kernel
theorem dL_law_987 : decode cL_law 987 = .ok (.iload_n 3, 1) := by decide +kernel
theorem dL_law_988 : decode cL_law 988 = .ok (.iconst 3, 1) := by decide +kernel
theorem dL_law_989 : decode cL_law 989 = .ok (.iadd, 1) := by decide +kernel
theorem dL_law_990 : decode cL_law 990 = .ok (.iaload, 1) := by decide +kernel
theorem dL_law_991 : decode cL_law 991 = .ok (.invokevirtual 112, 3) := by decide +kernel
theorem dL_law_994 : decode cL_law 994 = .ok (.aload_n 2, 1) := by decide +kernel
theorem dL_law_995 : decode cL_law 995 = .ok (.aload_n 0, 1) := by decide +kernel
theorem dL_law_996 : decode cL_law 996 = .ok (.iload_n 3, 1) := by decide +kernel
theorem dL_law_997 : decode cL_law 997 = .ok (.iconst 1, 1) := by decide +kernel
theorem dL_law_998 : decode cL_law 998 = .ok (.iadd, 1) := by decide +kernel
theorem dL_law_999 : decode cL_law 999 = .ok (.iaload, 1) := by decide +kernel
theorem dL_law_1000 : decode cL_law 1000 = .ok (.aload_n 0, 1) := by decide +kernel
theorem dL_law_1001 : decode cL_law 1001 = .ok (.iload_n 3, 1) := by decide +kernel
theorem dL_law_1002 : decode cL_law 1002 = .ok (.iconst 2, 1) := by decide +kernel
theorem dL_law_1003 : decode cL_law 1003 = .ok (.iadd, 1) := by decide +kernel
theorem dL_law_1004 : decode cL_law 1004 = .ok (.iaload, 1) := by decide +kernel
theorem dL_law_1005 : decode cL_law 1005 = .ok (.aload_n 0, 1) := by decide +kernel
theorem dL_law_1006 : decode cL_law 1006 = .ok (.iload_n 3, 1) := by decide +kernel
theorem dL_law_1007 : decode cL_law 1007 = .ok (.iconst 3, 1) := by decide +kernel
theorem dL_law_1008 : decode cL_law 1008 = .ok (.iadd, 1) := by decide +kernel
theorem dL_law_1009 : decode cL_law 1009 = .ok (.iaload, 1) := by decide +kernel
theorem dL_law_1010 : decode cL_law 1010 = .ok (.invokevirtual 115, 3) := by decide +kernel
theorem dL_law_1013 : decode cL_law 1013 = .ok (.lcmp, 1) := by decide +kernel
theorem dL_law_1014 : decode cL_law 1014 = .ok (.ifCond .eq 272, 3) := by decide +kernel
theorem dL_law_1017 : decode cL_law 1017 = .ok (.iconst 0, 1) := by decide +kernel
theorem dL_law_1018 : decode cL_law 1018 = .ok (.ireturn, 1) := by decide +kernel
theorem dL_law_1019 : decode cL_law 1019 = .ok (.aload_n 1, 1) := by decide +kernel
theorem dL_law_1020 : decode cL_law 1020 = .ok (.aload_n 0, 1) := by decide +kernel
theorem dL_law_1021 : decode cL_law 1021 = .ok (.iload_n 3, 1) := by decide +kernel
theorem dL_law_1022 : decode cL_law 1022 = .ok (.iconst 1, 1) := by decide +kernel
theorem dL_law_1023 : decode cL_law 1023 = .ok (.iadd, 1) := by decide +kernel
theorem dL_law_1024 : decode cL_law 1024 = .ok (.iaload, 1) := by decide +kernel
theorem dL_law_1025 : decode cL_law 1025 = .ok (.aload_n 0, 1) := by decide +kernel
theorem dL_law_1026 : decode cL_law 1026 = .ok (.iload_n 3, 1) := by decide +kernel
theorem dL_law_1027 : decode cL_law 1027 = .ok (.iconst 2, 1) := by decide +kernel
theorem dL_law_1028 : decode cL_law 1028 = .ok (.iadd, 1) := by decide +kernel
theorem dL_law_1029 : decode cL_law 1029 = .ok (.iaload, 1) := by decide +kernel
theorem dL_law_1030 : decode cL_law 1030 = .ok (.invokevirtual 116, 3) := by decide +kernel
theorem dL_law_1033 : decode cL_law 1033 = .ok (.aload_n 2, 1) := by decide +kernel
theorem dL_law_1034 : decode cL_law 1034 = .ok (.aload_n 0, 1) := by decide +kernel
theorem dL_law_1035 : decode cL_law 1035 = .ok (.iload_n 3, 1) := by decide +kernel
theorem dL_law_1036 : decode cL_law 1036 = .ok (.iconst 1, 1) := by decide +kernel
theorem dL_law_1037 : decode cL_law 1037 = .ok (.iadd, 1) := by decide +kernel
theorem dL_law_1038 : decode cL_law 1038 = .ok (.iaload, 1) := by decide +kernel
theorem dL_law_1039 : decode cL_law 1039 = .ok (.aload_n 0, 1) := by decide +kernel
theorem dL_law_1040 : decode cL_law 1040 = .ok (.iload_n 3, 1) := by decide +kernel
theorem dL_law_1041 : decode cL_law 1041 = .ok (.iconst 2, 1) := by decide +kernel
theorem dL_law_1042 : decode cL_law 1042 = .ok (.iadd, 1) := by decide +kernel
theorem dL_law_1043 : decode cL_law 1043 = .ok (.iaload, 1) := by decide +kernel
theorem dL_law_1044 : decode cL_law 1044 = .ok (.invokevirtual 119, 3) := by decide +kernel
theorem dL_law_1047 : decode cL_law 1047 = .ok (.if_icmp .eq 239, 3) := by decide +kernel
theorem dL_law_1050 : decode cL_law 1050 = .ok (.iconst 0, 1) := by decide +kernel
theorem dL_law_1051 : decode cL_law 1051 = .ok (.ireturn, 1) := by decide +kernel
theorem dL_law_1052 : decode cL_law 1052 = .ok (.aload_n 1, 1) := by decide +kernel
theorem dL_law_1053 : decode cL_law 1053 = .ok (.aload_n 0, 1) := by decide +kernel
theorem dL_law_1054 : decode cL_law 1054 = .ok (.iload_n 3, 1) := by decide +kernel
theorem dL_law_1055 : decode cL_law 1055 = .ok (.iconst 1, 1) := by decide +kernel
theorem dL_law_1056 : decode cL_law 1056 = .ok (.iadd, 1) := by decide +kernel
theorem dL_law_1057 : decode cL_law 1057 = .ok (.iaload, 1) := by decide +kernel
theorem dL_law_1058 : decode cL_law 1058 = .ok (.aload_n 0, 1) := by decide +kernel
theorem dL_law_1059 : decode cL_law 1059 = .ok (.iload_n 3, 1) := by decide +kernel
theorem dL_law_1060 : decode cL_law 1060 = .ok (.iconst 2, 1) := by decide +kernel
theorem dL_law_1061 : decode cL_law 1061 = .ok (.iadd, 1) := by decide +kernel
theorem dL_law_1062 : decode cL_law 1062 = .ok (.iaload, 1) := by decide +kernel
theorem dL_law_1063 : decode cL_law 1063 = .ok (.aload_n 0, 1) := by decide +kernel
theorem dL_law_1064 : decode cL_law 1064 = .ok (.iload_n 3, 1) := by decide +kernel
theorem dL_law_1065 : decode cL_law 1065 = .ok (.iconst 3, 1) := by decide +kernel
theorem dL_law_1066 : decode cL_law 1066 = .ok (.iadd, 1) := by decide +kernel
theorem dL_law_1067 : decode cL_law 1067 = .ok (.iaload, 1) := by decide +kernel
theorem dL_law_1068 : decode cL_law 1068 = .ok (.invokevirtual 120, 3) := by decide +kernel
theorem dL_law_1071 : decode cL_law 1071 = .ok (.aload_n 2, 1) := by decide +kernel
theorem dL_law_1072 : decode cL_law 1072 = .ok (.aload_n 0, 1) := by decide +kernel
theorem dL_law_1073 : decode cL_law 1073 = .ok (.iload_n 3, 1) := by decide +kernel
theorem dL_law_1074 : decode cL_law 1074 = .ok (.iconst 1, 1) := by decide +kernel
theorem dL_law_1075 : decode cL_law 1075 = .ok (.iadd, 1) := by decide +kernel
theorem dL_law_1076 : decode cL_law 1076 = .ok (.iaload, 1) := by decide +kernel
theorem dL_law_1077 : decode cL_law 1077 = .ok (.aload_n 0, 1) := by decide +kernel
theorem dL_law_1078 : decode cL_law 1078 = .ok (.iload_n 3, 1) := by decide +kernel
theorem dL_law_1079 : decode cL_law 1079 = .ok (.iconst 2, 1) := by decide +kernel
theorem dL_law_1080 : decode cL_law 1080 = .ok (.iadd, 1) := by decide +kernel
theorem dL_law_1081 : decode cL_law 1081 = .ok (.iaload, 1) := by decide +kernel
theorem dL_law_1082 : decode cL_law 1082 = .ok (.aload_n 0, 1) := by decide +kernel
theorem dL_law_1083 : decode cL_law 1083 = .ok (.iload_n 3, 1) := by decide +kernel
theorem dL_law_1084 : decode cL_law 1084 = .ok (.iconst 3, 1) := by decide +kernel
theorem dL_law_1085 : decode cL_law 1085 = .ok (.iadd, 1) := by decide +kernel
theorem dL_law_1086 : decode cL_law 1086 = .ok (.iaload, 1) := by decide +kernel
theorem dL_law_1087 : decode cL_law 1087 = .ok (.invokevirtual 124, 3) := by decide +kernel
theorem dL_law_1090 : decode cL_law 1090 = .ok (.if_icmp .eq 196, 3) := by decide +kernel
theorem dL_law_1093 : decode cL_law 1093 = .ok (.iconst 0, 1) := by decide +kernel
theorem dL_law_1094 : decode cL_law 1094 = .ok (.ireturn, 1) := by decide +kernel
theorem dL_law_1095 : decode cL_law 1095 = .ok (.aload_n 1, 1) := by decide +kernel
theorem dL_law_1096 : decode cL_law 1096 = .ok (.aload_n 0, 1) := by decide +kernel
theorem dL_law_1097 : decode cL_law 1097 = .ok (.iload_n 3, 1) := by decide +kernel
theorem dL_law_1098 : decode cL_law 1098 = .ok (.iconst 1, 1) := by decide +kernel
theorem dL_law_1099 : decode cL_law 1099 = .ok (.iadd, 1) := by decide +kernel
theorem dL_law_1100 : decode cL_law 1100 = .ok (.iaload, 1) := by decide +kernel
theorem dL_law_1101 : decode cL_law 1101 = .ok (.aload_n 0, 1) := by decide +kernel
theorem dL_law_1102 : decode cL_law 1102 = .ok (.iload_n 3, 1) := by decide +kernel
theorem dL_law_1103 : decode cL_law 1103 = .ok (.iconst 2, 1) := by decide +kernel
theorem dL_law_1104 : decode cL_law 1104 = .ok (.iadd, 1) := by decide +kernel
theorem dL_law_1105 : decode cL_law 1105 = .ok (.iaload, 1) := by decide +kernel
theorem dL_law_1106 : decode cL_law 1106 = .ok (.aload_n 0, 1) := by decide +kernel
theorem dL_law_1107 : decode cL_law 1107 = .ok (.iload_n 3, 1) := by decide +kernel
theorem dL_law_1108 : decode cL_law 1108 = .ok (.iconst 3, 1) := by decide +kernel
theorem dL_law_1109 : decode cL_law 1109 = .ok (.iadd, 1) := by decide +kernel
theorem dL_law_1110 : decode cL_law 1110 = .ok (.iaload, 1) := by decide +kernel
theorem dL_law_1111 : decode cL_law 1111 = .ok (.invokevirtual 125, 3) := by decide +kernel
theorem dL_law_1114 : decode cL_law 1114 = .ok (.aload_n 2, 1) := by decide +kernel
theorem dL_law_1115 : decode cL_law 1115 = .ok (.aload_n 0, 1) := by decide +kernel
theorem dL_law_1116 : decode cL_law 1116 = .ok (.iload_n 3, 1) := by decide +kernel
theorem dL_law_1117 : decode cL_law 1117 = .ok (.iconst 1, 1) := by decide +kernel
theorem dL_law_1118 : decode cL_law 1118 = .ok (.iadd, 1) := by decide +kernel
theorem dL_law_1119 : decode cL_law 1119 = .ok (.iaload, 1) := by decide +kernel
theorem dL_law_1120 : decode cL_law 1120 = .ok (.aload_n 0, 1) := by decide +kernel
theorem dL_law_1121 : decode cL_law 1121 = .ok (.iload_n 3, 1) := by decide +kernel
theorem dL_law_1122 : decode cL_law 1122 = .ok (.iconst 2, 1) := by decide +kernel
theorem dL_law_1123 : decode cL_law 1123 = .ok (.iadd, 1) := by decide +kernel
theorem dL_law_1124 : decode cL_law 1124 = .ok (.iaload, 1) := by decide +kernel
theorem dL_law_1125 : decode cL_law 1125 = .ok (.aload_n 0, 1) := by decide +kernel
theorem dL_law_1126 : decode cL_law 1126 = .ok (.iload_n 3, 1) := by decide +kernel
theorem dL_law_1127 : decode cL_law 1127 = .ok (.iconst 3, 1) := by decide +kernel
theorem dL_law_1128 : decode cL_law 1128 = .ok (.iadd, 1) := by decide +kernel
theorem dL_law_1129 : decode cL_law 1129 = .ok (.iaload, 1) := by decide +kernel
theorem dL_law_1130 : decode cL_law 1130 = .ok (.invokevirtual 128, 3) := by decide +kernel
theorem dL_law_1133 : decode cL_law 1133 = .ok (.if_icmp .eq 153, 3) := by decide +kernel
theorem dL_law_1136 : decode cL_law 1136 = .ok (.iconst 0, 1) := by decide +kernel
theorem dL_law_1137 : decode cL_law 1137 = .ok (.ireturn, 1) := by decide +kernel
theorem dL_law_1138 : decode cL_law 1138 = .ok (.aload_n 1, 1) := by decide +kernel
theorem dL_law_1139 : decode cL_law 1139 = .ok (.aload_n 0, 1) := by decide +kernel
theorem dL_law_1140 : decode cL_law 1140 = .ok (.iload_n 3, 1) := by decide +kernel
theorem dL_law_1141 : decode cL_law 1141 = .ok (.iconst 1, 1) := by decide +kernel
theorem dL_law_1142 : decode cL_law 1142 = .ok (.iadd, 1) := by decide +kernel
theorem dL_law_1143 : decode cL_law 1143 = .ok (.iaload, 1) := by decide +kernel
theorem dL_law_1144 : decode cL_law 1144 = .ok (.aload_n 0, 1) := by decide +kernel
theorem dL_law_1145 : decode cL_law 1145 = .ok (.iload_n 3, 1) := by decide +kernel
theorem dL_law_1146 : decode cL_law 1146 = .ok (.iconst 2, 1) := by decide +kernel
theorem dL_law_1147 : decode cL_law 1147 = .ok (.iadd, 1) := by decide +kernel
theorem dL_law_1148 : decode cL_law 1148 = .ok (.iaload, 1) := by decide +kernel
theorem dL_law_1149 : decode cL_law 1149 = .ok (.aload_n 0, 1) := by decide +kernel
theorem dL_law_1150 : decode cL_law 1150 = .ok (.iload_n 3, 1) := by decide +kernel
theorem dL_law_1151 : decode cL_law 1151 = .ok (.iconst 3, 1) := by decide +kernel
theorem dL_law_1152 : decode cL_law 1152 = .ok (.iadd, 1) := by decide +kernel
theorem dL_law_1153 : decode cL_law 1153 = .ok (.iaload, 1) := by decide +kernel
theorem dL_law_1154 : decode cL_law 1154 = .ok (.invokevirtual 129, 3) := by decide +kernel
theorem dL_law_1157 : decode cL_law 1157 = .ok (.aload_n 2, 1) := by decide +kernel
theorem dL_law_1158 : decode cL_law 1158 = .ok (.aload_n 0, 1) := by decide +kernel
theorem dL_law_1159 : decode cL_law 1159 = .ok (.iload_n 3, 1) := by decide +kernel
theorem dL_law_1160 : decode cL_law 1160 = .ok (.iconst 1, 1) := by decide +kernel
theorem dL_law_1161 : decode cL_law 1161 = .ok (.iadd, 1) := by decide +kernel
theorem dL_law_1162 : decode cL_law 1162 = .ok (.iaload, 1) := by decide +kernel
theorem dL_law_1163 : decode cL_law 1163 = .ok (.aload_n 0, 1) := by decide +kernel
theorem dL_law_1164 : decode cL_law 1164 = .ok (.iload_n 3, 1) := by decide +kernel
theorem dL_law_1165 : decode cL_law 1165 = .ok (.iconst 2, 1) := by decide +kernel
theorem dL_law_1166 : decode cL_law 1166 = .ok (.iadd, 1) := by decide +kernel
theorem dL_law_1167 : decode cL_law 1167 = .ok (.iaload, 1) := by decide +kernel
theorem dL_law_1168 : decode cL_law 1168 = .ok (.aload_n 0, 1) := by decide +kernel
theorem dL_law_1169 : decode cL_law 1169 = .ok (.iload_n 3, 1) := by decide +kernel
theorem dL_law_1170 : decode cL_law 1170 = .ok (.iconst 3, 1) := by decide +kernel
theorem dL_law_1171 : decode cL_law 1171 = .ok (.iadd, 1) := by decide +kernel
theorem dL_law_1172 : decode cL_law 1172 = .ok (.iaload, 1) := by decide +kernel
theorem dL_law_1173 : decode cL_law 1173 = .ok (.invokevirtual 132, 3) := by decide +kernel
theorem dL_law_1176 : decode cL_law 1176 = .ok (.if_icmp .eq 110, 3) := by decide +kernel
theorem dL_law_1179 : decode cL_law 1179 = .ok (.iconst 0, 1) := by decide +kernel
theorem dL_law_1180 : decode cL_law 1180 = .ok (.ireturn, 1) := by decide +kernel
theorem dL_law_1181 : decode cL_law 1181 = .ok (.aload_n 1, 1) := by decide +kernel
theorem dL_law_1182 : decode cL_law 1182 = .ok (.aload_n 0, 1) := by decide +kernel
theorem dL_law_1183 : decode cL_law 1183 = .ok (.iload_n 3, 1) := by decide +kernel
theorem dL_law_1184 : decode cL_law 1184 = .ok (.iconst 1, 1) := by decide +kernel
theorem dL_law_1185 : decode cL_law 1185 = .ok (.iadd, 1) := by decide +kernel
theorem dL_law_1186 : decode cL_law 1186 = .ok (.iaload, 1) := by decide +kernel
theorem dL_law_1187 : decode cL_law 1187 = .ok (.invokevirtual 133, 3) := by decide +kernel
theorem dL_law_1190 : decode cL_law 1190 = .ok (.aload_n 2, 1) := by decide +kernel
theorem dL_law_1191 : decode cL_law 1191 = .ok (.aload_n 0, 1) := by decide +kernel
theorem dL_law_1192 : decode cL_law 1192 = .ok (.iload_n 3, 1) := by decide +kernel
theorem dL_law_1193 : decode cL_law 1193 = .ok (.iconst 1, 1) := by decide +kernel
theorem dL_law_1194 : decode cL_law 1194 = .ok (.iadd, 1) := by decide +kernel
theorem dL_law_1195 : decode cL_law 1195 = .ok (.iaload, 1) := by decide +kernel
theorem dL_law_1196 : decode cL_law 1196 = .ok (.invokevirtual 136, 3) := by decide +kernel
theorem dL_law_1199 : decode cL_law 1199 = .ok (.if_icmp .eq 87, 3) := by decide +kernel
theorem dL_law_1202 : decode cL_law 1202 = .ok (.iconst 0, 1) := by decide +kernel
theorem dL_law_1203 : decode cL_law 1203 = .ok (.ireturn, 1) := by decide +kernel
theorem dL_law_1204 : decode cL_law 1204 = .ok (.aload_n 1, 1) := by decide +kernel
theorem dL_law_1205 : decode cL_law 1205 = .ok (.aload_n 0, 1) := by decide +kernel
theorem dL_law_1206 : decode cL_law 1206 = .ok (.iload_n 3, 1) := by decide +kernel
theorem dL_law_1207 : decode cL_law 1207 = .ok (.iconst 1, 1) := by decide +kernel
theorem dL_law_1208 : decode cL_law 1208 = .ok (.iadd, 1) := by decide +kernel
theorem dL_law_1209 : decode cL_law 1209 = .ok (.iaload, 1) := by decide +kernel
theorem dL_law_1210 : decode cL_law 1210 = .ok (.aload_n 0, 1) := by decide +kernel
theorem dL_law_1211 : decode cL_law 1211 = .ok (.iload_n 3, 1) := by decide +kernel
theorem dL_law_1212 : decode cL_law 1212 = .ok (.iconst 2, 1) := by decide +kernel
theorem dL_law_1213 : decode cL_law 1213 = .ok (.iadd, 1) := by decide +kernel
theorem dL_law_1214 : decode cL_law 1214 = .ok (.iaload, 1) := by decide +kernel
theorem dL_law_1215 : decode cL_law 1215 = .ok (.invokevirtual 137, 3) := by decide +kernel
theorem dL_law_1218 : decode cL_law 1218 = .ok (.aload_n 2, 1) := by decide +kernel
theorem dL_law_1219 : decode cL_law 1219 = .ok (.aload_n 0, 1) := by decide +kernel
theorem dL_law_1220 : decode cL_law 1220 = .ok (.iload_n 3, 1) := by decide +kernel
theorem dL_law_1221 : decode cL_law 1221 = .ok (.iconst 1, 1) := by decide +kernel
theorem dL_law_1222 : decode cL_law 1222 = .ok (.iadd, 1) := by decide +kernel
theorem dL_law_1223 : decode cL_law 1223 = .ok (.iaload, 1) := by decide +kernel
theorem dL_law_1224 : decode cL_law 1224 = .ok (.aload_n 0, 1) := by decide +kernel
theorem dL_law_1225 : decode cL_law 1225 = .ok (.iload_n 3, 1) := by decide +kernel
theorem dL_law_1226 : decode cL_law 1226 = .ok (.iconst 2, 1) := by decide +kernel
theorem dL_law_1227 : decode cL_law 1227 = .ok (.iadd, 1) := by decide +kernel
theorem dL_law_1228 : decode cL_law 1228 = .ok (.iaload, 1) := by decide +kernel
theorem dL_law_1229 : decode cL_law 1229 = .ok (.invokevirtual 140, 3) := by decide +kernel
theorem dL_law_1232 : decode cL_law 1232 = .ok (.if_icmp .eq 54, 3) := by decide +kernel
theorem dL_law_1235 : decode cL_law 1235 = .ok (.iconst 0, 1) := by decide +kernel
theorem dL_law_1236 : decode cL_law 1236 = .ok (.ireturn, 1) := by decide +kernel
theorem dL_law_1237 : decode cL_law 1237 = .ok (.aload_n 1, 1) := by decide +kernel
theorem dL_law_1238 : decode cL_law 1238 = .ok (.invokevirtual 141, 3) := by decide +kernel
theorem dL_law_1241 : decode cL_law 1241 = .ok (.aload_n 2, 1) := by decide +kernel
theorem dL_law_1242 : decode cL_law 1242 = .ok (.invokevirtual 144, 3) := by decide +kernel
theorem dL_law_1245 : decode cL_law 1245 = .ok (.if_icmp .eq 41, 3) := by decide +kernel
theorem dL_law_1248 : decode cL_law 1248 = .ok (.iconst 0, 1) := by decide +kernel
theorem dL_law_1249 : decode cL_law 1249 = .ok (.ireturn, 1) := by decide +kernel
theorem dL_law_1250 : decode cL_law 1250 = .ok (.aload_n 1, 1) := by decide +kernel
theorem dL_law_1251 : decode cL_law 1251 = .ok (.invokevirtual 145, 3) := by decide +kernel
theorem dL_law_1254 : decode cL_law 1254 = .ok (.aload_n 2, 1) := by decide +kernel
theorem dL_law_1255 : decode cL_law 1255 = .ok (.invokevirtual 148, 3) := by decide +kernel
theorem dL_law_1258 : decode cL_law 1258 = .ok (.if_icmp .eq 28, 3) := by decide +kernel
theorem dL_law_1261 : decode cL_law 1261 = .ok (.iconst 0, 1) := by decide +kernel
theorem dL_law_1262 : decode cL_law 1262 = .ok (.ireturn, 1) := by decide +kernel
theorem dL_law_1263 : decode cL_law 1263 = .ok (.aload_n 1, 1) := by decide +kernel
theorem dL_law_1264 : decode cL_law 1264 = .ok (.aload_n 0, 1) := by decide +kernel
theorem dL_law_1265 : decode cL_law 1265 = .ok (.iload_n 3, 1) := by decide +kernel
theorem dL_law_1266 : decode cL_law 1266 = .ok (.iconst 1, 1) := by decide +kernel
theorem dL_law_1267 : decode cL_law 1267 = .ok (.iadd, 1) := by decide +kernel
theorem dL_law_1268 : decode cL_law 1268 = .ok (.iaload, 1) := by decide +kernel
theorem dL_law_1269 : decode cL_law 1269 = .ok (.invokevirtual 149, 3) := by decide +kernel
theorem dL_law_1272 : decode cL_law 1272 = .ok (.aload_n 2, 1) := by decide +kernel
theorem dL_law_1273 : decode cL_law 1273 = .ok (.aload_n 0, 1) := by decide +kernel
theorem dL_law_1274 : decode cL_law 1274 = .ok (.iload_n 3, 1) := by decide +kernel
theorem dL_law_1275 : decode cL_law 1275 = .ok (.iconst 1, 1) := by decide +kernel
theorem dL_law_1276 : decode cL_law 1276 = .ok (.iadd, 1) := by decide +kernel
theorem dL_law_1277 : decode cL_law 1277 = .ok (.iaload, 1) := by decide +kernel
theorem dL_law_1278 : decode cL_law 1278 = .ok (.invokevirtual 152, 3) := by decide +kernel
theorem dL_law_1281 : decode cL_law 1281 = .ok (.if_icmp .eq 5, 3) := by decide +kernel
theorem dL_law_1284 : decode cL_law 1284 = .ok (.iconst 0, 1) := by decide +kernel
theorem dL_law_1285 : decode cL_law 1285 = .ok (.ireturn, 1) := by decide +kernel
theorem dL_law_1286 : decode cL_law 1286 = .ok (.iinc 3 6, 3) := by decide +kernel
theorem dL_law_1289 : decode cL_law 1289 = .ok (.goto (-1271), 3) := by decide +kernel
theorem dL_law_1292 : decode cL_law 1292 = .ok (.iconst 1, 1) := by decide +kernel
theorem dL_law_1293 : decode cL_law 1293 = .ok (.ireturn, 1) := by decide +kernel
def f_L_law_B18 (ρ : Nat → Nat) (L : Nat) (S : HSt) (S3 : HSt) (xs : Nat → Int32) (kb18 : (Int32 → HSt → Option (HSt))) (x7 : Int32) (S8 : HSt) : Option (HSt) := if ((nI L) - 6) < x7 then (some S8) else (if ¬ (x7 < 0 ∨ L ≤ (Int32.toNatClampNeg x7)) then (if ((xs (Int32.toNatClampNeg x7)) &&& 31) = 0 then (if ¬ ((x7 + 1) < 0 ∨ L ≤ (Int32.toNatClampNeg (x7 + 1))) then (if gC S8 S.2 = some 11 then (bd2 (f_X11_barn S8 S.2 (xs (Int32.toNatClampNeg (x7 + 1)))) fun v47 S46 => if ¬ ((x7 + 1) < 0 ∨ L ≤ (Int32.toNatClampNeg (x7 + 1))) then (if gC S46 S3.2 = some 12 then (bd2 (f_X12_barn S46 S3.2 (xs (Int32.toNatClampNeg (x7 + 1)))) fun v52 S51 => if v47 = v52 then (kb18 (x7 + 6) S51) else (none)) else none) else none) else none) else none) else (if ((xs (Int32.toNatClampNeg x7)) &&& 31) = 1 then (if ¬ ((x7 + 1) < 0 ∨ L ≤ (Int32.toNatClampNeg (x7 + 1))) then (if ¬ ((x7 + 2) < 0 ∨ L ≤ (Int32.toNatClampNeg (x7 + 2))) then (if ¬ ((x7 + 3) < 0 ∨ L ≤ (Int32.toNatClampNeg (x7 + 3))) then (if ¬ ((x7 + 4) < 0 ∨ L ≤ (Int32.toNatClampNeg (x7 + 4))) then (if ¬ ((x7 + 5) < 0 ∨ L ≤ (Int32.toNatClampNeg (x7 + 5))) then (if gC S8 S.2 = some 11 then (bd2 (f_X11_tryout S8 S.2 (xs (Int32.toNatClampNeg (x7 + 1))) (xs (Int32.toNatClampNeg (x7 + 2))) (xs (Int32.toNatClampNeg (x7 + 3))) (xs (Int32.toNatClampNeg (x7 + 4))) (xs (Int32.toNatClampNeg (x7 + 5)))) fun v62 S61 => if ¬ ((x7 + 1) < 0 ∨ L ≤ (Int32.toNatClampNeg (x7 + 1))) then (if ¬ ((x7 + 2) < 0 ∨ L ≤ (Int32.toNatClampNeg (x7 + 2))) then (if ¬ ((x7 + 3) < 0 ∨ L ≤ (Int32.toNatClampNeg (x7 + 3))) then (if ¬ ((x7 + 4) < 0 ∨ L ≤ (Int32.toNatClampNeg (x7 + 4))) then (if ¬ ((x7 + 5) < 0 ∨ L ≤ (Int32.toNatClampNeg (x7 + 5))) then (if gC S61 S3.2 = some 12 then (bd2 (f_X12_tryout S61 S3.2 (xs (Int32.toNatClampNeg (x7 + 1))) (xs (Int32.toNatClampNeg (x7 + 2))) (xs (Int32.toNatClampNeg (x7 + 3))) (xs (Int32.toNatClampNeg (x7 + 4))) (xs (Int32.toNatClampNeg (x7 + 5)))) fun v71 S70 => if v62 = v71 then (kb18 (x7 + 6) S70) else (none)) else none) else none) else none) else none) else none) else none) else none) else none) else none) else none) else none) else none) else (if ((xs (Int32.toNatClampNeg x7)) &&& 31) = 2 then (if ¬ ((x7 + 1) < 0 ∨ L ≤ (Int32.toNatClampNeg (x7 + 1))) then (if ¬ ((x7 + 2) < 0 ∨ L ≤ (Int32.toNatClampNeg (x7 + 2))) then (if gC S8 S.2 = some 11 then (bd2 (f_X11_excuse S8 S.2 (xs (Int32.toNatClampNeg (x7 + 1))) (xs (Int32.toNatClampNeg (x7 + 2)))) fun v78 S77 => if ¬ ((x7 + 1) < 0 ∨ L ≤ (Int32.toNatClampNeg (x7 + 1))) then (if ¬ ((x7 + 2) < 0 ∨ L ≤ (Int32.toNatClampNeg (x7 + 2))) then (if gC S77 S3.2 = some 12 then (bd2 (f_X12_excuse S77 S3.2 (xs (Int32.toNatClampNeg (x7 + 1))) (xs (Int32.toNatClampNeg (x7 + 2)))) fun v84 S83 => if v78 = v84 then (kb18 (x7 + 6) S83) else (none)) else none) else none) else none) else none) else none) else none) else (if ((xs (Int32.toNatClampNeg x7)) &&& 31) = 3 then (if ¬ ((x7 + 1) < 0 ∨ L ≤ (Int32.toNatClampNeg (x7 + 1))) then (if ¬ ((x7 + 2) < 0 ∨ L ≤ (Int32.toNatClampNeg (x7 + 2))) then (if gC S8 S.2 = some 11 then (bd2 (f_X11_of S8 S.2 (xs (Int32.toNatClampNeg (x7 + 1))) (xs (Int32.toNatClampNeg (x7 + 2)))) fun v91 S90 => if ¬ ((x7 + 1) < 0 ∨ L ≤ (Int32.toNatClampNeg (x7 + 1))) then (if ¬ ((x7 + 2) < 0 ∨ L ≤ (Int32.toNatClampNeg (x7 + 2))) then (if gC S90 S3.2 = some 12 then (bd2 (f_X12_of S90 S3.2 (xs (Int32.toNatClampNeg (x7 + 1))) (xs (Int32.toNatClampNeg (x7 + 2)))) fun v97 S96 => if v91 = v97 then (kb18 (x7 + 6) S96) else (none)) else none) else none) else none) else none) else none) else none) else (if ((xs (Int32.toNatClampNeg x7)) &&& 31) = 4 then (if ¬ ((x7 + 1) < 0 ∨ L ≤ (Int32.toNatClampNeg (x7 + 1))) then (if ¬ ((x7 + 2) < 0 ∨ L ≤ (Int32.toNatClampNeg (x7 + 2))) then (if ¬ ((x7 + 3) < 0 ∨ L ≤ (Int32.toNatClampNeg (x7 + 3))) then (if gC S8 S.2 = some 11 then (bd2 (f_X11_feed S8 S.2 (((Int32.toInt64 (xs (Int32.toNatClampNeg (x7 + 1)))) <<< (Int32.toInt64 32 &&& 63)) ||| ((Int32.toInt64 (xs (Int32.toNatClampNeg (x7 + 2)))) &&& 4294967295)) (xs (Int32.toNatClampNeg (x7 + 3)))) fun v105 S104 => if ¬ ((x7 + 1) < 0 ∨ L ≤ (Int32.toNatClampNeg (x7 + 1))) then (if ¬ ((x7 + 2) < 0 ∨ L ≤ (Int32.toNatClampNeg (x7 + 2))) then (if ¬ ((x7 + 3) < 0 ∨ L ≤ (Int32.toNatClampNeg (x7 + 3))) then (if gC S104 S3.2 = some 12 then (bd2 (f_X12_feed S104 S3.2 (((Int32.toInt64 (xs (Int32.toNatClampNeg (x7 + 1)))) <<< (Int32.toInt64 32 &&& 63)) ||| ((Int32.toInt64 (xs (Int32.toNatClampNeg (x7 + 2)))) &&& 4294967295)) (xs (Int32.toNatClampNeg (x7 + 3)))) fun v112 S111 => if v105 = v112 then (kb18 (x7 + 6) S111) else (none)) else none) else none) else none) else none) else none) else none) else none) else none) else (if ((xs (Int32.toNatClampNeg x7)) &&& 31) = 5 then (if gC S8 S.2 = some 11 then (bd2 (f_X11_plan ρ S8 S.2) fun v117 S116 => if gC S116 S3.2 = some 12 then (bd2 (f_X12_plan ρ S116 S3.2) fun v121 S120 => if v117 = v121 then (kb18 (x7 + 6) S120) else (none)) else none) else none) else (if ((xs (Int32.toNatClampNeg x7)) &&& 31) = 6 then (if ¬ ((x7 + 1) < 0 ∨ L ≤ (Int32.toNatClampNeg (x7 + 1))) then (if ¬ ((x7 + 2) < 0 ∨ L ≤ (Int32.toNatClampNeg (x7 + 2))) then (if gC S8 S.2 = some 11 then (bd2 (f_X11_told S8 S.2 (xs (Int32.toNatClampNeg (x7 + 1))) (xs (Int32.toNatClampNeg (x7 + 2)))) fun v128 S127 => if ¬ ((x7 + 1) < 0 ∨ L ≤ (Int32.toNatClampNeg (x7 + 1))) then (if ¬ ((x7 + 2) < 0 ∨ L ≤ (Int32.toNatClampNeg (x7 + 2))) then (if gC S127 S3.2 = some 12 then (bd2 (f_X12_told S127 S3.2 (xs (Int32.toNatClampNeg (x7 + 1))) (xs (Int32.toNatClampNeg (x7 + 2)))) fun v134 S133 => if v128 = v134 then (kb18 (x7 + 6) S133) else (none)) else none) else none) else none) else none) else none) else none) else (if ((xs (Int32.toNatClampNeg x7)) &&& 31) = 7 then (if ¬ ((x7 + 1) < 0 ∨ L ≤ (Int32.toNatClampNeg (x7 + 1))) then (if gC S8 S.2 = some 11 then (bd2 (f_X11_passes S8 S.2 (xs (Int32.toNatClampNeg (x7 + 1)))) fun v140 S139 => if ¬ ((x7 + 1) < 0 ∨ L ≤ (Int32.toNatClampNeg (x7 + 1))) then (if gC S139 S3.2 = some 12 then (bd2 (f_X12_passes S139 S3.2 (xs (Int32.toNatClampNeg (x7 + 1)))) fun v145 S144 => if v140 = v145 then (kb18 (x7 + 6) S144) else (none)) else none) else none) else none) else none) else (if ((xs (Int32.toNatClampNeg x7)) &&& 31) = 8 then (if ¬ ((x7 + 1) < 0 ∨ L ≤ (Int32.toNatClampNeg (x7 + 1))) then (if ¬ ((x7 + 2) < 0 ∨ L ≤ (Int32.toNatClampNeg (x7 + 2))) then (if ¬ ((x7 + 3) < 0 ∨ L ≤ (Int32.toNatClampNeg (x7 + 3))) then (if gC S8 S.2 = some 11 then (bd2 (f_X11_chance S8 S.2 (xs (Int32.toNatClampNeg (x7 + 1))) (xs (Int32.toNatClampNeg (x7 + 2))) (xs (Int32.toNatClampNeg (x7 + 3)))) fun v153 S152 => if ¬ ((x7 + 1) < 0 ∨ L ≤ (Int32.toNatClampNeg (x7 + 1))) then (if ¬ ((x7 + 2) < 0 ∨ L ≤ (Int32.toNatClampNeg (x7 + 2))) then (if ¬ ((x7 + 3) < 0 ∨ L ≤ (Int32.toNatClampNeg (x7 + 3))) then (if gC S152 S3.2 = some 12 then (bd2 (f_X12_chance S152 S3.2 (xs (Int32.toNatClampNeg (x7 + 1))) (xs (Int32.toNatClampNeg (x7 + 2))) (xs (Int32.toNatClampNeg (x7 + 3)))) fun v160 S159 => if (lg_cmp v153 v160) = 0 then (kb18 (x7 + 6) S159) else (none)) else none) else none) else none) else none) else none) else none) else none) else none) else (if ((xs (Int32.toNatClampNeg x7)) &&& 31) = 9 then (if ¬ ((x7 + 1) < 0 ∨ L ≤ (Int32.toNatClampNeg (x7 + 1))) then (if ¬ ((x7 + 2) < 0 ∨ L ≤ (Int32.toNatClampNeg (x7 + 2))) then (if ¬ ((x7 + 3) < 0 ∨ L ≤ (Int32.toNatClampNeg (x7 + 3))) then (if ¬ ((x7 + 4) < 0 ∨ L ≤ (Int32.toNatClampNeg (x7 + 4))) then (if ¬ ((x7 + 5) < 0 ∨ L ≤ (Int32.toNatClampNeg (x7 + 5))) then (if gC S8 S.2 = some 11 then (bd2 (f_X11_odds S8 S.2 (xs (Int32.toNatClampNeg (x7 + 1))) (xs (Int32.toNatClampNeg (x7 + 2))) (xs (Int32.toNatClampNeg (x7 + 3))) (xs (Int32.toNatClampNeg (x7 + 4))) (xs (Int32.toNatClampNeg (x7 + 5)))) fun v170 S169 => if ¬ ((x7 + 1) < 0 ∨ L ≤ (Int32.toNatClampNeg (x7 + 1))) then (if ¬ ((x7 + 2) < 0 ∨ L ≤ (Int32.toNatClampNeg (x7 + 2))) then (if ¬ ((x7 + 3) < 0 ∨ L ≤ (Int32.toNatClampNeg (x7 + 3))) then (if ¬ ((x7 + 4) < 0 ∨ L ≤ (Int32.toNatClampNeg (x7 + 4))) then (if ¬ ((x7 + 5) < 0 ∨ L ≤ (Int32.toNatClampNeg (x7 + 5))) then (if gC S169 S3.2 = some 12 then (bd2 (f_X12_odds S169 S3.2 (xs (Int32.toNatClampNeg (x7 + 1))) (xs (Int32.toNatClampNeg (x7 + 2))) (xs (Int32.toNatClampNeg (x7 + 3))) (xs (Int32.toNatClampNeg (x7 + 4))) (xs (Int32.toNatClampNeg (x7 + 5)))) fun v179 S178 => if (lg_cmp v170 v179) = 0 then (kb18 (x7 + 6) S178) else (none)) else none) else none) else none) else none) else none) else none) else none) else none) else none) else none) else none) else none) else (if ((xs (Int32.toNatClampNeg x7)) &&& 31) = 10 then (if ¬ ((x7 + 1) < 0 ∨ L ≤ (Int32.toNatClampNeg (x7 + 1))) then (if ¬ ((x7 + 2) < 0 ∨ L ≤ (Int32.toNatClampNeg (x7 + 2))) then (if ¬ ((x7 + 3) < 0 ∨ L ≤ (Int32.toNatClampNeg (x7 + 3))) then (if ¬ ((x7 + 4) < 0 ∨ L ≤ (Int32.toNatClampNeg (x7 + 4))) then (if gC S8 S.2 = some 11 then (bd2 (f_X11_best S8 S.2 (xs (Int32.toNatClampNeg (x7 + 1))) (xs (Int32.toNatClampNeg (x7 + 2))) (xs (Int32.toNatClampNeg (x7 + 3))) (xs (Int32.toNatClampNeg (x7 + 4)))) fun v188 S187 => if ¬ ((x7 + 1) < 0 ∨ L ≤ (Int32.toNatClampNeg (x7 + 1))) then (if ¬ ((x7 + 2) < 0 ∨ L ≤ (Int32.toNatClampNeg (x7 + 2))) then (if ¬ ((x7 + 3) < 0 ∨ L ≤ (Int32.toNatClampNeg (x7 + 3))) then (if ¬ ((x7 + 4) < 0 ∨ L ≤ (Int32.toNatClampNeg (x7 + 4))) then (if gC S187 S3.2 = some 12 then (bd2 (f_X12_best S187 S3.2 (xs (Int32.toNatClampNeg (x7 + 1))) (xs (Int32.toNatClampNeg (x7 + 2))) (xs (Int32.toNatClampNeg (x7 + 3))) (xs (Int32.toNatClampNeg (x7 + 4)))) fun v196 S195 => if (lg_cmp v188 v196) = 0 then (kb18 (x7 + 6) S195) else (none)) else none) else none) else none) else none) else none) else none) else none) else none) else none) else none) else (if ((xs (Int32.toNatClampNeg x7)) &&& 31) = 11 then (if ¬ ((x7 + 1) < 0 ∨ L ≤ (Int32.toNatClampNeg (x7 + 1))) then (if ¬ ((x7 + 2) < 0 ∨ L ≤ (Int32.toNatClampNeg (x7 + 2))) then (if gC S8 S.2 = some 11 then (bd2 (f_X11_fixed S8 S.2 (xs (Int32.toNatClampNeg (x7 + 1))) (xs (Int32.toNatClampNeg (x7 + 2)))) fun v203 S202 => if ¬ ((x7 + 1) < 0 ∨ L ≤ (Int32.toNatClampNeg (x7 + 1))) then (if ¬ ((x7 + 2) < 0 ∨ L ≤ (Int32.toNatClampNeg (x7 + 2))) then (if gC S202 S3.2 = some 12 then (bd2 (f_X12_fixed S202 S3.2 (xs (Int32.toNatClampNeg (x7 + 1))) (xs (Int32.toNatClampNeg (x7 + 2)))) fun v209 S208 => if v203 = v209 then (kb18 (x7 + 6) S208) else (none)) else none) else none) else none) else none) else none) else none) else (if ((xs (Int32.toNatClampNeg x7)) &&& 31) = 12 then (if ¬ ((x7 + 1) < 0 ∨ L ≤ (Int32.toNatClampNeg (x7 + 1))) then (if gC S8 S.2 = some 11 then (bd2 (f_X11_beats S8 S.2 (xs (Int32.toNatClampNeg (x7 + 1)))) fun v215 S214 => if ¬ ((x7 + 1) < 0 ∨ L ≤ (Int32.toNatClampNeg (x7 + 1))) then (if gC S214 S3.2 = some 12 then (bd2 (f_X12_beats S214 S3.2 (xs (Int32.toNatClampNeg (x7 + 1)))) fun v220 S219 => if v215 = v220 then (kb18 (x7 + 6) S219) else (none)) else none) else none) else none) else none) else (if ((xs (Int32.toNatClampNeg x7)) &&& 31) = 13 then (if ¬ ((x7 + 1) < 0 ∨ L ≤ (Int32.toNatClampNeg (x7 + 1))) then (if gC S8 S.2 = some 11 then (bd2 (f_X11_otherwise S8 S.2 (xs (Int32.toNatClampNeg (x7 + 1)))) fun v226 S225 => if ¬ ((x7 + 1) < 0 ∨ L ≤ (Int32.toNatClampNeg (x7 + 1))) then (if gC S225 S3.2 = some 12 then (bd2 (f_X12_otherwise S225 S3.2 (xs (Int32.toNatClampNeg (x7 + 1)))) fun v231 S230 => if v226 = v231 then (kb18 (x7 + 6) S230) else (none)) else none) else none) else none) else none) else (if ((xs (Int32.toNatClampNeg x7)) &&& 31) = 14 then (if ¬ ((x7 + 1) < 0 ∨ L ≤ (Int32.toNatClampNeg (x7 + 1))) then (if ¬ ((x7 + 2) < 0 ∨ L ≤ (Int32.toNatClampNeg (x7 + 2))) then (if gC S8 S.2 = some 11 then (bd2 (f_X11_afterwards S8 S.2 (xs (Int32.toNatClampNeg (x7 + 1))) (xs (Int32.toNatClampNeg (x7 + 2)))) fun v238 S237 => if ¬ ((x7 + 1) < 0 ∨ L ≤ (Int32.toNatClampNeg (x7 + 1))) then (if ¬ ((x7 + 2) < 0 ∨ L ≤ (Int32.toNatClampNeg (x7 + 2))) then (if gC S237 S3.2 = some 12 then (bd2 (f_X12_afterwards S237 S3.2 (xs (Int32.toNatClampNeg (x7 + 1))) (xs (Int32.toNatClampNeg (x7 + 2)))) fun v244 S243 => if v238 = v244 then (kb18 (x7 + 6) S243) else (none)) else none) else none) else none) else none) else none) else none) else (if ((xs (Int32.toNatClampNeg x7)) &&& 31) = 15 then (if gC S8 S.2 = some 11 then (bd2 (f_X11_law ρ S8 S.2) fun v249 S248 => if gC S248 S3.2 = some 12 then (bd2 (f_X12_law ρ S248 S3.2) fun v253 S252 => if v249 = v253 then (kb18 (x7 + 6) S252) else (none)) else none) else none) else (if ((xs (Int32.toNatClampNeg x7)) &&& 31) = 16 then (if ¬ ((x7 + 1) < 0 ∨ L ≤ (Int32.toNatClampNeg (x7 + 1))) then (if ¬ ((x7 + 2) < 0 ∨ L ≤ (Int32.toNatClampNeg (x7 + 2))) then (if gC S8 S.2 = some 11 then (bd2 (f_X11_says S8 S.2 (xs (Int32.toNatClampNeg (x7 + 1))) (xs (Int32.toNatClampNeg (x7 + 2)))) fun v260 S259 => if ¬ ((x7 + 1) < 0 ∨ L ≤ (Int32.toNatClampNeg (x7 + 1))) then (if ¬ ((x7 + 2) < 0 ∨ L ≤ (Int32.toNatClampNeg (x7 + 2))) then (if gC S259 S3.2 = some 12 then (bd2 (f_X12_says S259 S3.2 (xs (Int32.toNatClampNeg (x7 + 1))) (xs (Int32.toNatClampNeg (x7 + 2)))) fun v266 S265 => if v260 = v266 then (kb18 (x7 + 6) S265) else (none)) else none) else none) else none) else none) else none) else none) else (if ((xs (Int32.toNatClampNeg x7)) &&& 31) = 17 then (if ¬ ((x7 + 1) < 0 ∨ L ≤ (Int32.toNatClampNeg (x7 + 1))) then (if gC S8 S.2 = some 11 then (bd2 (f_X11_cannot S8 S.2 (xs (Int32.toNatClampNeg (x7 + 1)))) fun v272 S271 => if ¬ ((x7 + 1) < 0 ∨ L ≤ (Int32.toNatClampNeg (x7 + 1))) then (if gC S271 S3.2 = some 12 then (bd2 (f_X12_cannot S271 S3.2 (xs (Int32.toNatClampNeg (x7 + 1)))) fun v277 S276 => if v272 = v277 then (kb18 (x7 + 6) S276) else (none)) else none) else none) else none) else none) else (if ((xs (Int32.toNatClampNeg x7)) &&& 31) = 18 then (if ¬ ((x7 + 1) < 0 ∨ L ≤ (Int32.toNatClampNeg (x7 + 1))) then (if ¬ ((x7 + 2) < 0 ∨ L ≤ (Int32.toNatClampNeg (x7 + 2))) then (if gC S8 S.2 = some 11 then (bd2 (f_X11_fits S8 S.2 (xs (Int32.toNatClampNeg (x7 + 1))) (xs (Int32.toNatClampNeg (x7 + 2)))) fun v284 S283 => if ¬ ((x7 + 1) < 0 ∨ L ≤ (Int32.toNatClampNeg (x7 + 1))) then (if ¬ ((x7 + 2) < 0 ∨ L ≤ (Int32.toNatClampNeg (x7 + 2))) then (if gC S283 S3.2 = some 12 then (bd2 (f_X12_fits S283 S3.2 (xs (Int32.toNatClampNeg (x7 + 1))) (xs (Int32.toNatClampNeg (x7 + 2)))) fun v290 S289 => if v284 = v290 then (kb18 (x7 + 6) S289) else (none)) else none) else none) else none) else none) else none) else none) else (if ((xs (Int32.toNatClampNeg x7)) &&& 31) = 19 then (if ¬ ((x7 + 1) < 0 ∨ L ≤ (Int32.toNatClampNeg (x7 + 1))) then (if gC S8 S.2 = some 11 then (bd2 (f_X11_let S8 S.2 (xs (Int32.toNatClampNeg (x7 + 1)))) fun v296 S295 => if ¬ ((x7 + 1) < 0 ∨ L ≤ (Int32.toNatClampNeg (x7 + 1))) then (if gC S295 S3.2 = some 12 then (bd2 (f_X12_let S295 S3.2 (xs (Int32.toNatClampNeg (x7 + 1)))) fun v301 S300 => if v296 = v301 then (kb18 (x7 + 6) S300) else (none)) else none) else none) else none) else none) else (if ((xs (Int32.toNatClampNeg x7)) &&& 31) = 20 then (if ¬ ((x7 + 1) < 0 ∨ L ≤ (Int32.toNatClampNeg (x7 + 1))) then (if ¬ ((x7 + 2) < 0 ∨ L ≤ (Int32.toNatClampNeg (x7 + 2))) then (if ¬ ((x7 + 3) < 0 ∨ L ≤ (Int32.toNatClampNeg (x7 + 3))) then (if ¬ ((x7 + 4) < 0 ∨ L ≤ (Int32.toNatClampNeg (x7 + 4))) then (if ¬ ((x7 + 5) < 0 ∨ L ≤ (Int32.toNatClampNeg (x7 + 5))) then (if gC S8 S.2 = some 11 then (bd2 (f_X11_fair S8 S.2 (xs (Int32.toNatClampNeg (x7 + 1))) (xs (Int32.toNatClampNeg (x7 + 2))) (xs (Int32.toNatClampNeg (x7 + 3))) (xs (Int32.toNatClampNeg (x7 + 4))) (xs (Int32.toNatClampNeg (x7 + 5)))) fun v311 S310 => if ¬ ((x7 + 1) < 0 ∨ L ≤ (Int32.toNatClampNeg (x7 + 1))) then (if ¬ ((x7 + 2) < 0 ∨ L ≤ (Int32.toNatClampNeg (x7 + 2))) then (if ¬ ((x7 + 3) < 0 ∨ L ≤ (Int32.toNatClampNeg (x7 + 3))) then (if ¬ ((x7 + 4) < 0 ∨ L ≤ (Int32.toNatClampNeg (x7 + 4))) then (if ¬ ((x7 + 5) < 0 ∨ L ≤ (Int32.toNatClampNeg (x7 + 5))) then (if gC S310 S3.2 = some 12 then (bd2 (f_X12_fair S310 S3.2 (xs (Int32.toNatClampNeg (x7 + 1))) (xs (Int32.toNatClampNeg (x7 + 2))) (xs (Int32.toNatClampNeg (x7 + 3))) (xs (Int32.toNatClampNeg (x7 + 4))) (xs (Int32.toNatClampNeg (x7 + 5)))) fun v320 S319 => if v311 = v320 then (kb18 (x7 + 6) S319) else (none)) else none) else none) else none) else none) else none) else none) else none) else none) else none) else none) else none) else none) else (if ((xs (Int32.toNatClampNeg x7)) &&& 31) = 21 then (if ¬ ((x7 + 1) < 0 ∨ L ≤ (Int32.toNatClampNeg (x7 + 1))) then (if ¬ ((x7 + 2) < 0 ∨ L ≤ (Int32.toNatClampNeg (x7 + 2))) then (if ¬ ((x7 + 3) < 0 ∨ L ≤ (Int32.toNatClampNeg (x7 + 3))) then (if ¬ ((x7 + 4) < 0 ∨ L ≤ (Int32.toNatClampNeg (x7 + 4))) then (if gC S8 S.2 = some 11 then (bd2 (f_X11_excuses S8 S.2 (xs (Int32.toNatClampNeg (x7 + 1))) (xs (Int32.toNatClampNeg (x7 + 2))) (xs (Int32.toNatClampNeg (x7 + 3))) (xs (Int32.toNatClampNeg (x7 + 4)))) fun v329 S328 => if ¬ ((x7 + 1) < 0 ∨ L ≤ (Int32.toNatClampNeg (x7 + 1))) then (if ¬ ((x7 + 2) < 0 ∨ L ≤ (Int32.toNatClampNeg (x7 + 2))) then (if ¬ ((x7 + 3) < 0 ∨ L ≤ (Int32.toNatClampNeg (x7 + 3))) then (if ¬ ((x7 + 4) < 0 ∨ L ≤ (Int32.toNatClampNeg (x7 + 4))) then (if gC S328 S3.2 = some 12 then (bd2 (f_X12_excuses S328 S3.2 (xs (Int32.toNatClampNeg (x7 + 1))) (xs (Int32.toNatClampNeg (x7 + 2))) (xs (Int32.toNatClampNeg (x7 + 3))) (xs (Int32.toNatClampNeg (x7 + 4)))) fun v337 S336 => if v329 = v337 then (kb18 (x7 + 6) S336) else (none)) else none) else none) else none) else none) else none) else none) else none) else none) else none) else none) else (if ((xs (Int32.toNatClampNeg x7)) &&& 31) = 22 then (if ¬ ((x7 + 1) < 0 ∨ L ≤ (Int32.toNatClampNeg (x7 + 1))) then (if ¬ ((x7 + 2) < 0 ∨ L ≤ (Int32.toNatClampNeg (x7 + 2))) then (if ¬ ((x7 + 3) < 0 ∨ L ≤ (Int32.toNatClampNeg (x7 + 3))) then (if gC S8 S.2 = some 11 then (bd2 (f_X11_field S8 S.2 (xs (Int32.toNatClampNeg (x7 + 1))) (xs (Int32.toNatClampNeg (x7 + 2))) (xs (Int32.toNatClampNeg (x7 + 3)))) fun v345 S344 => if ¬ ((x7 + 1) < 0 ∨ L ≤ (Int32.toNatClampNeg (x7 + 1))) then (if ¬ ((x7 + 2) < 0 ∨ L ≤ (Int32.toNatClampNeg (x7 + 2))) then (if ¬ ((x7 + 3) < 0 ∨ L ≤ (Int32.toNatClampNeg (x7 + 3))) then (if gC S344 S3.2 = some 12 then (bd2 (f_X12_field S344 S3.2 (xs (Int32.toNatClampNeg (x7 + 1))) (xs (Int32.toNatClampNeg (x7 + 2))) (xs (Int32.toNatClampNeg (x7 + 3)))) fun v352 S351 => if (lg_cmp v345 v352) = 0 then (kb18 (x7 + 6) S351) else (none)) else none) else none) else none) else none) else none) else none) else none) else none) else (if ((xs (Int32.toNatClampNeg x7)) &&& 31) = 23 then (if ¬ ((x7 + 1) < 0 ∨ L ≤ (Int32.toNatClampNeg (x7 + 1))) then (if ¬ ((x7 + 2) < 0 ∨ L ≤ (Int32.toNatClampNeg (x7 + 2))) then (if gC S8 S.2 = some 11 then (bd2 (f_X11_holes S8 S.2 (xs (Int32.toNatClampNeg (x7 + 1))) (xs (Int32.toNatClampNeg (x7 + 2)))) fun v359 S358 => if ¬ ((x7 + 1) < 0 ∨ L ≤ (Int32.toNatClampNeg (x7 + 1))) then (if ¬ ((x7 + 2) < 0 ∨ L ≤ (Int32.toNatClampNeg (x7 + 2))) then (if gC S358 S3.2 = some 12 then (bd2 (f_X12_holes S358 S3.2 (xs (Int32.toNatClampNeg (x7 + 1))) (xs (Int32.toNatClampNeg (x7 + 2)))) fun v365 S364 => if v359 = v365 then (kb18 (x7 + 6) S364) else (none)) else none) else none) else none) else none) else none) else none) else (if ((xs (Int32.toNatClampNeg x7)) &&& 31) = 24 then (if ¬ ((x7 + 1) < 0 ∨ L ≤ (Int32.toNatClampNeg (x7 + 1))) then (if ¬ ((x7 + 2) < 0 ∨ L ≤ (Int32.toNatClampNeg (x7 + 2))) then (if ¬ ((x7 + 3) < 0 ∨ L ≤ (Int32.toNatClampNeg (x7 + 3))) then (if gC S8 S.2 = some 11 then (bd2 (f_X11_rod S8 S.2 (xs (Int32.toNatClampNeg (x7 + 1))) (xs (Int32.toNatClampNeg (x7 + 2))) (xs (Int32.toNatClampNeg (x7 + 3)))) fun v373 S372 => if ¬ ((x7 + 1) < 0 ∨ L ≤ (Int32.toNatClampNeg (x7 + 1))) then (if ¬ ((x7 + 2) < 0 ∨ L ≤ (Int32.toNatClampNeg (x7 + 2))) then (if ¬ ((x7 + 3) < 0 ∨ L ≤ (Int32.toNatClampNeg (x7 + 3))) then (if gC S372 S3.2 = some 12 then (bd2 (f_X12_rod S372 S3.2 (xs (Int32.toNatClampNeg (x7 + 1))) (xs (Int32.toNatClampNeg (x7 + 2))) (xs (Int32.toNatClampNeg (x7 + 3)))) fun v380 S379 => if v373 = v380 then (kb18 (x7 + 6) S379) else (none)) else none) else none) else none) else none) else none) else none) else none) else none) else (if ((xs (Int32.toNatClampNeg x7)) &&& 31) = 25 then (if ¬ ((x7 + 1) < 0 ∨ L ≤ (Int32.toNatClampNeg (x7 + 1))) then (if ¬ ((x7 + 2) < 0 ∨ L ≤ (Int32.toNatClampNeg (x7 + 2))) then (if ¬ ((x7 + 3) < 0 ∨ L ≤ (Int32.toNatClampNeg (x7 + 3))) then (if gC S8 S.2 = some 11 then (bd2 (f_X11_papers S8 S.2 (xs (Int32.toNatClampNeg (x7 + 1))) (xs (Int32.toNatClampNeg (x7 + 2))) (xs (Int32.toNatClampNeg (x7 + 3)))) fun v388 S387 => if ¬ ((x7 + 1) < 0 ∨ L ≤ (Int32.toNatClampNeg (x7 + 1))) then (if ¬ ((x7 + 2) < 0 ∨ L ≤ (Int32.toNatClampNeg (x7 + 2))) then (if ¬ ((x7 + 3) < 0 ∨ L ≤ (Int32.toNatClampNeg (x7 + 3))) then (if gC S387 S3.2 = some 12 then (bd2 (f_X12_papers S387 S3.2 (xs (Int32.toNatClampNeg (x7 + 1))) (xs (Int32.toNatClampNeg (x7 + 2))) (xs (Int32.toNatClampNeg (x7 + 3)))) fun v395 S394 => if v388 = v395 then (kb18 (x7 + 6) S394) else (none)) else none) else none) else none) else none) else none) else none) else none) else none) else (if ((xs (Int32.toNatClampNeg x7)) &&& 31) = 26 then (if ¬ ((x7 + 1) < 0 ∨ L ≤ (Int32.toNatClampNeg (x7 + 1))) then (if ¬ ((x7 + 2) < 0 ∨ L ≤ (Int32.toNatClampNeg (x7 + 2))) then (if ¬ ((x7 + 3) < 0 ∨ L ≤ (Int32.toNatClampNeg (x7 + 3))) then (if gC S8 S.2 = some 11 then (bd2 (f_X11_act S8 S.2 (xs (Int32.toNatClampNeg (x7 + 1))) (xs (Int32.toNatClampNeg (x7 + 2))) (xs (Int32.toNatClampNeg (x7 + 3)))) fun v403 S402 => if ¬ ((x7 + 1) < 0 ∨ L ≤ (Int32.toNatClampNeg (x7 + 1))) then (if ¬ ((x7 + 2) < 0 ∨ L ≤ (Int32.toNatClampNeg (x7 + 2))) then (if ¬ ((x7 + 3) < 0 ∨ L ≤ (Int32.toNatClampNeg (x7 + 3))) then (if gC S402 S3.2 = some 12 then (bd2 (f_X12_act S402 S3.2 (xs (Int32.toNatClampNeg (x7 + 1))) (xs (Int32.toNatClampNeg (x7 + 2))) (xs (Int32.toNatClampNeg (x7 + 3)))) fun v410 S409 => if v403 = v410 then (kb18 (x7 + 6) S409) else (none)) else none) else none) else none) else none) else none) else none) else none) else none) else (if ((xs (Int32.toNatClampNeg x7)) &&& 31) = 27 then (if ¬ ((x7 + 1) < 0 ∨ L ≤ (Int32.toNatClampNeg (x7 + 1))) then (if gC S8 S.2 = some 11 then (bd2 (f_X11_trace S8 S.2 (xs (Int32.toNatClampNeg (x7 + 1)))) fun v416 S415 => if ¬ ((x7 + 1) < 0 ∨ L ≤ (Int32.toNatClampNeg (x7 + 1))) then (if gC S415 S3.2 = some 12 then (bd2 (f_X12_trace S415 S3.2 (xs (Int32.toNatClampNeg (x7 + 1)))) fun v421 S420 => if v416 = v421 then (kb18 (x7 + 6) S420) else (none)) else none) else none) else none) else none) else (if ((xs (Int32.toNatClampNeg x7)) &&& 31) = 28 then (if ¬ ((x7 + 1) < 0 ∨ L ≤ (Int32.toNatClampNeg (x7 + 1))) then (if ¬ ((x7 + 2) < 0 ∨ L ≤ (Int32.toNatClampNeg (x7 + 2))) then (if gC S8 S.2 = some 11 then (bd2 (f_X11_as ρ S8 S.2 (xs (Int32.toNatClampNeg (x7 + 1))) (xs (Int32.toNatClampNeg (x7 + 2)))) fun v428 S427 => if ¬ ((x7 + 1) < 0 ∨ L ≤ (Int32.toNatClampNeg (x7 + 1))) then (if ¬ ((x7 + 2) < 0 ∨ L ≤ (Int32.toNatClampNeg (x7 + 2))) then (if gC S427 S3.2 = some 12 then (bd2 (f_X12_as S427 S3.2 (xs (Int32.toNatClampNeg (x7 + 1))) (xs (Int32.toNatClampNeg (x7 + 2)))) fun v434 S433 => if v428 = v434 then (kb18 (x7 + 6) S433) else (none)) else none) else none) else none) else none) else none) else none) else (if ((xs (Int32.toNatClampNeg x7)) &&& 31) = 29 then (if gC S8 S.2 = some 11 then (bd2 (f_X11_image S8 S.2) fun v439 S438 => if gC S438 S3.2 = some 12 then (bd2 (f_X12_image S438 S3.2) fun v443 S442 => if v439 = v443 then (kb18 (x7 + 6) S442) else (none)) else none) else none) else (if ((xs (Int32.toNatClampNeg x7)) &&& 31) = 30 then (if gC S8 S.2 = some 11 then (bd2 (f_X11_undo S8 S.2) fun v448 S447 => if gC S447 S3.2 = some 12 then (bd2 (f_X12_undo S447 S3.2) fun v452 S451 => if v448 = v452 then (kb18 (x7 + 6) S451) else (none)) else none) else none) else (if ((xs (Int32.toNatClampNeg x7)) &&& 31) = 31 then (if ¬ ((x7 + 1) < 0 ∨ L ≤ (Int32.toNatClampNeg (x7 + 1))) then (if gC S8 S.2 = some 11 then (bd2 (f_X11_count S8 S.2 (xs (Int32.toNatClampNeg (x7 + 1)))) fun v458 S457 => if ¬ ((x7 + 1) < 0 ∨ L ≤ (Int32.toNatClampNeg (x7 + 1))) then (if gC S457 S3.2 = some 12 then (bd2 (f_X12_count S457 S3.2 (xs (Int32.toNatClampNeg (x7 + 1)))) fun v463 S462 => if v458 = v463 then (kb18 (x7 + 6) S462) else (none)) else none) else none) else none) else none) else (kb18 (x7 + 6) S8))))))))))))))))))))))))))))))))) else none)
def f_L_law_L18 (ρ : Nat → Nat) (L : Nat) (S : HSt) (S3 : HSt) (xs : Nat → Int32) : Nat → Int32 → HSt → Option (HSt)
  | 0, _, _ => none
  | n + 1, x7, Sx => f_L_law_B18 ρ L S S3 xs (f_L_law_L18 ρ L S S3 xs n) x7 Sx
def f_L_law (ρ : Nat → Nat) (xs : Nat → Int32) (L : Nat) (S : HSt) : Option (HSt) := hqn (hNew S (.inr (11, [.int 0, .null, .int 0, .null, .null, .int 0, .null, .int 0, .null, .null, .null, .int 0, .int 0, .int 0, .int 0, .int 0, .null, .null]))) fun (S1 : HSt) => (f_X11_init ρ S1 S.2).bind fun S3 => hqn (hNew S3 (.inr (12, [.int 0, .null, .null, .int 0, .int 0, .int 0, .int 0, .int 0, .int 0, .null, .null, .null, .int 0, .null, .long 0, .null, .int 0, .int 0, .int 0, .int 0]))) fun (S4 : HSt) => (f_X12_init S4 S3.2).bind fun S6 => (f_L_law_L18 ρ L S S3 xs 65) 0 S6
set_option maxHeartbeats 8000000 in
set_option maxRecDepth 100000 in
theorem law_walk {p : Program} {l : Launch} {e : Env} {s : State} {m : MethodId} {below : List Frame} {meth : Method} {c : Code} {D : va_G} {kA ρ : Nat → Nat} {HB : Heap} {S res : HSt} {b L : Nat} {xs : Nat → Int32} (C0 : lw_At p s m meth c b L xs) (hE : hqE D kA ρ HB s) (h0 : hqH D kA HB S s.heap) (hHB : HB.size = s.heap.size) (h : f_L_law ρ xs L S = some res) : W p l e room_1 s m #[Value.ref b] below meth c s.heap [] 0 0 (lw_Z below #[Value.ref b] s) (entryFrame m ([Value.ref b] : List Value).toArray 4) := by
  obtain ⟨hx, hb, hr, hml, hown, hts0, hX, hbl, hlocks, hgv⟩ := id C0
  have hbA : ¬ hFree HB b := by
    show ¬ HB.size ≤ b
    omega
  have hts : ∀ w ∈ lwG, w.before #[Value.ref b] s = true := fun w hw => hts0 w (lwG_tbl hw)
  have hI : hqX D kA HB S.2 S s.heap [] := ⟨h0, Nat.le_refl _, fun _ q => absurd q List.not_mem_nil⟩
  have hl := lv_entry ([.ref b]) (n := 4) (Nat.le_of_ble_eq_true rfl)
  rw [lg_entry_eq]
  generalize (lg_sl ([.ref b]) ++ List.replicate (4 - (lg_sl ([.ref b])).length) Slot.unset).toArray = ls at hl ⊢
  have hl : lv_has ls 4 [(0, .ref b)] := hl
  unfold f_L_law at h
  refine hq_new (ci := 11) hx hb hts hown hE hI inG11 tyX11 tyX11_ok kw_23 kw_24 kw_1 rfl [.int 0, .null, .int 0, .null, .null, .int 0, .null, .int 0, .null, .null, .null, .int 0, .int 0, .int 0, .int 0, .int 0, .null, .null] (hfs_11) (Nat.le_of_ble_eq_true rfl) (Nat.le_of_ble_eq_true rfl) dL_law_0 (fun H hI => ?_)
  obtain ⟨S1, e_S1⟩ : ∃ z, z = hNew S (.inr (11, [.int 0, .null, .int 0, .null, .null, .int 0, .null, .int 0, .null, .null, .null, .int 0, .int 0, .int 0, .int 0, .int 0, .null, .null])) := ⟨_, rfl⟩
  rw [← e_S1] at hI
  have h := hq_nm h e_S1
  refine lv_dup hx hb dL_law_3 rfl ?_
  obtain ⟨S3, g2, h⟩ := hq_bind h
  refine hq_callv hI (va_runI (As := []) (rest := [.ref S.2]) ⟨hx, hb, hml, hown, hts⟩ (c_X11_init l D kA ρ HB S1 S.2 _ g2) (cwI 0 hts (gdIn (hd := []) (fun _ h => absurd h List.not_mem_nil) kw_27) rfl rfl rfl (hts _ kw_1) (hts _ kw_25) (hts _ kw_26) rfl yd_X11_init ⟨Nat.le_of_ble_eq_true rfl, Nat.le_of_ble_eq_true rfl⟩) (hq_preS hE hI _) rfl rfl hl.1 rfl (lv_room (Nat.le_of_ble_eq_true rfl)) dL_law_4 ⟨Nat.le_of_ble_eq_true rfl, Nat.le_of_ble_eq_true rfl⟩) (fun H locs hI => ?_)
  refine lv_astore_n (lv' := [(1, .ref S.2), (0, .ref b)]) hx hb dL_law_7 rfl hl (by decide) rfl (fun ls hl => ?_)
  refine hq_new (ci := 12) hx hb hts hown hE hI inG12 tyX12 tyX12_ok kw_939 kw_940 kw_6 rfl [.int 0, .null, .null, .int 0, .int 0, .int 0, .int 0, .int 0, .int 0, .null, .null, .null, .int 0, .null, .long 0, .null, .int 0, .int 0, .int 0, .int 0] (hfs_12) (Nat.le_of_ble_eq_true rfl) (Nat.le_of_ble_eq_true rfl) dL_law_8 (fun H hI => ?_)
  obtain ⟨S4, e_S4⟩ : ∃ z, z = hNew S3 (.inr (12, [.int 0, .null, .null, .int 0, .int 0, .int 0, .int 0, .int 0, .int 0, .null, .null, .null, .int 0, .null, .long 0, .null, .int 0, .int 0, .int 0, .int 0])) := ⟨_, rfl⟩
  rw [← e_S4] at hI
  have h := hq_nm h e_S4
  refine lv_dup hx hb dL_law_11 rfl ?_
  obtain ⟨S6, g5, h⟩ := hq_bind h
  refine hq_callv hI (va_runI (As := []) (rest := [.ref S3.2]) ⟨hx, hb, hml, hown, hts⟩ (c_X12_init l D kA ρ HB S4 S3.2 _ g5) (cwI 0 hts (gdIn (hd := []) (fun _ h => absurd h List.not_mem_nil) kw_943) rfl rfl rfl (hts _ kw_6) (hts _ kw_941) (hts _ kw_942) rfl yd_X12_init ⟨Nat.le_of_ble_eq_true rfl, Nat.le_of_ble_eq_true rfl⟩) (hq_preS hE hI _) rfl rfl hl.1 rfl (lv_room (Nat.le_of_ble_eq_true rfl)) dL_law_12 ⟨Nat.le_of_ble_eq_true rfl, Nat.le_of_ble_eq_true rfl⟩) (fun H locs hI => ?_)
  refine lv_astore_n (lv' := [(2, .ref S3.2), (1, .ref S.2), (0, .ref b)]) hx hb dL_law_15 rfl hl (by decide) rfl (fun ls hl => ?_)
  refine lv_iconst (v := 0) hx hb dL_law_16 (by decide) ?_
  refine lv_istore_n (lv' := [(3, .int 0), (2, .ref S3.2), (1, .ref S.2), (0, .ref b)]) hx hb dL_law_17 rfl hl (by decide) rfl (fun ls hl => ?_)
  have hL18 : ∀ (n18 : Nat) (x7 : Int32) (S8 : HSt) (H : Heap) (locs : List Loc) (ls : Array Slot) (cells slots : Nat), (f_L_law_L18 ρ L S S3 xs n18) x7 S8 = some res → hqX D kA HB S.2 S8 H locs → cells + 8 * n18 ≤ 599000 → slots + 64 * n18 ≤ 7300000 → lv_has ls 4 [(0, .ref b), (1, .ref S.2), (2, .ref S3.2), (3, .int x7)] → W p l e room_1 s m #[Value.ref b] below meth c H locs cells slots (lw_Z below #[Value.ref b] s) (F0 m 18 ls []) := by
    intro n18
    induction n18 with
    | zero =>
      intro x7 S8 H locs ls cells slots h
      have h : (none : Option (HSt)) = some res := h
      cases h
    | succ n18 ih18 =>
      intro x7 S8 H locs ls cells slots h hI hcA hcB hl
      have h : f_L_law_B18 ρ L S S3 xs (f_L_law_L18 ρ L S S3 xs n18) x7 S8 = some res := h
      unfold f_L_law_B18 at h
      refine lv_iload_n hx hb dL_law_18 rfl (lv_at hl 3 rfl) ?_
      refine lv_aload_n hx hb dL_law_19 rfl (lv_at hl 0 rfl) ?_
      refine va_slen hx hb hX hbl hbA (hI.S h0) dL_law_20 ?_
      refine lv_bipush (v := 6) hx hb dL_law_21 (by decide) ?_
      refine lv_isub hx hb dL_law_23 ?_
      refine lv_icmp_gt (tgt := 1292) hx hb dL_law_24 (by decide) (fun c9 => ?_) (fun c9 => ?_)
      · have h := hq_t h c9
        refine lv_iconst (v := 1) hx hb dL_law_1292 (by decide) ?_
        refine va_forget (fun q hq => by rw [← hHB]; exact hI.2.2 q hq) ?_
        refine W.widen (k := 600000) (n := 7302250) (by omega) (by omega) ?_
        exact lw_ret hx hb hr hlocks dL_law_1293
      · have h := hq_f h c9
        refine lv_aload_n hx hb dL_law_27 rfl (lv_at hl 0 rfl) ?_
        refine lv_iload_n hx hb dL_law_28 rfl (lv_at hl 3 rfl) ?_
        obtain ⟨c10, h⟩ := hq_g h
        refine va_sld hx hb hX hbl hbA (hI.S h0) c10 dL_law_29 ?_
        refine lv_bipush (v := 31) hx hb dL_law_30 (by decide) ?_
        refine lv_iand hx hb dL_law_32 ?_
        by_cases c11 : ((xs (Int32.toNatClampNeg x7)) &&& 31) = 0
        · have h := hq_t h c11
          refine lv_tableIn (tgt := 176) hx hb dL_law_33 (by rw [c11]; decide) (by rw [c11]; decide) (by rw [c11]; rfl) (by decide) ?_
          refine lv_aload_n hx hb dL_law_176 rfl (lv_at hl 1 rfl) ?_
          refine lv_aload_n hx hb dL_law_177 rfl (lv_at hl 0 rfl) ?_
          refine lv_iload_n hx hb dL_law_178 rfl (lv_at hl 3 rfl) ?_
          refine lv_iconst (v := 1) hx hb dL_law_179 (by decide) ?_
          refine lv_iadd hx hb dL_law_180 ?_
          obtain ⟨c43, h⟩ := hq_g h
          refine va_sld hx hb hX hbl hbA (hI.S h0) c43 dL_law_181 ?_
          obtain ⟨g45, h⟩ := hq_g h
          obtain ⟨v47, S46, g44, h⟩ := hq_bd2 h
          refine hq_calli hI (va_runV (As := [.int (xs (Int32.toNatClampNeg (x7 + 1)))]) (rest := []) ⟨hx, hb, hml, hown, hts⟩ (c_X11_barn l D kA ρ HB S8 S.2 (xs (Int32.toNatClampNeg (x7 + 1))) _ g44) (cwV 1 hts (gdIn (List.forall_mem_cons.mpr ⟨kw_187, (List.forall_mem_cons.mpr ⟨kw_188, (List.forall_mem_cons.mpr ⟨kw_189, (List.forall_mem_cons.mpr ⟨kw_1, (fun _ h => absurd h List.not_mem_nil)⟩)⟩)⟩)⟩) kw_190) rfl rfl rfl ye_X11_barn ⟨Nat.le_of_ble_eq_true rfl, Nat.le_of_ble_eq_true rfl⟩) (hq_preC hE hI g45 rfl _) rfl rfl hl.1 rfl (lv_room (Nat.le_of_ble_eq_true rfl)) dL_law_182 ⟨by show (_ : Nat) ≤ 600000; omega, by show (_ : Nat) ≤ 7302250; omega⟩) (fun H locs hI => ?_)
          refine lv_aload_n hx hb dL_law_185 rfl (lv_at hl 2 rfl) ?_
          refine lv_aload_n hx hb dL_law_186 rfl (lv_at hl 0 rfl) ?_
          refine lv_iload_n hx hb dL_law_187 rfl (lv_at hl 3 rfl) ?_
          refine lv_iconst (v := 1) hx hb dL_law_188 (by decide) ?_
          refine lv_iadd hx hb dL_law_189 ?_
          obtain ⟨c48, h⟩ := hq_g h
          refine va_sld hx hb hX hbl hbA (hI.S h0) c48 dL_law_190 ?_
          obtain ⟨g50, h⟩ := hq_g h
          obtain ⟨v52, S51, g49, h⟩ := hq_bd2 h
          refine hq_calli hI (va_runV (As := [.int (xs (Int32.toNatClampNeg (x7 + 1)))]) (rest := [.int v47]) ⟨hx, hb, hml, hown, hts⟩ (c_X12_barn l D kA ρ HB S46 S3.2 (xs (Int32.toNatClampNeg (x7 + 1))) _ g49) (cwV 1 hts (gdIn (List.forall_mem_cons.mpr ⟨kw_1006, (List.forall_mem_cons.mpr ⟨kw_1007, (List.forall_mem_cons.mpr ⟨kw_1008, (List.forall_mem_cons.mpr ⟨kw_6, (fun _ h => absurd h List.not_mem_nil)⟩)⟩)⟩)⟩) kw_1009) rfl rfl rfl ye_X12_barn ⟨Nat.le_of_ble_eq_true rfl, Nat.le_of_ble_eq_true rfl⟩) (hq_preC hE hI g50 rfl _) rfl rfl hl.1 rfl (lv_room (Nat.le_of_ble_eq_true rfl)) dL_law_191 ⟨by show (_ : Nat) ≤ 600000; omega, by show (_ : Nat) ≤ 7302250; omega⟩) (fun H locs hI => ?_)
          refine lv_icmp_eq (tgt := 1286) hx hb dL_law_194 (by decide) (fun c53 => ?_) (fun c53 => ?_)
          · have h := hq_t h c53
            refine lv_iinc (v := (x7 + 6)) (lv' := [(3, .int (x7 + 6)), (0, .ref b), (1, .ref S.2), (2, .ref S3.2)]) hx hb dL_law_1286 hl (k := 3) rfl rfl (by decide) rfl (fun ls hl => ?_)
            refine lv_goto (tgt := 18) hx hb dL_law_1289 (by decide) ?_
            exact ih18 (x7 + 6) S51 _ _ _ _ _ h hI (by omega) (by omega) (lv_sub hl [1, 2, 3, 0] rfl)
          · have h := hq_f h c53
            refine lv_iconst (v := 0) hx hb dL_law_197 (by decide) ?_
            cases h
        have h := hq_f h c11
        by_cases c12 : ((xs (Int32.toNatClampNeg x7)) &&& 31) = 1
        · have h := hq_t h c12
          refine lv_tableIn (tgt := 199) hx hb dL_law_33 (by rw [c12]; decide) (by rw [c12]; decide) (by rw [c12]; rfl) (by decide) ?_
          refine lv_aload_n hx hb dL_law_199 rfl (lv_at hl 1 rfl) ?_
          refine lv_aload_n hx hb dL_law_200 rfl (lv_at hl 0 rfl) ?_
          refine lv_iload_n hx hb dL_law_201 rfl (lv_at hl 3 rfl) ?_
          refine lv_iconst (v := 1) hx hb dL_law_202 (by decide) ?_
          refine lv_iadd hx hb dL_law_203 ?_
          obtain ⟨c54, h⟩ := hq_g h
          refine va_sld hx hb hX hbl hbA (hI.S h0) c54 dL_law_204 ?_
          refine lv_aload_n hx hb dL_law_205 rfl (lv_at hl 0 rfl) ?_
          refine lv_iload_n hx hb dL_law_206 rfl (lv_at hl 3 rfl) ?_
          refine lv_iconst (v := 2) hx hb dL_law_207 (by decide) ?_
          refine lv_iadd hx hb dL_law_208 ?_
          obtain ⟨c55, h⟩ := hq_g h
          refine va_sld hx hb hX hbl hbA (hI.S h0) c55 dL_law_209 ?_
          refine lv_aload_n hx hb dL_law_210 rfl (lv_at hl 0 rfl) ?_
          refine lv_iload_n hx hb dL_law_211 rfl (lv_at hl 3 rfl) ?_
          refine lv_iconst (v := 3) hx hb dL_law_212 (by decide) ?_
          refine lv_iadd hx hb dL_law_213 ?_
          obtain ⟨c56, h⟩ := hq_g h
          refine va_sld hx hb hX hbl hbA (hI.S h0) c56 dL_law_214 ?_
          refine lv_aload_n hx hb dL_law_215 rfl (lv_at hl 0 rfl) ?_
          refine lv_iload_n hx hb dL_law_216 rfl (lv_at hl 3 rfl) ?_
          refine lv_iconst (v := 4) hx hb dL_law_217 (by decide) ?_
          refine lv_iadd hx hb dL_law_218 ?_
          obtain ⟨c57, h⟩ := hq_g h
          refine va_sld hx hb hX hbl hbA (hI.S h0) c57 dL_law_219 ?_
          refine lv_aload_n hx hb dL_law_220 rfl (lv_at hl 0 rfl) ?_
          refine lv_iload_n hx hb dL_law_221 rfl (lv_at hl 3 rfl) ?_
          refine lv_iconst (v := 5) hx hb dL_law_222 (by decide) ?_
          refine lv_iadd hx hb dL_law_223 ?_
          obtain ⟨c58, h⟩ := hq_g h
          refine va_sld hx hb hX hbl hbA (hI.S h0) c58 dL_law_224 ?_
          obtain ⟨g60, h⟩ := hq_g h
          obtain ⟨v62, S61, g59, h⟩ := hq_bd2 h
          refine hq_calli hI (va_runV (As := [.int (xs (Int32.toNatClampNeg (x7 + 1))), .int (xs (Int32.toNatClampNeg (x7 + 2))), .int (xs (Int32.toNatClampNeg (x7 + 3))), .int (xs (Int32.toNatClampNeg (x7 + 4))), .int (xs (Int32.toNatClampNeg (x7 + 5)))]) (rest := []) ⟨hx, hb, hml, hown, hts⟩ (c_X11_tryout l D kA ρ HB S8 S.2 (xs (Int32.toNatClampNeg (x7 + 1))) (xs (Int32.toNatClampNeg (x7 + 2))) (xs (Int32.toNatClampNeg (x7 + 3))) (xs (Int32.toNatClampNeg (x7 + 4))) (xs (Int32.toNatClampNeg (x7 + 5))) _ g59) (cwV 5 hts (gdIn (List.forall_mem_cons.mpr ⟨kw_191, (List.forall_mem_cons.mpr ⟨kw_192, (List.forall_mem_cons.mpr ⟨kw_193, (List.forall_mem_cons.mpr ⟨kw_1, (fun _ h => absurd h List.not_mem_nil)⟩)⟩)⟩)⟩) kw_194) rfl rfl rfl ye_X11_tryout ⟨Nat.le_of_ble_eq_true rfl, Nat.le_of_ble_eq_true rfl⟩) (hq_preC hE hI g60 rfl _) rfl rfl hl.1 rfl (lv_room (Nat.le_of_ble_eq_true rfl)) dL_law_225 ⟨by show (_ : Nat) ≤ 600000; omega, by show (_ : Nat) ≤ 7302250; omega⟩) (fun H locs hI => ?_)
          refine lv_aload_n hx hb dL_law_228 rfl (lv_at hl 2 rfl) ?_
          refine lv_aload_n hx hb dL_law_229 rfl (lv_at hl 0 rfl) ?_
          refine lv_iload_n hx hb dL_law_230 rfl (lv_at hl 3 rfl) ?_
          refine lv_iconst (v := 1) hx hb dL_law_231 (by decide) ?_
          refine lv_iadd hx hb dL_law_232 ?_
          obtain ⟨c63, h⟩ := hq_g h
          refine va_sld hx hb hX hbl hbA (hI.S h0) c63 dL_law_233 ?_
          refine lv_aload_n hx hb dL_law_234 rfl (lv_at hl 0 rfl) ?_
          refine lv_iload_n hx hb dL_law_235 rfl (lv_at hl 3 rfl) ?_
          refine lv_iconst (v := 2) hx hb dL_law_236 (by decide) ?_
          refine lv_iadd hx hb dL_law_237 ?_
          obtain ⟨c64, h⟩ := hq_g h
          refine va_sld hx hb hX hbl hbA (hI.S h0) c64 dL_law_238 ?_
          refine lv_aload_n hx hb dL_law_239 rfl (lv_at hl 0 rfl) ?_
          refine lv_iload_n hx hb dL_law_240 rfl (lv_at hl 3 rfl) ?_
          refine lv_iconst (v := 3) hx hb dL_law_241 (by decide) ?_
          refine lv_iadd hx hb dL_law_242 ?_
          obtain ⟨c65, h⟩ := hq_g h
          refine va_sld hx hb hX hbl hbA (hI.S h0) c65 dL_law_243 ?_
          refine lv_aload_n hx hb dL_law_244 rfl (lv_at hl 0 rfl) ?_
          refine lv_iload_n hx hb dL_law_245 rfl (lv_at hl 3 rfl) ?_
          refine lv_iconst (v := 4) hx hb dL_law_246 (by decide) ?_
          refine lv_iadd hx hb dL_law_247 ?_
          obtain ⟨c66, h⟩ := hq_g h
          refine va_sld hx hb hX hbl hbA (hI.S h0) c66 dL_law_248 ?_
          refine lv_aload_n hx hb dL_law_249 rfl (lv_at hl 0 rfl) ?_
          refine lv_iload_n hx hb dL_law_250 rfl (lv_at hl 3 rfl) ?_
          refine lv_iconst (v := 5) hx hb dL_law_251 (by decide) ?_
          refine lv_iadd hx hb dL_law_252 ?_
          obtain ⟨c67, h⟩ := hq_g h
          refine va_sld hx hb hX hbl hbA (hI.S h0) c67 dL_law_253 ?_
          obtain ⟨g69, h⟩ := hq_g h
          obtain ⟨v71, S70, g68, h⟩ := hq_bd2 h
          refine hq_calli hI (va_runV (As := [.int (xs (Int32.toNatClampNeg (x7 + 1))), .int (xs (Int32.toNatClampNeg (x7 + 2))), .int (xs (Int32.toNatClampNeg (x7 + 3))), .int (xs (Int32.toNatClampNeg (x7 + 4))), .int (xs (Int32.toNatClampNeg (x7 + 5)))]) (rest := [.int v62]) ⟨hx, hb, hml, hown, hts⟩ (c_X12_tryout l D kA ρ HB S61 S3.2 (xs (Int32.toNatClampNeg (x7 + 1))) (xs (Int32.toNatClampNeg (x7 + 2))) (xs (Int32.toNatClampNeg (x7 + 3))) (xs (Int32.toNatClampNeg (x7 + 4))) (xs (Int32.toNatClampNeg (x7 + 5))) _ g68) (cwV 5 hts (gdIn (List.forall_mem_cons.mpr ⟨kw_1013, (List.forall_mem_cons.mpr ⟨kw_1014, (List.forall_mem_cons.mpr ⟨kw_1015, (List.forall_mem_cons.mpr ⟨kw_6, (fun _ h => absurd h List.not_mem_nil)⟩)⟩)⟩)⟩) kw_1016) rfl rfl rfl ye_X12_tryout ⟨Nat.le_of_ble_eq_true rfl, Nat.le_of_ble_eq_true rfl⟩) (hq_preC hE hI g69 rfl _) rfl rfl hl.1 rfl (lv_room (Nat.le_of_ble_eq_true rfl)) dL_law_254 ⟨by show (_ : Nat) ≤ 600000; omega, by show (_ : Nat) ≤ 7302250; omega⟩) (fun H locs hI => ?_)
          refine lv_icmp_eq (tgt := 1286) hx hb dL_law_257 (by decide) (fun c72 => ?_) (fun c72 => ?_)
          · have h := hq_t h c72
            refine lv_iinc (v := (x7 + 6)) (lv' := [(3, .int (x7 + 6)), (0, .ref b), (1, .ref S.2), (2, .ref S3.2)]) hx hb dL_law_1286 hl (k := 3) rfl rfl (by decide) rfl (fun ls hl => ?_)
            refine lv_goto (tgt := 18) hx hb dL_law_1289 (by decide) ?_
            exact ih18 (x7 + 6) S70 _ _ _ _ _ h hI (by omega) (by omega) (lv_sub hl [1, 2, 3, 0] rfl)
          · have h := hq_f h c72
            refine lv_iconst (v := 0) hx hb dL_law_260 (by decide) ?_
            cases h
        have h := hq_f h c12
        by_cases c13 : ((xs (Int32.toNatClampNeg x7)) &&& 31) = 2
        · have h := hq_t h c13
          refine lv_tableIn (tgt := 262) hx hb dL_law_33 (by rw [c13]; decide) (by rw [c13]; decide) (by rw [c13]; rfl) (by decide) ?_
          refine lv_aload_n hx hb dL_law_262 rfl (lv_at hl 1 rfl) ?_
          refine lv_aload_n hx hb dL_law_263 rfl (lv_at hl 0 rfl) ?_
          refine lv_iload_n hx hb dL_law_264 rfl (lv_at hl 3 rfl) ?_
          refine lv_iconst (v := 1) hx hb dL_law_265 (by decide) ?_
          refine lv_iadd hx hb dL_law_266 ?_
          obtain ⟨c73, h⟩ := hq_g h
          refine va_sld hx hb hX hbl hbA (hI.S h0) c73 dL_law_267 ?_
          refine lv_aload_n hx hb dL_law_268 rfl (lv_at hl 0 rfl) ?_
          refine lv_iload_n hx hb dL_law_269 rfl (lv_at hl 3 rfl) ?_
          refine lv_iconst (v := 2) hx hb dL_law_270 (by decide) ?_
          refine lv_iadd hx hb dL_law_271 ?_
          obtain ⟨c74, h⟩ := hq_g h
          refine va_sld hx hb hX hbl hbA (hI.S h0) c74 dL_law_272 ?_
          obtain ⟨g76, h⟩ := hq_g h
          obtain ⟨v78, S77, g75, h⟩ := hq_bd2 h
          refine hq_calli hI (va_runV (As := [.int (xs (Int32.toNatClampNeg (x7 + 1))), .int (xs (Int32.toNatClampNeg (x7 + 2)))]) (rest := []) ⟨hx, hb, hml, hown, hts⟩ (c_X11_excuse l D kA ρ HB S8 S.2 (xs (Int32.toNatClampNeg (x7 + 1))) (xs (Int32.toNatClampNeg (x7 + 2))) _ g75) (cwV 2 hts (gdIn (List.forall_mem_cons.mpr ⟨kw_350, (List.forall_mem_cons.mpr ⟨kw_351, (List.forall_mem_cons.mpr ⟨kw_352, (List.forall_mem_cons.mpr ⟨kw_1, (fun _ h => absurd h List.not_mem_nil)⟩)⟩)⟩)⟩) kw_353) rfl rfl rfl ye_X11_excuse ⟨Nat.le_of_ble_eq_true rfl, Nat.le_of_ble_eq_true rfl⟩) (hq_preC hE hI g76 rfl _) rfl rfl hl.1 rfl (lv_room (Nat.le_of_ble_eq_true rfl)) dL_law_273 ⟨by show (_ : Nat) ≤ 600000; omega, by show (_ : Nat) ≤ 7302250; omega⟩) (fun H locs hI => ?_)
          refine lv_aload_n hx hb dL_law_276 rfl (lv_at hl 2 rfl) ?_
          refine lv_aload_n hx hb dL_law_277 rfl (lv_at hl 0 rfl) ?_
          refine lv_iload_n hx hb dL_law_278 rfl (lv_at hl 3 rfl) ?_
          refine lv_iconst (v := 1) hx hb dL_law_279 (by decide) ?_
          refine lv_iadd hx hb dL_law_280 ?_
          obtain ⟨c79, h⟩ := hq_g h
          refine va_sld hx hb hX hbl hbA (hI.S h0) c79 dL_law_281 ?_
          refine lv_aload_n hx hb dL_law_282 rfl (lv_at hl 0 rfl) ?_
          refine lv_iload_n hx hb dL_law_283 rfl (lv_at hl 3 rfl) ?_
          refine lv_iconst (v := 2) hx hb dL_law_284 (by decide) ?_
          refine lv_iadd hx hb dL_law_285 ?_
          obtain ⟨c80, h⟩ := hq_g h
          refine va_sld hx hb hX hbl hbA (hI.S h0) c80 dL_law_286 ?_
          obtain ⟨g82, h⟩ := hq_g h
          obtain ⟨v84, S83, g81, h⟩ := hq_bd2 h
          refine hq_calli hI (va_runV (As := [.int (xs (Int32.toNatClampNeg (x7 + 1))), .int (xs (Int32.toNatClampNeg (x7 + 2)))]) (rest := [.int v78]) ⟨hx, hb, hml, hown, hts⟩ (c_X12_excuse l D kA ρ HB S77 S3.2 (xs (Int32.toNatClampNeg (x7 + 1))) (xs (Int32.toNatClampNeg (x7 + 2))) _ g81) (cwV 2 hts (gdIn (List.forall_mem_cons.mpr ⟨kw_1024, (List.forall_mem_cons.mpr ⟨kw_1025, (List.forall_mem_cons.mpr ⟨kw_1026, (List.forall_mem_cons.mpr ⟨kw_6, (fun _ h => absurd h List.not_mem_nil)⟩)⟩)⟩)⟩) kw_1027) rfl rfl rfl ye_X12_excuse ⟨Nat.le_of_ble_eq_true rfl, Nat.le_of_ble_eq_true rfl⟩) (hq_preC hE hI g82 rfl _) rfl rfl hl.1 rfl (lv_room (Nat.le_of_ble_eq_true rfl)) dL_law_287 ⟨by show (_ : Nat) ≤ 600000; omega, by show (_ : Nat) ≤ 7302250; omega⟩) (fun H locs hI => ?_)
          refine lv_icmp_eq (tgt := 1286) hx hb dL_law_290 (by decide) (fun c85 => ?_) (fun c85 => ?_)
          · have h := hq_t h c85
            refine lv_iinc (v := (x7 + 6)) (lv' := [(3, .int (x7 + 6)), (0, .ref b), (1, .ref S.2), (2, .ref S3.2)]) hx hb dL_law_1286 hl (k := 3) rfl rfl (by decide) rfl (fun ls hl => ?_)
            refine lv_goto (tgt := 18) hx hb dL_law_1289 (by decide) ?_
            exact ih18 (x7 + 6) S83 _ _ _ _ _ h hI (by omega) (by omega) (lv_sub hl [1, 2, 3, 0] rfl)
          · have h := hq_f h c85
            refine lv_iconst (v := 0) hx hb dL_law_293 (by decide) ?_
            cases h
        have h := hq_f h c13
        by_cases c14 : ((xs (Int32.toNatClampNeg x7)) &&& 31) = 3
        · have h := hq_t h c14
          refine lv_tableIn (tgt := 295) hx hb dL_law_33 (by rw [c14]; decide) (by rw [c14]; decide) (by rw [c14]; rfl) (by decide) ?_
          refine lv_aload_n hx hb dL_law_295 rfl (lv_at hl 1 rfl) ?_
          refine lv_aload_n hx hb dL_law_296 rfl (lv_at hl 0 rfl) ?_
          refine lv_iload_n hx hb dL_law_297 rfl (lv_at hl 3 rfl) ?_
          refine lv_iconst (v := 1) hx hb dL_law_298 (by decide) ?_
          refine lv_iadd hx hb dL_law_299 ?_
          obtain ⟨c86, h⟩ := hq_g h
          refine va_sld hx hb hX hbl hbA (hI.S h0) c86 dL_law_300 ?_
          refine lv_aload_n hx hb dL_law_301 rfl (lv_at hl 0 rfl) ?_
          refine lv_iload_n hx hb dL_law_302 rfl (lv_at hl 3 rfl) ?_
          refine lv_iconst (v := 2) hx hb dL_law_303 (by decide) ?_
          refine lv_iadd hx hb dL_law_304 ?_
          obtain ⟨c87, h⟩ := hq_g h
          refine va_sld hx hb hX hbl hbA (hI.S h0) c87 dL_law_305 ?_
          obtain ⟨g89, h⟩ := hq_g h
          obtain ⟨v91, S90, g88, h⟩ := hq_bd2 h
          refine hq_calli hI (va_runV (As := [.int (xs (Int32.toNatClampNeg (x7 + 1))), .int (xs (Int32.toNatClampNeg (x7 + 2)))]) (rest := []) ⟨hx, hb, hml, hown, hts⟩ (c_X11_of l D kA ρ HB S8 S.2 (xs (Int32.toNatClampNeg (x7 + 1))) (xs (Int32.toNatClampNeg (x7 + 2))) _ g88) (cwV 2 hts (gdIn (List.forall_mem_cons.mpr ⟨kw_358, (List.forall_mem_cons.mpr ⟨kw_359, (List.forall_mem_cons.mpr ⟨kw_360, (List.forall_mem_cons.mpr ⟨kw_1, (fun _ h => absurd h List.not_mem_nil)⟩)⟩)⟩)⟩) kw_361) rfl rfl rfl ye_X11_of ⟨Nat.le_of_ble_eq_true rfl, Nat.le_of_ble_eq_true rfl⟩) (hq_preC hE hI g89 rfl _) rfl rfl hl.1 rfl (lv_room (Nat.le_of_ble_eq_true rfl)) dL_law_306 ⟨by show (_ : Nat) ≤ 600000; omega, by show (_ : Nat) ≤ 7302250; omega⟩) (fun H locs hI => ?_)
          refine lv_aload_n hx hb dL_law_309 rfl (lv_at hl 2 rfl) ?_
          refine lv_aload_n hx hb dL_law_310 rfl (lv_at hl 0 rfl) ?_
          refine lv_iload_n hx hb dL_law_311 rfl (lv_at hl 3 rfl) ?_
          refine lv_iconst (v := 1) hx hb dL_law_312 (by decide) ?_
          refine lv_iadd hx hb dL_law_313 ?_
          obtain ⟨c92, h⟩ := hq_g h
          refine va_sld hx hb hX hbl hbA (hI.S h0) c92 dL_law_314 ?_
          refine lv_aload_n hx hb dL_law_315 rfl (lv_at hl 0 rfl) ?_
          refine lv_iload_n hx hb dL_law_316 rfl (lv_at hl 3 rfl) ?_
          refine lv_iconst (v := 2) hx hb dL_law_317 (by decide) ?_
          refine lv_iadd hx hb dL_law_318 ?_
          obtain ⟨c93, h⟩ := hq_g h
          refine va_sld hx hb hX hbl hbA (hI.S h0) c93 dL_law_319 ?_
          obtain ⟨g95, h⟩ := hq_g h
          obtain ⟨v97, S96, g94, h⟩ := hq_bd2 h
          refine hq_calli hI (va_runV (As := [.int (xs (Int32.toNatClampNeg (x7 + 1))), .int (xs (Int32.toNatClampNeg (x7 + 2)))]) (rest := [.int v91]) ⟨hx, hb, hml, hown, hts⟩ (c_X12_of l D kA ρ HB S90 S3.2 (xs (Int32.toNatClampNeg (x7 + 1))) (xs (Int32.toNatClampNeg (x7 + 2))) _ g94) (cwV 2 hts (gdIn (List.forall_mem_cons.mpr ⟨kw_1032, (List.forall_mem_cons.mpr ⟨kw_1033, (List.forall_mem_cons.mpr ⟨kw_1034, (List.forall_mem_cons.mpr ⟨kw_6, (fun _ h => absurd h List.not_mem_nil)⟩)⟩)⟩)⟩) kw_1035) rfl rfl rfl ye_X12_of ⟨Nat.le_of_ble_eq_true rfl, Nat.le_of_ble_eq_true rfl⟩) (hq_preC hE hI g95 rfl _) rfl rfl hl.1 rfl (lv_room (Nat.le_of_ble_eq_true rfl)) dL_law_320 ⟨by show (_ : Nat) ≤ 600000; omega, by show (_ : Nat) ≤ 7302250; omega⟩) (fun H locs hI => ?_)
          refine lv_icmp_eq (tgt := 1286) hx hb dL_law_323 (by decide) (fun c98 => ?_) (fun c98 => ?_)
          · have h := hq_t h c98
            refine lv_iinc (v := (x7 + 6)) (lv' := [(3, .int (x7 + 6)), (0, .ref b), (1, .ref S.2), (2, .ref S3.2)]) hx hb dL_law_1286 hl (k := 3) rfl rfl (by decide) rfl (fun ls hl => ?_)
            refine lv_goto (tgt := 18) hx hb dL_law_1289 (by decide) ?_
            exact ih18 (x7 + 6) S96 _ _ _ _ _ h hI (by omega) (by omega) (lv_sub hl [1, 2, 3, 0] rfl)
          · have h := hq_f h c98
            refine lv_iconst (v := 0) hx hb dL_law_326 (by decide) ?_
            cases h
        have h := hq_f h c14
        by_cases c15 : ((xs (Int32.toNatClampNeg x7)) &&& 31) = 4
        · have h := hq_t h c15
          refine lv_tableIn (tgt := 328) hx hb dL_law_33 (by rw [c15]; decide) (by rw [c15]; decide) (by rw [c15]; rfl) (by decide) ?_
          refine lv_aload_n hx hb dL_law_328 rfl (lv_at hl 1 rfl) ?_
          refine lv_aload_n hx hb dL_law_329 rfl (lv_at hl 0 rfl) ?_
          refine lv_iload_n hx hb dL_law_330 rfl (lv_at hl 3 rfl) ?_
          refine lv_iconst (v := 1) hx hb dL_law_331 (by decide) ?_
          refine lv_iadd hx hb dL_law_332 ?_
          obtain ⟨c99, h⟩ := hq_g h
          refine va_sld hx hb hX hbl hbA (hI.S h0) c99 dL_law_333 ?_
          refine lv_i2l (v := Int32.toInt64 (xs (Int32.toNatClampNeg (x7 + 1)))) hx hb dL_law_334 rfl ?_
          refine lv_bipush (v := 32) hx hb dL_law_335 (by decide) ?_
          refine lv_lshl (v := (Int32.toInt64 (xs (Int32.toNatClampNeg (x7 + 1)))) <<< (Int32.toInt64 32 &&& 63)) hx hb dL_law_337 rfl ?_
          refine lv_aload_n hx hb dL_law_338 rfl (lv_at hl 0 rfl) ?_
          refine lv_iload_n hx hb dL_law_339 rfl (lv_at hl 3 rfl) ?_
          refine lv_iconst (v := 2) hx hb dL_law_340 (by decide) ?_
          refine lv_iadd hx hb dL_law_341 ?_
          obtain ⟨c100, h⟩ := hq_g h
          refine va_sld hx hb hX hbl hbA (hI.S h0) c100 dL_law_342 ?_
          refine lv_i2l (v := Int32.toInt64 (xs (Int32.toNatClampNeg (x7 + 2)))) hx hb dL_law_343 rfl ?_
          refine lv_ldc2 (v := 4294967295) hx hb hown (hts _ kw_1365) dL_law_344 ?_
          refine lv_land hx hb dL_law_347 ?_
          refine lv_lor hx hb dL_law_348 ?_
          refine lv_aload_n hx hb dL_law_349 rfl (lv_at hl 0 rfl) ?_
          refine lv_iload_n hx hb dL_law_350 rfl (lv_at hl 3 rfl) ?_
          refine lv_iconst (v := 3) hx hb dL_law_351 (by decide) ?_
          refine lv_iadd hx hb dL_law_352 ?_
          obtain ⟨c101, h⟩ := hq_g h
          refine va_sld hx hb hX hbl hbA (hI.S h0) c101 dL_law_353 ?_
          obtain ⟨g103, h⟩ := hq_g h
          obtain ⟨v105, S104, g102, h⟩ := hq_bd2 h
          refine hq_calli hI (va_runV (As := [.long (((Int32.toInt64 (xs (Int32.toNatClampNeg (x7 + 1)))) <<< (Int32.toInt64 32 &&& 63)) ||| ((Int32.toInt64 (xs (Int32.toNatClampNeg (x7 + 2)))) &&& 4294967295)), .int (xs (Int32.toNatClampNeg (x7 + 3)))]) (rest := []) ⟨hx, hb, hml, hown, hts⟩ (c_X11_feed l D kA ρ HB S8 S.2 (((Int32.toInt64 (xs (Int32.toNatClampNeg (x7 + 1)))) <<< (Int32.toInt64 32 &&& 63)) ||| ((Int32.toInt64 (xs (Int32.toNatClampNeg (x7 + 2)))) &&& 4294967295)) (xs (Int32.toNatClampNeg (x7 + 3))) _ g102) (cwV 2 hts (gdIn (List.forall_mem_cons.mpr ⟨kw_362, (List.forall_mem_cons.mpr ⟨kw_363, (List.forall_mem_cons.mpr ⟨kw_364, (List.forall_mem_cons.mpr ⟨kw_1, (fun _ h => absurd h List.not_mem_nil)⟩)⟩)⟩)⟩) kw_365) rfl rfl rfl ye_X11_feed ⟨Nat.le_of_ble_eq_true rfl, Nat.le_of_ble_eq_true rfl⟩) (hq_preC hE hI g103 rfl _) rfl rfl hl.1 rfl (lv_room (Nat.le_of_ble_eq_true rfl)) dL_law_354 ⟨by show (_ : Nat) ≤ 600000; omega, by show (_ : Nat) ≤ 7302250; omega⟩) (fun H locs hI => ?_)
          refine lv_aload_n hx hb dL_law_357 rfl (lv_at hl 2 rfl) ?_
          refine lv_aload_n hx hb dL_law_358 rfl (lv_at hl 0 rfl) ?_
          refine lv_iload_n hx hb dL_law_359 rfl (lv_at hl 3 rfl) ?_
          refine lv_iconst (v := 1) hx hb dL_law_360 (by decide) ?_
          refine lv_iadd hx hb dL_law_361 ?_
          obtain ⟨c106, h⟩ := hq_g h
          refine va_sld hx hb hX hbl hbA (hI.S h0) c106 dL_law_362 ?_
          refine lv_i2l (v := Int32.toInt64 (xs (Int32.toNatClampNeg (x7 + 1)))) hx hb dL_law_363 rfl ?_
          refine lv_bipush (v := 32) hx hb dL_law_364 (by decide) ?_
          refine lv_lshl (v := (Int32.toInt64 (xs (Int32.toNatClampNeg (x7 + 1)))) <<< (Int32.toInt64 32 &&& 63)) hx hb dL_law_366 rfl ?_
          refine lv_aload_n hx hb dL_law_367 rfl (lv_at hl 0 rfl) ?_
          refine lv_iload_n hx hb dL_law_368 rfl (lv_at hl 3 rfl) ?_
          refine lv_iconst (v := 2) hx hb dL_law_369 (by decide) ?_
          refine lv_iadd hx hb dL_law_370 ?_
          obtain ⟨c107, h⟩ := hq_g h
          refine va_sld hx hb hX hbl hbA (hI.S h0) c107 dL_law_371 ?_
          refine lv_i2l (v := Int32.toInt64 (xs (Int32.toNatClampNeg (x7 + 2)))) hx hb dL_law_372 rfl ?_
          refine lv_ldc2 (v := 4294967295) hx hb hown (hts _ kw_1365) dL_law_373 ?_
          refine lv_land hx hb dL_law_376 ?_
          refine lv_lor hx hb dL_law_377 ?_
          refine lv_aload_n hx hb dL_law_378 rfl (lv_at hl 0 rfl) ?_
          refine lv_iload_n hx hb dL_law_379 rfl (lv_at hl 3 rfl) ?_
          refine lv_iconst (v := 3) hx hb dL_law_380 (by decide) ?_
          refine lv_iadd hx hb dL_law_381 ?_
          obtain ⟨c108, h⟩ := hq_g h
          refine va_sld hx hb hX hbl hbA (hI.S h0) c108 dL_law_382 ?_
          obtain ⟨g110, h⟩ := hq_g h
          obtain ⟨v112, S111, g109, h⟩ := hq_bd2 h
          refine hq_calli hI (va_runV (As := [.long (((Int32.toInt64 (xs (Int32.toNatClampNeg (x7 + 1)))) <<< (Int32.toInt64 32 &&& 63)) ||| ((Int32.toInt64 (xs (Int32.toNatClampNeg (x7 + 2)))) &&& 4294967295)), .int (xs (Int32.toNatClampNeg (x7 + 3)))]) (rest := [.int v105]) ⟨hx, hb, hml, hown, hts⟩ (c_X12_feed l D kA ρ HB S104 S3.2 (((Int32.toInt64 (xs (Int32.toNatClampNeg (x7 + 1)))) <<< (Int32.toInt64 32 &&& 63)) ||| ((Int32.toInt64 (xs (Int32.toNatClampNeg (x7 + 2)))) &&& 4294967295)) (xs (Int32.toNatClampNeg (x7 + 3))) _ g109) (cwV 2 hts (gdIn (List.forall_mem_cons.mpr ⟨kw_1043, (List.forall_mem_cons.mpr ⟨kw_1044, (List.forall_mem_cons.mpr ⟨kw_1045, (List.forall_mem_cons.mpr ⟨kw_6, (fun _ h => absurd h List.not_mem_nil)⟩)⟩)⟩)⟩) kw_1046) rfl rfl rfl ye_X12_feed ⟨Nat.le_of_ble_eq_true rfl, Nat.le_of_ble_eq_true rfl⟩) (hq_preC hE hI g110 rfl _) rfl rfl hl.1 rfl (lv_room (Nat.le_of_ble_eq_true rfl)) dL_law_383 ⟨by show (_ : Nat) ≤ 600000; omega, by show (_ : Nat) ≤ 7302250; omega⟩) (fun H locs hI => ?_)
          refine lv_icmp_eq (tgt := 1286) hx hb dL_law_386 (by decide) (fun c113 => ?_) (fun c113 => ?_)
          · have h := hq_t h c113
            refine lv_iinc (v := (x7 + 6)) (lv' := [(3, .int (x7 + 6)), (0, .ref b), (1, .ref S.2), (2, .ref S3.2)]) hx hb dL_law_1286 hl (k := 3) rfl rfl (by decide) rfl (fun ls hl => ?_)
            refine lv_goto (tgt := 18) hx hb dL_law_1289 (by decide) ?_
            exact ih18 (x7 + 6) S111 _ _ _ _ _ h hI (by omega) (by omega) (lv_sub hl [1, 2, 3, 0] rfl)
          · have h := hq_f h c113
            refine lv_iconst (v := 0) hx hb dL_law_389 (by decide) ?_
            cases h
        have h := hq_f h c15
        by_cases c16 : ((xs (Int32.toNatClampNeg x7)) &&& 31) = 5
        · have h := hq_t h c16
          refine lv_tableIn (tgt := 391) hx hb dL_law_33 (by rw [c16]; decide) (by rw [c16]; decide) (by rw [c16]; rfl) (by decide) ?_
          refine lv_aload_n hx hb dL_law_391 rfl (lv_at hl 1 rfl) ?_
          obtain ⟨g115, h⟩ := hq_g h
          obtain ⟨v117, S116, g114, h⟩ := hq_bd2 h
          refine hq_calli hI (va_runV (As := []) (rest := []) ⟨hx, hb, hml, hown, hts⟩ (c_X11_plan l D kA ρ HB S8 S.2 _ g114) (cwV 0 hts (gdIn (List.forall_mem_cons.mpr ⟨kw_370, (List.forall_mem_cons.mpr ⟨kw_371, (List.forall_mem_cons.mpr ⟨kw_372, (List.forall_mem_cons.mpr ⟨kw_1, (fun _ h => absurd h List.not_mem_nil)⟩)⟩)⟩)⟩) kw_373) rfl rfl rfl ye_X11_plan ⟨Nat.le_of_ble_eq_true rfl, Nat.le_of_ble_eq_true rfl⟩) (hq_preC hE hI g115 rfl _) rfl rfl hl.1 rfl (lv_room (Nat.le_of_ble_eq_true rfl)) dL_law_392 ⟨by show (_ : Nat) ≤ 600000; omega, by show (_ : Nat) ≤ 7302250; omega⟩) (fun H locs hI => ?_)
          refine lv_aload_n hx hb dL_law_395 rfl (lv_at hl 2 rfl) ?_
          obtain ⟨g119, h⟩ := hq_g h
          obtain ⟨v121, S120, g118, h⟩ := hq_bd2 h
          refine hq_calli hI (va_runV (As := []) (rest := [.int v117]) ⟨hx, hb, hml, hown, hts⟩ (c_X12_plan l D kA ρ HB S116 S3.2 _ g118) (cwV 0 hts (gdIn (List.forall_mem_cons.mpr ⟨kw_1048, (List.forall_mem_cons.mpr ⟨kw_1049, (List.forall_mem_cons.mpr ⟨kw_1050, (List.forall_mem_cons.mpr ⟨kw_6, (fun _ h => absurd h List.not_mem_nil)⟩)⟩)⟩)⟩) kw_1051) rfl rfl rfl ye_X12_plan ⟨Nat.le_of_ble_eq_true rfl, Nat.le_of_ble_eq_true rfl⟩) (hq_preC hE hI g119 rfl _) rfl rfl hl.1 rfl (lv_room (Nat.le_of_ble_eq_true rfl)) dL_law_396 ⟨by show (_ : Nat) ≤ 600000; omega, by show (_ : Nat) ≤ 7302250; omega⟩) (fun H locs hI => ?_)
          refine lv_icmp_eq (tgt := 1286) hx hb dL_law_399 (by decide) (fun c122 => ?_) (fun c122 => ?_)
          · have h := hq_t h c122
            refine lv_iinc (v := (x7 + 6)) (lv' := [(3, .int (x7 + 6)), (0, .ref b), (1, .ref S.2), (2, .ref S3.2)]) hx hb dL_law_1286 hl (k := 3) rfl rfl (by decide) rfl (fun ls hl => ?_)
            refine lv_goto (tgt := 18) hx hb dL_law_1289 (by decide) ?_
            exact ih18 (x7 + 6) S120 _ _ _ _ _ h hI (by omega) (by omega) (lv_sub hl [1, 2, 3, 0] rfl)
          · have h := hq_f h c122
            refine lv_iconst (v := 0) hx hb dL_law_402 (by decide) ?_
            cases h
        have h := hq_f h c16
        by_cases c17 : ((xs (Int32.toNatClampNeg x7)) &&& 31) = 6
        · have h := hq_t h c17
          refine lv_tableIn (tgt := 404) hx hb dL_law_33 (by rw [c17]; decide) (by rw [c17]; decide) (by rw [c17]; rfl) (by decide) ?_
          refine lv_aload_n hx hb dL_law_404 rfl (lv_at hl 1 rfl) ?_
          refine lv_aload_n hx hb dL_law_405 rfl (lv_at hl 0 rfl) ?_
          refine lv_iload_n hx hb dL_law_406 rfl (lv_at hl 3 rfl) ?_
          refine lv_iconst (v := 1) hx hb dL_law_407 (by decide) ?_
          refine lv_iadd hx hb dL_law_408 ?_
          obtain ⟨c123, h⟩ := hq_g h
          refine va_sld hx hb hX hbl hbA (hI.S h0) c123 dL_law_409 ?_
          refine lv_aload_n hx hb dL_law_410 rfl (lv_at hl 0 rfl) ?_
          refine lv_iload_n hx hb dL_law_411 rfl (lv_at hl 3 rfl) ?_
          refine lv_iconst (v := 2) hx hb dL_law_412 (by decide) ?_
          refine lv_iadd hx hb dL_law_413 ?_
          obtain ⟨c124, h⟩ := hq_g h
          refine va_sld hx hb hX hbl hbA (hI.S h0) c124 dL_law_414 ?_
          obtain ⟨g126, h⟩ := hq_g h
          obtain ⟨v128, S127, g125, h⟩ := hq_bd2 h
          refine hq_calli hI (va_runV (As := [.int (xs (Int32.toNatClampNeg (x7 + 1))), .int (xs (Int32.toNatClampNeg (x7 + 2)))]) (rest := []) ⟨hx, hb, hml, hown, hts⟩ (c_X11_told l D kA ρ HB S8 S.2 (xs (Int32.toNatClampNeg (x7 + 1))) (xs (Int32.toNatClampNeg (x7 + 2))) _ g125) (cwV 2 hts (gdIn (List.forall_mem_cons.mpr ⟨kw_553, (List.forall_mem_cons.mpr ⟨kw_554, (List.forall_mem_cons.mpr ⟨kw_555, (List.forall_mem_cons.mpr ⟨kw_1, (fun _ h => absurd h List.not_mem_nil)⟩)⟩)⟩)⟩) kw_556) rfl rfl rfl ye_X11_told ⟨Nat.le_of_ble_eq_true rfl, Nat.le_of_ble_eq_true rfl⟩) (hq_preC hE hI g126 rfl _) rfl rfl hl.1 rfl (lv_room (Nat.le_of_ble_eq_true rfl)) dL_law_415 ⟨by show (_ : Nat) ≤ 600000; omega, by show (_ : Nat) ≤ 7302250; omega⟩) (fun H locs hI => ?_)
          refine lv_aload_n hx hb dL_law_418 rfl (lv_at hl 2 rfl) ?_
          refine lv_aload_n hx hb dL_law_419 rfl (lv_at hl 0 rfl) ?_
          refine lv_iload_n hx hb dL_law_420 rfl (lv_at hl 3 rfl) ?_
          refine lv_iconst (v := 1) hx hb dL_law_421 (by decide) ?_
          refine lv_iadd hx hb dL_law_422 ?_
          obtain ⟨c129, h⟩ := hq_g h
          refine va_sld hx hb hX hbl hbA (hI.S h0) c129 dL_law_423 ?_
          refine lv_aload_n hx hb dL_law_424 rfl (lv_at hl 0 rfl) ?_
          refine lv_iload_n hx hb dL_law_425 rfl (lv_at hl 3 rfl) ?_
          refine lv_iconst (v := 2) hx hb dL_law_426 (by decide) ?_
          refine lv_iadd hx hb dL_law_427 ?_
          obtain ⟨c130, h⟩ := hq_g h
          refine va_sld hx hb hX hbl hbA (hI.S h0) c130 dL_law_428 ?_
          obtain ⟨g132, h⟩ := hq_g h
          obtain ⟨v134, S133, g131, h⟩ := hq_bd2 h
          refine hq_calli hI (va_runV (As := [.int (xs (Int32.toNatClampNeg (x7 + 1))), .int (xs (Int32.toNatClampNeg (x7 + 2)))]) (rest := [.int v128]) ⟨hx, hb, hml, hown, hts⟩ (c_X12_told l D kA ρ HB S127 S3.2 (xs (Int32.toNatClampNeg (x7 + 1))) (xs (Int32.toNatClampNeg (x7 + 2))) _ g131) (cwV 2 hts (gdIn (List.forall_mem_cons.mpr ⟨kw_1129, (List.forall_mem_cons.mpr ⟨kw_1130, (List.forall_mem_cons.mpr ⟨kw_1131, (List.forall_mem_cons.mpr ⟨kw_6, (fun _ h => absurd h List.not_mem_nil)⟩)⟩)⟩)⟩) kw_1132) rfl rfl rfl ye_X12_told ⟨Nat.le_of_ble_eq_true rfl, Nat.le_of_ble_eq_true rfl⟩) (hq_preC hE hI g132 rfl _) rfl rfl hl.1 rfl (lv_room (Nat.le_of_ble_eq_true rfl)) dL_law_429 ⟨by show (_ : Nat) ≤ 600000; omega, by show (_ : Nat) ≤ 7302250; omega⟩) (fun H locs hI => ?_)
          refine lv_icmp_eq (tgt := 1286) hx hb dL_law_432 (by decide) (fun c135 => ?_) (fun c135 => ?_)
          · have h := hq_t h c135
            refine lv_iinc (v := (x7 + 6)) (lv' := [(3, .int (x7 + 6)), (0, .ref b), (1, .ref S.2), (2, .ref S3.2)]) hx hb dL_law_1286 hl (k := 3) rfl rfl (by decide) rfl (fun ls hl => ?_)
            refine lv_goto (tgt := 18) hx hb dL_law_1289 (by decide) ?_
            exact ih18 (x7 + 6) S133 _ _ _ _ _ h hI (by omega) (by omega) (lv_sub hl [1, 2, 3, 0] rfl)
          · have h := hq_f h c135
            refine lv_iconst (v := 0) hx hb dL_law_435 (by decide) ?_
            cases h
        have h := hq_f h c17
        by_cases c18 : ((xs (Int32.toNatClampNeg x7)) &&& 31) = 7
        · have h := hq_t h c18
          refine lv_tableIn (tgt := 437) hx hb dL_law_33 (by rw [c18]; decide) (by rw [c18]; decide) (by rw [c18]; rfl) (by decide) ?_
          refine lv_aload_n hx hb dL_law_437 rfl (lv_at hl 1 rfl) ?_
          refine lv_aload_n hx hb dL_law_438 rfl (lv_at hl 0 rfl) ?_
          refine lv_iload_n hx hb dL_law_439 rfl (lv_at hl 3 rfl) ?_
          refine lv_iconst (v := 1) hx hb dL_law_440 (by decide) ?_
          refine lv_iadd hx hb dL_law_441 ?_
          obtain ⟨c136, h⟩ := hq_g h
          refine va_sld hx hb hX hbl hbA (hI.S h0) c136 dL_law_442 ?_
          obtain ⟨g138, h⟩ := hq_g h
          obtain ⟨v140, S139, g137, h⟩ := hq_bd2 h
          refine hq_calli hI (va_runV (As := [.int (xs (Int32.toNatClampNeg (x7 + 1)))]) (rest := []) ⟨hx, hb, hml, hown, hts⟩ (c_X11_passes l D kA ρ HB S8 S.2 (xs (Int32.toNatClampNeg (x7 + 1))) _ g137) (cwV 1 hts (gdIn (List.forall_mem_cons.mpr ⟨kw_595, (List.forall_mem_cons.mpr ⟨kw_596, (List.forall_mem_cons.mpr ⟨kw_597, (List.forall_mem_cons.mpr ⟨kw_1, (fun _ h => absurd h List.not_mem_nil)⟩)⟩)⟩)⟩) kw_598) rfl rfl rfl ye_X11_passes ⟨Nat.le_of_ble_eq_true rfl, Nat.le_of_ble_eq_true rfl⟩) (hq_preC hE hI g138 rfl _) rfl rfl hl.1 rfl (lv_room (Nat.le_of_ble_eq_true rfl)) dL_law_443 ⟨by show (_ : Nat) ≤ 600000; omega, by show (_ : Nat) ≤ 7302250; omega⟩) (fun H locs hI => ?_)
          refine lv_aload_n hx hb dL_law_446 rfl (lv_at hl 2 rfl) ?_
          refine lv_aload_n hx hb dL_law_447 rfl (lv_at hl 0 rfl) ?_
          refine lv_iload_n hx hb dL_law_448 rfl (lv_at hl 3 rfl) ?_
          refine lv_iconst (v := 1) hx hb dL_law_449 (by decide) ?_
          refine lv_iadd hx hb dL_law_450 ?_
          obtain ⟨c141, h⟩ := hq_g h
          refine va_sld hx hb hX hbl hbA (hI.S h0) c141 dL_law_451 ?_
          obtain ⟨g143, h⟩ := hq_g h
          obtain ⟨v145, S144, g142, h⟩ := hq_bd2 h
          refine hq_calli hI (va_runV (As := [.int (xs (Int32.toNatClampNeg (x7 + 1)))]) (rest := [.int v140]) ⟨hx, hb, hml, hown, hts⟩ (c_X12_passes l D kA ρ HB S139 S3.2 (xs (Int32.toNatClampNeg (x7 + 1))) _ g142) (cwV 1 hts (gdIn (List.forall_mem_cons.mpr ⟨kw_1161, (List.forall_mem_cons.mpr ⟨kw_1162, (List.forall_mem_cons.mpr ⟨kw_1163, (List.forall_mem_cons.mpr ⟨kw_6, (fun _ h => absurd h List.not_mem_nil)⟩)⟩)⟩)⟩) kw_1164) rfl rfl rfl ye_X12_passes ⟨Nat.le_of_ble_eq_true rfl, Nat.le_of_ble_eq_true rfl⟩) (hq_preC hE hI g143 rfl _) rfl rfl hl.1 rfl (lv_room (Nat.le_of_ble_eq_true rfl)) dL_law_452 ⟨by show (_ : Nat) ≤ 600000; omega, by show (_ : Nat) ≤ 7302250; omega⟩) (fun H locs hI => ?_)
          refine lv_icmp_eq (tgt := 1286) hx hb dL_law_455 (by decide) (fun c146 => ?_) (fun c146 => ?_)
          · have h := hq_t h c146
            refine lv_iinc (v := (x7 + 6)) (lv' := [(3, .int (x7 + 6)), (0, .ref b), (1, .ref S.2), (2, .ref S3.2)]) hx hb dL_law_1286 hl (k := 3) rfl rfl (by decide) rfl (fun ls hl => ?_)
            refine lv_goto (tgt := 18) hx hb dL_law_1289 (by decide) ?_
            exact ih18 (x7 + 6) S144 _ _ _ _ _ h hI (by omega) (by omega) (lv_sub hl [1, 2, 3, 0] rfl)
          · have h := hq_f h c146
            refine lv_iconst (v := 0) hx hb dL_law_458 (by decide) ?_
            cases h
        have h := hq_f h c18
        by_cases c19 : ((xs (Int32.toNatClampNeg x7)) &&& 31) = 8
        · have h := hq_t h c19
          refine lv_tableIn (tgt := 460) hx hb dL_law_33 (by rw [c19]; decide) (by rw [c19]; decide) (by rw [c19]; rfl) (by decide) ?_
          refine lv_aload_n hx hb dL_law_460 rfl (lv_at hl 1 rfl) ?_
          refine lv_aload_n hx hb dL_law_461 rfl (lv_at hl 0 rfl) ?_
          refine lv_iload_n hx hb dL_law_462 rfl (lv_at hl 3 rfl) ?_
          refine lv_iconst (v := 1) hx hb dL_law_463 (by decide) ?_
          refine lv_iadd hx hb dL_law_464 ?_
          obtain ⟨c147, h⟩ := hq_g h
          refine va_sld hx hb hX hbl hbA (hI.S h0) c147 dL_law_465 ?_
          refine lv_aload_n hx hb dL_law_466 rfl (lv_at hl 0 rfl) ?_
          refine lv_iload_n hx hb dL_law_467 rfl (lv_at hl 3 rfl) ?_
          refine lv_iconst (v := 2) hx hb dL_law_468 (by decide) ?_
          refine lv_iadd hx hb dL_law_469 ?_
          obtain ⟨c148, h⟩ := hq_g h
          refine va_sld hx hb hX hbl hbA (hI.S h0) c148 dL_law_470 ?_
          refine lv_aload_n hx hb dL_law_471 rfl (lv_at hl 0 rfl) ?_
          refine lv_iload_n hx hb dL_law_472 rfl (lv_at hl 3 rfl) ?_
          refine lv_iconst (v := 3) hx hb dL_law_473 (by decide) ?_
          refine lv_iadd hx hb dL_law_474 ?_
          obtain ⟨c149, h⟩ := hq_g h
          refine va_sld hx hb hX hbl hbA (hI.S h0) c149 dL_law_475 ?_
          obtain ⟨g151, h⟩ := hq_g h
          obtain ⟨v153, S152, g150, h⟩ := hq_bd2 h
          refine hq_calll hI (va_runV (As := [.int (xs (Int32.toNatClampNeg (x7 + 1))), .int (xs (Int32.toNatClampNeg (x7 + 2))), .int (xs (Int32.toNatClampNeg (x7 + 3)))]) (rest := []) ⟨hx, hb, hml, hown, hts⟩ (c_X11_chance l D kA ρ HB S8 S.2 (xs (Int32.toNatClampNeg (x7 + 1))) (xs (Int32.toNatClampNeg (x7 + 2))) (xs (Int32.toNatClampNeg (x7 + 3))) _ g150) (cwV 3 hts (gdIn (List.forall_mem_cons.mpr ⟨kw_613, (List.forall_mem_cons.mpr ⟨kw_614, (List.forall_mem_cons.mpr ⟨kw_615, (List.forall_mem_cons.mpr ⟨kw_1, (fun _ h => absurd h List.not_mem_nil)⟩)⟩)⟩)⟩) kw_616) rfl rfl rfl ye_X11_chance ⟨Nat.le_of_ble_eq_true rfl, Nat.le_of_ble_eq_true rfl⟩) (hq_preC hE hI g151 rfl _) rfl rfl hl.1 rfl (lv_room (Nat.le_of_ble_eq_true rfl)) dL_law_476 ⟨by show (_ : Nat) ≤ 600000; omega, by show (_ : Nat) ≤ 7302250; omega⟩) (fun H locs hI => ?_)
          refine lv_aload_n hx hb dL_law_479 rfl (lv_at hl 2 rfl) ?_
          refine lv_aload_n hx hb dL_law_480 rfl (lv_at hl 0 rfl) ?_
          refine lv_iload_n hx hb dL_law_481 rfl (lv_at hl 3 rfl) ?_
          refine lv_iconst (v := 1) hx hb dL_law_482 (by decide) ?_
          refine lv_iadd hx hb dL_law_483 ?_
          obtain ⟨c154, h⟩ := hq_g h
          refine va_sld hx hb hX hbl hbA (hI.S h0) c154 dL_law_484 ?_
          refine lv_aload_n hx hb dL_law_485 rfl (lv_at hl 0 rfl) ?_
          refine lv_iload_n hx hb dL_law_486 rfl (lv_at hl 3 rfl) ?_
          refine lv_iconst (v := 2) hx hb dL_law_487 (by decide) ?_
          refine lv_iadd hx hb dL_law_488 ?_
          obtain ⟨c155, h⟩ := hq_g h
          refine va_sld hx hb hX hbl hbA (hI.S h0) c155 dL_law_489 ?_
          refine lv_aload_n hx hb dL_law_490 rfl (lv_at hl 0 rfl) ?_
          refine lv_iload_n hx hb dL_law_491 rfl (lv_at hl 3 rfl) ?_
          refine lv_iconst (v := 3) hx hb dL_law_492 (by decide) ?_
          refine lv_iadd hx hb dL_law_493 ?_
          obtain ⟨c156, h⟩ := hq_g h
          refine va_sld hx hb hX hbl hbA (hI.S h0) c156 dL_law_494 ?_
          obtain ⟨g158, h⟩ := hq_g h
          obtain ⟨v160, S159, g157, h⟩ := hq_bd2 h
          refine hq_calll hI (va_runV (As := [.int (xs (Int32.toNatClampNeg (x7 + 1))), .int (xs (Int32.toNatClampNeg (x7 + 2))), .int (xs (Int32.toNatClampNeg (x7 + 3)))]) (rest := [.long v153]) ⟨hx, hb, hml, hown, hts⟩ (c_X12_chance l D kA ρ HB S152 S3.2 (xs (Int32.toNatClampNeg (x7 + 1))) (xs (Int32.toNatClampNeg (x7 + 2))) (xs (Int32.toNatClampNeg (x7 + 3))) _ g157) (cwV 3 hts (gdIn (List.forall_mem_cons.mpr ⟨kw_1176, (List.forall_mem_cons.mpr ⟨kw_1177, (List.forall_mem_cons.mpr ⟨kw_1178, (List.forall_mem_cons.mpr ⟨kw_6, (fun _ h => absurd h List.not_mem_nil)⟩)⟩)⟩)⟩) kw_1179) rfl rfl rfl ye_X12_chance ⟨Nat.le_of_ble_eq_true rfl, Nat.le_of_ble_eq_true rfl⟩) (hq_preC hE hI g158 rfl _) rfl rfl hl.1 rfl (lv_room (Nat.le_of_ble_eq_true rfl)) dL_law_495 ⟨by show (_ : Nat) ≤ 600000; omega, by show (_ : Nat) ≤ 7302250; omega⟩) (fun H locs hI => ?_)
          refine W.lcmp hx hb dL_law_498 ?_
          refine lv_if_eq (tgt := 1286) hx hb dL_law_499 (by decide) (fun c161 => ?_) (fun c161 => ?_)
          · have h := hq_t h c161
            refine lv_iinc (v := (x7 + 6)) (lv' := [(3, .int (x7 + 6)), (0, .ref b), (1, .ref S.2), (2, .ref S3.2)]) hx hb dL_law_1286 hl (k := 3) rfl rfl (by decide) rfl (fun ls hl => ?_)
            refine lv_goto (tgt := 18) hx hb dL_law_1289 (by decide) ?_
            exact ih18 (x7 + 6) S159 _ _ _ _ _ h hI (by omega) (by omega) (lv_sub hl [1, 2, 3, 0] rfl)
          · have h := hq_f h c161
            refine lv_iconst (v := 0) hx hb dL_law_502 (by decide) ?_
            cases h
        have h := hq_f h c19
        by_cases c20 : ((xs (Int32.toNatClampNeg x7)) &&& 31) = 9
        · have h := hq_t h c20
          refine lv_tableIn (tgt := 504) hx hb dL_law_33 (by rw [c20]; decide) (by rw [c20]; decide) (by rw [c20]; rfl) (by decide) ?_
          refine lv_aload_n hx hb dL_law_504 rfl (lv_at hl 1 rfl) ?_
          refine lv_aload_n hx hb dL_law_505 rfl (lv_at hl 0 rfl) ?_
          refine lv_iload_n hx hb dL_law_506 rfl (lv_at hl 3 rfl) ?_
          refine lv_iconst (v := 1) hx hb dL_law_507 (by decide) ?_
          refine lv_iadd hx hb dL_law_508 ?_
          obtain ⟨c162, h⟩ := hq_g h
          refine va_sld hx hb hX hbl hbA (hI.S h0) c162 dL_law_509 ?_
          refine lv_aload_n hx hb dL_law_510 rfl (lv_at hl 0 rfl) ?_
          refine lv_iload_n hx hb dL_law_511 rfl (lv_at hl 3 rfl) ?_
          refine lv_iconst (v := 2) hx hb dL_law_512 (by decide) ?_
          refine lv_iadd hx hb dL_law_513 ?_
          obtain ⟨c163, h⟩ := hq_g h
          refine va_sld hx hb hX hbl hbA (hI.S h0) c163 dL_law_514 ?_
          refine lv_aload_n hx hb dL_law_515 rfl (lv_at hl 0 rfl) ?_
          refine lv_iload_n hx hb dL_law_516 rfl (lv_at hl 3 rfl) ?_
          refine lv_iconst (v := 3) hx hb dL_law_517 (by decide) ?_
          refine lv_iadd hx hb dL_law_518 ?_
          obtain ⟨c164, h⟩ := hq_g h
          refine va_sld hx hb hX hbl hbA (hI.S h0) c164 dL_law_519 ?_
          refine lv_aload_n hx hb dL_law_520 rfl (lv_at hl 0 rfl) ?_
          refine lv_iload_n hx hb dL_law_521 rfl (lv_at hl 3 rfl) ?_
          refine lv_iconst (v := 4) hx hb dL_law_522 (by decide) ?_
          refine lv_iadd hx hb dL_law_523 ?_
          obtain ⟨c165, h⟩ := hq_g h
          refine va_sld hx hb hX hbl hbA (hI.S h0) c165 dL_law_524 ?_
          refine lv_aload_n hx hb dL_law_525 rfl (lv_at hl 0 rfl) ?_
          refine lv_iload_n hx hb dL_law_526 rfl (lv_at hl 3 rfl) ?_
          refine lv_iconst (v := 5) hx hb dL_law_527 (by decide) ?_
          refine lv_iadd hx hb dL_law_528 ?_
          obtain ⟨c166, h⟩ := hq_g h
          refine va_sld hx hb hX hbl hbA (hI.S h0) c166 dL_law_529 ?_
          obtain ⟨g168, h⟩ := hq_g h
          obtain ⟨v170, S169, g167, h⟩ := hq_bd2 h
          refine hq_calll hI (va_runV (As := [.int (xs (Int32.toNatClampNeg (x7 + 1))), .int (xs (Int32.toNatClampNeg (x7 + 2))), .int (xs (Int32.toNatClampNeg (x7 + 3))), .int (xs (Int32.toNatClampNeg (x7 + 4))), .int (xs (Int32.toNatClampNeg (x7 + 5)))]) (rest := []) ⟨hx, hb, hml, hown, hts⟩ (c_X11_odds l D kA ρ HB S8 S.2 (xs (Int32.toNatClampNeg (x7 + 1))) (xs (Int32.toNatClampNeg (x7 + 2))) (xs (Int32.toNatClampNeg (x7 + 3))) (xs (Int32.toNatClampNeg (x7 + 4))) (xs (Int32.toNatClampNeg (x7 + 5))) _ g167) (cwV 5 hts (gdIn (List.forall_mem_cons.mpr ⟨kw_633, (List.forall_mem_cons.mpr ⟨kw_634, (List.forall_mem_cons.mpr ⟨kw_635, (List.forall_mem_cons.mpr ⟨kw_1, (fun _ h => absurd h List.not_mem_nil)⟩)⟩)⟩)⟩) kw_636) rfl rfl rfl ye_X11_odds ⟨Nat.le_of_ble_eq_true rfl, Nat.le_of_ble_eq_true rfl⟩) (hq_preC hE hI g168 rfl _) rfl rfl hl.1 rfl (lv_room (Nat.le_of_ble_eq_true rfl)) dL_law_530 ⟨by show (_ : Nat) ≤ 600000; omega, by show (_ : Nat) ≤ 7302250; omega⟩) (fun H locs hI => ?_)
          refine lv_aload_n hx hb dL_law_533 rfl (lv_at hl 2 rfl) ?_
          refine lv_aload_n hx hb dL_law_534 rfl (lv_at hl 0 rfl) ?_
          refine lv_iload_n hx hb dL_law_535 rfl (lv_at hl 3 rfl) ?_
          refine lv_iconst (v := 1) hx hb dL_law_536 (by decide) ?_
          refine lv_iadd hx hb dL_law_537 ?_
          obtain ⟨c171, h⟩ := hq_g h
          refine va_sld hx hb hX hbl hbA (hI.S h0) c171 dL_law_538 ?_
          refine lv_aload_n hx hb dL_law_539 rfl (lv_at hl 0 rfl) ?_
          refine lv_iload_n hx hb dL_law_540 rfl (lv_at hl 3 rfl) ?_
          refine lv_iconst (v := 2) hx hb dL_law_541 (by decide) ?_
          refine lv_iadd hx hb dL_law_542 ?_
          obtain ⟨c172, h⟩ := hq_g h
          refine va_sld hx hb hX hbl hbA (hI.S h0) c172 dL_law_543 ?_
          refine lv_aload_n hx hb dL_law_544 rfl (lv_at hl 0 rfl) ?_
          refine lv_iload_n hx hb dL_law_545 rfl (lv_at hl 3 rfl) ?_
          refine lv_iconst (v := 3) hx hb dL_law_546 (by decide) ?_
          refine lv_iadd hx hb dL_law_547 ?_
          obtain ⟨c173, h⟩ := hq_g h
          refine va_sld hx hb hX hbl hbA (hI.S h0) c173 dL_law_548 ?_
          refine lv_aload_n hx hb dL_law_549 rfl (lv_at hl 0 rfl) ?_
          refine lv_iload_n hx hb dL_law_550 rfl (lv_at hl 3 rfl) ?_
          refine lv_iconst (v := 4) hx hb dL_law_551 (by decide) ?_
          refine lv_iadd hx hb dL_law_552 ?_
          obtain ⟨c174, h⟩ := hq_g h
          refine va_sld hx hb hX hbl hbA (hI.S h0) c174 dL_law_553 ?_
          refine lv_aload_n hx hb dL_law_554 rfl (lv_at hl 0 rfl) ?_
          refine lv_iload_n hx hb dL_law_555 rfl (lv_at hl 3 rfl) ?_
          refine lv_iconst (v := 5) hx hb dL_law_556 (by decide) ?_
          refine lv_iadd hx hb dL_law_557 ?_
          obtain ⟨c175, h⟩ := hq_g h
          refine va_sld hx hb hX hbl hbA (hI.S h0) c175 dL_law_558 ?_
          obtain ⟨g177, h⟩ := hq_g h
          obtain ⟨v179, S178, g176, h⟩ := hq_bd2 h
          refine hq_calll hI (va_runV (As := [.int (xs (Int32.toNatClampNeg (x7 + 1))), .int (xs (Int32.toNatClampNeg (x7 + 2))), .int (xs (Int32.toNatClampNeg (x7 + 3))), .int (xs (Int32.toNatClampNeg (x7 + 4))), .int (xs (Int32.toNatClampNeg (x7 + 5)))]) (rest := [.long v170]) ⟨hx, hb, hml, hown, hts⟩ (c_X12_odds l D kA ρ HB S169 S3.2 (xs (Int32.toNatClampNeg (x7 + 1))) (xs (Int32.toNatClampNeg (x7 + 2))) (xs (Int32.toNatClampNeg (x7 + 3))) (xs (Int32.toNatClampNeg (x7 + 4))) (xs (Int32.toNatClampNeg (x7 + 5))) _ g176) (cwV 5 hts (gdIn (List.forall_mem_cons.mpr ⟨kw_1191, (List.forall_mem_cons.mpr ⟨kw_1192, (List.forall_mem_cons.mpr ⟨kw_1193, (List.forall_mem_cons.mpr ⟨kw_6, (fun _ h => absurd h List.not_mem_nil)⟩)⟩)⟩)⟩) kw_1194) rfl rfl rfl ye_X12_odds ⟨Nat.le_of_ble_eq_true rfl, Nat.le_of_ble_eq_true rfl⟩) (hq_preC hE hI g177 rfl _) rfl rfl hl.1 rfl (lv_room (Nat.le_of_ble_eq_true rfl)) dL_law_559 ⟨by show (_ : Nat) ≤ 600000; omega, by show (_ : Nat) ≤ 7302250; omega⟩) (fun H locs hI => ?_)
          refine W.lcmp hx hb dL_law_562 ?_
          refine lv_if_eq (tgt := 1286) hx hb dL_law_563 (by decide) (fun c180 => ?_) (fun c180 => ?_)
          · have h := hq_t h c180
            refine lv_iinc (v := (x7 + 6)) (lv' := [(3, .int (x7 + 6)), (0, .ref b), (1, .ref S.2), (2, .ref S3.2)]) hx hb dL_law_1286 hl (k := 3) rfl rfl (by decide) rfl (fun ls hl => ?_)
            refine lv_goto (tgt := 18) hx hb dL_law_1289 (by decide) ?_
            exact ih18 (x7 + 6) S178 _ _ _ _ _ h hI (by omega) (by omega) (lv_sub hl [1, 2, 3, 0] rfl)
          · have h := hq_f h c180
            refine lv_iconst (v := 0) hx hb dL_law_566 (by decide) ?_
            cases h
        have h := hq_f h c20
        by_cases c21 : ((xs (Int32.toNatClampNeg x7)) &&& 31) = 10
        · have h := hq_t h c21
          refine lv_tableIn (tgt := 568) hx hb dL_law_33 (by rw [c21]; decide) (by rw [c21]; decide) (by rw [c21]; rfl) (by decide) ?_
          refine lv_aload_n hx hb dL_law_568 rfl (lv_at hl 1 rfl) ?_
          refine lv_aload_n hx hb dL_law_569 rfl (lv_at hl 0 rfl) ?_
          refine lv_iload_n hx hb dL_law_570 rfl (lv_at hl 3 rfl) ?_
          refine lv_iconst (v := 1) hx hb dL_law_571 (by decide) ?_
          refine lv_iadd hx hb dL_law_572 ?_
          obtain ⟨c181, h⟩ := hq_g h
          refine va_sld hx hb hX hbl hbA (hI.S h0) c181 dL_law_573 ?_
          refine lv_aload_n hx hb dL_law_574 rfl (lv_at hl 0 rfl) ?_
          refine lv_iload_n hx hb dL_law_575 rfl (lv_at hl 3 rfl) ?_
          refine lv_iconst (v := 2) hx hb dL_law_576 (by decide) ?_
          refine lv_iadd hx hb dL_law_577 ?_
          obtain ⟨c182, h⟩ := hq_g h
          refine va_sld hx hb hX hbl hbA (hI.S h0) c182 dL_law_578 ?_
          refine lv_aload_n hx hb dL_law_579 rfl (lv_at hl 0 rfl) ?_
          refine lv_iload_n hx hb dL_law_580 rfl (lv_at hl 3 rfl) ?_
          refine lv_iconst (v := 3) hx hb dL_law_581 (by decide) ?_
          refine lv_iadd hx hb dL_law_582 ?_
          obtain ⟨c183, h⟩ := hq_g h
          refine va_sld hx hb hX hbl hbA (hI.S h0) c183 dL_law_583 ?_
          refine lv_aload_n hx hb dL_law_584 rfl (lv_at hl 0 rfl) ?_
          refine lv_iload_n hx hb dL_law_585 rfl (lv_at hl 3 rfl) ?_
          refine lv_iconst (v := 4) hx hb dL_law_586 (by decide) ?_
          refine lv_iadd hx hb dL_law_587 ?_
          obtain ⟨c184, h⟩ := hq_g h
          refine va_sld hx hb hX hbl hbA (hI.S h0) c184 dL_law_588 ?_
          obtain ⟨g186, h⟩ := hq_g h
          obtain ⟨v188, S187, g185, h⟩ := hq_bd2 h
          refine hq_calll hI (va_runV (As := [.int (xs (Int32.toNatClampNeg (x7 + 1))), .int (xs (Int32.toNatClampNeg (x7 + 2))), .int (xs (Int32.toNatClampNeg (x7 + 3))), .int (xs (Int32.toNatClampNeg (x7 + 4)))]) (rest := []) ⟨hx, hb, hml, hown, hts⟩ (c_X11_best l D kA ρ HB S8 S.2 (xs (Int32.toNatClampNeg (x7 + 1))) (xs (Int32.toNatClampNeg (x7 + 2))) (xs (Int32.toNatClampNeg (x7 + 3))) (xs (Int32.toNatClampNeg (x7 + 4))) _ g185) (cwV 4 hts (gdIn (List.forall_mem_cons.mpr ⟨kw_672, (List.forall_mem_cons.mpr ⟨kw_673, (List.forall_mem_cons.mpr ⟨kw_674, (List.forall_mem_cons.mpr ⟨kw_1, (fun _ h => absurd h List.not_mem_nil)⟩)⟩)⟩)⟩) kw_675) rfl rfl rfl ye_X11_best ⟨Nat.le_of_ble_eq_true rfl, Nat.le_of_ble_eq_true rfl⟩) (hq_preC hE hI g186 rfl _) rfl rfl hl.1 rfl (lv_room (Nat.le_of_ble_eq_true rfl)) dL_law_589 ⟨by show (_ : Nat) ≤ 600000; omega, by show (_ : Nat) ≤ 7302250; omega⟩) (fun H locs hI => ?_)
          refine lv_aload_n hx hb dL_law_592 rfl (lv_at hl 2 rfl) ?_
          refine lv_aload_n hx hb dL_law_593 rfl (lv_at hl 0 rfl) ?_
          refine lv_iload_n hx hb dL_law_594 rfl (lv_at hl 3 rfl) ?_
          refine lv_iconst (v := 1) hx hb dL_law_595 (by decide) ?_
          refine lv_iadd hx hb dL_law_596 ?_
          obtain ⟨c189, h⟩ := hq_g h
          refine va_sld hx hb hX hbl hbA (hI.S h0) c189 dL_law_597 ?_
          refine lv_aload_n hx hb dL_law_598 rfl (lv_at hl 0 rfl) ?_
          refine lv_iload_n hx hb dL_law_599 rfl (lv_at hl 3 rfl) ?_
          refine lv_iconst (v := 2) hx hb dL_law_600 (by decide) ?_
          refine lv_iadd hx hb dL_law_601 ?_
          obtain ⟨c190, h⟩ := hq_g h
          refine va_sld hx hb hX hbl hbA (hI.S h0) c190 dL_law_602 ?_
          refine lv_aload_n hx hb dL_law_603 rfl (lv_at hl 0 rfl) ?_
          refine lv_iload_n hx hb dL_law_604 rfl (lv_at hl 3 rfl) ?_
          refine lv_iconst (v := 3) hx hb dL_law_605 (by decide) ?_
          refine lv_iadd hx hb dL_law_606 ?_
          obtain ⟨c191, h⟩ := hq_g h
          refine va_sld hx hb hX hbl hbA (hI.S h0) c191 dL_law_607 ?_
          refine lv_aload_n hx hb dL_law_608 rfl (lv_at hl 0 rfl) ?_
          refine lv_iload_n hx hb dL_law_609 rfl (lv_at hl 3 rfl) ?_
          refine lv_iconst (v := 4) hx hb dL_law_610 (by decide) ?_
          refine lv_iadd hx hb dL_law_611 ?_
          obtain ⟨c192, h⟩ := hq_g h
          refine va_sld hx hb hX hbl hbA (hI.S h0) c192 dL_law_612 ?_
          obtain ⟨g194, h⟩ := hq_g h
          obtain ⟨v196, S195, g193, h⟩ := hq_bd2 h
          refine hq_calll hI (va_runV (As := [.int (xs (Int32.toNatClampNeg (x7 + 1))), .int (xs (Int32.toNatClampNeg (x7 + 2))), .int (xs (Int32.toNatClampNeg (x7 + 3))), .int (xs (Int32.toNatClampNeg (x7 + 4)))]) (rest := [.long v188]) ⟨hx, hb, hml, hown, hts⟩ (c_X12_best l D kA ρ HB S187 S3.2 (xs (Int32.toNatClampNeg (x7 + 1))) (xs (Int32.toNatClampNeg (x7 + 2))) (xs (Int32.toNatClampNeg (x7 + 3))) (xs (Int32.toNatClampNeg (x7 + 4))) _ g193) (cwV 4 hts (gdIn (List.forall_mem_cons.mpr ⟨kw_1207, (List.forall_mem_cons.mpr ⟨kw_1208, (List.forall_mem_cons.mpr ⟨kw_1209, (List.forall_mem_cons.mpr ⟨kw_6, (fun _ h => absurd h List.not_mem_nil)⟩)⟩)⟩)⟩) kw_1210) rfl rfl rfl ye_X12_best ⟨Nat.le_of_ble_eq_true rfl, Nat.le_of_ble_eq_true rfl⟩) (hq_preC hE hI g194 rfl _) rfl rfl hl.1 rfl (lv_room (Nat.le_of_ble_eq_true rfl)) dL_law_613 ⟨by show (_ : Nat) ≤ 600000; omega, by show (_ : Nat) ≤ 7302250; omega⟩) (fun H locs hI => ?_)
          refine W.lcmp hx hb dL_law_616 ?_
          refine lv_if_eq (tgt := 1286) hx hb dL_law_617 (by decide) (fun c197 => ?_) (fun c197 => ?_)
          · have h := hq_t h c197
            refine lv_iinc (v := (x7 + 6)) (lv' := [(3, .int (x7 + 6)), (0, .ref b), (1, .ref S.2), (2, .ref S3.2)]) hx hb dL_law_1286 hl (k := 3) rfl rfl (by decide) rfl (fun ls hl => ?_)
            refine lv_goto (tgt := 18) hx hb dL_law_1289 (by decide) ?_
            exact ih18 (x7 + 6) S195 _ _ _ _ _ h hI (by omega) (by omega) (lv_sub hl [1, 2, 3, 0] rfl)
          · have h := hq_f h c197
            refine lv_iconst (v := 0) hx hb dL_law_620 (by decide) ?_
            cases h
        have h := hq_f h c21
        by_cases c22 : ((xs (Int32.toNatClampNeg x7)) &&& 31) = 11
        · have h := hq_t h c22
          refine lv_tableIn (tgt := 622) hx hb dL_law_33 (by rw [c22]; decide) (by rw [c22]; decide) (by rw [c22]; rfl) (by decide) ?_
          refine lv_aload_n hx hb dL_law_622 rfl (lv_at hl 1 rfl) ?_
          refine lv_aload_n hx hb dL_law_623 rfl (lv_at hl 0 rfl) ?_
          refine lv_iload_n hx hb dL_law_624 rfl (lv_at hl 3 rfl) ?_
          refine lv_iconst (v := 1) hx hb dL_law_625 (by decide) ?_
          refine lv_iadd hx hb dL_law_626 ?_
          obtain ⟨c198, h⟩ := hq_g h
          refine va_sld hx hb hX hbl hbA (hI.S h0) c198 dL_law_627 ?_
          refine lv_aload_n hx hb dL_law_628 rfl (lv_at hl 0 rfl) ?_
          refine lv_iload_n hx hb dL_law_629 rfl (lv_at hl 3 rfl) ?_
          refine lv_iconst (v := 2) hx hb dL_law_630 (by decide) ?_
          refine lv_iadd hx hb dL_law_631 ?_
          obtain ⟨c199, h⟩ := hq_g h
          refine va_sld hx hb hX hbl hbA (hI.S h0) c199 dL_law_632 ?_
          obtain ⟨g201, h⟩ := hq_g h
          obtain ⟨v203, S202, g200, h⟩ := hq_bd2 h
          refine hq_calli hI (va_runV (As := [.int (xs (Int32.toNatClampNeg (x7 + 1))), .int (xs (Int32.toNatClampNeg (x7 + 2)))]) (rest := []) ⟨hx, hb, hml, hown, hts⟩ (c_X11_fixed l D kA ρ HB S8 S.2 (xs (Int32.toNatClampNeg (x7 + 1))) (xs (Int32.toNatClampNeg (x7 + 2))) _ g200) (cwV 2 hts (gdIn (List.forall_mem_cons.mpr ⟨kw_685, (List.forall_mem_cons.mpr ⟨kw_686, (List.forall_mem_cons.mpr ⟨kw_687, (List.forall_mem_cons.mpr ⟨kw_1, (fun _ h => absurd h List.not_mem_nil)⟩)⟩)⟩)⟩) kw_688) rfl rfl rfl ye_X11_fixed ⟨Nat.le_of_ble_eq_true rfl, Nat.le_of_ble_eq_true rfl⟩) (hq_preC hE hI g201 rfl _) rfl rfl hl.1 rfl (lv_room (Nat.le_of_ble_eq_true rfl)) dL_law_633 ⟨by show (_ : Nat) ≤ 600000; omega, by show (_ : Nat) ≤ 7302250; omega⟩) (fun H locs hI => ?_)
          refine lv_aload_n hx hb dL_law_636 rfl (lv_at hl 2 rfl) ?_
          refine lv_aload_n hx hb dL_law_637 rfl (lv_at hl 0 rfl) ?_
          refine lv_iload_n hx hb dL_law_638 rfl (lv_at hl 3 rfl) ?_
          refine lv_iconst (v := 1) hx hb dL_law_639 (by decide) ?_
          refine lv_iadd hx hb dL_law_640 ?_
          obtain ⟨c204, h⟩ := hq_g h
          refine va_sld hx hb hX hbl hbA (hI.S h0) c204 dL_law_641 ?_
          refine lv_aload_n hx hb dL_law_642 rfl (lv_at hl 0 rfl) ?_
          refine lv_iload_n hx hb dL_law_643 rfl (lv_at hl 3 rfl) ?_
          refine lv_iconst (v := 2) hx hb dL_law_644 (by decide) ?_
          refine lv_iadd hx hb dL_law_645 ?_
          obtain ⟨c205, h⟩ := hq_g h
          refine va_sld hx hb hX hbl hbA (hI.S h0) c205 dL_law_646 ?_
          obtain ⟨g207, h⟩ := hq_g h
          obtain ⟨v209, S208, g206, h⟩ := hq_bd2 h
          refine hq_calli hI (va_runV (As := [.int (xs (Int32.toNatClampNeg (x7 + 1))), .int (xs (Int32.toNatClampNeg (x7 + 2)))]) (rest := [.int v203]) ⟨hx, hb, hml, hown, hts⟩ (c_X12_fixed l D kA ρ HB S202 S3.2 (xs (Int32.toNatClampNeg (x7 + 1))) (xs (Int32.toNatClampNeg (x7 + 2))) _ g206) (cwV 2 hts (gdIn (List.forall_mem_cons.mpr ⟨kw_1219, (List.forall_mem_cons.mpr ⟨kw_1220, (List.forall_mem_cons.mpr ⟨kw_1221, (List.forall_mem_cons.mpr ⟨kw_6, (fun _ h => absurd h List.not_mem_nil)⟩)⟩)⟩)⟩) kw_1222) rfl rfl rfl ye_X12_fixed ⟨Nat.le_of_ble_eq_true rfl, Nat.le_of_ble_eq_true rfl⟩) (hq_preC hE hI g207 rfl _) rfl rfl hl.1 rfl (lv_room (Nat.le_of_ble_eq_true rfl)) dL_law_647 ⟨by show (_ : Nat) ≤ 600000; omega, by show (_ : Nat) ≤ 7302250; omega⟩) (fun H locs hI => ?_)
          refine lv_icmp_eq (tgt := 1286) hx hb dL_law_650 (by decide) (fun c210 => ?_) (fun c210 => ?_)
          · have h := hq_t h c210
            refine lv_iinc (v := (x7 + 6)) (lv' := [(3, .int (x7 + 6)), (0, .ref b), (1, .ref S.2), (2, .ref S3.2)]) hx hb dL_law_1286 hl (k := 3) rfl rfl (by decide) rfl (fun ls hl => ?_)
            refine lv_goto (tgt := 18) hx hb dL_law_1289 (by decide) ?_
            exact ih18 (x7 + 6) S208 _ _ _ _ _ h hI (by omega) (by omega) (lv_sub hl [1, 2, 3, 0] rfl)
          · have h := hq_f h c210
            refine lv_iconst (v := 0) hx hb dL_law_653 (by decide) ?_
            cases h
        have h := hq_f h c22
        by_cases c23 : ((xs (Int32.toNatClampNeg x7)) &&& 31) = 12
        · have h := hq_t h c23
          refine lv_tableIn (tgt := 655) hx hb dL_law_33 (by rw [c23]; decide) (by rw [c23]; decide) (by rw [c23]; rfl) (by decide) ?_
          refine lv_aload_n hx hb dL_law_655 rfl (lv_at hl 1 rfl) ?_
          refine lv_aload_n hx hb dL_law_656 rfl (lv_at hl 0 rfl) ?_
          refine lv_iload_n hx hb dL_law_657 rfl (lv_at hl 3 rfl) ?_
          refine lv_iconst (v := 1) hx hb dL_law_658 (by decide) ?_
          refine lv_iadd hx hb dL_law_659 ?_
          obtain ⟨c211, h⟩ := hq_g h
          refine va_sld hx hb hX hbl hbA (hI.S h0) c211 dL_law_660 ?_
          obtain ⟨g213, h⟩ := hq_g h
          obtain ⟨v215, S214, g212, h⟩ := hq_bd2 h
          refine hq_calli hI (va_runV (As := [.int (xs (Int32.toNatClampNeg (x7 + 1)))]) (rest := []) ⟨hx, hb, hml, hown, hts⟩ (c_X11_beats l D kA ρ HB S8 S.2 (xs (Int32.toNatClampNeg (x7 + 1))) _ g212) (cwV 1 hts (gdIn (List.forall_mem_cons.mpr ⟨kw_693, (List.forall_mem_cons.mpr ⟨kw_694, (List.forall_mem_cons.mpr ⟨kw_695, (List.forall_mem_cons.mpr ⟨kw_1, (fun _ h => absurd h List.not_mem_nil)⟩)⟩)⟩)⟩) kw_696) rfl rfl rfl ye_X11_beats ⟨Nat.le_of_ble_eq_true rfl, Nat.le_of_ble_eq_true rfl⟩) (hq_preC hE hI g213 rfl _) rfl rfl hl.1 rfl (lv_room (Nat.le_of_ble_eq_true rfl)) dL_law_661 ⟨by show (_ : Nat) ≤ 600000; omega, by show (_ : Nat) ≤ 7302250; omega⟩) (fun H locs hI => ?_)
          refine lv_aload_n hx hb dL_law_664 rfl (lv_at hl 2 rfl) ?_
          refine lv_aload_n hx hb dL_law_665 rfl (lv_at hl 0 rfl) ?_
          refine lv_iload_n hx hb dL_law_666 rfl (lv_at hl 3 rfl) ?_
          refine lv_iconst (v := 1) hx hb dL_law_667 (by decide) ?_
          refine lv_iadd hx hb dL_law_668 ?_
          obtain ⟨c216, h⟩ := hq_g h
          refine va_sld hx hb hX hbl hbA (hI.S h0) c216 dL_law_669 ?_
          obtain ⟨g218, h⟩ := hq_g h
          obtain ⟨v220, S219, g217, h⟩ := hq_bd2 h
          refine hq_calli hI (va_runV (As := [.int (xs (Int32.toNatClampNeg (x7 + 1)))]) (rest := [.int v215]) ⟨hx, hb, hml, hown, hts⟩ (c_X12_beats l D kA ρ HB S214 S3.2 (xs (Int32.toNatClampNeg (x7 + 1))) _ g217) (cwV 1 hts (gdIn (List.forall_mem_cons.mpr ⟨kw_1227, (List.forall_mem_cons.mpr ⟨kw_1228, (List.forall_mem_cons.mpr ⟨kw_1229, (List.forall_mem_cons.mpr ⟨kw_6, (fun _ h => absurd h List.not_mem_nil)⟩)⟩)⟩)⟩) kw_1230) rfl rfl rfl ye_X12_beats ⟨Nat.le_of_ble_eq_true rfl, Nat.le_of_ble_eq_true rfl⟩) (hq_preC hE hI g218 rfl _) rfl rfl hl.1 rfl (lv_room (Nat.le_of_ble_eq_true rfl)) dL_law_670 ⟨by show (_ : Nat) ≤ 600000; omega, by show (_ : Nat) ≤ 7302250; omega⟩) (fun H locs hI => ?_)
          refine lv_icmp_eq (tgt := 1286) hx hb dL_law_673 (by decide) (fun c221 => ?_) (fun c221 => ?_)
          · have h := hq_t h c221
            refine lv_iinc (v := (x7 + 6)) (lv' := [(3, .int (x7 + 6)), (0, .ref b), (1, .ref S.2), (2, .ref S3.2)]) hx hb dL_law_1286 hl (k := 3) rfl rfl (by decide) rfl (fun ls hl => ?_)
            refine lv_goto (tgt := 18) hx hb dL_law_1289 (by decide) ?_
            exact ih18 (x7 + 6) S219 _ _ _ _ _ h hI (by omega) (by omega) (lv_sub hl [1, 2, 3, 0] rfl)
          · have h := hq_f h c221
            refine lv_iconst (v := 0) hx hb dL_law_676 (by decide) ?_
            cases h
        have h := hq_f h c23
        by_cases c24 : ((xs (Int32.toNatClampNeg x7)) &&& 31) = 13
        · have h := hq_t h c24
          refine lv_tableIn (tgt := 678) hx hb dL_law_33 (by rw [c24]; decide) (by rw [c24]; decide) (by rw [c24]; rfl) (by decide) ?_
          refine lv_aload_n hx hb dL_law_678 rfl (lv_at hl 1 rfl) ?_
          refine lv_aload_n hx hb dL_law_679 rfl (lv_at hl 0 rfl) ?_
          refine lv_iload_n hx hb dL_law_680 rfl (lv_at hl 3 rfl) ?_
          refine lv_iconst (v := 1) hx hb dL_law_681 (by decide) ?_
          refine lv_iadd hx hb dL_law_682 ?_
          obtain ⟨c222, h⟩ := hq_g h
          refine va_sld hx hb hX hbl hbA (hI.S h0) c222 dL_law_683 ?_
          obtain ⟨g224, h⟩ := hq_g h
          obtain ⟨v226, S225, g223, h⟩ := hq_bd2 h
          refine hq_calli hI (va_runV (As := [.int (xs (Int32.toNatClampNeg (x7 + 1)))]) (rest := []) ⟨hx, hb, hml, hown, hts⟩ (c_X11_otherwise l D kA ρ HB S8 S.2 (xs (Int32.toNatClampNeg (x7 + 1))) _ g223) (cwV 1 hts (gdIn (List.forall_mem_cons.mpr ⟨kw_701, (List.forall_mem_cons.mpr ⟨kw_702, (List.forall_mem_cons.mpr ⟨kw_703, (List.forall_mem_cons.mpr ⟨kw_1, (fun _ h => absurd h List.not_mem_nil)⟩)⟩)⟩)⟩) kw_704) rfl rfl rfl ye_X11_otherwise ⟨Nat.le_of_ble_eq_true rfl, Nat.le_of_ble_eq_true rfl⟩) (hq_preC hE hI g224 rfl _) rfl rfl hl.1 rfl (lv_room (Nat.le_of_ble_eq_true rfl)) dL_law_684 ⟨by show (_ : Nat) ≤ 600000; omega, by show (_ : Nat) ≤ 7302250; omega⟩) (fun H locs hI => ?_)
          refine lv_aload_n hx hb dL_law_687 rfl (lv_at hl 2 rfl) ?_
          refine lv_aload_n hx hb dL_law_688 rfl (lv_at hl 0 rfl) ?_
          refine lv_iload_n hx hb dL_law_689 rfl (lv_at hl 3 rfl) ?_
          refine lv_iconst (v := 1) hx hb dL_law_690 (by decide) ?_
          refine lv_iadd hx hb dL_law_691 ?_
          obtain ⟨c227, h⟩ := hq_g h
          refine va_sld hx hb hX hbl hbA (hI.S h0) c227 dL_law_692 ?_
          obtain ⟨g229, h⟩ := hq_g h
          obtain ⟨v231, S230, g228, h⟩ := hq_bd2 h
          refine hq_calli hI (va_runV (As := [.int (xs (Int32.toNatClampNeg (x7 + 1)))]) (rest := [.int v226]) ⟨hx, hb, hml, hown, hts⟩ (c_X12_otherwise l D kA ρ HB S225 S3.2 (xs (Int32.toNatClampNeg (x7 + 1))) _ g228) (cwV 1 hts (gdIn (List.forall_mem_cons.mpr ⟨kw_1231, (List.forall_mem_cons.mpr ⟨kw_1232, (List.forall_mem_cons.mpr ⟨kw_1233, (List.forall_mem_cons.mpr ⟨kw_6, (fun _ h => absurd h List.not_mem_nil)⟩)⟩)⟩)⟩) kw_1234) rfl rfl rfl ye_X12_otherwise ⟨Nat.le_of_ble_eq_true rfl, Nat.le_of_ble_eq_true rfl⟩) (hq_preC hE hI g229 rfl _) rfl rfl hl.1 rfl (lv_room (Nat.le_of_ble_eq_true rfl)) dL_law_693 ⟨by show (_ : Nat) ≤ 600000; omega, by show (_ : Nat) ≤ 7302250; omega⟩) (fun H locs hI => ?_)
          refine lv_icmp_eq (tgt := 1286) hx hb dL_law_696 (by decide) (fun c232 => ?_) (fun c232 => ?_)
          · have h := hq_t h c232
            refine lv_iinc (v := (x7 + 6)) (lv' := [(3, .int (x7 + 6)), (0, .ref b), (1, .ref S.2), (2, .ref S3.2)]) hx hb dL_law_1286 hl (k := 3) rfl rfl (by decide) rfl (fun ls hl => ?_)
            refine lv_goto (tgt := 18) hx hb dL_law_1289 (by decide) ?_
            exact ih18 (x7 + 6) S230 _ _ _ _ _ h hI (by omega) (by omega) (lv_sub hl [1, 2, 3, 0] rfl)
          · have h := hq_f h c232
            refine lv_iconst (v := 0) hx hb dL_law_699 (by decide) ?_
            cases h
        have h := hq_f h c24
        by_cases c25 : ((xs (Int32.toNatClampNeg x7)) &&& 31) = 14
        · have h := hq_t h c25
          refine lv_tableIn (tgt := 701) hx hb dL_law_33 (by rw [c25]; decide) (by rw [c25]; decide) (by rw [c25]; rfl) (by decide) ?_
          refine lv_aload_n hx hb dL_law_701 rfl (lv_at hl 1 rfl) ?_
          refine lv_aload_n hx hb dL_law_702 rfl (lv_at hl 0 rfl) ?_
          refine lv_iload_n hx hb dL_law_703 rfl (lv_at hl 3 rfl) ?_
          refine lv_iconst (v := 1) hx hb dL_law_704 (by decide) ?_
          refine lv_iadd hx hb dL_law_705 ?_
          obtain ⟨c233, h⟩ := hq_g h
          refine va_sld hx hb hX hbl hbA (hI.S h0) c233 dL_law_706 ?_
          refine lv_aload_n hx hb dL_law_707 rfl (lv_at hl 0 rfl) ?_
          refine lv_iload_n hx hb dL_law_708 rfl (lv_at hl 3 rfl) ?_
          refine lv_iconst (v := 2) hx hb dL_law_709 (by decide) ?_
          refine lv_iadd hx hb dL_law_710 ?_
          obtain ⟨c234, h⟩ := hq_g h
          refine va_sld hx hb hX hbl hbA (hI.S h0) c234 dL_law_711 ?_
          obtain ⟨g236, h⟩ := hq_g h
          obtain ⟨v238, S237, g235, h⟩ := hq_bd2 h
          refine hq_calli hI (va_runV (As := [.int (xs (Int32.toNatClampNeg (x7 + 1))), .int (xs (Int32.toNatClampNeg (x7 + 2)))]) (rest := []) ⟨hx, hb, hml, hown, hts⟩ (c_X11_afterwards l D kA ρ HB S8 S.2 (xs (Int32.toNatClampNeg (x7 + 1))) (xs (Int32.toNatClampNeg (x7 + 2))) _ g235) (cwV 2 hts (gdIn (List.forall_mem_cons.mpr ⟨kw_709, (List.forall_mem_cons.mpr ⟨kw_710, (List.forall_mem_cons.mpr ⟨kw_711, (List.forall_mem_cons.mpr ⟨kw_1, (fun _ h => absurd h List.not_mem_nil)⟩)⟩)⟩)⟩) kw_712) rfl rfl rfl ye_X11_afterwards ⟨Nat.le_of_ble_eq_true rfl, Nat.le_of_ble_eq_true rfl⟩) (hq_preC hE hI g236 rfl _) rfl rfl hl.1 rfl (lv_room (Nat.le_of_ble_eq_true rfl)) dL_law_712 ⟨by show (_ : Nat) ≤ 600000; omega, by show (_ : Nat) ≤ 7302250; omega⟩) (fun H locs hI => ?_)
          refine lv_aload_n hx hb dL_law_715 rfl (lv_at hl 2 rfl) ?_
          refine lv_aload_n hx hb dL_law_716 rfl (lv_at hl 0 rfl) ?_
          refine lv_iload_n hx hb dL_law_717 rfl (lv_at hl 3 rfl) ?_
          refine lv_iconst (v := 1) hx hb dL_law_718 (by decide) ?_
          refine lv_iadd hx hb dL_law_719 ?_
          obtain ⟨c239, h⟩ := hq_g h
          refine va_sld hx hb hX hbl hbA (hI.S h0) c239 dL_law_720 ?_
          refine lv_aload_n hx hb dL_law_721 rfl (lv_at hl 0 rfl) ?_
          refine lv_iload_n hx hb dL_law_722 rfl (lv_at hl 3 rfl) ?_
          refine lv_iconst (v := 2) hx hb dL_law_723 (by decide) ?_
          refine lv_iadd hx hb dL_law_724 ?_
          obtain ⟨c240, h⟩ := hq_g h
          refine va_sld hx hb hX hbl hbA (hI.S h0) c240 dL_law_725 ?_
          obtain ⟨g242, h⟩ := hq_g h
          obtain ⟨v244, S243, g241, h⟩ := hq_bd2 h
          refine hq_calli hI (va_runV (As := [.int (xs (Int32.toNatClampNeg (x7 + 1))), .int (xs (Int32.toNatClampNeg (x7 + 2)))]) (rest := [.int v238]) ⟨hx, hb, hml, hown, hts⟩ (c_X12_afterwards l D kA ρ HB S237 S3.2 (xs (Int32.toNatClampNeg (x7 + 1))) (xs (Int32.toNatClampNeg (x7 + 2))) _ g241) (cwV 2 hts (gdIn (List.forall_mem_cons.mpr ⟨kw_1235, (List.forall_mem_cons.mpr ⟨kw_1236, (List.forall_mem_cons.mpr ⟨kw_1237, (List.forall_mem_cons.mpr ⟨kw_6, (fun _ h => absurd h List.not_mem_nil)⟩)⟩)⟩)⟩) kw_1238) rfl rfl rfl ye_X12_afterwards ⟨Nat.le_of_ble_eq_true rfl, Nat.le_of_ble_eq_true rfl⟩) (hq_preC hE hI g242 rfl _) rfl rfl hl.1 rfl (lv_room (Nat.le_of_ble_eq_true rfl)) dL_law_726 ⟨by show (_ : Nat) ≤ 600000; omega, by show (_ : Nat) ≤ 7302250; omega⟩) (fun H locs hI => ?_)
          refine lv_icmp_eq (tgt := 1286) hx hb dL_law_729 (by decide) (fun c245 => ?_) (fun c245 => ?_)
          · have h := hq_t h c245
            refine lv_iinc (v := (x7 + 6)) (lv' := [(3, .int (x7 + 6)), (0, .ref b), (1, .ref S.2), (2, .ref S3.2)]) hx hb dL_law_1286 hl (k := 3) rfl rfl (by decide) rfl (fun ls hl => ?_)
            refine lv_goto (tgt := 18) hx hb dL_law_1289 (by decide) ?_
            exact ih18 (x7 + 6) S243 _ _ _ _ _ h hI (by omega) (by omega) (lv_sub hl [1, 2, 3, 0] rfl)
          · have h := hq_f h c245
            refine lv_iconst (v := 0) hx hb dL_law_732 (by decide) ?_
            cases h
        have h := hq_f h c25
        by_cases c26 : ((xs (Int32.toNatClampNeg x7)) &&& 31) = 15
        · have h := hq_t h c26
          refine lv_tableIn (tgt := 734) hx hb dL_law_33 (by rw [c26]; decide) (by rw [c26]; decide) (by rw [c26]; rfl) (by decide) ?_
          refine lv_aload_n hx hb dL_law_734 rfl (lv_at hl 1 rfl) ?_
          obtain ⟨g247, h⟩ := hq_g h
          obtain ⟨v249, S248, g246, h⟩ := hq_bd2 h
          refine hq_calli hI (va_runV (As := []) (rest := []) ⟨hx, hb, hml, hown, hts⟩ (c_X11_law l D kA ρ HB S8 S.2 _ g246) (cwV 0 hts (gdIn (List.forall_mem_cons.mpr ⟨kw_717, (List.forall_mem_cons.mpr ⟨kw_718, (List.forall_mem_cons.mpr ⟨kw_719, (List.forall_mem_cons.mpr ⟨kw_1, (fun _ h => absurd h List.not_mem_nil)⟩)⟩)⟩)⟩) kw_720) rfl rfl rfl ye_X11_law ⟨Nat.le_of_ble_eq_true rfl, Nat.le_of_ble_eq_true rfl⟩) (hq_preC hE hI g247 rfl _) rfl rfl hl.1 rfl (lv_room (Nat.le_of_ble_eq_true rfl)) dL_law_735 ⟨by show (_ : Nat) ≤ 600000; omega, by show (_ : Nat) ≤ 7302250; omega⟩) (fun H locs hI => ?_)
          refine lv_aload_n hx hb dL_law_738 rfl (lv_at hl 2 rfl) ?_
          obtain ⟨g251, h⟩ := hq_g h
          obtain ⟨v253, S252, g250, h⟩ := hq_bd2 h
          refine hq_calli hI (va_runV (As := []) (rest := [.int v249]) ⟨hx, hb, hml, hown, hts⟩ (c_X12_law l D kA ρ HB S248 S3.2 _ g250) (cwV 0 hts (gdIn (List.forall_mem_cons.mpr ⟨kw_1125, (List.forall_mem_cons.mpr ⟨kw_1126, (List.forall_mem_cons.mpr ⟨kw_1127, (List.forall_mem_cons.mpr ⟨kw_6, (fun _ h => absurd h List.not_mem_nil)⟩)⟩)⟩)⟩) kw_1128) rfl rfl rfl ye_X12_law ⟨Nat.le_of_ble_eq_true rfl, Nat.le_of_ble_eq_true rfl⟩) (hq_preC hE hI g251 rfl _) rfl rfl hl.1 rfl (lv_room (Nat.le_of_ble_eq_true rfl)) dL_law_739 ⟨by show (_ : Nat) ≤ 600000; omega, by show (_ : Nat) ≤ 7302250; omega⟩) (fun H locs hI => ?_)
          refine lv_icmp_eq (tgt := 1286) hx hb dL_law_742 (by decide) (fun c254 => ?_) (fun c254 => ?_)
          · have h := hq_t h c254
            refine lv_iinc (v := (x7 + 6)) (lv' := [(3, .int (x7 + 6)), (0, .ref b), (1, .ref S.2), (2, .ref S3.2)]) hx hb dL_law_1286 hl (k := 3) rfl rfl (by decide) rfl (fun ls hl => ?_)
            refine lv_goto (tgt := 18) hx hb dL_law_1289 (by decide) ?_
            exact ih18 (x7 + 6) S252 _ _ _ _ _ h hI (by omega) (by omega) (lv_sub hl [1, 2, 3, 0] rfl)
          · have h := hq_f h c254
            refine lv_iconst (v := 0) hx hb dL_law_745 (by decide) ?_
            cases h
        have h := hq_f h c26
        by_cases c27 : ((xs (Int32.toNatClampNeg x7)) &&& 31) = 16
        · have h := hq_t h c27
          refine lv_tableIn (tgt := 747) hx hb dL_law_33 (by rw [c27]; decide) (by rw [c27]; decide) (by rw [c27]; rfl) (by decide) ?_
          refine lv_aload_n hx hb dL_law_747 rfl (lv_at hl 1 rfl) ?_
          refine lv_aload_n hx hb dL_law_748 rfl (lv_at hl 0 rfl) ?_
          refine lv_iload_n hx hb dL_law_749 rfl (lv_at hl 3 rfl) ?_
          refine lv_iconst (v := 1) hx hb dL_law_750 (by decide) ?_
          refine lv_iadd hx hb dL_law_751 ?_
          obtain ⟨c255, h⟩ := hq_g h
          refine va_sld hx hb hX hbl hbA (hI.S h0) c255 dL_law_752 ?_
          refine lv_aload_n hx hb dL_law_753 rfl (lv_at hl 0 rfl) ?_
          refine lv_iload_n hx hb dL_law_754 rfl (lv_at hl 3 rfl) ?_
          refine lv_iconst (v := 2) hx hb dL_law_755 (by decide) ?_
          refine lv_iadd hx hb dL_law_756 ?_
          obtain ⟨c256, h⟩ := hq_g h
          refine va_sld hx hb hX hbl hbA (hI.S h0) c256 dL_law_757 ?_
          obtain ⟨g258, h⟩ := hq_g h
          obtain ⟨v260, S259, g257, h⟩ := hq_bd2 h
          refine hq_calli hI (va_runV (As := [.int (xs (Int32.toNatClampNeg (x7 + 1))), .int (xs (Int32.toNatClampNeg (x7 + 2)))]) (rest := []) ⟨hx, hb, hml, hown, hts⟩ (c_X11_says l D kA ρ HB S8 S.2 (xs (Int32.toNatClampNeg (x7 + 1))) (xs (Int32.toNatClampNeg (x7 + 2))) _ g257) (cwV 2 hts (gdIn (List.forall_mem_cons.mpr ⟨kw_721, (List.forall_mem_cons.mpr ⟨kw_722, (List.forall_mem_cons.mpr ⟨kw_723, (List.forall_mem_cons.mpr ⟨kw_1, (fun _ h => absurd h List.not_mem_nil)⟩)⟩)⟩)⟩) kw_724) rfl rfl rfl ye_X11_says ⟨Nat.le_of_ble_eq_true rfl, Nat.le_of_ble_eq_true rfl⟩) (hq_preC hE hI g258 rfl _) rfl rfl hl.1 rfl (lv_room (Nat.le_of_ble_eq_true rfl)) dL_law_758 ⟨by show (_ : Nat) ≤ 600000; omega, by show (_ : Nat) ≤ 7302250; omega⟩) (fun H locs hI => ?_)
          refine lv_aload_n hx hb dL_law_761 rfl (lv_at hl 2 rfl) ?_
          refine lv_aload_n hx hb dL_law_762 rfl (lv_at hl 0 rfl) ?_
          refine lv_iload_n hx hb dL_law_763 rfl (lv_at hl 3 rfl) ?_
          refine lv_iconst (v := 1) hx hb dL_law_764 (by decide) ?_
          refine lv_iadd hx hb dL_law_765 ?_
          obtain ⟨c261, h⟩ := hq_g h
          refine va_sld hx hb hX hbl hbA (hI.S h0) c261 dL_law_766 ?_
          refine lv_aload_n hx hb dL_law_767 rfl (lv_at hl 0 rfl) ?_
          refine lv_iload_n hx hb dL_law_768 rfl (lv_at hl 3 rfl) ?_
          refine lv_iconst (v := 2) hx hb dL_law_769 (by decide) ?_
          refine lv_iadd hx hb dL_law_770 ?_
          obtain ⟨c262, h⟩ := hq_g h
          refine va_sld hx hb hX hbl hbA (hI.S h0) c262 dL_law_771 ?_
          obtain ⟨g264, h⟩ := hq_g h
          obtain ⟨v266, S265, g263, h⟩ := hq_bd2 h
          refine hq_calli hI (va_runV (As := [.int (xs (Int32.toNatClampNeg (x7 + 1))), .int (xs (Int32.toNatClampNeg (x7 + 2)))]) (rest := [.int v260]) ⟨hx, hb, hml, hown, hts⟩ (c_X12_says l D kA ρ HB S259 S3.2 (xs (Int32.toNatClampNeg (x7 + 1))) (xs (Int32.toNatClampNeg (x7 + 2))) _ g263) (cwV 2 hts (gdIn (List.forall_mem_cons.mpr ⟨kw_1239, (List.forall_mem_cons.mpr ⟨kw_1240, (List.forall_mem_cons.mpr ⟨kw_1241, (List.forall_mem_cons.mpr ⟨kw_6, (fun _ h => absurd h List.not_mem_nil)⟩)⟩)⟩)⟩) kw_1242) rfl rfl rfl ye_X12_says ⟨Nat.le_of_ble_eq_true rfl, Nat.le_of_ble_eq_true rfl⟩) (hq_preC hE hI g264 rfl _) rfl rfl hl.1 rfl (lv_room (Nat.le_of_ble_eq_true rfl)) dL_law_772 ⟨by show (_ : Nat) ≤ 600000; omega, by show (_ : Nat) ≤ 7302250; omega⟩) (fun H locs hI => ?_)
          refine lv_icmp_eq (tgt := 1286) hx hb dL_law_775 (by decide) (fun c267 => ?_) (fun c267 => ?_)
          · have h := hq_t h c267
            refine lv_iinc (v := (x7 + 6)) (lv' := [(3, .int (x7 + 6)), (0, .ref b), (1, .ref S.2), (2, .ref S3.2)]) hx hb dL_law_1286 hl (k := 3) rfl rfl (by decide) rfl (fun ls hl => ?_)
            refine lv_goto (tgt := 18) hx hb dL_law_1289 (by decide) ?_
            exact ih18 (x7 + 6) S265 _ _ _ _ _ h hI (by omega) (by omega) (lv_sub hl [1, 2, 3, 0] rfl)
          · have h := hq_f h c267
            refine lv_iconst (v := 0) hx hb dL_law_778 (by decide) ?_
            cases h
        have h := hq_f h c27
        by_cases c28 : ((xs (Int32.toNatClampNeg x7)) &&& 31) = 17
        · have h := hq_t h c28
          refine lv_tableIn (tgt := 780) hx hb dL_law_33 (by rw [c28]; decide) (by rw [c28]; decide) (by rw [c28]; rfl) (by decide) ?_
          refine lv_aload_n hx hb dL_law_780 rfl (lv_at hl 1 rfl) ?_
          refine lv_aload_n hx hb dL_law_781 rfl (lv_at hl 0 rfl) ?_
          refine lv_iload_n hx hb dL_law_782 rfl (lv_at hl 3 rfl) ?_
          refine lv_iconst (v := 1) hx hb dL_law_783 (by decide) ?_
          refine lv_iadd hx hb dL_law_784 ?_
          obtain ⟨c268, h⟩ := hq_g h
          refine va_sld hx hb hX hbl hbA (hI.S h0) c268 dL_law_785 ?_
          obtain ⟨g270, h⟩ := hq_g h
          obtain ⟨v272, S271, g269, h⟩ := hq_bd2 h
          refine hq_calli hI (va_runV (As := [.int (xs (Int32.toNatClampNeg (x7 + 1)))]) (rest := []) ⟨hx, hb, hml, hown, hts⟩ (c_X11_cannot l D kA ρ HB S8 S.2 (xs (Int32.toNatClampNeg (x7 + 1))) _ g269) (cwV 1 hts (gdIn (List.forall_mem_cons.mpr ⟨kw_739, (List.forall_mem_cons.mpr ⟨kw_740, (List.forall_mem_cons.mpr ⟨kw_741, (List.forall_mem_cons.mpr ⟨kw_1, (fun _ h => absurd h List.not_mem_nil)⟩)⟩)⟩)⟩) kw_742) rfl rfl rfl ye_X11_cannot ⟨Nat.le_of_ble_eq_true rfl, Nat.le_of_ble_eq_true rfl⟩) (hq_preC hE hI g270 rfl _) rfl rfl hl.1 rfl (lv_room (Nat.le_of_ble_eq_true rfl)) dL_law_786 ⟨by show (_ : Nat) ≤ 600000; omega, by show (_ : Nat) ≤ 7302250; omega⟩) (fun H locs hI => ?_)
          refine lv_aload_n hx hb dL_law_789 rfl (lv_at hl 2 rfl) ?_
          refine lv_aload_n hx hb dL_law_790 rfl (lv_at hl 0 rfl) ?_
          refine lv_iload_n hx hb dL_law_791 rfl (lv_at hl 3 rfl) ?_
          refine lv_iconst (v := 1) hx hb dL_law_792 (by decide) ?_
          refine lv_iadd hx hb dL_law_793 ?_
          obtain ⟨c273, h⟩ := hq_g h
          refine va_sld hx hb hX hbl hbA (hI.S h0) c273 dL_law_794 ?_
          obtain ⟨g275, h⟩ := hq_g h
          obtain ⟨v277, S276, g274, h⟩ := hq_bd2 h
          refine hq_calli hI (va_runV (As := [.int (xs (Int32.toNatClampNeg (x7 + 1)))]) (rest := [.int v272]) ⟨hx, hb, hml, hown, hts⟩ (c_X12_cannot l D kA ρ HB S271 S3.2 (xs (Int32.toNatClampNeg (x7 + 1))) _ g274) (cwV 1 hts (gdIn (List.forall_mem_cons.mpr ⟨kw_1255, (List.forall_mem_cons.mpr ⟨kw_1256, (List.forall_mem_cons.mpr ⟨kw_1257, (List.forall_mem_cons.mpr ⟨kw_6, (fun _ h => absurd h List.not_mem_nil)⟩)⟩)⟩)⟩) kw_1258) rfl rfl rfl ye_X12_cannot ⟨Nat.le_of_ble_eq_true rfl, Nat.le_of_ble_eq_true rfl⟩) (hq_preC hE hI g275 rfl _) rfl rfl hl.1 rfl (lv_room (Nat.le_of_ble_eq_true rfl)) dL_law_795 ⟨by show (_ : Nat) ≤ 600000; omega, by show (_ : Nat) ≤ 7302250; omega⟩) (fun H locs hI => ?_)
          refine lv_icmp_eq (tgt := 1286) hx hb dL_law_798 (by decide) (fun c278 => ?_) (fun c278 => ?_)
          · have h := hq_t h c278
            refine lv_iinc (v := (x7 + 6)) (lv' := [(3, .int (x7 + 6)), (0, .ref b), (1, .ref S.2), (2, .ref S3.2)]) hx hb dL_law_1286 hl (k := 3) rfl rfl (by decide) rfl (fun ls hl => ?_)
            refine lv_goto (tgt := 18) hx hb dL_law_1289 (by decide) ?_
            exact ih18 (x7 + 6) S276 _ _ _ _ _ h hI (by omega) (by omega) (lv_sub hl [1, 2, 3, 0] rfl)
          · have h := hq_f h c278
            refine lv_iconst (v := 0) hx hb dL_law_801 (by decide) ?_
            cases h
        have h := hq_f h c28
        by_cases c29 : ((xs (Int32.toNatClampNeg x7)) &&& 31) = 18
        · have h := hq_t h c29
          refine lv_tableIn (tgt := 803) hx hb dL_law_33 (by rw [c29]; decide) (by rw [c29]; decide) (by rw [c29]; rfl) (by decide) ?_
          refine lv_aload_n hx hb dL_law_803 rfl (lv_at hl 1 rfl) ?_
          refine lv_aload_n hx hb dL_law_804 rfl (lv_at hl 0 rfl) ?_
          refine lv_iload_n hx hb dL_law_805 rfl (lv_at hl 3 rfl) ?_
          refine lv_iconst (v := 1) hx hb dL_law_806 (by decide) ?_
          refine lv_iadd hx hb dL_law_807 ?_
          obtain ⟨c279, h⟩ := hq_g h
          refine va_sld hx hb hX hbl hbA (hI.S h0) c279 dL_law_808 ?_
          refine lv_aload_n hx hb dL_law_809 rfl (lv_at hl 0 rfl) ?_
          refine lv_iload_n hx hb dL_law_810 rfl (lv_at hl 3 rfl) ?_
          refine lv_iconst (v := 2) hx hb dL_law_811 (by decide) ?_
          refine lv_iadd hx hb dL_law_812 ?_
          obtain ⟨c280, h⟩ := hq_g h
          refine va_sld hx hb hX hbl hbA (hI.S h0) c280 dL_law_813 ?_
          obtain ⟨g282, h⟩ := hq_g h
          obtain ⟨v284, S283, g281, h⟩ := hq_bd2 h
          refine hq_calli hI (va_runV (As := [.int (xs (Int32.toNatClampNeg (x7 + 1))), .int (xs (Int32.toNatClampNeg (x7 + 2)))]) (rest := []) ⟨hx, hb, hml, hown, hts⟩ (c_X11_fits l D kA ρ HB S8 S.2 (xs (Int32.toNatClampNeg (x7 + 1))) (xs (Int32.toNatClampNeg (x7 + 2))) _ g281) (cwV 2 hts (gdIn (List.forall_mem_cons.mpr ⟨kw_747, (List.forall_mem_cons.mpr ⟨kw_748, (List.forall_mem_cons.mpr ⟨kw_749, (List.forall_mem_cons.mpr ⟨kw_1, (fun _ h => absurd h List.not_mem_nil)⟩)⟩)⟩)⟩) kw_750) rfl rfl rfl ye_X11_fits ⟨Nat.le_of_ble_eq_true rfl, Nat.le_of_ble_eq_true rfl⟩) (hq_preC hE hI g282 rfl _) rfl rfl hl.1 rfl (lv_room (Nat.le_of_ble_eq_true rfl)) dL_law_814 ⟨by show (_ : Nat) ≤ 600000; omega, by show (_ : Nat) ≤ 7302250; omega⟩) (fun H locs hI => ?_)
          refine lv_aload_n hx hb dL_law_817 rfl (lv_at hl 2 rfl) ?_
          refine lv_aload_n hx hb dL_law_818 rfl (lv_at hl 0 rfl) ?_
          refine lv_iload_n hx hb dL_law_819 rfl (lv_at hl 3 rfl) ?_
          refine lv_iconst (v := 1) hx hb dL_law_820 (by decide) ?_
          refine lv_iadd hx hb dL_law_821 ?_
          obtain ⟨c285, h⟩ := hq_g h
          refine va_sld hx hb hX hbl hbA (hI.S h0) c285 dL_law_822 ?_
          refine lv_aload_n hx hb dL_law_823 rfl (lv_at hl 0 rfl) ?_
          refine lv_iload_n hx hb dL_law_824 rfl (lv_at hl 3 rfl) ?_
          refine lv_iconst (v := 2) hx hb dL_law_825 (by decide) ?_
          refine lv_iadd hx hb dL_law_826 ?_
          obtain ⟨c286, h⟩ := hq_g h
          refine va_sld hx hb hX hbl hbA (hI.S h0) c286 dL_law_827 ?_
          obtain ⟨g288, h⟩ := hq_g h
          obtain ⟨v290, S289, g287, h⟩ := hq_bd2 h
          refine hq_calli hI (va_runV (As := [.int (xs (Int32.toNatClampNeg (x7 + 1))), .int (xs (Int32.toNatClampNeg (x7 + 2)))]) (rest := [.int v284]) ⟨hx, hb, hml, hown, hts⟩ (c_X12_fits l D kA ρ HB S283 S3.2 (xs (Int32.toNatClampNeg (x7 + 1))) (xs (Int32.toNatClampNeg (x7 + 2))) _ g287) (cwV 2 hts (gdIn (List.forall_mem_cons.mpr ⟨kw_1263, (List.forall_mem_cons.mpr ⟨kw_1264, (List.forall_mem_cons.mpr ⟨kw_1265, (List.forall_mem_cons.mpr ⟨kw_6, (fun _ h => absurd h List.not_mem_nil)⟩)⟩)⟩)⟩) kw_1266) rfl rfl rfl ye_X12_fits ⟨Nat.le_of_ble_eq_true rfl, Nat.le_of_ble_eq_true rfl⟩) (hq_preC hE hI g288 rfl _) rfl rfl hl.1 rfl (lv_room (Nat.le_of_ble_eq_true rfl)) dL_law_828 ⟨by show (_ : Nat) ≤ 600000; omega, by show (_ : Nat) ≤ 7302250; omega⟩) (fun H locs hI => ?_)
          refine lv_icmp_eq (tgt := 1286) hx hb dL_law_831 (by decide) (fun c291 => ?_) (fun c291 => ?_)
          · have h := hq_t h c291
            refine lv_iinc (v := (x7 + 6)) (lv' := [(3, .int (x7 + 6)), (0, .ref b), (1, .ref S.2), (2, .ref S3.2)]) hx hb dL_law_1286 hl (k := 3) rfl rfl (by decide) rfl (fun ls hl => ?_)
            refine lv_goto (tgt := 18) hx hb dL_law_1289 (by decide) ?_
            exact ih18 (x7 + 6) S289 _ _ _ _ _ h hI (by omega) (by omega) (lv_sub hl [1, 2, 3, 0] rfl)
          · have h := hq_f h c291
            refine lv_iconst (v := 0) hx hb dL_law_834 (by decide) ?_
            cases h
        have h := hq_f h c29
        by_cases c30 : ((xs (Int32.toNatClampNeg x7)) &&& 31) = 19
        · have h := hq_t h c30
          refine lv_tableIn (tgt := 836) hx hb dL_law_33 (by rw [c30]; decide) (by rw [c30]; decide) (by rw [c30]; rfl) (by decide) ?_
          refine lv_aload_n hx hb dL_law_836 rfl (lv_at hl 1 rfl) ?_
          refine lv_aload_n hx hb dL_law_837 rfl (lv_at hl 0 rfl) ?_
          refine lv_iload_n hx hb dL_law_838 rfl (lv_at hl 3 rfl) ?_
          refine lv_iconst (v := 1) hx hb dL_law_839 (by decide) ?_
          refine lv_iadd hx hb dL_law_840 ?_
          obtain ⟨c292, h⟩ := hq_g h
          refine va_sld hx hb hX hbl hbA (hI.S h0) c292 dL_law_841 ?_
          obtain ⟨g294, h⟩ := hq_g h
          obtain ⟨v296, S295, g293, h⟩ := hq_bd2 h
          refine hq_calli hI (va_runV (As := [.int (xs (Int32.toNatClampNeg (x7 + 1)))]) (rest := []) ⟨hx, hb, hml, hown, hts⟩ (c_X11_let l D kA ρ HB S8 S.2 (xs (Int32.toNatClampNeg (x7 + 1))) _ g293) (cwV 1 hts (gdIn (List.forall_mem_cons.mpr ⟨kw_751, (List.forall_mem_cons.mpr ⟨kw_752, (List.forall_mem_cons.mpr ⟨kw_753, (List.forall_mem_cons.mpr ⟨kw_1, (fun _ h => absurd h List.not_mem_nil)⟩)⟩)⟩)⟩) kw_754) rfl rfl rfl ye_X11_let ⟨Nat.le_of_ble_eq_true rfl, Nat.le_of_ble_eq_true rfl⟩) (hq_preC hE hI g294 rfl _) rfl rfl hl.1 rfl (lv_room (Nat.le_of_ble_eq_true rfl)) dL_law_842 ⟨by show (_ : Nat) ≤ 600000; omega, by show (_ : Nat) ≤ 7302250; omega⟩) (fun H locs hI => ?_)
          refine lv_aload_n hx hb dL_law_845 rfl (lv_at hl 2 rfl) ?_
          refine lv_aload_n hx hb dL_law_846 rfl (lv_at hl 0 rfl) ?_
          refine lv_iload_n hx hb dL_law_847 rfl (lv_at hl 3 rfl) ?_
          refine lv_iconst (v := 1) hx hb dL_law_848 (by decide) ?_
          refine lv_iadd hx hb dL_law_849 ?_
          obtain ⟨c297, h⟩ := hq_g h
          refine va_sld hx hb hX hbl hbA (hI.S h0) c297 dL_law_850 ?_
          obtain ⟨g299, h⟩ := hq_g h
          obtain ⟨v301, S300, g298, h⟩ := hq_bd2 h
          refine hq_calli hI (va_runV (As := [.int (xs (Int32.toNatClampNeg (x7 + 1)))]) (rest := [.int v296]) ⟨hx, hb, hml, hown, hts⟩ (c_X12_let l D kA ρ HB S295 S3.2 (xs (Int32.toNatClampNeg (x7 + 1))) _ g298) (cwV 1 hts (gdIn (List.forall_mem_cons.mpr ⟨kw_1271, (List.forall_mem_cons.mpr ⟨kw_1272, (List.forall_mem_cons.mpr ⟨kw_1273, (List.forall_mem_cons.mpr ⟨kw_6, (fun _ h => absurd h List.not_mem_nil)⟩)⟩)⟩)⟩) kw_1274) rfl rfl rfl ye_X12_let ⟨Nat.le_of_ble_eq_true rfl, Nat.le_of_ble_eq_true rfl⟩) (hq_preC hE hI g299 rfl _) rfl rfl hl.1 rfl (lv_room (Nat.le_of_ble_eq_true rfl)) dL_law_851 ⟨by show (_ : Nat) ≤ 600000; omega, by show (_ : Nat) ≤ 7302250; omega⟩) (fun H locs hI => ?_)
          refine lv_icmp_eq (tgt := 1286) hx hb dL_law_854 (by decide) (fun c302 => ?_) (fun c302 => ?_)
          · have h := hq_t h c302
            refine lv_iinc (v := (x7 + 6)) (lv' := [(3, .int (x7 + 6)), (0, .ref b), (1, .ref S.2), (2, .ref S3.2)]) hx hb dL_law_1286 hl (k := 3) rfl rfl (by decide) rfl (fun ls hl => ?_)
            refine lv_goto (tgt := 18) hx hb dL_law_1289 (by decide) ?_
            exact ih18 (x7 + 6) S300 _ _ _ _ _ h hI (by omega) (by omega) (lv_sub hl [1, 2, 3, 0] rfl)
          · have h := hq_f h c302
            refine lv_iconst (v := 0) hx hb dL_law_857 (by decide) ?_
            cases h
        have h := hq_f h c30
        by_cases c31 : ((xs (Int32.toNatClampNeg x7)) &&& 31) = 20
        · have h := hq_t h c31
          refine lv_tableIn (tgt := 859) hx hb dL_law_33 (by rw [c31]; decide) (by rw [c31]; decide) (by rw [c31]; rfl) (by decide) ?_
          refine lv_aload_n hx hb dL_law_859 rfl (lv_at hl 1 rfl) ?_
          refine lv_aload_n hx hb dL_law_860 rfl (lv_at hl 0 rfl) ?_
          refine lv_iload_n hx hb dL_law_861 rfl (lv_at hl 3 rfl) ?_
          refine lv_iconst (v := 1) hx hb dL_law_862 (by decide) ?_
          refine lv_iadd hx hb dL_law_863 ?_
          obtain ⟨c303, h⟩ := hq_g h
          refine va_sld hx hb hX hbl hbA (hI.S h0) c303 dL_law_864 ?_
          refine lv_aload_n hx hb dL_law_865 rfl (lv_at hl 0 rfl) ?_
          refine lv_iload_n hx hb dL_law_866 rfl (lv_at hl 3 rfl) ?_
          refine lv_iconst (v := 2) hx hb dL_law_867 (by decide) ?_
          refine lv_iadd hx hb dL_law_868 ?_
          obtain ⟨c304, h⟩ := hq_g h
          refine va_sld hx hb hX hbl hbA (hI.S h0) c304 dL_law_869 ?_
          refine lv_aload_n hx hb dL_law_870 rfl (lv_at hl 0 rfl) ?_
          refine lv_iload_n hx hb dL_law_871 rfl (lv_at hl 3 rfl) ?_
          refine lv_iconst (v := 3) hx hb dL_law_872 (by decide) ?_
          refine lv_iadd hx hb dL_law_873 ?_
          obtain ⟨c305, h⟩ := hq_g h
          refine va_sld hx hb hX hbl hbA (hI.S h0) c305 dL_law_874 ?_
          refine lv_aload_n hx hb dL_law_875 rfl (lv_at hl 0 rfl) ?_
          refine lv_iload_n hx hb dL_law_876 rfl (lv_at hl 3 rfl) ?_
          refine lv_iconst (v := 4) hx hb dL_law_877 (by decide) ?_
          refine lv_iadd hx hb dL_law_878 ?_
          obtain ⟨c306, h⟩ := hq_g h
          refine va_sld hx hb hX hbl hbA (hI.S h0) c306 dL_law_879 ?_
          refine lv_aload_n hx hb dL_law_880 rfl (lv_at hl 0 rfl) ?_
          refine lv_iload_n hx hb dL_law_881 rfl (lv_at hl 3 rfl) ?_
          refine lv_iconst (v := 5) hx hb dL_law_882 (by decide) ?_
          refine lv_iadd hx hb dL_law_883 ?_
          obtain ⟨c307, h⟩ := hq_g h
          refine va_sld hx hb hX hbl hbA (hI.S h0) c307 dL_law_884 ?_
          obtain ⟨g309, h⟩ := hq_g h
          obtain ⟨v311, S310, g308, h⟩ := hq_bd2 h
          refine hq_calli hI (va_runV (As := [.int (xs (Int32.toNatClampNeg (x7 + 1))), .int (xs (Int32.toNatClampNeg (x7 + 2))), .int (xs (Int32.toNatClampNeg (x7 + 3))), .int (xs (Int32.toNatClampNeg (x7 + 4))), .int (xs (Int32.toNatClampNeg (x7 + 5)))]) (rest := []) ⟨hx, hb, hml, hown, hts⟩ (c_X11_fair l D kA ρ HB S8 S.2 (xs (Int32.toNatClampNeg (x7 + 1))) (xs (Int32.toNatClampNeg (x7 + 2))) (xs (Int32.toNatClampNeg (x7 + 3))) (xs (Int32.toNatClampNeg (x7 + 4))) (xs (Int32.toNatClampNeg (x7 + 5))) _ g308) (cwV 5 hts (gdIn (List.forall_mem_cons.mpr ⟨kw_755, (List.forall_mem_cons.mpr ⟨kw_756, (List.forall_mem_cons.mpr ⟨kw_757, (List.forall_mem_cons.mpr ⟨kw_1, (fun _ h => absurd h List.not_mem_nil)⟩)⟩)⟩)⟩) kw_758) rfl rfl rfl ye_X11_fair ⟨Nat.le_of_ble_eq_true rfl, Nat.le_of_ble_eq_true rfl⟩) (hq_preC hE hI g309 rfl _) rfl rfl hl.1 rfl (lv_room (Nat.le_of_ble_eq_true rfl)) dL_law_885 ⟨by show (_ : Nat) ≤ 600000; omega, by show (_ : Nat) ≤ 7302250; omega⟩) (fun H locs hI => ?_)
          refine lv_aload_n hx hb dL_law_888 rfl (lv_at hl 2 rfl) ?_
          refine lv_aload_n hx hb dL_law_889 rfl (lv_at hl 0 rfl) ?_
          refine lv_iload_n hx hb dL_law_890 rfl (lv_at hl 3 rfl) ?_
          refine lv_iconst (v := 1) hx hb dL_law_891 (by decide) ?_
          refine lv_iadd hx hb dL_law_892 ?_
          obtain ⟨c312, h⟩ := hq_g h
          refine va_sld hx hb hX hbl hbA (hI.S h0) c312 dL_law_893 ?_
          refine lv_aload_n hx hb dL_law_894 rfl (lv_at hl 0 rfl) ?_
          refine lv_iload_n hx hb dL_law_895 rfl (lv_at hl 3 rfl) ?_
          refine lv_iconst (v := 2) hx hb dL_law_896 (by decide) ?_
          refine lv_iadd hx hb dL_law_897 ?_
          obtain ⟨c313, h⟩ := hq_g h
          refine va_sld hx hb hX hbl hbA (hI.S h0) c313 dL_law_898 ?_
          refine lv_aload_n hx hb dL_law_899 rfl (lv_at hl 0 rfl) ?_
          refine lv_iload_n hx hb dL_law_900 rfl (lv_at hl 3 rfl) ?_
          refine lv_iconst (v := 3) hx hb dL_law_901 (by decide) ?_
          refine lv_iadd hx hb dL_law_902 ?_
          obtain ⟨c314, h⟩ := hq_g h
          refine va_sld hx hb hX hbl hbA (hI.S h0) c314 dL_law_903 ?_
          refine lv_aload_n hx hb dL_law_904 rfl (lv_at hl 0 rfl) ?_
          refine lv_iload_n hx hb dL_law_905 rfl (lv_at hl 3 rfl) ?_
          refine lv_iconst (v := 4) hx hb dL_law_906 (by decide) ?_
          refine lv_iadd hx hb dL_law_907 ?_
          obtain ⟨c315, h⟩ := hq_g h
          refine va_sld hx hb hX hbl hbA (hI.S h0) c315 dL_law_908 ?_
          refine lv_aload_n hx hb dL_law_909 rfl (lv_at hl 0 rfl) ?_
          refine lv_iload_n hx hb dL_law_910 rfl (lv_at hl 3 rfl) ?_
          refine lv_iconst (v := 5) hx hb dL_law_911 (by decide) ?_
          refine lv_iadd hx hb dL_law_912 ?_
          obtain ⟨c316, h⟩ := hq_g h
          refine va_sld hx hb hX hbl hbA (hI.S h0) c316 dL_law_913 ?_
          obtain ⟨g318, h⟩ := hq_g h
          obtain ⟨v320, S319, g317, h⟩ := hq_bd2 h
          refine hq_calli hI (va_runV (As := [.int (xs (Int32.toNatClampNeg (x7 + 1))), .int (xs (Int32.toNatClampNeg (x7 + 2))), .int (xs (Int32.toNatClampNeg (x7 + 3))), .int (xs (Int32.toNatClampNeg (x7 + 4))), .int (xs (Int32.toNatClampNeg (x7 + 5)))]) (rest := [.int v311]) ⟨hx, hb, hml, hown, hts⟩ (c_X12_fair l D kA ρ HB S310 S3.2 (xs (Int32.toNatClampNeg (x7 + 1))) (xs (Int32.toNatClampNeg (x7 + 2))) (xs (Int32.toNatClampNeg (x7 + 3))) (xs (Int32.toNatClampNeg (x7 + 4))) (xs (Int32.toNatClampNeg (x7 + 5))) _ g317) (cwV 5 hts (gdIn (List.forall_mem_cons.mpr ⟨kw_1275, (List.forall_mem_cons.mpr ⟨kw_1276, (List.forall_mem_cons.mpr ⟨kw_1277, (List.forall_mem_cons.mpr ⟨kw_6, (fun _ h => absurd h List.not_mem_nil)⟩)⟩)⟩)⟩) kw_1278) rfl rfl rfl ye_X12_fair ⟨Nat.le_of_ble_eq_true rfl, Nat.le_of_ble_eq_true rfl⟩) (hq_preC hE hI g318 rfl _) rfl rfl hl.1 rfl (lv_room (Nat.le_of_ble_eq_true rfl)) dL_law_914 ⟨by show (_ : Nat) ≤ 600000; omega, by show (_ : Nat) ≤ 7302250; omega⟩) (fun H locs hI => ?_)
          refine lv_icmp_eq (tgt := 1286) hx hb dL_law_917 (by decide) (fun c321 => ?_) (fun c321 => ?_)
          · have h := hq_t h c321
            refine lv_iinc (v := (x7 + 6)) (lv' := [(3, .int (x7 + 6)), (0, .ref b), (1, .ref S.2), (2, .ref S3.2)]) hx hb dL_law_1286 hl (k := 3) rfl rfl (by decide) rfl (fun ls hl => ?_)
            refine lv_goto (tgt := 18) hx hb dL_law_1289 (by decide) ?_
            exact ih18 (x7 + 6) S319 _ _ _ _ _ h hI (by omega) (by omega) (lv_sub hl [1, 2, 3, 0] rfl)
          · have h := hq_f h c321
            refine lv_iconst (v := 0) hx hb dL_law_920 (by decide) ?_
            cases h
        have h := hq_f h c31
        by_cases c32 : ((xs (Int32.toNatClampNeg x7)) &&& 31) = 21
        · have h := hq_t h c32
          refine lv_tableIn (tgt := 922) hx hb dL_law_33 (by rw [c32]; decide) (by rw [c32]; decide) (by rw [c32]; rfl) (by decide) ?_
          refine lv_aload_n hx hb dL_law_922 rfl (lv_at hl 1 rfl) ?_
          refine lv_aload_n hx hb dL_law_923 rfl (lv_at hl 0 rfl) ?_
          refine lv_iload_n hx hb dL_law_924 rfl (lv_at hl 3 rfl) ?_
          refine lv_iconst (v := 1) hx hb dL_law_925 (by decide) ?_
          refine lv_iadd hx hb dL_law_926 ?_
          obtain ⟨c322, h⟩ := hq_g h
          refine va_sld hx hb hX hbl hbA (hI.S h0) c322 dL_law_927 ?_
          refine lv_aload_n hx hb dL_law_928 rfl (lv_at hl 0 rfl) ?_
          refine lv_iload_n hx hb dL_law_929 rfl (lv_at hl 3 rfl) ?_
          refine lv_iconst (v := 2) hx hb dL_law_930 (by decide) ?_
          refine lv_iadd hx hb dL_law_931 ?_
          obtain ⟨c323, h⟩ := hq_g h
          refine va_sld hx hb hX hbl hbA (hI.S h0) c323 dL_law_932 ?_
          refine lv_aload_n hx hb dL_law_933 rfl (lv_at hl 0 rfl) ?_
          refine lv_iload_n hx hb dL_law_934 rfl (lv_at hl 3 rfl) ?_
          refine lv_iconst (v := 3) hx hb dL_law_935 (by decide) ?_
          refine lv_iadd hx hb dL_law_936 ?_
          obtain ⟨c324, h⟩ := hq_g h
          refine va_sld hx hb hX hbl hbA (hI.S h0) c324 dL_law_937 ?_
          refine lv_aload_n hx hb dL_law_938 rfl (lv_at hl 0 rfl) ?_
          refine lv_iload_n hx hb dL_law_939 rfl (lv_at hl 3 rfl) ?_
          refine lv_iconst (v := 4) hx hb dL_law_940 (by decide) ?_
          refine lv_iadd hx hb dL_law_941 ?_
          obtain ⟨c325, h⟩ := hq_g h
          refine va_sld hx hb hX hbl hbA (hI.S h0) c325 dL_law_942 ?_
          obtain ⟨g327, h⟩ := hq_g h
          obtain ⟨v329, S328, g326, h⟩ := hq_bd2 h
          refine hq_calli hI (va_runV (As := [.int (xs (Int32.toNatClampNeg (x7 + 1))), .int (xs (Int32.toNatClampNeg (x7 + 2))), .int (xs (Int32.toNatClampNeg (x7 + 3))), .int (xs (Int32.toNatClampNeg (x7 + 4)))]) (rest := []) ⟨hx, hb, hml, hown, hts⟩ (c_X11_excuses l D kA ρ HB S8 S.2 (xs (Int32.toNatClampNeg (x7 + 1))) (xs (Int32.toNatClampNeg (x7 + 2))) (xs (Int32.toNatClampNeg (x7 + 3))) (xs (Int32.toNatClampNeg (x7 + 4))) _ g326) (cwV 4 hts (gdIn (List.forall_mem_cons.mpr ⟨kw_763, (List.forall_mem_cons.mpr ⟨kw_764, (List.forall_mem_cons.mpr ⟨kw_765, (List.forall_mem_cons.mpr ⟨kw_1, (fun _ h => absurd h List.not_mem_nil)⟩)⟩)⟩)⟩) kw_766) rfl rfl rfl ye_X11_excuses ⟨Nat.le_of_ble_eq_true rfl, Nat.le_of_ble_eq_true rfl⟩) (hq_preC hE hI g327 rfl _) rfl rfl hl.1 rfl (lv_room (Nat.le_of_ble_eq_true rfl)) dL_law_943 ⟨by show (_ : Nat) ≤ 600000; omega, by show (_ : Nat) ≤ 7302250; omega⟩) (fun H locs hI => ?_)
          refine lv_aload_n hx hb dL_law_946 rfl (lv_at hl 2 rfl) ?_
          refine lv_aload_n hx hb dL_law_947 rfl (lv_at hl 0 rfl) ?_
          refine lv_iload_n hx hb dL_law_948 rfl (lv_at hl 3 rfl) ?_
          refine lv_iconst (v := 1) hx hb dL_law_949 (by decide) ?_
          refine lv_iadd hx hb dL_law_950 ?_
          obtain ⟨c330, h⟩ := hq_g h
          refine va_sld hx hb hX hbl hbA (hI.S h0) c330 dL_law_951 ?_
          refine lv_aload_n hx hb dL_law_952 rfl (lv_at hl 0 rfl) ?_
          refine lv_iload_n hx hb dL_law_953 rfl (lv_at hl 3 rfl) ?_
          refine lv_iconst (v := 2) hx hb dL_law_954 (by decide) ?_
          refine lv_iadd hx hb dL_law_955 ?_
          obtain ⟨c331, h⟩ := hq_g h
          refine va_sld hx hb hX hbl hbA (hI.S h0) c331 dL_law_956 ?_
          refine lv_aload_n hx hb dL_law_957 rfl (lv_at hl 0 rfl) ?_
          refine lv_iload_n hx hb dL_law_958 rfl (lv_at hl 3 rfl) ?_
          refine lv_iconst (v := 3) hx hb dL_law_959 (by decide) ?_
          refine lv_iadd hx hb dL_law_960 ?_
          obtain ⟨c332, h⟩ := hq_g h
          refine va_sld hx hb hX hbl hbA (hI.S h0) c332 dL_law_961 ?_
          refine lv_aload_n hx hb dL_law_962 rfl (lv_at hl 0 rfl) ?_
          refine lv_iload_n hx hb dL_law_963 rfl (lv_at hl 3 rfl) ?_
          refine lv_iconst (v := 4) hx hb dL_law_964 (by decide) ?_
          refine lv_iadd hx hb dL_law_965 ?_
          obtain ⟨c333, h⟩ := hq_g h
          refine va_sld hx hb hX hbl hbA (hI.S h0) c333 dL_law_966 ?_
          obtain ⟨g335, h⟩ := hq_g h
          obtain ⟨v337, S336, g334, h⟩ := hq_bd2 h
          refine hq_calli hI (va_runV (As := [.int (xs (Int32.toNatClampNeg (x7 + 1))), .int (xs (Int32.toNatClampNeg (x7 + 2))), .int (xs (Int32.toNatClampNeg (x7 + 3))), .int (xs (Int32.toNatClampNeg (x7 + 4)))]) (rest := [.int v329]) ⟨hx, hb, hml, hown, hts⟩ (c_X12_excuses l D kA ρ HB S328 S3.2 (xs (Int32.toNatClampNeg (x7 + 1))) (xs (Int32.toNatClampNeg (x7 + 2))) (xs (Int32.toNatClampNeg (x7 + 3))) (xs (Int32.toNatClampNeg (x7 + 4))) _ g334) (cwV 4 hts (gdIn (List.forall_mem_cons.mpr ⟨kw_1289, (List.forall_mem_cons.mpr ⟨kw_1290, (List.forall_mem_cons.mpr ⟨kw_1291, (List.forall_mem_cons.mpr ⟨kw_6, (fun _ h => absurd h List.not_mem_nil)⟩)⟩)⟩)⟩) kw_1292) rfl rfl rfl ye_X12_excuses ⟨Nat.le_of_ble_eq_true rfl, Nat.le_of_ble_eq_true rfl⟩) (hq_preC hE hI g335 rfl _) rfl rfl hl.1 rfl (lv_room (Nat.le_of_ble_eq_true rfl)) dL_law_967 ⟨by show (_ : Nat) ≤ 600000; omega, by show (_ : Nat) ≤ 7302250; omega⟩) (fun H locs hI => ?_)
          refine lv_icmp_eq (tgt := 1286) hx hb dL_law_970 (by decide) (fun c338 => ?_) (fun c338 => ?_)
          · have h := hq_t h c338
            refine lv_iinc (v := (x7 + 6)) (lv' := [(3, .int (x7 + 6)), (0, .ref b), (1, .ref S.2), (2, .ref S3.2)]) hx hb dL_law_1286 hl (k := 3) rfl rfl (by decide) rfl (fun ls hl => ?_)
            refine lv_goto (tgt := 18) hx hb dL_law_1289 (by decide) ?_
            exact ih18 (x7 + 6) S336 _ _ _ _ _ h hI (by omega) (by omega) (lv_sub hl [1, 2, 3, 0] rfl)
          · have h := hq_f h c338
            refine lv_iconst (v := 0) hx hb dL_law_973 (by decide) ?_
            cases h
        have h := hq_f h c32
        by_cases c33 : ((xs (Int32.toNatClampNeg x7)) &&& 31) = 22
        · have h := hq_t h c33
          refine lv_tableIn (tgt := 975) hx hb dL_law_33 (by rw [c33]; decide) (by rw [c33]; decide) (by rw [c33]; rfl) (by decide) ?_
          refine lv_aload_n hx hb dL_law_975 rfl (lv_at hl 1 rfl) ?_
          refine lv_aload_n hx hb dL_law_976 rfl (lv_at hl 0 rfl) ?_
          refine lv_iload_n hx hb dL_law_977 rfl (lv_at hl 3 rfl) ?_
          refine lv_iconst (v := 1) hx hb dL_law_978 (by decide) ?_
          refine lv_iadd hx hb dL_law_979 ?_
          obtain ⟨c339, h⟩ := hq_g h
          refine va_sld hx hb hX hbl hbA (hI.S h0) c339 dL_law_980 ?_
          refine lv_aload_n hx hb dL_law_981 rfl (lv_at hl 0 rfl) ?_
          refine lv_iload_n hx hb dL_law_982 rfl (lv_at hl 3 rfl) ?_
          refine lv_iconst (v := 2) hx hb dL_law_983 (by decide) ?_
          refine lv_iadd hx hb dL_law_984 ?_
          obtain ⟨c340, h⟩ := hq_g h
          refine va_sld hx hb hX hbl hbA (hI.S h0) c340 dL_law_985 ?_
          refine lv_aload_n hx hb dL_law_986 rfl (lv_at hl 0 rfl) ?_
          refine lv_iload_n hx hb dL_law_987 rfl (lv_at hl 3 rfl) ?_
          refine lv_iconst (v := 3) hx hb dL_law_988 (by decide) ?_
          refine lv_iadd hx hb dL_law_989 ?_
          obtain ⟨c341, h⟩ := hq_g h
          refine va_sld hx hb hX hbl hbA (hI.S h0) c341 dL_law_990 ?_
          obtain ⟨g343, h⟩ := hq_g h
          obtain ⟨v345, S344, g342, h⟩ := hq_bd2 h
          refine hq_calll hI (va_runV (As := [.int (xs (Int32.toNatClampNeg (x7 + 1))), .int (xs (Int32.toNatClampNeg (x7 + 2))), .int (xs (Int32.toNatClampNeg (x7 + 3)))]) (rest := []) ⟨hx, hb, hml, hown, hts⟩ (c_X11_field l D kA ρ HB S8 S.2 (xs (Int32.toNatClampNeg (x7 + 1))) (xs (Int32.toNatClampNeg (x7 + 2))) (xs (Int32.toNatClampNeg (x7 + 3))) _ g342) (cwV 3 hts (gdIn (List.forall_mem_cons.mpr ⟨kw_774, (List.forall_mem_cons.mpr ⟨kw_775, (List.forall_mem_cons.mpr ⟨kw_776, (List.forall_mem_cons.mpr ⟨kw_1, (fun _ h => absurd h List.not_mem_nil)⟩)⟩)⟩)⟩) kw_777) rfl rfl rfl ye_X11_field ⟨Nat.le_of_ble_eq_true rfl, Nat.le_of_ble_eq_true rfl⟩) (hq_preC hE hI g343 rfl _) rfl rfl hl.1 rfl (lv_room (Nat.le_of_ble_eq_true rfl)) dL_law_991 ⟨by show (_ : Nat) ≤ 600000; omega, by show (_ : Nat) ≤ 7302250; omega⟩) (fun H locs hI => ?_)
          refine lv_aload_n hx hb dL_law_994 rfl (lv_at hl 2 rfl) ?_
          refine lv_aload_n hx hb dL_law_995 rfl (lv_at hl 0 rfl) ?_
          refine lv_iload_n hx hb dL_law_996 rfl (lv_at hl 3 rfl) ?_
          refine lv_iconst (v := 1) hx hb dL_law_997 (by decide) ?_
          refine lv_iadd hx hb dL_law_998 ?_
          obtain ⟨c346, h⟩ := hq_g h
          refine va_sld hx hb hX hbl hbA (hI.S h0) c346 dL_law_999 ?_
          refine lv_aload_n hx hb dL_law_1000 rfl (lv_at hl 0 rfl) ?_
          refine lv_iload_n hx hb dL_law_1001 rfl (lv_at hl 3 rfl) ?_
          refine lv_iconst (v := 2) hx hb dL_law_1002 (by decide) ?_
          refine lv_iadd hx hb dL_law_1003 ?_
          obtain ⟨c347, h⟩ := hq_g h
          refine va_sld hx hb hX hbl hbA (hI.S h0) c347 dL_law_1004 ?_
          refine lv_aload_n hx hb dL_law_1005 rfl (lv_at hl 0 rfl) ?_
          refine lv_iload_n hx hb dL_law_1006 rfl (lv_at hl 3 rfl) ?_
          refine lv_iconst (v := 3) hx hb dL_law_1007 (by decide) ?_
          refine lv_iadd hx hb dL_law_1008 ?_
          obtain ⟨c348, h⟩ := hq_g h
          refine va_sld hx hb hX hbl hbA (hI.S h0) c348 dL_law_1009 ?_
          obtain ⟨g350, h⟩ := hq_g h
          obtain ⟨v352, S351, g349, h⟩ := hq_bd2 h
          refine hq_calll hI (va_runV (As := [.int (xs (Int32.toNatClampNeg (x7 + 1))), .int (xs (Int32.toNatClampNeg (x7 + 2))), .int (xs (Int32.toNatClampNeg (x7 + 3)))]) (rest := [.long v345]) ⟨hx, hb, hml, hown, hts⟩ (c_X12_field l D kA ρ HB S344 S3.2 (xs (Int32.toNatClampNeg (x7 + 1))) (xs (Int32.toNatClampNeg (x7 + 2))) (xs (Int32.toNatClampNeg (x7 + 3))) _ g349) (cwV 3 hts (gdIn (List.forall_mem_cons.mpr ⟨kw_1293, (List.forall_mem_cons.mpr ⟨kw_1294, (List.forall_mem_cons.mpr ⟨kw_1295, (List.forall_mem_cons.mpr ⟨kw_6, (fun _ h => absurd h List.not_mem_nil)⟩)⟩)⟩)⟩) kw_1296) rfl rfl rfl ye_X12_field ⟨Nat.le_of_ble_eq_true rfl, Nat.le_of_ble_eq_true rfl⟩) (hq_preC hE hI g350 rfl _) rfl rfl hl.1 rfl (lv_room (Nat.le_of_ble_eq_true rfl)) dL_law_1010 ⟨by show (_ : Nat) ≤ 600000; omega, by show (_ : Nat) ≤ 7302250; omega⟩) (fun H locs hI => ?_)
          refine W.lcmp hx hb dL_law_1013 ?_
          refine lv_if_eq (tgt := 1286) hx hb dL_law_1014 (by decide) (fun c353 => ?_) (fun c353 => ?_)
          · have h := hq_t h c353
            refine lv_iinc (v := (x7 + 6)) (lv' := [(3, .int (x7 + 6)), (0, .ref b), (1, .ref S.2), (2, .ref S3.2)]) hx hb dL_law_1286 hl (k := 3) rfl rfl (by decide) rfl (fun ls hl => ?_)
            refine lv_goto (tgt := 18) hx hb dL_law_1289 (by decide) ?_
            exact ih18 (x7 + 6) S351 _ _ _ _ _ h hI (by omega) (by omega) (lv_sub hl [1, 2, 3, 0] rfl)
          · have h := hq_f h c353
            refine lv_iconst (v := 0) hx hb dL_law_1017 (by decide) ?_
            cases h
        have h := hq_f h c33
        by_cases c34 : ((xs (Int32.toNatClampNeg x7)) &&& 31) = 23
        · have h := hq_t h c34
          refine lv_tableIn (tgt := 1019) hx hb dL_law_33 (by rw [c34]; decide) (by rw [c34]; decide) (by rw [c34]; rfl) (by decide) ?_
          refine lv_aload_n hx hb dL_law_1019 rfl (lv_at hl 1 rfl) ?_
          refine lv_aload_n hx hb dL_law_1020 rfl (lv_at hl 0 rfl) ?_
          refine lv_iload_n hx hb dL_law_1021 rfl (lv_at hl 3 rfl) ?_
          refine lv_iconst (v := 1) hx hb dL_law_1022 (by decide) ?_
          refine lv_iadd hx hb dL_law_1023 ?_
          obtain ⟨c354, h⟩ := hq_g h
          refine va_sld hx hb hX hbl hbA (hI.S h0) c354 dL_law_1024 ?_
          refine lv_aload_n hx hb dL_law_1025 rfl (lv_at hl 0 rfl) ?_
          refine lv_iload_n hx hb dL_law_1026 rfl (lv_at hl 3 rfl) ?_
          refine lv_iconst (v := 2) hx hb dL_law_1027 (by decide) ?_
          refine lv_iadd hx hb dL_law_1028 ?_
          obtain ⟨c355, h⟩ := hq_g h
          refine va_sld hx hb hX hbl hbA (hI.S h0) c355 dL_law_1029 ?_
          obtain ⟨g357, h⟩ := hq_g h
          obtain ⟨v359, S358, g356, h⟩ := hq_bd2 h
          refine hq_calli hI (va_runV (As := [.int (xs (Int32.toNatClampNeg (x7 + 1))), .int (xs (Int32.toNatClampNeg (x7 + 2)))]) (rest := []) ⟨hx, hb, hml, hown, hts⟩ (c_X11_holes l D kA ρ HB S8 S.2 (xs (Int32.toNatClampNeg (x7 + 1))) (xs (Int32.toNatClampNeg (x7 + 2))) _ g356) (cwV 2 hts (gdIn (List.forall_mem_cons.mpr ⟨kw_779, (List.forall_mem_cons.mpr ⟨kw_780, (List.forall_mem_cons.mpr ⟨kw_781, (List.forall_mem_cons.mpr ⟨kw_1, (fun _ h => absurd h List.not_mem_nil)⟩)⟩)⟩)⟩) kw_782) rfl rfl rfl ye_X11_holes ⟨Nat.le_of_ble_eq_true rfl, Nat.le_of_ble_eq_true rfl⟩) (hq_preC hE hI g357 rfl _) rfl rfl hl.1 rfl (lv_room (Nat.le_of_ble_eq_true rfl)) dL_law_1030 ⟨by show (_ : Nat) ≤ 600000; omega, by show (_ : Nat) ≤ 7302250; omega⟩) (fun H locs hI => ?_)
          refine lv_aload_n hx hb dL_law_1033 rfl (lv_at hl 2 rfl) ?_
          refine lv_aload_n hx hb dL_law_1034 rfl (lv_at hl 0 rfl) ?_
          refine lv_iload_n hx hb dL_law_1035 rfl (lv_at hl 3 rfl) ?_
          refine lv_iconst (v := 1) hx hb dL_law_1036 (by decide) ?_
          refine lv_iadd hx hb dL_law_1037 ?_
          obtain ⟨c360, h⟩ := hq_g h
          refine va_sld hx hb hX hbl hbA (hI.S h0) c360 dL_law_1038 ?_
          refine lv_aload_n hx hb dL_law_1039 rfl (lv_at hl 0 rfl) ?_
          refine lv_iload_n hx hb dL_law_1040 rfl (lv_at hl 3 rfl) ?_
          refine lv_iconst (v := 2) hx hb dL_law_1041 (by decide) ?_
          refine lv_iadd hx hb dL_law_1042 ?_
          obtain ⟨c361, h⟩ := hq_g h
          refine va_sld hx hb hX hbl hbA (hI.S h0) c361 dL_law_1043 ?_
          obtain ⟨g363, h⟩ := hq_g h
          obtain ⟨v365, S364, g362, h⟩ := hq_bd2 h
          refine hq_calli hI (va_runV (As := [.int (xs (Int32.toNatClampNeg (x7 + 1))), .int (xs (Int32.toNatClampNeg (x7 + 2)))]) (rest := [.int v359]) ⟨hx, hb, hml, hown, hts⟩ (c_X12_holes l D kA ρ HB S358 S3.2 (xs (Int32.toNatClampNeg (x7 + 1))) (xs (Int32.toNatClampNeg (x7 + 2))) _ g362) (cwV 2 hts (gdIn (List.forall_mem_cons.mpr ⟨kw_1298, (List.forall_mem_cons.mpr ⟨kw_1299, (List.forall_mem_cons.mpr ⟨kw_1300, (List.forall_mem_cons.mpr ⟨kw_6, (fun _ h => absurd h List.not_mem_nil)⟩)⟩)⟩)⟩) kw_1301) rfl rfl rfl ye_X12_holes ⟨Nat.le_of_ble_eq_true rfl, Nat.le_of_ble_eq_true rfl⟩) (hq_preC hE hI g363 rfl _) rfl rfl hl.1 rfl (lv_room (Nat.le_of_ble_eq_true rfl)) dL_law_1044 ⟨by show (_ : Nat) ≤ 600000; omega, by show (_ : Nat) ≤ 7302250; omega⟩) (fun H locs hI => ?_)
          refine lv_icmp_eq (tgt := 1286) hx hb dL_law_1047 (by decide) (fun c366 => ?_) (fun c366 => ?_)
          · have h := hq_t h c366
            refine lv_iinc (v := (x7 + 6)) (lv' := [(3, .int (x7 + 6)), (0, .ref b), (1, .ref S.2), (2, .ref S3.2)]) hx hb dL_law_1286 hl (k := 3) rfl rfl (by decide) rfl (fun ls hl => ?_)
            refine lv_goto (tgt := 18) hx hb dL_law_1289 (by decide) ?_
            exact ih18 (x7 + 6) S364 _ _ _ _ _ h hI (by omega) (by omega) (lv_sub hl [1, 2, 3, 0] rfl)
          · have h := hq_f h c366
            refine lv_iconst (v := 0) hx hb dL_law_1050 (by decide) ?_
            cases h
        have h := hq_f h c34
        by_cases c35 : ((xs (Int32.toNatClampNeg x7)) &&& 31) = 24
        · have h := hq_t h c35
          refine lv_tableIn (tgt := 1052) hx hb dL_law_33 (by rw [c35]; decide) (by rw [c35]; decide) (by rw [c35]; rfl) (by decide) ?_
          refine lv_aload_n hx hb dL_law_1052 rfl (lv_at hl 1 rfl) ?_
          refine lv_aload_n hx hb dL_law_1053 rfl (lv_at hl 0 rfl) ?_
          refine lv_iload_n hx hb dL_law_1054 rfl (lv_at hl 3 rfl) ?_
          refine lv_iconst (v := 1) hx hb dL_law_1055 (by decide) ?_
          refine lv_iadd hx hb dL_law_1056 ?_
          obtain ⟨c367, h⟩ := hq_g h
          refine va_sld hx hb hX hbl hbA (hI.S h0) c367 dL_law_1057 ?_
          refine lv_aload_n hx hb dL_law_1058 rfl (lv_at hl 0 rfl) ?_
          refine lv_iload_n hx hb dL_law_1059 rfl (lv_at hl 3 rfl) ?_
          refine lv_iconst (v := 2) hx hb dL_law_1060 (by decide) ?_
          refine lv_iadd hx hb dL_law_1061 ?_
          obtain ⟨c368, h⟩ := hq_g h
          refine va_sld hx hb hX hbl hbA (hI.S h0) c368 dL_law_1062 ?_
          refine lv_aload_n hx hb dL_law_1063 rfl (lv_at hl 0 rfl) ?_
          refine lv_iload_n hx hb dL_law_1064 rfl (lv_at hl 3 rfl) ?_
          refine lv_iconst (v := 3) hx hb dL_law_1065 (by decide) ?_
          refine lv_iadd hx hb dL_law_1066 ?_
          obtain ⟨c369, h⟩ := hq_g h
          refine va_sld hx hb hX hbl hbA (hI.S h0) c369 dL_law_1067 ?_
          obtain ⟨g371, h⟩ := hq_g h
          obtain ⟨v373, S372, g370, h⟩ := hq_bd2 h
          refine hq_calli hI (va_runV (As := [.int (xs (Int32.toNatClampNeg (x7 + 1))), .int (xs (Int32.toNatClampNeg (x7 + 2))), .int (xs (Int32.toNatClampNeg (x7 + 3)))]) (rest := []) ⟨hx, hb, hml, hown, hts⟩ (c_X11_rod l D kA ρ HB S8 S.2 (xs (Int32.toNatClampNeg (x7 + 1))) (xs (Int32.toNatClampNeg (x7 + 2))) (xs (Int32.toNatClampNeg (x7 + 3))) _ g370) (cwV 3 hts (gdIn (List.forall_mem_cons.mpr ⟨kw_783, (List.forall_mem_cons.mpr ⟨kw_784, (List.forall_mem_cons.mpr ⟨kw_785, (List.forall_mem_cons.mpr ⟨kw_1, (fun _ h => absurd h List.not_mem_nil)⟩)⟩)⟩)⟩) kw_786) rfl rfl rfl ye_X11_rod ⟨Nat.le_of_ble_eq_true rfl, Nat.le_of_ble_eq_true rfl⟩) (hq_preC hE hI g371 rfl _) rfl rfl hl.1 rfl (lv_room (Nat.le_of_ble_eq_true rfl)) dL_law_1068 ⟨by show (_ : Nat) ≤ 600000; omega, by show (_ : Nat) ≤ 7302250; omega⟩) (fun H locs hI => ?_)
          refine lv_aload_n hx hb dL_law_1071 rfl (lv_at hl 2 rfl) ?_
          refine lv_aload_n hx hb dL_law_1072 rfl (lv_at hl 0 rfl) ?_
          refine lv_iload_n hx hb dL_law_1073 rfl (lv_at hl 3 rfl) ?_
          refine lv_iconst (v := 1) hx hb dL_law_1074 (by decide) ?_
          refine lv_iadd hx hb dL_law_1075 ?_
          obtain ⟨c374, h⟩ := hq_g h
          refine va_sld hx hb hX hbl hbA (hI.S h0) c374 dL_law_1076 ?_
          refine lv_aload_n hx hb dL_law_1077 rfl (lv_at hl 0 rfl) ?_
          refine lv_iload_n hx hb dL_law_1078 rfl (lv_at hl 3 rfl) ?_
          refine lv_iconst (v := 2) hx hb dL_law_1079 (by decide) ?_
          refine lv_iadd hx hb dL_law_1080 ?_
          obtain ⟨c375, h⟩ := hq_g h
          refine va_sld hx hb hX hbl hbA (hI.S h0) c375 dL_law_1081 ?_
          refine lv_aload_n hx hb dL_law_1082 rfl (lv_at hl 0 rfl) ?_
          refine lv_iload_n hx hb dL_law_1083 rfl (lv_at hl 3 rfl) ?_
          refine lv_iconst (v := 3) hx hb dL_law_1084 (by decide) ?_
          refine lv_iadd hx hb dL_law_1085 ?_
          obtain ⟨c376, h⟩ := hq_g h
          refine va_sld hx hb hX hbl hbA (hI.S h0) c376 dL_law_1086 ?_
          obtain ⟨g378, h⟩ := hq_g h
          obtain ⟨v380, S379, g377, h⟩ := hq_bd2 h
          refine hq_calli hI (va_runV (As := [.int (xs (Int32.toNatClampNeg (x7 + 1))), .int (xs (Int32.toNatClampNeg (x7 + 2))), .int (xs (Int32.toNatClampNeg (x7 + 3)))]) (rest := [.int v373]) ⟨hx, hb, hml, hown, hts⟩ (c_X12_rod l D kA ρ HB S372 S3.2 (xs (Int32.toNatClampNeg (x7 + 1))) (xs (Int32.toNatClampNeg (x7 + 2))) (xs (Int32.toNatClampNeg (x7 + 3))) _ g377) (cwV 3 hts (gdIn (List.forall_mem_cons.mpr ⟨kw_1302, (List.forall_mem_cons.mpr ⟨kw_1303, (List.forall_mem_cons.mpr ⟨kw_1304, (List.forall_mem_cons.mpr ⟨kw_6, (fun _ h => absurd h List.not_mem_nil)⟩)⟩)⟩)⟩) kw_1305) rfl rfl rfl ye_X12_rod ⟨Nat.le_of_ble_eq_true rfl, Nat.le_of_ble_eq_true rfl⟩) (hq_preC hE hI g378 rfl _) rfl rfl hl.1 rfl (lv_room (Nat.le_of_ble_eq_true rfl)) dL_law_1087 ⟨by show (_ : Nat) ≤ 600000; omega, by show (_ : Nat) ≤ 7302250; omega⟩) (fun H locs hI => ?_)
          refine lv_icmp_eq (tgt := 1286) hx hb dL_law_1090 (by decide) (fun c381 => ?_) (fun c381 => ?_)
          · have h := hq_t h c381
            refine lv_iinc (v := (x7 + 6)) (lv' := [(3, .int (x7 + 6)), (0, .ref b), (1, .ref S.2), (2, .ref S3.2)]) hx hb dL_law_1286 hl (k := 3) rfl rfl (by decide) rfl (fun ls hl => ?_)
            refine lv_goto (tgt := 18) hx hb dL_law_1289 (by decide) ?_
            exact ih18 (x7 + 6) S379 _ _ _ _ _ h hI (by omega) (by omega) (lv_sub hl [1, 2, 3, 0] rfl)
          · have h := hq_f h c381
            refine lv_iconst (v := 0) hx hb dL_law_1093 (by decide) ?_
            cases h
        have h := hq_f h c35
        by_cases c36 : ((xs (Int32.toNatClampNeg x7)) &&& 31) = 25
        · have h := hq_t h c36
          refine lv_tableIn (tgt := 1095) hx hb dL_law_33 (by rw [c36]; decide) (by rw [c36]; decide) (by rw [c36]; rfl) (by decide) ?_
          refine lv_aload_n hx hb dL_law_1095 rfl (lv_at hl 1 rfl) ?_
          refine lv_aload_n hx hb dL_law_1096 rfl (lv_at hl 0 rfl) ?_
          refine lv_iload_n hx hb dL_law_1097 rfl (lv_at hl 3 rfl) ?_
          refine lv_iconst (v := 1) hx hb dL_law_1098 (by decide) ?_
          refine lv_iadd hx hb dL_law_1099 ?_
          obtain ⟨c382, h⟩ := hq_g h
          refine va_sld hx hb hX hbl hbA (hI.S h0) c382 dL_law_1100 ?_
          refine lv_aload_n hx hb dL_law_1101 rfl (lv_at hl 0 rfl) ?_
          refine lv_iload_n hx hb dL_law_1102 rfl (lv_at hl 3 rfl) ?_
          refine lv_iconst (v := 2) hx hb dL_law_1103 (by decide) ?_
          refine lv_iadd hx hb dL_law_1104 ?_
          obtain ⟨c383, h⟩ := hq_g h
          refine va_sld hx hb hX hbl hbA (hI.S h0) c383 dL_law_1105 ?_
          refine lv_aload_n hx hb dL_law_1106 rfl (lv_at hl 0 rfl) ?_
          refine lv_iload_n hx hb dL_law_1107 rfl (lv_at hl 3 rfl) ?_
          refine lv_iconst (v := 3) hx hb dL_law_1108 (by decide) ?_
          refine lv_iadd hx hb dL_law_1109 ?_
          obtain ⟨c384, h⟩ := hq_g h
          refine va_sld hx hb hX hbl hbA (hI.S h0) c384 dL_law_1110 ?_
          obtain ⟨g386, h⟩ := hq_g h
          obtain ⟨v388, S387, g385, h⟩ := hq_bd2 h
          refine hq_calli hI (va_runV (As := [.int (xs (Int32.toNatClampNeg (x7 + 1))), .int (xs (Int32.toNatClampNeg (x7 + 2))), .int (xs (Int32.toNatClampNeg (x7 + 3)))]) (rest := []) ⟨hx, hb, hml, hown, hts⟩ (c_X11_papers l D kA ρ HB S8 S.2 (xs (Int32.toNatClampNeg (x7 + 1))) (xs (Int32.toNatClampNeg (x7 + 2))) (xs (Int32.toNatClampNeg (x7 + 3))) _ g385) (cwV 3 hts (gdIn (List.forall_mem_cons.mpr ⟨kw_787, (List.forall_mem_cons.mpr ⟨kw_788, (List.forall_mem_cons.mpr ⟨kw_789, (List.forall_mem_cons.mpr ⟨kw_1, (fun _ h => absurd h List.not_mem_nil)⟩)⟩)⟩)⟩) kw_790) rfl rfl rfl ye_X11_papers ⟨Nat.le_of_ble_eq_true rfl, Nat.le_of_ble_eq_true rfl⟩) (hq_preC hE hI g386 rfl _) rfl rfl hl.1 rfl (lv_room (Nat.le_of_ble_eq_true rfl)) dL_law_1111 ⟨by show (_ : Nat) ≤ 600000; omega, by show (_ : Nat) ≤ 7302250; omega⟩) (fun H locs hI => ?_)
          refine lv_aload_n hx hb dL_law_1114 rfl (lv_at hl 2 rfl) ?_
          refine lv_aload_n hx hb dL_law_1115 rfl (lv_at hl 0 rfl) ?_
          refine lv_iload_n hx hb dL_law_1116 rfl (lv_at hl 3 rfl) ?_
          refine lv_iconst (v := 1) hx hb dL_law_1117 (by decide) ?_
          refine lv_iadd hx hb dL_law_1118 ?_
          obtain ⟨c389, h⟩ := hq_g h
          refine va_sld hx hb hX hbl hbA (hI.S h0) c389 dL_law_1119 ?_
          refine lv_aload_n hx hb dL_law_1120 rfl (lv_at hl 0 rfl) ?_
          refine lv_iload_n hx hb dL_law_1121 rfl (lv_at hl 3 rfl) ?_
          refine lv_iconst (v := 2) hx hb dL_law_1122 (by decide) ?_
          refine lv_iadd hx hb dL_law_1123 ?_
          obtain ⟨c390, h⟩ := hq_g h
          refine va_sld hx hb hX hbl hbA (hI.S h0) c390 dL_law_1124 ?_
          refine lv_aload_n hx hb dL_law_1125 rfl (lv_at hl 0 rfl) ?_
          refine lv_iload_n hx hb dL_law_1126 rfl (lv_at hl 3 rfl) ?_
          refine lv_iconst (v := 3) hx hb dL_law_1127 (by decide) ?_
          refine lv_iadd hx hb dL_law_1128 ?_
          obtain ⟨c391, h⟩ := hq_g h
          refine va_sld hx hb hX hbl hbA (hI.S h0) c391 dL_law_1129 ?_
          obtain ⟨g393, h⟩ := hq_g h
          obtain ⟨v395, S394, g392, h⟩ := hq_bd2 h
          refine hq_calli hI (va_runV (As := [.int (xs (Int32.toNatClampNeg (x7 + 1))), .int (xs (Int32.toNatClampNeg (x7 + 2))), .int (xs (Int32.toNatClampNeg (x7 + 3)))]) (rest := [.int v388]) ⟨hx, hb, hml, hown, hts⟩ (c_X12_papers l D kA ρ HB S387 S3.2 (xs (Int32.toNatClampNeg (x7 + 1))) (xs (Int32.toNatClampNeg (x7 + 2))) (xs (Int32.toNatClampNeg (x7 + 3))) _ g392) (cwV 3 hts (gdIn (List.forall_mem_cons.mpr ⟨kw_1306, (List.forall_mem_cons.mpr ⟨kw_1307, (List.forall_mem_cons.mpr ⟨kw_1308, (List.forall_mem_cons.mpr ⟨kw_6, (fun _ h => absurd h List.not_mem_nil)⟩)⟩)⟩)⟩) kw_1309) rfl rfl rfl ye_X12_papers ⟨Nat.le_of_ble_eq_true rfl, Nat.le_of_ble_eq_true rfl⟩) (hq_preC hE hI g393 rfl _) rfl rfl hl.1 rfl (lv_room (Nat.le_of_ble_eq_true rfl)) dL_law_1130 ⟨by show (_ : Nat) ≤ 600000; omega, by show (_ : Nat) ≤ 7302250; omega⟩) (fun H locs hI => ?_)
          refine lv_icmp_eq (tgt := 1286) hx hb dL_law_1133 (by decide) (fun c396 => ?_) (fun c396 => ?_)
          · have h := hq_t h c396
            refine lv_iinc (v := (x7 + 6)) (lv' := [(3, .int (x7 + 6)), (0, .ref b), (1, .ref S.2), (2, .ref S3.2)]) hx hb dL_law_1286 hl (k := 3) rfl rfl (by decide) rfl (fun ls hl => ?_)
            refine lv_goto (tgt := 18) hx hb dL_law_1289 (by decide) ?_
            exact ih18 (x7 + 6) S394 _ _ _ _ _ h hI (by omega) (by omega) (lv_sub hl [1, 2, 3, 0] rfl)
          · have h := hq_f h c396
            refine lv_iconst (v := 0) hx hb dL_law_1136 (by decide) ?_
            cases h
        have h := hq_f h c36
        by_cases c37 : ((xs (Int32.toNatClampNeg x7)) &&& 31) = 26
        · have h := hq_t h c37
          refine lv_tableIn (tgt := 1138) hx hb dL_law_33 (by rw [c37]; decide) (by rw [c37]; decide) (by rw [c37]; rfl) (by decide) ?_
          refine lv_aload_n hx hb dL_law_1138 rfl (lv_at hl 1 rfl) ?_
          refine lv_aload_n hx hb dL_law_1139 rfl (lv_at hl 0 rfl) ?_
          refine lv_iload_n hx hb dL_law_1140 rfl (lv_at hl 3 rfl) ?_
          refine lv_iconst (v := 1) hx hb dL_law_1141 (by decide) ?_
          refine lv_iadd hx hb dL_law_1142 ?_
          obtain ⟨c397, h⟩ := hq_g h
          refine va_sld hx hb hX hbl hbA (hI.S h0) c397 dL_law_1143 ?_
          refine lv_aload_n hx hb dL_law_1144 rfl (lv_at hl 0 rfl) ?_
          refine lv_iload_n hx hb dL_law_1145 rfl (lv_at hl 3 rfl) ?_
          refine lv_iconst (v := 2) hx hb dL_law_1146 (by decide) ?_
          refine lv_iadd hx hb dL_law_1147 ?_
          obtain ⟨c398, h⟩ := hq_g h
          refine va_sld hx hb hX hbl hbA (hI.S h0) c398 dL_law_1148 ?_
          refine lv_aload_n hx hb dL_law_1149 rfl (lv_at hl 0 rfl) ?_
          refine lv_iload_n hx hb dL_law_1150 rfl (lv_at hl 3 rfl) ?_
          refine lv_iconst (v := 3) hx hb dL_law_1151 (by decide) ?_
          refine lv_iadd hx hb dL_law_1152 ?_
          obtain ⟨c399, h⟩ := hq_g h
          refine va_sld hx hb hX hbl hbA (hI.S h0) c399 dL_law_1153 ?_
          obtain ⟨g401, h⟩ := hq_g h
          obtain ⟨v403, S402, g400, h⟩ := hq_bd2 h
          refine hq_calli hI (va_runV (As := [.int (xs (Int32.toNatClampNeg (x7 + 1))), .int (xs (Int32.toNatClampNeg (x7 + 2))), .int (xs (Int32.toNatClampNeg (x7 + 3)))]) (rest := []) ⟨hx, hb, hml, hown, hts⟩ (c_X11_act l D kA ρ HB S8 S.2 (xs (Int32.toNatClampNeg (x7 + 1))) (xs (Int32.toNatClampNeg (x7 + 2))) (xs (Int32.toNatClampNeg (x7 + 3))) _ g400) (cwV 3 hts (gdIn (List.forall_mem_cons.mpr ⟨kw_791, (List.forall_mem_cons.mpr ⟨kw_792, (List.forall_mem_cons.mpr ⟨kw_793, (List.forall_mem_cons.mpr ⟨kw_1, (fun _ h => absurd h List.not_mem_nil)⟩)⟩)⟩)⟩) kw_794) rfl rfl rfl ye_X11_act ⟨Nat.le_of_ble_eq_true rfl, Nat.le_of_ble_eq_true rfl⟩) (hq_preC hE hI g401 rfl _) rfl rfl hl.1 rfl (lv_room (Nat.le_of_ble_eq_true rfl)) dL_law_1154 ⟨by show (_ : Nat) ≤ 600000; omega, by show (_ : Nat) ≤ 7302250; omega⟩) (fun H locs hI => ?_)
          refine lv_aload_n hx hb dL_law_1157 rfl (lv_at hl 2 rfl) ?_
          refine lv_aload_n hx hb dL_law_1158 rfl (lv_at hl 0 rfl) ?_
          refine lv_iload_n hx hb dL_law_1159 rfl (lv_at hl 3 rfl) ?_
          refine lv_iconst (v := 1) hx hb dL_law_1160 (by decide) ?_
          refine lv_iadd hx hb dL_law_1161 ?_
          obtain ⟨c404, h⟩ := hq_g h
          refine va_sld hx hb hX hbl hbA (hI.S h0) c404 dL_law_1162 ?_
          refine lv_aload_n hx hb dL_law_1163 rfl (lv_at hl 0 rfl) ?_
          refine lv_iload_n hx hb dL_law_1164 rfl (lv_at hl 3 rfl) ?_
          refine lv_iconst (v := 2) hx hb dL_law_1165 (by decide) ?_
          refine lv_iadd hx hb dL_law_1166 ?_
          obtain ⟨c405, h⟩ := hq_g h
          refine va_sld hx hb hX hbl hbA (hI.S h0) c405 dL_law_1167 ?_
          refine lv_aload_n hx hb dL_law_1168 rfl (lv_at hl 0 rfl) ?_
          refine lv_iload_n hx hb dL_law_1169 rfl (lv_at hl 3 rfl) ?_
          refine lv_iconst (v := 3) hx hb dL_law_1170 (by decide) ?_
          refine lv_iadd hx hb dL_law_1171 ?_
          obtain ⟨c406, h⟩ := hq_g h
          refine va_sld hx hb hX hbl hbA (hI.S h0) c406 dL_law_1172 ?_
          obtain ⟨g408, h⟩ := hq_g h
          obtain ⟨v410, S409, g407, h⟩ := hq_bd2 h
          refine hq_calli hI (va_runV (As := [.int (xs (Int32.toNatClampNeg (x7 + 1))), .int (xs (Int32.toNatClampNeg (x7 + 2))), .int (xs (Int32.toNatClampNeg (x7 + 3)))]) (rest := [.int v403]) ⟨hx, hb, hml, hown, hts⟩ (c_X12_act l D kA ρ HB S402 S3.2 (xs (Int32.toNatClampNeg (x7 + 1))) (xs (Int32.toNatClampNeg (x7 + 2))) (xs (Int32.toNatClampNeg (x7 + 3))) _ g407) (cwV 3 hts (gdIn (List.forall_mem_cons.mpr ⟨kw_1310, (List.forall_mem_cons.mpr ⟨kw_1311, (List.forall_mem_cons.mpr ⟨kw_1312, (List.forall_mem_cons.mpr ⟨kw_6, (fun _ h => absurd h List.not_mem_nil)⟩)⟩)⟩)⟩) kw_1313) rfl rfl rfl ye_X12_act ⟨Nat.le_of_ble_eq_true rfl, Nat.le_of_ble_eq_true rfl⟩) (hq_preC hE hI g408 rfl _) rfl rfl hl.1 rfl (lv_room (Nat.le_of_ble_eq_true rfl)) dL_law_1173 ⟨by show (_ : Nat) ≤ 600000; omega, by show (_ : Nat) ≤ 7302250; omega⟩) (fun H locs hI => ?_)
          refine lv_icmp_eq (tgt := 1286) hx hb dL_law_1176 (by decide) (fun c411 => ?_) (fun c411 => ?_)
          · have h := hq_t h c411
            refine lv_iinc (v := (x7 + 6)) (lv' := [(3, .int (x7 + 6)), (0, .ref b), (1, .ref S.2), (2, .ref S3.2)]) hx hb dL_law_1286 hl (k := 3) rfl rfl (by decide) rfl (fun ls hl => ?_)
            refine lv_goto (tgt := 18) hx hb dL_law_1289 (by decide) ?_
            exact ih18 (x7 + 6) S409 _ _ _ _ _ h hI (by omega) (by omega) (lv_sub hl [1, 2, 3, 0] rfl)
          · have h := hq_f h c411
            refine lv_iconst (v := 0) hx hb dL_law_1179 (by decide) ?_
            cases h
        have h := hq_f h c37
        by_cases c38 : ((xs (Int32.toNatClampNeg x7)) &&& 31) = 27
        · have h := hq_t h c38
          refine lv_tableIn (tgt := 1181) hx hb dL_law_33 (by rw [c38]; decide) (by rw [c38]; decide) (by rw [c38]; rfl) (by decide) ?_
          refine lv_aload_n hx hb dL_law_1181 rfl (lv_at hl 1 rfl) ?_
          refine lv_aload_n hx hb dL_law_1182 rfl (lv_at hl 0 rfl) ?_
          refine lv_iload_n hx hb dL_law_1183 rfl (lv_at hl 3 rfl) ?_
          refine lv_iconst (v := 1) hx hb dL_law_1184 (by decide) ?_
          refine lv_iadd hx hb dL_law_1185 ?_
          obtain ⟨c412, h⟩ := hq_g h
          refine va_sld hx hb hX hbl hbA (hI.S h0) c412 dL_law_1186 ?_
          obtain ⟨g414, h⟩ := hq_g h
          obtain ⟨v416, S415, g413, h⟩ := hq_bd2 h
          refine hq_calli hI (va_runV (As := [.int (xs (Int32.toNatClampNeg (x7 + 1)))]) (rest := []) ⟨hx, hb, hml, hown, hts⟩ (c_X11_trace l D kA ρ HB S8 S.2 (xs (Int32.toNatClampNeg (x7 + 1))) _ g413) (cwV 1 hts (gdIn (List.forall_mem_cons.mpr ⟨kw_902, (List.forall_mem_cons.mpr ⟨kw_903, (List.forall_mem_cons.mpr ⟨kw_904, (List.forall_mem_cons.mpr ⟨kw_1, (fun _ h => absurd h List.not_mem_nil)⟩)⟩)⟩)⟩) kw_905) rfl rfl rfl ye_X11_trace ⟨Nat.le_of_ble_eq_true rfl, Nat.le_of_ble_eq_true rfl⟩) (hq_preC hE hI g414 rfl _) rfl rfl hl.1 rfl (lv_room (Nat.le_of_ble_eq_true rfl)) dL_law_1187 ⟨by show (_ : Nat) ≤ 600000; omega, by show (_ : Nat) ≤ 7302250; omega⟩) (fun H locs hI => ?_)
          refine lv_aload_n hx hb dL_law_1190 rfl (lv_at hl 2 rfl) ?_
          refine lv_aload_n hx hb dL_law_1191 rfl (lv_at hl 0 rfl) ?_
          refine lv_iload_n hx hb dL_law_1192 rfl (lv_at hl 3 rfl) ?_
          refine lv_iconst (v := 1) hx hb dL_law_1193 (by decide) ?_
          refine lv_iadd hx hb dL_law_1194 ?_
          obtain ⟨c417, h⟩ := hq_g h
          refine va_sld hx hb hX hbl hbA (hI.S h0) c417 dL_law_1195 ?_
          obtain ⟨g419, h⟩ := hq_g h
          obtain ⟨v421, S420, g418, h⟩ := hq_bd2 h
          refine hq_calli hI (va_runV (As := [.int (xs (Int32.toNatClampNeg (x7 + 1)))]) (rest := [.int v416]) ⟨hx, hb, hml, hown, hts⟩ (c_X12_trace l D kA ρ HB S415 S3.2 (xs (Int32.toNatClampNeg (x7 + 1))) _ g418) (cwV 1 hts (gdIn (List.forall_mem_cons.mpr ⟨kw_1345, (List.forall_mem_cons.mpr ⟨kw_1346, (List.forall_mem_cons.mpr ⟨kw_1347, (List.forall_mem_cons.mpr ⟨kw_6, (fun _ h => absurd h List.not_mem_nil)⟩)⟩)⟩)⟩) kw_1348) rfl rfl rfl ye_X12_trace ⟨Nat.le_of_ble_eq_true rfl, Nat.le_of_ble_eq_true rfl⟩) (hq_preC hE hI g419 rfl _) rfl rfl hl.1 rfl (lv_room (Nat.le_of_ble_eq_true rfl)) dL_law_1196 ⟨by show (_ : Nat) ≤ 600000; omega, by show (_ : Nat) ≤ 7302250; omega⟩) (fun H locs hI => ?_)
          refine lv_icmp_eq (tgt := 1286) hx hb dL_law_1199 (by decide) (fun c422 => ?_) (fun c422 => ?_)
          · have h := hq_t h c422
            refine lv_iinc (v := (x7 + 6)) (lv' := [(3, .int (x7 + 6)), (0, .ref b), (1, .ref S.2), (2, .ref S3.2)]) hx hb dL_law_1286 hl (k := 3) rfl rfl (by decide) rfl (fun ls hl => ?_)
            refine lv_goto (tgt := 18) hx hb dL_law_1289 (by decide) ?_
            exact ih18 (x7 + 6) S420 _ _ _ _ _ h hI (by omega) (by omega) (lv_sub hl [1, 2, 3, 0] rfl)
          · have h := hq_f h c422
            refine lv_iconst (v := 0) hx hb dL_law_1202 (by decide) ?_
            cases h
        have h := hq_f h c38
        by_cases c39 : ((xs (Int32.toNatClampNeg x7)) &&& 31) = 28
        · have h := hq_t h c39
          refine lv_tableIn (tgt := 1204) hx hb dL_law_33 (by rw [c39]; decide) (by rw [c39]; decide) (by rw [c39]; rfl) (by decide) ?_
          refine lv_aload_n hx hb dL_law_1204 rfl (lv_at hl 1 rfl) ?_
          refine lv_aload_n hx hb dL_law_1205 rfl (lv_at hl 0 rfl) ?_
          refine lv_iload_n hx hb dL_law_1206 rfl (lv_at hl 3 rfl) ?_
          refine lv_iconst (v := 1) hx hb dL_law_1207 (by decide) ?_
          refine lv_iadd hx hb dL_law_1208 ?_
          obtain ⟨c423, h⟩ := hq_g h
          refine va_sld hx hb hX hbl hbA (hI.S h0) c423 dL_law_1209 ?_
          refine lv_aload_n hx hb dL_law_1210 rfl (lv_at hl 0 rfl) ?_
          refine lv_iload_n hx hb dL_law_1211 rfl (lv_at hl 3 rfl) ?_
          refine lv_iconst (v := 2) hx hb dL_law_1212 (by decide) ?_
          refine lv_iadd hx hb dL_law_1213 ?_
          obtain ⟨c424, h⟩ := hq_g h
          refine va_sld hx hb hX hbl hbA (hI.S h0) c424 dL_law_1214 ?_
          obtain ⟨g426, h⟩ := hq_g h
          obtain ⟨v428, S427, g425, h⟩ := hq_bd2 h
          refine hq_calli hI (va_runV (As := [.int (xs (Int32.toNatClampNeg (x7 + 1))), .int (xs (Int32.toNatClampNeg (x7 + 2)))]) (rest := []) ⟨hx, hb, hml, hown, hts⟩ (c_X11_as l D kA ρ HB S8 S.2 (xs (Int32.toNatClampNeg (x7 + 1))) (xs (Int32.toNatClampNeg (x7 + 2))) _ g425) (cwV 2 hts (gdIn (List.forall_mem_cons.mpr ⟨kw_910, (List.forall_mem_cons.mpr ⟨kw_911, (List.forall_mem_cons.mpr ⟨kw_912, (List.forall_mem_cons.mpr ⟨kw_1, (fun _ h => absurd h List.not_mem_nil)⟩)⟩)⟩)⟩) kw_913) rfl rfl rfl ye_X11_as ⟨Nat.le_of_ble_eq_true rfl, Nat.le_of_ble_eq_true rfl⟩) (hq_preC hE hI g426 rfl _) rfl rfl hl.1 rfl (lv_room (Nat.le_of_ble_eq_true rfl)) dL_law_1215 ⟨by show (_ : Nat) ≤ 600000; omega, by show (_ : Nat) ≤ 7302250; omega⟩) (fun H locs hI => ?_)
          refine lv_aload_n hx hb dL_law_1218 rfl (lv_at hl 2 rfl) ?_
          refine lv_aload_n hx hb dL_law_1219 rfl (lv_at hl 0 rfl) ?_
          refine lv_iload_n hx hb dL_law_1220 rfl (lv_at hl 3 rfl) ?_
          refine lv_iconst (v := 1) hx hb dL_law_1221 (by decide) ?_
          refine lv_iadd hx hb dL_law_1222 ?_
          obtain ⟨c429, h⟩ := hq_g h
          refine va_sld hx hb hX hbl hbA (hI.S h0) c429 dL_law_1223 ?_
          refine lv_aload_n hx hb dL_law_1224 rfl (lv_at hl 0 rfl) ?_
          refine lv_iload_n hx hb dL_law_1225 rfl (lv_at hl 3 rfl) ?_
          refine lv_iconst (v := 2) hx hb dL_law_1226 (by decide) ?_
          refine lv_iadd hx hb dL_law_1227 ?_
          obtain ⟨c430, h⟩ := hq_g h
          refine va_sld hx hb hX hbl hbA (hI.S h0) c430 dL_law_1228 ?_
          obtain ⟨g432, h⟩ := hq_g h
          obtain ⟨v434, S433, g431, h⟩ := hq_bd2 h
          refine hq_calli hI (va_runV (As := [.int (xs (Int32.toNatClampNeg (x7 + 1))), .int (xs (Int32.toNatClampNeg (x7 + 2)))]) (rest := [.int v428]) ⟨hx, hb, hml, hown, hts⟩ (c_X12_as l D kA ρ HB S427 S3.2 (xs (Int32.toNatClampNeg (x7 + 1))) (xs (Int32.toNatClampNeg (x7 + 2))) _ g431) (cwV 2 hts (gdIn (List.forall_mem_cons.mpr ⟨kw_1349, (List.forall_mem_cons.mpr ⟨kw_1350, (List.forall_mem_cons.mpr ⟨kw_1351, (List.forall_mem_cons.mpr ⟨kw_6, (fun _ h => absurd h List.not_mem_nil)⟩)⟩)⟩)⟩) kw_1352) rfl rfl rfl ye_X12_as ⟨Nat.le_of_ble_eq_true rfl, Nat.le_of_ble_eq_true rfl⟩) (hq_preC hE hI g432 rfl _) rfl rfl hl.1 rfl (lv_room (Nat.le_of_ble_eq_true rfl)) dL_law_1229 ⟨by show (_ : Nat) ≤ 600000; omega, by show (_ : Nat) ≤ 7302250; omega⟩) (fun H locs hI => ?_)
          refine lv_icmp_eq (tgt := 1286) hx hb dL_law_1232 (by decide) (fun c435 => ?_) (fun c435 => ?_)
          · have h := hq_t h c435
            refine lv_iinc (v := (x7 + 6)) (lv' := [(3, .int (x7 + 6)), (0, .ref b), (1, .ref S.2), (2, .ref S3.2)]) hx hb dL_law_1286 hl (k := 3) rfl rfl (by decide) rfl (fun ls hl => ?_)
            refine lv_goto (tgt := 18) hx hb dL_law_1289 (by decide) ?_
            exact ih18 (x7 + 6) S433 _ _ _ _ _ h hI (by omega) (by omega) (lv_sub hl [1, 2, 3, 0] rfl)
          · have h := hq_f h c435
            refine lv_iconst (v := 0) hx hb dL_law_1235 (by decide) ?_
            cases h
        have h := hq_f h c39
        by_cases c40 : ((xs (Int32.toNatClampNeg x7)) &&& 31) = 29
        · have h := hq_t h c40
          refine lv_tableIn (tgt := 1237) hx hb dL_law_33 (by rw [c40]; decide) (by rw [c40]; decide) (by rw [c40]; rfl) (by decide) ?_
          refine lv_aload_n hx hb dL_law_1237 rfl (lv_at hl 1 rfl) ?_
          obtain ⟨g437, h⟩ := hq_g h
          obtain ⟨v439, S438, g436, h⟩ := hq_bd2 h
          refine hq_calli hI (va_runV (As := []) (rest := []) ⟨hx, hb, hml, hown, hts⟩ (c_X11_image l D kA ρ HB S8 S.2 _ g436) (cwV 0 hts (gdIn (List.forall_mem_cons.mpr ⟨kw_919, (List.forall_mem_cons.mpr ⟨kw_920, (List.forall_mem_cons.mpr ⟨kw_921, (List.forall_mem_cons.mpr ⟨kw_1, (fun _ h => absurd h List.not_mem_nil)⟩)⟩)⟩)⟩) kw_922) rfl rfl rfl ye_X11_image ⟨Nat.le_of_ble_eq_true rfl, Nat.le_of_ble_eq_true rfl⟩) (hq_preC hE hI g437 rfl _) rfl rfl hl.1 rfl (lv_room (Nat.le_of_ble_eq_true rfl)) dL_law_1238 ⟨by show (_ : Nat) ≤ 600000; omega, by show (_ : Nat) ≤ 7302250; omega⟩) (fun H locs hI => ?_)
          refine lv_aload_n hx hb dL_law_1241 rfl (lv_at hl 2 rfl) ?_
          obtain ⟨g441, h⟩ := hq_g h
          obtain ⟨v443, S442, g440, h⟩ := hq_bd2 h
          refine hq_calli hI (va_runV (As := []) (rest := [.int v439]) ⟨hx, hb, hml, hown, hts⟩ (c_X12_image l D kA ρ HB S438 S3.2 _ g440) (cwV 0 hts (gdIn (List.forall_mem_cons.mpr ⟨kw_1353, (List.forall_mem_cons.mpr ⟨kw_1354, (List.forall_mem_cons.mpr ⟨kw_1355, (List.forall_mem_cons.mpr ⟨kw_6, (fun _ h => absurd h List.not_mem_nil)⟩)⟩)⟩)⟩) kw_1356) rfl rfl rfl ye_X12_image ⟨Nat.le_of_ble_eq_true rfl, Nat.le_of_ble_eq_true rfl⟩) (hq_preC hE hI g441 rfl _) rfl rfl hl.1 rfl (lv_room (Nat.le_of_ble_eq_true rfl)) dL_law_1242 ⟨by show (_ : Nat) ≤ 600000; omega, by show (_ : Nat) ≤ 7302250; omega⟩) (fun H locs hI => ?_)
          refine lv_icmp_eq (tgt := 1286) hx hb dL_law_1245 (by decide) (fun c444 => ?_) (fun c444 => ?_)
          · have h := hq_t h c444
            refine lv_iinc (v := (x7 + 6)) (lv' := [(3, .int (x7 + 6)), (0, .ref b), (1, .ref S.2), (2, .ref S3.2)]) hx hb dL_law_1286 hl (k := 3) rfl rfl (by decide) rfl (fun ls hl => ?_)
            refine lv_goto (tgt := 18) hx hb dL_law_1289 (by decide) ?_
            exact ih18 (x7 + 6) S442 _ _ _ _ _ h hI (by omega) (by omega) (lv_sub hl [1, 2, 3, 0] rfl)
          · have h := hq_f h c444
            refine lv_iconst (v := 0) hx hb dL_law_1248 (by decide) ?_
            cases h
        have h := hq_f h c40
        by_cases c41 : ((xs (Int32.toNatClampNeg x7)) &&& 31) = 30
        · have h := hq_t h c41
          refine lv_tableIn (tgt := 1250) hx hb dL_law_33 (by rw [c41]; decide) (by rw [c41]; decide) (by rw [c41]; rfl) (by decide) ?_
          refine lv_aload_n hx hb dL_law_1250 rfl (lv_at hl 1 rfl) ?_
          obtain ⟨g446, h⟩ := hq_g h
          obtain ⟨v448, S447, g445, h⟩ := hq_bd2 h
          refine hq_calli hI (va_runV (As := []) (rest := []) ⟨hx, hb, hml, hown, hts⟩ (c_X11_undo l D kA ρ HB S8 S.2 _ g445) (cwV 0 hts (gdIn (List.forall_mem_cons.mpr ⟨kw_931, (List.forall_mem_cons.mpr ⟨kw_932, (List.forall_mem_cons.mpr ⟨kw_933, (List.forall_mem_cons.mpr ⟨kw_1, (fun _ h => absurd h List.not_mem_nil)⟩)⟩)⟩)⟩) kw_934) rfl rfl rfl ye_X11_undo ⟨Nat.le_of_ble_eq_true rfl, Nat.le_of_ble_eq_true rfl⟩) (hq_preC hE hI g446 rfl _) rfl rfl hl.1 rfl (lv_room (Nat.le_of_ble_eq_true rfl)) dL_law_1251 ⟨by show (_ : Nat) ≤ 600000; omega, by show (_ : Nat) ≤ 7302250; omega⟩) (fun H locs hI => ?_)
          refine lv_aload_n hx hb dL_law_1254 rfl (lv_at hl 2 rfl) ?_
          obtain ⟨g450, h⟩ := hq_g h
          obtain ⟨v452, S451, g449, h⟩ := hq_bd2 h
          refine hq_calli hI (va_runV (As := []) (rest := [.int v448]) ⟨hx, hb, hml, hown, hts⟩ (c_X12_undo l D kA ρ HB S447 S3.2 _ g449) (cwV 0 hts (gdIn (List.forall_mem_cons.mpr ⟨kw_1357, (List.forall_mem_cons.mpr ⟨kw_1358, (List.forall_mem_cons.mpr ⟨kw_1359, (List.forall_mem_cons.mpr ⟨kw_6, (fun _ h => absurd h List.not_mem_nil)⟩)⟩)⟩)⟩) kw_1360) rfl rfl rfl ye_X12_undo ⟨Nat.le_of_ble_eq_true rfl, Nat.le_of_ble_eq_true rfl⟩) (hq_preC hE hI g450 rfl _) rfl rfl hl.1 rfl (lv_room (Nat.le_of_ble_eq_true rfl)) dL_law_1255 ⟨by show (_ : Nat) ≤ 600000; omega, by show (_ : Nat) ≤ 7302250; omega⟩) (fun H locs hI => ?_)
          refine lv_icmp_eq (tgt := 1286) hx hb dL_law_1258 (by decide) (fun c453 => ?_) (fun c453 => ?_)
          · have h := hq_t h c453
            refine lv_iinc (v := (x7 + 6)) (lv' := [(3, .int (x7 + 6)), (0, .ref b), (1, .ref S.2), (2, .ref S3.2)]) hx hb dL_law_1286 hl (k := 3) rfl rfl (by decide) rfl (fun ls hl => ?_)
            refine lv_goto (tgt := 18) hx hb dL_law_1289 (by decide) ?_
            exact ih18 (x7 + 6) S451 _ _ _ _ _ h hI (by omega) (by omega) (lv_sub hl [1, 2, 3, 0] rfl)
          · have h := hq_f h c453
            refine lv_iconst (v := 0) hx hb dL_law_1261 (by decide) ?_
            cases h
        have h := hq_f h c41
        by_cases c42 : ((xs (Int32.toNatClampNeg x7)) &&& 31) = 31
        · have h := hq_t h c42
          refine lv_tableIn (tgt := 1263) hx hb dL_law_33 (by rw [c42]; decide) (by rw [c42]; decide) (by rw [c42]; rfl) (by decide) ?_
          refine lv_aload_n hx hb dL_law_1263 rfl (lv_at hl 1 rfl) ?_
          refine lv_aload_n hx hb dL_law_1264 rfl (lv_at hl 0 rfl) ?_
          refine lv_iload_n hx hb dL_law_1265 rfl (lv_at hl 3 rfl) ?_
          refine lv_iconst (v := 1) hx hb dL_law_1266 (by decide) ?_
          refine lv_iadd hx hb dL_law_1267 ?_
          obtain ⟨c454, h⟩ := hq_g h
          refine va_sld hx hb hX hbl hbA (hI.S h0) c454 dL_law_1268 ?_
          obtain ⟨g456, h⟩ := hq_g h
          obtain ⟨v458, S457, g455, h⟩ := hq_bd2 h
          refine hq_calli hI (va_runV (As := [.int (xs (Int32.toNatClampNeg (x7 + 1)))]) (rest := []) ⟨hx, hb, hml, hown, hts⟩ (c_X11_count l D kA ρ HB S8 S.2 (xs (Int32.toNatClampNeg (x7 + 1))) _ g455) (cwV 1 hts (gdIn (List.forall_mem_cons.mpr ⟨kw_935, (List.forall_mem_cons.mpr ⟨kw_936, (List.forall_mem_cons.mpr ⟨kw_937, (List.forall_mem_cons.mpr ⟨kw_1, (fun _ h => absurd h List.not_mem_nil)⟩)⟩)⟩)⟩) kw_938) rfl rfl rfl ye_X11_count ⟨Nat.le_of_ble_eq_true rfl, Nat.le_of_ble_eq_true rfl⟩) (hq_preC hE hI g456 rfl _) rfl rfl hl.1 rfl (lv_room (Nat.le_of_ble_eq_true rfl)) dL_law_1269 ⟨by show (_ : Nat) ≤ 600000; omega, by show (_ : Nat) ≤ 7302250; omega⟩) (fun H locs hI => ?_)
          refine lv_aload_n hx hb dL_law_1272 rfl (lv_at hl 2 rfl) ?_
          refine lv_aload_n hx hb dL_law_1273 rfl (lv_at hl 0 rfl) ?_
          refine lv_iload_n hx hb dL_law_1274 rfl (lv_at hl 3 rfl) ?_
          refine lv_iconst (v := 1) hx hb dL_law_1275 (by decide) ?_
          refine lv_iadd hx hb dL_law_1276 ?_
          obtain ⟨c459, h⟩ := hq_g h
          refine va_sld hx hb hX hbl hbA (hI.S h0) c459 dL_law_1277 ?_
          obtain ⟨g461, h⟩ := hq_g h
          obtain ⟨v463, S462, g460, h⟩ := hq_bd2 h
          refine hq_calli hI (va_runV (As := [.int (xs (Int32.toNatClampNeg (x7 + 1)))]) (rest := [.int v458]) ⟨hx, hb, hml, hown, hts⟩ (c_X12_count l D kA ρ HB S457 S3.2 (xs (Int32.toNatClampNeg (x7 + 1))) _ g460) (cwV 1 hts (gdIn (List.forall_mem_cons.mpr ⟨kw_1361, (List.forall_mem_cons.mpr ⟨kw_1362, (List.forall_mem_cons.mpr ⟨kw_1363, (List.forall_mem_cons.mpr ⟨kw_6, (fun _ h => absurd h List.not_mem_nil)⟩)⟩)⟩)⟩) kw_1364) rfl rfl rfl ye_X12_count ⟨Nat.le_of_ble_eq_true rfl, Nat.le_of_ble_eq_true rfl⟩) (hq_preC hE hI g461 rfl _) rfl rfl hl.1 rfl (lv_room (Nat.le_of_ble_eq_true rfl)) dL_law_1278 ⟨by show (_ : Nat) ≤ 600000; omega, by show (_ : Nat) ≤ 7302250; omega⟩) (fun H locs hI => ?_)
          refine lv_icmp_eq (tgt := 1286) hx hb dL_law_1281 (by decide) (fun c464 => ?_) (fun c464 => ?_)
          · have h := hq_t h c464
            refine lv_iinc (v := (x7 + 6)) (lv' := [(3, .int (x7 + 6)), (0, .ref b), (1, .ref S.2), (2, .ref S3.2)]) hx hb dL_law_1286 hl (k := 3) rfl rfl (by decide) rfl (fun ls hl => ?_)
            refine lv_goto (tgt := 18) hx hb dL_law_1289 (by decide) ?_
            exact ih18 (x7 + 6) S462 _ _ _ _ _ h hI (by omega) (by omega) (lv_sub hl [1, 2, 3, 0] rfl)
          · have h := hq_f h c464
            refine lv_iconst (v := 0) hx hb dL_law_1284 (by decide) ?_
            cases h
        have h := hq_f h c42
        have t_c11 := lv_neT c11 (a := 0) (by decide)
        have t_c12 := lv_neT c12 (a := 1) (by decide)
        have t_c13 := lv_neT c13 (a := 2) (by decide)
        have t_c14 := lv_neT c14 (a := 3) (by decide)
        have t_c15 := lv_neT c15 (a := 4) (by decide)
        have t_c16 := lv_neT c16 (a := 5) (by decide)
        have t_c17 := lv_neT c17 (a := 6) (by decide)
        have t_c18 := lv_neT c18 (a := 7) (by decide)
        have t_c19 := lv_neT c19 (a := 8) (by decide)
        have t_c20 := lv_neT c20 (a := 9) (by decide)
        have t_c21 := lv_neT c21 (a := 10) (by decide)
        have t_c22 := lv_neT c22 (a := 11) (by decide)
        have t_c23 := lv_neT c23 (a := 12) (by decide)
        have t_c24 := lv_neT c24 (a := 13) (by decide)
        have t_c25 := lv_neT c25 (a := 14) (by decide)
        have t_c26 := lv_neT c26 (a := 15) (by decide)
        have t_c27 := lv_neT c27 (a := 16) (by decide)
        have t_c28 := lv_neT c28 (a := 17) (by decide)
        have t_c29 := lv_neT c29 (a := 18) (by decide)
        have t_c30 := lv_neT c30 (a := 19) (by decide)
        have t_c31 := lv_neT c31 (a := 20) (by decide)
        have t_c32 := lv_neT c32 (a := 21) (by decide)
        have t_c33 := lv_neT c33 (a := 22) (by decide)
        have t_c34 := lv_neT c34 (a := 23) (by decide)
        have t_c35 := lv_neT c35 (a := 24) (by decide)
        have t_c36 := lv_neT c36 (a := 25) (by decide)
        have t_c37 := lv_neT c37 (a := 26) (by decide)
        have t_c38 := lv_neT c38 (a := 27) (by decide)
        have t_c39 := lv_neT c39 (a := 28) (by decide)
        have t_c40 := lv_neT c40 (a := 29) (by decide)
        have t_c41 := lv_neT c41 (a := 30) (by decide)
        have t_c42 := lv_neT c42 (a := 31) (by decide)
        refine lv_tableOut (tgt := 1286) hx hb dL_law_33 (by omega) (by decide) ?_
        refine lv_iinc (v := (x7 + 6)) (lv' := [(3, .int (x7 + 6)), (0, .ref b), (1, .ref S.2), (2, .ref S3.2)]) hx hb dL_law_1286 hl (k := 3) rfl rfl (by decide) rfl (fun ls hl => ?_)
        refine lv_goto (tgt := 18) hx hb dL_law_1289 (by decide) ?_
        exact ih18 (x7 + 6) S8 _ _ _ _ _ h hI (by omega) (by omega) (lv_sub hl [1, 2, 3, 0] rfl)
  exact hL18 65 0 S6 _ _ _ _ _ h hI (Nat.le_of_ble_eq_true rfl) (Nat.le_of_ble_eq_true rfl) (lv_sub hl [3, 2, 1, 0] rfl)
