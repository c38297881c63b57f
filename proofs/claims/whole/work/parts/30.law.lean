/-! THE CLAIM OUT OF ONE WALK OF THE LAW'S BODY. Your part is whole_start (and what it stands on); all else here is the same for every law, but numbers. -/
def R_law : String := "LadderMakerLaw"
def lw_P (b : Addr) (xs : List Int32) (args : Array Value) (s : State) : Prop := args = #[.ref b] ∧ s.IntsAt b xs ∧ xs.length ≤ 3072 ∧ (Jvm.Cond.and given_1 narrow_1).before args s = true
def lw_Q (_ : Array Value) (s : State) (o : Outcome) (t : State) : Prop := o = .returned (some (.int 1)) ∧ Framed s o t [] 600000 7302250
def lw_Z (below : List Frame) (a : Array Value) (s : State) : State → Prop := fun t => ∃ o, t.status = .running ∧ Ended t below o ∧ lw_Q a s o t
/-- the law's own end, with 1 on the stack, nothing written that was there before, its room as the claim has it -/
theorem lw_ret {p : Program} {l : Launch} {e : Env} {s : State} {m : MethodId} {below : List Frame} {meth : Method} {c : Code} {b : Nat} (hx : p.tables.exec = Jvm.exec) (hb : c.code = code) (hr : meth.sig.returnType = ret) (hlocks : meth.locks = false) {pc : Nat} {H : Heap} {ls : Array Slot} (hdg : decode code pc = .ok (.ireturn, 1)) : W p l e room_1 s m #[Value.ref b] below meth c H [] 600000 7302250 (lw_Z below #[Value.ref b] s) (F0 m pc ls [.int 1]) := by
  intro T hT X
  obtain ⟨fs, hret, hrun, hended, hW, hframe⟩ := X.leave (v := some (.int 1)) (hlocks := hlocks) (fun h => by rw [hr] at h; cases h)
  have hmeth' : T.vm.method? m = some meth := X.method'
  refine ⟨T.setFrames fs, ?_, .returned (some (.int 1)), hrun, hended, rfl, ⟨_, rfl⟩, hW, hframe⟩
  jvm_step X.here [X.here.top, hx, hb, hdg, hmeth', hr, ret, narrow_b1]
  (try refine ⟨rfl, ?_⟩); (try refine ⟨rfl, ?_⟩)
  first | (intro acts; rw [hret _ acts rfl rfl rfl]) | rw [hret _ _ rfl rfl rfl]
  exact Steps.refl _
/-- what holds at the law's entry: the machine, the code, the tables' words (any of lw_tbl by 'hts w (by decide +kernel)'), the script of L ints xs at the cell b, what the Statement gives of the start (any of its parts by flat_of_before) -/
def lw_At (p : Program) (s : State) (m : MethodId) (meth : Method) (c : Code) (b L : Nat) (xs : Nat → Int32) : Prop :=
  p.tables.exec = Jvm.exec ∧ c.code = code ∧ meth.sig.returnType = ret ∧ c.maxLocals = 4 ∧ s.vm.findClass R_law = some m.cls ∧ (∀ w ∈ lw_tbl, w.before #[Value.ref b] s = true) ∧ va_X b L xs s s.heap ∧ b < s.heap.size ∧ meth.locks = false ∧ (Jvm.Cond.and given_1 narrow_1).before #[Value.ref b] s = true
theorem dL_law_0 : decode code 0 = .ok (.new 7, 3) := by decide +kernel
theorem dL_law_3 : decode code 3 = .ok (.dup, 1) := by decide +kernel
theorem dL_law_4 : decode code 4 = .ok (.invokespecial 9, 3) := by decide +kernel
theorem dL_law_7 : decode code 7 = .ok (.astore_n 1, 1) := by decide +kernel
theorem dL_law_8 : decode code 8 = .ok (.new 10, 3) := by decide +kernel
theorem dL_law_11 : decode code 11 = .ok (.dup, 1) := by decide +kernel
theorem dL_law_12 : decode code 12 = .ok (.invokespecial 12, 3) := by decide +kernel
theorem dL_law_15 : decode code 15 = .ok (.astore_n 2, 1) := by decide +kernel
theorem dL_law_16 : decode code 16 = .ok (.iconst 0, 1) := by decide +kernel
theorem dL_law_17 : decode code 17 = .ok (.istore_n 3, 1) := by decide +kernel
theorem dL_law_18 : decode code 18 = .ok (.iload_n 3, 1) := by decide +kernel
theorem dL_law_19 : decode code 19 = .ok (.aload_n 0, 1) := by decide +kernel
theorem dL_law_20 : decode code 20 = .ok (.arraylength, 1) := by decide +kernel
theorem dL_law_21 : decode code 21 = .ok (.bipush 6, 2) := by decide +kernel
theorem dL_law_23 : decode code 23 = .ok (.isub, 1) := by decide +kernel
theorem dL_law_24 : decode code 24 = .ok (.if_icmp .gt 927, 3) := by decide +kernel
theorem dL_law_27 : decode code 27 = .ok (.aload_n 0, 1) := by decide +kernel
theorem dL_law_28 : decode code 28 = .ok (.iload_n 3, 1) := by decide +kernel
theorem dL_law_29 : decode code 29 = .ok (.iaload, 1) := by decide +kernel
theorem dL_law_30 : decode code 30 = .ok (.bipush 31, 2) := by decide +kernel
theorem dL_law_32 : decode code 32 = .ok (.iand, 1) := by decide +kernel
theorem dL_law_33 : decode code 33 = .ok (.tableswitch 912 0 28 #[131, 174, 207, 220, 233, 266, 289, 333, 376, 389, 412, 435, 468, 502, 515, 528, 561, 574, 587, 600, 633, 656, 689, 712, 755, 789, 852, 875, 898], 131) := by decide +kernel
theorem dL_law_164 : decode code 164 = .ok (.aload_n 1, 1) := by decide +kernel
theorem dL_law_165 : decode code 165 = .ok (.aload_n 0, 1) := by decide +kernel
theorem dL_law_166 : decode code 166 = .ok (.iload_n 3, 1) := by decide +kernel
theorem dL_law_167 : decode code 167 = .ok (.iconst 1, 1) := by decide +kernel
theorem dL_law_168 : decode code 168 = .ok (.iadd, 1) := by decide +kernel
theorem dL_law_169 : decode code 169 = .ok (.iaload, 1) := by decide +kernel
theorem dL_law_170 : decode code 170 = .ok (.aload_n 0, 1) := by decide +kernel
theorem dL_law_171 : decode code 171 = .ok (.iload_n 3, 1) := by decide +kernel
theorem dL_law_172 : decode code 172 = .ok (.iconst 2, 1) := by decide +kernel
theorem dL_law_173 : decode code 173 = .ok (.iadd, 1) := by decide +kernel
theorem dL_law_174 : decode code 174 = .ok (.iaload, 1) := by decide +kernel
theorem dL_law_175 : decode code 175 = .ok (.aload_n 0, 1) := by decide +kernel
theorem dL_law_176 : decode code 176 = .ok (.iload_n 3, 1) := by decide +kernel
theorem dL_law_177 : decode code 177 = .ok (.iconst 3, 1) := by decide +kernel
theorem dL_law_178 : decode code 178 = .ok (.iadd, 1) := by decide +kernel
theorem dL_law_179 : decode code 179 = .ok (.iaload, 1) := by decide +kernel
theorem dL_law_180 : decode code 180 = .ok (.invokevirtual 13, 3) := by decide +kernel
theorem dL_law_183 : decode code 183 = .ok (.aload_n 2, 1) := by decide +kernel
theorem dL_law_184 : decode code 184 = .ok (.aload_n 0, 1) := by decide +kernel
theorem dL_law_185 : decode code 185 = .ok (.iload_n 3, 1) := by decide +kernel
theorem dL_law_186 : decode code 186 = .ok (.iconst 1, 1) := by decide +kernel
theorem dL_law_187 : decode code 187 = .ok (.iadd, 1) := by decide +kernel
theorem dL_law_188 : decode code 188 = .ok (.iaload, 1) := by decide +kernel
theorem dL_law_189 : decode code 189 = .ok (.aload_n 0, 1) := by decide +kernel
theorem dL_law_190 : decode code 190 = .ok (.iload_n 3, 1) := by decide +kernel
theorem dL_law_191 : decode code 191 = .ok (.iconst 2, 1) := by decide +kernel
theorem dL_law_192 : decode code 192 = .ok (.iadd, 1) := by decide +kernel
theorem dL_law_193 : decode code 193 = .ok (.iaload, 1) := by decide +kernel
theorem dL_law_194 : decode code 194 = .ok (.aload_n 0, 1) := by decide +kernel
theorem dL_law_195 : decode code 195 = .ok (.iload_n 3, 1) := by decide +kernel
theorem dL_law_196 : decode code 196 = .ok (.iconst 3, 1) := by decide +kernel
theorem dL_law_197 : decode code 197 = .ok (.iadd, 1) := by decide +kernel
theorem dL_law_198 : decode code 198 = .ok (.iaload, 1) := by decide +kernel
theorem dL_law_199 : decode code 199 = .ok (.invokevirtual 17, 3) := by decide +kernel
theorem dL_law_202 : decode code 202 = .ok (.if_icmp .eq 743, 3) := by decide +kernel
theorem dL_law_205 : decode code 205 = .ok (.iconst 0, 1) := by decide +kernel
theorem dL_law_206 : decode code 206 = .ok (.ireturn, 1) := by decide +kernel
theorem dL_law_207 : decode code 207 = .ok (.aload_n 1, 1) := by decide +kernel
theorem dL_law_208 : decode code 208 = .ok (.aload_n 0, 1) := by decide +kernel
theorem dL_law_209 : decode code 209 = .ok (.iload_n 3, 1) := by decide +kernel
theorem dL_law_210 : decode code 210 = .ok (.iconst 1, 1) := by decide +kernel
theorem dL_law_211 : decode code 211 = .ok (.iadd, 1) := by decide +kernel
theorem dL_law_212 : decode code 212 = .ok (.iaload, 1) := by decide +kernel
theorem dL_law_213 : decode code 213 = .ok (.aload_n 0, 1) := by decide +kernel
theorem dL_law_214 : decode code 214 = .ok (.iload_n 3, 1) := by decide +kernel
theorem dL_law_215 : decode code 215 = .ok (.iconst 2, 1) := by decide +kernel
theorem dL_law_216 : decode code 216 = .ok (.iadd, 1) := by decide +kernel
theorem dL_law_217 : decode code 217 = .ok (.iaload, 1) := by decide +kernel
theorem dL_law_218 : decode code 218 = .ok (.invokevirtual 18, 3) := by decide +kernel
theorem dL_law_221 : decode code 221 = .ok (.aload_n 2, 1) := by decide +kernel
theorem dL_law_222 : decode code 222 = .ok (.aload_n 0, 1) := by decide +kernel
theorem dL_law_223 : decode code 223 = .ok (.iload_n 3, 1) := by decide +kernel
theorem dL_law_224 : decode code 224 = .ok (.iconst 1, 1) := by decide +kernel
theorem dL_law_225 : decode code 225 = .ok (.iadd, 1) := by decide +kernel
theorem dL_law_226 : decode code 226 = .ok (.iaload, 1) := by decide +kernel
theorem dL_law_227 : decode code 227 = .ok (.aload_n 0, 1) := by decide +kernel
theorem dL_law_228 : decode code 228 = .ok (.iload_n 3, 1) := by decide +kernel
theorem dL_law_229 : decode code 229 = .ok (.iconst 2, 1) := by decide +kernel
theorem dL_law_230 : decode code 230 = .ok (.iadd, 1) := by decide +kernel
theorem dL_law_231 : decode code 231 = .ok (.iaload, 1) := by decide +kernel
theorem dL_law_232 : decode code 232 = .ok (.invokevirtual 22, 3) := by decide +kernel
theorem dL_law_235 : decode code 235 = .ok (.if_icmp .eq 710, 3) := by decide +kernel
theorem dL_law_238 : decode code 238 = .ok (.iconst 0, 1) := by decide +kernel
theorem dL_law_239 : decode code 239 = .ok (.ireturn, 1) := by decide +kernel
theorem dL_law_240 : decode code 240 = .ok (.aload_n 1, 1) := by decide +kernel
theorem dL_law_241 : decode code 241 = .ok (.invokevirtual 23, 3) := by decide +kernel
theorem dL_law_244 : decode code 244 = .ok (.aload_n 2, 1) := by decide +kernel
theorem dL_law_245 : decode code 245 = .ok (.invokevirtual 27, 3) := by decide +kernel
theorem dL_law_248 : decode code 248 = .ok (.if_icmp .eq 697, 3) := by decide +kernel
theorem dL_law_251 : decode code 251 = .ok (.iconst 0, 1) := by decide +kernel
theorem dL_law_252 : decode code 252 = .ok (.ireturn, 1) := by decide +kernel
theorem dL_law_253 : decode code 253 = .ok (.aload_n 1, 1) := by decide +kernel
theorem dL_law_254 : decode code 254 = .ok (.invokevirtual 28, 3) := by decide +kernel
theorem dL_law_257 : decode code 257 = .ok (.aload_n 2, 1) := by decide +kernel
theorem dL_law_258 : decode code 258 = .ok (.invokevirtual 31, 3) := by decide +kernel
theorem dL_law_261 : decode code 261 = .ok (.if_icmp .eq 684, 3) := by decide +kernel
theorem dL_law_264 : decode code 264 = .ok (.iconst 0, 1) := by decide +kernel
theorem dL_law_265 : decode code 265 = .ok (.ireturn, 1) := by decide +kernel
theorem dL_law_266 : decode code 266 = .ok (.aload_n 1, 1) := by decide +kernel
theorem dL_law_267 : decode code 267 = .ok (.aload_n 0, 1) := by decide +kernel
theorem dL_law_268 : decode code 268 = .ok (.iload_n 3, 1) := by decide +kernel
theorem dL_law_269 : decode code 269 = .ok (.iconst 1, 1) := by decide +kernel
theorem dL_law_270 : decode code 270 = .ok (.iadd, 1) := by decide +kernel
theorem dL_law_271 : decode code 271 = .ok (.iaload, 1) := by decide +kernel
theorem dL_law_272 : decode code 272 = .ok (.aload_n 0, 1) := by decide +kernel
theorem dL_law_273 : decode code 273 = .ok (.iload_n 3, 1) := by decide +kernel
theorem dL_law_274 : decode code 274 = .ok (.iconst 2, 1) := by decide +kernel
theorem dL_law_275 : decode code 275 = .ok (.iadd, 1) := by decide +kernel
theorem dL_law_276 : decode code 276 = .ok (.iaload, 1) := by decide +kernel
theorem dL_law_277 : decode code 277 = .ok (.invokevirtual 32, 3) := by decide +kernel
theorem dL_law_280 : decode code 280 = .ok (.aload_n 2, 1) := by decide +kernel
theorem dL_law_281 : decode code 281 = .ok (.aload_n 0, 1) := by decide +kernel
theorem dL_law_282 : decode code 282 = .ok (.iload_n 3, 1) := by decide +kernel
theorem dL_law_283 : decode code 283 = .ok (.iconst 1, 1) := by decide +kernel
theorem dL_law_284 : decode code 284 = .ok (.iadd, 1) := by decide +kernel
theorem dL_law_285 : decode code 285 = .ok (.iaload, 1) := by decide +kernel
theorem dL_law_286 : decode code 286 = .ok (.aload_n 0, 1) := by decide +kernel
theorem dL_law_287 : decode code 287 = .ok (.iload_n 3, 1) := by decide +kernel
theorem dL_law_288 : decode code 288 = .ok (.iconst 2, 1) := by decide +kernel
theorem dL_law_289 : decode code 289 = .ok (.iadd, 1) := by decide +kernel
theorem dL_law_290 : decode code 290 = .ok (.iaload, 1) := by decide +kernel
theorem dL_law_291 : decode code 291 = .ok (.invokevirtual 35, 3) := by decide +kernel
theorem dL_law_294 : decode code 294 = .ok (.if_icmp .eq 651, 3) := by decide +kernel
theorem dL_law_297 : decode code 297 = .ok (.iconst 0, 1) := by decide +kernel
theorem dL_law_298 : decode code 298 = .ok (.ireturn, 1) := by decide +kernel
theorem dL_law_299 : decode code 299 = .ok (.aload_n 1, 1) := by decide +kernel
theorem dL_law_300 : decode code 300 = .ok (.aload_n 0, 1) := by decide +kernel
theorem dL_law_301 : decode code 301 = .ok (.iload_n 3, 1) := by decide +kernel
theorem dL_law_302 : decode code 302 = .ok (.iconst 1, 1) := by decide +kernel
theorem dL_law_303 : decode code 303 = .ok (.iadd, 1) := by decide +kernel
theorem dL_law_304 : decode code 304 = .ok (.iaload, 1) := by decide +kernel
theorem dL_law_305 : decode code 305 = .ok (.invokevirtual 36, 3) := by decide +kernel
theorem dL_law_308 : decode code 308 = .ok (.aload_n 2, 1) := by decide +kernel
theorem dL_law_309 : decode code 309 = .ok (.aload_n 0, 1) := by decide +kernel
theorem dL_law_310 : decode code 310 = .ok (.iload_n 3, 1) := by decide +kernel
theorem dL_law_311 : decode code 311 = .ok (.iconst 1, 1) := by decide +kernel
theorem dL_law_312 : decode code 312 = .ok (.iadd, 1) := by decide +kernel
theorem dL_law_313 : decode code 313 = .ok (.iaload, 1) := by decide +kernel
theorem dL_law_314 : decode code 314 = .ok (.invokevirtual 40, 3) := by decide +kernel
theorem dL_law_317 : decode code 317 = .ok (.if_icmp .eq 628, 3) := by decide +kernel
theorem dL_law_320 : decode code 320 = .ok (.iconst 0, 1) := by decide +kernel
theorem dL_law_321 : decode code 321 = .ok (.ireturn, 1) := by decide +kernel
theorem dL_law_322 : decode code 322 = .ok (.aload_n 1, 1) := by decide +kernel
theorem dL_law_323 : decode code 323 = .ok (.aload_n 0, 1) := by decide +kernel
theorem dL_law_324 : decode code 324 = .ok (.iload_n 3, 1) := by decide +kernel
theorem dL_law_325 : decode code 325 = .ok (.iconst 1, 1) := by decide +kernel
theorem dL_law_326 : decode code 326 = .ok (.iadd, 1) := by decide +kernel
theorem dL_law_327 : decode code 327 = .ok (.iaload, 1) := by decide +kernel
theorem dL_law_328 : decode code 328 = .ok (.aload_n 0, 1) := by decide +kernel
theorem dL_law_329 : decode code 329 = .ok (.iload_n 3, 1) := by decide +kernel
theorem dL_law_330 : decode code 330 = .ok (.iconst 2, 1) := by decide +kernel
theorem dL_law_331 : decode code 331 = .ok (.iadd, 1) := by decide +kernel
theorem dL_law_332 : decode code 332 = .ok (.iaload, 1) := by decide +kernel
theorem dL_law_333 : decode code 333 = .ok (.aload_n 0, 1) := by decide +kernel
theorem dL_law_334 : decode code 334 = .ok (.iload_n 3, 1) := by decide +kernel
theorem dL_law_335 : decode code 335 = .ok (.iconst 3, 1) := by decide +kernel
theorem dL_law_336 : decode code 336 = .ok (.iadd, 1) := by decide +kernel
theorem dL_law_337 : decode code 337 = .ok (.iaload, 1) := by decide +kernel
theorem dL_law_338 : decode code 338 = .ok (.invokevirtual 41, 3) := by decide +kernel
theorem dL_law_341 : decode code 341 = .ok (.aload_n 2, 1) := by decide +kernel
theorem dL_law_342 : decode code 342 = .ok (.aload_n 0, 1) := by decide +kernel
theorem dL_law_343 : decode code 343 = .ok (.iload_n 3, 1) := by decide +kernel
theorem dL_law_344 : decode code 344 = .ok (.iconst 1, 1) := by decide +kernel
theorem dL_law_345 : decode code 345 = .ok (.iadd, 1) := by decide +kernel
theorem dL_law_346 : decode code 346 = .ok (.iaload, 1) := by decide +kernel
theorem dL_law_347 : decode code 347 = .ok (.aload_n 0, 1) := by decide +kernel
theorem dL_law_348 : decode code 348 = .ok (.iload_n 3, 1) := by decide +kernel
theorem dL_law_349 : decode code 349 = .ok (.iconst 2, 1) := by decide +kernel
theorem dL_law_350 : decode code 350 = .ok (.iadd, 1) := by decide +kernel
theorem dL_law_351 : decode code 351 = .ok (.iaload, 1) := by decide +kernel
theorem dL_law_352 : decode code 352 = .ok (.aload_n 0, 1) := by decide +kernel
theorem dL_law_353 : decode code 353 = .ok (.iload_n 3, 1) := by decide +kernel
theorem dL_law_354 : decode code 354 = .ok (.iconst 3, 1) := by decide +kernel
theorem dL_law_355 : decode code 355 = .ok (.iadd, 1) := by decide +kernel
theorem dL_law_356 : decode code 356 = .ok (.iaload, 1) := by decide +kernel
theorem dL_law_357 : decode code 357 = .ok (.invokevirtual 45, 3) := by decide +kernel
theorem dL_law_360 : decode code 360 = .ok (.lcmp, 1) := by decide +kernel
theorem dL_law_361 : decode code 361 = .ok (.ifCond .eq 584, 3) := by decide +kernel
theorem dL_law_364 : decode code 364 = .ok (.iconst 0, 1) := by decide +kernel
theorem dL_law_365 : decode code 365 = .ok (.ireturn, 1) := by decide +kernel
theorem dL_law_366 : decode code 366 = .ok (.aload_n 1, 1) := by decide +kernel
theorem dL_law_367 : decode code 367 = .ok (.aload_n 0, 1) := by decide +kernel
theorem dL_law_368 : decode code 368 = .ok (.iload_n 3, 1) := by decide +kernel
theorem dL_law_369 : decode code 369 = .ok (.iconst 1, 1) := by decide +kernel
theorem dL_law_370 : decode code 370 = .ok (.iadd, 1) := by decide +kernel
theorem dL_law_371 : decode code 371 = .ok (.iaload, 1) := by decide +kernel
theorem dL_law_372 : decode code 372 = .ok (.aload_n 0, 1) := by decide +kernel
theorem dL_law_373 : decode code 373 = .ok (.iload_n 3, 1) := by decide +kernel
theorem dL_law_374 : decode code 374 = .ok (.iconst 2, 1) := by decide +kernel
theorem dL_law_375 : decode code 375 = .ok (.iadd, 1) := by decide +kernel
theorem dL_law_376 : decode code 376 = .ok (.iaload, 1) := by decide +kernel
theorem dL_law_377 : decode code 377 = .ok (.aload_n 0, 1) := by decide +kernel
theorem dL_law_378 : decode code 378 = .ok (.iload_n 3, 1) := by decide +kernel
theorem dL_law_379 : decode code 379 = .ok (.iconst 3, 1) := by decide +kernel
theorem dL_law_380 : decode code 380 = .ok (.iadd, 1) := by decide +kernel
theorem dL_law_381 : decode code 381 = .ok (.iaload, 1) := by decide +kernel
theorem dL_law_382 : decode code 382 = .ok (.invokevirtual 46, 3) := by decide +kernel
theorem dL_law_385 : decode code 385 = .ok (.aload_n 2, 1) := by decide +kernel
theorem dL_law_386 : decode code 386 = .ok (.aload_n 0, 1) := by decide +kernel
theorem dL_law_387 : decode code 387 = .ok (.iload_n 3, 1) := by decide +kernel
theorem dL_law_388 : decode code 388 = .ok (.iconst 1, 1) := by decide +kernel
theorem dL_law_389 : decode code 389 = .ok (.iadd, 1) := by decide +kernel
theorem dL_law_390 : decode code 390 = .ok (.iaload, 1) := by decide +kernel
theorem dL_law_391 : decode code 391 = .ok (.aload_n 0, 1) := by decide +kernel
theorem dL_law_392 : decode code 392 = .ok (.iload_n 3, 1) := by decide +kernel
theorem dL_law_393 : decode code 393 = .ok (.iconst 2, 1) := by decide +kernel
theorem dL_law_394 : decode code 394 = .ok (.iadd, 1) := by decide +kernel
theorem dL_law_395 : decode code 395 = .ok (.iaload, 1) := by decide +kernel
theorem dL_law_396 : decode code 396 = .ok (.aload_n 0, 1) := by decide +kernel
theorem dL_law_397 : decode code 397 = .ok (.iload_n 3, 1) := by decide +kernel
theorem dL_law_398 : decode code 398 = .ok (.iconst 3, 1) := by decide +kernel
theorem dL_law_399 : decode code 399 = .ok (.iadd, 1) := by decide +kernel
theorem dL_law_400 : decode code 400 = .ok (.iaload, 1) := by decide +kernel
theorem dL_law_401 : decode code 401 = .ok (.invokevirtual 49, 3) := by decide +kernel
theorem dL_law_404 : decode code 404 = .ok (.if_icmp .eq 541, 3) := by decide +kernel
theorem dL_law_407 : decode code 407 = .ok (.iconst 0, 1) := by decide +kernel
theorem dL_law_408 : decode code 408 = .ok (.ireturn, 1) := by decide +kernel
theorem dL_law_409 : decode code 409 = .ok (.aload_n 1, 1) := by decide +kernel
theorem dL_law_410 : decode code 410 = .ok (.invokevirtual 50, 3) := by decide +kernel
theorem dL_law_413 : decode code 413 = .ok (.aload_n 2, 1) := by decide +kernel
theorem dL_law_414 : decode code 414 = .ok (.invokevirtual 53, 3) := by decide +kernel
theorem dL_law_417 : decode code 417 = .ok (.if_icmp .eq 528, 3) := by decide +kernel
theorem dL_law_420 : decode code 420 = .ok (.iconst 0, 1) := by decide +kernel
theorem dL_law_421 : decode code 421 = .ok (.ireturn, 1) := by decide +kernel
theorem dL_law_422 : decode code 422 = .ok (.aload_n 1, 1) := by decide +kernel
theorem dL_law_423 : decode code 423 = .ok (.aload_n 0, 1) := by decide +kernel
theorem dL_law_424 : decode code 424 = .ok (.iload_n 3, 1) := by decide +kernel
theorem dL_law_425 : decode code 425 = .ok (.iconst 1, 1) := by decide +kernel
theorem dL_law_426 : decode code 426 = .ok (.iadd, 1) := by decide +kernel
theorem dL_law_427 : decode code 427 = .ok (.iaload, 1) := by decide +kernel
theorem dL_law_428 : decode code 428 = .ok (.invokevirtual 54, 3) := by decide +kernel
theorem dL_law_431 : decode code 431 = .ok (.aload_n 2, 1) := by decide +kernel
theorem dL_law_432 : decode code 432 = .ok (.aload_n 0, 1) := by decide +kernel
theorem dL_law_433 : decode code 433 = .ok (.iload_n 3, 1) := by decide +kernel
theorem dL_law_434 : decode code 434 = .ok (.iconst 1, 1) := by decide +kernel
theorem dL_law_435 : decode code 435 = .ok (.iadd, 1) := by decide +kernel
theorem dL_law_436 : decode code 436 = .ok (.iaload, 1) := by decide +kernel
theorem dL_law_437 : decode code 437 = .ok (.invokevirtual 57, 3) := by decide +kernel
theorem dL_law_440 : decode code 440 = .ok (.if_icmp .eq 505, 3) := by decide +kernel
theorem dL_law_443 : decode code 443 = .ok (.iconst 0, 1) := by decide +kernel
theorem dL_law_444 : decode code 444 = .ok (.ireturn, 1) := by decide +kernel
theorem dL_law_445 : decode code 445 = .ok (.aload_n 1, 1) := by decide +kernel
theorem dL_law_446 : decode code 446 = .ok (.aload_n 0, 1) := by decide +kernel
theorem dL_law_447 : decode code 447 = .ok (.iload_n 3, 1) := by decide +kernel
theorem dL_law_448 : decode code 448 = .ok (.iconst 1, 1) := by decide +kernel
theorem dL_law_449 : decode code 449 = .ok (.iadd, 1) := by decide +kernel
theorem dL_law_450 : decode code 450 = .ok (.iaload, 1) := by decide +kernel
theorem dL_law_451 : decode code 451 = .ok (.invokevirtual 58, 3) := by decide +kernel
theorem dL_law_454 : decode code 454 = .ok (.aload_n 2, 1) := by decide +kernel
theorem dL_law_455 : decode code 455 = .ok (.aload_n 0, 1) := by decide +kernel
theorem dL_law_456 : decode code 456 = .ok (.iload_n 3, 1) := by decide +kernel
theorem dL_law_457 : decode code 457 = .ok (.iconst 1, 1) := by decide +kernel
theorem dL_law_458 : decode code 458 = .ok (.iadd, 1) := by decide +kernel
theorem dL_law_459 : decode code 459 = .ok (.iaload, 1) := by decide +kernel
theorem dL_law_460 : decode code 460 = .ok (.invokevirtual 61, 3) := by decide +kernel
theorem dL_law_463 : decode code 463 = .ok (.if_icmp .eq 482, 3) := by decide +kernel
theorem dL_law_466 : decode code 466 = .ok (.iconst 0, 1) := by decide +kernel
theorem dL_law_467 : decode code 467 = .ok (.ireturn, 1) := by decide +kernel
theorem dL_law_468 : decode code 468 = .ok (.aload_n 1, 1) := by decide +kernel
theorem dL_law_469 : decode code 469 = .ok (.aload_n 0, 1) := by decide +kernel
theorem dL_law_470 : decode code 470 = .ok (.iload_n 3, 1) := by decide +kernel
theorem dL_law_471 : decode code 471 = .ok (.iconst 1, 1) := by decide +kernel
theorem dL_law_472 : decode code 472 = .ok (.iadd, 1) := by decide +kernel
theorem dL_law_473 : decode code 473 = .ok (.iaload, 1) := by decide +kernel
theorem dL_law_474 : decode code 474 = .ok (.aload_n 0, 1) := by decide +kernel
theorem dL_law_475 : decode code 475 = .ok (.iload_n 3, 1) := by decide +kernel
theorem dL_law_476 : decode code 476 = .ok (.iconst 2, 1) := by decide +kernel
theorem dL_law_477 : decode code 477 = .ok (.iadd, 1) := by decide +kernel
theorem dL_law_478 : decode code 478 = .ok (.iaload, 1) := by decide +kernel
theorem dL_law_479 : decode code 479 = .ok (.invokevirtual 62, 3) := by decide +kernel
theorem dL_law_482 : decode code 482 = .ok (.aload_n 2, 1) := by decide +kernel
theorem dL_law_483 : decode code 483 = .ok (.aload_n 0, 1) := by decide +kernel
theorem dL_law_484 : decode code 484 = .ok (.iload_n 3, 1) := by decide +kernel
theorem dL_law_485 : decode code 485 = .ok (.iconst 1, 1) := by decide +kernel
theorem dL_law_486 : decode code 486 = .ok (.iadd, 1) := by decide +kernel
theorem dL_law_487 : decode code 487 = .ok (.iaload, 1) := by decide +kernel
theorem dL_law_488 : decode code 488 = .ok (.aload_n 0, 1) := by decide +kernel
theorem dL_law_489 : decode code 489 = .ok (.iload_n 3, 1) := by decide +kernel
theorem dL_law_490 : decode code 490 = .ok (.iconst 2, 1) := by decide +kernel
theorem dL_law_491 : decode code 491 = .ok (.iadd, 1) := by decide +kernel
theorem dL_law_492 : decode code 492 = .ok (.iaload, 1) := by decide +kernel
theorem dL_law_493 : decode code 493 = .ok (.invokevirtual 65, 3) := by decide +kernel
theorem dL_law_496 : decode code 496 = .ok (.if_icmp .eq 449, 3) := by decide +kernel
theorem dL_law_499 : decode code 499 = .ok (.iconst 0, 1) := by decide +kernel
theorem dL_law_500 : decode code 500 = .ok (.ireturn, 1) := by decide +kernel
theorem dL_law_501 : decode code 501 = .ok (.aload_n 1, 1) := by decide +kernel
theorem dL_law_502 : decode code 502 = .ok (.aload_n 0, 1) := by decide +kernel
theorem dL_law_503 : decode code 503 = .ok (.iload_n 3, 1) := by decide +kernel
theorem dL_law_504 : decode code 504 = .ok (.iconst 1, 1) := by decide +kernel
theorem dL_law_505 : decode code 505 = .ok (.iadd, 1) := by decide +kernel
theorem dL_law_506 : decode code 506 = .ok (.iaload, 1) := by decide +kernel
theorem dL_law_507 : decode code 507 = .ok (.aload_n 0, 1) := by decide +kernel
theorem dL_law_508 : decode code 508 = .ok (.iload_n 3, 1) := by decide +kernel
theorem dL_law_509 : decode code 509 = .ok (.iconst 2, 1) := by decide +kernel
theorem dL_law_510 : decode code 510 = .ok (.iadd, 1) := by decide +kernel
theorem dL_law_511 : decode code 511 = .ok (.iaload, 1) := by decide +kernel
theorem dL_law_512 : decode code 512 = .ok (.invokevirtual 66, 3) := by decide +kernel
theorem dL_law_515 : decode code 515 = .ok (.aload_n 2, 1) := by decide +kernel
theorem dL_law_516 : decode code 516 = .ok (.aload_n 0, 1) := by decide +kernel
theorem dL_law_517 : decode code 517 = .ok (.iload_n 3, 1) := by decide +kernel
theorem dL_law_518 : decode code 518 = .ok (.iconst 1, 1) := by decide +kernel
theorem dL_law_519 : decode code 519 = .ok (.iadd, 1) := by decide +kernel
theorem dL_law_520 : decode code 520 = .ok (.iaload, 1) := by decide +kernel
theorem dL_law_521 : decode code 521 = .ok (.aload_n 0, 1) := by decide +kernel
theorem dL_law_522 : decode code 522 = .ok (.iload_n 3, 1) := by decide +kernel
theorem dL_law_523 : decode code 523 = .ok (.iconst 2, 1) := by decide +kernel
theorem dL_law_524 : decode code 524 = .ok (.iadd, 1) := by decide +kernel
theorem dL_law_525 : decode code 525 = .ok (.iaload, 1) := by decide +kernel
theorem dL_law_526 : decode code 526 = .ok (.invokevirtual 70, 3) := by decide +kernel
theorem dL_law_529 : decode code 529 = .ok (.lcmp, 1) := by decide +kernel
theorem dL_law_530 : decode code 530 = .ok (.ifCond .eq 415, 3) := by decide +kernel
theorem dL_law_533 : decode code 533 = .ok (.iconst 0, 1) := by decide +kernel
theorem dL_law_534 : decode code 534 = .ok (.ireturn, 1) := by decide +kernel
theorem dL_law_535 : decode code 535 = .ok (.aload_n 1, 1) := by decide +kernel
theorem dL_law_536 : decode code 536 = .ok (.invokevirtual 71, 3) := by decide +kernel
theorem dL_law_539 : decode code 539 = .ok (.aload_n 2, 1) := by decide +kernel
theorem dL_law_540 : decode code 540 = .ok (.invokevirtual 74, 3) := by decide +kernel
theorem dL_law_543 : decode code 543 = .ok (.if_icmp .eq 402, 3) := by decide +kernel
theorem dL_law_546 : decode code 546 = .ok (.iconst 0, 1) := by decide +kernel
theorem dL_law_547 : decode code 547 = .ok (.ireturn, 1) := by decide +kernel
theorem dL_law_548 : decode code 548 = .ok (.aload_n 1, 1) := by decide +kernel
theorem dL_law_549 : decode code 549 = .ok (.invokevirtual 75, 3) := by decide +kernel
theorem dL_law_552 : decode code 552 = .ok (.aload_n 2, 1) := by decide +kernel
theorem dL_law_553 : decode code 553 = .ok (.invokevirtual 78, 3) := by decide +kernel
theorem dL_law_556 : decode code 556 = .ok (.if_icmp .eq 389, 3) := by decide +kernel
theorem dL_law_559 : decode code 559 = .ok (.iconst 0, 1) := by decide +kernel
theorem dL_law_560 : decode code 560 = .ok (.ireturn, 1) := by decide +kernel
theorem dL_law_561 : decode code 561 = .ok (.aload_n 1, 1) := by decide +kernel
theorem dL_law_562 : decode code 562 = .ok (.aload_n 0, 1) := by decide +kernel
theorem dL_law_563 : decode code 563 = .ok (.iload_n 3, 1) := by decide +kernel
theorem dL_law_564 : decode code 564 = .ok (.iconst 1, 1) := by decide +kernel
theorem dL_law_565 : decode code 565 = .ok (.iadd, 1) := by decide +kernel
theorem dL_law_566 : decode code 566 = .ok (.iaload, 1) := by decide +kernel
theorem dL_law_567 : decode code 567 = .ok (.aload_n 0, 1) := by decide +kernel
theorem dL_law_568 : decode code 568 = .ok (.iload_n 3, 1) := by decide +kernel
theorem dL_law_569 : decode code 569 = .ok (.iconst 2, 1) := by decide +kernel
theorem dL_law_570 : decode code 570 = .ok (.iadd, 1) := by decide +kernel
theorem dL_law_571 : decode code 571 = .ok (.iaload, 1) := by decide +kernel
theorem dL_law_572 : decode code 572 = .ok (.invokevirtual 79, 3) := by decide +kernel
theorem dL_law_575 : decode code 575 = .ok (.aload_n 2, 1) := by decide +kernel
theorem dL_law_576 : decode code 576 = .ok (.aload_n 0, 1) := by decide +kernel
theorem dL_law_577 : decode code 577 = .ok (.iload_n 3, 1) := by decide +kernel
theorem dL_law_578 : decode code 578 = .ok (.iconst 1, 1) := by decide +kernel
theorem dL_law_579 : decode code 579 = .ok (.iadd, 1) := by decide +kernel
theorem dL_law_580 : decode code 580 = .ok (.iaload, 1) := by decide +kernel
theorem dL_law_581 : decode code 581 = .ok (.aload_n 0, 1) := by decide +kernel
theorem dL_law_582 : decode code 582 = .ok (.iload_n 3, 1) := by decide +kernel
theorem dL_law_583 : decode code 583 = .ok (.iconst 2, 1) := by decide +kernel
theorem dL_law_584 : decode code 584 = .ok (.iadd, 1) := by decide +kernel
theorem dL_law_585 : decode code 585 = .ok (.iaload, 1) := by decide +kernel
theorem dL_law_586 : decode code 586 = .ok (.invokevirtual 82, 3) := by decide +kernel
theorem dL_law_589 : decode code 589 = .ok (.if_icmp .eq 356, 3) := by decide +kernel
theorem dL_law_592 : decode code 592 = .ok (.iconst 0, 1) := by decide +kernel
theorem dL_law_593 : decode code 593 = .ok (.ireturn, 1) := by decide +kernel
theorem dL_law_594 : decode code 594 = .ok (.aload_n 1, 1) := by decide +kernel
theorem dL_law_595 : decode code 595 = .ok (.invokevirtual 83, 3) := by decide +kernel
theorem dL_law_598 : decode code 598 = .ok (.aload_n 2, 1) := by decide +kernel
theorem dL_law_599 : decode code 599 = .ok (.invokevirtual 86, 3) := by decide +kernel
theorem dL_law_602 : decode code 602 = .ok (.if_icmp .eq 343, 3) := by decide +kernel
theorem dL_law_605 : decode code 605 = .ok (.iconst 0, 1) := by decide +kernel
theorem dL_law_606 : decode code 606 = .ok (.ireturn, 1) := by decide +kernel
theorem dL_law_607 : decode code 607 = .ok (.aload_n 1, 1) := by decide +kernel
theorem dL_law_608 : decode code 608 = .ok (.invokevirtual 87, 3) := by decide +kernel
theorem dL_law_611 : decode code 611 = .ok (.aload_n 2, 1) := by decide +kernel
theorem dL_law_612 : decode code 612 = .ok (.invokevirtual 90, 3) := by decide +kernel
theorem dL_law_615 : decode code 615 = .ok (.if_icmp .eq 330, 3) := by decide +kernel
theorem dL_law_618 : decode code 618 = .ok (.iconst 0, 1) := by decide +kernel
theorem dL_law_619 : decode code 619 = .ok (.ireturn, 1) := by decide +kernel
theorem dL_law_620 : decode code 620 = .ok (.aload_n 1, 1) := by decide +kernel
theorem dL_law_621 : decode code 621 = .ok (.invokevirtual 91, 3) := by decide +kernel
theorem dL_law_624 : decode code 624 = .ok (.aload_n 2, 1) := by decide +kernel
theorem dL_law_625 : decode code 625 = .ok (.invokevirtual 94, 3) := by decide +kernel
theorem dL_law_628 : decode code 628 = .ok (.if_icmp .eq 317, 3) := by decide +kernel
theorem dL_law_631 : decode code 631 = .ok (.iconst 0, 1) := by decide +kernel
theorem dL_law_632 : decode code 632 = .ok (.ireturn, 1) := by decide +kernel
theorem dL_law_633 : decode code 633 = .ok (.aload_n 1, 1) := by decide +kernel
theorem dL_law_634 : decode code 634 = .ok (.aload_n 0, 1) := by decide +kernel
theorem dL_law_635 : decode code 635 = .ok (.iload_n 3, 1) := by decide +kernel
theorem dL_law_636 : decode code 636 = .ok (.iconst 1, 1) := by decide +kernel
theorem dL_law_637 : decode code 637 = .ok (.iadd, 1) := by decide +kernel
theorem dL_law_638 : decode code 638 = .ok (.iaload, 1) := by decide +kernel
theorem dL_law_639 : decode code 639 = .ok (.aload_n 0, 1) := by decide +kernel
theorem dL_law_640 : decode code 640 = .ok (.iload_n 3, 1) := by decide +kernel
theorem dL_law_641 : decode code 641 = .ok (.iconst 2, 1) := by decide +kernel
theorem dL_law_642 : decode code 642 = .ok (.iadd, 1) := by decide +kernel
theorem dL_law_643 : decode code 643 = .ok (.iaload, 1) := by decide +kernel
theorem dL_law_644 : decode code 644 = .ok (.invokevirtual 95, 3) := by decide +kernel
theorem dL_law_647 : decode code 647 = .ok (.aload_n 2, 1) := by decide +kernel
theorem dL_law_648 : decode code 648 = .ok (.aload_n 0, 1) := by decide +kernel
theorem dL_law_649 : decode code 649 = .ok (.iload_n 3, 1) := by decide +kernel
theorem dL_law_650 : decode code 650 = .ok (.iconst 1, 1) := by decide +kernel
theorem dL_law_651 : decode code 651 = .ok (.iadd, 1) := by decide +kernel
theorem dL_law_652 : decode code 652 = .ok (.iaload, 1) := by decide +kernel
theorem dL_law_653 : decode code 653 = .ok (.aload_n 0, 1) := by decide +kernel
theorem dL_law_654 : decode code 654 = .ok (.iload_n 3, 1) := by decide +kernel
theorem dL_law_655 : decode code 655 = .ok (.iconst 2, 1) := by decide +kernel
theorem dL_law_656 : decode code 656 = .ok (.iadd, 1) := by decide +kernel
theorem dL_law_657 : decode code 657 = .ok (.iaload, 1) := by decide +kernel
theorem dL_law_658 : decode code 658 = .ok (.invokevirtual 98, 3) := by decide +kernel
theorem dL_law_661 : decode code 661 = .ok (.if_icmp .eq 284, 3) := by decide +kernel
theorem dL_law_664 : decode code 664 = .ok (.iconst 0, 1) := by decide +kernel
theorem dL_law_665 : decode code 665 = .ok (.ireturn, 1) := by decide +kernel
theorem dL_law_666 : decode code 666 = .ok (.aload_n 1, 1) := by decide +kernel
theorem dL_law_667 : decode code 667 = .ok (.aload_n 0, 1) := by decide +kernel
theorem dL_law_668 : decode code 668 = .ok (.iload_n 3, 1) := by decide +kernel
theorem dL_law_669 : decode code 669 = .ok (.iconst 1, 1) := by decide +kernel
theorem dL_law_670 : decode code 670 = .ok (.iadd, 1) := by decide +kernel
theorem dL_law_671 : decode code 671 = .ok (.iaload, 1) := by decide +kernel
theorem dL_law_672 : decode code 672 = .ok (.invokevirtual 99, 3) := by decide +kernel
theorem dL_law_675 : decode code 675 = .ok (.aload_n 2, 1) := by decide +kernel
theorem dL_law_676 : decode code 676 = .ok (.aload_n 0, 1) := by decide +kernel
theorem dL_law_677 : decode code 677 = .ok (.iload_n 3, 1) := by decide +kernel
theorem dL_law_678 : decode code 678 = .ok (.iconst 1, 1) := by decide +kernel
theorem dL_law_679 : decode code 679 = .ok (.iadd, 1) := by decide +kernel
theorem dL_law_680 : decode code 680 = .ok (.iaload, 1) := by decide +kernel
theorem dL_law_681 : decode code 681 = .ok (.invokevirtual 102, 3) := by decide +kernel
theorem dL_law_684 : decode code 684 = .ok (.if_icmp .eq 261, 3) := by decide +kernel
theorem dL_law_687 : decode code 687 = .ok (.iconst 0, 1) := by decide +kernel
theorem dL_law_688 : decode code 688 = .ok (.ireturn, 1) := by decide +kernel
theorem dL_law_689 : decode code 689 = .ok (.aload_n 1, 1) := by decide +kernel
theorem dL_law_690 : decode code 690 = .ok (.aload_n 0, 1) := by decide +kernel
theorem dL_law_691 : decode code 691 = .ok (.iload_n 3, 1) := by decide +kernel
theorem dL_law_692 : decode code 692 = .ok (.iconst 1, 1) := by decide +kernel
theorem dL_law_693 : decode code 693 = .ok (.iadd, 1) := by decide +kernel
theorem dL_law_694 : decode code 694 = .ok (.iaload, 1) := by decide +kernel
theorem dL_law_695 : decode code 695 = .ok (.aload_n 0, 1) := by decide +kernel
theorem dL_law_696 : decode code 696 = .ok (.iload_n 3, 1) := by decide +kernel
theorem dL_law_697 : decode code 697 = .ok (.iconst 2, 1) := by decide +kernel
theorem dL_law_698 : decode code 698 = .ok (.iadd, 1) := by decide +kernel
theorem dL_law_699 : decode code 699 = .ok (.iaload, 1) := by decide +kernel
theorem dL_law_700 : decode code 700 = .ok (.invokevirtual 103, 3) := by decide +kernel
theorem dL_law_703 : decode code 703 = .ok (.aload_n 2, 1) := by decide +kernel
theorem dL_law_704 : decode code 704 = .ok (.aload_n 0, 1) := by decide +kernel
theorem dL_law_705 : decode code 705 = .ok (.iload_n 3, 1) := by decide +kernel
theorem dL_law_706 : decode code 706 = .ok (.iconst 1, 1) := by decide +kernel
theorem dL_law_707 : decode code 707 = .ok (.iadd, 1) := by decide +kernel
theorem dL_law_708 : decode code 708 = .ok (.iaload, 1) := by decide +kernel
theorem dL_law_709 : decode code 709 = .ok (.aload_n 0, 1) := by decide +kernel
theorem dL_law_710 : decode code 710 = .ok (.iload_n 3, 1) := by decide +kernel
theorem dL_law_711 : decode code 711 = .ok (.iconst 2, 1) := by decide +kernel
theorem dL_law_712 : decode code 712 = .ok (.iadd, 1) := by decide +kernel
theorem dL_law_713 : decode code 713 = .ok (.iaload, 1) := by decide +kernel
theorem dL_law_714 : decode code 714 = .ok (.invokevirtual 106, 3) := by decide +kernel
theorem dL_law_717 : decode code 717 = .ok (.if_icmp .eq 228, 3) := by decide +kernel
theorem dL_law_720 : decode code 720 = .ok (.iconst 0, 1) := by decide +kernel
theorem dL_law_721 : decode code 721 = .ok (.ireturn, 1) := by decide +kernel
theorem dL_law_722 : decode code 722 = .ok (.aload_n 1, 1) := by decide +kernel
theorem dL_law_723 : decode code 723 = .ok (.aload_n 0, 1) := by decide +kernel
theorem dL_law_724 : decode code 724 = .ok (.iload_n 3, 1) := by decide +kernel
theorem dL_law_725 : decode code 725 = .ok (.iconst 1, 1) := by decide +kernel
theorem dL_law_726 : decode code 726 = .ok (.iadd, 1) := by decide +kernel
theorem dL_law_727 : decode code 727 = .ok (.iaload, 1) := by decide +kernel
theorem dL_law_728 : decode code 728 = .ok (.invokevirtual 107, 3) := by decide +kernel
theorem dL_law_731 : decode code 731 = .ok (.aload_n 2, 1) := by decide +kernel
theorem dL_law_732 : decode code 732 = .ok (.aload_n 0, 1) := by decide +kernel
theorem dL_law_733 : decode code 733 = .ok (.iload_n 3, 1) := by decide +kernel
theorem dL_law_734 : decode code 734 = .ok (.iconst 1, 1) := by decide +kernel
theorem dL_law_735 : decode code 735 = .ok (.iadd, 1) := by decide +kernel
theorem dL_law_736 : decode code 736 = .ok (.iaload, 1) := by decide +kernel
theorem dL_law_737 : decode code 737 = .ok (.invokevirtual 110, 3) := by decide +kernel
theorem dL_law_740 : decode code 740 = .ok (.if_icmp .eq 205, 3) := by decide +kernel
theorem dL_law_743 : decode code 743 = .ok (.iconst 0, 1) := by decide +kernel
theorem dL_law_744 : decode code 744 = .ok (.ireturn, 1) := by decide +kernel
theorem dL_law_745 : decode code 745 = .ok (.aload_n 1, 1) := by decide +kernel
theorem dL_law_746 : decode code 746 = .ok (.aload_n 0, 1) := by decide +kernel
theorem dL_law_747 : decode code 747 = .ok (.iload_n 3, 1) := by decide +kernel
theorem dL_law_748 : decode code 748 = .ok (.iconst 1, 1) := by decide +kernel
theorem dL_law_749 : decode code 749 = .ok (.iadd, 1) := by decide +kernel
theorem dL_law_750 : decode code 750 = .ok (.iaload, 1) := by decide +kernel
theorem dL_law_751 : decode code 751 = .ok (.aload_n 0, 1) := by decide +kernel
theorem dL_law_752 : decode code 752 = .ok (.iload_n 3, 1) := by decide +kernel
theorem dL_law_753 : decode code 753 = .ok (.iconst 2, 1) := by decide +kernel
theorem dL_law_754 : decode code 754 = .ok (.iadd, 1) := by decide +kernel
theorem dL_law_755 : decode code 755 = .ok (.iaload, 1) := by decide +kernel
theorem dL_law_756 : decode code 756 = .ok (.aload_n 0, 1) := by decide +kernel
theorem dL_law_757 : decode code 757 = .ok (.iload_n 3, 1) := by decide +kernel
theorem dL_law_758 : decode code 758 = .ok (.iconst 3, 1) := by decide +kernel
theorem dL_law_759 : decode code 759 = .ok (.iadd, 1) := by decide +kernel
theorem dL_law_760 : decode code 760 = .ok (.iaload, 1) := by decide +kernel
theorem dL_law_761 : decode code 761 = .ok (.invokevirtual 111, 3) := by decide +kernel
theorem dL_law_764 : decode code 764 = .ok (.aload_n 2, 1) := by decide +kernel
theorem dL_law_765 : decode code 765 = .ok (.aload_n 0, 1) := by decide +kernel
theorem dL_law_766 : decode code 766 = .ok (.iload_n 3, 1) := by decide +kernel
theorem dL_law_767 : decode code 767 = .ok (.iconst 1, 1) := by decide +kernel
theorem dL_law_768 : decode code 768 = .ok (.iadd, 1) := by decide +kernel
theorem dL_law_769 : decode code 769 = .ok (.iaload, 1) := by decide +kernel
theorem dL_law_770 : decode code 770 = .ok (.aload_n 0, 1) := by decide +kernel
theorem dL_law_771 : decode code 771 = .ok (.iload_n 3, 1) := by decide +kernel
theorem dL_law_772 : decode code 772 = .ok (.iconst 2, 1) := by decide +kernel
theorem dL_law_773 : decode code 773 = .ok (.iadd, 1) := by decide +kernel
theorem dL_law_774 : decode code 774 = .ok (.iaload, 1) := by decide +kernel
theorem dL_law_775 : decode code 775 = .ok (.aload_n 0, 1) := by decide +kernel
theorem dL_law_776 : decode code 776 = .ok (.iload_n 3, 1) := by decide +kernel
theorem dL_law_777 : decode code 777 = .ok (.iconst 3, 1) := by decide +kernel
theorem dL_law_778 : decode code 778 = .ok (.iadd, 1) := by decide +kernel
theorem dL_law_779 : decode code 779 = .ok (.iaload, 1) := by decide +kernel
theorem dL_law_780 : decode code 780 = .ok (.invokevirtual 114, 3) := by decide +kernel
theorem dL_law_783 : decode code 783 = .ok (.if_icmp .eq 162, 3) := by decide +kernel
theorem dL_law_786 : decode code 786 = .ok (.iconst 0, 1) := by decide +kernel
theorem dL_law_787 : decode code 787 = .ok (.ireturn, 1) := by decide +kernel
theorem dL_law_788 : decode code 788 = .ok (.aload_n 1, 1) := by decide +kernel
theorem dL_law_789 : decode code 789 = .ok (.aload_n 0, 1) := by decide +kernel
theorem dL_law_790 : decode code 790 = .ok (.iload_n 3, 1) := by decide +kernel
theorem dL_law_791 : decode code 791 = .ok (.iconst 1, 1) := by decide +kernel
theorem dL_law_792 : decode code 792 = .ok (.iadd, 1) := by decide +kernel
theorem dL_law_793 : decode code 793 = .ok (.iaload, 1) := by decide +kernel
theorem dL_law_794 : decode code 794 = .ok (.aload_n 0, 1) := by decide +kernel
theorem dL_law_795 : decode code 795 = .ok (.iload_n 3, 1) := by decide +kernel
theorem dL_law_796 : decode code 796 = .ok (.iconst 2, 1) := by decide +kernel
theorem dL_law_797 : decode code 797 = .ok (.iadd, 1) := by decide +kernel
theorem dL_law_798 : decode code 798 = .ok (.iaload, 1) := by decide +kernel
theorem dL_law_799 : decode code 799 = .ok (.invokevirtual 115, 3) := by decide +kernel
theorem dL_law_802 : decode code 802 = .ok (.aload_n 2, 1) := by decide +kernel
theorem dL_law_803 : decode code 803 = .ok (.aload_n 0, 1) := by decide +kernel
theorem dL_law_804 : decode code 804 = .ok (.iload_n 3, 1) := by decide +kernel
theorem dL_law_805 : decode code 805 = .ok (.iconst 1, 1) := by decide +kernel
theorem dL_law_806 : decode code 806 = .ok (.iadd, 1) := by decide +kernel
theorem dL_law_807 : decode code 807 = .ok (.iaload, 1) := by decide +kernel
theorem dL_law_808 : decode code 808 = .ok (.aload_n 0, 1) := by decide +kernel
theorem dL_law_809 : decode code 809 = .ok (.iload_n 3, 1) := by decide +kernel
theorem dL_law_810 : decode code 810 = .ok (.iconst 2, 1) := by decide +kernel
theorem dL_law_811 : decode code 811 = .ok (.iadd, 1) := by decide +kernel
theorem dL_law_812 : decode code 812 = .ok (.iaload, 1) := by decide +kernel
theorem dL_law_813 : decode code 813 = .ok (.invokevirtual 118, 3) := by decide +kernel
theorem dL_law_816 : decode code 816 = .ok (.lcmp, 1) := by decide +kernel
theorem dL_law_817 : decode code 817 = .ok (.ifCond .eq 128, 3) := by decide +kernel
theorem dL_law_820 : decode code 820 = .ok (.iconst 0, 1) := by decide +kernel
theorem dL_law_821 : decode code 821 = .ok (.ireturn, 1) := by decide +kernel
theorem dL_law_822 : decode code 822 = .ok (.aload_n 1, 1) := by decide +kernel
theorem dL_law_823 : decode code 823 = .ok (.aload_n 0, 1) := by decide +kernel
theorem dL_law_824 : decode code 824 = .ok (.iload_n 3, 1) := by decide +kernel
theorem dL_law_825 : decode code 825 = .ok (.iconst 1, 1) := by decide +kernel
theorem dL_law_826 : decode code 826 = .ok (.iadd, 1) := by decide +kernel
theorem dL_law_827 : decode code 827 = .ok (.iaload, 1) := by decide +kernel
theorem dL_law_828 : decode code 828 = .ok (.aload_n 0, 1) := by decide +kernel
theorem dL_law_829 : decode code 829 = .ok (.iload_n 3, 1) := by decide +kernel
theorem dL_law_830 : decode code 830 = .ok (.iconst 2, 1) := by decide +kernel
theorem dL_law_831 : decode code 831 = .ok (.iadd, 1) := by decide +kernel
theorem dL_law_832 : decode code 832 = .ok (.iaload, 1) := by decide +kernel
theorem dL_law_833 : decode code 833 = .ok (.aload_n 0, 1) := by decide +kernel
theorem dL_law_834 : decode code 834 = .ok (.iload_n 3, 1) := by decide +kernel
theorem dL_law_835 : decode code 835 = .ok (.iconst 3, 1) := by decide +kernel
theorem dL_law_836 : decode code 836 = .ok (.iadd, 1) := by decide +kernel
theorem dL_law_837 : decode code 837 = .ok (.iaload, 1) := by decide +kernel
theorem dL_law_838 : decode code 838 = .ok (.aload_n 0, 1) := by decide +kernel
theorem dL_law_839 : decode code 839 = .ok (.iload_n 3, 1) := by decide +kernel
theorem dL_law_840 : decode code 840 = .ok (.iconst 4, 1) := by decide +kernel
theorem dL_law_841 : decode code 841 = .ok (.iadd, 1) := by decide +kernel
theorem dL_law_842 : decode code 842 = .ok (.iaload, 1) := by decide +kernel
theorem dL_law_843 : decode code 843 = .ok (.aload_n 0, 1) := by decide +kernel
theorem dL_law_844 : decode code 844 = .ok (.iload_n 3, 1) := by decide +kernel
theorem dL_law_845 : decode code 845 = .ok (.iconst 5, 1) := by decide +kernel
theorem dL_law_846 : decode code 846 = .ok (.iadd, 1) := by decide +kernel
theorem dL_law_847 : decode code 847 = .ok (.iaload, 1) := by decide +kernel
theorem dL_law_848 : decode code 848 = .ok (.invokevirtual 119, 3) := by decide +kernel
theorem dL_law_851 : decode code 851 = .ok (.aload_n 2, 1) := by decide +kernel
theorem dL_law_852 : decode code 852 = .ok (.aload_n 0, 1) := by decide +kernel
theorem dL_law_853 : decode code 853 = .ok (.iload_n 3, 1) := by decide +kernel
theorem dL_law_854 : decode code 854 = .ok (.iconst 1, 1) := by decide +kernel
theorem dL_law_855 : decode code 855 = .ok (.iadd, 1) := by decide +kernel
theorem dL_law_856 : decode code 856 = .ok (.iaload, 1) := by decide +kernel
theorem dL_law_857 : decode code 857 = .ok (.aload_n 0, 1) := by decide +kernel
theorem dL_law_858 : decode code 858 = .ok (.iload_n 3, 1) := by decide +kernel
theorem dL_law_859 : decode code 859 = .ok (.iconst 2, 1) := by decide +kernel
theorem dL_law_860 : decode code 860 = .ok (.iadd, 1) := by decide +kernel
theorem dL_law_861 : decode code 861 = .ok (.iaload, 1) := by decide +kernel
theorem dL_law_862 : decode code 862 = .ok (.aload_n 0, 1) := by decide +kernel
theorem dL_law_863 : decode code 863 = .ok (.iload_n 3, 1) := by decide +kernel
theorem dL_law_864 : decode code 864 = .ok (.iconst 3, 1) := by decide +kernel
theorem dL_law_865 : decode code 865 = .ok (.iadd, 1) := by decide +kernel
theorem dL_law_866 : decode code 866 = .ok (.iaload, 1) := by decide +kernel
theorem dL_law_867 : decode code 867 = .ok (.aload_n 0, 1) := by decide +kernel
theorem dL_law_868 : decode code 868 = .ok (.iload_n 3, 1) := by decide +kernel
theorem dL_law_869 : decode code 869 = .ok (.iconst 4, 1) := by decide +kernel
theorem dL_law_870 : decode code 870 = .ok (.iadd, 1) := by decide +kernel
theorem dL_law_871 : decode code 871 = .ok (.iaload, 1) := by decide +kernel
theorem dL_law_872 : decode code 872 = .ok (.aload_n 0, 1) := by decide +kernel
theorem dL_law_873 : decode code 873 = .ok (.iload_n 3, 1) := by decide +kernel
theorem dL_law_874 : decode code 874 = .ok (.iconst 5, 1) := by decide +kernel
theorem dL_law_875 : decode code 875 = .ok (.iadd, 1) := by decide +kernel
theorem dL_law_876 : decode code 876 = .ok (.iaload, 1) := by decide +kernel
theorem dL_law_877 : decode code 877 = .ok (.invokevirtual 123, 3) := by decide +kernel
theorem dL_law_880 : decode code 880 = .ok (.if_icmp .eq 65, 3) := by decide +kernel
theorem dL_law_883 : decode code 883 = .ok (.iconst 0, 1) := by decide +kernel
theorem dL_law_884 : decode code 884 = .ok (.ireturn, 1) := by decide +kernel
theorem dL_law_885 : decode code 885 = .ok (.aload_n 1, 1) := by decide +kernel
theorem dL_law_886 : decode code 886 = .ok (.aload_n 0, 1) := by decide +kernel
theorem dL_law_887 : decode code 887 = .ok (.iload_n 3, 1) := by decide +kernel
theorem dL_law_888 : decode code 888 = .ok (.iconst 1, 1) := by decide +kernel
theorem dL_law_889 : decode code 889 = .ok (.iadd, 1) := by decide +kernel
theorem dL_law_890 : decode code 890 = .ok (.iaload, 1) := by decide +kernel
theorem dL_law_891 : decode code 891 = .ok (.invokevirtual 124, 3) := by decide +kernel
theorem dL_law_894 : decode code 894 = .ok (.aload_n 2, 1) := by decide +kernel
theorem dL_law_895 : decode code 895 = .ok (.aload_n 0, 1) := by decide +kernel
theorem dL_law_896 : decode code 896 = .ok (.iload_n 3, 1) := by decide +kernel
theorem dL_law_897 : decode code 897 = .ok (.iconst 1, 1) := by decide +kernel
theorem dL_law_898 : decode code 898 = .ok (.iadd, 1) := by decide +kernel
theorem dL_law_899 : decode code 899 = .ok (.iaload, 1) := by decide +kernel
theorem dL_law_900 : decode code 900 = .ok (.invokevirtual 127, 3) := by decide +kernel
theorem dL_law_903 : decode code 903 = .ok (.if_icmp .eq 42, 3) := by decide +kernel
theorem dL_law_906 : decode code 906 = .ok (.iconst 0, 1) := by decide +kernel
theorem dL_law_907 : decode code 907 = .ok (.ireturn, 1) := by decide +kernel
theorem dL_law_908 : decode code 908 = .ok (.aload_n 1, 1) := by decide +kernel
theorem dL_law_909 : decode code 909 = .ok (.aload_n 0, 1) := by decide +kernel
theorem dL_law_910 : decode code 910 = .ok (.iload_n 3, 1) := by decide +kernel
theorem dL_law_911 : decode code 911 = .ok (.iconst 1, 1) := by decide +kernel
theorem dL_law_912 : decode code 912 = .ok (.iadd, 1) := by decide +kernel
theorem dL_law_913 : decode code 913 = .ok (.iaload, 1) := by decide +kernel
theorem dL_law_914 : decode code 914 = .ok (.invokevirtual 128, 3) := by decide +kernel
theorem dL_law_917 : decode code 917 = .ok (.aload_n 2, 1) := by decide +kernel
theorem dL_law_918 : decode code 918 = .ok (.aload_n 0, 1) := by decide +kernel
theorem dL_law_919 : decode code 919 = .ok (.iload_n 3, 1) := by decide +kernel
theorem dL_law_920 : decode code 920 = .ok (.iconst 1, 1) := by decide +kernel
theorem dL_law_921 : decode code 921 = .ok (.iadd, 1) := by decide +kernel
theorem dL_law_922 : decode code 922 = .ok (.iaload, 1) := by decide +kernel
theorem dL_law_923 : decode code 923 = .ok (.invokevirtual 131, 3) := by decide +kernel
theorem dL_law_926 : decode code 926 = .ok (.if_icmp .eq 19, 3) := by decide +kernel
theorem dL_law_929 : decode code 929 = .ok (.iconst 0, 1) := by decide +kernel
theorem dL_law_930 : decode code 930 = .ok (.ireturn, 1) := by decide +kernel
theorem dL_law_931 : decode code 931 = .ok (.aload_n 1, 1) := by decide +kernel
theorem dL_law_932 : decode code 932 = .ok (.invokevirtual 132, 3) := by decide +kernel
theorem dL_law_935 : decode code 935 = .ok (.aload_n 2, 1) := by decide +kernel
theorem dL_law_936 : decode code 936 = .ok (.invokevirtual 136, 3) := by decide +kernel
theorem dL_law_939 : decode code 939 = .ok (.lcmp, 1) := by decide +kernel
theorem dL_law_940 : decode code 940 = .ok (.ifCond .eq 5, 3) := by decide +kernel
theorem dL_law_943 : decode code 943 = .ok (.iconst 0, 1) := by decide +kernel
theorem dL_law_944 : decode code 944 = .ok (.ireturn, 1) := by decide +kernel
theorem dL_law_945 : decode code 945 = .ok (.iinc 3 6, 3) := by decide +kernel
theorem dL_law_948 : decode code 948 = .ok (.goto (-930), 3) := by decide +kernel
theorem dL_law_951 : decode code 951 = .ok (.iconst 1, 1) := by decide +kernel
theorem dL_law_952 : decode code 952 = .ok (.ireturn, 1) := by decide +kernel
theorem clL_7 : Cond.classLink R_law 7 RX10 ∈ lw_g := mg_t (List.mem_of_getElem? (i := 15) (by decide +kernel)) rfl
theorem clL_10 : Cond.classLink R_law 10 RX11 ∈ lw_g := mg_t (List.mem_of_getElem? (i := 762) (by decide +kernel)) rfl
def ok_tell (Rel : HI → HJ → HN → HI → HJ → HN → Prop) : Prop := ∀ (I : HI) (J : HJ) (N : HN) (I2 : HI) (J2 : HJ) (N2 : HN), Rel I J N I2 J2 N2 → ∀ (x0 x1 x2 : Int32), ∃ (J' : HJ) (I2' : HI) (r : Int32), Lm_tell N 0 x0 x1 x2 J = some (J', r) ∧ Mo_tell N2 0 x0 x1 x2 I2 = some (I2', r) ∧ Rel I J' N I2' J2 N2
def ok_told (Rel : HI → HJ → HN → HI → HJ → HN → Prop) : Prop := ∀ (I : HI) (J : HJ) (N : HN) (I2 : HI) (J2 : HJ) (N2 : HN), Rel I J N I2 J2 N2 → ∀ (x0 x1 : Int32), ∃ (r : Int32), Lm_told J N 0 x0 x1 = some r ∧ Mo_told I2 N2 0 x0 x1 = some r ∧ Rel I J N I2 J2 N2
def ok_turn (Rel : HI → HJ → HN → HI → HJ → HN → Prop) : Prop := ∀ (I : HI) (J : HJ) (N : HN) (I2 : HI) (J2 : HJ) (N2 : HN), Rel I J N I2 J2 N2 → ∃ (N' : HN) (I2' : HI) (r : Int32), Lm_turn J 0 N = some (N', r) ∧ Mo_turn N2 0 I2 = some (I2', r) ∧ Rel I J N' I2' J2 N2
def ok_reverse (Rel : HI → HJ → HN → HI → HJ → HN → Prop) : Prop := ∀ (I : HI) (J : HJ) (N : HN) (I2 : HI) (J2 : HJ) (N2 : HN), Rel I J N I2 J2 N2 → ∃ (J' : HJ) (I2' : HI) (r : Int32), Lm_reverse N 0 J = some (J', r) ∧ Mo_reverse N2 0 I2 = some (I2', r) ∧ Rel I J' N I2' J2 N2
def ok_read (Rel : HI → HJ → HN → HI → HJ → HN → Prop) : Prop := ∀ (I : HI) (J : HJ) (N : HN) (I2 : HI) (J2 : HJ) (N2 : HN), Rel I J N I2 J2 N2 → ∀ (x0 x1 : Int32), ∃ (I' : HI) (J' : HJ) (I2' : HI) (r : Int32), Lm_read N 0 x0 x1 I J = some (I', J', r) ∧ Mo_read J2 N2 0 x0 x1 I2 = some (I2', r) ∧ Rel I' J' N I2' J2 N2
def ok_info (Rel : HI → HJ → HN → HI → HJ → HN → Prop) : Prop := ∀ (I : HI) (J : HJ) (N : HN) (I2 : HI) (J2 : HJ) (N2 : HN), Rel I J N I2 J2 N2 → ∀ (x0 : Int32), ∃ (r : Int32), Lm_info J N 0 x0 = some r ∧ Mo_info I2 N2 0 x0 = some r ∧ Rel I J N I2 J2 N2
def ok_reactance (Rel : HI → HJ → HN → HI → HJ → HN → Prop) : Prop := ∀ (I : HI) (J : HJ) (N : HN) (I2 : HI) (J2 : HJ) (N2 : HN), Rel I J N I2 J2 N2 → ∀ (x0 x1 x2 : Int32), ∃ (J' : HJ) (r : Int64), Lm_reactance N 0 x0 x1 x2 J = some (J', r) ∧ Mo_reactance I2 N2 0 x0 x1 x2 = some r ∧ Rel I J' N I2 J2 N2
def ok_arm (Rel : HI → HJ → HN → HI → HJ → HN → Prop) : Prop := ∀ (I : HI) (J : HJ) (N : HN) (I2 : HI) (J2 : HJ) (N2 : HN), Rel I J N I2 J2 N2 → ∀ (x0 x1 x2 : Int32), ∃ (I' : HI) (J' : HJ) (N' : HN) (I2' : HI) (r : Int32), Lm_arm 0 x0 x1 x2 I J N = some (I', J', N', r) ∧ Mo_arm N2 0 x0 x1 x2 I2 = some (I2', r) ∧ Rel I' J' N' I2' J2 N2
def ok_back (Rel : HI → HJ → HN → HI → HJ → HN → Prop) : Prop := ∀ (I : HI) (J : HJ) (N : HN) (I2 : HI) (J2 : HJ) (N2 : HN), Rel I J N I2 J2 N2 → ∃ (I' : HI) (J' : HJ) (N' : HN) (I2' : HI) (r : Int32), Lm_back 0 I J N = some (I', J', N', r) ∧ Mo_back 0 I2 = some (I2', r) ∧ Rel I' J' N' I2' J2 N2
def ok_unfold (Rel : HI → HJ → HN → HI → HJ → HN → Prop) : Prop := ∀ (I : HI) (J : HJ) (N : HN) (I2 : HI) (J2 : HJ) (N2 : HN), Rel I J N I2 J2 N2 → ∀ (x0 : Int32), ∃ (I' : HI) (J' : HJ) (N' : HN) (I2' : HI) (J2' : HJ) (r : Int32), Lm_unfold 0 x0 I J N = some (I', J', N', r) ∧ Mo_unfold N2 0 x0 I2 J2 = some (I2', J2', r) ∧ Rel I' J' N' I2' J2' N2
def ok_would (Rel : HI → HJ → HN → HI → HJ → HN → Prop) : Prop := ∀ (I : HI) (J : HJ) (N : HN) (I2 : HI) (J2 : HJ) (N2 : HN), Rel I J N I2 J2 N2 → ∀ (x0 : Int32), ∃ (I' : HI) (J' : HJ) (N' : HN) (I2' : HI) (J2' : HJ) (r : Int32), Lm_would 0 x0 I J N = some (I', J', N', r) ∧ Mo_would N2 0 x0 I2 J2 = some (I2', J2', r) ∧ Rel I' J' N' I2' J2' N2
def ok_element (Rel : HI → HJ → HN → HI → HJ → HN → Prop) : Prop := ∀ (I : HI) (J : HJ) (N : HN) (I2 : HI) (J2 : HJ) (N2 : HN), Rel I J N I2 J2 N2 → ∀ (x0 x1 : Int32), ∃ (r : Int32), Lm_element I N 0 x0 x1 = some r ∧ Mo_element I2 N2 0 x0 x1 = some r ∧ Rel I J N I2 J2 N2
def ok_fold (Rel : HI → HJ → HN → HI → HJ → HN → Prop) : Prop := ∀ (I : HI) (J : HJ) (N : HN) (I2 : HI) (J2 : HJ) (N2 : HN), Rel I J N I2 J2 N2 → ∀ (x0 x1 : Int32), ∃ (J2' : HJ) (r : Int64), Lm_fold I J N 0 x0 x1 = some r ∧ Mo_fold I2 N2 0 x0 x1 J2 = some (J2', r) ∧ Rel I J N I2 J2' N2
def ok_alike (Rel : HI → HJ → HN → HI → HJ → HN → Prop) : Prop := ∀ (I : HI) (J : HJ) (N : HN) (I2 : HI) (J2 : HJ) (N2 : HN), Rel I J N I2 J2 N2 → ∃ (J2' : HJ) (r : Int32), Lm_alike I J N 0 = some r ∧ Mo_alike I2 N2 0 J2 = some (J2', r) ∧ Rel I J N I2 J2' N2
def ok_take (Rel : HI → HJ → HN → HI → HJ → HN → Prop) : Prop := ∀ (I : HI) (J : HJ) (N : HN) (I2 : HI) (J2 : HJ) (N2 : HN), Rel I J N I2 J2 N2 → ∃ (J' : HJ) (I2' : HI) (J2' : HJ) (r : Int32), Lm_take I N 0 J = some (J', r) ∧ Mo_take N2 0 I2 J2 = some (I2', J2', r) ∧ Rel I J' N I2' J2' N2
def ok_bill (Rel : HI → HJ → HN → HI → HJ → HN → Prop) : Prop := ∀ (I : HI) (J : HJ) (N : HN) (I2 : HI) (J2 : HJ) (N2 : HN), Rel I J N I2 J2 N2 → ∀ (x0 x1 : Int32), ∃ (r : Int32), Lm_bill I N 0 x0 x1 = some r ∧ Mo_bill I2 N2 0 x0 x1 = some r ∧ Rel I J N I2 J2 N2
def ok_values (Rel : HI → HJ → HN → HI → HJ → HN → Prop) : Prop := ∀ (I : HI) (J : HJ) (N : HN) (I2 : HI) (J2 : HJ) (N2 : HN), Rel I J N I2 J2 N2 → ∃ (r : Int32), Lm_values I N 0 = some r ∧ Mo_values I2 N2 0 = some r ∧ Rel I J N I2 J2 N2
def ok_keep (Rel : HI → HJ → HN → HI → HJ → HN → Prop) : Prop := ∀ (I : HI) (J : HJ) (N : HN) (I2 : HI) (J2 : HJ) (N2 : HN), Rel I J N I2 J2 N2 → ∃ (I' : HI) (J' : HJ) (I2' : HI) (J2' : HJ) (r : Int32), Lm_keep N 0 I J = some (I', J', r) ∧ Mo_keep N2 0 I2 J2 = some (I2', J2', r) ∧ Rel I' J' N I2' J2' N2
def ok_find (Rel : HI → HJ → HN → HI → HJ → HN → Prop) : Prop := ∀ (I : HI) (J : HJ) (N : HN) (I2 : HI) (J2 : HJ) (N2 : HN), Rel I J N I2 J2 N2 → ∃ (J' : HJ) (I2' : HI) (J2' : HJ) (r : Int32), Lm_find I N 0 J = some (J', r) ∧ Mo_find N2 0 I2 J2 = some (I2', J2', r) ∧ Rel I J' N I2' J2' N2
def ok_kept (Rel : HI → HJ → HN → HI → HJ → HN → Prop) : Prop := ∀ (I : HI) (J : HJ) (N : HN) (I2 : HI) (J2 : HJ) (N2 : HN), Rel I J N I2 J2 N2 → ∀ (x0 x1 : Int32), ∃ (r : Int32), Lm_kept I N 0 x0 x1 = some r ∧ Mo_kept I2 N2 0 x0 x1 = some r ∧ Rel I J N I2 J2 N2
def ok_recall (Rel : HI → HJ → HN → HI → HJ → HN → Prop) : Prop := ∀ (I : HI) (J : HJ) (N : HN) (I2 : HI) (J2 : HJ) (N2 : HN), Rel I J N I2 J2 N2 → ∀ (x0 : Int32), ∃ (J' : HJ) (I2' : HI) (r : Int32), Lm_recall I N 0 x0 J = some (J', r) ∧ Mo_recall N2 0 x0 I2 = some (I2', r) ∧ Rel I J' N I2' J2 N2
def ok_sheet (Rel : HI → HJ → HN → HI → HJ → HN → Prop) : Prop := ∀ (I : HI) (J : HJ) (N : HN) (I2 : HI) (J2 : HJ) (N2 : HN), Rel I J N I2 J2 N2 → ∀ (x0 x1 : Int32), ∃ (I' : HI) (J' : HJ) (I2' : HI) (J2' : HJ) (r : Int32), Lm_sheet N 0 x0 x1 I J = some (I', J', r) ∧ Mo_sheet N2 0 x0 x1 I2 J2 = some (I2', J2', r) ∧ Rel I' J' N I2' J2' N2
def ok_lose (Rel : HI → HJ → HN → HI → HJ → HN → Prop) : Prop := ∀ (I : HI) (J : HJ) (N : HN) (I2 : HI) (J2 : HJ) (N2 : HN), Rel I J N I2 J2 N2 → ∀ (x0 : Int32), ∃ (I' : HI) (I2' : HI) (r : Int32), Lm_lose N 0 x0 I = some (I', r) ∧ Mo_lose N2 0 x0 I2 = some (I2', r) ∧ Rel I' J N I2' J2 N2
def ok_lay (Rel : HI → HJ → HN → HI → HJ → HN → Prop) : Prop := ∀ (I : HI) (J : HJ) (N : HN) (I2 : HI) (J2 : HJ) (N2 : HN), Rel I J N I2 J2 N2 → ∀ (x0 x1 x2 : Int32), ∃ (I' : HI) (J' : HJ) (I2' : HI) (J2' : HJ) (r : Int32), Lm_lay N 0 x0 x1 x2 I J = some (I', J', r) ∧ Mo_lay N2 0 x0 x1 x2 I2 J2 = some (I2', J2', r) ∧ Rel I' J' N I2' J2' N2
def ok_get (Rel : HI → HJ → HN → HI → HJ → HN → Prop) : Prop := ∀ (I : HI) (J : HJ) (N : HN) (I2 : HI) (J2 : HJ) (N2 : HN), Rel I J N I2 J2 N2 → ∀ (x0 x1 : Int32), ∃ (I' : HI) (I2' : HI) (r : Int64), Lm_get J N 0 x0 x1 I = some (I', r) ∧ Mo_get J2 N2 0 x0 x1 I2 = some (I2', r) ∧ Rel I' J N I2' J2 N2
def ok_copy (Rel : HI → HJ → HN → HI → HJ → HN → Prop) : Prop := ∀ (I : HI) (J : HJ) (N : HN) (I2 : HI) (J2 : HJ) (N2 : HN), Rel I J N I2 J2 N2 → ∀ (x0 x1 x2 x3 x4 : Int32), ∃ (I' : HI) (J' : HJ) (I2' : HI) (J2' : HJ) (r : Int32), Lm_copy N 0 x0 x1 x2 x3 x4 I J = some (I', J', r) ∧ Mo_copy N2 0 x0 x1 x2 x3 x4 I2 J2 = some (I2', J2', r) ∧ Rel I' J' N I2' J2' N2
def ok_write (Rel : HI → HJ → HN → HI → HJ → HN → Prop) : Prop := ∀ (I : HI) (J : HJ) (N : HN) (I2 : HI) (J2 : HJ) (N2 : HN), Rel I J N I2 J2 N2 → ∀ (x0 : Int32), ∃ (I' : HI) (J' : HJ) (I2' : HI) (J2' : HJ) (r : Int32), Lm_write N 0 x0 I J = some (I', J', r) ∧ Mo_write N2 0 x0 I2 J2 = some (I2', J2', r) ∧ Rel I' J' N I2' J2' N2
def ok_count (Rel : HI → HJ → HN → HI → HJ → HN → Prop) : Prop := ∀ (I : HI) (J : HJ) (N : HN) (I2 : HI) (J2 : HJ) (N2 : HN), Rel I J N I2 J2 N2 → ∀ (x0 : Int32), ∃ (J2' : HJ) (r : Int32), Lm_count I J N 0 x0 = some r ∧ Mo_count I2 N2 0 x0 J2 = some (J2', r) ∧ Rel I J N I2 J2' N2
def ok_digest (Rel : HI → HJ → HN → HI → HJ → HN → Prop) : Prop := ∀ (I : HI) (J : HJ) (N : HN) (I2 : HI) (J2 : HJ) (N2 : HN), Rel I J N I2 J2 N2 → ∃ (I' : HI) (J' : HJ) (N' : HN) (I2' : HI) (J2' : HJ) (r : Int64), Lm_digest 0 I J N = some (I', J', N', r) ∧ Mo_digest N2 0 I2 J2 = some (I2', J2', r) ∧ Rel I' J' N' I2' J2' N2
def ok_all (Rel : HI → HJ → HN → HI → HJ → HN → Prop) : Prop := ok_tell Rel ∧ ok_told Rel ∧ ok_turn Rel ∧ ok_reverse Rel ∧ ok_read Rel ∧ ok_info Rel ∧ ok_reactance Rel ∧ ok_arm Rel ∧ ok_back Rel ∧ ok_unfold Rel ∧ ok_would Rel ∧ ok_element Rel ∧ ok_fold Rel ∧ ok_alike Rel ∧ ok_take Rel ∧ ok_bill Rel ∧ ok_values Rel ∧ ok_keep Rel ∧ ok_find Rel ∧ ok_kept Rel ∧ ok_recall Rel ∧ ok_sheet Rel ∧ ok_lose Rel ∧ ok_lay Rel ∧ ok_get Rel ∧ ok_copy Rel ∧ ok_write Rel ∧ ok_count Rel ∧ ok_digest Rel
theorem lw_hg {p : Program} {s : State} {m : MethodId} {meth : Method} {c : Code} {b L : Nat} {xs : Nat → Int32} (C0 : lw_At p s m meth c b L xs) : ∀ w ∈ lw_g, w.before #[Value.ref b] s = true := fun w hw => C0.2.2.2.2.2.1 w (List.mem_filter.mp hw).1
theorem lw_nw {p : Program} {s : State} {m : MethodId} {meth : Method} {c : Code} {b L : Nat} {xs : Nat → Int32} (C0 : lw_At p s m meth c b L xs) : nwS s := by
  intro w hw hi
  have h1 := C0.2.2.2.2.2.1 w hw
  cases w <;> first | (exact va_Nw.of rfl h1) | (simp [isN] at hi; done) | exact h1
theorem lw_K {p : Program} {s : State} {m : MethodId} {meth : Method} {c : Code} {b L : Nat} {xs : Nat → Int32} (C0 : lw_At p s m meth c b L xs) : ∃ (D : va_G) (yc : Nat → ClassId), va_K D gcl (gtys yc) s := by
  have hg := lw_hg C0
  have hnw := lw_nw C0
  obtain ⟨c0, i0, k0⟩ := u_known (C := RX0) (T := TX0) (N := 2) (n := 2) hg inX0 (hg _ in_0)
  obtain ⟨c1, i1, k1⟩ := u_known (C := RX1) (T := TX1) (N := 3) (n := 3) hg inX1 (hg _ in_1)
  obtain ⟨c2, i2, k2⟩ := u_known (C := RX2) (T := TX2) (N := 2) (n := 2) hg inX2 (hg _ in_2)
  obtain ⟨c3, i3, k3⟩ := u_known (C := RX3) (T := TX3) (N := 2) (n := 2) hg inX3 (hg _ in_3)
  obtain ⟨c4, i4, k4⟩ := u_known (C := RX4) (T := TX4) (N := 3) (n := 3) hg inX4 (hg _ in_4)
  obtain ⟨c5, i5, k5⟩ := u_known (C := RX5) (T := TX5) (N := 2) (n := 2) hg inX5 (hg _ in_5)
  obtain ⟨c6, i6, k6⟩ := u_known (C := RX6) (T := TX6) (N := 1) (n := 1) hg inX6 (hg _ in_6)
  obtain ⟨c7, i7, k7⟩ := u_known (C := RX7) (T := TX7) (N := 2) (n := 2) hg inX7 (hg _ in_7)
  obtain ⟨c8, i8, k8⟩ := u_known (C := RX8) (T := TX8) (N := 2) (n := 2) hg inX8 (hg _ in_8)
  obtain ⟨c9, i9, k9⟩ := u_known (C := RX9) (T := TX9) (N := 10) (n := 10) hg inX9 (hg _ in_9)
  obtain ⟨c10, i10, k10⟩ := u_known (C := RX10) (T := TX10) (N := 9) (n := 9) hg inX10 (hg _ in_10)
  obtain ⟨c11, i11, k11⟩ := u_known (C := RX11) (T := TX11) (N := 33) (n := 33) hg inX11 (hg _ in_11)
  obtain ⟨a0, q0, z0, f0, g0, h0⟩ := Cond.arrayClass_spec (hg _ ac_1)
  obtain ⟨a1, q1, z1, f1, g1, h1⟩ := Cond.arrayClass_spec (hg _ ac_2)
  obtain ⟨z2, a2, q2, y2, g2, h2, f2⟩ := Cond.arrayOver_specA (hnw _ ao_3 rfl)
  obtain ⟨z3, a3, q3, y3, g3, h3, f3⟩ := Cond.arrayOver_specA (hnw _ ao_4 rfl)
  refine ⟨(fun k => if k = 0 then c0 else if k = 1 then c1 else if k = 2 then c2 else if k = 3 then c3 else if k = 4 then c4 else if k = 5 then c5 else if k = 6 then c6 else if k = 7 then c7 else if k = 8 then c8 else if k = 9 then c9 else if k = 10 then c10 else c11, fun k => if k = 0 then i0 else if k = 1 then i1 else if k = 2 then i2 else if k = 3 then i3 else if k = 4 then i4 else if k = 5 then i5 else if k = 6 then i6 else if k = 7 then i7 else if k = 8 then i8 else if k = 9 then i9 else if k = 10 then i10 else i11), fun k => if k = 0 then a0 else if k = 1 then a1 else if k = 2 then a2 else a3, ?_, ?_⟩
  · intro k q hq
    match k, hq with
    | 0, hq => cases hq; exact k0
    | 1, hq => cases hq; exact k1
    | 2, hq => cases hq; exact k2
    | 3, hq => cases hq; exact k3
    | 4, hq => cases hq; exact k4
    | 5, hq => cases hq; exact k5
    | 6, hq => cases hq; exact k6
    | 7, hq => cases hq; exact k7
    | 8, hq => cases hq; exact k8
    | 9, hq => cases hq; exact k9
    | 10, hq => cases hq; exact k10
    | 11, hq => cases hq; exact k11
    | k + 12, hq => simp [gcl] at hq
  · intro k q hq
    match k, hq with
    | 0, hq => cases hq; exact ⟨fun n z => ⟨fun k h => (by cases h), q0, g0, z0, h0⟩, f0⟩
    | 1, hq => cases hq; exact ⟨fun n z => ⟨fun k h => (by cases h), q1, g1, z1, h1⟩, f1⟩
    | 2, hq => cases hq; exact ⟨fun n z => ⟨fun k h => (by cases h), q2, g2, z2, h2⟩, f2⟩
    | 3, hq => cases hq; exact ⟨fun n z => ⟨fun k h => (by cases h), q3, g3, z3, h3⟩, f3⟩
    | k + 4, hq => simp [gtys] at hq
section LWV
variable {p : Program} {l : Launch} {e : Env} {s : State} {m : MethodId} {args : Array Value} {below : List Frame} {meth : Method} {c : Code} {H : Heap} {locs : List Loc} {cells slots : Nat} {Q : State → Prop} {cc : ByteArray} {pc nL : Nat} {ls : Array Slot} {rest : List Value} {D : va_G} {yc : Nat → ClassId} {A : Nat → Prop}
theorem lw_kept {ad ad2 : Nat → Nat} {n n2 : Nat} {T2 : HT} {I2 : HI} {J2 : HJ} {N2 : HN} {H H1 : Heap} (hP2 : va_P D gcl (gwd T2 yc ad2 n2 I2 J2 N2) H) (hdis : ∀ i j, i < n → j < n2 → ad i ≠ ad2 j) (hk : ∀ q : Nat, q < H.size → ¬ gA ad n H.size q → H1[q]? = H[q]?) : va_P D gcl (gwd T2 yc ad2 n2 I2 J2 N2) H1 := by
  refine hP2.kept (fun k q hq => ?_)
  have hlt := (hP2 k q hq).lt
  obtain ⟨h1, rfl⟩ := gwd_some hq
  refine hk _ hlt (fun h => ?_)
  rcases h with ⟨i, hi, e⟩ | h
  · exact hdis i k hi h1 e.symm
  · exact absurd hlt (Nat.not_lt.mpr h)
theorem lw_V {T T2 : HT} {ad ad2 : Nat → Nat} {n n2 : Nat} {I I' I2 : HI} {J J' J2 : HJ} {N N' N2 : HN} {y : MethodName} {cc2 : ByteArray} {nL2 np idx ci : Nat} {ret2 : Option FieldType} {rm2 : Room} {rv : Option Value} {As : List Value} {Cn : String} {TF : u_T} {NF : Nat} {st0 : List Value} (hx : p.tables.exec = Jvm.exec) (hb : c.code = cc) (hml : c.maxLocals = nL) (hown : s.vm.findClass R_law = some m.cls) (hg : ∀ w ∈ lw_g, w.before args s = true) (hnw : nwS s) (hK : va_K D gcl (gtys yc) s) (hA : ∀ q, s.heap.size ≤ q → A q) (M : gM l y cc2 nL2 ret2 rm2 T n I J N (fun ad => .ref (ad 0) :: As) (I', J', N', fun _ => rv)) (S : sM y cc2 nL2 ret2 np) (w1 : Cond.methodLink R_law idx y ∈ lw_g) (w2 : Cond.instanceMethod y ∈ lw_g) (w3 : Cond.selects y.cls y y ∈ lw_g) (hc : gcl[ci]? = some (Cn, TF, NF)) (hcn : Cn = y.cls) (hb0 : gk T n 0 (0, ci)) (hR : rm2.cells = 0 ∧ rm2.slots = 0 ∧ rm2.frames + 1 ≤ room_1.frames ∧ 8 + (nL2 + 11) + rm2.locals ≤ room_1.locals) (hf : cells ≤ room_1.cells ∧ slots ≤ room_1.slots)
    (hP : va_P D gcl (gwd T yc ad n I J N) H) (hP2 : va_P D gcl (gwd T2 yc ad2 n2 I2 J2 N2) H) (hD : gin A ad n) (hdis : ∀ i j, i < n → j < n2 → ad i ≠ ad2 j) (hS : va_S A s.heap H locs) (hls : ls.size = nL) (hn : As.length = np) (hst : st0 = As.reverse ++ .ref (ad 0) :: rest) (hW : (rest.map fun v => v.category).sum ≤ 8) (d : decode cc pc = .ok (.invokevirtual idx, 3)) (st1 : List Value) (hst1 : rv.toList ++ rest = st1)
    (kk : ∀ (H1 : Heap) (locs1 : List Loc), va_P D gcl (gwd T yc ad n I' J' N') H1 → va_P D gcl (gwd T2 yc ad2 n2 I2 J2 N2) H1 → va_S A s.heap H1 locs1 → W p l e room_1 s m args below meth c H1 locs1 cells slots Q (F0 m (pc + 3) ls st1)) : W p l e room_1 s m args below meth c H locs cells slots Q (F0 m pc ls st0) := by
  subst hst1
  subst hcn
  have hr : va_Run p l e room_1 s m args below meth c H locs cells slots 0 0 (F0 m pc ls st0) rest (gQc T D yc ad n (gA ad n H.size) (I', J', N', fun _ => rv) (Value.ref (ad 0) :: As).toArray) (gA ad n H.size) :=
    va_runV (b := ad 0) (As := As) (n := np) ⟨hx, hb, hml, hown, hg⟩ (M D yc ad H.size) ⟨callB_of np hg (lw_gi S.1) rfl hR.1 hR.2.1 (hg _ S.2.1) (hg _ w1) S.2.2 hR.2.2, hg _ w2, hg _ w3⟩ ⟨g_pre, va_recv hK hP hc (by rw [gwd_at hb0.1, gce_o hb0]), fun U hU hWm => ⟨rfl, by rw [hU], by rw [hU]; exact hP, va_K.moved hWm.alike hK, nwS.warm hWm hnw, hD.1⟩⟩ rfl hn hls (by rw [hst]) (lv_room hW) d hf
  intro T0 hT XS
  obtain ⟨v, st₀, t, T', L, h0, X', hL, e1, e2, ⟨⟨hv, hP1⟩, hz, hk⟩, st⟩ := hr T0 hT XS
  have hA0 : ∀ q, gA ad n H.size q → A q := fun q h => by
    rcases h with ⟨i, hi, rfl⟩ | h
    · exact hD.2 i hi
    · exact hA q (Nat.le_trans hS.1 h)
  cases hv
  rw [h0] at hz hk
  obtain ⟨t2, a1, b1⟩ := kk T'.heap (locs ++ L) (by rw [e1]; exact hP1) (by rw [e1]; exact lw_kept hP2 hdis hk) ⟨Nat.le_trans hS.1 (by rw [e1]; exact hz), fun q h1 h2 => by rw [e1, hk q (Nat.lt_of_lt_of_le h1 hS.1) (fun z => h2 (hA0 q z))]; exact hS.2.1 q h1 h2, fun q hq => by
      rcases List.mem_append.mp hq with h | h
      · exact hS.2.2 q h
      · exact hA0 _ (hL q h)⟩ T' rfl X'
  exact ⟨t2, st t2 a1, b1⟩
theorem lw_Init {T T2 : HT} {ad ad2 : Nat → Nat} {n n' n2 mc2 ms2 : Nat} {I I' I2 : HI} {J J' J2 : HJ} {N N' N2 : HN} {y : MethodName} {cc2 : ByteArray} {nL2 idx : Nat} {rm2 : Room} (hx : p.tables.exec = Jvm.exec) (hb : c.code = cc) (hml : c.maxLocals = nL) (hown : s.vm.findClass R_law = some m.cls) (hg : ∀ w ∈ lw_g, w.before args s = true) (hnw : nwS s) (hK : va_K D gcl (gtys yc) s) (hA : ∀ q, s.heap.size ≤ q → A q) (M : gMn l y cc2 nL2 rm2 T n I J N (fun ad => [.ref (ad 0)]) n' I' J' N' mc2 ms2) (S : sM y cc2 nL2 none 0) (w1 : Cond.methodLink R_law idx y ∈ lw_g) (w2 : Cond.instanceMethod y ∈ lw_g) (hy1 : y.name = "<init>") (hR : rm2.cells = mc2 ∧ rm2.slots = ms2 ∧ rm2.frames + 1 ≤ room_1.frames ∧ 8 + (nL2 + 11) + rm2.locals ≤ room_1.locals) (hf : cells + mc2 ≤ room_1.cells ∧ slots + ms2 ≤ room_1.slots)
    (hP : va_P D gcl (gwd T yc ad n I J N) H) (hP2 : va_P D gcl (gwd T2 yc ad2 n2 I2 J2 N2) H) (hD : gin A ad n) (hdis : ∀ i j, i < n → j < n2 → ad i ≠ ad2 j) (hS : va_S A s.heap H locs) (hls : ls.size = nL) (hW : (rest.map fun v => v.category).sum ≤ 8) (hn0 : 0 < n) (d : decode cc pc = .ok (.invokespecial idx, 3))
    (kk : ∀ (ad' : Nat → Nat) (H1 : Heap) (locs1 : List Loc), ad' 0 = ad 0 → gin A ad' n' → (∀ i j, i < n' → j < n2 → ad' i ≠ ad2 j) → va_P D gcl (gwd T yc ad' n' I' J' N') H1 → va_P D gcl (gwd T2 yc ad2 n2 I2 J2 N2) H1 → va_S A s.heap H1 locs1 → W p l e room_1 s m args below meth c H1 locs1 (cells + mc2) (slots + ms2) Q (F0 m (pc + 3) ls rest)) : W p l e room_1 s m args below meth c H locs cells slots Q (F0 m pc ls (.ref (ad 0) :: rest)) := by
  have hr : va_Run p l e room_1 s m args below meth c H locs cells slots mc2 ms2 (F0 m pc ls (.ref (ad 0) :: rest)) rest (gQn T D yc ad n (gA ad n H.size) n' I' J' N' (Value.ref (ad 0) :: []).toArray) (gA ad n H.size) :=
    va_runI (b := ad 0) (As := []) (n := 0) ⟨hx, hb, hml, hown, hg⟩ (M.2.2 D yc ad H.size) ⟨callB_of 0 hg (lw_gi S.1) rfl hR.1 hR.2.1 (hg _ S.2.1) (hg _ w1) S.2.2 hR.2.2, hy1, hg _ w2⟩ ⟨g_pre, fun U hU hWm => ⟨rfl, by rw [hU], by rw [hU]; exact hP, va_K.moved hWm.alike hK, nwS.warm hWm hnw, hD.1⟩⟩ rfl rfl hls rfl (lv_room hW) d hf
  intro T0 hT XS
  obtain ⟨v, st₀, t, T', L, h0, X', hL, e1, e2, ⟨⟨ad', hAd, hG, hv, hP1⟩, hz, hk⟩, st⟩ := hr T0 hT XS
  have hA0 : ∀ q, gA ad n H.size q → A q := fun q h => by
    rcases h with ⟨i, hi, rfl⟩ | h
    · exact hD.2 i hi
    · exact hA q (Nat.le_trans hS.1 h)
  cases hv
  rw [h0] at hz hk
  have hd' : ∀ i j, i < n' → j < n2 → ad' i ≠ ad2 j := by
    intro i j hi hj e
    have hlt : ad2 j < H.size := (hP2 j _ (gwd_at hj)).lt
    rcases hG.2 i hi with ⟨i', hi', e'⟩ | h
    · exact hdis i' j hi' hj (e'.symm.trans e)
    · omega
  obtain ⟨t2, a1, b1⟩ := kk ad' T'.heap (locs ++ L) (hAd 0 hn0) ⟨hG.1, fun i hi => hA0 _ (hG.2 i hi)⟩ hd' (by rw [e1]; exact hP1) (by rw [e1]; exact lw_kept hP2 hdis hk) ⟨Nat.le_trans hS.1 (by rw [e1]; exact hz), fun q h1 h2 => by rw [e1, hk q (Nat.lt_of_lt_of_le h1 hS.1) (fun z => h2 (hA0 q z))]; exact hS.2.1 q h1 h2, fun q hq => by
      rcases List.mem_append.mp hq with h | h
      · exact hS.2.2 q h
      · exact hA0 _ (hL q h)⟩ T' rfl X'
  exact ⟨t2, st t2 a1, b1⟩
end LWV
theorem lw_gt {L i : Nat} (hL : L ≤ 3072) (hi : i ≤ L) (h : ¬ Int32.ofNat L - 6 < nI i) : i + 6 ≤ L := by
  rcases Nat.lt_or_ge L (i + 6) with q | q
  · exfalso
    apply h
    rw [Int32.lt_iff_toInt_lt, show Int32.ofNat L - 6 = nI L - nI 6 from rfl, pk_sub_toInt (by omega) (by omega), nI_toInt (by omega)]
    omega
  · exact q
theorem lw_ix {L i k : Nat} (hL : L ≤ 3072) (h : i + 6 ≤ L) (hk : k < 6) : vp_in (nI i + nI k) L := by
  rw [nI_add]
  exact vp_in_nI (by omega) (by omega)
theorem lw_i0 {L i : Nat} (hL : L ≤ 3072) (h : i + 6 ≤ L) : vp_in (nI i) L := vp_in_nI (by omega) (by omega)
set_option maxRecDepth 20000 in
theorem law_tell {p : Program} {l : Launch} {e : Env} {s : State} {m : MethodId} {below : List Frame} {meth : Method} {c : Code} {b L : Nat} {xs : Nat → Int32} (hL : L ≤ 3072) (C0 : lw_At p s m meth c b L xs) {D : va_G} {yc : Nat → ClassId} (hK : va_K D gcl (gtys yc) s) {ad1 ad2 : Nat → Nat} (hD1 : gin (fun q => s.heap.size ≤ q) ad1 nC) (hD2 : gin (fun q => s.heap.size ≤ q) ad2 nM) (hdis : ∀ i j, i < nC → j < nM → ad1 i ≠ ad2 j) {Rel : HI → HJ → HN → HI → HJ → HN → Prop} (hok : ok_tell Rel) {i : Nat} (hi6 : i + 6 ≤ L) {I I2 : HI} {J J2 : HJ} {N N2 : HN} (hRel : Rel I J N I2 J2 N2) {H : Heap} {locs : List Loc} {ls : Array Slot} (hP1 : va_P D gcl (gwd Tc yc ad1 nC I J N) H) (hP2 : va_P D gcl (gwd Tm yc ad2 nM I2 J2 N2) H) (hS : va_S (fun q => s.heap.size ≤ q) s.heap H locs) (hl : lv_has ls 4 [(0, .ref b), (1, .ref (ad1 0)), (2, .ref (ad2 0)), (3, .int (nI i))]) (ih : ∀ (I I2 : HI) (J J2 : HJ) (N N2 : HN), Rel I J N I2 J2 N2 → ∀ (H : Heap) (locs : List Loc), va_P D gcl (gwd Tc yc ad1 nC I J N) H → va_P D gcl (gwd Tm yc ad2 nM I2 J2 N2) H → va_S (fun q => s.heap.size ≤ q) s.heap H locs → W p l e room_1 s m #[Value.ref b] below meth c H locs 118 1437 (lw_Z below #[Value.ref b] s) (F0 m 945 ls [])) : W p l e room_1 s m #[Value.ref b] below meth c H locs 118 1437 (lw_Z below #[Value.ref b] s) (F0 m 164 ls []) := by
  obtain ⟨hx, hb, hr, hml, hown, hts, hX, hbl, hlocks, hgv⟩ := id C0
  have hg := lw_hg C0
  have hnw := lw_nw C0
  have hA : ∀ q : Nat, s.heap.size ≤ q → (fun q : Nat => s.heap.size ≤ q) q := fun _ h => h
  have hbA : ¬ (fun q : Nat => s.heap.size ≤ q) b := Nat.not_le.mpr hbl
  obtain ⟨J9, I29, r, h1, h2, hRel2⟩ := hok I J N I2 J2 N2 hRel (xs (nI i + 1).toNatClampNeg) (xs (nI i + 2).toNatClampNeg) (xs (nI i + 3).toNatClampNeg)
  refine lv_aload_n (pc := 164) hx hb dL_law_164 rfl (lv_at hl 1 rfl) ?_
  refine lv_aload_n (pc := 165) hx hb dL_law_165 rfl (lv_at hl 0 rfl) ?_
  refine lv_iload_n (pc := 166) hx hb dL_law_166 rfl (lv_at hl 3 rfl) ?_
  refine lv_iconst (pc := 167) (v := 1) hx hb dL_law_167 (by decide) ?_
  refine lv_iadd (pc := 168) hx hb dL_law_168 ?_
  refine va_sld (pc := 169) hx hb hX hbl hbA hS (lw_ix hL hi6 (k := 1) (by decide)) dL_law_169 ?_
  refine lv_aload_n (pc := 170) hx hb dL_law_170 rfl (lv_at hl 0 rfl) ?_
  refine lv_iload_n (pc := 171) hx hb dL_law_171 rfl (lv_at hl 3 rfl) ?_
  refine lv_iconst (pc := 172) (v := 2) hx hb dL_law_172 (by decide) ?_
  refine lv_iadd (pc := 173) hx hb dL_law_173 ?_
  refine va_sld (pc := 174) hx hb hX hbl hbA hS (lw_ix hL hi6 (k := 2) (by decide)) dL_law_174 ?_
  refine lv_aload_n (pc := 175) hx hb dL_law_175 rfl (lv_at hl 0 rfl) ?_
  refine lv_iload_n (pc := 176) hx hb dL_law_176 rfl (lv_at hl 3 rfl) ?_
  refine lv_iconst (pc := 177) (v := 3) hx hb dL_law_177 (by decide) ?_
  refine lv_iadd (pc := 178) hx hb dL_law_178 ?_
  refine va_sld (pc := 179) hx hb hX hbl hbA hS (lw_ix hL hi6 (k := 3) (by decide)) dL_law_179 ?_
  refine lw_V (pc := 180) (rest := []) hx hb hml hown hg hnw hK hA (k_Lm_tell l (a0 := 0) ⟨by decide, rfl⟩ h1) sm_Lm_tell ml_Lw_13 im_Lm_tell se_Lm_tell gcX10 rfl ⟨by decide, rfl⟩ ⟨rfl, rfl, Nat.le_of_ble_eq_true rfl, Nat.le_of_ble_eq_true rfl⟩ ⟨Nat.le_of_ble_eq_true rfl, Nat.le_of_ble_eq_true rfl⟩ hP1 hP2 hD1 hdis hS hl.1 rfl rfl (Nat.le_of_ble_eq_true rfl) dL_law_180 [.int r] rfl (fun H locs hP1 hP2 hS => ?_)
  refine lv_aload_n (pc := 183) hx hb dL_law_183 rfl (lv_at hl 2 rfl) ?_
  refine lv_aload_n (pc := 184) hx hb dL_law_184 rfl (lv_at hl 0 rfl) ?_
  refine lv_iload_n (pc := 185) hx hb dL_law_185 rfl (lv_at hl 3 rfl) ?_
  refine lv_iconst (pc := 186) (v := 1) hx hb dL_law_186 (by decide) ?_
  refine lv_iadd (pc := 187) hx hb dL_law_187 ?_
  refine va_sld (pc := 188) hx hb hX hbl hbA hS (lw_ix hL hi6 (k := 1) (by decide)) dL_law_188 ?_
  refine lv_aload_n (pc := 189) hx hb dL_law_189 rfl (lv_at hl 0 rfl) ?_
  refine lv_iload_n (pc := 190) hx hb dL_law_190 rfl (lv_at hl 3 rfl) ?_
  refine lv_iconst (pc := 191) (v := 2) hx hb dL_law_191 (by decide) ?_
  refine lv_iadd (pc := 192) hx hb dL_law_192 ?_
  refine va_sld (pc := 193) hx hb hX hbl hbA hS (lw_ix hL hi6 (k := 2) (by decide)) dL_law_193 ?_
  refine lv_aload_n (pc := 194) hx hb dL_law_194 rfl (lv_at hl 0 rfl) ?_
  refine lv_iload_n (pc := 195) hx hb dL_law_195 rfl (lv_at hl 3 rfl) ?_
  refine lv_iconst (pc := 196) (v := 3) hx hb dL_law_196 (by decide) ?_
  refine lv_iadd (pc := 197) hx hb dL_law_197 ?_
  refine va_sld (pc := 198) hx hb hX hbl hbA hS (lw_ix hL hi6 (k := 3) (by decide)) dL_law_198 ?_
  refine lw_V (pc := 199) (rest := [.int r]) hx hb hml hown hg hnw hK hA (k_Mo_tell l (a0 := 0) ⟨by decide, rfl⟩ h2) sm_Mo_tell ml_Lw_17 im_Mo_tell se_Mo_tell gcX11 rfl ⟨by decide, rfl⟩ ⟨rfl, rfl, Nat.le_of_ble_eq_true rfl, Nat.le_of_ble_eq_true rfl⟩ ⟨Nat.le_of_ble_eq_true rfl, Nat.le_of_ble_eq_true rfl⟩ hP2 hP1 hD2 (fun i j hi hj e => hdis j i hj hi e.symm) hS hl.1 rfl rfl (Nat.le_of_ble_eq_true rfl) dL_law_199 [.int r, .int r] rfl (fun H locs hP2 hP1 hS => ?_)
  refine lv_icmp_eq (pc := 202) (tgt := 945) hx hb dL_law_202 rfl (fun _ => ?_) (fun e => absurd rfl e)
  exact ih _ _ _ _ _ _ hRel2 _ _ hP1 hP2 hS
set_option maxRecDepth 20000 in
theorem law_told {p : Program} {l : Launch} {e : Env} {s : State} {m : MethodId} {below : List Frame} {meth : Method} {c : Code} {b L : Nat} {xs : Nat → Int32} (hL : L ≤ 3072) (C0 : lw_At p s m meth c b L xs) {D : va_G} {yc : Nat → ClassId} (hK : va_K D gcl (gtys yc) s) {ad1 ad2 : Nat → Nat} (hD1 : gin (fun q => s.heap.size ≤ q) ad1 nC) (hD2 : gin (fun q => s.heap.size ≤ q) ad2 nM) (hdis : ∀ i j, i < nC → j < nM → ad1 i ≠ ad2 j) {Rel : HI → HJ → HN → HI → HJ → HN → Prop} (hok : ok_told Rel) {i : Nat} (hi6 : i + 6 ≤ L) {I I2 : HI} {J J2 : HJ} {N N2 : HN} (hRel : Rel I J N I2 J2 N2) {H : Heap} {locs : List Loc} {ls : Array Slot} (hP1 : va_P D gcl (gwd Tc yc ad1 nC I J N) H) (hP2 : va_P D gcl (gwd Tm yc ad2 nM I2 J2 N2) H) (hS : va_S (fun q => s.heap.size ≤ q) s.heap H locs) (hl : lv_has ls 4 [(0, .ref b), (1, .ref (ad1 0)), (2, .ref (ad2 0)), (3, .int (nI i))]) (ih : ∀ (I I2 : HI) (J J2 : HJ) (N N2 : HN), Rel I J N I2 J2 N2 → ∀ (H : Heap) (locs : List Loc), va_P D gcl (gwd Tc yc ad1 nC I J N) H → va_P D gcl (gwd Tm yc ad2 nM I2 J2 N2) H → va_S (fun q => s.heap.size ≤ q) s.heap H locs → W p l e room_1 s m #[Value.ref b] below meth c H locs 118 1437 (lw_Z below #[Value.ref b] s) (F0 m 945 ls [])) : W p l e room_1 s m #[Value.ref b] below meth c H locs 118 1437 (lw_Z below #[Value.ref b] s) (F0 m 207 ls []) := by
  obtain ⟨hx, hb, hr, hml, hown, hts, hX, hbl, hlocks, hgv⟩ := id C0
  have hg := lw_hg C0
  have hnw := lw_nw C0
  have hA : ∀ q : Nat, s.heap.size ≤ q → (fun q : Nat => s.heap.size ≤ q) q := fun _ h => h
  have hbA : ¬ (fun q : Nat => s.heap.size ≤ q) b := Nat.not_le.mpr hbl
  obtain ⟨r, h1, h2, hRel2⟩ := hok I J N I2 J2 N2 hRel (xs (nI i + 1).toNatClampNeg) (xs (nI i + 2).toNatClampNeg)
  refine lv_aload_n (pc := 207) hx hb dL_law_207 rfl (lv_at hl 1 rfl) ?_
  refine lv_aload_n (pc := 208) hx hb dL_law_208 rfl (lv_at hl 0 rfl) ?_
  refine lv_iload_n (pc := 209) hx hb dL_law_209 rfl (lv_at hl 3 rfl) ?_
  refine lv_iconst (pc := 210) (v := 1) hx hb dL_law_210 (by decide) ?_
  refine lv_iadd (pc := 211) hx hb dL_law_211 ?_
  refine va_sld (pc := 212) hx hb hX hbl hbA hS (lw_ix hL hi6 (k := 1) (by decide)) dL_law_212 ?_
  refine lv_aload_n (pc := 213) hx hb dL_law_213 rfl (lv_at hl 0 rfl) ?_
  refine lv_iload_n (pc := 214) hx hb dL_law_214 rfl (lv_at hl 3 rfl) ?_
  refine lv_iconst (pc := 215) (v := 2) hx hb dL_law_215 (by decide) ?_
  refine lv_iadd (pc := 216) hx hb dL_law_216 ?_
  refine va_sld (pc := 217) hx hb hX hbl hbA hS (lw_ix hL hi6 (k := 2) (by decide)) dL_law_217 ?_
  refine lw_V (pc := 218) (rest := []) hx hb hml hown hg hnw hK hA (k_Lm_told l (a0 := 0) ⟨by decide, rfl⟩ h1) sm_Lm_told ml_Lw_18 im_Lm_told se_Lm_told gcX10 rfl ⟨by decide, rfl⟩ ⟨rfl, rfl, Nat.le_of_ble_eq_true rfl, Nat.le_of_ble_eq_true rfl⟩ ⟨Nat.le_of_ble_eq_true rfl, Nat.le_of_ble_eq_true rfl⟩ hP1 hP2 hD1 hdis hS hl.1 rfl rfl (Nat.le_of_ble_eq_true rfl) dL_law_218 [.int r] rfl (fun H locs hP1 hP2 hS => ?_)
  refine lv_aload_n (pc := 221) hx hb dL_law_221 rfl (lv_at hl 2 rfl) ?_
  refine lv_aload_n (pc := 222) hx hb dL_law_222 rfl (lv_at hl 0 rfl) ?_
  refine lv_iload_n (pc := 223) hx hb dL_law_223 rfl (lv_at hl 3 rfl) ?_
  refine lv_iconst (pc := 224) (v := 1) hx hb dL_law_224 (by decide) ?_
  refine lv_iadd (pc := 225) hx hb dL_law_225 ?_
  refine va_sld (pc := 226) hx hb hX hbl hbA hS (lw_ix hL hi6 (k := 1) (by decide)) dL_law_226 ?_
  refine lv_aload_n (pc := 227) hx hb dL_law_227 rfl (lv_at hl 0 rfl) ?_
  refine lv_iload_n (pc := 228) hx hb dL_law_228 rfl (lv_at hl 3 rfl) ?_
  refine lv_iconst (pc := 229) (v := 2) hx hb dL_law_229 (by decide) ?_
  refine lv_iadd (pc := 230) hx hb dL_law_230 ?_
  refine va_sld (pc := 231) hx hb hX hbl hbA hS (lw_ix hL hi6 (k := 2) (by decide)) dL_law_231 ?_
  refine lw_V (pc := 232) (rest := [.int r]) hx hb hml hown hg hnw hK hA (k_Mo_told l (a0 := 0) ⟨by decide, rfl⟩ h2) sm_Mo_told ml_Lw_22 im_Mo_told se_Mo_told gcX11 rfl ⟨by decide, rfl⟩ ⟨rfl, rfl, Nat.le_of_ble_eq_true rfl, Nat.le_of_ble_eq_true rfl⟩ ⟨Nat.le_of_ble_eq_true rfl, Nat.le_of_ble_eq_true rfl⟩ hP2 hP1 hD2 (fun i j hi hj e => hdis j i hj hi e.symm) hS hl.1 rfl rfl (Nat.le_of_ble_eq_true rfl) dL_law_232 [.int r, .int r] rfl (fun H locs hP2 hP1 hS => ?_)
  refine lv_icmp_eq (pc := 235) (tgt := 945) hx hb dL_law_235 rfl (fun _ => ?_) (fun e => absurd rfl e)
  exact ih _ _ _ _ _ _ hRel2 _ _ hP1 hP2 hS
set_option maxRecDepth 20000 in
theorem law_turn {p : Program} {l : Launch} {e : Env} {s : State} {m : MethodId} {below : List Frame} {meth : Method} {c : Code} {b L : Nat} {xs : Nat → Int32} (hL : L ≤ 3072) (C0 : lw_At p s m meth c b L xs) {D : va_G} {yc : Nat → ClassId} (hK : va_K D gcl (gtys yc) s) {ad1 ad2 : Nat → Nat} (hD1 : gin (fun q => s.heap.size ≤ q) ad1 nC) (hD2 : gin (fun q => s.heap.size ≤ q) ad2 nM) (hdis : ∀ i j, i < nC → j < nM → ad1 i ≠ ad2 j) {Rel : HI → HJ → HN → HI → HJ → HN → Prop} (hok : ok_turn Rel) {i : Nat} (hi6 : i + 6 ≤ L) {I I2 : HI} {J J2 : HJ} {N N2 : HN} (hRel : Rel I J N I2 J2 N2) {H : Heap} {locs : List Loc} {ls : Array Slot} (hP1 : va_P D gcl (gwd Tc yc ad1 nC I J N) H) (hP2 : va_P D gcl (gwd Tm yc ad2 nM I2 J2 N2) H) (hS : va_S (fun q => s.heap.size ≤ q) s.heap H locs) (hl : lv_has ls 4 [(0, .ref b), (1, .ref (ad1 0)), (2, .ref (ad2 0)), (3, .int (nI i))]) (ih : ∀ (I I2 : HI) (J J2 : HJ) (N N2 : HN), Rel I J N I2 J2 N2 → ∀ (H : Heap) (locs : List Loc), va_P D gcl (gwd Tc yc ad1 nC I J N) H → va_P D gcl (gwd Tm yc ad2 nM I2 J2 N2) H → va_S (fun q => s.heap.size ≤ q) s.heap H locs → W p l e room_1 s m #[Value.ref b] below meth c H locs 118 1437 (lw_Z below #[Value.ref b] s) (F0 m 945 ls [])) : W p l e room_1 s m #[Value.ref b] below meth c H locs 118 1437 (lw_Z below #[Value.ref b] s) (F0 m 240 ls []) := by
  obtain ⟨hx, hb, hr, hml, hown, hts, hX, hbl, hlocks, hgv⟩ := id C0
  have hg := lw_hg C0
  have hnw := lw_nw C0
  have hA : ∀ q : Nat, s.heap.size ≤ q → (fun q : Nat => s.heap.size ≤ q) q := fun _ h => h
  have hbA : ¬ (fun q : Nat => s.heap.size ≤ q) b := Nat.not_le.mpr hbl
  obtain ⟨N9, I29, r, h1, h2, hRel2⟩ := hok I J N I2 J2 N2 hRel
  refine lv_aload_n (pc := 240) hx hb dL_law_240 rfl (lv_at hl 1 rfl) ?_
  refine lw_V (pc := 241) (rest := []) hx hb hml hown hg hnw hK hA (k_Lm_turn l (a0 := 0) ⟨by decide, rfl⟩ h1) sm_Lm_turn ml_Lw_23 im_Lm_turn se_Lm_turn gcX10 rfl ⟨by decide, rfl⟩ ⟨rfl, rfl, Nat.le_of_ble_eq_true rfl, Nat.le_of_ble_eq_true rfl⟩ ⟨Nat.le_of_ble_eq_true rfl, Nat.le_of_ble_eq_true rfl⟩ hP1 hP2 hD1 hdis hS hl.1 rfl rfl (Nat.le_of_ble_eq_true rfl) dL_law_241 [.int r] rfl (fun H locs hP1 hP2 hS => ?_)
  refine lv_aload_n (pc := 244) hx hb dL_law_244 rfl (lv_at hl 2 rfl) ?_
  refine lw_V (pc := 245) (rest := [.int r]) hx hb hml hown hg hnw hK hA (k_Mo_turn l (a0 := 0) ⟨by decide, rfl⟩ h2) sm_Mo_turn ml_Lw_27 im_Mo_turn se_Mo_turn gcX11 rfl ⟨by decide, rfl⟩ ⟨rfl, rfl, Nat.le_of_ble_eq_true rfl, Nat.le_of_ble_eq_true rfl⟩ ⟨Nat.le_of_ble_eq_true rfl, Nat.le_of_ble_eq_true rfl⟩ hP2 hP1 hD2 (fun i j hi hj e => hdis j i hj hi e.symm) hS hl.1 rfl rfl (Nat.le_of_ble_eq_true rfl) dL_law_245 [.int r, .int r] rfl (fun H locs hP2 hP1 hS => ?_)
  refine lv_icmp_eq (pc := 248) (tgt := 945) hx hb dL_law_248 rfl (fun _ => ?_) (fun e => absurd rfl e)
  exact ih _ _ _ _ _ _ hRel2 _ _ hP1 hP2 hS
set_option maxRecDepth 20000 in
theorem law_reverse {p : Program} {l : Launch} {e : Env} {s : State} {m : MethodId} {below : List Frame} {meth : Method} {c : Code} {b L : Nat} {xs : Nat → Int32} (hL : L ≤ 3072) (C0 : lw_At p s m meth c b L xs) {D : va_G} {yc : Nat → ClassId} (hK : va_K D gcl (gtys yc) s) {ad1 ad2 : Nat → Nat} (hD1 : gin (fun q => s.heap.size ≤ q) ad1 nC) (hD2 : gin (fun q => s.heap.size ≤ q) ad2 nM) (hdis : ∀ i j, i < nC → j < nM → ad1 i ≠ ad2 j) {Rel : HI → HJ → HN → HI → HJ → HN → Prop} (hok : ok_reverse Rel) {i : Nat} (hi6 : i + 6 ≤ L) {I I2 : HI} {J J2 : HJ} {N N2 : HN} (hRel : Rel I J N I2 J2 N2) {H : Heap} {locs : List Loc} {ls : Array Slot} (hP1 : va_P D gcl (gwd Tc yc ad1 nC I J N) H) (hP2 : va_P D gcl (gwd Tm yc ad2 nM I2 J2 N2) H) (hS : va_S (fun q => s.heap.size ≤ q) s.heap H locs) (hl : lv_has ls 4 [(0, .ref b), (1, .ref (ad1 0)), (2, .ref (ad2 0)), (3, .int (nI i))]) (ih : ∀ (I I2 : HI) (J J2 : HJ) (N N2 : HN), Rel I J N I2 J2 N2 → ∀ (H : Heap) (locs : List Loc), va_P D gcl (gwd Tc yc ad1 nC I J N) H → va_P D gcl (gwd Tm yc ad2 nM I2 J2 N2) H → va_S (fun q => s.heap.size ≤ q) s.heap H locs → W p l e room_1 s m #[Value.ref b] below meth c H locs 118 1437 (lw_Z below #[Value.ref b] s) (F0 m 945 ls [])) : W p l e room_1 s m #[Value.ref b] below meth c H locs 118 1437 (lw_Z below #[Value.ref b] s) (F0 m 253 ls []) := by
  obtain ⟨hx, hb, hr, hml, hown, hts, hX, hbl, hlocks, hgv⟩ := id C0
  have hg := lw_hg C0
  have hnw := lw_nw C0
  have hA : ∀ q : Nat, s.heap.size ≤ q → (fun q : Nat => s.heap.size ≤ q) q := fun _ h => h
  have hbA : ¬ (fun q : Nat => s.heap.size ≤ q) b := Nat.not_le.mpr hbl
  obtain ⟨J9, I29, r, h1, h2, hRel2⟩ := hok I J N I2 J2 N2 hRel
  refine lv_aload_n (pc := 253) hx hb dL_law_253 rfl (lv_at hl 1 rfl) ?_
  refine lw_V (pc := 254) (rest := []) hx hb hml hown hg hnw hK hA (k_Lm_reverse l (a0 := 0) ⟨by decide, rfl⟩ h1) sm_Lm_reverse ml_Lw_28 im_Lm_reverse se_Lm_reverse gcX10 rfl ⟨by decide, rfl⟩ ⟨rfl, rfl, Nat.le_of_ble_eq_true rfl, Nat.le_of_ble_eq_true rfl⟩ ⟨Nat.le_of_ble_eq_true rfl, Nat.le_of_ble_eq_true rfl⟩ hP1 hP2 hD1 hdis hS hl.1 rfl rfl (Nat.le_of_ble_eq_true rfl) dL_law_254 [.int r] rfl (fun H locs hP1 hP2 hS => ?_)
  refine lv_aload_n (pc := 257) hx hb dL_law_257 rfl (lv_at hl 2 rfl) ?_
  refine lw_V (pc := 258) (rest := [.int r]) hx hb hml hown hg hnw hK hA (k_Mo_reverse l (a0 := 0) ⟨by decide, rfl⟩ h2) sm_Mo_reverse ml_Lw_31 im_Mo_reverse se_Mo_reverse gcX11 rfl ⟨by decide, rfl⟩ ⟨rfl, rfl, Nat.le_of_ble_eq_true rfl, Nat.le_of_ble_eq_true rfl⟩ ⟨Nat.le_of_ble_eq_true rfl, Nat.le_of_ble_eq_true rfl⟩ hP2 hP1 hD2 (fun i j hi hj e => hdis j i hj hi e.symm) hS hl.1 rfl rfl (Nat.le_of_ble_eq_true rfl) dL_law_258 [.int r, .int r] rfl (fun H locs hP2 hP1 hS => ?_)
  refine lv_icmp_eq (pc := 261) (tgt := 945) hx hb dL_law_261 rfl (fun _ => ?_) (fun e => absurd rfl e)
  exact ih _ _ _ _ _ _ hRel2 _ _ hP1 hP2 hS
set_option maxRecDepth 20000 in
theorem law_read {p : Program} {l : Launch} {e : Env} {s : State} {m : MethodId} {below : List Frame} {meth : Method} {c : Code} {b L : Nat} {xs : Nat → Int32} (hL : L ≤ 3072) (C0 : lw_At p s m meth c b L xs) {D : va_G} {yc : Nat → ClassId} (hK : va_K D gcl (gtys yc) s) {ad1 ad2 : Nat → Nat} (hD1 : gin (fun q => s.heap.size ≤ q) ad1 nC) (hD2 : gin (fun q => s.heap.size ≤ q) ad2 nM) (hdis : ∀ i j, i < nC → j < nM → ad1 i ≠ ad2 j) {Rel : HI → HJ → HN → HI → HJ → HN → Prop} (hok : ok_read Rel) {i : Nat} (hi6 : i + 6 ≤ L) {I I2 : HI} {J J2 : HJ} {N N2 : HN} (hRel : Rel I J N I2 J2 N2) {H : Heap} {locs : List Loc} {ls : Array Slot} (hP1 : va_P D gcl (gwd Tc yc ad1 nC I J N) H) (hP2 : va_P D gcl (gwd Tm yc ad2 nM I2 J2 N2) H) (hS : va_S (fun q => s.heap.size ≤ q) s.heap H locs) (hl : lv_has ls 4 [(0, .ref b), (1, .ref (ad1 0)), (2, .ref (ad2 0)), (3, .int (nI i))]) (ih : ∀ (I I2 : HI) (J J2 : HJ) (N N2 : HN), Rel I J N I2 J2 N2 → ∀ (H : Heap) (locs : List Loc), va_P D gcl (gwd Tc yc ad1 nC I J N) H → va_P D gcl (gwd Tm yc ad2 nM I2 J2 N2) H → va_S (fun q => s.heap.size ≤ q) s.heap H locs → W p l e room_1 s m #[Value.ref b] below meth c H locs 118 1437 (lw_Z below #[Value.ref b] s) (F0 m 945 ls [])) : W p l e room_1 s m #[Value.ref b] below meth c H locs 118 1437 (lw_Z below #[Value.ref b] s) (F0 m 266 ls []) := by
  obtain ⟨hx, hb, hr, hml, hown, hts, hX, hbl, hlocks, hgv⟩ := id C0
  have hg := lw_hg C0
  have hnw := lw_nw C0
  have hA : ∀ q : Nat, s.heap.size ≤ q → (fun q : Nat => s.heap.size ≤ q) q := fun _ h => h
  have hbA : ¬ (fun q : Nat => s.heap.size ≤ q) b := Nat.not_le.mpr hbl
  obtain ⟨I9, J9, I29, r, h1, h2, hRel2⟩ := hok I J N I2 J2 N2 hRel (xs (nI i + 1).toNatClampNeg) (xs (nI i + 2).toNatClampNeg)
  refine lv_aload_n (pc := 266) hx hb dL_law_266 rfl (lv_at hl 1 rfl) ?_
  refine lv_aload_n (pc := 267) hx hb dL_law_267 rfl (lv_at hl 0 rfl) ?_
  refine lv_iload_n (pc := 268) hx hb dL_law_268 rfl (lv_at hl 3 rfl) ?_
  refine lv_iconst (pc := 269) (v := 1) hx hb dL_law_269 (by decide) ?_
  refine lv_iadd (pc := 270) hx hb dL_law_270 ?_
  refine va_sld (pc := 271) hx hb hX hbl hbA hS (lw_ix hL hi6 (k := 1) (by decide)) dL_law_271 ?_
  refine lv_aload_n (pc := 272) hx hb dL_law_272 rfl (lv_at hl 0 rfl) ?_
  refine lv_iload_n (pc := 273) hx hb dL_law_273 rfl (lv_at hl 3 rfl) ?_
  refine lv_iconst (pc := 274) (v := 2) hx hb dL_law_274 (by decide) ?_
  refine lv_iadd (pc := 275) hx hb dL_law_275 ?_
  refine va_sld (pc := 276) hx hb hX hbl hbA hS (lw_ix hL hi6 (k := 2) (by decide)) dL_law_276 ?_
  refine lw_V (pc := 277) (rest := []) hx hb hml hown hg hnw hK hA (k_Lm_read l (a0 := 0) ⟨by decide, rfl⟩ h1) sm_Lm_read ml_Lw_32 im_Lm_read se_Lm_read gcX10 rfl ⟨by decide, rfl⟩ ⟨rfl, rfl, Nat.le_of_ble_eq_true rfl, Nat.le_of_ble_eq_true rfl⟩ ⟨Nat.le_of_ble_eq_true rfl, Nat.le_of_ble_eq_true rfl⟩ hP1 hP2 hD1 hdis hS hl.1 rfl rfl (Nat.le_of_ble_eq_true rfl) dL_law_277 [.int r] rfl (fun H locs hP1 hP2 hS => ?_)
  refine lv_aload_n (pc := 280) hx hb dL_law_280 rfl (lv_at hl 2 rfl) ?_
  refine lv_aload_n (pc := 281) hx hb dL_law_281 rfl (lv_at hl 0 rfl) ?_
  refine lv_iload_n (pc := 282) hx hb dL_law_282 rfl (lv_at hl 3 rfl) ?_
  refine lv_iconst (pc := 283) (v := 1) hx hb dL_law_283 (by decide) ?_
  refine lv_iadd (pc := 284) hx hb dL_law_284 ?_
  refine va_sld (pc := 285) hx hb hX hbl hbA hS (lw_ix hL hi6 (k := 1) (by decide)) dL_law_285 ?_
  refine lv_aload_n (pc := 286) hx hb dL_law_286 rfl (lv_at hl 0 rfl) ?_
  refine lv_iload_n (pc := 287) hx hb dL_law_287 rfl (lv_at hl 3 rfl) ?_
  refine lv_iconst (pc := 288) (v := 2) hx hb dL_law_288 (by decide) ?_
  refine lv_iadd (pc := 289) hx hb dL_law_289 ?_
  refine va_sld (pc := 290) hx hb hX hbl hbA hS (lw_ix hL hi6 (k := 2) (by decide)) dL_law_290 ?_
  refine lw_V (pc := 291) (rest := [.int r]) hx hb hml hown hg hnw hK hA (k_Mo_read l (a0 := 0) ⟨by decide, rfl⟩ h2) sm_Mo_read ml_Lw_35 im_Mo_read se_Mo_read gcX11 rfl ⟨by decide, rfl⟩ ⟨rfl, rfl, Nat.le_of_ble_eq_true rfl, Nat.le_of_ble_eq_true rfl⟩ ⟨Nat.le_of_ble_eq_true rfl, Nat.le_of_ble_eq_true rfl⟩ hP2 hP1 hD2 (fun i j hi hj e => hdis j i hj hi e.symm) hS hl.1 rfl rfl (Nat.le_of_ble_eq_true rfl) dL_law_291 [.int r, .int r] rfl (fun H locs hP2 hP1 hS => ?_)
  refine lv_icmp_eq (pc := 294) (tgt := 945) hx hb dL_law_294 rfl (fun _ => ?_) (fun e => absurd rfl e)
  exact ih _ _ _ _ _ _ hRel2 _ _ hP1 hP2 hS
set_option maxRecDepth 20000 in
theorem law_info {p : Program} {l : Launch} {e : Env} {s : State} {m : MethodId} {below : List Frame} {meth : Method} {c : Code} {b L : Nat} {xs : Nat → Int32} (hL : L ≤ 3072) (C0 : lw_At p s m meth c b L xs) {D : va_G} {yc : Nat → ClassId} (hK : va_K D gcl (gtys yc) s) {ad1 ad2 : Nat → Nat} (hD1 : gin (fun q => s.heap.size ≤ q) ad1 nC) (hD2 : gin (fun q => s.heap.size ≤ q) ad2 nM) (hdis : ∀ i j, i < nC → j < nM → ad1 i ≠ ad2 j) {Rel : HI → HJ → HN → HI → HJ → HN → Prop} (hok : ok_info Rel) {i : Nat} (hi6 : i + 6 ≤ L) {I I2 : HI} {J J2 : HJ} {N N2 : HN} (hRel : Rel I J N I2 J2 N2) {H : Heap} {locs : List Loc} {ls : Array Slot} (hP1 : va_P D gcl (gwd Tc yc ad1 nC I J N) H) (hP2 : va_P D gcl (gwd Tm yc ad2 nM I2 J2 N2) H) (hS : va_S (fun q => s.heap.size ≤ q) s.heap H locs) (hl : lv_has ls 4 [(0, .ref b), (1, .ref (ad1 0)), (2, .ref (ad2 0)), (3, .int (nI i))]) (ih : ∀ (I I2 : HI) (J J2 : HJ) (N N2 : HN), Rel I J N I2 J2 N2 → ∀ (H : Heap) (locs : List Loc), va_P D gcl (gwd Tc yc ad1 nC I J N) H → va_P D gcl (gwd Tm yc ad2 nM I2 J2 N2) H → va_S (fun q => s.heap.size ≤ q) s.heap H locs → W p l e room_1 s m #[Value.ref b] below meth c H locs 118 1437 (lw_Z below #[Value.ref b] s) (F0 m 945 ls [])) : W p l e room_1 s m #[Value.ref b] below meth c H locs 118 1437 (lw_Z below #[Value.ref b] s) (F0 m 299 ls []) := by
  obtain ⟨hx, hb, hr, hml, hown, hts, hX, hbl, hlocks, hgv⟩ := id C0
  have hg := lw_hg C0
  have hnw := lw_nw C0
  have hA : ∀ q : Nat, s.heap.size ≤ q → (fun q : Nat => s.heap.size ≤ q) q := fun _ h => h
  have hbA : ¬ (fun q : Nat => s.heap.size ≤ q) b := Nat.not_le.mpr hbl
  obtain ⟨r, h1, h2, hRel2⟩ := hok I J N I2 J2 N2 hRel (xs (nI i + 1).toNatClampNeg)
  refine lv_aload_n (pc := 299) hx hb dL_law_299 rfl (lv_at hl 1 rfl) ?_
  refine lv_aload_n (pc := 300) hx hb dL_law_300 rfl (lv_at hl 0 rfl) ?_
  refine lv_iload_n (pc := 301) hx hb dL_law_301 rfl (lv_at hl 3 rfl) ?_
  refine lv_iconst (pc := 302) (v := 1) hx hb dL_law_302 (by decide) ?_
  refine lv_iadd (pc := 303) hx hb dL_law_303 ?_
  refine va_sld (pc := 304) hx hb hX hbl hbA hS (lw_ix hL hi6 (k := 1) (by decide)) dL_law_304 ?_
  refine lw_V (pc := 305) (rest := []) hx hb hml hown hg hnw hK hA (k_Lm_info l (a0 := 0) ⟨by decide, rfl⟩ h1) sm_Lm_info ml_Lw_36 im_Lm_info se_Lm_info gcX10 rfl ⟨by decide, rfl⟩ ⟨rfl, rfl, Nat.le_of_ble_eq_true rfl, Nat.le_of_ble_eq_true rfl⟩ ⟨Nat.le_of_ble_eq_true rfl, Nat.le_of_ble_eq_true rfl⟩ hP1 hP2 hD1 hdis hS hl.1 rfl rfl (Nat.le_of_ble_eq_true rfl) dL_law_305 [.int r] rfl (fun H locs hP1 hP2 hS => ?_)
  refine lv_aload_n (pc := 308) hx hb dL_law_308 rfl (lv_at hl 2 rfl) ?_
  refine lv_aload_n (pc := 309) hx hb dL_law_309 rfl (lv_at hl 0 rfl) ?_
  refine lv_iload_n (pc := 310) hx hb dL_law_310 rfl (lv_at hl 3 rfl) ?_
  refine lv_iconst (pc := 311) (v := 1) hx hb dL_law_311 (by decide) ?_
  refine lv_iadd (pc := 312) hx hb dL_law_312 ?_
  refine va_sld (pc := 313) hx hb hX hbl hbA hS (lw_ix hL hi6 (k := 1) (by decide)) dL_law_313 ?_
  refine lw_V (pc := 314) (rest := [.int r]) hx hb hml hown hg hnw hK hA (k_Mo_info l (a0 := 0) ⟨by decide, rfl⟩ h2) sm_Mo_info ml_Lw_40 im_Mo_info se_Mo_info gcX11 rfl ⟨by decide, rfl⟩ ⟨rfl, rfl, Nat.le_of_ble_eq_true rfl, Nat.le_of_ble_eq_true rfl⟩ ⟨Nat.le_of_ble_eq_true rfl, Nat.le_of_ble_eq_true rfl⟩ hP2 hP1 hD2 (fun i j hi hj e => hdis j i hj hi e.symm) hS hl.1 rfl rfl (Nat.le_of_ble_eq_true rfl) dL_law_314 [.int r, .int r] rfl (fun H locs hP2 hP1 hS => ?_)
  refine lv_icmp_eq (pc := 317) (tgt := 945) hx hb dL_law_317 rfl (fun _ => ?_) (fun e => absurd rfl e)
  exact ih _ _ _ _ _ _ hRel2 _ _ hP1 hP2 hS
set_option maxRecDepth 20000 in
theorem law_reactance {p : Program} {l : Launch} {e : Env} {s : State} {m : MethodId} {below : List Frame} {meth : Method} {c : Code} {b L : Nat} {xs : Nat → Int32} (hL : L ≤ 3072) (C0 : lw_At p s m meth c b L xs) {D : va_G} {yc : Nat → ClassId} (hK : va_K D gcl (gtys yc) s) {ad1 ad2 : Nat → Nat} (hD1 : gin (fun q => s.heap.size ≤ q) ad1 nC) (hD2 : gin (fun q => s.heap.size ≤ q) ad2 nM) (hdis : ∀ i j, i < nC → j < nM → ad1 i ≠ ad2 j) {Rel : HI → HJ → HN → HI → HJ → HN → Prop} (hok : ok_reactance Rel) {i : Nat} (hi6 : i + 6 ≤ L) {I I2 : HI} {J J2 : HJ} {N N2 : HN} (hRel : Rel I J N I2 J2 N2) {H : Heap} {locs : List Loc} {ls : Array Slot} (hP1 : va_P D gcl (gwd Tc yc ad1 nC I J N) H) (hP2 : va_P D gcl (gwd Tm yc ad2 nM I2 J2 N2) H) (hS : va_S (fun q => s.heap.size ≤ q) s.heap H locs) (hl : lv_has ls 4 [(0, .ref b), (1, .ref (ad1 0)), (2, .ref (ad2 0)), (3, .int (nI i))]) (ih : ∀ (I I2 : HI) (J J2 : HJ) (N N2 : HN), Rel I J N I2 J2 N2 → ∀ (H : Heap) (locs : List Loc), va_P D gcl (gwd Tc yc ad1 nC I J N) H → va_P D gcl (gwd Tm yc ad2 nM I2 J2 N2) H → va_S (fun q => s.heap.size ≤ q) s.heap H locs → W p l e room_1 s m #[Value.ref b] below meth c H locs 118 1437 (lw_Z below #[Value.ref b] s) (F0 m 945 ls [])) : W p l e room_1 s m #[Value.ref b] below meth c H locs 118 1437 (lw_Z below #[Value.ref b] s) (F0 m 322 ls []) := by
  obtain ⟨hx, hb, hr, hml, hown, hts, hX, hbl, hlocks, hgv⟩ := id C0
  have hg := lw_hg C0
  have hnw := lw_nw C0
  have hA : ∀ q : Nat, s.heap.size ≤ q → (fun q : Nat => s.heap.size ≤ q) q := fun _ h => h
  have hbA : ¬ (fun q : Nat => s.heap.size ≤ q) b := Nat.not_le.mpr hbl
  obtain ⟨J9, r, h1, h2, hRel2⟩ := hok I J N I2 J2 N2 hRel (xs (nI i + 1).toNatClampNeg) (xs (nI i + 2).toNatClampNeg) (xs (nI i + 3).toNatClampNeg)
  refine lv_aload_n (pc := 322) hx hb dL_law_322 rfl (lv_at hl 1 rfl) ?_
  refine lv_aload_n (pc := 323) hx hb dL_law_323 rfl (lv_at hl 0 rfl) ?_
  refine lv_iload_n (pc := 324) hx hb dL_law_324 rfl (lv_at hl 3 rfl) ?_
  refine lv_iconst (pc := 325) (v := 1) hx hb dL_law_325 (by decide) ?_
  refine lv_iadd (pc := 326) hx hb dL_law_326 ?_
  refine va_sld (pc := 327) hx hb hX hbl hbA hS (lw_ix hL hi6 (k := 1) (by decide)) dL_law_327 ?_
  refine lv_aload_n (pc := 328) hx hb dL_law_328 rfl (lv_at hl 0 rfl) ?_
  refine lv_iload_n (pc := 329) hx hb dL_law_329 rfl (lv_at hl 3 rfl) ?_
  refine lv_iconst (pc := 330) (v := 2) hx hb dL_law_330 (by decide) ?_
  refine lv_iadd (pc := 331) hx hb dL_law_331 ?_
  refine va_sld (pc := 332) hx hb hX hbl hbA hS (lw_ix hL hi6 (k := 2) (by decide)) dL_law_332 ?_
  refine lv_aload_n (pc := 333) hx hb dL_law_333 rfl (lv_at hl 0 rfl) ?_
  refine lv_iload_n (pc := 334) hx hb dL_law_334 rfl (lv_at hl 3 rfl) ?_
  refine lv_iconst (pc := 335) (v := 3) hx hb dL_law_335 (by decide) ?_
  refine lv_iadd (pc := 336) hx hb dL_law_336 ?_
  refine va_sld (pc := 337) hx hb hX hbl hbA hS (lw_ix hL hi6 (k := 3) (by decide)) dL_law_337 ?_
  refine lw_V (pc := 338) (rest := []) hx hb hml hown hg hnw hK hA (k_Lm_reactance l (a0 := 0) ⟨by decide, rfl⟩ h1) sm_Lm_reactance ml_Lw_41 im_Lm_reactance se_Lm_reactance gcX10 rfl ⟨by decide, rfl⟩ ⟨rfl, rfl, Nat.le_of_ble_eq_true rfl, Nat.le_of_ble_eq_true rfl⟩ ⟨Nat.le_of_ble_eq_true rfl, Nat.le_of_ble_eq_true rfl⟩ hP1 hP2 hD1 hdis hS hl.1 rfl rfl (Nat.le_of_ble_eq_true rfl) dL_law_338 [.long r] rfl (fun H locs hP1 hP2 hS => ?_)
  refine lv_aload_n (pc := 341) hx hb dL_law_341 rfl (lv_at hl 2 rfl) ?_
  refine lv_aload_n (pc := 342) hx hb dL_law_342 rfl (lv_at hl 0 rfl) ?_
  refine lv_iload_n (pc := 343) hx hb dL_law_343 rfl (lv_at hl 3 rfl) ?_
  refine lv_iconst (pc := 344) (v := 1) hx hb dL_law_344 (by decide) ?_
  refine lv_iadd (pc := 345) hx hb dL_law_345 ?_
  refine va_sld (pc := 346) hx hb hX hbl hbA hS (lw_ix hL hi6 (k := 1) (by decide)) dL_law_346 ?_
  refine lv_aload_n (pc := 347) hx hb dL_law_347 rfl (lv_at hl 0 rfl) ?_
  refine lv_iload_n (pc := 348) hx hb dL_law_348 rfl (lv_at hl 3 rfl) ?_
  refine lv_iconst (pc := 349) (v := 2) hx hb dL_law_349 (by decide) ?_
  refine lv_iadd (pc := 350) hx hb dL_law_350 ?_
  refine va_sld (pc := 351) hx hb hX hbl hbA hS (lw_ix hL hi6 (k := 2) (by decide)) dL_law_351 ?_
  refine lv_aload_n (pc := 352) hx hb dL_law_352 rfl (lv_at hl 0 rfl) ?_
  refine lv_iload_n (pc := 353) hx hb dL_law_353 rfl (lv_at hl 3 rfl) ?_
  refine lv_iconst (pc := 354) (v := 3) hx hb dL_law_354 (by decide) ?_
  refine lv_iadd (pc := 355) hx hb dL_law_355 ?_
  refine va_sld (pc := 356) hx hb hX hbl hbA hS (lw_ix hL hi6 (k := 3) (by decide)) dL_law_356 ?_
  refine lw_V (pc := 357) (rest := [.long r]) hx hb hml hown hg hnw hK hA (k_Mo_reactance l (a0 := 0) ⟨by decide, rfl⟩ h2) sm_Mo_reactance ml_Lw_45 im_Mo_reactance se_Mo_reactance gcX11 rfl ⟨by decide, rfl⟩ ⟨rfl, rfl, Nat.le_of_ble_eq_true rfl, Nat.le_of_ble_eq_true rfl⟩ ⟨Nat.le_of_ble_eq_true rfl, Nat.le_of_ble_eq_true rfl⟩ hP2 hP1 hD2 (fun i j hi hj e => hdis j i hj hi e.symm) hS hl.1 rfl rfl (Nat.le_of_ble_eq_true rfl) dL_law_357 [.long r, .long r] rfl (fun H locs hP2 hP1 hS => ?_)
  refine W.lcmp (pc := 360) hx hb dL_law_360 ?_
  refine lv_if_eq (pc := 361) (tgt := 945) hx hb dL_law_361 rfl (fun _ => ?_) (fun e => absurd ((lg_cmp_eq _ _).mpr rfl) e)
  exact ih _ _ _ _ _ _ hRel2 _ _ hP1 hP2 hS
set_option maxRecDepth 20000 in
theorem law_arm {p : Program} {l : Launch} {e : Env} {s : State} {m : MethodId} {below : List Frame} {meth : Method} {c : Code} {b L : Nat} {xs : Nat → Int32} (hL : L ≤ 3072) (C0 : lw_At p s m meth c b L xs) {D : va_G} {yc : Nat → ClassId} (hK : va_K D gcl (gtys yc) s) {ad1 ad2 : Nat → Nat} (hD1 : gin (fun q => s.heap.size ≤ q) ad1 nC) (hD2 : gin (fun q => s.heap.size ≤ q) ad2 nM) (hdis : ∀ i j, i < nC → j < nM → ad1 i ≠ ad2 j) {Rel : HI → HJ → HN → HI → HJ → HN → Prop} (hok : ok_arm Rel) {i : Nat} (hi6 : i + 6 ≤ L) {I I2 : HI} {J J2 : HJ} {N N2 : HN} (hRel : Rel I J N I2 J2 N2) {H : Heap} {locs : List Loc} {ls : Array Slot} (hP1 : va_P D gcl (gwd Tc yc ad1 nC I J N) H) (hP2 : va_P D gcl (gwd Tm yc ad2 nM I2 J2 N2) H) (hS : va_S (fun q => s.heap.size ≤ q) s.heap H locs) (hl : lv_has ls 4 [(0, .ref b), (1, .ref (ad1 0)), (2, .ref (ad2 0)), (3, .int (nI i))]) (ih : ∀ (I I2 : HI) (J J2 : HJ) (N N2 : HN), Rel I J N I2 J2 N2 → ∀ (H : Heap) (locs : List Loc), va_P D gcl (gwd Tc yc ad1 nC I J N) H → va_P D gcl (gwd Tm yc ad2 nM I2 J2 N2) H → va_S (fun q => s.heap.size ≤ q) s.heap H locs → W p l e room_1 s m #[Value.ref b] below meth c H locs 118 1437 (lw_Z below #[Value.ref b] s) (F0 m 945 ls [])) : W p l e room_1 s m #[Value.ref b] below meth c H locs 118 1437 (lw_Z below #[Value.ref b] s) (F0 m 366 ls []) := by
  obtain ⟨hx, hb, hr, hml, hown, hts, hX, hbl, hlocks, hgv⟩ := id C0
  have hg := lw_hg C0
  have hnw := lw_nw C0
  have hA : ∀ q : Nat, s.heap.size ≤ q → (fun q : Nat => s.heap.size ≤ q) q := fun _ h => h
  have hbA : ¬ (fun q : Nat => s.heap.size ≤ q) b := Nat.not_le.mpr hbl
  obtain ⟨I9, J9, N9, I29, r, h1, h2, hRel2⟩ := hok I J N I2 J2 N2 hRel (xs (nI i + 1).toNatClampNeg) (xs (nI i + 2).toNatClampNeg) (xs (nI i + 3).toNatClampNeg)
  refine lv_aload_n (pc := 366) hx hb dL_law_366 rfl (lv_at hl 1 rfl) ?_
  refine lv_aload_n (pc := 367) hx hb dL_law_367 rfl (lv_at hl 0 rfl) ?_
  refine lv_iload_n (pc := 368) hx hb dL_law_368 rfl (lv_at hl 3 rfl) ?_
  refine lv_iconst (pc := 369) (v := 1) hx hb dL_law_369 (by decide) ?_
  refine lv_iadd (pc := 370) hx hb dL_law_370 ?_
  refine va_sld (pc := 371) hx hb hX hbl hbA hS (lw_ix hL hi6 (k := 1) (by decide)) dL_law_371 ?_
  refine lv_aload_n (pc := 372) hx hb dL_law_372 rfl (lv_at hl 0 rfl) ?_
  refine lv_iload_n (pc := 373) hx hb dL_law_373 rfl (lv_at hl 3 rfl) ?_
  refine lv_iconst (pc := 374) (v := 2) hx hb dL_law_374 (by decide) ?_
  refine lv_iadd (pc := 375) hx hb dL_law_375 ?_
  refine va_sld (pc := 376) hx hb hX hbl hbA hS (lw_ix hL hi6 (k := 2) (by decide)) dL_law_376 ?_
  refine lv_aload_n (pc := 377) hx hb dL_law_377 rfl (lv_at hl 0 rfl) ?_
  refine lv_iload_n (pc := 378) hx hb dL_law_378 rfl (lv_at hl 3 rfl) ?_
  refine lv_iconst (pc := 379) (v := 3) hx hb dL_law_379 (by decide) ?_
  refine lv_iadd (pc := 380) hx hb dL_law_380 ?_
  refine va_sld (pc := 381) hx hb hX hbl hbA hS (lw_ix hL hi6 (k := 3) (by decide)) dL_law_381 ?_
  refine lw_V (pc := 382) (rest := []) hx hb hml hown hg hnw hK hA (k_Lm_arm l (a0 := 0) ⟨by decide, rfl⟩ h1) sm_Lm_arm ml_Lw_46 im_Lm_arm se_Lm_arm gcX10 rfl ⟨by decide, rfl⟩ ⟨rfl, rfl, Nat.le_of_ble_eq_true rfl, Nat.le_of_ble_eq_true rfl⟩ ⟨Nat.le_of_ble_eq_true rfl, Nat.le_of_ble_eq_true rfl⟩ hP1 hP2 hD1 hdis hS hl.1 rfl rfl (Nat.le_of_ble_eq_true rfl) dL_law_382 [.int r] rfl (fun H locs hP1 hP2 hS => ?_)
  refine lv_aload_n (pc := 385) hx hb dL_law_385 rfl (lv_at hl 2 rfl) ?_
  refine lv_aload_n (pc := 386) hx hb dL_law_386 rfl (lv_at hl 0 rfl) ?_
  refine lv_iload_n (pc := 387) hx hb dL_law_387 rfl (lv_at hl 3 rfl) ?_
  refine lv_iconst (pc := 388) (v := 1) hx hb dL_law_388 (by decide) ?_
  refine lv_iadd (pc := 389) hx hb dL_law_389 ?_
  refine va_sld (pc := 390) hx hb hX hbl hbA hS (lw_ix hL hi6 (k := 1) (by decide)) dL_law_390 ?_
  refine lv_aload_n (pc := 391) hx hb dL_law_391 rfl (lv_at hl 0 rfl) ?_
  refine lv_iload_n (pc := 392) hx hb dL_law_392 rfl (lv_at hl 3 rfl) ?_
  refine lv_iconst (pc := 393) (v := 2) hx hb dL_law_393 (by decide) ?_
  refine lv_iadd (pc := 394) hx hb dL_law_394 ?_
  refine va_sld (pc := 395) hx hb hX hbl hbA hS (lw_ix hL hi6 (k := 2) (by decide)) dL_law_395 ?_
  refine lv_aload_n (pc := 396) hx hb dL_law_396 rfl (lv_at hl 0 rfl) ?_
  refine lv_iload_n (pc := 397) hx hb dL_law_397 rfl (lv_at hl 3 rfl) ?_
  refine lv_iconst (pc := 398) (v := 3) hx hb dL_law_398 (by decide) ?_
  refine lv_iadd (pc := 399) hx hb dL_law_399 ?_
  refine va_sld (pc := 400) hx hb hX hbl hbA hS (lw_ix hL hi6 (k := 3) (by decide)) dL_law_400 ?_
  refine lw_V (pc := 401) (rest := [.int r]) hx hb hml hown hg hnw hK hA (k_Mo_arm l (a0 := 0) ⟨by decide, rfl⟩ h2) sm_Mo_arm ml_Lw_49 im_Mo_arm se_Mo_arm gcX11 rfl ⟨by decide, rfl⟩ ⟨rfl, rfl, Nat.le_of_ble_eq_true rfl, Nat.le_of_ble_eq_true rfl⟩ ⟨Nat.le_of_ble_eq_true rfl, Nat.le_of_ble_eq_true rfl⟩ hP2 hP1 hD2 (fun i j hi hj e => hdis j i hj hi e.symm) hS hl.1 rfl rfl (Nat.le_of_ble_eq_true rfl) dL_law_401 [.int r, .int r] rfl (fun H locs hP2 hP1 hS => ?_)
  refine lv_icmp_eq (pc := 404) (tgt := 945) hx hb dL_law_404 rfl (fun _ => ?_) (fun e => absurd rfl e)
  exact ih _ _ _ _ _ _ hRel2 _ _ hP1 hP2 hS
set_option maxRecDepth 20000 in
theorem law_back {p : Program} {l : Launch} {e : Env} {s : State} {m : MethodId} {below : List Frame} {meth : Method} {c : Code} {b L : Nat} {xs : Nat → Int32} (hL : L ≤ 3072) (C0 : lw_At p s m meth c b L xs) {D : va_G} {yc : Nat → ClassId} (hK : va_K D gcl (gtys yc) s) {ad1 ad2 : Nat → Nat} (hD1 : gin (fun q => s.heap.size ≤ q) ad1 nC) (hD2 : gin (fun q => s.heap.size ≤ q) ad2 nM) (hdis : ∀ i j, i < nC → j < nM → ad1 i ≠ ad2 j) {Rel : HI → HJ → HN → HI → HJ → HN → Prop} (hok : ok_back Rel) {i : Nat} (hi6 : i + 6 ≤ L) {I I2 : HI} {J J2 : HJ} {N N2 : HN} (hRel : Rel I J N I2 J2 N2) {H : Heap} {locs : List Loc} {ls : Array Slot} (hP1 : va_P D gcl (gwd Tc yc ad1 nC I J N) H) (hP2 : va_P D gcl (gwd Tm yc ad2 nM I2 J2 N2) H) (hS : va_S (fun q => s.heap.size ≤ q) s.heap H locs) (hl : lv_has ls 4 [(0, .ref b), (1, .ref (ad1 0)), (2, .ref (ad2 0)), (3, .int (nI i))]) (ih : ∀ (I I2 : HI) (J J2 : HJ) (N N2 : HN), Rel I J N I2 J2 N2 → ∀ (H : Heap) (locs : List Loc), va_P D gcl (gwd Tc yc ad1 nC I J N) H → va_P D gcl (gwd Tm yc ad2 nM I2 J2 N2) H → va_S (fun q => s.heap.size ≤ q) s.heap H locs → W p l e room_1 s m #[Value.ref b] below meth c H locs 118 1437 (lw_Z below #[Value.ref b] s) (F0 m 945 ls [])) : W p l e room_1 s m #[Value.ref b] below meth c H locs 118 1437 (lw_Z below #[Value.ref b] s) (F0 m 409 ls []) := by
  obtain ⟨hx, hb, hr, hml, hown, hts, hX, hbl, hlocks, hgv⟩ := id C0
  have hg := lw_hg C0
  have hnw := lw_nw C0
  have hA : ∀ q : Nat, s.heap.size ≤ q → (fun q : Nat => s.heap.size ≤ q) q := fun _ h => h
  have hbA : ¬ (fun q : Nat => s.heap.size ≤ q) b := Nat.not_le.mpr hbl
  obtain ⟨I9, J9, N9, I29, r, h1, h2, hRel2⟩ := hok I J N I2 J2 N2 hRel
  refine lv_aload_n (pc := 409) hx hb dL_law_409 rfl (lv_at hl 1 rfl) ?_
  refine lw_V (pc := 410) (rest := []) hx hb hml hown hg hnw hK hA (k_Lm_back l (a0 := 0) ⟨by decide, rfl⟩ h1) sm_Lm_back ml_Lw_50 im_Lm_back se_Lm_back gcX10 rfl ⟨by decide, rfl⟩ ⟨rfl, rfl, Nat.le_of_ble_eq_true rfl, Nat.le_of_ble_eq_true rfl⟩ ⟨Nat.le_of_ble_eq_true rfl, Nat.le_of_ble_eq_true rfl⟩ hP1 hP2 hD1 hdis hS hl.1 rfl rfl (Nat.le_of_ble_eq_true rfl) dL_law_410 [.int r] rfl (fun H locs hP1 hP2 hS => ?_)
  refine lv_aload_n (pc := 413) hx hb dL_law_413 rfl (lv_at hl 2 rfl) ?_
  refine lw_V (pc := 414) (rest := [.int r]) hx hb hml hown hg hnw hK hA (k_Mo_back l (a0 := 0) ⟨by decide, rfl⟩ h2) sm_Mo_back ml_Lw_53 im_Mo_back se_Mo_back gcX11 rfl ⟨by decide, rfl⟩ ⟨rfl, rfl, Nat.le_of_ble_eq_true rfl, Nat.le_of_ble_eq_true rfl⟩ ⟨Nat.le_of_ble_eq_true rfl, Nat.le_of_ble_eq_true rfl⟩ hP2 hP1 hD2 (fun i j hi hj e => hdis j i hj hi e.symm) hS hl.1 rfl rfl (Nat.le_of_ble_eq_true rfl) dL_law_414 [.int r, .int r] rfl (fun H locs hP2 hP1 hS => ?_)
  refine lv_icmp_eq (pc := 417) (tgt := 945) hx hb dL_law_417 rfl (fun _ => ?_) (fun e => absurd rfl e)
  exact ih _ _ _ _ _ _ hRel2 _ _ hP1 hP2 hS
set_option maxRecDepth 20000 in
theorem law_unfold {p : Program} {l : Launch} {e : Env} {s : State} {m : MethodId} {below : List Frame} {meth : Method} {c : Code} {b L : Nat} {xs : Nat → Int32} (hL : L ≤ 3072) (C0 : lw_At p s m meth c b L xs) {D : va_G} {yc : Nat → ClassId} (hK : va_K D gcl (gtys yc) s) {ad1 ad2 : Nat → Nat} (hD1 : gin (fun q => s.heap.size ≤ q) ad1 nC) (hD2 : gin (fun q => s.heap.size ≤ q) ad2 nM) (hdis : ∀ i j, i < nC → j < nM → ad1 i ≠ ad2 j) {Rel : HI → HJ → HN → HI → HJ → HN → Prop} (hok : ok_unfold Rel) {i : Nat} (hi6 : i + 6 ≤ L) {I I2 : HI} {J J2 : HJ} {N N2 : HN} (hRel : Rel I J N I2 J2 N2) {H : Heap} {locs : List Loc} {ls : Array Slot} (hP1 : va_P D gcl (gwd Tc yc ad1 nC I J N) H) (hP2 : va_P D gcl (gwd Tm yc ad2 nM I2 J2 N2) H) (hS : va_S (fun q => s.heap.size ≤ q) s.heap H locs) (hl : lv_has ls 4 [(0, .ref b), (1, .ref (ad1 0)), (2, .ref (ad2 0)), (3, .int (nI i))]) (ih : ∀ (I I2 : HI) (J J2 : HJ) (N N2 : HN), Rel I J N I2 J2 N2 → ∀ (H : Heap) (locs : List Loc), va_P D gcl (gwd Tc yc ad1 nC I J N) H → va_P D gcl (gwd Tm yc ad2 nM I2 J2 N2) H → va_S (fun q => s.heap.size ≤ q) s.heap H locs → W p l e room_1 s m #[Value.ref b] below meth c H locs 118 1437 (lw_Z below #[Value.ref b] s) (F0 m 945 ls [])) : W p l e room_1 s m #[Value.ref b] below meth c H locs 118 1437 (lw_Z below #[Value.ref b] s) (F0 m 422 ls []) := by
  obtain ⟨hx, hb, hr, hml, hown, hts, hX, hbl, hlocks, hgv⟩ := id C0
  have hg := lw_hg C0
  have hnw := lw_nw C0
  have hA : ∀ q : Nat, s.heap.size ≤ q → (fun q : Nat => s.heap.size ≤ q) q := fun _ h => h
  have hbA : ¬ (fun q : Nat => s.heap.size ≤ q) b := Nat.not_le.mpr hbl
  obtain ⟨I9, J9, N9, I29, J29, r, h1, h2, hRel2⟩ := hok I J N I2 J2 N2 hRel (xs (nI i + 1).toNatClampNeg)
  refine lv_aload_n (pc := 422) hx hb dL_law_422 rfl (lv_at hl 1 rfl) ?_
  refine lv_aload_n (pc := 423) hx hb dL_law_423 rfl (lv_at hl 0 rfl) ?_
  refine lv_iload_n (pc := 424) hx hb dL_law_424 rfl (lv_at hl 3 rfl) ?_
  refine lv_iconst (pc := 425) (v := 1) hx hb dL_law_425 (by decide) ?_
  refine lv_iadd (pc := 426) hx hb dL_law_426 ?_
  refine va_sld (pc := 427) hx hb hX hbl hbA hS (lw_ix hL hi6 (k := 1) (by decide)) dL_law_427 ?_
  refine lw_V (pc := 428) (rest := []) hx hb hml hown hg hnw hK hA (k_Lm_unfold l (a0 := 0) ⟨by decide, rfl⟩ h1) sm_Lm_unfold ml_Lw_54 im_Lm_unfold se_Lm_unfold gcX10 rfl ⟨by decide, rfl⟩ ⟨rfl, rfl, Nat.le_of_ble_eq_true rfl, Nat.le_of_ble_eq_true rfl⟩ ⟨Nat.le_of_ble_eq_true rfl, Nat.le_of_ble_eq_true rfl⟩ hP1 hP2 hD1 hdis hS hl.1 rfl rfl (Nat.le_of_ble_eq_true rfl) dL_law_428 [.int r] rfl (fun H locs hP1 hP2 hS => ?_)
  refine lv_aload_n (pc := 431) hx hb dL_law_431 rfl (lv_at hl 2 rfl) ?_
  refine lv_aload_n (pc := 432) hx hb dL_law_432 rfl (lv_at hl 0 rfl) ?_
  refine lv_iload_n (pc := 433) hx hb dL_law_433 rfl (lv_at hl 3 rfl) ?_
  refine lv_iconst (pc := 434) (v := 1) hx hb dL_law_434 (by decide) ?_
  refine lv_iadd (pc := 435) hx hb dL_law_435 ?_
  refine va_sld (pc := 436) hx hb hX hbl hbA hS (lw_ix hL hi6 (k := 1) (by decide)) dL_law_436 ?_
  refine lw_V (pc := 437) (rest := [.int r]) hx hb hml hown hg hnw hK hA (k_Mo_unfold l (a0 := 0) ⟨by decide, rfl⟩ h2) sm_Mo_unfold ml_Lw_57 im_Mo_unfold se_Mo_unfold gcX11 rfl ⟨by decide, rfl⟩ ⟨rfl, rfl, Nat.le_of_ble_eq_true rfl, Nat.le_of_ble_eq_true rfl⟩ ⟨Nat.le_of_ble_eq_true rfl, Nat.le_of_ble_eq_true rfl⟩ hP2 hP1 hD2 (fun i j hi hj e => hdis j i hj hi e.symm) hS hl.1 rfl rfl (Nat.le_of_ble_eq_true rfl) dL_law_437 [.int r, .int r] rfl (fun H locs hP2 hP1 hS => ?_)
  refine lv_icmp_eq (pc := 440) (tgt := 945) hx hb dL_law_440 rfl (fun _ => ?_) (fun e => absurd rfl e)
  exact ih _ _ _ _ _ _ hRel2 _ _ hP1 hP2 hS
set_option maxRecDepth 20000 in
theorem law_would {p : Program} {l : Launch} {e : Env} {s : State} {m : MethodId} {below : List Frame} {meth : Method} {c : Code} {b L : Nat} {xs : Nat → Int32} (hL : L ≤ 3072) (C0 : lw_At p s m meth c b L xs) {D : va_G} {yc : Nat → ClassId} (hK : va_K D gcl (gtys yc) s) {ad1 ad2 : Nat → Nat} (hD1 : gin (fun q => s.heap.size ≤ q) ad1 nC) (hD2 : gin (fun q => s.heap.size ≤ q) ad2 nM) (hdis : ∀ i j, i < nC → j < nM → ad1 i ≠ ad2 j) {Rel : HI → HJ → HN → HI → HJ → HN → Prop} (hok : ok_would Rel) {i : Nat} (hi6 : i + 6 ≤ L) {I I2 : HI} {J J2 : HJ} {N N2 : HN} (hRel : Rel I J N I2 J2 N2) {H : Heap} {locs : List Loc} {ls : Array Slot} (hP1 : va_P D gcl (gwd Tc yc ad1 nC I J N) H) (hP2 : va_P D gcl (gwd Tm yc ad2 nM I2 J2 N2) H) (hS : va_S (fun q => s.heap.size ≤ q) s.heap H locs) (hl : lv_has ls 4 [(0, .ref b), (1, .ref (ad1 0)), (2, .ref (ad2 0)), (3, .int (nI i))]) (ih : ∀ (I I2 : HI) (J J2 : HJ) (N N2 : HN), Rel I J N I2 J2 N2 → ∀ (H : Heap) (locs : List Loc), va_P D gcl (gwd Tc yc ad1 nC I J N) H → va_P D gcl (gwd Tm yc ad2 nM I2 J2 N2) H → va_S (fun q => s.heap.size ≤ q) s.heap H locs → W p l e room_1 s m #[Value.ref b] below meth c H locs 118 1437 (lw_Z below #[Value.ref b] s) (F0 m 945 ls [])) : W p l e room_1 s m #[Value.ref b] below meth c H locs 118 1437 (lw_Z below #[Value.ref b] s) (F0 m 445 ls []) := by
  obtain ⟨hx, hb, hr, hml, hown, hts, hX, hbl, hlocks, hgv⟩ := id C0
  have hg := lw_hg C0
  have hnw := lw_nw C0
  have hA : ∀ q : Nat, s.heap.size ≤ q → (fun q : Nat => s.heap.size ≤ q) q := fun _ h => h
  have hbA : ¬ (fun q : Nat => s.heap.size ≤ q) b := Nat.not_le.mpr hbl
  obtain ⟨I9, J9, N9, I29, J29, r, h1, h2, hRel2⟩ := hok I J N I2 J2 N2 hRel (xs (nI i + 1).toNatClampNeg)
  refine lv_aload_n (pc := 445) hx hb dL_law_445 rfl (lv_at hl 1 rfl) ?_
  refine lv_aload_n (pc := 446) hx hb dL_law_446 rfl (lv_at hl 0 rfl) ?_
  refine lv_iload_n (pc := 447) hx hb dL_law_447 rfl (lv_at hl 3 rfl) ?_
  refine lv_iconst (pc := 448) (v := 1) hx hb dL_law_448 (by decide) ?_
  refine lv_iadd (pc := 449) hx hb dL_law_449 ?_
  refine va_sld (pc := 450) hx hb hX hbl hbA hS (lw_ix hL hi6 (k := 1) (by decide)) dL_law_450 ?_
  refine lw_V (pc := 451) (rest := []) hx hb hml hown hg hnw hK hA (k_Lm_would l (a0 := 0) ⟨by decide, rfl⟩ h1) sm_Lm_would ml_Lw_58 im_Lm_would se_Lm_would gcX10 rfl ⟨by decide, rfl⟩ ⟨rfl, rfl, Nat.le_of_ble_eq_true rfl, Nat.le_of_ble_eq_true rfl⟩ ⟨Nat.le_of_ble_eq_true rfl, Nat.le_of_ble_eq_true rfl⟩ hP1 hP2 hD1 hdis hS hl.1 rfl rfl (Nat.le_of_ble_eq_true rfl) dL_law_451 [.int r] rfl (fun H locs hP1 hP2 hS => ?_)
  refine lv_aload_n (pc := 454) hx hb dL_law_454 rfl (lv_at hl 2 rfl) ?_
  refine lv_aload_n (pc := 455) hx hb dL_law_455 rfl (lv_at hl 0 rfl) ?_
  refine lv_iload_n (pc := 456) hx hb dL_law_456 rfl (lv_at hl 3 rfl) ?_
  refine lv_iconst (pc := 457) (v := 1) hx hb dL_law_457 (by decide) ?_
  refine lv_iadd (pc := 458) hx hb dL_law_458 ?_
  refine va_sld (pc := 459) hx hb hX hbl hbA hS (lw_ix hL hi6 (k := 1) (by decide)) dL_law_459 ?_
  refine lw_V (pc := 460) (rest := [.int r]) hx hb hml hown hg hnw hK hA (k_Mo_would l (a0 := 0) ⟨by decide, rfl⟩ h2) sm_Mo_would ml_Lw_61 im_Mo_would se_Mo_would gcX11 rfl ⟨by decide, rfl⟩ ⟨rfl, rfl, Nat.le_of_ble_eq_true rfl, Nat.le_of_ble_eq_true rfl⟩ ⟨Nat.le_of_ble_eq_true rfl, Nat.le_of_ble_eq_true rfl⟩ hP2 hP1 hD2 (fun i j hi hj e => hdis j i hj hi e.symm) hS hl.1 rfl rfl (Nat.le_of_ble_eq_true rfl) dL_law_460 [.int r, .int r] rfl (fun H locs hP2 hP1 hS => ?_)
  refine lv_icmp_eq (pc := 463) (tgt := 945) hx hb dL_law_463 rfl (fun _ => ?_) (fun e => absurd rfl e)
  exact ih _ _ _ _ _ _ hRel2 _ _ hP1 hP2 hS
set_option maxRecDepth 20000 in
theorem law_element {p : Program} {l : Launch} {e : Env} {s : State} {m : MethodId} {below : List Frame} {meth : Method} {c : Code} {b L : Nat} {xs : Nat → Int32} (hL : L ≤ 3072) (C0 : lw_At p s m meth c b L xs) {D : va_G} {yc : Nat → ClassId} (hK : va_K D gcl (gtys yc) s) {ad1 ad2 : Nat → Nat} (hD1 : gin (fun q => s.heap.size ≤ q) ad1 nC) (hD2 : gin (fun q => s.heap.size ≤ q) ad2 nM) (hdis : ∀ i j, i < nC → j < nM → ad1 i ≠ ad2 j) {Rel : HI → HJ → HN → HI → HJ → HN → Prop} (hok : ok_element Rel) {i : Nat} (hi6 : i + 6 ≤ L) {I I2 : HI} {J J2 : HJ} {N N2 : HN} (hRel : Rel I J N I2 J2 N2) {H : Heap} {locs : List Loc} {ls : Array Slot} (hP1 : va_P D gcl (gwd Tc yc ad1 nC I J N) H) (hP2 : va_P D gcl (gwd Tm yc ad2 nM I2 J2 N2) H) (hS : va_S (fun q => s.heap.size ≤ q) s.heap H locs) (hl : lv_has ls 4 [(0, .ref b), (1, .ref (ad1 0)), (2, .ref (ad2 0)), (3, .int (nI i))]) (ih : ∀ (I I2 : HI) (J J2 : HJ) (N N2 : HN), Rel I J N I2 J2 N2 → ∀ (H : Heap) (locs : List Loc), va_P D gcl (gwd Tc yc ad1 nC I J N) H → va_P D gcl (gwd Tm yc ad2 nM I2 J2 N2) H → va_S (fun q => s.heap.size ≤ q) s.heap H locs → W p l e room_1 s m #[Value.ref b] below meth c H locs 118 1437 (lw_Z below #[Value.ref b] s) (F0 m 945 ls [])) : W p l e room_1 s m #[Value.ref b] below meth c H locs 118 1437 (lw_Z below #[Value.ref b] s) (F0 m 468 ls []) := by
  obtain ⟨hx, hb, hr, hml, hown, hts, hX, hbl, hlocks, hgv⟩ := id C0
  have hg := lw_hg C0
  have hnw := lw_nw C0
  have hA : ∀ q : Nat, s.heap.size ≤ q → (fun q : Nat => s.heap.size ≤ q) q := fun _ h => h
  have hbA : ¬ (fun q : Nat => s.heap.size ≤ q) b := Nat.not_le.mpr hbl
  obtain ⟨r, h1, h2, hRel2⟩ := hok I J N I2 J2 N2 hRel (xs (nI i + 1).toNatClampNeg) (xs (nI i + 2).toNatClampNeg)
  refine lv_aload_n (pc := 468) hx hb dL_law_468 rfl (lv_at hl 1 rfl) ?_
  refine lv_aload_n (pc := 469) hx hb dL_law_469 rfl (lv_at hl 0 rfl) ?_
  refine lv_iload_n (pc := 470) hx hb dL_law_470 rfl (lv_at hl 3 rfl) ?_
  refine lv_iconst (pc := 471) (v := 1) hx hb dL_law_471 (by decide) ?_
  refine lv_iadd (pc := 472) hx hb dL_law_472 ?_
  refine va_sld (pc := 473) hx hb hX hbl hbA hS (lw_ix hL hi6 (k := 1) (by decide)) dL_law_473 ?_
  refine lv_aload_n (pc := 474) hx hb dL_law_474 rfl (lv_at hl 0 rfl) ?_
  refine lv_iload_n (pc := 475) hx hb dL_law_475 rfl (lv_at hl 3 rfl) ?_
  refine lv_iconst (pc := 476) (v := 2) hx hb dL_law_476 (by decide) ?_
  refine lv_iadd (pc := 477) hx hb dL_law_477 ?_
  refine va_sld (pc := 478) hx hb hX hbl hbA hS (lw_ix hL hi6 (k := 2) (by decide)) dL_law_478 ?_
  refine lw_V (pc := 479) (rest := []) hx hb hml hown hg hnw hK hA (k_Lm_element l (a0 := 0) ⟨by decide, rfl⟩ h1) sm_Lm_element ml_Lw_62 im_Lm_element se_Lm_element gcX10 rfl ⟨by decide, rfl⟩ ⟨rfl, rfl, Nat.le_of_ble_eq_true rfl, Nat.le_of_ble_eq_true rfl⟩ ⟨Nat.le_of_ble_eq_true rfl, Nat.le_of_ble_eq_true rfl⟩ hP1 hP2 hD1 hdis hS hl.1 rfl rfl (Nat.le_of_ble_eq_true rfl) dL_law_479 [.int r] rfl (fun H locs hP1 hP2 hS => ?_)
  refine lv_aload_n (pc := 482) hx hb dL_law_482 rfl (lv_at hl 2 rfl) ?_
  refine lv_aload_n (pc := 483) hx hb dL_law_483 rfl (lv_at hl 0 rfl) ?_
  refine lv_iload_n (pc := 484) hx hb dL_law_484 rfl (lv_at hl 3 rfl) ?_
  refine lv_iconst (pc := 485) (v := 1) hx hb dL_law_485 (by decide) ?_
  refine lv_iadd (pc := 486) hx hb dL_law_486 ?_
  refine va_sld (pc := 487) hx hb hX hbl hbA hS (lw_ix hL hi6 (k := 1) (by decide)) dL_law_487 ?_
  refine lv_aload_n (pc := 488) hx hb dL_law_488 rfl (lv_at hl 0 rfl) ?_
  refine lv_iload_n (pc := 489) hx hb dL_law_489 rfl (lv_at hl 3 rfl) ?_
  refine lv_iconst (pc := 490) (v := 2) hx hb dL_law_490 (by decide) ?_
  refine lv_iadd (pc := 491) hx hb dL_law_491 ?_
  refine va_sld (pc := 492) hx hb hX hbl hbA hS (lw_ix hL hi6 (k := 2) (by decide)) dL_law_492 ?_
  refine lw_V (pc := 493) (rest := [.int r]) hx hb hml hown hg hnw hK hA (k_Mo_element l (a0 := 0) ⟨by decide, rfl⟩ h2) sm_Mo_element ml_Lw_65 im_Mo_element se_Mo_element gcX11 rfl ⟨by decide, rfl⟩ ⟨rfl, rfl, Nat.le_of_ble_eq_true rfl, Nat.le_of_ble_eq_true rfl⟩ ⟨Nat.le_of_ble_eq_true rfl, Nat.le_of_ble_eq_true rfl⟩ hP2 hP1 hD2 (fun i j hi hj e => hdis j i hj hi e.symm) hS hl.1 rfl rfl (Nat.le_of_ble_eq_true rfl) dL_law_493 [.int r, .int r] rfl (fun H locs hP2 hP1 hS => ?_)
  refine lv_icmp_eq (pc := 496) (tgt := 945) hx hb dL_law_496 rfl (fun _ => ?_) (fun e => absurd rfl e)
  exact ih _ _ _ _ _ _ hRel2 _ _ hP1 hP2 hS
set_option maxRecDepth 20000 in
theorem law_fold {p : Program} {l : Launch} {e : Env} {s : State} {m : MethodId} {below : List Frame} {meth : Method} {c : Code} {b L : Nat} {xs : Nat → Int32} (hL : L ≤ 3072) (C0 : lw_At p s m meth c b L xs) {D : va_G} {yc : Nat → ClassId} (hK : va_K D gcl (gtys yc) s) {ad1 ad2 : Nat → Nat} (hD1 : gin (fun q => s.heap.size ≤ q) ad1 nC) (hD2 : gin (fun q => s.heap.size ≤ q) ad2 nM) (hdis : ∀ i j, i < nC → j < nM → ad1 i ≠ ad2 j) {Rel : HI → HJ → HN → HI → HJ → HN → Prop} (hok : ok_fold Rel) {i : Nat} (hi6 : i + 6 ≤ L) {I I2 : HI} {J J2 : HJ} {N N2 : HN} (hRel : Rel I J N I2 J2 N2) {H : Heap} {locs : List Loc} {ls : Array Slot} (hP1 : va_P D gcl (gwd Tc yc ad1 nC I J N) H) (hP2 : va_P D gcl (gwd Tm yc ad2 nM I2 J2 N2) H) (hS : va_S (fun q => s.heap.size ≤ q) s.heap H locs) (hl : lv_has ls 4 [(0, .ref b), (1, .ref (ad1 0)), (2, .ref (ad2 0)), (3, .int (nI i))]) (ih : ∀ (I I2 : HI) (J J2 : HJ) (N N2 : HN), Rel I J N I2 J2 N2 → ∀ (H : Heap) (locs : List Loc), va_P D gcl (gwd Tc yc ad1 nC I J N) H → va_P D gcl (gwd Tm yc ad2 nM I2 J2 N2) H → va_S (fun q => s.heap.size ≤ q) s.heap H locs → W p l e room_1 s m #[Value.ref b] below meth c H locs 118 1437 (lw_Z below #[Value.ref b] s) (F0 m 945 ls [])) : W p l e room_1 s m #[Value.ref b] below meth c H locs 118 1437 (lw_Z below #[Value.ref b] s) (F0 m 501 ls []) := by
  obtain ⟨hx, hb, hr, hml, hown, hts, hX, hbl, hlocks, hgv⟩ := id C0
  have hg := lw_hg C0
  have hnw := lw_nw C0
  have hA : ∀ q : Nat, s.heap.size ≤ q → (fun q : Nat => s.heap.size ≤ q) q := fun _ h => h
  have hbA : ¬ (fun q : Nat => s.heap.size ≤ q) b := Nat.not_le.mpr hbl
  obtain ⟨J29, r, h1, h2, hRel2⟩ := hok I J N I2 J2 N2 hRel (xs (nI i + 1).toNatClampNeg) (xs (nI i + 2).toNatClampNeg)
  refine lv_aload_n (pc := 501) hx hb dL_law_501 rfl (lv_at hl 1 rfl) ?_
  refine lv_aload_n (pc := 502) hx hb dL_law_502 rfl (lv_at hl 0 rfl) ?_
  refine lv_iload_n (pc := 503) hx hb dL_law_503 rfl (lv_at hl 3 rfl) ?_
  refine lv_iconst (pc := 504) (v := 1) hx hb dL_law_504 (by decide) ?_
  refine lv_iadd (pc := 505) hx hb dL_law_505 ?_
  refine va_sld (pc := 506) hx hb hX hbl hbA hS (lw_ix hL hi6 (k := 1) (by decide)) dL_law_506 ?_
  refine lv_aload_n (pc := 507) hx hb dL_law_507 rfl (lv_at hl 0 rfl) ?_
  refine lv_iload_n (pc := 508) hx hb dL_law_508 rfl (lv_at hl 3 rfl) ?_
  refine lv_iconst (pc := 509) (v := 2) hx hb dL_law_509 (by decide) ?_
  refine lv_iadd (pc := 510) hx hb dL_law_510 ?_
  refine va_sld (pc := 511) hx hb hX hbl hbA hS (lw_ix hL hi6 (k := 2) (by decide)) dL_law_511 ?_
  refine lw_V (pc := 512) (rest := []) hx hb hml hown hg hnw hK hA (k_Lm_fold l (a0 := 0) ⟨by decide, rfl⟩ h1) sm_Lm_fold ml_Lw_66 im_Lm_fold se_Lm_fold gcX10 rfl ⟨by decide, rfl⟩ ⟨rfl, rfl, Nat.le_of_ble_eq_true rfl, Nat.le_of_ble_eq_true rfl⟩ ⟨Nat.le_of_ble_eq_true rfl, Nat.le_of_ble_eq_true rfl⟩ hP1 hP2 hD1 hdis hS hl.1 rfl rfl (Nat.le_of_ble_eq_true rfl) dL_law_512 [.long r] rfl (fun H locs hP1 hP2 hS => ?_)
  refine lv_aload_n (pc := 515) hx hb dL_law_515 rfl (lv_at hl 2 rfl) ?_
  refine lv_aload_n (pc := 516) hx hb dL_law_516 rfl (lv_at hl 0 rfl) ?_
  refine lv_iload_n (pc := 517) hx hb dL_law_517 rfl (lv_at hl 3 rfl) ?_
  refine lv_iconst (pc := 518) (v := 1) hx hb dL_law_518 (by decide) ?_
  refine lv_iadd (pc := 519) hx hb dL_law_519 ?_
  refine va_sld (pc := 520) hx hb hX hbl hbA hS (lw_ix hL hi6 (k := 1) (by decide)) dL_law_520 ?_
  refine lv_aload_n (pc := 521) hx hb dL_law_521 rfl (lv_at hl 0 rfl) ?_
  refine lv_iload_n (pc := 522) hx hb dL_law_522 rfl (lv_at hl 3 rfl) ?_
  refine lv_iconst (pc := 523) (v := 2) hx hb dL_law_523 (by decide) ?_
  refine lv_iadd (pc := 524) hx hb dL_law_524 ?_
  refine va_sld (pc := 525) hx hb hX hbl hbA hS (lw_ix hL hi6 (k := 2) (by decide)) dL_law_525 ?_
  refine lw_V (pc := 526) (rest := [.long r]) hx hb hml hown hg hnw hK hA (k_Mo_fold l (a0 := 0) ⟨by decide, rfl⟩ h2) sm_Mo_fold ml_Lw_70 im_Mo_fold se_Mo_fold gcX11 rfl ⟨by decide, rfl⟩ ⟨rfl, rfl, Nat.le_of_ble_eq_true rfl, Nat.le_of_ble_eq_true rfl⟩ ⟨Nat.le_of_ble_eq_true rfl, Nat.le_of_ble_eq_true rfl⟩ hP2 hP1 hD2 (fun i j hi hj e => hdis j i hj hi e.symm) hS hl.1 rfl rfl (Nat.le_of_ble_eq_true rfl) dL_law_526 [.long r, .long r] rfl (fun H locs hP2 hP1 hS => ?_)
  refine W.lcmp (pc := 529) hx hb dL_law_529 ?_
  refine lv_if_eq (pc := 530) (tgt := 945) hx hb dL_law_530 rfl (fun _ => ?_) (fun e => absurd ((lg_cmp_eq _ _).mpr rfl) e)
  exact ih _ _ _ _ _ _ hRel2 _ _ hP1 hP2 hS
set_option maxRecDepth 20000 in
theorem law_alike {p : Program} {l : Launch} {e : Env} {s : State} {m : MethodId} {below : List Frame} {meth : Method} {c : Code} {b L : Nat} {xs : Nat → Int32} (hL : L ≤ 3072) (C0 : lw_At p s m meth c b L xs) {D : va_G} {yc : Nat → ClassId} (hK : va_K D gcl (gtys yc) s) {ad1 ad2 : Nat → Nat} (hD1 : gin (fun q => s.heap.size ≤ q) ad1 nC) (hD2 : gin (fun q => s.heap.size ≤ q) ad2 nM) (hdis : ∀ i j, i < nC → j < nM → ad1 i ≠ ad2 j) {Rel : HI → HJ → HN → HI → HJ → HN → Prop} (hok : ok_alike Rel) {i : Nat} (hi6 : i + 6 ≤ L) {I I2 : HI} {J J2 : HJ} {N N2 : HN} (hRel : Rel I J N I2 J2 N2) {H : Heap} {locs : List Loc} {ls : Array Slot} (hP1 : va_P D gcl (gwd Tc yc ad1 nC I J N) H) (hP2 : va_P D gcl (gwd Tm yc ad2 nM I2 J2 N2) H) (hS : va_S (fun q => s.heap.size ≤ q) s.heap H locs) (hl : lv_has ls 4 [(0, .ref b), (1, .ref (ad1 0)), (2, .ref (ad2 0)), (3, .int (nI i))]) (ih : ∀ (I I2 : HI) (J J2 : HJ) (N N2 : HN), Rel I J N I2 J2 N2 → ∀ (H : Heap) (locs : List Loc), va_P D gcl (gwd Tc yc ad1 nC I J N) H → va_P D gcl (gwd Tm yc ad2 nM I2 J2 N2) H → va_S (fun q => s.heap.size ≤ q) s.heap H locs → W p l e room_1 s m #[Value.ref b] below meth c H locs 118 1437 (lw_Z below #[Value.ref b] s) (F0 m 945 ls [])) : W p l e room_1 s m #[Value.ref b] below meth c H locs 118 1437 (lw_Z below #[Value.ref b] s) (F0 m 535 ls []) := by
  obtain ⟨hx, hb, hr, hml, hown, hts, hX, hbl, hlocks, hgv⟩ := id C0
  have hg := lw_hg C0
  have hnw := lw_nw C0
  have hA : ∀ q : Nat, s.heap.size ≤ q → (fun q : Nat => s.heap.size ≤ q) q := fun _ h => h
  have hbA : ¬ (fun q : Nat => s.heap.size ≤ q) b := Nat.not_le.mpr hbl
  obtain ⟨J29, r, h1, h2, hRel2⟩ := hok I J N I2 J2 N2 hRel
  refine lv_aload_n (pc := 535) hx hb dL_law_535 rfl (lv_at hl 1 rfl) ?_
  refine lw_V (pc := 536) (rest := []) hx hb hml hown hg hnw hK hA (k_Lm_alike l (a0 := 0) ⟨by decide, rfl⟩ h1) sm_Lm_alike ml_Lw_71 im_Lm_alike se_Lm_alike gcX10 rfl ⟨by decide, rfl⟩ ⟨rfl, rfl, Nat.le_of_ble_eq_true rfl, Nat.le_of_ble_eq_true rfl⟩ ⟨Nat.le_of_ble_eq_true rfl, Nat.le_of_ble_eq_true rfl⟩ hP1 hP2 hD1 hdis hS hl.1 rfl rfl (Nat.le_of_ble_eq_true rfl) dL_law_536 [.int r] rfl (fun H locs hP1 hP2 hS => ?_)
  refine lv_aload_n (pc := 539) hx hb dL_law_539 rfl (lv_at hl 2 rfl) ?_
  refine lw_V (pc := 540) (rest := [.int r]) hx hb hml hown hg hnw hK hA (k_Mo_alike l (a0 := 0) ⟨by decide, rfl⟩ h2) sm_Mo_alike ml_Lw_74 im_Mo_alike se_Mo_alike gcX11 rfl ⟨by decide, rfl⟩ ⟨rfl, rfl, Nat.le_of_ble_eq_true rfl, Nat.le_of_ble_eq_true rfl⟩ ⟨Nat.le_of_ble_eq_true rfl, Nat.le_of_ble_eq_true rfl⟩ hP2 hP1 hD2 (fun i j hi hj e => hdis j i hj hi e.symm) hS hl.1 rfl rfl (Nat.le_of_ble_eq_true rfl) dL_law_540 [.int r, .int r] rfl (fun H locs hP2 hP1 hS => ?_)
  refine lv_icmp_eq (pc := 543) (tgt := 945) hx hb dL_law_543 rfl (fun _ => ?_) (fun e => absurd rfl e)
  exact ih _ _ _ _ _ _ hRel2 _ _ hP1 hP2 hS
set_option maxRecDepth 20000 in
theorem law_take {p : Program} {l : Launch} {e : Env} {s : State} {m : MethodId} {below : List Frame} {meth : Method} {c : Code} {b L : Nat} {xs : Nat → Int32} (hL : L ≤ 3072) (C0 : lw_At p s m meth c b L xs) {D : va_G} {yc : Nat → ClassId} (hK : va_K D gcl (gtys yc) s) {ad1 ad2 : Nat → Nat} (hD1 : gin (fun q => s.heap.size ≤ q) ad1 nC) (hD2 : gin (fun q => s.heap.size ≤ q) ad2 nM) (hdis : ∀ i j, i < nC → j < nM → ad1 i ≠ ad2 j) {Rel : HI → HJ → HN → HI → HJ → HN → Prop} (hok : ok_take Rel) {i : Nat} (hi6 : i + 6 ≤ L) {I I2 : HI} {J J2 : HJ} {N N2 : HN} (hRel : Rel I J N I2 J2 N2) {H : Heap} {locs : List Loc} {ls : Array Slot} (hP1 : va_P D gcl (gwd Tc yc ad1 nC I J N) H) (hP2 : va_P D gcl (gwd Tm yc ad2 nM I2 J2 N2) H) (hS : va_S (fun q => s.heap.size ≤ q) s.heap H locs) (hl : lv_has ls 4 [(0, .ref b), (1, .ref (ad1 0)), (2, .ref (ad2 0)), (3, .int (nI i))]) (ih : ∀ (I I2 : HI) (J J2 : HJ) (N N2 : HN), Rel I J N I2 J2 N2 → ∀ (H : Heap) (locs : List Loc), va_P D gcl (gwd Tc yc ad1 nC I J N) H → va_P D gcl (gwd Tm yc ad2 nM I2 J2 N2) H → va_S (fun q => s.heap.size ≤ q) s.heap H locs → W p l e room_1 s m #[Value.ref b] below meth c H locs 118 1437 (lw_Z below #[Value.ref b] s) (F0 m 945 ls [])) : W p l e room_1 s m #[Value.ref b] below meth c H locs 118 1437 (lw_Z below #[Value.ref b] s) (F0 m 548 ls []) := by
  obtain ⟨hx, hb, hr, hml, hown, hts, hX, hbl, hlocks, hgv⟩ := id C0
  have hg := lw_hg C0
  have hnw := lw_nw C0
  have hA : ∀ q : Nat, s.heap.size ≤ q → (fun q : Nat => s.heap.size ≤ q) q := fun _ h => h
  have hbA : ¬ (fun q : Nat => s.heap.size ≤ q) b := Nat.not_le.mpr hbl
  obtain ⟨J9, I29, J29, r, h1, h2, hRel2⟩ := hok I J N I2 J2 N2 hRel
  refine lv_aload_n (pc := 548) hx hb dL_law_548 rfl (lv_at hl 1 rfl) ?_
  refine lw_V (pc := 549) (rest := []) hx hb hml hown hg hnw hK hA (k_Lm_take l (a0 := 0) ⟨by decide, rfl⟩ h1) sm_Lm_take ml_Lw_75 im_Lm_take se_Lm_take gcX10 rfl ⟨by decide, rfl⟩ ⟨rfl, rfl, Nat.le_of_ble_eq_true rfl, Nat.le_of_ble_eq_true rfl⟩ ⟨Nat.le_of_ble_eq_true rfl, Nat.le_of_ble_eq_true rfl⟩ hP1 hP2 hD1 hdis hS hl.1 rfl rfl (Nat.le_of_ble_eq_true rfl) dL_law_549 [.int r] rfl (fun H locs hP1 hP2 hS => ?_)
  refine lv_aload_n (pc := 552) hx hb dL_law_552 rfl (lv_at hl 2 rfl) ?_
  refine lw_V (pc := 553) (rest := [.int r]) hx hb hml hown hg hnw hK hA (k_Mo_take l (a0 := 0) ⟨by decide, rfl⟩ h2) sm_Mo_take ml_Lw_78 im_Mo_take se_Mo_take gcX11 rfl ⟨by decide, rfl⟩ ⟨rfl, rfl, Nat.le_of_ble_eq_true rfl, Nat.le_of_ble_eq_true rfl⟩ ⟨Nat.le_of_ble_eq_true rfl, Nat.le_of_ble_eq_true rfl⟩ hP2 hP1 hD2 (fun i j hi hj e => hdis j i hj hi e.symm) hS hl.1 rfl rfl (Nat.le_of_ble_eq_true rfl) dL_law_553 [.int r, .int r] rfl (fun H locs hP2 hP1 hS => ?_)
  refine lv_icmp_eq (pc := 556) (tgt := 945) hx hb dL_law_556 rfl (fun _ => ?_) (fun e => absurd rfl e)
  exact ih _ _ _ _ _ _ hRel2 _ _ hP1 hP2 hS
set_option maxRecDepth 20000 in
theorem law_bill {p : Program} {l : Launch} {e : Env} {s : State} {m : MethodId} {below : List Frame} {meth : Method} {c : Code} {b L : Nat} {xs : Nat → Int32} (hL : L ≤ 3072) (C0 : lw_At p s m meth c b L xs) {D : va_G} {yc : Nat → ClassId} (hK : va_K D gcl (gtys yc) s) {ad1 ad2 : Nat → Nat} (hD1 : gin (fun q => s.heap.size ≤ q) ad1 nC) (hD2 : gin (fun q => s.heap.size ≤ q) ad2 nM) (hdis : ∀ i j, i < nC → j < nM → ad1 i ≠ ad2 j) {Rel : HI → HJ → HN → HI → HJ → HN → Prop} (hok : ok_bill Rel) {i : Nat} (hi6 : i + 6 ≤ L) {I I2 : HI} {J J2 : HJ} {N N2 : HN} (hRel : Rel I J N I2 J2 N2) {H : Heap} {locs : List Loc} {ls : Array Slot} (hP1 : va_P D gcl (gwd Tc yc ad1 nC I J N) H) (hP2 : va_P D gcl (gwd Tm yc ad2 nM I2 J2 N2) H) (hS : va_S (fun q => s.heap.size ≤ q) s.heap H locs) (hl : lv_has ls 4 [(0, .ref b), (1, .ref (ad1 0)), (2, .ref (ad2 0)), (3, .int (nI i))]) (ih : ∀ (I I2 : HI) (J J2 : HJ) (N N2 : HN), Rel I J N I2 J2 N2 → ∀ (H : Heap) (locs : List Loc), va_P D gcl (gwd Tc yc ad1 nC I J N) H → va_P D gcl (gwd Tm yc ad2 nM I2 J2 N2) H → va_S (fun q => s.heap.size ≤ q) s.heap H locs → W p l e room_1 s m #[Value.ref b] below meth c H locs 118 1437 (lw_Z below #[Value.ref b] s) (F0 m 945 ls [])) : W p l e room_1 s m #[Value.ref b] below meth c H locs 118 1437 (lw_Z below #[Value.ref b] s) (F0 m 561 ls []) := by
  obtain ⟨hx, hb, hr, hml, hown, hts, hX, hbl, hlocks, hgv⟩ := id C0
  have hg := lw_hg C0
  have hnw := lw_nw C0
  have hA : ∀ q : Nat, s.heap.size ≤ q → (fun q : Nat => s.heap.size ≤ q) q := fun _ h => h
  have hbA : ¬ (fun q : Nat => s.heap.size ≤ q) b := Nat.not_le.mpr hbl
  obtain ⟨r, h1, h2, hRel2⟩ := hok I J N I2 J2 N2 hRel (xs (nI i + 1).toNatClampNeg) (xs (nI i + 2).toNatClampNeg)
  refine lv_aload_n (pc := 561) hx hb dL_law_561 rfl (lv_at hl 1 rfl) ?_
  refine lv_aload_n (pc := 562) hx hb dL_law_562 rfl (lv_at hl 0 rfl) ?_
  refine lv_iload_n (pc := 563) hx hb dL_law_563 rfl (lv_at hl 3 rfl) ?_
  refine lv_iconst (pc := 564) (v := 1) hx hb dL_law_564 (by decide) ?_
  refine lv_iadd (pc := 565) hx hb dL_law_565 ?_
  refine va_sld (pc := 566) hx hb hX hbl hbA hS (lw_ix hL hi6 (k := 1) (by decide)) dL_law_566 ?_
  refine lv_aload_n (pc := 567) hx hb dL_law_567 rfl (lv_at hl 0 rfl) ?_
  refine lv_iload_n (pc := 568) hx hb dL_law_568 rfl (lv_at hl 3 rfl) ?_
  refine lv_iconst (pc := 569) (v := 2) hx hb dL_law_569 (by decide) ?_
  refine lv_iadd (pc := 570) hx hb dL_law_570 ?_
  refine va_sld (pc := 571) hx hb hX hbl hbA hS (lw_ix hL hi6 (k := 2) (by decide)) dL_law_571 ?_
  refine lw_V (pc := 572) (rest := []) hx hb hml hown hg hnw hK hA (k_Lm_bill l (a0 := 0) ⟨by decide, rfl⟩ h1) sm_Lm_bill ml_Lw_79 im_Lm_bill se_Lm_bill gcX10 rfl ⟨by decide, rfl⟩ ⟨rfl, rfl, Nat.le_of_ble_eq_true rfl, Nat.le_of_ble_eq_true rfl⟩ ⟨Nat.le_of_ble_eq_true rfl, Nat.le_of_ble_eq_true rfl⟩ hP1 hP2 hD1 hdis hS hl.1 rfl rfl (Nat.le_of_ble_eq_true rfl) dL_law_572 [.int r] rfl (fun H locs hP1 hP2 hS => ?_)
  refine lv_aload_n (pc := 575) hx hb dL_law_575 rfl (lv_at hl 2 rfl) ?_
  refine lv_aload_n (pc := 576) hx hb dL_law_576 rfl (lv_at hl 0 rfl) ?_
  refine lv_iload_n (pc := 577) hx hb dL_law_577 rfl (lv_at hl 3 rfl) ?_
  refine lv_iconst (pc := 578) (v := 1) hx hb dL_law_578 (by decide) ?_
  refine lv_iadd (pc := 579) hx hb dL_law_579 ?_
  refine va_sld (pc := 580) hx hb hX hbl hbA hS (lw_ix hL hi6 (k := 1) (by decide)) dL_law_580 ?_
  refine lv_aload_n (pc := 581) hx hb dL_law_581 rfl (lv_at hl 0 rfl) ?_
  refine lv_iload_n (pc := 582) hx hb dL_law_582 rfl (lv_at hl 3 rfl) ?_
  refine lv_iconst (pc := 583) (v := 2) hx hb dL_law_583 (by decide) ?_
  refine lv_iadd (pc := 584) hx hb dL_law_584 ?_
  refine va_sld (pc := 585) hx hb hX hbl hbA hS (lw_ix hL hi6 (k := 2) (by decide)) dL_law_585 ?_
  refine lw_V (pc := 586) (rest := [.int r]) hx hb hml hown hg hnw hK hA (k_Mo_bill l (a0 := 0) ⟨by decide, rfl⟩ h2) sm_Mo_bill ml_Lw_82 im_Mo_bill se_Mo_bill gcX11 rfl ⟨by decide, rfl⟩ ⟨rfl, rfl, Nat.le_of_ble_eq_true rfl, Nat.le_of_ble_eq_true rfl⟩ ⟨Nat.le_of_ble_eq_true rfl, Nat.le_of_ble_eq_true rfl⟩ hP2 hP1 hD2 (fun i j hi hj e => hdis j i hj hi e.symm) hS hl.1 rfl rfl (Nat.le_of_ble_eq_true rfl) dL_law_586 [.int r, .int r] rfl (fun H locs hP2 hP1 hS => ?_)
  refine lv_icmp_eq (pc := 589) (tgt := 945) hx hb dL_law_589 rfl (fun _ => ?_) (fun e => absurd rfl e)
  exact ih _ _ _ _ _ _ hRel2 _ _ hP1 hP2 hS
set_option maxRecDepth 20000 in
theorem law_values {p : Program} {l : Launch} {e : Env} {s : State} {m : MethodId} {below : List Frame} {meth : Method} {c : Code} {b L : Nat} {xs : Nat → Int32} (hL : L ≤ 3072) (C0 : lw_At p s m meth c b L xs) {D : va_G} {yc : Nat → ClassId} (hK : va_K D gcl (gtys yc) s) {ad1 ad2 : Nat → Nat} (hD1 : gin (fun q => s.heap.size ≤ q) ad1 nC) (hD2 : gin (fun q => s.heap.size ≤ q) ad2 nM) (hdis : ∀ i j, i < nC → j < nM → ad1 i ≠ ad2 j) {Rel : HI → HJ → HN → HI → HJ → HN → Prop} (hok : ok_values Rel) {i : Nat} (hi6 : i + 6 ≤ L) {I I2 : HI} {J J2 : HJ} {N N2 : HN} (hRel : Rel I J N I2 J2 N2) {H : Heap} {locs : List Loc} {ls : Array Slot} (hP1 : va_P D gcl (gwd Tc yc ad1 nC I J N) H) (hP2 : va_P D gcl (gwd Tm yc ad2 nM I2 J2 N2) H) (hS : va_S (fun q => s.heap.size ≤ q) s.heap H locs) (hl : lv_has ls 4 [(0, .ref b), (1, .ref (ad1 0)), (2, .ref (ad2 0)), (3, .int (nI i))]) (ih : ∀ (I I2 : HI) (J J2 : HJ) (N N2 : HN), Rel I J N I2 J2 N2 → ∀ (H : Heap) (locs : List Loc), va_P D gcl (gwd Tc yc ad1 nC I J N) H → va_P D gcl (gwd Tm yc ad2 nM I2 J2 N2) H → va_S (fun q => s.heap.size ≤ q) s.heap H locs → W p l e room_1 s m #[Value.ref b] below meth c H locs 118 1437 (lw_Z below #[Value.ref b] s) (F0 m 945 ls [])) : W p l e room_1 s m #[Value.ref b] below meth c H locs 118 1437 (lw_Z below #[Value.ref b] s) (F0 m 594 ls []) := by
  obtain ⟨hx, hb, hr, hml, hown, hts, hX, hbl, hlocks, hgv⟩ := id C0
  have hg := lw_hg C0
  have hnw := lw_nw C0
  have hA : ∀ q : Nat, s.heap.size ≤ q → (fun q : Nat => s.heap.size ≤ q) q := fun _ h => h
  have hbA : ¬ (fun q : Nat => s.heap.size ≤ q) b := Nat.not_le.mpr hbl
  obtain ⟨r, h1, h2, hRel2⟩ := hok I J N I2 J2 N2 hRel
  refine lv_aload_n (pc := 594) hx hb dL_law_594 rfl (lv_at hl 1 rfl) ?_
  refine lw_V (pc := 595) (rest := []) hx hb hml hown hg hnw hK hA (k_Lm_values l (a0 := 0) ⟨by decide, rfl⟩ h1) sm_Lm_values ml_Lw_83 im_Lm_values se_Lm_values gcX10 rfl ⟨by decide, rfl⟩ ⟨rfl, rfl, Nat.le_of_ble_eq_true rfl, Nat.le_of_ble_eq_true rfl⟩ ⟨Nat.le_of_ble_eq_true rfl, Nat.le_of_ble_eq_true rfl⟩ hP1 hP2 hD1 hdis hS hl.1 rfl rfl (Nat.le_of_ble_eq_true rfl) dL_law_595 [.int r] rfl (fun H locs hP1 hP2 hS => ?_)
  refine lv_aload_n (pc := 598) hx hb dL_law_598 rfl (lv_at hl 2 rfl) ?_
  refine lw_V (pc := 599) (rest := [.int r]) hx hb hml hown hg hnw hK hA (k_Mo_values l (a0 := 0) ⟨by decide, rfl⟩ h2) sm_Mo_values ml_Lw_86 im_Mo_values se_Mo_values gcX11 rfl ⟨by decide, rfl⟩ ⟨rfl, rfl, Nat.le_of_ble_eq_true rfl, Nat.le_of_ble_eq_true rfl⟩ ⟨Nat.le_of_ble_eq_true rfl, Nat.le_of_ble_eq_true rfl⟩ hP2 hP1 hD2 (fun i j hi hj e => hdis j i hj hi e.symm) hS hl.1 rfl rfl (Nat.le_of_ble_eq_true rfl) dL_law_599 [.int r, .int r] rfl (fun H locs hP2 hP1 hS => ?_)
  refine lv_icmp_eq (pc := 602) (tgt := 945) hx hb dL_law_602 rfl (fun _ => ?_) (fun e => absurd rfl e)
  exact ih _ _ _ _ _ _ hRel2 _ _ hP1 hP2 hS
set_option maxRecDepth 20000 in
theorem law_keep {p : Program} {l : Launch} {e : Env} {s : State} {m : MethodId} {below : List Frame} {meth : Method} {c : Code} {b L : Nat} {xs : Nat → Int32} (hL : L ≤ 3072) (C0 : lw_At p s m meth c b L xs) {D : va_G} {yc : Nat → ClassId} (hK : va_K D gcl (gtys yc) s) {ad1 ad2 : Nat → Nat} (hD1 : gin (fun q => s.heap.size ≤ q) ad1 nC) (hD2 : gin (fun q => s.heap.size ≤ q) ad2 nM) (hdis : ∀ i j, i < nC → j < nM → ad1 i ≠ ad2 j) {Rel : HI → HJ → HN → HI → HJ → HN → Prop} (hok : ok_keep Rel) {i : Nat} (hi6 : i + 6 ≤ L) {I I2 : HI} {J J2 : HJ} {N N2 : HN} (hRel : Rel I J N I2 J2 N2) {H : Heap} {locs : List Loc} {ls : Array Slot} (hP1 : va_P D gcl (gwd Tc yc ad1 nC I J N) H) (hP2 : va_P D gcl (gwd Tm yc ad2 nM I2 J2 N2) H) (hS : va_S (fun q => s.heap.size ≤ q) s.heap H locs) (hl : lv_has ls 4 [(0, .ref b), (1, .ref (ad1 0)), (2, .ref (ad2 0)), (3, .int (nI i))]) (ih : ∀ (I I2 : HI) (J J2 : HJ) (N N2 : HN), Rel I J N I2 J2 N2 → ∀ (H : Heap) (locs : List Loc), va_P D gcl (gwd Tc yc ad1 nC I J N) H → va_P D gcl (gwd Tm yc ad2 nM I2 J2 N2) H → va_S (fun q => s.heap.size ≤ q) s.heap H locs → W p l e room_1 s m #[Value.ref b] below meth c H locs 118 1437 (lw_Z below #[Value.ref b] s) (F0 m 945 ls [])) : W p l e room_1 s m #[Value.ref b] below meth c H locs 118 1437 (lw_Z below #[Value.ref b] s) (F0 m 607 ls []) := by
  obtain ⟨hx, hb, hr, hml, hown, hts, hX, hbl, hlocks, hgv⟩ := id C0
  have hg := lw_hg C0
  have hnw := lw_nw C0
  have hA : ∀ q : Nat, s.heap.size ≤ q → (fun q : Nat => s.heap.size ≤ q) q := fun _ h => h
  have hbA : ¬ (fun q : Nat => s.heap.size ≤ q) b := Nat.not_le.mpr hbl
  obtain ⟨I9, J9, I29, J29, r, h1, h2, hRel2⟩ := hok I J N I2 J2 N2 hRel
  refine lv_aload_n (pc := 607) hx hb dL_law_607 rfl (lv_at hl 1 rfl) ?_
  refine lw_V (pc := 608) (rest := []) hx hb hml hown hg hnw hK hA (k_Lm_keep l (a0 := 0) ⟨by decide, rfl⟩ h1) sm_Lm_keep ml_Lw_87 im_Lm_keep se_Lm_keep gcX10 rfl ⟨by decide, rfl⟩ ⟨rfl, rfl, Nat.le_of_ble_eq_true rfl, Nat.le_of_ble_eq_true rfl⟩ ⟨Nat.le_of_ble_eq_true rfl, Nat.le_of_ble_eq_true rfl⟩ hP1 hP2 hD1 hdis hS hl.1 rfl rfl (Nat.le_of_ble_eq_true rfl) dL_law_608 [.int r] rfl (fun H locs hP1 hP2 hS => ?_)
  refine lv_aload_n (pc := 611) hx hb dL_law_611 rfl (lv_at hl 2 rfl) ?_
  refine lw_V (pc := 612) (rest := [.int r]) hx hb hml hown hg hnw hK hA (k_Mo_keep l (a0 := 0) ⟨by decide, rfl⟩ h2) sm_Mo_keep ml_Lw_90 im_Mo_keep se_Mo_keep gcX11 rfl ⟨by decide, rfl⟩ ⟨rfl, rfl, Nat.le_of_ble_eq_true rfl, Nat.le_of_ble_eq_true rfl⟩ ⟨Nat.le_of_ble_eq_true rfl, Nat.le_of_ble_eq_true rfl⟩ hP2 hP1 hD2 (fun i j hi hj e => hdis j i hj hi e.symm) hS hl.1 rfl rfl (Nat.le_of_ble_eq_true rfl) dL_law_612 [.int r, .int r] rfl (fun H locs hP2 hP1 hS => ?_)
  refine lv_icmp_eq (pc := 615) (tgt := 945) hx hb dL_law_615 rfl (fun _ => ?_) (fun e => absurd rfl e)
  exact ih _ _ _ _ _ _ hRel2 _ _ hP1 hP2 hS
set_option maxRecDepth 20000 in
theorem law_find {p : Program} {l : Launch} {e : Env} {s : State} {m : MethodId} {below : List Frame} {meth : Method} {c : Code} {b L : Nat} {xs : Nat → Int32} (hL : L ≤ 3072) (C0 : lw_At p s m meth c b L xs) {D : va_G} {yc : Nat → ClassId} (hK : va_K D gcl (gtys yc) s) {ad1 ad2 : Nat → Nat} (hD1 : gin (fun q => s.heap.size ≤ q) ad1 nC) (hD2 : gin (fun q => s.heap.size ≤ q) ad2 nM) (hdis : ∀ i j, i < nC → j < nM → ad1 i ≠ ad2 j) {Rel : HI → HJ → HN → HI → HJ → HN → Prop} (hok : ok_find Rel) {i : Nat} (hi6 : i + 6 ≤ L) {I I2 : HI} {J J2 : HJ} {N N2 : HN} (hRel : Rel I J N I2 J2 N2) {H : Heap} {locs : List Loc} {ls : Array Slot} (hP1 : va_P D gcl (gwd Tc yc ad1 nC I J N) H) (hP2 : va_P D gcl (gwd Tm yc ad2 nM I2 J2 N2) H) (hS : va_S (fun q => s.heap.size ≤ q) s.heap H locs) (hl : lv_has ls 4 [(0, .ref b), (1, .ref (ad1 0)), (2, .ref (ad2 0)), (3, .int (nI i))]) (ih : ∀ (I I2 : HI) (J J2 : HJ) (N N2 : HN), Rel I J N I2 J2 N2 → ∀ (H : Heap) (locs : List Loc), va_P D gcl (gwd Tc yc ad1 nC I J N) H → va_P D gcl (gwd Tm yc ad2 nM I2 J2 N2) H → va_S (fun q => s.heap.size ≤ q) s.heap H locs → W p l e room_1 s m #[Value.ref b] below meth c H locs 118 1437 (lw_Z below #[Value.ref b] s) (F0 m 945 ls [])) : W p l e room_1 s m #[Value.ref b] below meth c H locs 118 1437 (lw_Z below #[Value.ref b] s) (F0 m 620 ls []) := by
  obtain ⟨hx, hb, hr, hml, hown, hts, hX, hbl, hlocks, hgv⟩ := id C0
  have hg := lw_hg C0
  have hnw := lw_nw C0
  have hA : ∀ q : Nat, s.heap.size ≤ q → (fun q : Nat => s.heap.size ≤ q) q := fun _ h => h
  have hbA : ¬ (fun q : Nat => s.heap.size ≤ q) b := Nat.not_le.mpr hbl
  obtain ⟨J9, I29, J29, r, h1, h2, hRel2⟩ := hok I J N I2 J2 N2 hRel
  refine lv_aload_n (pc := 620) hx hb dL_law_620 rfl (lv_at hl 1 rfl) ?_
  refine lw_V (pc := 621) (rest := []) hx hb hml hown hg hnw hK hA (k_Lm_find l (a0 := 0) ⟨by decide, rfl⟩ h1) sm_Lm_find ml_Lw_91 im_Lm_find se_Lm_find gcX10 rfl ⟨by decide, rfl⟩ ⟨rfl, rfl, Nat.le_of_ble_eq_true rfl, Nat.le_of_ble_eq_true rfl⟩ ⟨Nat.le_of_ble_eq_true rfl, Nat.le_of_ble_eq_true rfl⟩ hP1 hP2 hD1 hdis hS hl.1 rfl rfl (Nat.le_of_ble_eq_true rfl) dL_law_621 [.int r] rfl (fun H locs hP1 hP2 hS => ?_)
  refine lv_aload_n (pc := 624) hx hb dL_law_624 rfl (lv_at hl 2 rfl) ?_
  refine lw_V (pc := 625) (rest := [.int r]) hx hb hml hown hg hnw hK hA (k_Mo_find l (a0 := 0) ⟨by decide, rfl⟩ h2) sm_Mo_find ml_Lw_94 im_Mo_find se_Mo_find gcX11 rfl ⟨by decide, rfl⟩ ⟨rfl, rfl, Nat.le_of_ble_eq_true rfl, Nat.le_of_ble_eq_true rfl⟩ ⟨Nat.le_of_ble_eq_true rfl, Nat.le_of_ble_eq_true rfl⟩ hP2 hP1 hD2 (fun i j hi hj e => hdis j i hj hi e.symm) hS hl.1 rfl rfl (Nat.le_of_ble_eq_true rfl) dL_law_625 [.int r, .int r] rfl (fun H locs hP2 hP1 hS => ?_)
  refine lv_icmp_eq (pc := 628) (tgt := 945) hx hb dL_law_628 rfl (fun _ => ?_) (fun e => absurd rfl e)
  exact ih _ _ _ _ _ _ hRel2 _ _ hP1 hP2 hS
set_option maxRecDepth 20000 in
theorem law_kept {p : Program} {l : Launch} {e : Env} {s : State} {m : MethodId} {below : List Frame} {meth : Method} {c : Code} {b L : Nat} {xs : Nat → Int32} (hL : L ≤ 3072) (C0 : lw_At p s m meth c b L xs) {D : va_G} {yc : Nat → ClassId} (hK : va_K D gcl (gtys yc) s) {ad1 ad2 : Nat → Nat} (hD1 : gin (fun q => s.heap.size ≤ q) ad1 nC) (hD2 : gin (fun q => s.heap.size ≤ q) ad2 nM) (hdis : ∀ i j, i < nC → j < nM → ad1 i ≠ ad2 j) {Rel : HI → HJ → HN → HI → HJ → HN → Prop} (hok : ok_kept Rel) {i : Nat} (hi6 : i + 6 ≤ L) {I I2 : HI} {J J2 : HJ} {N N2 : HN} (hRel : Rel I J N I2 J2 N2) {H : Heap} {locs : List Loc} {ls : Array Slot} (hP1 : va_P D gcl (gwd Tc yc ad1 nC I J N) H) (hP2 : va_P D gcl (gwd Tm yc ad2 nM I2 J2 N2) H) (hS : va_S (fun q => s.heap.size ≤ q) s.heap H locs) (hl : lv_has ls 4 [(0, .ref b), (1, .ref (ad1 0)), (2, .ref (ad2 0)), (3, .int (nI i))]) (ih : ∀ (I I2 : HI) (J J2 : HJ) (N N2 : HN), Rel I J N I2 J2 N2 → ∀ (H : Heap) (locs : List Loc), va_P D gcl (gwd Tc yc ad1 nC I J N) H → va_P D gcl (gwd Tm yc ad2 nM I2 J2 N2) H → va_S (fun q => s.heap.size ≤ q) s.heap H locs → W p l e room_1 s m #[Value.ref b] below meth c H locs 118 1437 (lw_Z below #[Value.ref b] s) (F0 m 945 ls [])) : W p l e room_1 s m #[Value.ref b] below meth c H locs 118 1437 (lw_Z below #[Value.ref b] s) (F0 m 633 ls []) := by
  obtain ⟨hx, hb, hr, hml, hown, hts, hX, hbl, hlocks, hgv⟩ := id C0
  have hg := lw_hg C0
  have hnw := lw_nw C0
  have hA : ∀ q : Nat, s.heap.size ≤ q → (fun q : Nat => s.heap.size ≤ q) q := fun _ h => h
  have hbA : ¬ (fun q : Nat => s.heap.size ≤ q) b := Nat.not_le.mpr hbl
  obtain ⟨r, h1, h2, hRel2⟩ := hok I J N I2 J2 N2 hRel (xs (nI i + 1).toNatClampNeg) (xs (nI i + 2).toNatClampNeg)
  refine lv_aload_n (pc := 633) hx hb dL_law_633 rfl (lv_at hl 1 rfl) ?_
  refine lv_aload_n (pc := 634) hx hb dL_law_634 rfl (lv_at hl 0 rfl) ?_
  refine lv_iload_n (pc := 635) hx hb dL_law_635 rfl (lv_at hl 3 rfl) ?_
  refine lv_iconst (pc := 636) (v := 1) hx hb dL_law_636 (by decide) ?_
  refine lv_iadd (pc := 637) hx hb dL_law_637 ?_
  refine va_sld (pc := 638) hx hb hX hbl hbA hS (lw_ix hL hi6 (k := 1) (by decide)) dL_law_638 ?_
  refine lv_aload_n (pc := 639) hx hb dL_law_639 rfl (lv_at hl 0 rfl) ?_
  refine lv_iload_n (pc := 640) hx hb dL_law_640 rfl (lv_at hl 3 rfl) ?_
  refine lv_iconst (pc := 641) (v := 2) hx hb dL_law_641 (by decide) ?_
  refine lv_iadd (pc := 642) hx hb dL_law_642 ?_
  refine va_sld (pc := 643) hx hb hX hbl hbA hS (lw_ix hL hi6 (k := 2) (by decide)) dL_law_643 ?_
  refine lw_V (pc := 644) (rest := []) hx hb hml hown hg hnw hK hA (k_Lm_kept l (a0 := 0) ⟨by decide, rfl⟩ h1) sm_Lm_kept ml_Lw_95 im_Lm_kept se_Lm_kept gcX10 rfl ⟨by decide, rfl⟩ ⟨rfl, rfl, Nat.le_of_ble_eq_true rfl, Nat.le_of_ble_eq_true rfl⟩ ⟨Nat.le_of_ble_eq_true rfl, Nat.le_of_ble_eq_true rfl⟩ hP1 hP2 hD1 hdis hS hl.1 rfl rfl (Nat.le_of_ble_eq_true rfl) dL_law_644 [.int r] rfl (fun H locs hP1 hP2 hS => ?_)
  refine lv_aload_n (pc := 647) hx hb dL_law_647 rfl (lv_at hl 2 rfl) ?_
  refine lv_aload_n (pc := 648) hx hb dL_law_648 rfl (lv_at hl 0 rfl) ?_
  refine lv_iload_n (pc := 649) hx hb dL_law_649 rfl (lv_at hl 3 rfl) ?_
  refine lv_iconst (pc := 650) (v := 1) hx hb dL_law_650 (by decide) ?_
  refine lv_iadd (pc := 651) hx hb dL_law_651 ?_
  refine va_sld (pc := 652) hx hb hX hbl hbA hS (lw_ix hL hi6 (k := 1) (by decide)) dL_law_652 ?_
  refine lv_aload_n (pc := 653) hx hb dL_law_653 rfl (lv_at hl 0 rfl) ?_
  refine lv_iload_n (pc := 654) hx hb dL_law_654 rfl (lv_at hl 3 rfl) ?_
  refine lv_iconst (pc := 655) (v := 2) hx hb dL_law_655 (by decide) ?_
  refine lv_iadd (pc := 656) hx hb dL_law_656 ?_
  refine va_sld (pc := 657) hx hb hX hbl hbA hS (lw_ix hL hi6 (k := 2) (by decide)) dL_law_657 ?_
  refine lw_V (pc := 658) (rest := [.int r]) hx hb hml hown hg hnw hK hA (k_Mo_kept l (a0 := 0) ⟨by decide, rfl⟩ h2) sm_Mo_kept ml_Lw_98 im_Mo_kept se_Mo_kept gcX11 rfl ⟨by decide, rfl⟩ ⟨rfl, rfl, Nat.le_of_ble_eq_true rfl, Nat.le_of_ble_eq_true rfl⟩ ⟨Nat.le_of_ble_eq_true rfl, Nat.le_of_ble_eq_true rfl⟩ hP2 hP1 hD2 (fun i j hi hj e => hdis j i hj hi e.symm) hS hl.1 rfl rfl (Nat.le_of_ble_eq_true rfl) dL_law_658 [.int r, .int r] rfl (fun H locs hP2 hP1 hS => ?_)
  refine lv_icmp_eq (pc := 661) (tgt := 945) hx hb dL_law_661 rfl (fun _ => ?_) (fun e => absurd rfl e)
  exact ih _ _ _ _ _ _ hRel2 _ _ hP1 hP2 hS
set_option maxRecDepth 20000 in
theorem law_recall {p : Program} {l : Launch} {e : Env} {s : State} {m : MethodId} {below : List Frame} {meth : Method} {c : Code} {b L : Nat} {xs : Nat → Int32} (hL : L ≤ 3072) (C0 : lw_At p s m meth c b L xs) {D : va_G} {yc : Nat → ClassId} (hK : va_K D gcl (gtys yc) s) {ad1 ad2 : Nat → Nat} (hD1 : gin (fun q => s.heap.size ≤ q) ad1 nC) (hD2 : gin (fun q => s.heap.size ≤ q) ad2 nM) (hdis : ∀ i j, i < nC → j < nM → ad1 i ≠ ad2 j) {Rel : HI → HJ → HN → HI → HJ → HN → Prop} (hok : ok_recall Rel) {i : Nat} (hi6 : i + 6 ≤ L) {I I2 : HI} {J J2 : HJ} {N N2 : HN} (hRel : Rel I J N I2 J2 N2) {H : Heap} {locs : List Loc} {ls : Array Slot} (hP1 : va_P D gcl (gwd Tc yc ad1 nC I J N) H) (hP2 : va_P D gcl (gwd Tm yc ad2 nM I2 J2 N2) H) (hS : va_S (fun q => s.heap.size ≤ q) s.heap H locs) (hl : lv_has ls 4 [(0, .ref b), (1, .ref (ad1 0)), (2, .ref (ad2 0)), (3, .int (nI i))]) (ih : ∀ (I I2 : HI) (J J2 : HJ) (N N2 : HN), Rel I J N I2 J2 N2 → ∀ (H : Heap) (locs : List Loc), va_P D gcl (gwd Tc yc ad1 nC I J N) H → va_P D gcl (gwd Tm yc ad2 nM I2 J2 N2) H → va_S (fun q => s.heap.size ≤ q) s.heap H locs → W p l e room_1 s m #[Value.ref b] below meth c H locs 118 1437 (lw_Z below #[Value.ref b] s) (F0 m 945 ls [])) : W p l e room_1 s m #[Value.ref b] below meth c H locs 118 1437 (lw_Z below #[Value.ref b] s) (F0 m 666 ls []) := by
  obtain ⟨hx, hb, hr, hml, hown, hts, hX, hbl, hlocks, hgv⟩ := id C0
  have hg := lw_hg C0
  have hnw := lw_nw C0
  have hA : ∀ q : Nat, s.heap.size ≤ q → (fun q : Nat => s.heap.size ≤ q) q := fun _ h => h
  have hbA : ¬ (fun q : Nat => s.heap.size ≤ q) b := Nat.not_le.mpr hbl
  obtain ⟨J9, I29, r, h1, h2, hRel2⟩ := hok I J N I2 J2 N2 hRel (xs (nI i + 1).toNatClampNeg)
  refine lv_aload_n (pc := 666) hx hb dL_law_666 rfl (lv_at hl 1 rfl) ?_
  refine lv_aload_n (pc := 667) hx hb dL_law_667 rfl (lv_at hl 0 rfl) ?_
  refine lv_iload_n (pc := 668) hx hb dL_law_668 rfl (lv_at hl 3 rfl) ?_
  refine lv_iconst (pc := 669) (v := 1) hx hb dL_law_669 (by decide) ?_
  refine lv_iadd (pc := 670) hx hb dL_law_670 ?_
  refine va_sld (pc := 671) hx hb hX hbl hbA hS (lw_ix hL hi6 (k := 1) (by decide)) dL_law_671 ?_
  refine lw_V (pc := 672) (rest := []) hx hb hml hown hg hnw hK hA (k_Lm_recall l (a0 := 0) ⟨by decide, rfl⟩ h1) sm_Lm_recall ml_Lw_99 im_Lm_recall se_Lm_recall gcX10 rfl ⟨by decide, rfl⟩ ⟨rfl, rfl, Nat.le_of_ble_eq_true rfl, Nat.le_of_ble_eq_true rfl⟩ ⟨Nat.le_of_ble_eq_true rfl, Nat.le_of_ble_eq_true rfl⟩ hP1 hP2 hD1 hdis hS hl.1 rfl rfl (Nat.le_of_ble_eq_true rfl) dL_law_672 [.int r] rfl (fun H locs hP1 hP2 hS => ?_)
  refine lv_aload_n (pc := 675) hx hb dL_law_675 rfl (lv_at hl 2 rfl) ?_
  refine lv_aload_n (pc := 676) hx hb dL_law_676 rfl (lv_at hl 0 rfl) ?_
  refine lv_iload_n (pc := 677) hx hb dL_law_677 rfl (lv_at hl 3 rfl) ?_
  refine lv_iconst (pc := 678) (v := 1) hx hb dL_law_678 (by decide) ?_
  refine lv_iadd (pc := 679) hx hb dL_law_679 ?_
  refine va_sld (pc := 680) hx hb hX hbl hbA hS (lw_ix hL hi6 (k := 1) (by decide)) dL_law_680 ?_
  refine lw_V (pc := 681) (rest := [.int r]) hx hb hml hown hg hnw hK hA (k_Mo_recall l (a0 := 0) ⟨by decide, rfl⟩ h2) sm_Mo_recall ml_Lw_102 im_Mo_recall se_Mo_recall gcX11 rfl ⟨by decide, rfl⟩ ⟨rfl, rfl, Nat.le_of_ble_eq_true rfl, Nat.le_of_ble_eq_true rfl⟩ ⟨Nat.le_of_ble_eq_true rfl, Nat.le_of_ble_eq_true rfl⟩ hP2 hP1 hD2 (fun i j hi hj e => hdis j i hj hi e.symm) hS hl.1 rfl rfl (Nat.le_of_ble_eq_true rfl) dL_law_681 [.int r, .int r] rfl (fun H locs hP2 hP1 hS => ?_)
  refine lv_icmp_eq (pc := 684) (tgt := 945) hx hb dL_law_684 rfl (fun _ => ?_) (fun e => absurd rfl e)
  exact ih _ _ _ _ _ _ hRel2 _ _ hP1 hP2 hS
set_option maxRecDepth 20000 in
theorem law_sheet {p : Program} {l : Launch} {e : Env} {s : State} {m : MethodId} {below : List Frame} {meth : Method} {c : Code} {b L : Nat} {xs : Nat → Int32} (hL : L ≤ 3072) (C0 : lw_At p s m meth c b L xs) {D : va_G} {yc : Nat → ClassId} (hK : va_K D gcl (gtys yc) s) {ad1 ad2 : Nat → Nat} (hD1 : gin (fun q => s.heap.size ≤ q) ad1 nC) (hD2 : gin (fun q => s.heap.size ≤ q) ad2 nM) (hdis : ∀ i j, i < nC → j < nM → ad1 i ≠ ad2 j) {Rel : HI → HJ → HN → HI → HJ → HN → Prop} (hok : ok_sheet Rel) {i : Nat} (hi6 : i + 6 ≤ L) {I I2 : HI} {J J2 : HJ} {N N2 : HN} (hRel : Rel I J N I2 J2 N2) {H : Heap} {locs : List Loc} {ls : Array Slot} (hP1 : va_P D gcl (gwd Tc yc ad1 nC I J N) H) (hP2 : va_P D gcl (gwd Tm yc ad2 nM I2 J2 N2) H) (hS : va_S (fun q => s.heap.size ≤ q) s.heap H locs) (hl : lv_has ls 4 [(0, .ref b), (1, .ref (ad1 0)), (2, .ref (ad2 0)), (3, .int (nI i))]) (ih : ∀ (I I2 : HI) (J J2 : HJ) (N N2 : HN), Rel I J N I2 J2 N2 → ∀ (H : Heap) (locs : List Loc), va_P D gcl (gwd Tc yc ad1 nC I J N) H → va_P D gcl (gwd Tm yc ad2 nM I2 J2 N2) H → va_S (fun q => s.heap.size ≤ q) s.heap H locs → W p l e room_1 s m #[Value.ref b] below meth c H locs 118 1437 (lw_Z below #[Value.ref b] s) (F0 m 945 ls [])) : W p l e room_1 s m #[Value.ref b] below meth c H locs 118 1437 (lw_Z below #[Value.ref b] s) (F0 m 689 ls []) := by
  obtain ⟨hx, hb, hr, hml, hown, hts, hX, hbl, hlocks, hgv⟩ := id C0
  have hg := lw_hg C0
  have hnw := lw_nw C0
  have hA : ∀ q : Nat, s.heap.size ≤ q → (fun q : Nat => s.heap.size ≤ q) q := fun _ h => h
  have hbA : ¬ (fun q : Nat => s.heap.size ≤ q) b := Nat.not_le.mpr hbl
  obtain ⟨I9, J9, I29, J29, r, h1, h2, hRel2⟩ := hok I J N I2 J2 N2 hRel (xs (nI i + 1).toNatClampNeg) (xs (nI i + 2).toNatClampNeg)
  refine lv_aload_n (pc := 689) hx hb dL_law_689 rfl (lv_at hl 1 rfl) ?_
  refine lv_aload_n (pc := 690) hx hb dL_law_690 rfl (lv_at hl 0 rfl) ?_
  refine lv_iload_n (pc := 691) hx hb dL_law_691 rfl (lv_at hl 3 rfl) ?_
  refine lv_iconst (pc := 692) (v := 1) hx hb dL_law_692 (by decide) ?_
  refine lv_iadd (pc := 693) hx hb dL_law_693 ?_
  refine va_sld (pc := 694) hx hb hX hbl hbA hS (lw_ix hL hi6 (k := 1) (by decide)) dL_law_694 ?_
  refine lv_aload_n (pc := 695) hx hb dL_law_695 rfl (lv_at hl 0 rfl) ?_
  refine lv_iload_n (pc := 696) hx hb dL_law_696 rfl (lv_at hl 3 rfl) ?_
  refine lv_iconst (pc := 697) (v := 2) hx hb dL_law_697 (by decide) ?_
  refine lv_iadd (pc := 698) hx hb dL_law_698 ?_
  refine va_sld (pc := 699) hx hb hX hbl hbA hS (lw_ix hL hi6 (k := 2) (by decide)) dL_law_699 ?_
  refine lw_V (pc := 700) (rest := []) hx hb hml hown hg hnw hK hA (k_Lm_sheet l (a0 := 0) ⟨by decide, rfl⟩ h1) sm_Lm_sheet ml_Lw_103 im_Lm_sheet se_Lm_sheet gcX10 rfl ⟨by decide, rfl⟩ ⟨rfl, rfl, Nat.le_of_ble_eq_true rfl, Nat.le_of_ble_eq_true rfl⟩ ⟨Nat.le_of_ble_eq_true rfl, Nat.le_of_ble_eq_true rfl⟩ hP1 hP2 hD1 hdis hS hl.1 rfl rfl (Nat.le_of_ble_eq_true rfl) dL_law_700 [.int r] rfl (fun H locs hP1 hP2 hS => ?_)
  refine lv_aload_n (pc := 703) hx hb dL_law_703 rfl (lv_at hl 2 rfl) ?_
  refine lv_aload_n (pc := 704) hx hb dL_law_704 rfl (lv_at hl 0 rfl) ?_
  refine lv_iload_n (pc := 705) hx hb dL_law_705 rfl (lv_at hl 3 rfl) ?_
  refine lv_iconst (pc := 706) (v := 1) hx hb dL_law_706 (by decide) ?_
  refine lv_iadd (pc := 707) hx hb dL_law_707 ?_
  refine va_sld (pc := 708) hx hb hX hbl hbA hS (lw_ix hL hi6 (k := 1) (by decide)) dL_law_708 ?_
  refine lv_aload_n (pc := 709) hx hb dL_law_709 rfl (lv_at hl 0 rfl) ?_
  refine lv_iload_n (pc := 710) hx hb dL_law_710 rfl (lv_at hl 3 rfl) ?_
  refine lv_iconst (pc := 711) (v := 2) hx hb dL_law_711 (by decide) ?_
  refine lv_iadd (pc := 712) hx hb dL_law_712 ?_
  refine va_sld (pc := 713) hx hb hX hbl hbA hS (lw_ix hL hi6 (k := 2) (by decide)) dL_law_713 ?_
  refine lw_V (pc := 714) (rest := [.int r]) hx hb hml hown hg hnw hK hA (k_Mo_sheet l (a0 := 0) ⟨by decide, rfl⟩ h2) sm_Mo_sheet ml_Lw_106 im_Mo_sheet se_Mo_sheet gcX11 rfl ⟨by decide, rfl⟩ ⟨rfl, rfl, Nat.le_of_ble_eq_true rfl, Nat.le_of_ble_eq_true rfl⟩ ⟨Nat.le_of_ble_eq_true rfl, Nat.le_of_ble_eq_true rfl⟩ hP2 hP1 hD2 (fun i j hi hj e => hdis j i hj hi e.symm) hS hl.1 rfl rfl (Nat.le_of_ble_eq_true rfl) dL_law_714 [.int r, .int r] rfl (fun H locs hP2 hP1 hS => ?_)
  refine lv_icmp_eq (pc := 717) (tgt := 945) hx hb dL_law_717 rfl (fun _ => ?_) (fun e => absurd rfl e)
  exact ih _ _ _ _ _ _ hRel2 _ _ hP1 hP2 hS
set_option maxRecDepth 20000 in
theorem law_lose {p : Program} {l : Launch} {e : Env} {s : State} {m : MethodId} {below : List Frame} {meth : Method} {c : Code} {b L : Nat} {xs : Nat → Int32} (hL : L ≤ 3072) (C0 : lw_At p s m meth c b L xs) {D : va_G} {yc : Nat → ClassId} (hK : va_K D gcl (gtys yc) s) {ad1 ad2 : Nat → Nat} (hD1 : gin (fun q => s.heap.size ≤ q) ad1 nC) (hD2 : gin (fun q => s.heap.size ≤ q) ad2 nM) (hdis : ∀ i j, i < nC → j < nM → ad1 i ≠ ad2 j) {Rel : HI → HJ → HN → HI → HJ → HN → Prop} (hok : ok_lose Rel) {i : Nat} (hi6 : i + 6 ≤ L) {I I2 : HI} {J J2 : HJ} {N N2 : HN} (hRel : Rel I J N I2 J2 N2) {H : Heap} {locs : List Loc} {ls : Array Slot} (hP1 : va_P D gcl (gwd Tc yc ad1 nC I J N) H) (hP2 : va_P D gcl (gwd Tm yc ad2 nM I2 J2 N2) H) (hS : va_S (fun q => s.heap.size ≤ q) s.heap H locs) (hl : lv_has ls 4 [(0, .ref b), (1, .ref (ad1 0)), (2, .ref (ad2 0)), (3, .int (nI i))]) (ih : ∀ (I I2 : HI) (J J2 : HJ) (N N2 : HN), Rel I J N I2 J2 N2 → ∀ (H : Heap) (locs : List Loc), va_P D gcl (gwd Tc yc ad1 nC I J N) H → va_P D gcl (gwd Tm yc ad2 nM I2 J2 N2) H → va_S (fun q => s.heap.size ≤ q) s.heap H locs → W p l e room_1 s m #[Value.ref b] below meth c H locs 118 1437 (lw_Z below #[Value.ref b] s) (F0 m 945 ls [])) : W p l e room_1 s m #[Value.ref b] below meth c H locs 118 1437 (lw_Z below #[Value.ref b] s) (F0 m 722 ls []) := by
  obtain ⟨hx, hb, hr, hml, hown, hts, hX, hbl, hlocks, hgv⟩ := id C0
  have hg := lw_hg C0
  have hnw := lw_nw C0
  have hA : ∀ q : Nat, s.heap.size ≤ q → (fun q : Nat => s.heap.size ≤ q) q := fun _ h => h
  have hbA : ¬ (fun q : Nat => s.heap.size ≤ q) b := Nat.not_le.mpr hbl
  obtain ⟨I9, I29, r, h1, h2, hRel2⟩ := hok I J N I2 J2 N2 hRel (xs (nI i + 1).toNatClampNeg)
  refine lv_aload_n (pc := 722) hx hb dL_law_722 rfl (lv_at hl 1 rfl) ?_
  refine lv_aload_n (pc := 723) hx hb dL_law_723 rfl (lv_at hl 0 rfl) ?_
  refine lv_iload_n (pc := 724) hx hb dL_law_724 rfl (lv_at hl 3 rfl) ?_
  refine lv_iconst (pc := 725) (v := 1) hx hb dL_law_725 (by decide) ?_
  refine lv_iadd (pc := 726) hx hb dL_law_726 ?_
  refine va_sld (pc := 727) hx hb hX hbl hbA hS (lw_ix hL hi6 (k := 1) (by decide)) dL_law_727 ?_
  refine lw_V (pc := 728) (rest := []) hx hb hml hown hg hnw hK hA (k_Lm_lose l (a0 := 0) ⟨by decide, rfl⟩ h1) sm_Lm_lose ml_Lw_107 im_Lm_lose se_Lm_lose gcX10 rfl ⟨by decide, rfl⟩ ⟨rfl, rfl, Nat.le_of_ble_eq_true rfl, Nat.le_of_ble_eq_true rfl⟩ ⟨Nat.le_of_ble_eq_true rfl, Nat.le_of_ble_eq_true rfl⟩ hP1 hP2 hD1 hdis hS hl.1 rfl rfl (Nat.le_of_ble_eq_true rfl) dL_law_728 [.int r] rfl (fun H locs hP1 hP2 hS => ?_)
  refine lv_aload_n (pc := 731) hx hb dL_law_731 rfl (lv_at hl 2 rfl) ?_
  refine lv_aload_n (pc := 732) hx hb dL_law_732 rfl (lv_at hl 0 rfl) ?_
  refine lv_iload_n (pc := 733) hx hb dL_law_733 rfl (lv_at hl 3 rfl) ?_
  refine lv_iconst (pc := 734) (v := 1) hx hb dL_law_734 (by decide) ?_
  refine lv_iadd (pc := 735) hx hb dL_law_735 ?_
  refine va_sld (pc := 736) hx hb hX hbl hbA hS (lw_ix hL hi6 (k := 1) (by decide)) dL_law_736 ?_
  refine lw_V (pc := 737) (rest := [.int r]) hx hb hml hown hg hnw hK hA (k_Mo_lose l (a0 := 0) ⟨by decide, rfl⟩ h2) sm_Mo_lose ml_Lw_110 im_Mo_lose se_Mo_lose gcX11 rfl ⟨by decide, rfl⟩ ⟨rfl, rfl, Nat.le_of_ble_eq_true rfl, Nat.le_of_ble_eq_true rfl⟩ ⟨Nat.le_of_ble_eq_true rfl, Nat.le_of_ble_eq_true rfl⟩ hP2 hP1 hD2 (fun i j hi hj e => hdis j i hj hi e.symm) hS hl.1 rfl rfl (Nat.le_of_ble_eq_true rfl) dL_law_737 [.int r, .int r] rfl (fun H locs hP2 hP1 hS => ?_)
  refine lv_icmp_eq (pc := 740) (tgt := 945) hx hb dL_law_740 rfl (fun _ => ?_) (fun e => absurd rfl e)
  exact ih _ _ _ _ _ _ hRel2 _ _ hP1 hP2 hS
set_option maxRecDepth 20000 in
theorem law_lay {p : Program} {l : Launch} {e : Env} {s : State} {m : MethodId} {below : List Frame} {meth : Method} {c : Code} {b L : Nat} {xs : Nat → Int32} (hL : L ≤ 3072) (C0 : lw_At p s m meth c b L xs) {D : va_G} {yc : Nat → ClassId} (hK : va_K D gcl (gtys yc) s) {ad1 ad2 : Nat → Nat} (hD1 : gin (fun q => s.heap.size ≤ q) ad1 nC) (hD2 : gin (fun q => s.heap.size ≤ q) ad2 nM) (hdis : ∀ i j, i < nC → j < nM → ad1 i ≠ ad2 j) {Rel : HI → HJ → HN → HI → HJ → HN → Prop} (hok : ok_lay Rel) {i : Nat} (hi6 : i + 6 ≤ L) {I I2 : HI} {J J2 : HJ} {N N2 : HN} (hRel : Rel I J N I2 J2 N2) {H : Heap} {locs : List Loc} {ls : Array Slot} (hP1 : va_P D gcl (gwd Tc yc ad1 nC I J N) H) (hP2 : va_P D gcl (gwd Tm yc ad2 nM I2 J2 N2) H) (hS : va_S (fun q => s.heap.size ≤ q) s.heap H locs) (hl : lv_has ls 4 [(0, .ref b), (1, .ref (ad1 0)), (2, .ref (ad2 0)), (3, .int (nI i))]) (ih : ∀ (I I2 : HI) (J J2 : HJ) (N N2 : HN), Rel I J N I2 J2 N2 → ∀ (H : Heap) (locs : List Loc), va_P D gcl (gwd Tc yc ad1 nC I J N) H → va_P D gcl (gwd Tm yc ad2 nM I2 J2 N2) H → va_S (fun q => s.heap.size ≤ q) s.heap H locs → W p l e room_1 s m #[Value.ref b] below meth c H locs 118 1437 (lw_Z below #[Value.ref b] s) (F0 m 945 ls [])) : W p l e room_1 s m #[Value.ref b] below meth c H locs 118 1437 (lw_Z below #[Value.ref b] s) (F0 m 745 ls []) := by
  obtain ⟨hx, hb, hr, hml, hown, hts, hX, hbl, hlocks, hgv⟩ := id C0
  have hg := lw_hg C0
  have hnw := lw_nw C0
  have hA : ∀ q : Nat, s.heap.size ≤ q → (fun q : Nat => s.heap.size ≤ q) q := fun _ h => h
  have hbA : ¬ (fun q : Nat => s.heap.size ≤ q) b := Nat.not_le.mpr hbl
  obtain ⟨I9, J9, I29, J29, r, h1, h2, hRel2⟩ := hok I J N I2 J2 N2 hRel (xs (nI i + 1).toNatClampNeg) (xs (nI i + 2).toNatClampNeg) (xs (nI i + 3).toNatClampNeg)
  refine lv_aload_n (pc := 745) hx hb dL_law_745 rfl (lv_at hl 1 rfl) ?_
  refine lv_aload_n (pc := 746) hx hb dL_law_746 rfl (lv_at hl 0 rfl) ?_
  refine lv_iload_n (pc := 747) hx hb dL_law_747 rfl (lv_at hl 3 rfl) ?_
  refine lv_iconst (pc := 748) (v := 1) hx hb dL_law_748 (by decide) ?_
  refine lv_iadd (pc := 749) hx hb dL_law_749 ?_
  refine va_sld (pc := 750) hx hb hX hbl hbA hS (lw_ix hL hi6 (k := 1) (by decide)) dL_law_750 ?_
  refine lv_aload_n (pc := 751) hx hb dL_law_751 rfl (lv_at hl 0 rfl) ?_
  refine lv_iload_n (pc := 752) hx hb dL_law_752 rfl (lv_at hl 3 rfl) ?_
  refine lv_iconst (pc := 753) (v := 2) hx hb dL_law_753 (by decide) ?_
  refine lv_iadd (pc := 754) hx hb dL_law_754 ?_
  refine va_sld (pc := 755) hx hb hX hbl hbA hS (lw_ix hL hi6 (k := 2) (by decide)) dL_law_755 ?_
  refine lv_aload_n (pc := 756) hx hb dL_law_756 rfl (lv_at hl 0 rfl) ?_
  refine lv_iload_n (pc := 757) hx hb dL_law_757 rfl (lv_at hl 3 rfl) ?_
  refine lv_iconst (pc := 758) (v := 3) hx hb dL_law_758 (by decide) ?_
  refine lv_iadd (pc := 759) hx hb dL_law_759 ?_
  refine va_sld (pc := 760) hx hb hX hbl hbA hS (lw_ix hL hi6 (k := 3) (by decide)) dL_law_760 ?_
  refine lw_V (pc := 761) (rest := []) hx hb hml hown hg hnw hK hA (k_Lm_lay l (a0 := 0) ⟨by decide, rfl⟩ h1) sm_Lm_lay ml_Lw_111 im_Lm_lay se_Lm_lay gcX10 rfl ⟨by decide, rfl⟩ ⟨rfl, rfl, Nat.le_of_ble_eq_true rfl, Nat.le_of_ble_eq_true rfl⟩ ⟨Nat.le_of_ble_eq_true rfl, Nat.le_of_ble_eq_true rfl⟩ hP1 hP2 hD1 hdis hS hl.1 rfl rfl (Nat.le_of_ble_eq_true rfl) dL_law_761 [.int r] rfl (fun H locs hP1 hP2 hS => ?_)
  refine lv_aload_n (pc := 764) hx hb dL_law_764 rfl (lv_at hl 2 rfl) ?_
  refine lv_aload_n (pc := 765) hx hb dL_law_765 rfl (lv_at hl 0 rfl) ?_
  refine lv_iload_n (pc := 766) hx hb dL_law_766 rfl (lv_at hl 3 rfl) ?_
  refine lv_iconst (pc := 767) (v := 1) hx hb dL_law_767 (by decide) ?_
  refine lv_iadd (pc := 768) hx hb dL_law_768 ?_
  refine va_sld (pc := 769) hx hb hX hbl hbA hS (lw_ix hL hi6 (k := 1) (by decide)) dL_law_769 ?_
  refine lv_aload_n (pc := 770) hx hb dL_law_770 rfl (lv_at hl 0 rfl) ?_
  refine lv_iload_n (pc := 771) hx hb dL_law_771 rfl (lv_at hl 3 rfl) ?_
  refine lv_iconst (pc := 772) (v := 2) hx hb dL_law_772 (by decide) ?_
  refine lv_iadd (pc := 773) hx hb dL_law_773 ?_
  refine va_sld (pc := 774) hx hb hX hbl hbA hS (lw_ix hL hi6 (k := 2) (by decide)) dL_law_774 ?_
  refine lv_aload_n (pc := 775) hx hb dL_law_775 rfl (lv_at hl 0 rfl) ?_
  refine lv_iload_n (pc := 776) hx hb dL_law_776 rfl (lv_at hl 3 rfl) ?_
  refine lv_iconst (pc := 777) (v := 3) hx hb dL_law_777 (by decide) ?_
  refine lv_iadd (pc := 778) hx hb dL_law_778 ?_
  refine va_sld (pc := 779) hx hb hX hbl hbA hS (lw_ix hL hi6 (k := 3) (by decide)) dL_law_779 ?_
  refine lw_V (pc := 780) (rest := [.int r]) hx hb hml hown hg hnw hK hA (k_Mo_lay l (a0 := 0) ⟨by decide, rfl⟩ h2) sm_Mo_lay ml_Lw_114 im_Mo_lay se_Mo_lay gcX11 rfl ⟨by decide, rfl⟩ ⟨rfl, rfl, Nat.le_of_ble_eq_true rfl, Nat.le_of_ble_eq_true rfl⟩ ⟨Nat.le_of_ble_eq_true rfl, Nat.le_of_ble_eq_true rfl⟩ hP2 hP1 hD2 (fun i j hi hj e => hdis j i hj hi e.symm) hS hl.1 rfl rfl (Nat.le_of_ble_eq_true rfl) dL_law_780 [.int r, .int r] rfl (fun H locs hP2 hP1 hS => ?_)
  refine lv_icmp_eq (pc := 783) (tgt := 945) hx hb dL_law_783 rfl (fun _ => ?_) (fun e => absurd rfl e)
  exact ih _ _ _ _ _ _ hRel2 _ _ hP1 hP2 hS
set_option maxRecDepth 20000 in
theorem law_get {p : Program} {l : Launch} {e : Env} {s : State} {m : MethodId} {below : List Frame} {meth : Method} {c : Code} {b L : Nat} {xs : Nat → Int32} (hL : L ≤ 3072) (C0 : lw_At p s m meth c b L xs) {D : va_G} {yc : Nat → ClassId} (hK : va_K D gcl (gtys yc) s) {ad1 ad2 : Nat → Nat} (hD1 : gin (fun q => s.heap.size ≤ q) ad1 nC) (hD2 : gin (fun q => s.heap.size ≤ q) ad2 nM) (hdis : ∀ i j, i < nC → j < nM → ad1 i ≠ ad2 j) {Rel : HI → HJ → HN → HI → HJ → HN → Prop} (hok : ok_get Rel) {i : Nat} (hi6 : i + 6 ≤ L) {I I2 : HI} {J J2 : HJ} {N N2 : HN} (hRel : Rel I J N I2 J2 N2) {H : Heap} {locs : List Loc} {ls : Array Slot} (hP1 : va_P D gcl (gwd Tc yc ad1 nC I J N) H) (hP2 : va_P D gcl (gwd Tm yc ad2 nM I2 J2 N2) H) (hS : va_S (fun q => s.heap.size ≤ q) s.heap H locs) (hl : lv_has ls 4 [(0, .ref b), (1, .ref (ad1 0)), (2, .ref (ad2 0)), (3, .int (nI i))]) (ih : ∀ (I I2 : HI) (J J2 : HJ) (N N2 : HN), Rel I J N I2 J2 N2 → ∀ (H : Heap) (locs : List Loc), va_P D gcl (gwd Tc yc ad1 nC I J N) H → va_P D gcl (gwd Tm yc ad2 nM I2 J2 N2) H → va_S (fun q => s.heap.size ≤ q) s.heap H locs → W p l e room_1 s m #[Value.ref b] below meth c H locs 118 1437 (lw_Z below #[Value.ref b] s) (F0 m 945 ls [])) : W p l e room_1 s m #[Value.ref b] below meth c H locs 118 1437 (lw_Z below #[Value.ref b] s) (F0 m 788 ls []) := by
  obtain ⟨hx, hb, hr, hml, hown, hts, hX, hbl, hlocks, hgv⟩ := id C0
  have hg := lw_hg C0
  have hnw := lw_nw C0
  have hA : ∀ q : Nat, s.heap.size ≤ q → (fun q : Nat => s.heap.size ≤ q) q := fun _ h => h
  have hbA : ¬ (fun q : Nat => s.heap.size ≤ q) b := Nat.not_le.mpr hbl
  obtain ⟨I9, I29, r, h1, h2, hRel2⟩ := hok I J N I2 J2 N2 hRel (xs (nI i + 1).toNatClampNeg) (xs (nI i + 2).toNatClampNeg)
  refine lv_aload_n (pc := 788) hx hb dL_law_788 rfl (lv_at hl 1 rfl) ?_
  refine lv_aload_n (pc := 789) hx hb dL_law_789 rfl (lv_at hl 0 rfl) ?_
  refine lv_iload_n (pc := 790) hx hb dL_law_790 rfl (lv_at hl 3 rfl) ?_
  refine lv_iconst (pc := 791) (v := 1) hx hb dL_law_791 (by decide) ?_
  refine lv_iadd (pc := 792) hx hb dL_law_792 ?_
  refine va_sld (pc := 793) hx hb hX hbl hbA hS (lw_ix hL hi6 (k := 1) (by decide)) dL_law_793 ?_
  refine lv_aload_n (pc := 794) hx hb dL_law_794 rfl (lv_at hl 0 rfl) ?_
  refine lv_iload_n (pc := 795) hx hb dL_law_795 rfl (lv_at hl 3 rfl) ?_
  refine lv_iconst (pc := 796) (v := 2) hx hb dL_law_796 (by decide) ?_
  refine lv_iadd (pc := 797) hx hb dL_law_797 ?_
  refine va_sld (pc := 798) hx hb hX hbl hbA hS (lw_ix hL hi6 (k := 2) (by decide)) dL_law_798 ?_
  refine lw_V (pc := 799) (rest := []) hx hb hml hown hg hnw hK hA (k_Lm_get l (a0 := 0) ⟨by decide, rfl⟩ h1) sm_Lm_get ml_Lw_115 im_Lm_get se_Lm_get gcX10 rfl ⟨by decide, rfl⟩ ⟨rfl, rfl, Nat.le_of_ble_eq_true rfl, Nat.le_of_ble_eq_true rfl⟩ ⟨Nat.le_of_ble_eq_true rfl, Nat.le_of_ble_eq_true rfl⟩ hP1 hP2 hD1 hdis hS hl.1 rfl rfl (Nat.le_of_ble_eq_true rfl) dL_law_799 [.long r] rfl (fun H locs hP1 hP2 hS => ?_)
  refine lv_aload_n (pc := 802) hx hb dL_law_802 rfl (lv_at hl 2 rfl) ?_
  refine lv_aload_n (pc := 803) hx hb dL_law_803 rfl (lv_at hl 0 rfl) ?_
  refine lv_iload_n (pc := 804) hx hb dL_law_804 rfl (lv_at hl 3 rfl) ?_
  refine lv_iconst (pc := 805) (v := 1) hx hb dL_law_805 (by decide) ?_
  refine lv_iadd (pc := 806) hx hb dL_law_806 ?_
  refine va_sld (pc := 807) hx hb hX hbl hbA hS (lw_ix hL hi6 (k := 1) (by decide)) dL_law_807 ?_
  refine lv_aload_n (pc := 808) hx hb dL_law_808 rfl (lv_at hl 0 rfl) ?_
  refine lv_iload_n (pc := 809) hx hb dL_law_809 rfl (lv_at hl 3 rfl) ?_
  refine lv_iconst (pc := 810) (v := 2) hx hb dL_law_810 (by decide) ?_
  refine lv_iadd (pc := 811) hx hb dL_law_811 ?_
  refine va_sld (pc := 812) hx hb hX hbl hbA hS (lw_ix hL hi6 (k := 2) (by decide)) dL_law_812 ?_
  refine lw_V (pc := 813) (rest := [.long r]) hx hb hml hown hg hnw hK hA (k_Mo_get l (a0 := 0) ⟨by decide, rfl⟩ h2) sm_Mo_get ml_Lw_118 im_Mo_get se_Mo_get gcX11 rfl ⟨by decide, rfl⟩ ⟨rfl, rfl, Nat.le_of_ble_eq_true rfl, Nat.le_of_ble_eq_true rfl⟩ ⟨Nat.le_of_ble_eq_true rfl, Nat.le_of_ble_eq_true rfl⟩ hP2 hP1 hD2 (fun i j hi hj e => hdis j i hj hi e.symm) hS hl.1 rfl rfl (Nat.le_of_ble_eq_true rfl) dL_law_813 [.long r, .long r] rfl (fun H locs hP2 hP1 hS => ?_)
  refine W.lcmp (pc := 816) hx hb dL_law_816 ?_
  refine lv_if_eq (pc := 817) (tgt := 945) hx hb dL_law_817 rfl (fun _ => ?_) (fun e => absurd ((lg_cmp_eq _ _).mpr rfl) e)
  exact ih _ _ _ _ _ _ hRel2 _ _ hP1 hP2 hS
set_option maxRecDepth 20000 in
theorem law_copy {p : Program} {l : Launch} {e : Env} {s : State} {m : MethodId} {below : List Frame} {meth : Method} {c : Code} {b L : Nat} {xs : Nat → Int32} (hL : L ≤ 3072) (C0 : lw_At p s m meth c b L xs) {D : va_G} {yc : Nat → ClassId} (hK : va_K D gcl (gtys yc) s) {ad1 ad2 : Nat → Nat} (hD1 : gin (fun q => s.heap.size ≤ q) ad1 nC) (hD2 : gin (fun q => s.heap.size ≤ q) ad2 nM) (hdis : ∀ i j, i < nC → j < nM → ad1 i ≠ ad2 j) {Rel : HI → HJ → HN → HI → HJ → HN → Prop} (hok : ok_copy Rel) {i : Nat} (hi6 : i + 6 ≤ L) {I I2 : HI} {J J2 : HJ} {N N2 : HN} (hRel : Rel I J N I2 J2 N2) {H : Heap} {locs : List Loc} {ls : Array Slot} (hP1 : va_P D gcl (gwd Tc yc ad1 nC I J N) H) (hP2 : va_P D gcl (gwd Tm yc ad2 nM I2 J2 N2) H) (hS : va_S (fun q => s.heap.size ≤ q) s.heap H locs) (hl : lv_has ls 4 [(0, .ref b), (1, .ref (ad1 0)), (2, .ref (ad2 0)), (3, .int (nI i))]) (ih : ∀ (I I2 : HI) (J J2 : HJ) (N N2 : HN), Rel I J N I2 J2 N2 → ∀ (H : Heap) (locs : List Loc), va_P D gcl (gwd Tc yc ad1 nC I J N) H → va_P D gcl (gwd Tm yc ad2 nM I2 J2 N2) H → va_S (fun q => s.heap.size ≤ q) s.heap H locs → W p l e room_1 s m #[Value.ref b] below meth c H locs 118 1437 (lw_Z below #[Value.ref b] s) (F0 m 945 ls [])) : W p l e room_1 s m #[Value.ref b] below meth c H locs 118 1437 (lw_Z below #[Value.ref b] s) (F0 m 822 ls []) := by
  obtain ⟨hx, hb, hr, hml, hown, hts, hX, hbl, hlocks, hgv⟩ := id C0
  have hg := lw_hg C0
  have hnw := lw_nw C0
  have hA : ∀ q : Nat, s.heap.size ≤ q → (fun q : Nat => s.heap.size ≤ q) q := fun _ h => h
  have hbA : ¬ (fun q : Nat => s.heap.size ≤ q) b := Nat.not_le.mpr hbl
  obtain ⟨I9, J9, I29, J29, r, h1, h2, hRel2⟩ := hok I J N I2 J2 N2 hRel (xs (nI i + 1).toNatClampNeg) (xs (nI i + 2).toNatClampNeg) (xs (nI i + 3).toNatClampNeg) (xs (nI i + 4).toNatClampNeg) (xs (nI i + 5).toNatClampNeg)
  refine lv_aload_n (pc := 822) hx hb dL_law_822 rfl (lv_at hl 1 rfl) ?_
  refine lv_aload_n (pc := 823) hx hb dL_law_823 rfl (lv_at hl 0 rfl) ?_
  refine lv_iload_n (pc := 824) hx hb dL_law_824 rfl (lv_at hl 3 rfl) ?_
  refine lv_iconst (pc := 825) (v := 1) hx hb dL_law_825 (by decide) ?_
  refine lv_iadd (pc := 826) hx hb dL_law_826 ?_
  refine va_sld (pc := 827) hx hb hX hbl hbA hS (lw_ix hL hi6 (k := 1) (by decide)) dL_law_827 ?_
  refine lv_aload_n (pc := 828) hx hb dL_law_828 rfl (lv_at hl 0 rfl) ?_
  refine lv_iload_n (pc := 829) hx hb dL_law_829 rfl (lv_at hl 3 rfl) ?_
  refine lv_iconst (pc := 830) (v := 2) hx hb dL_law_830 (by decide) ?_
  refine lv_iadd (pc := 831) hx hb dL_law_831 ?_
  refine va_sld (pc := 832) hx hb hX hbl hbA hS (lw_ix hL hi6 (k := 2) (by decide)) dL_law_832 ?_
  refine lv_aload_n (pc := 833) hx hb dL_law_833 rfl (lv_at hl 0 rfl) ?_
  refine lv_iload_n (pc := 834) hx hb dL_law_834 rfl (lv_at hl 3 rfl) ?_
  refine lv_iconst (pc := 835) (v := 3) hx hb dL_law_835 (by decide) ?_
  refine lv_iadd (pc := 836) hx hb dL_law_836 ?_
  refine va_sld (pc := 837) hx hb hX hbl hbA hS (lw_ix hL hi6 (k := 3) (by decide)) dL_law_837 ?_
  refine lv_aload_n (pc := 838) hx hb dL_law_838 rfl (lv_at hl 0 rfl) ?_
  refine lv_iload_n (pc := 839) hx hb dL_law_839 rfl (lv_at hl 3 rfl) ?_
  refine lv_iconst (pc := 840) (v := 4) hx hb dL_law_840 (by decide) ?_
  refine lv_iadd (pc := 841) hx hb dL_law_841 ?_
  refine va_sld (pc := 842) hx hb hX hbl hbA hS (lw_ix hL hi6 (k := 4) (by decide)) dL_law_842 ?_
  refine lv_aload_n (pc := 843) hx hb dL_law_843 rfl (lv_at hl 0 rfl) ?_
  refine lv_iload_n (pc := 844) hx hb dL_law_844 rfl (lv_at hl 3 rfl) ?_
  refine lv_iconst (pc := 845) (v := 5) hx hb dL_law_845 (by decide) ?_
  refine lv_iadd (pc := 846) hx hb dL_law_846 ?_
  refine va_sld (pc := 847) hx hb hX hbl hbA hS (lw_ix hL hi6 (k := 5) (by decide)) dL_law_847 ?_
  refine lw_V (pc := 848) (rest := []) hx hb hml hown hg hnw hK hA (k_Lm_copy l (a0 := 0) ⟨by decide, rfl⟩ h1) sm_Lm_copy ml_Lw_119 im_Lm_copy se_Lm_copy gcX10 rfl ⟨by decide, rfl⟩ ⟨rfl, rfl, Nat.le_of_ble_eq_true rfl, Nat.le_of_ble_eq_true rfl⟩ ⟨Nat.le_of_ble_eq_true rfl, Nat.le_of_ble_eq_true rfl⟩ hP1 hP2 hD1 hdis hS hl.1 rfl rfl (Nat.le_of_ble_eq_true rfl) dL_law_848 [.int r] rfl (fun H locs hP1 hP2 hS => ?_)
  refine lv_aload_n (pc := 851) hx hb dL_law_851 rfl (lv_at hl 2 rfl) ?_
  refine lv_aload_n (pc := 852) hx hb dL_law_852 rfl (lv_at hl 0 rfl) ?_
  refine lv_iload_n (pc := 853) hx hb dL_law_853 rfl (lv_at hl 3 rfl) ?_
  refine lv_iconst (pc := 854) (v := 1) hx hb dL_law_854 (by decide) ?_
  refine lv_iadd (pc := 855) hx hb dL_law_855 ?_
  refine va_sld (pc := 856) hx hb hX hbl hbA hS (lw_ix hL hi6 (k := 1) (by decide)) dL_law_856 ?_
  refine lv_aload_n (pc := 857) hx hb dL_law_857 rfl (lv_at hl 0 rfl) ?_
  refine lv_iload_n (pc := 858) hx hb dL_law_858 rfl (lv_at hl 3 rfl) ?_
  refine lv_iconst (pc := 859) (v := 2) hx hb dL_law_859 (by decide) ?_
  refine lv_iadd (pc := 860) hx hb dL_law_860 ?_
  refine va_sld (pc := 861) hx hb hX hbl hbA hS (lw_ix hL hi6 (k := 2) (by decide)) dL_law_861 ?_
  refine lv_aload_n (pc := 862) hx hb dL_law_862 rfl (lv_at hl 0 rfl) ?_
  refine lv_iload_n (pc := 863) hx hb dL_law_863 rfl (lv_at hl 3 rfl) ?_
  refine lv_iconst (pc := 864) (v := 3) hx hb dL_law_864 (by decide) ?_
  refine lv_iadd (pc := 865) hx hb dL_law_865 ?_
  refine va_sld (pc := 866) hx hb hX hbl hbA hS (lw_ix hL hi6 (k := 3) (by decide)) dL_law_866 ?_
  refine lv_aload_n (pc := 867) hx hb dL_law_867 rfl (lv_at hl 0 rfl) ?_
  refine lv_iload_n (pc := 868) hx hb dL_law_868 rfl (lv_at hl 3 rfl) ?_
  refine lv_iconst (pc := 869) (v := 4) hx hb dL_law_869 (by decide) ?_
  refine lv_iadd (pc := 870) hx hb dL_law_870 ?_
  refine va_sld (pc := 871) hx hb hX hbl hbA hS (lw_ix hL hi6 (k := 4) (by decide)) dL_law_871 ?_
  refine lv_aload_n (pc := 872) hx hb dL_law_872 rfl (lv_at hl 0 rfl) ?_
  refine lv_iload_n (pc := 873) hx hb dL_law_873 rfl (lv_at hl 3 rfl) ?_
  refine lv_iconst (pc := 874) (v := 5) hx hb dL_law_874 (by decide) ?_
  refine lv_iadd (pc := 875) hx hb dL_law_875 ?_
  refine va_sld (pc := 876) hx hb hX hbl hbA hS (lw_ix hL hi6 (k := 5) (by decide)) dL_law_876 ?_
  refine lw_V (pc := 877) (rest := [.int r]) hx hb hml hown hg hnw hK hA (k_Mo_copy l (a0 := 0) ⟨by decide, rfl⟩ h2) sm_Mo_copy ml_Lw_123 im_Mo_copy se_Mo_copy gcX11 rfl ⟨by decide, rfl⟩ ⟨rfl, rfl, Nat.le_of_ble_eq_true rfl, Nat.le_of_ble_eq_true rfl⟩ ⟨Nat.le_of_ble_eq_true rfl, Nat.le_of_ble_eq_true rfl⟩ hP2 hP1 hD2 (fun i j hi hj e => hdis j i hj hi e.symm) hS hl.1 rfl rfl (Nat.le_of_ble_eq_true rfl) dL_law_877 [.int r, .int r] rfl (fun H locs hP2 hP1 hS => ?_)
  refine lv_icmp_eq (pc := 880) (tgt := 945) hx hb dL_law_880 rfl (fun _ => ?_) (fun e => absurd rfl e)
  exact ih _ _ _ _ _ _ hRel2 _ _ hP1 hP2 hS
set_option maxRecDepth 20000 in
theorem law_write {p : Program} {l : Launch} {e : Env} {s : State} {m : MethodId} {below : List Frame} {meth : Method} {c : Code} {b L : Nat} {xs : Nat → Int32} (hL : L ≤ 3072) (C0 : lw_At p s m meth c b L xs) {D : va_G} {yc : Nat → ClassId} (hK : va_K D gcl (gtys yc) s) {ad1 ad2 : Nat → Nat} (hD1 : gin (fun q => s.heap.size ≤ q) ad1 nC) (hD2 : gin (fun q => s.heap.size ≤ q) ad2 nM) (hdis : ∀ i j, i < nC → j < nM → ad1 i ≠ ad2 j) {Rel : HI → HJ → HN → HI → HJ → HN → Prop} (hok : ok_write Rel) {i : Nat} (hi6 : i + 6 ≤ L) {I I2 : HI} {J J2 : HJ} {N N2 : HN} (hRel : Rel I J N I2 J2 N2) {H : Heap} {locs : List Loc} {ls : Array Slot} (hP1 : va_P D gcl (gwd Tc yc ad1 nC I J N) H) (hP2 : va_P D gcl (gwd Tm yc ad2 nM I2 J2 N2) H) (hS : va_S (fun q => s.heap.size ≤ q) s.heap H locs) (hl : lv_has ls 4 [(0, .ref b), (1, .ref (ad1 0)), (2, .ref (ad2 0)), (3, .int (nI i))]) (ih : ∀ (I I2 : HI) (J J2 : HJ) (N N2 : HN), Rel I J N I2 J2 N2 → ∀ (H : Heap) (locs : List Loc), va_P D gcl (gwd Tc yc ad1 nC I J N) H → va_P D gcl (gwd Tm yc ad2 nM I2 J2 N2) H → va_S (fun q => s.heap.size ≤ q) s.heap H locs → W p l e room_1 s m #[Value.ref b] below meth c H locs 118 1437 (lw_Z below #[Value.ref b] s) (F0 m 945 ls [])) : W p l e room_1 s m #[Value.ref b] below meth c H locs 118 1437 (lw_Z below #[Value.ref b] s) (F0 m 885 ls []) := by
  obtain ⟨hx, hb, hr, hml, hown, hts, hX, hbl, hlocks, hgv⟩ := id C0
  have hg := lw_hg C0
  have hnw := lw_nw C0
  have hA : ∀ q : Nat, s.heap.size ≤ q → (fun q : Nat => s.heap.size ≤ q) q := fun _ h => h
  have hbA : ¬ (fun q : Nat => s.heap.size ≤ q) b := Nat.not_le.mpr hbl
  obtain ⟨I9, J9, I29, J29, r, h1, h2, hRel2⟩ := hok I J N I2 J2 N2 hRel (xs (nI i + 1).toNatClampNeg)
  refine lv_aload_n (pc := 885) hx hb dL_law_885 rfl (lv_at hl 1 rfl) ?_
  refine lv_aload_n (pc := 886) hx hb dL_law_886 rfl (lv_at hl 0 rfl) ?_
  refine lv_iload_n (pc := 887) hx hb dL_law_887 rfl (lv_at hl 3 rfl) ?_
  refine lv_iconst (pc := 888) (v := 1) hx hb dL_law_888 (by decide) ?_
  refine lv_iadd (pc := 889) hx hb dL_law_889 ?_
  refine va_sld (pc := 890) hx hb hX hbl hbA hS (lw_ix hL hi6 (k := 1) (by decide)) dL_law_890 ?_
  refine lw_V (pc := 891) (rest := []) hx hb hml hown hg hnw hK hA (k_Lm_write l (a0 := 0) ⟨by decide, rfl⟩ h1) sm_Lm_write ml_Lw_124 im_Lm_write se_Lm_write gcX10 rfl ⟨by decide, rfl⟩ ⟨rfl, rfl, Nat.le_of_ble_eq_true rfl, Nat.le_of_ble_eq_true rfl⟩ ⟨Nat.le_of_ble_eq_true rfl, Nat.le_of_ble_eq_true rfl⟩ hP1 hP2 hD1 hdis hS hl.1 rfl rfl (Nat.le_of_ble_eq_true rfl) dL_law_891 [.int r] rfl (fun H locs hP1 hP2 hS => ?_)
  refine lv_aload_n (pc := 894) hx hb dL_law_894 rfl (lv_at hl 2 rfl) ?_
  refine lv_aload_n (pc := 895) hx hb dL_law_895 rfl (lv_at hl 0 rfl) ?_
  refine lv_iload_n (pc := 896) hx hb dL_law_896 rfl (lv_at hl 3 rfl) ?_
  refine lv_iconst (pc := 897) (v := 1) hx hb dL_law_897 (by decide) ?_
  refine lv_iadd (pc := 898) hx hb dL_law_898 ?_
  refine va_sld (pc := 899) hx hb hX hbl hbA hS (lw_ix hL hi6 (k := 1) (by decide)) dL_law_899 ?_
  refine lw_V (pc := 900) (rest := [.int r]) hx hb hml hown hg hnw hK hA (k_Mo_write l (a0 := 0) ⟨by decide, rfl⟩ h2) sm_Mo_write ml_Lw_127 im_Mo_write se_Mo_write gcX11 rfl ⟨by decide, rfl⟩ ⟨rfl, rfl, Nat.le_of_ble_eq_true rfl, Nat.le_of_ble_eq_true rfl⟩ ⟨Nat.le_of_ble_eq_true rfl, Nat.le_of_ble_eq_true rfl⟩ hP2 hP1 hD2 (fun i j hi hj e => hdis j i hj hi e.symm) hS hl.1 rfl rfl (Nat.le_of_ble_eq_true rfl) dL_law_900 [.int r, .int r] rfl (fun H locs hP2 hP1 hS => ?_)
  refine lv_icmp_eq (pc := 903) (tgt := 945) hx hb dL_law_903 rfl (fun _ => ?_) (fun e => absurd rfl e)
  exact ih _ _ _ _ _ _ hRel2 _ _ hP1 hP2 hS
set_option maxRecDepth 20000 in
theorem law_count {p : Program} {l : Launch} {e : Env} {s : State} {m : MethodId} {below : List Frame} {meth : Method} {c : Code} {b L : Nat} {xs : Nat → Int32} (hL : L ≤ 3072) (C0 : lw_At p s m meth c b L xs) {D : va_G} {yc : Nat → ClassId} (hK : va_K D gcl (gtys yc) s) {ad1 ad2 : Nat → Nat} (hD1 : gin (fun q => s.heap.size ≤ q) ad1 nC) (hD2 : gin (fun q => s.heap.size ≤ q) ad2 nM) (hdis : ∀ i j, i < nC → j < nM → ad1 i ≠ ad2 j) {Rel : HI → HJ → HN → HI → HJ → HN → Prop} (hok : ok_count Rel) {i : Nat} (hi6 : i + 6 ≤ L) {I I2 : HI} {J J2 : HJ} {N N2 : HN} (hRel : Rel I J N I2 J2 N2) {H : Heap} {locs : List Loc} {ls : Array Slot} (hP1 : va_P D gcl (gwd Tc yc ad1 nC I J N) H) (hP2 : va_P D gcl (gwd Tm yc ad2 nM I2 J2 N2) H) (hS : va_S (fun q => s.heap.size ≤ q) s.heap H locs) (hl : lv_has ls 4 [(0, .ref b), (1, .ref (ad1 0)), (2, .ref (ad2 0)), (3, .int (nI i))]) (ih : ∀ (I I2 : HI) (J J2 : HJ) (N N2 : HN), Rel I J N I2 J2 N2 → ∀ (H : Heap) (locs : List Loc), va_P D gcl (gwd Tc yc ad1 nC I J N) H → va_P D gcl (gwd Tm yc ad2 nM I2 J2 N2) H → va_S (fun q => s.heap.size ≤ q) s.heap H locs → W p l e room_1 s m #[Value.ref b] below meth c H locs 118 1437 (lw_Z below #[Value.ref b] s) (F0 m 945 ls [])) : W p l e room_1 s m #[Value.ref b] below meth c H locs 118 1437 (lw_Z below #[Value.ref b] s) (F0 m 908 ls []) := by
  obtain ⟨hx, hb, hr, hml, hown, hts, hX, hbl, hlocks, hgv⟩ := id C0
  have hg := lw_hg C0
  have hnw := lw_nw C0
  have hA : ∀ q : Nat, s.heap.size ≤ q → (fun q : Nat => s.heap.size ≤ q) q := fun _ h => h
  have hbA : ¬ (fun q : Nat => s.heap.size ≤ q) b := Nat.not_le.mpr hbl
  obtain ⟨J29, r, h1, h2, hRel2⟩ := hok I J N I2 J2 N2 hRel (xs (nI i + 1).toNatClampNeg)
  refine lv_aload_n (pc := 908) hx hb dL_law_908 rfl (lv_at hl 1 rfl) ?_
  refine lv_aload_n (pc := 909) hx hb dL_law_909 rfl (lv_at hl 0 rfl) ?_
  refine lv_iload_n (pc := 910) hx hb dL_law_910 rfl (lv_at hl 3 rfl) ?_
  refine lv_iconst (pc := 911) (v := 1) hx hb dL_law_911 (by decide) ?_
  refine lv_iadd (pc := 912) hx hb dL_law_912 ?_
  refine va_sld (pc := 913) hx hb hX hbl hbA hS (lw_ix hL hi6 (k := 1) (by decide)) dL_law_913 ?_
  refine lw_V (pc := 914) (rest := []) hx hb hml hown hg hnw hK hA (k_Lm_count l (a0 := 0) ⟨by decide, rfl⟩ h1) sm_Lm_count ml_Lw_128 im_Lm_count se_Lm_count gcX10 rfl ⟨by decide, rfl⟩ ⟨rfl, rfl, Nat.le_of_ble_eq_true rfl, Nat.le_of_ble_eq_true rfl⟩ ⟨Nat.le_of_ble_eq_true rfl, Nat.le_of_ble_eq_true rfl⟩ hP1 hP2 hD1 hdis hS hl.1 rfl rfl (Nat.le_of_ble_eq_true rfl) dL_law_914 [.int r] rfl (fun H locs hP1 hP2 hS => ?_)
  refine lv_aload_n (pc := 917) hx hb dL_law_917 rfl (lv_at hl 2 rfl) ?_
  refine lv_aload_n (pc := 918) hx hb dL_law_918 rfl (lv_at hl 0 rfl) ?_
  refine lv_iload_n (pc := 919) hx hb dL_law_919 rfl (lv_at hl 3 rfl) ?_
  refine lv_iconst (pc := 920) (v := 1) hx hb dL_law_920 (by decide) ?_
  refine lv_iadd (pc := 921) hx hb dL_law_921 ?_
  refine va_sld (pc := 922) hx hb hX hbl hbA hS (lw_ix hL hi6 (k := 1) (by decide)) dL_law_922 ?_
  refine lw_V (pc := 923) (rest := [.int r]) hx hb hml hown hg hnw hK hA (k_Mo_count l (a0 := 0) ⟨by decide, rfl⟩ h2) sm_Mo_count ml_Lw_131 im_Mo_count se_Mo_count gcX11 rfl ⟨by decide, rfl⟩ ⟨rfl, rfl, Nat.le_of_ble_eq_true rfl, Nat.le_of_ble_eq_true rfl⟩ ⟨Nat.le_of_ble_eq_true rfl, Nat.le_of_ble_eq_true rfl⟩ hP2 hP1 hD2 (fun i j hi hj e => hdis j i hj hi e.symm) hS hl.1 rfl rfl (Nat.le_of_ble_eq_true rfl) dL_law_923 [.int r, .int r] rfl (fun H locs hP2 hP1 hS => ?_)
  refine lv_icmp_eq (pc := 926) (tgt := 945) hx hb dL_law_926 rfl (fun _ => ?_) (fun e => absurd rfl e)
  exact ih _ _ _ _ _ _ hRel2 _ _ hP1 hP2 hS
set_option maxRecDepth 20000 in
theorem law_digest {p : Program} {l : Launch} {e : Env} {s : State} {m : MethodId} {below : List Frame} {meth : Method} {c : Code} {b L : Nat} {xs : Nat → Int32} (hL : L ≤ 3072) (C0 : lw_At p s m meth c b L xs) {D : va_G} {yc : Nat → ClassId} (hK : va_K D gcl (gtys yc) s) {ad1 ad2 : Nat → Nat} (hD1 : gin (fun q => s.heap.size ≤ q) ad1 nC) (hD2 : gin (fun q => s.heap.size ≤ q) ad2 nM) (hdis : ∀ i j, i < nC → j < nM → ad1 i ≠ ad2 j) {Rel : HI → HJ → HN → HI → HJ → HN → Prop} (hok : ok_digest Rel) {i : Nat} (hi6 : i + 6 ≤ L) {I I2 : HI} {J J2 : HJ} {N N2 : HN} (hRel : Rel I J N I2 J2 N2) {H : Heap} {locs : List Loc} {ls : Array Slot} (hP1 : va_P D gcl (gwd Tc yc ad1 nC I J N) H) (hP2 : va_P D gcl (gwd Tm yc ad2 nM I2 J2 N2) H) (hS : va_S (fun q => s.heap.size ≤ q) s.heap H locs) (hl : lv_has ls 4 [(0, .ref b), (1, .ref (ad1 0)), (2, .ref (ad2 0)), (3, .int (nI i))]) (ih : ∀ (I I2 : HI) (J J2 : HJ) (N N2 : HN), Rel I J N I2 J2 N2 → ∀ (H : Heap) (locs : List Loc), va_P D gcl (gwd Tc yc ad1 nC I J N) H → va_P D gcl (gwd Tm yc ad2 nM I2 J2 N2) H → va_S (fun q => s.heap.size ≤ q) s.heap H locs → W p l e room_1 s m #[Value.ref b] below meth c H locs 118 1437 (lw_Z below #[Value.ref b] s) (F0 m 945 ls [])) : W p l e room_1 s m #[Value.ref b] below meth c H locs 118 1437 (lw_Z below #[Value.ref b] s) (F0 m 931 ls []) := by
  obtain ⟨hx, hb, hr, hml, hown, hts, hX, hbl, hlocks, hgv⟩ := id C0
  have hg := lw_hg C0
  have hnw := lw_nw C0
  have hA : ∀ q : Nat, s.heap.size ≤ q → (fun q : Nat => s.heap.size ≤ q) q := fun _ h => h
  have hbA : ¬ (fun q : Nat => s.heap.size ≤ q) b := Nat.not_le.mpr hbl
  obtain ⟨I9, J9, N9, I29, J29, r, h1, h2, hRel2⟩ := hok I J N I2 J2 N2 hRel
  refine lv_aload_n (pc := 931) hx hb dL_law_931 rfl (lv_at hl 1 rfl) ?_
  refine lw_V (pc := 932) (rest := []) hx hb hml hown hg hnw hK hA (k_Lm_digest l (a0 := 0) ⟨by decide, rfl⟩ h1) sm_Lm_digest ml_Lw_132 im_Lm_digest se_Lm_digest gcX10 rfl ⟨by decide, rfl⟩ ⟨rfl, rfl, Nat.le_of_ble_eq_true rfl, Nat.le_of_ble_eq_true rfl⟩ ⟨Nat.le_of_ble_eq_true rfl, Nat.le_of_ble_eq_true rfl⟩ hP1 hP2 hD1 hdis hS hl.1 rfl rfl (Nat.le_of_ble_eq_true rfl) dL_law_932 [.long r] rfl (fun H locs hP1 hP2 hS => ?_)
  refine lv_aload_n (pc := 935) hx hb dL_law_935 rfl (lv_at hl 2 rfl) ?_
  refine lw_V (pc := 936) (rest := [.long r]) hx hb hml hown hg hnw hK hA (k_Mo_digest l (a0 := 0) ⟨by decide, rfl⟩ h2) sm_Mo_digest ml_Lw_136 im_Mo_digest se_Mo_digest gcX11 rfl ⟨by decide, rfl⟩ ⟨rfl, rfl, Nat.le_of_ble_eq_true rfl, Nat.le_of_ble_eq_true rfl⟩ ⟨Nat.le_of_ble_eq_true rfl, Nat.le_of_ble_eq_true rfl⟩ hP2 hP1 hD2 (fun i j hi hj e => hdis j i hj hi e.symm) hS hl.1 rfl rfl (Nat.le_of_ble_eq_true rfl) dL_law_936 [.long r, .long r] rfl (fun H locs hP2 hP1 hS => ?_)
  refine W.lcmp (pc := 939) hx hb dL_law_939 ?_
  refine lv_if_eq (pc := 940) (tgt := 945) hx hb dL_law_940 rfl (fun _ => ?_) (fun e => absurd ((lg_cmp_eq _ _).mpr rfl) e)
  exact ih _ _ _ _ _ _ hRel2 _ _ hP1 hP2 hS
set_option maxHeartbeats 4000000 in
set_option maxRecDepth 20000 in
theorem law_loop {p : Program} {l : Launch} {e : Env} {s : State} {m : MethodId} {below : List Frame} {meth : Method} {c : Code} {b L : Nat} {xs : Nat → Int32} (hL : L ≤ 3072) (C0 : lw_At p s m meth c b L xs) {D : va_G} {yc : Nat → ClassId} (hK : va_K D gcl (gtys yc) s) {ad1 ad2 : Nat → Nat} (hD1 : gin (fun q => s.heap.size ≤ q) ad1 nC) (hD2 : gin (fun q => s.heap.size ≤ q) ad2 nM) (hdis : ∀ i j, i < nC → j < nM → ad1 i ≠ ad2 j) {Rel : HI → HJ → HN → HI → HJ → HN → Prop} (hok : ok_all Rel) : ∀ (n i : Nat), i ≤ L → L + 1 ≤ i + n → ∀ (I I2 : HI) (J J2 : HJ) (N N2 : HN), Rel I J N I2 J2 N2 → ∀ (H : Heap) (locs : List Loc) (ls : Array Slot), va_P D gcl (gwd Tc yc ad1 nC I J N) H → va_P D gcl (gwd Tm yc ad2 nM I2 J2 N2) H → va_S (fun q => s.heap.size ≤ q) s.heap H locs → lv_has ls 4 [(0, .ref b), (1, .ref (ad1 0)), (2, .ref (ad2 0)), (3, .int (nI i))] → W p l e room_1 s m #[Value.ref b] below meth c H locs 118 1437 (lw_Z below #[Value.ref b] s) (F0 m 18 ls []) := by
  obtain ⟨hx, hb, hr, hml, hown, hts, hX, hbl, hlocks, hgv⟩ := id C0
  have hbA : ¬ (fun q : Nat => s.heap.size ≤ q) b := Nat.not_le.mpr hbl
  obtain ⟨h_tell, h_told, h_turn, h_reverse, h_read, h_info, h_reactance, h_arm, h_back, h_unfold, h_would, h_element, h_fold, h_alike, h_take, h_bill, h_values, h_keep, h_find, h_kept, h_recall, h_sheet, h_lose, h_lay, h_get, h_copy, h_write, h_count, h_digest⟩ := hok
  intro n
  induction n with
  | zero => intro i h1 h2; exact absurd h2 (by omega)
  | succ n ih =>
    intro i hi hin I I2 J J2 N N2 hRel H locs ls hP1 hP2 hS hl
    refine lv_iload_n (pc := 18) hx hb dL_law_18 rfl (lv_at hl 3 rfl) ?_
    refine lv_aload_n (pc := 19) hx hb dL_law_19 rfl (lv_at hl 0 rfl) ?_
    refine va_slen (pc := 20) hx hb hX hbl hbA hS dL_law_20 ?_
    refine lv_bipush (pc := 21) (v := 6) hx hb dL_law_21 (by decide) ?_
    refine lv_isub (pc := 23) hx hb dL_law_23 ?_
    refine lv_icmp_gt (pc := 24) (tgt := 951) hx hb dL_law_24 rfl (fun _ => ?_) (fun e0 => ?_)
    · refine lv_iconst (pc := 951) (v := 1) hx hb dL_law_951 (by decide) ?_
      refine va_forget (fun q hq => hS.2.2 q hq) ?_
      refine W.widen (k := 600000) (n := 7302250) (Nat.le_of_ble_eq_true rfl) (Nat.le_of_ble_eq_true rfl) ?_
      exact lw_ret hx hb hr hlocks dL_law_952
    have hi6 := lw_gt hL hi e0
    refine lv_aload_n (pc := 27) hx hb dL_law_27 rfl (lv_at hl 0 rfl) ?_
    refine lv_iload_n (pc := 28) hx hb dL_law_28 rfl (lv_at hl 3 rfl) ?_
    refine va_sld (pc := 29) hx hb hX hbl hbA hS (lw_i0 hL hi6) dL_law_29 ?_
    refine lv_bipush (pc := 30) (v := 31) hx hb dL_law_30 (by decide) ?_
    refine lv_iand (pc := 32) hx hb dL_law_32 ?_
    refine lv_topi (fun v ev => ?_)
    have next : ∀ (I I2 : HI) (J J2 : HJ) (N N2 : HN), Rel I J N I2 J2 N2 → ∀ (H : Heap) (locs : List Loc), va_P D gcl (gwd Tc yc ad1 nC I J N) H → va_P D gcl (gwd Tm yc ad2 nM I2 J2 N2) H → va_S (fun q => s.heap.size ≤ q) s.heap H locs → W p l e room_1 s m #[Value.ref b] below meth c H locs 118 1437 (lw_Z below #[Value.ref b] s) (F0 m 945 ls []) := by
      intro I I2 J J2 N N2 hRel H locs hP1 hP2 hS
      refine lv_iinc (pc := 945) (k := 3) (v := nI (i + 6)) (lv' := [(3, .int (nI (i + 6))), (0, .ref b), (1, .ref (ad1 0)), (2, .ref (ad2 0))]) hx hb dL_law_945 hl rfl (nI_add i 6) (by decide) rfl (fun ls hl => ?_)
      refine lv_goto (pc := 948) (tgt := 18) hx hb dL_law_948 rfl ?_
      exact ih (i + 6) (by omega) (by omega) I I2 J J2 N N2 hRel H locs ls hP1 hP2 hS (lv_sub hl [1, 2, 3, 0] rfl)
    by_cases e1 : v = (0 : Int32)
    · refine lv_tableIn (pc := 33) (tgt := 164) hx hb dL_law_33 (by rw [e1]; decide) (by rw [e1]; decide) (by rw [e1]; rfl) rfl ?_
      exact law_tell hL C0 hK hD1 hD2 hdis h_tell hi6 hRel hP1 hP2 hS hl next
    by_cases e2 : v = (1 : Int32)
    · refine lv_tableIn (pc := 33) (tgt := 207) hx hb dL_law_33 (by rw [e2]; decide) (by rw [e2]; decide) (by rw [e2]; rfl) rfl ?_
      exact law_told hL C0 hK hD1 hD2 hdis h_told hi6 hRel hP1 hP2 hS hl next
    by_cases e3 : v = (2 : Int32)
    · refine lv_tableIn (pc := 33) (tgt := 240) hx hb dL_law_33 (by rw [e3]; decide) (by rw [e3]; decide) (by rw [e3]; rfl) rfl ?_
      exact law_turn hL C0 hK hD1 hD2 hdis h_turn hi6 hRel hP1 hP2 hS hl next
    by_cases e4 : v = (3 : Int32)
    · refine lv_tableIn (pc := 33) (tgt := 253) hx hb dL_law_33 (by rw [e4]; decide) (by rw [e4]; decide) (by rw [e4]; rfl) rfl ?_
      exact law_reverse hL C0 hK hD1 hD2 hdis h_reverse hi6 hRel hP1 hP2 hS hl next
    by_cases e5 : v = (4 : Int32)
    · refine lv_tableIn (pc := 33) (tgt := 266) hx hb dL_law_33 (by rw [e5]; decide) (by rw [e5]; decide) (by rw [e5]; rfl) rfl ?_
      exact law_read hL C0 hK hD1 hD2 hdis h_read hi6 hRel hP1 hP2 hS hl next
    by_cases e6 : v = (5 : Int32)
    · refine lv_tableIn (pc := 33) (tgt := 299) hx hb dL_law_33 (by rw [e6]; decide) (by rw [e6]; decide) (by rw [e6]; rfl) rfl ?_
      exact law_info hL C0 hK hD1 hD2 hdis h_info hi6 hRel hP1 hP2 hS hl next
    by_cases e7 : v = (6 : Int32)
    · refine lv_tableIn (pc := 33) (tgt := 322) hx hb dL_law_33 (by rw [e7]; decide) (by rw [e7]; decide) (by rw [e7]; rfl) rfl ?_
      exact law_reactance hL C0 hK hD1 hD2 hdis h_reactance hi6 hRel hP1 hP2 hS hl next
    by_cases e8 : v = (7 : Int32)
    · refine lv_tableIn (pc := 33) (tgt := 366) hx hb dL_law_33 (by rw [e8]; decide) (by rw [e8]; decide) (by rw [e8]; rfl) rfl ?_
      exact law_arm hL C0 hK hD1 hD2 hdis h_arm hi6 hRel hP1 hP2 hS hl next
    by_cases e9 : v = (8 : Int32)
    · refine lv_tableIn (pc := 33) (tgt := 409) hx hb dL_law_33 (by rw [e9]; decide) (by rw [e9]; decide) (by rw [e9]; rfl) rfl ?_
      exact law_back hL C0 hK hD1 hD2 hdis h_back hi6 hRel hP1 hP2 hS hl next
    by_cases e10 : v = (9 : Int32)
    · refine lv_tableIn (pc := 33) (tgt := 422) hx hb dL_law_33 (by rw [e10]; decide) (by rw [e10]; decide) (by rw [e10]; rfl) rfl ?_
      exact law_unfold hL C0 hK hD1 hD2 hdis h_unfold hi6 hRel hP1 hP2 hS hl next
    by_cases e11 : v = (10 : Int32)
    · refine lv_tableIn (pc := 33) (tgt := 445) hx hb dL_law_33 (by rw [e11]; decide) (by rw [e11]; decide) (by rw [e11]; rfl) rfl ?_
      exact law_would hL C0 hK hD1 hD2 hdis h_would hi6 hRel hP1 hP2 hS hl next
    by_cases e12 : v = (11 : Int32)
    · refine lv_tableIn (pc := 33) (tgt := 468) hx hb dL_law_33 (by rw [e12]; decide) (by rw [e12]; decide) (by rw [e12]; rfl) rfl ?_
      exact law_element hL C0 hK hD1 hD2 hdis h_element hi6 hRel hP1 hP2 hS hl next
    by_cases e13 : v = (12 : Int32)
    · refine lv_tableIn (pc := 33) (tgt := 501) hx hb dL_law_33 (by rw [e13]; decide) (by rw [e13]; decide) (by rw [e13]; rfl) rfl ?_
      exact law_fold hL C0 hK hD1 hD2 hdis h_fold hi6 hRel hP1 hP2 hS hl next
    by_cases e14 : v = (13 : Int32)
    · refine lv_tableIn (pc := 33) (tgt := 535) hx hb dL_law_33 (by rw [e14]; decide) (by rw [e14]; decide) (by rw [e14]; rfl) rfl ?_
      exact law_alike hL C0 hK hD1 hD2 hdis h_alike hi6 hRel hP1 hP2 hS hl next
    by_cases e15 : v = (14 : Int32)
    · refine lv_tableIn (pc := 33) (tgt := 548) hx hb dL_law_33 (by rw [e15]; decide) (by rw [e15]; decide) (by rw [e15]; rfl) rfl ?_
      exact law_take hL C0 hK hD1 hD2 hdis h_take hi6 hRel hP1 hP2 hS hl next
    by_cases e16 : v = (15 : Int32)
    · refine lv_tableIn (pc := 33) (tgt := 561) hx hb dL_law_33 (by rw [e16]; decide) (by rw [e16]; decide) (by rw [e16]; rfl) rfl ?_
      exact law_bill hL C0 hK hD1 hD2 hdis h_bill hi6 hRel hP1 hP2 hS hl next
    by_cases e17 : v = (16 : Int32)
    · refine lv_tableIn (pc := 33) (tgt := 594) hx hb dL_law_33 (by rw [e17]; decide) (by rw [e17]; decide) (by rw [e17]; rfl) rfl ?_
      exact law_values hL C0 hK hD1 hD2 hdis h_values hi6 hRel hP1 hP2 hS hl next
    by_cases e18 : v = (17 : Int32)
    · refine lv_tableIn (pc := 33) (tgt := 607) hx hb dL_law_33 (by rw [e18]; decide) (by rw [e18]; decide) (by rw [e18]; rfl) rfl ?_
      exact law_keep hL C0 hK hD1 hD2 hdis h_keep hi6 hRel hP1 hP2 hS hl next
    by_cases e19 : v = (18 : Int32)
    · refine lv_tableIn (pc := 33) (tgt := 620) hx hb dL_law_33 (by rw [e19]; decide) (by rw [e19]; decide) (by rw [e19]; rfl) rfl ?_
      exact law_find hL C0 hK hD1 hD2 hdis h_find hi6 hRel hP1 hP2 hS hl next
    by_cases e20 : v = (19 : Int32)
    · refine lv_tableIn (pc := 33) (tgt := 633) hx hb dL_law_33 (by rw [e20]; decide) (by rw [e20]; decide) (by rw [e20]; rfl) rfl ?_
      exact law_kept hL C0 hK hD1 hD2 hdis h_kept hi6 hRel hP1 hP2 hS hl next
    by_cases e21 : v = (20 : Int32)
    · refine lv_tableIn (pc := 33) (tgt := 666) hx hb dL_law_33 (by rw [e21]; decide) (by rw [e21]; decide) (by rw [e21]; rfl) rfl ?_
      exact law_recall hL C0 hK hD1 hD2 hdis h_recall hi6 hRel hP1 hP2 hS hl next
    by_cases e22 : v = (21 : Int32)
    · refine lv_tableIn (pc := 33) (tgt := 689) hx hb dL_law_33 (by rw [e22]; decide) (by rw [e22]; decide) (by rw [e22]; rfl) rfl ?_
      exact law_sheet hL C0 hK hD1 hD2 hdis h_sheet hi6 hRel hP1 hP2 hS hl next
    by_cases e23 : v = (22 : Int32)
    · refine lv_tableIn (pc := 33) (tgt := 722) hx hb dL_law_33 (by rw [e23]; decide) (by rw [e23]; decide) (by rw [e23]; rfl) rfl ?_
      exact law_lose hL C0 hK hD1 hD2 hdis h_lose hi6 hRel hP1 hP2 hS hl next
    by_cases e24 : v = (23 : Int32)
    · refine lv_tableIn (pc := 33) (tgt := 745) hx hb dL_law_33 (by rw [e24]; decide) (by rw [e24]; decide) (by rw [e24]; rfl) rfl ?_
      exact law_lay hL C0 hK hD1 hD2 hdis h_lay hi6 hRel hP1 hP2 hS hl next
    by_cases e25 : v = (24 : Int32)
    · refine lv_tableIn (pc := 33) (tgt := 788) hx hb dL_law_33 (by rw [e25]; decide) (by rw [e25]; decide) (by rw [e25]; rfl) rfl ?_
      exact law_get hL C0 hK hD1 hD2 hdis h_get hi6 hRel hP1 hP2 hS hl next
    by_cases e26 : v = (25 : Int32)
    · refine lv_tableIn (pc := 33) (tgt := 822) hx hb dL_law_33 (by rw [e26]; decide) (by rw [e26]; decide) (by rw [e26]; rfl) rfl ?_
      exact law_copy hL C0 hK hD1 hD2 hdis h_copy hi6 hRel hP1 hP2 hS hl next
    by_cases e27 : v = (26 : Int32)
    · refine lv_tableIn (pc := 33) (tgt := 885) hx hb dL_law_33 (by rw [e27]; decide) (by rw [e27]; decide) (by rw [e27]; rfl) rfl ?_
      exact law_write hL C0 hK hD1 hD2 hdis h_write hi6 hRel hP1 hP2 hS hl next
    by_cases e28 : v = (27 : Int32)
    · refine lv_tableIn (pc := 33) (tgt := 908) hx hb dL_law_33 (by rw [e28]; decide) (by rw [e28]; decide) (by rw [e28]; rfl) rfl ?_
      exact law_count hL C0 hK hD1 hD2 hdis h_count hi6 hRel hP1 hP2 hS hl next
    by_cases e29 : v = (28 : Int32)
    · refine lv_tableIn (pc := 33) (tgt := 931) hx hb dL_law_33 (by rw [e29]; decide) (by rw [e29]; decide) (by rw [e29]; rfl) rfl ?_
      exact law_digest hL C0 hK hD1 hD2 hdis h_digest hi6 hRel hP1 hP2 hS hl next
    refine lv_tableOut (pc := 33) (tgt := 945) hx hb dL_law_33 (sw_out _ 29 (by decide) (fun k hk => by
      rcases (show k = 0 ∨ k = 1 ∨ k = 2 ∨ k = 3 ∨ k = 4 ∨ k = 5 ∨ k = 6 ∨ k = 7 ∨ k = 8 ∨ k = 9 ∨ k = 10 ∨ k = 11 ∨ k = 12 ∨ k = 13 ∨ k = 14 ∨ k = 15 ∨ k = 16 ∨ k = 17 ∨ k = 18 ∨ k = 19 ∨ k = 20 ∨ k = 21 ∨ k = 22 ∨ k = 23 ∨ k = 24 ∨ k = 25 ∨ k = 26 ∨ k = 27 ∨ k = 28 by omega) with rfl | rfl | rfl | rfl | rfl | rfl | rfl | rfl | rfl | rfl | rfl | rfl | rfl | rfl | rfl | rfl | rfl | rfl | rfl | rfl | rfl | rfl | rfl | rfl | rfl | rfl | rfl | rfl | rfl
      · exact e1
      · exact e2
      · exact e3
      · exact e4
      · exact e5
      · exact e6
      · exact e7
      · exact e8
      · exact e9
      · exact e10
      · exact e11
      · exact e12
      · exact e13
      · exact e14
      · exact e15
      · exact e16
      · exact e17
      · exact e18
      · exact e19
      · exact e20
      · exact e21
      · exact e22
      · exact e23
      · exact e24
      · exact e25
      · exact e26
      · exact e27
      · exact e28
      · exact e29)) rfl ?_
    exact next _ _ _ _ _ _ hRel _ _ hP1 hP2 hS
def I_c : HI := Lm_nI (va_up (fun _ _ => 0) 0 (fun _ => 0))
def J_c : HJ := Lm_nJ (va_up (fun _ _ => 0) 0 (fun _ => 0))
def N_c : HN := Lm_nN (va_up (fun _ _ => none) 0 (fun _ => none))
def I_m : HI := Mo_nI (va_up (fun _ _ => 0) 0 (fun _ => 0))
def J_m : HJ := Mo_nJ (va_up (fun _ _ => 0) 0 (fun _ => 0))
def N_m : HN := Mo_nN (va_up (fun _ _ => none) 0 (fun _ => none))
theorem nok_0 : nok 0 (fun _ _ => none) := fun _ _ _ h => absurd h (Nat.not_lt_zero _)
set_option maxHeartbeats 4000000 in
set_option maxRecDepth 20000 in
theorem law_start {p : Program} {e : Env} {s : State} {m : MethodId} {below : List Frame} {meth : Method} {c : Code} (l : Launch) {b L : Nat} {xs : Nat → Int32} (hL : L ≤ 3072) (C0 : lw_At p s m meth c b L xs) {Rel : HI → HJ → HN → HI → HJ → HN → Prop} (hok : ok_all Rel) (hR0 : Rel I_c J_c N_c I_m J_m N_m) : W p l e room_1 s m #[Value.ref b] below meth c s.heap [] 0 0 (lw_Z below #[Value.ref b] s) (entryFrame m ([Value.ref b] : List Value).toArray 4) := by
  obtain ⟨hx, hb, hr, hml, hown, hts, hX, hbl, hlocks, hgv⟩ := id C0
  have hg := lw_hg C0
  have hnw := lw_nw C0
  obtain ⟨D, yc, hK⟩ := lw_K C0
  have hA : ∀ q : Nat, s.heap.size ≤ q → (fun q : Nat => s.heap.size ≤ q) q := fun _ h => h
  have hl := lv_entry ([.ref b]) (n := 4) (Nat.le_of_ble_eq_true rfl)
  rw [lg_entry_eq]
  generalize (lg_sl ([.ref b]) ++ List.replicate (4 - (lg_sl ([.ref b])).length) Slot.unset).toArray = ls at hl ⊢
  have hl : lv_has ls 4 [(0, .ref b)] := hl
  have C : Cx (p, l, e, room_1, s, m, #[Value.ref b], below, meth, c, D, yc, fun q => s.heap.size ≤ q) code R_law 4 ret room_1 := ⟨hx, hb, hml, hown, hg, hr, hlocks, hK, hA, rfl, hnw⟩
  have hP0 : va_P D gcl (gwd Tc yc (fun _ => 0) 0 (fun _ _ => 0) (fun _ _ => 0) (fun _ _ => none)) s.heap := fun k q h => by simp [gwd] at h
  have hG0 : gin (fun q : Nat => s.heap.size ≤ q) (fun _ => 0) 0 := ⟨fun i j h => absurd h (Nat.not_lt_zero _), fun i h => absurd h (Nat.not_lt_zero _)⟩
  have main : G Tc (p, l, e, room_1, s, m, #[Value.ref b], below, meth, c, D, yc, fun q => s.heap.size ≤ q) (fun _ => 0) 0 0 0 (fun _ _ => 0) (fun _ _ => 0) (fun _ _ => none) (lw_Z below #[Value.ref b] s) 0 4 [(0, .ref b)] [] := by
    refine g_new (n := 0) (mc := 0) (ms := 0) (pc := 0) (lvf := fun ad => [(0, .ref b)]) (stf := fun ad => []) C gcX10 inX10 tyX10_ok clL_7 in_10 it_10 rfl nok_0 gz_10 ⟨Nat.le_of_ble_eq_true rfl, Nat.le_of_ble_eq_true rfl⟩ dL_law_0 (fun _ _ => rfl) (fun _ _ => rfl) ?_
    intro ad1 _
    refine g_dup (pc := 3) C dL_law_3 rfl ?_
    have con := kn_Lm_init l (I := (va_up (fun _ _ => 0) 0 (fun _ => 0))) (J := (va_up (fun _ _ => 0) 0 (fun _ => 0))) (N := (va_up (fun _ _ => none) 0 (fun _ => none))) (nok_new nok_0)
    refine g_Init (n := 1) (mc := 1) (ms := 9) (pc := 4) (lvf := fun ad => [(0, .ref b)]) (stf := fun ad => [.ref (ad 0)]) (host := "") false C con sm_Lm_init ml_Lw_9 im_Lm_init rfl ⟨rfl, rfl, Nat.le_of_ble_eq_true rfl, Nat.le_of_ble_eq_true rfl⟩ ⟨Nat.le_of_ble_eq_true rfl, Nat.le_of_ble_eq_true rfl⟩ (Nat.le_of_ble_eq_true rfl) dL_law_4 (fun _ _ => rfl) (fun ad9 e9 => by simp only [e9 0 (by decide)]) ?_
    intro ad1 _ H locs ls hP1 hD1 hS hl
    have hP1 : va_P D gcl (gwd Tc yc ad1 nC I_c J_c N_c) H := hP1
    have hD1 : gin (fun q : Nat => s.heap.size ≤ q) ad1 nC := hD1
    have hS : va_S (fun q : Nat => s.heap.size ≤ q) s.heap H locs := hS
    show W p l e room_1 s m #[Value.ref b] below meth c H locs 93 612 (lw_Z below #[Value.ref b] s) (F0 m 7 ls [.ref (ad1 0)])
    refine lv_astore_n (pc := 7) (lv' := [(1, .ref (ad1 0)), (0, .ref b)]) hx hb dL_law_7 rfl hl (by decide) rfl (fun ls hl => ?_)
    refine va_new (pc := 8) (ci := 11) (fs := gob (fun _ => 0) (va_up (fun _ _ => 0) 0 (fun _ => 0)) (va_up (fun _ _ => 0) 0 (fun _ => 0)) (va_up (fun _ _ => none) 0 (fun _ => none)) 11 0) (C := RX11) (T := TX11) (N := 33) hx hb hg inX11 tyX11 tyX11_ok hown (hg _ clL_10) (hg _ in_11) (hg _ it_11) hK hP1 (gin_D hD1 Tc yc I_c J_c N_c) hS hA gcX11 (fun j hj => gz_11 _ j hj) (Nat.le_of_ble_eq_true rfl) (Nat.le_of_ble_eq_true rfl) dL_law_8 (fun q H hP hD hS => ?_)
    have hP1 : va_P D gcl (gwd Tc yc ad1 nC I_c J_c N_c) H := fun k x hk => hP k x (by rw [List.getElem?_append_left (List.getElem?_eq_some_iff.mp hk).1]; exact hk)
    have hlen : (gwd Tc yc ad1 nC I_c J_c N_c).length = nC := by unfold gwd; simp
    have hq : (gwd Tc yc ad1 nC I_c J_c N_c ++ [(q, .inr (11, gob (fun _ => 0) (va_up (fun _ _ => 0) 0 (fun _ => 0)) (va_up (fun _ _ => 0) 0 (fun _ => 0)) (va_up (fun _ _ => none) 0 (fun _ => none)) 11 0))])[nC]? = some (q, .inr (11, gob (fun _ => 0) (va_up (fun _ _ => 0) 0 (fun _ => 0)) (va_up (fun _ _ => 0) 0 (fun _ => 0)) (va_up (fun _ _ => none) 0 (fun _ => none)) 11 0)) := by
      rw [List.getElem?_append_right (by rw [hlen]; exact Nat.le_refl _), hlen]
      rfl
    have hP2 : va_P D gcl (gwd Tm yc (fun _ => q) 1 (va_up (fun _ _ => 0) 0 (fun _ => 0)) (va_up (fun _ _ => 0) 0 (fun _ => 0)) (va_up (fun _ _ => none) 0 (fun _ => none))) H := by
      intro k x hk
      obtain ⟨h1, rfl⟩ := gwd_some hk
      have hk0 : k = 0 := by omega
      subst hk0
      have h9 := hP nC _ hq
      rw [gce_o (show gk Tm 1 0 (0, 11) from ⟨by decide, rfl⟩), gob_ad (ad := fun _ => 0) (fun k => by rw [va_up_at]; rfl)]
      exact h9
    have hdis0 : ∀ i j, i < 1 → j < nC → (fun _ : Nat => q) i ≠ ad1 j := by
      intro i j hi hj e9
      have h1 := hD.1 nC j _ _ hq (by rw [List.getElem?_append_left (by rw [hlen]; exact hj)]; exact gwd_at hj) e9
      omega
    refine lv_dup (pc := 11) hx hb dL_law_11 rfl ?_
    have con2 := kn_Mo_init l (I := (va_up (fun _ _ => 0) 0 (fun _ => 0))) (J := (va_up (fun _ _ => 0) 0 (fun _ => 0))) (N := (va_up (fun _ _ => none) 0 (fun _ => none))) (nok_new nok_0)
    refine lw_Init (ad := fun _ => q) (pc := 12) hx hb hml hown hg hnw hK hA con2 sm_Mo_init ml_Lw_12 im_Mo_init rfl ⟨rfl, rfl, Nat.le_of_ble_eq_true rfl, Nat.le_of_ble_eq_true rfl⟩ ⟨Nat.le_of_ble_eq_true rfl, Nat.le_of_ble_eq_true rfl⟩ hP2 hP1 ⟨fun i j hi hj _ => by omega, fun i hi => hD.2 nC _ hq⟩ hdis0 hS hl.1 (Nat.le_of_ble_eq_true rfl) (by decide) dL_law_12 (fun ad2 H locs hq0 hD2 hdis hP2 hP1 hS => ?_)
    have hP2 : va_P D gcl (gwd Tm yc ad2 nM I_m J_m N_m) H := hP2
    refine W.eq (g2 := F0 m 15 ls [.ref (ad2 0)]) (by rw [hq0]) ?_
    refine lv_astore_n (pc := 15) (lv' := [(2, .ref (ad2 0)), (1, .ref (ad1 0)), (0, .ref b)]) hx hb dL_law_15 rfl hl (by decide) rfl (fun ls hl => ?_)
    refine lv_iconst (pc := 16) (v := 0) hx hb dL_law_16 (by decide) ?_
    refine lv_istore_n (pc := 17) (lv' := [(3, .int 0), (2, .ref (ad2 0)), (1, .ref (ad1 0)), (0, .ref b)]) hx hb dL_law_17 rfl hl (by decide) rfl (fun ls hl => ?_)
    exact law_loop hL C0 hK hD1 hD2 (fun i j hi hj e9 => hdis j i hj hi e9.symm) hok (L + 1) 0 (Nat.zero_le L) (by omega) _ _ _ _ _ _ hR0 _ _ ls hP1 hP2 hS (lv_sub hl [3, 2, 1, 0] rfl)
  exact main s.heap [] ls hP0 hG0 va_S.rf hl
