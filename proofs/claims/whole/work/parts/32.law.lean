/-! THE CLAIM OUT OF ONE WALK OF THE LAW'S BODY. Your part is whole_start (and what it stands on); all else here is the same for every law, but numbers. -/
def R_law : String := "EchoStairLaw"
def lw_P (b : Addr) (xs : List Int32) (args : Array Value) (s : State) : Prop := args = #[.ref b] ∧ s.IntsAt b xs ∧ xs.length ≤ 4096 ∧ (Jvm.Cond.and given_1 narrow_1).before args s = true
def lw_Q (_ : Array Value) (s : State) (o : Outcome) (t : State) : Prop := o = .returned (some (.int 1)) ∧ Framed s o t [] 600000 room_1.slots
def lw_Z (below : List Frame) (a : Array Value) (s : State) : State → Prop := fun t => ∃ o, t.status = .running ∧ Ended t below o ∧ lw_Q a s o t
/-- the law's own end, with 1 on the stack, nothing written that was there before, its room as the claim has it -/
theorem lw_ret {p : Program} {l : Launch} {e : Env} {s : State} {m : MethodId} {below : List Frame} {meth : Method} {c : Code} {b : Nat} (hx : p.tables.exec = Jvm.exec) (hb : c.code = code) (hr : meth.sig.returnType = ret) (hlocks : meth.locks = false) {pc : Nat} {H : Heap} {ls : Array Slot} (hdg : decode code pc = .ok (.ireturn, 1)) : W p l e room_1 s m #[Value.ref b] below meth c H [] 600000 room_1.slots (lw_Z below #[Value.ref b] s) (F0 m pc ls [.int 1]) := by
  intro T hT X
  obtain ⟨fs, hret, hrun, hended, hW, hframe⟩ := X.leave (v := some (.int 1)) (hlocks := hlocks) (fun h => by rw [hr] at h; cases h)
  have hmeth' : T.vm.method? m = some meth := X.method'
  refine ⟨T.setFrames fs, ?_, .returned (some (.int 1)), hrun, hended, rfl, ⟨_, rfl⟩, hW, hframe⟩
  jvm_step X.here [X.here.top, hx, hb, hdg, hmeth', hr, ret, narrow_b1]
  (try refine ⟨rfl, ?_⟩); (try refine ⟨rfl, ?_⟩)
  first | (intro acts; rw [hret _ acts rfl rfl rfl]) | rw [hret _ _ rfl rfl rfl]
  exact Steps.refl _
/-- what holds at the law's entry: the machine, the code, the tables' words (any of lw_tbl by 'hts w (by decide +kernel)'), the script of L ints xs at the cell b, what the Statement gives of the start (any of its parts by flat_of_before) -/
def lw_At (p : Program) (s : State) (m : MethodId) (meth : Method) (c : Code) (b L : Nat) (xs : Nat → Int32) : Prop :=
  p.tables.exec = Jvm.exec ∧ c.code = code ∧ meth.sig.returnType = ret ∧ c.maxLocals = 4 ∧ s.vm.findClass R_law = some m.cls ∧ (∀ w ∈ lw_tbl, w.before #[Value.ref b] s = true) ∧ va_X b L xs s s.heap ∧ b < s.heap.size ∧ meth.locks = false ∧ (Jvm.Cond.and given_1 narrow_1).before #[Value.ref b] s = true
/-- the class has made an evening, or none -/
def KX (K : mK) (R : mR) (K1 : mK) : Prop := (∀ c, c < 94 ∨ 128 ≤ c → K1 c = K c) ∧ isX11 K1 R
theorem dL_law_0 : decode code 0 = .ok (.new 7, 3) := by decide +kernel
theorem dL_law_3 : decode code 3 = .ok (.dup, 1) := by decide +kernel
theorem dL_law_4 : decode code 4 = .ok (.invokespecial 9, 3) := by decide +kernel
theorem dL_law_7 : decode code 7 = .ok (.astore_n 1, 1) := by decide +kernel
theorem dL_law_8 : decode code 8 = .ok (.new 10, 3) := by decide +kernel
theorem dL_law_11 : decode code 11 = .ok (.dup, 1) := by decide +kernel
theorem dL_law_12 : decode code 12 = .ok (.invokespecial 12, 3) := by decide +kernel
theorem dL_law_15 : decode code 15 = .ok (.astore_n 2, 1) := by decide +kernel
theorem dL_law_16 : decode code 16 = .ok (.iconst 0, 1) := by decide +kernel
theorem dL_law_17 : decode code 17 = .ok (.istore_n 3, 1) := by decide +kernel
theorem dL_law_18 : decode code 18 = .ok (.iload_n 3, 1) := by decide +kernel
theorem dL_law_19 : decode code 19 = .ok (.aload_n 0, 1) := by decide +kernel
theorem dL_law_20 : decode code 20 = .ok (.arraylength, 1) := by decide +kernel
theorem dL_law_21 : decode code 21 = .ok (.bipush 8, 2) := by decide +kernel
theorem dL_law_23 : decode code 23 = .ok (.isub, 1) := by decide +kernel
theorem dL_law_24 : decode code 24 = .ok (.if_icmp .gt 1198, 3) := by decide +kernel
theorem dL_law_27 : decode code 27 = .ok (.aload_n 0, 1) := by decide +kernel
theorem dL_law_28 : decode code 28 = .ok (.iload_n 3, 1) := by decide +kernel
theorem dL_law_29 : decode code 29 = .ok (.iaload, 1) := by decide +kernel
theorem dL_law_30 : decode code 30 = .ok (.bipush 31, 2) := by decide +kernel
theorem dL_law_32 : decode code 32 = .ok (.iand, 1) := by decide +kernel
theorem dL_law_33 : decode code 33 = .ok (.tableswitch 1183 0 24 #[115, 178, 201, 234, 257, 290, 333, 376, 419, 472, 505, 592, 667, 700, 743, 786, 829, 873, 926, 979, 1012, 1081, 1114, 1137, 1160], 115) := by decide +kernel
theorem dL_law_148 : decode code 148 = .ok (.aload_n 1, 1) := by decide +kernel
theorem dL_law_149 : decode code 149 = .ok (.aload_n 0, 1) := by decide +kernel
theorem dL_law_150 : decode code 150 = .ok (.iload_n 3, 1) := by decide +kernel
theorem dL_law_151 : decode code 151 = .ok (.iconst 1, 1) := by decide +kernel
theorem dL_law_152 : decode code 152 = .ok (.iadd, 1) := by decide +kernel
theorem dL_law_153 : decode code 153 = .ok (.iaload, 1) := by decide +kernel
theorem dL_law_154 : decode code 154 = .ok (.aload_n 0, 1) := by decide +kernel
theorem dL_law_155 : decode code 155 = .ok (.iload_n 3, 1) := by decide +kernel
theorem dL_law_156 : decode code 156 = .ok (.iconst 2, 1) := by decide +kernel
theorem dL_law_157 : decode code 157 = .ok (.iadd, 1) := by decide +kernel
theorem dL_law_158 : decode code 158 = .ok (.iaload, 1) := by decide +kernel
theorem dL_law_159 : decode code 159 = .ok (.aload_n 0, 1) := by decide +kernel
theorem dL_law_160 : decode code 160 = .ok (.iload_n 3, 1) := by decide +kernel
theorem dL_law_161 : decode code 161 = .ok (.iconst 3, 1) := by decide +kernel
theorem dL_law_162 : decode code 162 = .ok (.iadd, 1) := by decide +kernel
theorem dL_law_163 : decode code 163 = .ok (.iaload, 1) := by decide +kernel
theorem dL_law_164 : decode code 164 = .ok (.aload_n 0, 1) := by decide +kernel
theorem dL_law_165 : decode code 165 = .ok (.iload_n 3, 1) := by decide +kernel
theorem dL_law_166 : decode code 166 = .ok (.iconst 4, 1) := by decide +kernel
theorem dL_law_167 : decode code 167 = .ok (.iadd, 1) := by decide +kernel
theorem dL_law_168 : decode code 168 = .ok (.iaload, 1) := by decide +kernel
theorem dL_law_169 : decode code 169 = .ok (.aload_n 0, 1) := by decide +kernel
theorem dL_law_170 : decode code 170 = .ok (.iload_n 3, 1) := by decide +kernel
theorem dL_law_171 : decode code 171 = .ok (.iconst 5, 1) := by decide +kernel
theorem dL_law_172 : decode code 172 = .ok (.iadd, 1) := by decide +kernel
theorem dL_law_173 : decode code 173 = .ok (.iaload, 1) := by decide +kernel
theorem dL_law_174 : decode code 174 = .ok (.invokevirtual 13, 3) := by decide +kernel
theorem dL_law_177 : decode code 177 = .ok (.aload_n 2, 1) := by decide +kernel
theorem dL_law_178 : decode code 178 = .ok (.aload_n 0, 1) := by decide +kernel
theorem dL_law_179 : decode code 179 = .ok (.iload_n 3, 1) := by decide +kernel
theorem dL_law_180 : decode code 180 = .ok (.iconst 1, 1) := by decide +kernel
theorem dL_law_181 : decode code 181 = .ok (.iadd, 1) := by decide +kernel
theorem dL_law_182 : decode code 182 = .ok (.iaload, 1) := by decide +kernel
theorem dL_law_183 : decode code 183 = .ok (.aload_n 0, 1) := by decide +kernel
theorem dL_law_184 : decode code 184 = .ok (.iload_n 3, 1) := by decide +kernel
theorem dL_law_185 : decode code 185 = .ok (.iconst 2, 1) := by decide +kernel
theorem dL_law_186 : decode code 186 = .ok (.iadd, 1) := by decide +kernel
theorem dL_law_187 : decode code 187 = .ok (.iaload, 1) := by decide +kernel
theorem dL_law_188 : decode code 188 = .ok (.aload_n 0, 1) := by decide +kernel
theorem dL_law_189 : decode code 189 = .ok (.iload_n 3, 1) := by decide +kernel
theorem dL_law_190 : decode code 190 = .ok (.iconst 3, 1) := by decide +kernel
theorem dL_law_191 : decode code 191 = .ok (.iadd, 1) := by decide +kernel
theorem dL_law_192 : decode code 192 = .ok (.iaload, 1) := by decide +kernel
theorem dL_law_193 : decode code 193 = .ok (.aload_n 0, 1) := by decide +kernel
theorem dL_law_194 : decode code 194 = .ok (.iload_n 3, 1) := by decide +kernel
theorem dL_law_195 : decode code 195 = .ok (.iconst 4, 1) := by decide +kernel
theorem dL_law_196 : decode code 196 = .ok (.iadd, 1) := by decide +kernel
theorem dL_law_197 : decode code 197 = .ok (.iaload, 1) := by decide +kernel
theorem dL_law_198 : decode code 198 = .ok (.aload_n 0, 1) := by decide +kernel
theorem dL_law_199 : decode code 199 = .ok (.iload_n 3, 1) := by decide +kernel
theorem dL_law_200 : decode code 200 = .ok (.iconst 5, 1) := by decide +kernel
theorem dL_law_201 : decode code 201 = .ok (.iadd, 1) := by decide +kernel
theorem dL_law_202 : decode code 202 = .ok (.iaload, 1) := by decide +kernel
theorem dL_law_203 : decode code 203 = .ok (.invokevirtual 17, 3) := by decide +kernel
theorem dL_law_206 : decode code 206 = .ok (.if_icmp .eq 1010, 3) := by decide +kernel
theorem dL_law_209 : decode code 209 = .ok (.iconst 0, 1) := by decide +kernel
theorem dL_law_210 : decode code 210 = .ok (.ireturn, 1) := by decide +kernel
theorem dL_law_211 : decode code 211 = .ok (.aload_n 1, 1) := by decide +kernel
theorem dL_law_212 : decode code 212 = .ok (.aload_n 0, 1) := by decide +kernel
theorem dL_law_213 : decode code 213 = .ok (.iload_n 3, 1) := by decide +kernel
theorem dL_law_214 : decode code 214 = .ok (.iconst 1, 1) := by decide +kernel
theorem dL_law_215 : decode code 215 = .ok (.iadd, 1) := by decide +kernel
theorem dL_law_216 : decode code 216 = .ok (.iaload, 1) := by decide +kernel
theorem dL_law_217 : decode code 217 = .ok (.invokevirtual 18, 3) := by decide +kernel
theorem dL_law_220 : decode code 220 = .ok (.aload_n 2, 1) := by decide +kernel
theorem dL_law_221 : decode code 221 = .ok (.aload_n 0, 1) := by decide +kernel
theorem dL_law_222 : decode code 222 = .ok (.iload_n 3, 1) := by decide +kernel
theorem dL_law_223 : decode code 223 = .ok (.iconst 1, 1) := by decide +kernel
theorem dL_law_224 : decode code 224 = .ok (.iadd, 1) := by decide +kernel
theorem dL_law_225 : decode code 225 = .ok (.iaload, 1) := by decide +kernel
theorem dL_law_226 : decode code 226 = .ok (.invokevirtual 22, 3) := by decide +kernel
theorem dL_law_229 : decode code 229 = .ok (.if_icmp .eq 987, 3) := by decide +kernel
theorem dL_law_232 : decode code 232 = .ok (.iconst 0, 1) := by decide +kernel
theorem dL_law_233 : decode code 233 = .ok (.ireturn, 1) := by decide +kernel
theorem dL_law_234 : decode code 234 = .ok (.aload_n 1, 1) := by decide +kernel
theorem dL_law_235 : decode code 235 = .ok (.aload_n 0, 1) := by decide +kernel
theorem dL_law_236 : decode code 236 = .ok (.iload_n 3, 1) := by decide +kernel
theorem dL_law_237 : decode code 237 = .ok (.iconst 1, 1) := by decide +kernel
theorem dL_law_238 : decode code 238 = .ok (.iadd, 1) := by decide +kernel
theorem dL_law_239 : decode code 239 = .ok (.iaload, 1) := by decide +kernel
theorem dL_law_240 : decode code 240 = .ok (.aload_n 0, 1) := by decide +kernel
theorem dL_law_241 : decode code 241 = .ok (.iload_n 3, 1) := by decide +kernel
theorem dL_law_242 : decode code 242 = .ok (.iconst 2, 1) := by decide +kernel
theorem dL_law_243 : decode code 243 = .ok (.iadd, 1) := by decide +kernel
theorem dL_law_244 : decode code 244 = .ok (.iaload, 1) := by decide +kernel
theorem dL_law_245 : decode code 245 = .ok (.invokevirtual 23, 3) := by decide +kernel
theorem dL_law_248 : decode code 248 = .ok (.aload_n 2, 1) := by decide +kernel
theorem dL_law_249 : decode code 249 = .ok (.aload_n 0, 1) := by decide +kernel
theorem dL_law_250 : decode code 250 = .ok (.iload_n 3, 1) := by decide +kernel
theorem dL_law_251 : decode code 251 = .ok (.iconst 1, 1) := by decide +kernel
theorem dL_law_252 : decode code 252 = .ok (.iadd, 1) := by decide +kernel
theorem dL_law_253 : decode code 253 = .ok (.iaload, 1) := by decide +kernel
theorem dL_law_254 : decode code 254 = .ok (.aload_n 0, 1) := by decide +kernel
theorem dL_law_255 : decode code 255 = .ok (.iload_n 3, 1) := by decide +kernel
theorem dL_law_256 : decode code 256 = .ok (.iconst 2, 1) := by decide +kernel
theorem dL_law_257 : decode code 257 = .ok (.iadd, 1) := by decide +kernel
theorem dL_law_258 : decode code 258 = .ok (.iaload, 1) := by decide +kernel
theorem dL_law_259 : decode code 259 = .ok (.invokevirtual 27, 3) := by decide +kernel
theorem dL_law_262 : decode code 262 = .ok (.if_icmp .eq 954, 3) := by decide +kernel
theorem dL_law_265 : decode code 265 = .ok (.iconst 0, 1) := by decide +kernel
theorem dL_law_266 : decode code 266 = .ok (.ireturn, 1) := by decide +kernel
theorem dL_law_267 : decode code 267 = .ok (.aload_n 1, 1) := by decide +kernel
theorem dL_law_268 : decode code 268 = .ok (.aload_n 0, 1) := by decide +kernel
theorem dL_law_269 : decode code 269 = .ok (.iload_n 3, 1) := by decide +kernel
theorem dL_law_270 : decode code 270 = .ok (.iconst 1, 1) := by decide +kernel
theorem dL_law_271 : decode code 271 = .ok (.iadd, 1) := by decide +kernel
theorem dL_law_272 : decode code 272 = .ok (.iaload, 1) := by decide +kernel
theorem dL_law_273 : decode code 273 = .ok (.invokevirtual 28, 3) := by decide +kernel
theorem dL_law_276 : decode code 276 = .ok (.aload_n 2, 1) := by decide +kernel
theorem dL_law_277 : decode code 277 = .ok (.aload_n 0, 1) := by decide +kernel
theorem dL_law_278 : decode code 278 = .ok (.iload_n 3, 1) := by decide +kernel
theorem dL_law_279 : decode code 279 = .ok (.iconst 1, 1) := by decide +kernel
theorem dL_law_280 : decode code 280 = .ok (.iadd, 1) := by decide +kernel
theorem dL_law_281 : decode code 281 = .ok (.iaload, 1) := by decide +kernel
theorem dL_law_282 : decode code 282 = .ok (.invokevirtual 31, 3) := by decide +kernel
theorem dL_law_285 : decode code 285 = .ok (.if_icmp .eq 931, 3) := by decide +kernel
theorem dL_law_288 : decode code 288 = .ok (.iconst 0, 1) := by decide +kernel
theorem dL_law_289 : decode code 289 = .ok (.ireturn, 1) := by decide +kernel
theorem dL_law_290 : decode code 290 = .ok (.aload_n 1, 1) := by decide +kernel
theorem dL_law_291 : decode code 291 = .ok (.aload_n 0, 1) := by decide +kernel
theorem dL_law_292 : decode code 292 = .ok (.iload_n 3, 1) := by decide +kernel
theorem dL_law_293 : decode code 293 = .ok (.iconst 1, 1) := by decide +kernel
theorem dL_law_294 : decode code 294 = .ok (.iadd, 1) := by decide +kernel
theorem dL_law_295 : decode code 295 = .ok (.iaload, 1) := by decide +kernel
theorem dL_law_296 : decode code 296 = .ok (.aload_n 0, 1) := by decide +kernel
theorem dL_law_297 : decode code 297 = .ok (.iload_n 3, 1) := by decide +kernel
theorem dL_law_298 : decode code 298 = .ok (.iconst 2, 1) := by decide +kernel
theorem dL_law_299 : decode code 299 = .ok (.iadd, 1) := by decide +kernel
theorem dL_law_300 : decode code 300 = .ok (.iaload, 1) := by decide +kernel
theorem dL_law_301 : decode code 301 = .ok (.invokevirtual 32, 3) := by decide +kernel
theorem dL_law_304 : decode code 304 = .ok (.aload_n 2, 1) := by decide +kernel
theorem dL_law_305 : decode code 305 = .ok (.aload_n 0, 1) := by decide +kernel
theorem dL_law_306 : decode code 306 = .ok (.iload_n 3, 1) := by decide +kernel
theorem dL_law_307 : decode code 307 = .ok (.iconst 1, 1) := by decide +kernel
theorem dL_law_308 : decode code 308 = .ok (.iadd, 1) := by decide +kernel
theorem dL_law_309 : decode code 309 = .ok (.iaload, 1) := by decide +kernel
theorem dL_law_310 : decode code 310 = .ok (.aload_n 0, 1) := by decide +kernel
theorem dL_law_311 : decode code 311 = .ok (.iload_n 3, 1) := by decide +kernel
theorem dL_law_312 : decode code 312 = .ok (.iconst 2, 1) := by decide +kernel
theorem dL_law_313 : decode code 313 = .ok (.iadd, 1) := by decide +kernel
theorem dL_law_314 : decode code 314 = .ok (.iaload, 1) := by decide +kernel
theorem dL_law_315 : decode code 315 = .ok (.invokevirtual 35, 3) := by decide +kernel
theorem dL_law_318 : decode code 318 = .ok (.if_icmp .eq 898, 3) := by decide +kernel
theorem dL_law_321 : decode code 321 = .ok (.iconst 0, 1) := by decide +kernel
theorem dL_law_322 : decode code 322 = .ok (.ireturn, 1) := by decide +kernel
theorem dL_law_323 : decode code 323 = .ok (.aload_n 1, 1) := by decide +kernel
theorem dL_law_324 : decode code 324 = .ok (.aload_n 0, 1) := by decide +kernel
theorem dL_law_325 : decode code 325 = .ok (.iload_n 3, 1) := by decide +kernel
theorem dL_law_326 : decode code 326 = .ok (.iconst 1, 1) := by decide +kernel
theorem dL_law_327 : decode code 327 = .ok (.iadd, 1) := by decide +kernel
theorem dL_law_328 : decode code 328 = .ok (.iaload, 1) := by decide +kernel
theorem dL_law_329 : decode code 329 = .ok (.aload_n 0, 1) := by decide +kernel
theorem dL_law_330 : decode code 330 = .ok (.iload_n 3, 1) := by decide +kernel
theorem dL_law_331 : decode code 331 = .ok (.iconst 2, 1) := by decide +kernel
theorem dL_law_332 : decode code 332 = .ok (.iadd, 1) := by decide +kernel
theorem dL_law_333 : decode code 333 = .ok (.iaload, 1) := by decide +kernel
theorem dL_law_334 : decode code 334 = .ok (.aload_n 0, 1) := by decide +kernel
theorem dL_law_335 : decode code 335 = .ok (.iload_n 3, 1) := by decide +kernel
theorem dL_law_336 : decode code 336 = .ok (.iconst 3, 1) := by decide +kernel
theorem dL_law_337 : decode code 337 = .ok (.iadd, 1) := by decide +kernel
theorem dL_law_338 : decode code 338 = .ok (.iaload, 1) := by decide +kernel
theorem dL_law_339 : decode code 339 = .ok (.invokevirtual 36, 3) := by decide +kernel
theorem dL_law_342 : decode code 342 = .ok (.aload_n 2, 1) := by decide +kernel
theorem dL_law_343 : decode code 343 = .ok (.aload_n 0, 1) := by decide +kernel
theorem dL_law_344 : decode code 344 = .ok (.iload_n 3, 1) := by decide +kernel
theorem dL_law_345 : decode code 345 = .ok (.iconst 1, 1) := by decide +kernel
theorem dL_law_346 : decode code 346 = .ok (.iadd, 1) := by decide +kernel
theorem dL_law_347 : decode code 347 = .ok (.iaload, 1) := by decide +kernel
theorem dL_law_348 : decode code 348 = .ok (.aload_n 0, 1) := by decide +kernel
theorem dL_law_349 : decode code 349 = .ok (.iload_n 3, 1) := by decide +kernel
theorem dL_law_350 : decode code 350 = .ok (.iconst 2, 1) := by decide +kernel
theorem dL_law_351 : decode code 351 = .ok (.iadd, 1) := by decide +kernel
theorem dL_law_352 : decode code 352 = .ok (.iaload, 1) := by decide +kernel
theorem dL_law_353 : decode code 353 = .ok (.aload_n 0, 1) := by decide +kernel
theorem dL_law_354 : decode code 354 = .ok (.iload_n 3, 1) := by decide +kernel
theorem dL_law_355 : decode code 355 = .ok (.iconst 3, 1) := by decide +kernel
theorem dL_law_356 : decode code 356 = .ok (.iadd, 1) := by decide +kernel
theorem dL_law_357 : decode code 357 = .ok (.iaload, 1) := by decide +kernel
theorem dL_law_358 : decode code 358 = .ok (.invokevirtual 40, 3) := by decide +kernel
theorem dL_law_361 : decode code 361 = .ok (.if_icmp .eq 855, 3) := by decide +kernel
theorem dL_law_364 : decode code 364 = .ok (.iconst 0, 1) := by decide +kernel
theorem dL_law_365 : decode code 365 = .ok (.ireturn, 1) := by decide +kernel
theorem dL_law_366 : decode code 366 = .ok (.aload_n 1, 1) := by decide +kernel
theorem dL_law_367 : decode code 367 = .ok (.aload_n 0, 1) := by decide +kernel
theorem dL_law_368 : decode code 368 = .ok (.iload_n 3, 1) := by decide +kernel
theorem dL_law_369 : decode code 369 = .ok (.iconst 1, 1) := by decide +kernel
theorem dL_law_370 : decode code 370 = .ok (.iadd, 1) := by decide +kernel
theorem dL_law_371 : decode code 371 = .ok (.iaload, 1) := by decide +kernel
theorem dL_law_372 : decode code 372 = .ok (.aload_n 0, 1) := by decide +kernel
theorem dL_law_373 : decode code 373 = .ok (.iload_n 3, 1) := by decide +kernel
theorem dL_law_374 : decode code 374 = .ok (.iconst 2, 1) := by decide +kernel
theorem dL_law_375 : decode code 375 = .ok (.iadd, 1) := by decide +kernel
theorem dL_law_376 : decode code 376 = .ok (.iaload, 1) := by decide +kernel
theorem dL_law_377 : decode code 377 = .ok (.aload_n 0, 1) := by decide +kernel
theorem dL_law_378 : decode code 378 = .ok (.iload_n 3, 1) := by decide +kernel
theorem dL_law_379 : decode code 379 = .ok (.iconst 3, 1) := by decide +kernel
theorem dL_law_380 : decode code 380 = .ok (.iadd, 1) := by decide +kernel
theorem dL_law_381 : decode code 381 = .ok (.iaload, 1) := by decide +kernel
theorem dL_law_382 : decode code 382 = .ok (.invokevirtual 41, 3) := by decide +kernel
theorem dL_law_385 : decode code 385 = .ok (.aload_n 2, 1) := by decide +kernel
theorem dL_law_386 : decode code 386 = .ok (.aload_n 0, 1) := by decide +kernel
theorem dL_law_387 : decode code 387 = .ok (.iload_n 3, 1) := by decide +kernel
theorem dL_law_388 : decode code 388 = .ok (.iconst 1, 1) := by decide +kernel
theorem dL_law_389 : decode code 389 = .ok (.iadd, 1) := by decide +kernel
theorem dL_law_390 : decode code 390 = .ok (.iaload, 1) := by decide +kernel
theorem dL_law_391 : decode code 391 = .ok (.aload_n 0, 1) := by decide +kernel
theorem dL_law_392 : decode code 392 = .ok (.iload_n 3, 1) := by decide +kernel
theorem dL_law_393 : decode code 393 = .ok (.iconst 2, 1) := by decide +kernel
theorem dL_law_394 : decode code 394 = .ok (.iadd, 1) := by decide +kernel
theorem dL_law_395 : decode code 395 = .ok (.iaload, 1) := by decide +kernel
theorem dL_law_396 : decode code 396 = .ok (.aload_n 0, 1) := by decide +kernel
theorem dL_law_397 : decode code 397 = .ok (.iload_n 3, 1) := by decide +kernel
theorem dL_law_398 : decode code 398 = .ok (.iconst 3, 1) := by decide +kernel
theorem dL_law_399 : decode code 399 = .ok (.iadd, 1) := by decide +kernel
theorem dL_law_400 : decode code 400 = .ok (.iaload, 1) := by decide +kernel
theorem dL_law_401 : decode code 401 = .ok (.invokevirtual 44, 3) := by decide +kernel
theorem dL_law_404 : decode code 404 = .ok (.if_icmp .eq 812, 3) := by decide +kernel
theorem dL_law_407 : decode code 407 = .ok (.iconst 0, 1) := by decide +kernel
theorem dL_law_408 : decode code 408 = .ok (.ireturn, 1) := by decide +kernel
theorem dL_law_409 : decode code 409 = .ok (.aload_n 1, 1) := by decide +kernel
theorem dL_law_410 : decode code 410 = .ok (.aload_n 0, 1) := by decide +kernel
theorem dL_law_411 : decode code 411 = .ok (.iload_n 3, 1) := by decide +kernel
theorem dL_law_412 : decode code 412 = .ok (.iconst 1, 1) := by decide +kernel
theorem dL_law_413 : decode code 413 = .ok (.iadd, 1) := by decide +kernel
theorem dL_law_414 : decode code 414 = .ok (.iaload, 1) := by decide +kernel
theorem dL_law_415 : decode code 415 = .ok (.aload_n 0, 1) := by decide +kernel
theorem dL_law_416 : decode code 416 = .ok (.iload_n 3, 1) := by decide +kernel
theorem dL_law_417 : decode code 417 = .ok (.iconst 2, 1) := by decide +kernel
theorem dL_law_418 : decode code 418 = .ok (.iadd, 1) := by decide +kernel
theorem dL_law_419 : decode code 419 = .ok (.iaload, 1) := by decide +kernel
theorem dL_law_420 : decode code 420 = .ok (.aload_n 0, 1) := by decide +kernel
theorem dL_law_421 : decode code 421 = .ok (.iload_n 3, 1) := by decide +kernel
theorem dL_law_422 : decode code 422 = .ok (.iconst 3, 1) := by decide +kernel
theorem dL_law_423 : decode code 423 = .ok (.iadd, 1) := by decide +kernel
theorem dL_law_424 : decode code 424 = .ok (.iaload, 1) := by decide +kernel
theorem dL_law_425 : decode code 425 = .ok (.invokevirtual 45, 3) := by decide +kernel
theorem dL_law_428 : decode code 428 = .ok (.aload_n 2, 1) := by decide +kernel
theorem dL_law_429 : decode code 429 = .ok (.aload_n 0, 1) := by decide +kernel
theorem dL_law_430 : decode code 430 = .ok (.iload_n 3, 1) := by decide +kernel
theorem dL_law_431 : decode code 431 = .ok (.iconst 1, 1) := by decide +kernel
theorem dL_law_432 : decode code 432 = .ok (.iadd, 1) := by decide +kernel
theorem dL_law_433 : decode code 433 = .ok (.iaload, 1) := by decide +kernel
theorem dL_law_434 : decode code 434 = .ok (.aload_n 0, 1) := by decide +kernel
theorem dL_law_435 : decode code 435 = .ok (.iload_n 3, 1) := by decide +kernel
theorem dL_law_436 : decode code 436 = .ok (.iconst 2, 1) := by decide +kernel
theorem dL_law_437 : decode code 437 = .ok (.iadd, 1) := by decide +kernel
theorem dL_law_438 : decode code 438 = .ok (.iaload, 1) := by decide +kernel
theorem dL_law_439 : decode code 439 = .ok (.aload_n 0, 1) := by decide +kernel
theorem dL_law_440 : decode code 440 = .ok (.iload_n 3, 1) := by decide +kernel
theorem dL_law_441 : decode code 441 = .ok (.iconst 3, 1) := by decide +kernel
theorem dL_law_442 : decode code 442 = .ok (.iadd, 1) := by decide +kernel
theorem dL_law_443 : decode code 443 = .ok (.iaload, 1) := by decide +kernel
theorem dL_law_444 : decode code 444 = .ok (.invokevirtual 48, 3) := by decide +kernel
theorem dL_law_447 : decode code 447 = .ok (.if_icmp .eq 769, 3) := by decide +kernel
theorem dL_law_450 : decode code 450 = .ok (.iconst 0, 1) := by decide +kernel
theorem dL_law_451 : decode code 451 = .ok (.ireturn, 1) := by decide +kernel
theorem dL_law_452 : decode code 452 = .ok (.aload_n 1, 1) := by decide +kernel
theorem dL_law_453 : decode code 453 = .ok (.aload_n 0, 1) := by decide +kernel
theorem dL_law_454 : decode code 454 = .ok (.iload_n 3, 1) := by decide +kernel
theorem dL_law_455 : decode code 455 = .ok (.iconst 1, 1) := by decide +kernel
theorem dL_law_456 : decode code 456 = .ok (.iadd, 1) := by decide +kernel
theorem dL_law_457 : decode code 457 = .ok (.iaload, 1) := by decide +kernel
theorem dL_law_458 : decode code 458 = .ok (.aload_n 0, 1) := by decide +kernel
theorem dL_law_459 : decode code 459 = .ok (.iload_n 3, 1) := by decide +kernel
theorem dL_law_460 : decode code 460 = .ok (.iconst 2, 1) := by decide +kernel
theorem dL_law_461 : decode code 461 = .ok (.iadd, 1) := by decide +kernel
theorem dL_law_462 : decode code 462 = .ok (.iaload, 1) := by decide +kernel
theorem dL_law_463 : decode code 463 = .ok (.aload_n 0, 1) := by decide +kernel
theorem dL_law_464 : decode code 464 = .ok (.iload_n 3, 1) := by decide +kernel
theorem dL_law_465 : decode code 465 = .ok (.iconst 3, 1) := by decide +kernel
theorem dL_law_466 : decode code 466 = .ok (.iadd, 1) := by decide +kernel
theorem dL_law_467 : decode code 467 = .ok (.iaload, 1) := by decide +kernel
theorem dL_law_468 : decode code 468 = .ok (.aload_n 0, 1) := by decide +kernel
theorem dL_law_469 : decode code 469 = .ok (.iload_n 3, 1) := by decide +kernel
theorem dL_law_470 : decode code 470 = .ok (.iconst 4, 1) := by decide +kernel
theorem dL_law_471 : decode code 471 = .ok (.iadd, 1) := by decide +kernel
theorem dL_law_472 : decode code 472 = .ok (.iaload, 1) := by decide +kernel
theorem dL_law_473 : decode code 473 = .ok (.invokevirtual 49, 3) := by decide +kernel
theorem dL_law_476 : decode code 476 = .ok (.aload_n 2, 1) := by decide +kernel
theorem dL_law_477 : decode code 477 = .ok (.aload_n 0, 1) := by decide +kernel
theorem dL_law_478 : decode code 478 = .ok (.iload_n 3, 1) := by decide +kernel
theorem dL_law_479 : decode code 479 = .ok (.iconst 1, 1) := by decide +kernel
theorem dL_law_480 : decode code 480 = .ok (.iadd, 1) := by decide +kernel
theorem dL_law_481 : decode code 481 = .ok (.iaload, 1) := by decide +kernel
theorem dL_law_482 : decode code 482 = .ok (.aload_n 0, 1) := by decide +kernel
theorem dL_law_483 : decode code 483 = .ok (.iload_n 3, 1) := by decide +kernel
theorem dL_law_484 : decode code 484 = .ok (.iconst 2, 1) := by decide +kernel
theorem dL_law_485 : decode code 485 = .ok (.iadd, 1) := by decide +kernel
theorem dL_law_486 : decode code 486 = .ok (.iaload, 1) := by decide +kernel
theorem dL_law_487 : decode code 487 = .ok (.aload_n 0, 1) := by decide +kernel
theorem dL_law_488 : decode code 488 = .ok (.iload_n 3, 1) := by decide +kernel
theorem dL_law_489 : decode code 489 = .ok (.iconst 3, 1) := by decide +kernel
theorem dL_law_490 : decode code 490 = .ok (.iadd, 1) := by decide +kernel
theorem dL_law_491 : decode code 491 = .ok (.iaload, 1) := by decide +kernel
theorem dL_law_492 : decode code 492 = .ok (.aload_n 0, 1) := by decide +kernel
theorem dL_law_493 : decode code 493 = .ok (.iload_n 3, 1) := by decide +kernel
theorem dL_law_494 : decode code 494 = .ok (.iconst 4, 1) := by decide +kernel
theorem dL_law_495 : decode code 495 = .ok (.iadd, 1) := by decide +kernel
theorem dL_law_496 : decode code 496 = .ok (.iaload, 1) := by decide +kernel
theorem dL_law_497 : decode code 497 = .ok (.invokevirtual 53, 3) := by decide +kernel
theorem dL_law_500 : decode code 500 = .ok (.if_icmp .eq 716, 3) := by decide +kernel
theorem dL_law_503 : decode code 503 = .ok (.iconst 0, 1) := by decide +kernel
theorem dL_law_504 : decode code 504 = .ok (.ireturn, 1) := by decide +kernel
theorem dL_law_505 : decode code 505 = .ok (.aload_n 1, 1) := by decide +kernel
theorem dL_law_506 : decode code 506 = .ok (.aload_n 0, 1) := by decide +kernel
theorem dL_law_507 : decode code 507 = .ok (.iload_n 3, 1) := by decide +kernel
theorem dL_law_508 : decode code 508 = .ok (.iconst 1, 1) := by decide +kernel
theorem dL_law_509 : decode code 509 = .ok (.iadd, 1) := by decide +kernel
theorem dL_law_510 : decode code 510 = .ok (.iaload, 1) := by decide +kernel
theorem dL_law_511 : decode code 511 = .ok (.aload_n 0, 1) := by decide +kernel
theorem dL_law_512 : decode code 512 = .ok (.iload_n 3, 1) := by decide +kernel
theorem dL_law_513 : decode code 513 = .ok (.iconst 2, 1) := by decide +kernel
theorem dL_law_514 : decode code 514 = .ok (.iadd, 1) := by decide +kernel
theorem dL_law_515 : decode code 515 = .ok (.iaload, 1) := by decide +kernel
theorem dL_law_516 : decode code 516 = .ok (.invokevirtual 54, 3) := by decide +kernel
theorem dL_law_519 : decode code 519 = .ok (.aload_n 2, 1) := by decide +kernel
theorem dL_law_520 : decode code 520 = .ok (.aload_n 0, 1) := by decide +kernel
theorem dL_law_521 : decode code 521 = .ok (.iload_n 3, 1) := by decide +kernel
theorem dL_law_522 : decode code 522 = .ok (.iconst 1, 1) := by decide +kernel
theorem dL_law_523 : decode code 523 = .ok (.iadd, 1) := by decide +kernel
theorem dL_law_524 : decode code 524 = .ok (.iaload, 1) := by decide +kernel
theorem dL_law_525 : decode code 525 = .ok (.aload_n 0, 1) := by decide +kernel
theorem dL_law_526 : decode code 526 = .ok (.iload_n 3, 1) := by decide +kernel
theorem dL_law_527 : decode code 527 = .ok (.iconst 2, 1) := by decide +kernel
theorem dL_law_528 : decode code 528 = .ok (.iadd, 1) := by decide +kernel
theorem dL_law_529 : decode code 529 = .ok (.iaload, 1) := by decide +kernel
theorem dL_law_530 : decode code 530 = .ok (.invokevirtual 57, 3) := by decide +kernel
theorem dL_law_533 : decode code 533 = .ok (.if_icmp .eq 683, 3) := by decide +kernel
theorem dL_law_536 : decode code 536 = .ok (.iconst 0, 1) := by decide +kernel
theorem dL_law_537 : decode code 537 = .ok (.ireturn, 1) := by decide +kernel
theorem dL_law_538 : decode code 538 = .ok (.aload_n 1, 1) := by decide +kernel
theorem dL_law_539 : decode code 539 = .ok (.aload_n 0, 1) := by decide +kernel
theorem dL_law_540 : decode code 540 = .ok (.iload_n 3, 1) := by decide +kernel
theorem dL_law_541 : decode code 541 = .ok (.iconst 1, 1) := by decide +kernel
theorem dL_law_542 : decode code 542 = .ok (.iadd, 1) := by decide +kernel
theorem dL_law_543 : decode code 543 = .ok (.iaload, 1) := by decide +kernel
theorem dL_law_544 : decode code 544 = .ok (.aload_n 0, 1) := by decide +kernel
theorem dL_law_545 : decode code 545 = .ok (.iload_n 3, 1) := by decide +kernel
theorem dL_law_546 : decode code 546 = .ok (.iconst 2, 1) := by decide +kernel
theorem dL_law_547 : decode code 547 = .ok (.iadd, 1) := by decide +kernel
theorem dL_law_548 : decode code 548 = .ok (.iaload, 1) := by decide +kernel
theorem dL_law_549 : decode code 549 = .ok (.aload_n 0, 1) := by decide +kernel
theorem dL_law_550 : decode code 550 = .ok (.iload_n 3, 1) := by decide +kernel
theorem dL_law_551 : decode code 551 = .ok (.iconst 3, 1) := by decide +kernel
theorem dL_law_552 : decode code 552 = .ok (.iadd, 1) := by decide +kernel
theorem dL_law_553 : decode code 553 = .ok (.iaload, 1) := by decide +kernel
theorem dL_law_554 : decode code 554 = .ok (.aload_n 0, 1) := by decide +kernel
theorem dL_law_555 : decode code 555 = .ok (.iload_n 3, 1) := by decide +kernel
theorem dL_law_556 : decode code 556 = .ok (.iconst 4, 1) := by decide +kernel
theorem dL_law_557 : decode code 557 = .ok (.iadd, 1) := by decide +kernel
theorem dL_law_558 : decode code 558 = .ok (.iaload, 1) := by decide +kernel
theorem dL_law_559 : decode code 559 = .ok (.aload_n 0, 1) := by decide +kernel
theorem dL_law_560 : decode code 560 = .ok (.iload_n 3, 1) := by decide +kernel
theorem dL_law_561 : decode code 561 = .ok (.iconst 5, 1) := by decide +kernel
theorem dL_law_562 : decode code 562 = .ok (.iadd, 1) := by decide +kernel
theorem dL_law_563 : decode code 563 = .ok (.iaload, 1) := by decide +kernel
theorem dL_law_564 : decode code 564 = .ok (.aload_n 0, 1) := by decide +kernel
theorem dL_law_565 : decode code 565 = .ok (.iload_n 3, 1) := by decide +kernel
theorem dL_law_566 : decode code 566 = .ok (.bipush 6, 2) := by decide +kernel
theorem dL_law_568 : decode code 568 = .ok (.iadd, 1) := by decide +kernel
theorem dL_law_569 : decode code 569 = .ok (.iaload, 1) := by decide +kernel
theorem dL_law_570 : decode code 570 = .ok (.aload_n 0, 1) := by decide +kernel
theorem dL_law_571 : decode code 571 = .ok (.iload_n 3, 1) := by decide +kernel
theorem dL_law_572 : decode code 572 = .ok (.bipush 7, 2) := by decide +kernel
theorem dL_law_574 : decode code 574 = .ok (.iadd, 1) := by decide +kernel
theorem dL_law_575 : decode code 575 = .ok (.iaload, 1) := by decide +kernel
theorem dL_law_576 : decode code 576 = .ok (.invokevirtual 58, 3) := by decide +kernel
theorem dL_law_579 : decode code 579 = .ok (.aload_n 2, 1) := by decide +kernel
theorem dL_law_580 : decode code 580 = .ok (.aload_n 0, 1) := by decide +kernel
theorem dL_law_581 : decode code 581 = .ok (.iload_n 3, 1) := by decide +kernel
theorem dL_law_582 : decode code 582 = .ok (.iconst 1, 1) := by decide +kernel
theorem dL_law_583 : decode code 583 = .ok (.iadd, 1) := by decide +kernel
theorem dL_law_584 : decode code 584 = .ok (.iaload, 1) := by decide +kernel
theorem dL_law_585 : decode code 585 = .ok (.aload_n 0, 1) := by decide +kernel
theorem dL_law_586 : decode code 586 = .ok (.iload_n 3, 1) := by decide +kernel
theorem dL_law_587 : decode code 587 = .ok (.iconst 2, 1) := by decide +kernel
theorem dL_law_588 : decode code 588 = .ok (.iadd, 1) := by decide +kernel
theorem dL_law_589 : decode code 589 = .ok (.iaload, 1) := by decide +kernel
theorem dL_law_590 : decode code 590 = .ok (.aload_n 0, 1) := by decide +kernel
theorem dL_law_591 : decode code 591 = .ok (.iload_n 3, 1) := by decide +kernel
theorem dL_law_592 : decode code 592 = .ok (.iconst 3, 1) := by decide +kernel
theorem dL_law_593 : decode code 593 = .ok (.iadd, 1) := by decide +kernel
theorem dL_law_594 : decode code 594 = .ok (.iaload, 1) := by decide +kernel
theorem dL_law_595 : decode code 595 = .ok (.aload_n 0, 1) := by decide +kernel
theorem dL_law_596 : decode code 596 = .ok (.iload_n 3, 1) := by decide +kernel
theorem dL_law_597 : decode code 597 = .ok (.iconst 4, 1) := by decide +kernel
theorem dL_law_598 : decode code 598 = .ok (.iadd, 1) := by decide +kernel
theorem dL_law_599 : decode code 599 = .ok (.iaload, 1) := by decide +kernel
theorem dL_law_600 : decode code 600 = .ok (.aload_n 0, 1) := by decide +kernel
theorem dL_law_601 : decode code 601 = .ok (.iload_n 3, 1) := by decide +kernel
theorem dL_law_602 : decode code 602 = .ok (.iconst 5, 1) := by decide +kernel
theorem dL_law_603 : decode code 603 = .ok (.iadd, 1) := by decide +kernel
theorem dL_law_604 : decode code 604 = .ok (.iaload, 1) := by decide +kernel
theorem dL_law_605 : decode code 605 = .ok (.aload_n 0, 1) := by decide +kernel
theorem dL_law_606 : decode code 606 = .ok (.iload_n 3, 1) := by decide +kernel
theorem dL_law_607 : decode code 607 = .ok (.bipush 6, 2) := by decide +kernel
theorem dL_law_609 : decode code 609 = .ok (.iadd, 1) := by decide +kernel
theorem dL_law_610 : decode code 610 = .ok (.iaload, 1) := by decide +kernel
theorem dL_law_611 : decode code 611 = .ok (.aload_n 0, 1) := by decide +kernel
theorem dL_law_612 : decode code 612 = .ok (.iload_n 3, 1) := by decide +kernel
theorem dL_law_613 : decode code 613 = .ok (.bipush 7, 2) := by decide +kernel
theorem dL_law_615 : decode code 615 = .ok (.iadd, 1) := by decide +kernel
theorem dL_law_616 : decode code 616 = .ok (.iaload, 1) := by decide +kernel
theorem dL_law_617 : decode code 617 = .ok (.invokevirtual 62, 3) := by decide +kernel
theorem dL_law_620 : decode code 620 = .ok (.if_icmp .eq 596, 3) := by decide +kernel
theorem dL_law_623 : decode code 623 = .ok (.iconst 0, 1) := by decide +kernel
theorem dL_law_624 : decode code 624 = .ok (.ireturn, 1) := by decide +kernel
theorem dL_law_625 : decode code 625 = .ok (.aload_n 1, 1) := by decide +kernel
theorem dL_law_626 : decode code 626 = .ok (.aload_n 0, 1) := by decide +kernel
theorem dL_law_627 : decode code 627 = .ok (.iload_n 3, 1) := by decide +kernel
theorem dL_law_628 : decode code 628 = .ok (.iconst 1, 1) := by decide +kernel
theorem dL_law_629 : decode code 629 = .ok (.iadd, 1) := by decide +kernel
theorem dL_law_630 : decode code 630 = .ok (.iaload, 1) := by decide +kernel
theorem dL_law_631 : decode code 631 = .ok (.aload_n 0, 1) := by decide +kernel
theorem dL_law_632 : decode code 632 = .ok (.iload_n 3, 1) := by decide +kernel
theorem dL_law_633 : decode code 633 = .ok (.iconst 2, 1) := by decide +kernel
theorem dL_law_634 : decode code 634 = .ok (.iadd, 1) := by decide +kernel
theorem dL_law_635 : decode code 635 = .ok (.iaload, 1) := by decide +kernel
theorem dL_law_636 : decode code 636 = .ok (.aload_n 0, 1) := by decide +kernel
theorem dL_law_637 : decode code 637 = .ok (.iload_n 3, 1) := by decide +kernel
theorem dL_law_638 : decode code 638 = .ok (.iconst 3, 1) := by decide +kernel
theorem dL_law_639 : decode code 639 = .ok (.iadd, 1) := by decide +kernel
theorem dL_law_640 : decode code 640 = .ok (.iaload, 1) := by decide +kernel
theorem dL_law_641 : decode code 641 = .ok (.aload_n 0, 1) := by decide +kernel
theorem dL_law_642 : decode code 642 = .ok (.iload_n 3, 1) := by decide +kernel
theorem dL_law_643 : decode code 643 = .ok (.iconst 4, 1) := by decide +kernel
theorem dL_law_644 : decode code 644 = .ok (.iadd, 1) := by decide +kernel
theorem dL_law_645 : decode code 645 = .ok (.iaload, 1) := by decide +kernel
theorem dL_law_646 : decode code 646 = .ok (.aload_n 0, 1) := by decide +kernel
theorem dL_law_647 : decode code 647 = .ok (.iload_n 3, 1) := by decide +kernel
theorem dL_law_648 : decode code 648 = .ok (.iconst 5, 1) := by decide +kernel
theorem dL_law_649 : decode code 649 = .ok (.iadd, 1) := by decide +kernel
theorem dL_law_650 : decode code 650 = .ok (.iaload, 1) := by decide +kernel
theorem dL_law_651 : decode code 651 = .ok (.aload_n 0, 1) := by decide +kernel
theorem dL_law_652 : decode code 652 = .ok (.iload_n 3, 1) := by decide +kernel
theorem dL_law_653 : decode code 653 = .ok (.bipush 6, 2) := by decide +kernel
theorem dL_law_655 : decode code 655 = .ok (.iadd, 1) := by decide +kernel
theorem dL_law_656 : decode code 656 = .ok (.iaload, 1) := by decide +kernel
theorem dL_law_657 : decode code 657 = .ok (.invokevirtual 63, 3) := by decide +kernel
theorem dL_law_660 : decode code 660 = .ok (.aload_n 2, 1) := by decide +kernel
theorem dL_law_661 : decode code 661 = .ok (.aload_n 0, 1) := by decide +kernel
theorem dL_law_662 : decode code 662 = .ok (.iload_n 3, 1) := by decide +kernel
theorem dL_law_663 : decode code 663 = .ok (.iconst 1, 1) := by decide +kernel
theorem dL_law_664 : decode code 664 = .ok (.iadd, 1) := by decide +kernel
theorem dL_law_665 : decode code 665 = .ok (.iaload, 1) := by decide +kernel
theorem dL_law_666 : decode code 666 = .ok (.aload_n 0, 1) := by decide +kernel
theorem dL_law_667 : decode code 667 = .ok (.iload_n 3, 1) := by decide +kernel
theorem dL_law_668 : decode code 668 = .ok (.iconst 2, 1) := by decide +kernel
theorem dL_law_669 : decode code 669 = .ok (.iadd, 1) := by decide +kernel
theorem dL_law_670 : decode code 670 = .ok (.iaload, 1) := by decide +kernel
theorem dL_law_671 : decode code 671 = .ok (.aload_n 0, 1) := by decide +kernel
theorem dL_law_672 : decode code 672 = .ok (.iload_n 3, 1) := by decide +kernel
theorem dL_law_673 : decode code 673 = .ok (.iconst 3, 1) := by decide +kernel
theorem dL_law_674 : decode code 674 = .ok (.iadd, 1) := by decide +kernel
theorem dL_law_675 : decode code 675 = .ok (.iaload, 1) := by decide +kernel
theorem dL_law_676 : decode code 676 = .ok (.aload_n 0, 1) := by decide +kernel
theorem dL_law_677 : decode code 677 = .ok (.iload_n 3, 1) := by decide +kernel
theorem dL_law_678 : decode code 678 = .ok (.iconst 4, 1) := by decide +kernel
theorem dL_law_679 : decode code 679 = .ok (.iadd, 1) := by decide +kernel
theorem dL_law_680 : decode code 680 = .ok (.iaload, 1) := by decide +kernel
theorem dL_law_681 : decode code 681 = .ok (.aload_n 0, 1) := by decide +kernel
theorem dL_law_682 : decode code 682 = .ok (.iload_n 3, 1) := by decide +kernel
theorem dL_law_683 : decode code 683 = .ok (.iconst 5, 1) := by decide +kernel
theorem dL_law_684 : decode code 684 = .ok (.iadd, 1) := by decide +kernel
theorem dL_law_685 : decode code 685 = .ok (.iaload, 1) := by decide +kernel
theorem dL_law_686 : decode code 686 = .ok (.aload_n 0, 1) := by decide +kernel
theorem dL_law_687 : decode code 687 = .ok (.iload_n 3, 1) := by decide +kernel
theorem dL_law_688 : decode code 688 = .ok (.bipush 6, 2) := by decide +kernel
theorem dL_law_690 : decode code 690 = .ok (.iadd, 1) := by decide +kernel
theorem dL_law_691 : decode code 691 = .ok (.iaload, 1) := by decide +kernel
theorem dL_law_692 : decode code 692 = .ok (.invokevirtual 67, 3) := by decide +kernel
theorem dL_law_695 : decode code 695 = .ok (.if_icmp .eq 521, 3) := by decide +kernel
theorem dL_law_698 : decode code 698 = .ok (.iconst 0, 1) := by decide +kernel
theorem dL_law_699 : decode code 699 = .ok (.ireturn, 1) := by decide +kernel
theorem dL_law_700 : decode code 700 = .ok (.aload_n 1, 1) := by decide +kernel
theorem dL_law_701 : decode code 701 = .ok (.aload_n 0, 1) := by decide +kernel
theorem dL_law_702 : decode code 702 = .ok (.iload_n 3, 1) := by decide +kernel
theorem dL_law_703 : decode code 703 = .ok (.iconst 1, 1) := by decide +kernel
theorem dL_law_704 : decode code 704 = .ok (.iadd, 1) := by decide +kernel
theorem dL_law_705 : decode code 705 = .ok (.iaload, 1) := by decide +kernel
theorem dL_law_706 : decode code 706 = .ok (.aload_n 0, 1) := by decide +kernel
theorem dL_law_707 : decode code 707 = .ok (.iload_n 3, 1) := by decide +kernel
theorem dL_law_708 : decode code 708 = .ok (.iconst 2, 1) := by decide +kernel
theorem dL_law_709 : decode code 709 = .ok (.iadd, 1) := by decide +kernel
theorem dL_law_710 : decode code 710 = .ok (.iaload, 1) := by decide +kernel
theorem dL_law_711 : decode code 711 = .ok (.invokevirtual 68, 3) := by decide +kernel
theorem dL_law_714 : decode code 714 = .ok (.aload_n 2, 1) := by decide +kernel
theorem dL_law_715 : decode code 715 = .ok (.aload_n 0, 1) := by decide +kernel
theorem dL_law_716 : decode code 716 = .ok (.iload_n 3, 1) := by decide +kernel
theorem dL_law_717 : decode code 717 = .ok (.iconst 1, 1) := by decide +kernel
theorem dL_law_718 : decode code 718 = .ok (.iadd, 1) := by decide +kernel
theorem dL_law_719 : decode code 719 = .ok (.iaload, 1) := by decide +kernel
theorem dL_law_720 : decode code 720 = .ok (.aload_n 0, 1) := by decide +kernel
theorem dL_law_721 : decode code 721 = .ok (.iload_n 3, 1) := by decide +kernel
theorem dL_law_722 : decode code 722 = .ok (.iconst 2, 1) := by decide +kernel
theorem dL_law_723 : decode code 723 = .ok (.iadd, 1) := by decide +kernel
theorem dL_law_724 : decode code 724 = .ok (.iaload, 1) := by decide +kernel
theorem dL_law_725 : decode code 725 = .ok (.invokevirtual 71, 3) := by decide +kernel
theorem dL_law_728 : decode code 728 = .ok (.if_icmp .eq 488, 3) := by decide +kernel
theorem dL_law_731 : decode code 731 = .ok (.iconst 0, 1) := by decide +kernel
theorem dL_law_732 : decode code 732 = .ok (.ireturn, 1) := by decide +kernel
theorem dL_law_733 : decode code 733 = .ok (.aload_n 1, 1) := by decide +kernel
theorem dL_law_734 : decode code 734 = .ok (.aload_n 0, 1) := by decide +kernel
theorem dL_law_735 : decode code 735 = .ok (.iload_n 3, 1) := by decide +kernel
theorem dL_law_736 : decode code 736 = .ok (.iconst 1, 1) := by decide +kernel
theorem dL_law_737 : decode code 737 = .ok (.iadd, 1) := by decide +kernel
theorem dL_law_738 : decode code 738 = .ok (.iaload, 1) := by decide +kernel
theorem dL_law_739 : decode code 739 = .ok (.aload_n 0, 1) := by decide +kernel
theorem dL_law_740 : decode code 740 = .ok (.iload_n 3, 1) := by decide +kernel
theorem dL_law_741 : decode code 741 = .ok (.iconst 2, 1) := by decide +kernel
theorem dL_law_742 : decode code 742 = .ok (.iadd, 1) := by decide +kernel
theorem dL_law_743 : decode code 743 = .ok (.iaload, 1) := by decide +kernel
theorem dL_law_744 : decode code 744 = .ok (.aload_n 0, 1) := by decide +kernel
theorem dL_law_745 : decode code 745 = .ok (.iload_n 3, 1) := by decide +kernel
theorem dL_law_746 : decode code 746 = .ok (.iconst 3, 1) := by decide +kernel
theorem dL_law_747 : decode code 747 = .ok (.iadd, 1) := by decide +kernel
theorem dL_law_748 : decode code 748 = .ok (.iaload, 1) := by decide +kernel
theorem dL_law_749 : decode code 749 = .ok (.invokevirtual 72, 3) := by decide +kernel
theorem dL_law_752 : decode code 752 = .ok (.aload_n 2, 1) := by decide +kernel
theorem dL_law_753 : decode code 753 = .ok (.aload_n 0, 1) := by decide +kernel
theorem dL_law_754 : decode code 754 = .ok (.iload_n 3, 1) := by decide +kernel
theorem dL_law_755 : decode code 755 = .ok (.iconst 1, 1) := by decide +kernel
theorem dL_law_756 : decode code 756 = .ok (.iadd, 1) := by decide +kernel
theorem dL_law_757 : decode code 757 = .ok (.iaload, 1) := by decide +kernel
theorem dL_law_758 : decode code 758 = .ok (.aload_n 0, 1) := by decide +kernel
theorem dL_law_759 : decode code 759 = .ok (.iload_n 3, 1) := by decide +kernel
theorem dL_law_760 : decode code 760 = .ok (.iconst 2, 1) := by decide +kernel
theorem dL_law_761 : decode code 761 = .ok (.iadd, 1) := by decide +kernel
theorem dL_law_762 : decode code 762 = .ok (.iaload, 1) := by decide +kernel
theorem dL_law_763 : decode code 763 = .ok (.aload_n 0, 1) := by decide +kernel
theorem dL_law_764 : decode code 764 = .ok (.iload_n 3, 1) := by decide +kernel
theorem dL_law_765 : decode code 765 = .ok (.iconst 3, 1) := by decide +kernel
theorem dL_law_766 : decode code 766 = .ok (.iadd, 1) := by decide +kernel
theorem dL_law_767 : decode code 767 = .ok (.iaload, 1) := by decide +kernel
theorem dL_law_768 : decode code 768 = .ok (.invokevirtual 75, 3) := by decide +kernel
theorem dL_law_771 : decode code 771 = .ok (.if_icmp .eq 445, 3) := by decide +kernel
theorem dL_law_774 : decode code 774 = .ok (.iconst 0, 1) := by decide +kernel
theorem dL_law_775 : decode code 775 = .ok (.ireturn, 1) := by decide +kernel
theorem dL_law_776 : decode code 776 = .ok (.aload_n 1, 1) := by decide +kernel
theorem dL_law_777 : decode code 777 = .ok (.aload_n 0, 1) := by decide +kernel
theorem dL_law_778 : decode code 778 = .ok (.iload_n 3, 1) := by decide +kernel
theorem dL_law_779 : decode code 779 = .ok (.iconst 1, 1) := by decide +kernel
theorem dL_law_780 : decode code 780 = .ok (.iadd, 1) := by decide +kernel
theorem dL_law_781 : decode code 781 = .ok (.iaload, 1) := by decide +kernel
theorem dL_law_782 : decode code 782 = .ok (.aload_n 0, 1) := by decide +kernel
theorem dL_law_783 : decode code 783 = .ok (.iload_n 3, 1) := by decide +kernel
theorem dL_law_784 : decode code 784 = .ok (.iconst 2, 1) := by decide +kernel
theorem dL_law_785 : decode code 785 = .ok (.iadd, 1) := by decide +kernel
theorem dL_law_786 : decode code 786 = .ok (.iaload, 1) := by decide +kernel
theorem dL_law_787 : decode code 787 = .ok (.aload_n 0, 1) := by decide +kernel
theorem dL_law_788 : decode code 788 = .ok (.iload_n 3, 1) := by decide +kernel
theorem dL_law_789 : decode code 789 = .ok (.iconst 3, 1) := by decide +kernel
theorem dL_law_790 : decode code 790 = .ok (.iadd, 1) := by decide +kernel
theorem dL_law_791 : decode code 791 = .ok (.iaload, 1) := by decide +kernel
theorem dL_law_792 : decode code 792 = .ok (.invokevirtual 76, 3) := by decide +kernel
theorem dL_law_795 : decode code 795 = .ok (.aload_n 2, 1) := by decide +kernel
theorem dL_law_796 : decode code 796 = .ok (.aload_n 0, 1) := by decide +kernel
theorem dL_law_797 : decode code 797 = .ok (.iload_n 3, 1) := by decide +kernel
theorem dL_law_798 : decode code 798 = .ok (.iconst 1, 1) := by decide +kernel
theorem dL_law_799 : decode code 799 = .ok (.iadd, 1) := by decide +kernel
theorem dL_law_800 : decode code 800 = .ok (.iaload, 1) := by decide +kernel
theorem dL_law_801 : decode code 801 = .ok (.aload_n 0, 1) := by decide +kernel
theorem dL_law_802 : decode code 802 = .ok (.iload_n 3, 1) := by decide +kernel
theorem dL_law_803 : decode code 803 = .ok (.iconst 2, 1) := by decide +kernel
theorem dL_law_804 : decode code 804 = .ok (.iadd, 1) := by decide +kernel
theorem dL_law_805 : decode code 805 = .ok (.iaload, 1) := by decide +kernel
theorem dL_law_806 : decode code 806 = .ok (.aload_n 0, 1) := by decide +kernel
theorem dL_law_807 : decode code 807 = .ok (.iload_n 3, 1) := by decide +kernel
theorem dL_law_808 : decode code 808 = .ok (.iconst 3, 1) := by decide +kernel
theorem dL_law_809 : decode code 809 = .ok (.iadd, 1) := by decide +kernel
theorem dL_law_810 : decode code 810 = .ok (.iaload, 1) := by decide +kernel
theorem dL_law_811 : decode code 811 = .ok (.invokevirtual 79, 3) := by decide +kernel
theorem dL_law_814 : decode code 814 = .ok (.if_icmp .eq 402, 3) := by decide +kernel
theorem dL_law_817 : decode code 817 = .ok (.iconst 0, 1) := by decide +kernel
theorem dL_law_818 : decode code 818 = .ok (.ireturn, 1) := by decide +kernel
theorem dL_law_819 : decode code 819 = .ok (.aload_n 1, 1) := by decide +kernel
theorem dL_law_820 : decode code 820 = .ok (.aload_n 0, 1) := by decide +kernel
theorem dL_law_821 : decode code 821 = .ok (.iload_n 3, 1) := by decide +kernel
theorem dL_law_822 : decode code 822 = .ok (.iconst 1, 1) := by decide +kernel
theorem dL_law_823 : decode code 823 = .ok (.iadd, 1) := by decide +kernel
theorem dL_law_824 : decode code 824 = .ok (.iaload, 1) := by decide +kernel
theorem dL_law_825 : decode code 825 = .ok (.aload_n 0, 1) := by decide +kernel
theorem dL_law_826 : decode code 826 = .ok (.iload_n 3, 1) := by decide +kernel
theorem dL_law_827 : decode code 827 = .ok (.iconst 2, 1) := by decide +kernel
theorem dL_law_828 : decode code 828 = .ok (.iadd, 1) := by decide +kernel
theorem dL_law_829 : decode code 829 = .ok (.iaload, 1) := by decide +kernel
theorem dL_law_830 : decode code 830 = .ok (.aload_n 0, 1) := by decide +kernel
theorem dL_law_831 : decode code 831 = .ok (.iload_n 3, 1) := by decide +kernel
theorem dL_law_832 : decode code 832 = .ok (.iconst 3, 1) := by decide +kernel
theorem dL_law_833 : decode code 833 = .ok (.iadd, 1) := by decide +kernel
theorem dL_law_834 : decode code 834 = .ok (.iaload, 1) := by decide +kernel
theorem dL_law_835 : decode code 835 = .ok (.invokevirtual 80, 3) := by decide +kernel
theorem dL_law_838 : decode code 838 = .ok (.aload_n 2, 1) := by decide +kernel
theorem dL_law_839 : decode code 839 = .ok (.aload_n 0, 1) := by decide +kernel
theorem dL_law_840 : decode code 840 = .ok (.iload_n 3, 1) := by decide +kernel
theorem dL_law_841 : decode code 841 = .ok (.iconst 1, 1) := by decide +kernel
theorem dL_law_842 : decode code 842 = .ok (.iadd, 1) := by decide +kernel
theorem dL_law_843 : decode code 843 = .ok (.iaload, 1) := by decide +kernel
theorem dL_law_844 : decode code 844 = .ok (.aload_n 0, 1) := by decide +kernel
theorem dL_law_845 : decode code 845 = .ok (.iload_n 3, 1) := by decide +kernel
theorem dL_law_846 : decode code 846 = .ok (.iconst 2, 1) := by decide +kernel
theorem dL_law_847 : decode code 847 = .ok (.iadd, 1) := by decide +kernel
theorem dL_law_848 : decode code 848 = .ok (.iaload, 1) := by decide +kernel
theorem dL_law_849 : decode code 849 = .ok (.aload_n 0, 1) := by decide +kernel
theorem dL_law_850 : decode code 850 = .ok (.iload_n 3, 1) := by decide +kernel
theorem dL_law_851 : decode code 851 = .ok (.iconst 3, 1) := by decide +kernel
theorem dL_law_852 : decode code 852 = .ok (.iadd, 1) := by decide +kernel
theorem dL_law_853 : decode code 853 = .ok (.iaload, 1) := by decide +kernel
theorem dL_law_854 : decode code 854 = .ok (.invokevirtual 83, 3) := by decide +kernel
theorem dL_law_857 : decode code 857 = .ok (.if_icmp .eq 359, 3) := by decide +kernel
theorem dL_law_860 : decode code 860 = .ok (.iconst 0, 1) := by decide +kernel
theorem dL_law_861 : decode code 861 = .ok (.ireturn, 1) := by decide +kernel
theorem dL_law_862 : decode code 862 = .ok (.aload_n 1, 1) := by decide +kernel
theorem dL_law_863 : decode code 863 = .ok (.aload_n 0, 1) := by decide +kernel
theorem dL_law_864 : decode code 864 = .ok (.iload_n 3, 1) := by decide +kernel
theorem dL_law_865 : decode code 865 = .ok (.iconst 1, 1) := by decide +kernel
theorem dL_law_866 : decode code 866 = .ok (.iadd, 1) := by decide +kernel
theorem dL_law_867 : decode code 867 = .ok (.iaload, 1) := by decide +kernel
theorem dL_law_868 : decode code 868 = .ok (.aload_n 0, 1) := by decide +kernel
theorem dL_law_869 : decode code 869 = .ok (.iload_n 3, 1) := by decide +kernel
theorem dL_law_870 : decode code 870 = .ok (.iconst 2, 1) := by decide +kernel
theorem dL_law_871 : decode code 871 = .ok (.iadd, 1) := by decide +kernel
theorem dL_law_872 : decode code 872 = .ok (.iaload, 1) := by decide +kernel
theorem dL_law_873 : decode code 873 = .ok (.aload_n 0, 1) := by decide +kernel
theorem dL_law_874 : decode code 874 = .ok (.iload_n 3, 1) := by decide +kernel
theorem dL_law_875 : decode code 875 = .ok (.iconst 3, 1) := by decide +kernel
theorem dL_law_876 : decode code 876 = .ok (.iadd, 1) := by decide +kernel
theorem dL_law_877 : decode code 877 = .ok (.iaload, 1) := by decide +kernel
theorem dL_law_878 : decode code 878 = .ok (.invokevirtual 84, 3) := by decide +kernel
theorem dL_law_881 : decode code 881 = .ok (.aload_n 2, 1) := by decide +kernel
theorem dL_law_882 : decode code 882 = .ok (.aload_n 0, 1) := by decide +kernel
theorem dL_law_883 : decode code 883 = .ok (.iload_n 3, 1) := by decide +kernel
theorem dL_law_884 : decode code 884 = .ok (.iconst 1, 1) := by decide +kernel
theorem dL_law_885 : decode code 885 = .ok (.iadd, 1) := by decide +kernel
theorem dL_law_886 : decode code 886 = .ok (.iaload, 1) := by decide +kernel
theorem dL_law_887 : decode code 887 = .ok (.aload_n 0, 1) := by decide +kernel
theorem dL_law_888 : decode code 888 = .ok (.iload_n 3, 1) := by decide +kernel
theorem dL_law_889 : decode code 889 = .ok (.iconst 2, 1) := by decide +kernel
theorem dL_law_890 : decode code 890 = .ok (.iadd, 1) := by decide +kernel
theorem dL_law_891 : decode code 891 = .ok (.iaload, 1) := by decide +kernel
theorem dL_law_892 : decode code 892 = .ok (.aload_n 0, 1) := by decide +kernel
theorem dL_law_893 : decode code 893 = .ok (.iload_n 3, 1) := by decide +kernel
theorem dL_law_894 : decode code 894 = .ok (.iconst 3, 1) := by decide +kernel
theorem dL_law_895 : decode code 895 = .ok (.iadd, 1) := by decide +kernel
theorem dL_law_896 : decode code 896 = .ok (.iaload, 1) := by decide +kernel
theorem dL_law_897 : decode code 897 = .ok (.invokevirtual 88, 3) := by decide +kernel
theorem dL_law_900 : decode code 900 = .ok (.lcmp, 1) := by decide +kernel
theorem dL_law_901 : decode code 901 = .ok (.ifCond .eq 315, 3) := by decide +kernel
theorem dL_law_904 : decode code 904 = .ok (.iconst 0, 1) := by decide +kernel
theorem dL_law_905 : decode code 905 = .ok (.ireturn, 1) := by decide +kernel
theorem dL_law_906 : decode code 906 = .ok (.aload_n 1, 1) := by decide +kernel
theorem dL_law_907 : decode code 907 = .ok (.aload_n 0, 1) := by decide +kernel
theorem dL_law_908 : decode code 908 = .ok (.iload_n 3, 1) := by decide +kernel
theorem dL_law_909 : decode code 909 = .ok (.iconst 1, 1) := by decide +kernel
theorem dL_law_910 : decode code 910 = .ok (.iadd, 1) := by decide +kernel
theorem dL_law_911 : decode code 911 = .ok (.iaload, 1) := by decide +kernel
theorem dL_law_912 : decode code 912 = .ok (.aload_n 0, 1) := by decide +kernel
theorem dL_law_913 : decode code 913 = .ok (.iload_n 3, 1) := by decide +kernel
theorem dL_law_914 : decode code 914 = .ok (.iconst 2, 1) := by decide +kernel
theorem dL_law_915 : decode code 915 = .ok (.iadd, 1) := by decide +kernel
theorem dL_law_916 : decode code 916 = .ok (.iaload, 1) := by decide +kernel
theorem dL_law_917 : decode code 917 = .ok (.aload_n 0, 1) := by decide +kernel
theorem dL_law_918 : decode code 918 = .ok (.iload_n 3, 1) := by decide +kernel
theorem dL_law_919 : decode code 919 = .ok (.iconst 3, 1) := by decide +kernel
theorem dL_law_920 : decode code 920 = .ok (.iadd, 1) := by decide +kernel
theorem dL_law_921 : decode code 921 = .ok (.iaload, 1) := by decide +kernel
theorem dL_law_922 : decode code 922 = .ok (.aload_n 0, 1) := by decide +kernel
theorem dL_law_923 : decode code 923 = .ok (.iload_n 3, 1) := by decide +kernel
theorem dL_law_924 : decode code 924 = .ok (.iconst 4, 1) := by decide +kernel
theorem dL_law_925 : decode code 925 = .ok (.iadd, 1) := by decide +kernel
theorem dL_law_926 : decode code 926 = .ok (.iaload, 1) := by decide +kernel
theorem dL_law_927 : decode code 927 = .ok (.invokevirtual 89, 3) := by decide +kernel
theorem dL_law_930 : decode code 930 = .ok (.aload_n 2, 1) := by decide +kernel
theorem dL_law_931 : decode code 931 = .ok (.aload_n 0, 1) := by decide +kernel
theorem dL_law_932 : decode code 932 = .ok (.iload_n 3, 1) := by decide +kernel
theorem dL_law_933 : decode code 933 = .ok (.iconst 1, 1) := by decide +kernel
theorem dL_law_934 : decode code 934 = .ok (.iadd, 1) := by decide +kernel
theorem dL_law_935 : decode code 935 = .ok (.iaload, 1) := by decide +kernel
theorem dL_law_936 : decode code 936 = .ok (.aload_n 0, 1) := by decide +kernel
theorem dL_law_937 : decode code 937 = .ok (.iload_n 3, 1) := by decide +kernel
theorem dL_law_938 : decode code 938 = .ok (.iconst 2, 1) := by decide +kernel
theorem dL_law_939 : decode code 939 = .ok (.iadd, 1) := by decide +kernel
theorem dL_law_940 : decode code 940 = .ok (.iaload, 1) := by decide +kernel
theorem dL_law_941 : decode code 941 = .ok (.aload_n 0, 1) := by decide +kernel
theorem dL_law_942 : decode code 942 = .ok (.iload_n 3, 1) := by decide +kernel
theorem dL_law_943 : decode code 943 = .ok (.iconst 3, 1) := by decide +kernel
theorem dL_law_944 : decode code 944 = .ok (.iadd, 1) := by decide +kernel
theorem dL_law_945 : decode code 945 = .ok (.iaload, 1) := by decide +kernel
theorem dL_law_946 : decode code 946 = .ok (.aload_n 0, 1) := by decide +kernel
theorem dL_law_947 : decode code 947 = .ok (.iload_n 3, 1) := by decide +kernel
theorem dL_law_948 : decode code 948 = .ok (.iconst 4, 1) := by decide +kernel
theorem dL_law_949 : decode code 949 = .ok (.iadd, 1) := by decide +kernel
theorem dL_law_950 : decode code 950 = .ok (.iaload, 1) := by decide +kernel
theorem dL_law_951 : decode code 951 = .ok (.invokevirtual 92, 3) := by decide +kernel
theorem dL_law_954 : decode code 954 = .ok (.if_icmp .eq 262, 3) := by decide +kernel
theorem dL_law_957 : decode code 957 = .ok (.iconst 0, 1) := by decide +kernel
theorem dL_law_958 : decode code 958 = .ok (.ireturn, 1) := by decide +kernel
theorem dL_law_959 : decode code 959 = .ok (.aload_n 1, 1) := by decide +kernel
theorem dL_law_960 : decode code 960 = .ok (.aload_n 0, 1) := by decide +kernel
theorem dL_law_961 : decode code 961 = .ok (.iload_n 3, 1) := by decide +kernel
theorem dL_law_962 : decode code 962 = .ok (.iconst 1, 1) := by decide +kernel
theorem dL_law_963 : decode code 963 = .ok (.iadd, 1) := by decide +kernel
theorem dL_law_964 : decode code 964 = .ok (.iaload, 1) := by decide +kernel
theorem dL_law_965 : decode code 965 = .ok (.aload_n 0, 1) := by decide +kernel
theorem dL_law_966 : decode code 966 = .ok (.iload_n 3, 1) := by decide +kernel
theorem dL_law_967 : decode code 967 = .ok (.iconst 2, 1) := by decide +kernel
theorem dL_law_968 : decode code 968 = .ok (.iadd, 1) := by decide +kernel
theorem dL_law_969 : decode code 969 = .ok (.iaload, 1) := by decide +kernel
theorem dL_law_970 : decode code 970 = .ok (.aload_n 0, 1) := by decide +kernel
theorem dL_law_971 : decode code 971 = .ok (.iload_n 3, 1) := by decide +kernel
theorem dL_law_972 : decode code 972 = .ok (.iconst 3, 1) := by decide +kernel
theorem dL_law_973 : decode code 973 = .ok (.iadd, 1) := by decide +kernel
theorem dL_law_974 : decode code 974 = .ok (.iaload, 1) := by decide +kernel
theorem dL_law_975 : decode code 975 = .ok (.aload_n 0, 1) := by decide +kernel
theorem dL_law_976 : decode code 976 = .ok (.iload_n 3, 1) := by decide +kernel
theorem dL_law_977 : decode code 977 = .ok (.iconst 4, 1) := by decide +kernel
theorem dL_law_978 : decode code 978 = .ok (.iadd, 1) := by decide +kernel
theorem dL_law_979 : decode code 979 = .ok (.iaload, 1) := by decide +kernel
theorem dL_law_980 : decode code 980 = .ok (.invokevirtual 93, 3) := by decide +kernel
theorem dL_law_983 : decode code 983 = .ok (.aload_n 2, 1) := by decide +kernel
theorem dL_law_984 : decode code 984 = .ok (.aload_n 0, 1) := by decide +kernel
theorem dL_law_985 : decode code 985 = .ok (.iload_n 3, 1) := by decide +kernel
theorem dL_law_986 : decode code 986 = .ok (.iconst 1, 1) := by decide +kernel
theorem dL_law_987 : decode code 987 = .ok (.iadd, 1) := by decide +kernel
theorem dL_law_988 : decode code 988 = .ok (.iaload, 1) := by decide +kernel
theorem dL_law_989 : decode code 989 = .ok (.aload_n 0, 1) := by decide +kernel
theorem dL_law_990 : decode code 990 = .ok (.iload_n 3, 1) := by decide +kernel
theorem dL_law_991 : decode code 991 = .ok (.iconst 2, 1) := by decide +kernel
theorem dL_law_992 : decode code 992 = .ok (.iadd, 1) := by decide +kernel
theorem dL_law_993 : decode code 993 = .ok (.iaload, 1) := by decide +kernel
theorem dL_law_994 : decode code 994 = .ok (.aload_n 0, 1) := by decide +kernel
theorem dL_law_995 : decode code 995 = .ok (.iload_n 3, 1) := by decide +kernel
theorem dL_law_996 : decode code 996 = .ok (.iconst 3, 1) := by decide +kernel
theorem dL_law_997 : decode code 997 = .ok (.iadd, 1) := by decide +kernel
theorem dL_law_998 : decode code 998 = .ok (.iaload, 1) := by decide +kernel
theorem dL_law_999 : decode code 999 = .ok (.aload_n 0, 1) := by decide +kernel
theorem dL_law_1000 : decode code 1000 = .ok (.iload_n 3, 1) := by decide +kernel
theorem dL_law_1001 : decode code 1001 = .ok (.iconst 4, 1) := by decide +kernel
theorem dL_law_1002 : decode code 1002 = .ok (.iadd, 1) := by decide +kernel
theorem dL_law_1003 : decode code 1003 = .ok (.iaload, 1) := by decide +kernel
theorem dL_law_1004 : decode code 1004 = .ok (.invokevirtual 96, 3) := by decide +kernel
theorem dL_law_1007 : decode code 1007 = .ok (.if_icmp .eq 209, 3) := by decide +kernel
theorem dL_law_1010 : decode code 1010 = .ok (.iconst 0, 1) := by decide +kernel
theorem dL_law_1011 : decode code 1011 = .ok (.ireturn, 1) := by decide +kernel
theorem dL_law_1012 : decode code 1012 = .ok (.aload_n 1, 1) := by decide +kernel
theorem dL_law_1013 : decode code 1013 = .ok (.aload_n 0, 1) := by decide +kernel
theorem dL_law_1014 : decode code 1014 = .ok (.iload_n 3, 1) := by decide +kernel
theorem dL_law_1015 : decode code 1015 = .ok (.iconst 1, 1) := by decide +kernel
theorem dL_law_1016 : decode code 1016 = .ok (.iadd, 1) := by decide +kernel
theorem dL_law_1017 : decode code 1017 = .ok (.iaload, 1) := by decide +kernel
theorem dL_law_1018 : decode code 1018 = .ok (.aload_n 0, 1) := by decide +kernel
theorem dL_law_1019 : decode code 1019 = .ok (.iload_n 3, 1) := by decide +kernel
theorem dL_law_1020 : decode code 1020 = .ok (.iconst 2, 1) := by decide +kernel
theorem dL_law_1021 : decode code 1021 = .ok (.iadd, 1) := by decide +kernel
theorem dL_law_1022 : decode code 1022 = .ok (.iaload, 1) := by decide +kernel
theorem dL_law_1023 : decode code 1023 = .ok (.invokevirtual 97, 3) := by decide +kernel
theorem dL_law_1026 : decode code 1026 = .ok (.aload_n 2, 1) := by decide +kernel
theorem dL_law_1027 : decode code 1027 = .ok (.aload_n 0, 1) := by decide +kernel
theorem dL_law_1028 : decode code 1028 = .ok (.iload_n 3, 1) := by decide +kernel
theorem dL_law_1029 : decode code 1029 = .ok (.iconst 1, 1) := by decide +kernel
theorem dL_law_1030 : decode code 1030 = .ok (.iadd, 1) := by decide +kernel
theorem dL_law_1031 : decode code 1031 = .ok (.iaload, 1) := by decide +kernel
theorem dL_law_1032 : decode code 1032 = .ok (.aload_n 0, 1) := by decide +kernel
theorem dL_law_1033 : decode code 1033 = .ok (.iload_n 3, 1) := by decide +kernel
theorem dL_law_1034 : decode code 1034 = .ok (.iconst 2, 1) := by decide +kernel
theorem dL_law_1035 : decode code 1035 = .ok (.iadd, 1) := by decide +kernel
theorem dL_law_1036 : decode code 1036 = .ok (.iaload, 1) := by decide +kernel
theorem dL_law_1037 : decode code 1037 = .ok (.invokevirtual 100, 3) := by decide +kernel
theorem dL_law_1040 : decode code 1040 = .ok (.if_icmp .eq 176, 3) := by decide +kernel
theorem dL_law_1043 : decode code 1043 = .ok (.iconst 0, 1) := by decide +kernel
theorem dL_law_1044 : decode code 1044 = .ok (.ireturn, 1) := by decide +kernel
theorem dL_law_1045 : decode code 1045 = .ok (.aload_n 1, 1) := by decide +kernel
theorem dL_law_1046 : decode code 1046 = .ok (.aload_n 0, 1) := by decide +kernel
theorem dL_law_1047 : decode code 1047 = .ok (.iload_n 3, 1) := by decide +kernel
theorem dL_law_1048 : decode code 1048 = .ok (.iconst 1, 1) := by decide +kernel
theorem dL_law_1049 : decode code 1049 = .ok (.iadd, 1) := by decide +kernel
theorem dL_law_1050 : decode code 1050 = .ok (.iaload, 1) := by decide +kernel
theorem dL_law_1051 : decode code 1051 = .ok (.aload_n 0, 1) := by decide +kernel
theorem dL_law_1052 : decode code 1052 = .ok (.iload_n 3, 1) := by decide +kernel
theorem dL_law_1053 : decode code 1053 = .ok (.iconst 2, 1) := by decide +kernel
theorem dL_law_1054 : decode code 1054 = .ok (.iadd, 1) := by decide +kernel
theorem dL_law_1055 : decode code 1055 = .ok (.iaload, 1) := by decide +kernel
theorem dL_law_1056 : decode code 1056 = .ok (.aload_n 0, 1) := by decide +kernel
theorem dL_law_1057 : decode code 1057 = .ok (.iload_n 3, 1) := by decide +kernel
theorem dL_law_1058 : decode code 1058 = .ok (.iconst 3, 1) := by decide +kernel
theorem dL_law_1059 : decode code 1059 = .ok (.iadd, 1) := by decide +kernel
theorem dL_law_1060 : decode code 1060 = .ok (.iaload, 1) := by decide +kernel
theorem dL_law_1061 : decode code 1061 = .ok (.aload_n 0, 1) := by decide +kernel
theorem dL_law_1062 : decode code 1062 = .ok (.iload_n 3, 1) := by decide +kernel
theorem dL_law_1063 : decode code 1063 = .ok (.iconst 4, 1) := by decide +kernel
theorem dL_law_1064 : decode code 1064 = .ok (.iadd, 1) := by decide +kernel
theorem dL_law_1065 : decode code 1065 = .ok (.iaload, 1) := by decide +kernel
theorem dL_law_1066 : decode code 1066 = .ok (.ifCond .eq 7, 3) := by decide +kernel
theorem dL_law_1069 : decode code 1069 = .ok (.iconst 1, 1) := by decide +kernel
theorem dL_law_1070 : decode code 1070 = .ok (.goto 4, 3) := by decide +kernel
theorem dL_law_1073 : decode code 1073 = .ok (.iconst 0, 1) := by decide +kernel
theorem dL_law_1074 : decode code 1074 = .ok (.invokevirtual 101, 3) := by decide +kernel
theorem dL_law_1077 : decode code 1077 = .ok (.aload_n 2, 1) := by decide +kernel
theorem dL_law_1078 : decode code 1078 = .ok (.aload_n 0, 1) := by decide +kernel
theorem dL_law_1079 : decode code 1079 = .ok (.iload_n 3, 1) := by decide +kernel
theorem dL_law_1080 : decode code 1080 = .ok (.iconst 1, 1) := by decide +kernel
theorem dL_law_1081 : decode code 1081 = .ok (.iadd, 1) := by decide +kernel
theorem dL_law_1082 : decode code 1082 = .ok (.iaload, 1) := by decide +kernel
theorem dL_law_1083 : decode code 1083 = .ok (.aload_n 0, 1) := by decide +kernel
theorem dL_law_1084 : decode code 1084 = .ok (.iload_n 3, 1) := by decide +kernel
theorem dL_law_1085 : decode code 1085 = .ok (.iconst 2, 1) := by decide +kernel
theorem dL_law_1086 : decode code 1086 = .ok (.iadd, 1) := by decide +kernel
theorem dL_law_1087 : decode code 1087 = .ok (.iaload, 1) := by decide +kernel
theorem dL_law_1088 : decode code 1088 = .ok (.aload_n 0, 1) := by decide +kernel
theorem dL_law_1089 : decode code 1089 = .ok (.iload_n 3, 1) := by decide +kernel
theorem dL_law_1090 : decode code 1090 = .ok (.iconst 3, 1) := by decide +kernel
theorem dL_law_1091 : decode code 1091 = .ok (.iadd, 1) := by decide +kernel
theorem dL_law_1092 : decode code 1092 = .ok (.iaload, 1) := by decide +kernel
theorem dL_law_1093 : decode code 1093 = .ok (.aload_n 0, 1) := by decide +kernel
theorem dL_law_1094 : decode code 1094 = .ok (.iload_n 3, 1) := by decide +kernel
theorem dL_law_1095 : decode code 1095 = .ok (.iconst 4, 1) := by decide +kernel
theorem dL_law_1096 : decode code 1096 = .ok (.iadd, 1) := by decide +kernel
theorem dL_law_1097 : decode code 1097 = .ok (.iaload, 1) := by decide +kernel
theorem dL_law_1098 : decode code 1098 = .ok (.ifCond .eq 7, 3) := by decide +kernel
theorem dL_law_1101 : decode code 1101 = .ok (.iconst 1, 1) := by decide +kernel
theorem dL_law_1102 : decode code 1102 = .ok (.goto 4, 3) := by decide +kernel
theorem dL_law_1105 : decode code 1105 = .ok (.iconst 0, 1) := by decide +kernel
theorem dL_law_1106 : decode code 1106 = .ok (.invokevirtual 105, 3) := by decide +kernel
theorem dL_law_1109 : decode code 1109 = .ok (.if_icmp .eq 107, 3) := by decide +kernel
theorem dL_law_1112 : decode code 1112 = .ok (.iconst 0, 1) := by decide +kernel
theorem dL_law_1113 : decode code 1113 = .ok (.ireturn, 1) := by decide +kernel
theorem dL_law_1114 : decode code 1114 = .ok (.aload_n 1, 1) := by decide +kernel
theorem dL_law_1115 : decode code 1115 = .ok (.aload_n 0, 1) := by decide +kernel
theorem dL_law_1116 : decode code 1116 = .ok (.iload_n 3, 1) := by decide +kernel
theorem dL_law_1117 : decode code 1117 = .ok (.iconst 1, 1) := by decide +kernel
theorem dL_law_1118 : decode code 1118 = .ok (.iadd, 1) := by decide +kernel
theorem dL_law_1119 : decode code 1119 = .ok (.iaload, 1) := by decide +kernel
theorem dL_law_1120 : decode code 1120 = .ok (.aload_n 0, 1) := by decide +kernel
theorem dL_law_1121 : decode code 1121 = .ok (.iload_n 3, 1) := by decide +kernel
theorem dL_law_1122 : decode code 1122 = .ok (.iconst 2, 1) := by decide +kernel
theorem dL_law_1123 : decode code 1123 = .ok (.iadd, 1) := by decide +kernel
theorem dL_law_1124 : decode code 1124 = .ok (.iaload, 1) := by decide +kernel
theorem dL_law_1125 : decode code 1125 = .ok (.invokevirtual 106, 3) := by decide +kernel
theorem dL_law_1128 : decode code 1128 = .ok (.aload_n 2, 1) := by decide +kernel
theorem dL_law_1129 : decode code 1129 = .ok (.aload_n 0, 1) := by decide +kernel
theorem dL_law_1130 : decode code 1130 = .ok (.iload_n 3, 1) := by decide +kernel
theorem dL_law_1131 : decode code 1131 = .ok (.iconst 1, 1) := by decide +kernel
theorem dL_law_1132 : decode code 1132 = .ok (.iadd, 1) := by decide +kernel
theorem dL_law_1133 : decode code 1133 = .ok (.iaload, 1) := by decide +kernel
theorem dL_law_1134 : decode code 1134 = .ok (.aload_n 0, 1) := by decide +kernel
theorem dL_law_1135 : decode code 1135 = .ok (.iload_n 3, 1) := by decide +kernel
theorem dL_law_1136 : decode code 1136 = .ok (.iconst 2, 1) := by decide +kernel
theorem dL_law_1137 : decode code 1137 = .ok (.iadd, 1) := by decide +kernel
theorem dL_law_1138 : decode code 1138 = .ok (.iaload, 1) := by decide +kernel
theorem dL_law_1139 : decode code 1139 = .ok (.invokevirtual 109, 3) := by decide +kernel
theorem dL_law_1142 : decode code 1142 = .ok (.if_icmp .eq 74, 3) := by decide +kernel
theorem dL_law_1145 : decode code 1145 = .ok (.iconst 0, 1) := by decide +kernel
theorem dL_law_1146 : decode code 1146 = .ok (.ireturn, 1) := by decide +kernel
theorem dL_law_1147 : decode code 1147 = .ok (.aload_n 1, 1) := by decide +kernel
theorem dL_law_1148 : decode code 1148 = .ok (.aload_n 0, 1) := by decide +kernel
theorem dL_law_1149 : decode code 1149 = .ok (.iload_n 3, 1) := by decide +kernel
theorem dL_law_1150 : decode code 1150 = .ok (.iconst 1, 1) := by decide +kernel
theorem dL_law_1151 : decode code 1151 = .ok (.iadd, 1) := by decide +kernel
theorem dL_law_1152 : decode code 1152 = .ok (.iaload, 1) := by decide +kernel
theorem dL_law_1153 : decode code 1153 = .ok (.invokevirtual 110, 3) := by decide +kernel
theorem dL_law_1156 : decode code 1156 = .ok (.aload_n 2, 1) := by decide +kernel
theorem dL_law_1157 : decode code 1157 = .ok (.aload_n 0, 1) := by decide +kernel
theorem dL_law_1158 : decode code 1158 = .ok (.iload_n 3, 1) := by decide +kernel
theorem dL_law_1159 : decode code 1159 = .ok (.iconst 1, 1) := by decide +kernel
theorem dL_law_1160 : decode code 1160 = .ok (.iadd, 1) := by decide +kernel
theorem dL_law_1161 : decode code 1161 = .ok (.iaload, 1) := by decide +kernel
theorem dL_law_1162 : decode code 1162 = .ok (.invokevirtual 113, 3) := by decide +kernel
theorem dL_law_1165 : decode code 1165 = .ok (.if_icmp .eq 51, 3) := by decide +kernel
theorem dL_law_1168 : decode code 1168 = .ok (.iconst 0, 1) := by decide +kernel
theorem dL_law_1169 : decode code 1169 = .ok (.ireturn, 1) := by decide +kernel
theorem dL_law_1170 : decode code 1170 = .ok (.aload_n 1, 1) := by decide +kernel
theorem dL_law_1171 : decode code 1171 = .ok (.aload_n 0, 1) := by decide +kernel
theorem dL_law_1172 : decode code 1172 = .ok (.iload_n 3, 1) := by decide +kernel
theorem dL_law_1173 : decode code 1173 = .ok (.iconst 1, 1) := by decide +kernel
theorem dL_law_1174 : decode code 1174 = .ok (.iadd, 1) := by decide +kernel
theorem dL_law_1175 : decode code 1175 = .ok (.iaload, 1) := by decide +kernel
theorem dL_law_1176 : decode code 1176 = .ok (.invokevirtual 114, 3) := by decide +kernel
theorem dL_law_1179 : decode code 1179 = .ok (.aload_n 2, 1) := by decide +kernel
theorem dL_law_1180 : decode code 1180 = .ok (.aload_n 0, 1) := by decide +kernel
theorem dL_law_1181 : decode code 1181 = .ok (.iload_n 3, 1) := by decide +kernel
theorem dL_law_1182 : decode code 1182 = .ok (.iconst 1, 1) := by decide +kernel
theorem dL_law_1183 : decode code 1183 = .ok (.iadd, 1) := by decide +kernel
theorem dL_law_1184 : decode code 1184 = .ok (.iaload, 1) := by decide +kernel
theorem dL_law_1185 : decode code 1185 = .ok (.invokevirtual 118, 3) := by decide +kernel
theorem dL_law_1188 : decode code 1188 = .ok (.if_icmp .eq 28, 3) := by decide +kernel
theorem dL_law_1191 : decode code 1191 = .ok (.iconst 0, 1) := by decide +kernel
theorem dL_law_1192 : decode code 1192 = .ok (.ireturn, 1) := by decide +kernel
theorem dL_law_1193 : decode code 1193 = .ok (.aload_n 1, 1) := by decide +kernel
theorem dL_law_1194 : decode code 1194 = .ok (.aload_n 0, 1) := by decide +kernel
theorem dL_law_1195 : decode code 1195 = .ok (.iload_n 3, 1) := by decide +kernel
theorem dL_law_1196 : decode code 1196 = .ok (.iconst 1, 1) := by decide +kernel
theorem dL_law_1197 : decode code 1197 = .ok (.iadd, 1) := by decide +kernel
theorem dL_law_1198 : decode code 1198 = .ok (.iaload, 1) := by decide +kernel
theorem dL_law_1199 : decode code 1199 = .ok (.invokevirtual 119, 3) := by decide +kernel
theorem dL_law_1202 : decode code 1202 = .ok (.aload_n 2, 1) := by decide +kernel
theorem dL_law_1203 : decode code 1203 = .ok (.aload_n 0, 1) := by decide +kernel
theorem dL_law_1204 : decode code 1204 = .ok (.iload_n 3, 1) := by decide +kernel
theorem dL_law_1205 : decode code 1205 = .ok (.iconst 1, 1) := by decide +kernel
theorem dL_law_1206 : decode code 1206 = .ok (.iadd, 1) := by decide +kernel
theorem dL_law_1207 : decode code 1207 = .ok (.iaload, 1) := by decide +kernel
theorem dL_law_1208 : decode code 1208 = .ok (.invokevirtual 122, 3) := by decide +kernel
theorem dL_law_1211 : decode code 1211 = .ok (.if_icmp .eq 5, 3) := by decide +kernel
theorem dL_law_1214 : decode code 1214 = .ok (.iconst 0, 1) := by decide +kernel
theorem dL_law_1215 : decode code 1215 = .ok (.ireturn, 1) := by decide +kernel
theorem dL_law_1216 : decode code 1216 = .ok (.iinc 3 8, 3) := by decide +kernel
theorem dL_law_1219 : decode code 1219 = .ok (.goto (-1201), 3) := by decide +kernel
theorem dL_law_1222 : decode code 1222 = .ok (.iconst 1, 1) := by decide +kernel
theorem dL_law_1223 : decode code 1223 = .ok (.ireturn, 1) := by decide +kernel
def w_L_0 (xs : Nat → Int32) (Ls : Nat) (kk : Nat → mK → mR → mI → mL → Prop) (n : Nat) (K : mK) (R : mR) (I : mI) (L : mL) (v3 : Int32) : Prop := vp_in (v3 + 1) Ls ∧ vp_in (v3 + 2) Ls ∧ vp_in (v3 + 3) Ls ∧ vp_in (v3 + 4) Ls ∧ vp_in (v3 + 5) Ls ∧ isX11 K R ∧ w_X11_feed I (xs ((v3 + 1).toNatClampNeg)) (xs ((v3 + 2).toNatClampNeg)) (xs ((v3 + 3).toNatClampNeg)) (xs ((v3 + 4).toNatClampNeg)) (xs ((v3 + 5).toNatClampNeg)) (fun r1 I2 => vp_in (v3 + 1) Ls ∧ vp_in (v3 + 2) Ls ∧ vp_in (v3 + 3) Ls ∧ vp_in (v3 + 4) Ls ∧ vp_in (v3 + 5) Ls ∧ isX12 K R 128 ∧ w_X12_feed I2 128 (xs ((v3 + 1).toNatClampNeg)) (xs ((v3 + 2).toNatClampNeg)) (xs ((v3 + 3).toNatClampNeg)) (xs ((v3 + 4).toNatClampNeg)) (xs ((v3 + 5).toNatClampNeg)) (fun r3 I4 => (r1 = r3 → kk n K R I4 L) ∧ (¬ r1 = r3 → False)))
set_option maxRecDepth 100000 in
set_option maxHeartbeats 4000000 in
theorem s_L_0 {p : Program} {l : Launch} {e : Env} {s : State} {m : MethodId} {below : List Frame} {meth : Method} {c : Code} {D : va_G} {cA : Nat → ClassId} {Z : mZ} {bs : Ad} {b Ls : Nat} {xs : Nat → Int32} (E : Ev p s m #[Value.ref b] c code 4 RL D cA Z bs) (hX : va_X b Ls xs s s.heap) (hbl : b < s.heap.size) (hbA : ¬ Ab bs b) {j : Nat} (hj : j < 513) {kk : Nat → mK → mR → mI → mL → Prop} {v3 : Int32} (hkk : ∀ (bs1 : Ad) (n : Nat) (K : mK) (R : mR) (I : mI) (L : mL) (H : Heap) (locs : List Loc) (ls : Array Slot), bs1.1 = bs.1 → kk n K R I L → mm D cA bs1 (n, K, R, I, L) H → va_S (Ab bs1) s.heap H locs → lv_has ls 4 [(0, .ref b), (1, .ref (ad bs1 0)), (2, .ref (ad bs1 128)), (3, .int v3)] → W p l e room_1 s m #[Value.ref b] below meth c H locs (151 + 42 * j + 42) (33822 + 6542 * j + 6542) (lw_Z below #[Value.ref b] s) (F0 m 1216 ls [])) {n : Nat} {K : mK} {R : mR} {I : mI} {L : mL} {H : Heap} {locs : List Loc} {ls : Array Slot} (hw : w_L_0 xs Ls kk n K R I L v3) (hM : mm D cA bs (n, K, R, I, L) H) (hS : va_S (Ab bs) s.heap H locs) (hl : lv_has ls 4 [(0, .ref b), (1, .ref (ad bs 0)), (2, .ref (ad bs 128)), (3, .int v3)]) : W p l e room_1 s m #[Value.ref b] below meth c H locs (151 + 42 * j) (33822 + 6542 * j) (lw_Z below #[Value.ref b] s) (F0 m 148 ls []) := by
  have hx := E.1.1
  have hb := E.1.2.1
  have hb9 : bs.1 = bs.1 := rfl
  have hRc : room_1.cells = 600000 := rfl
  have hRs : 7000000 ≤ room_1.slots := Nat.le_of_ble_eq_true rfl
  refine lv_aload_n hx hb dL_law_148 rfl (lv_at hl 1 rfl) ?_
  refine lv_aload_n hx hb dL_law_149 rfl (lv_at hl 0 rfl) ?_
  refine lv_iload_n hx hb dL_law_150 rfl (lv_at hl 3 rfl) ?_
  refine lv_iconst (v := 1) hx hb dL_law_151 (by decide) ?_
  refine lv_iadd hx hb dL_law_152 ?_
  obtain ⟨hv, hw⟩ := hw
  refine va_sld hx hb hX hbl hbA hS hv dL_law_153 ?_
  refine lv_aload_n hx hb dL_law_154 rfl (lv_at hl 0 rfl) ?_
  refine lv_iload_n hx hb dL_law_155 rfl (lv_at hl 3 rfl) ?_
  refine lv_iconst (v := 2) hx hb dL_law_156 (by decide) ?_
  refine lv_iadd hx hb dL_law_157 ?_
  obtain ⟨hv, hw⟩ := hw
  refine va_sld hx hb hX hbl hbA hS hv dL_law_158 ?_
  refine lv_aload_n hx hb dL_law_159 rfl (lv_at hl 0 rfl) ?_
  refine lv_iload_n hx hb dL_law_160 rfl (lv_at hl 3 rfl) ?_
  refine lv_iconst (v := 3) hx hb dL_law_161 (by decide) ?_
  refine lv_iadd hx hb dL_law_162 ?_
  obtain ⟨hv, hw⟩ := hw
  refine va_sld hx hb hX hbl hbA hS hv dL_law_163 ?_
  refine lv_aload_n hx hb dL_law_164 rfl (lv_at hl 0 rfl) ?_
  refine lv_iload_n hx hb dL_law_165 rfl (lv_at hl 3 rfl) ?_
  refine lv_iconst (v := 4) hx hb dL_law_166 (by decide) ?_
  refine lv_iadd hx hb dL_law_167 ?_
  obtain ⟨hv, hw⟩ := hw
  refine va_sld hx hb hX hbl hbA hS hv dL_law_168 ?_
  refine lv_aload_n hx hb dL_law_169 rfl (lv_at hl 0 rfl) ?_
  refine lv_iload_n hx hb dL_law_170 rfl (lv_at hl 3 rfl) ?_
  refine lv_iconst (v := 5) hx hb dL_law_171 (by decide) ?_
  refine lv_iadd hx hb dL_law_172 ?_
  obtain ⟨hv, hw⟩ := hw
  refine va_sld hx hb hX hbl hbA hS hv dL_law_173 ?_
  obtain ⟨ob9, hw⟩ := hw
  refine m_ci (m_runV E hM hS cs_L_13 ob9.1 (by decide) rfl rfl (c_X11_feed ob9 hw) rfl rfl ⟨Nat.le_of_ble_eq_true rfl, Nat.le_of_ble_eq_true rfl⟩ rfl hl.1 rfl (Nat.le_of_ble_eq_true rfl) dL_law_174 ⟨by omega, by omega⟩) hS (fun r1 u H locs hp hM hS => ?_)
  obtain ⟨I2, rfl, hw⟩ := hp
  refine lv_aload_n hx hb dL_law_177 rfl (lv_at hl 2 rfl) ?_
  refine lv_aload_n hx hb dL_law_178 rfl (lv_at hl 0 rfl) ?_
  refine lv_iload_n hx hb dL_law_179 rfl (lv_at hl 3 rfl) ?_
  refine lv_iconst (v := 1) hx hb dL_law_180 (by decide) ?_
  refine lv_iadd hx hb dL_law_181 ?_
  obtain ⟨hv, hw⟩ := hw
  refine va_sld hx hb hX hbl hbA hS hv dL_law_182 ?_
  refine lv_aload_n hx hb dL_law_183 rfl (lv_at hl 0 rfl) ?_
  refine lv_iload_n hx hb dL_law_184 rfl (lv_at hl 3 rfl) ?_
  refine lv_iconst (v := 2) hx hb dL_law_185 (by decide) ?_
  refine lv_iadd hx hb dL_law_186 ?_
  obtain ⟨hv, hw⟩ := hw
  refine va_sld hx hb hX hbl hbA hS hv dL_law_187 ?_
  refine lv_aload_n hx hb dL_law_188 rfl (lv_at hl 0 rfl) ?_
  refine lv_iload_n hx hb dL_law_189 rfl (lv_at hl 3 rfl) ?_
  refine lv_iconst (v := 3) hx hb dL_law_190 (by decide) ?_
  refine lv_iadd hx hb dL_law_191 ?_
  obtain ⟨hv, hw⟩ := hw
  refine va_sld hx hb hX hbl hbA hS hv dL_law_192 ?_
  refine lv_aload_n hx hb dL_law_193 rfl (lv_at hl 0 rfl) ?_
  refine lv_iload_n hx hb dL_law_194 rfl (lv_at hl 3 rfl) ?_
  refine lv_iconst (v := 4) hx hb dL_law_195 (by decide) ?_
  refine lv_iadd hx hb dL_law_196 ?_
  obtain ⟨hv, hw⟩ := hw
  refine va_sld hx hb hX hbl hbA hS hv dL_law_197 ?_
  refine lv_aload_n hx hb dL_law_198 rfl (lv_at hl 0 rfl) ?_
  refine lv_iload_n hx hb dL_law_199 rfl (lv_at hl 3 rfl) ?_
  refine lv_iconst (v := 5) hx hb dL_law_200 (by decide) ?_
  refine lv_iadd hx hb dL_law_201 ?_
  obtain ⟨hv, hw⟩ := hw
  refine va_sld hx hb hX hbl hbA hS hv dL_law_202 ?_
  obtain ⟨ob9, hw⟩ := hw
  refine m_ci (m_runV E hM hS cs_L_17 ob9.1 (by decide) rfl rfl (c_X12_feed ob9 hw) rfl rfl ⟨Nat.le_of_ble_eq_true rfl, Nat.le_of_ble_eq_true rfl⟩ rfl hl.1 rfl (Nat.le_of_ble_eq_true rfl) dL_law_203 ⟨by omega, by omega⟩) hS (fun r3 u H locs hp hM hS => ?_)
  obtain ⟨I4, rfl, hw⟩ := hp
  refine lv_icmp_eq (tgt := 1216) hx hb dL_law_206 (by decide) (fun cq => ?_) (fun cq => ?_)
  · have hw := hw.1 cq
    refine W.widen (k := 151 + 42 * j + 42) (n := 33822 + 6542 * j + 6542) (by omega) (by omega) ?_
    exact hkk bs _ _ _ _ _ H locs ls hb9 hw hM hS (lv_sub hl [0, 1, 2, 3] rfl)
  · have hw := hw.2 cq
    refine lv_iconst (v := 0) hx hb dL_law_209 (by decide) ?_
    exact False.elim hw
def w_L_1 (xs : Nat → Int32) (Ls : Nat) (kk : Nat → mK → mR → mI → mL → Prop) (n : Nat) (K : mK) (R : mR) (I : mI) (L : mL) (v3 : Int32) : Prop := vp_in (v3 + 1) Ls ∧ isX11 K R ∧ w_X11_end I (xs ((v3 + 1).toNatClampNeg)) (fun r5 I6 => vp_in (v3 + 1) Ls ∧ isX12 K R 128 ∧ w_X12_end I6 128 (xs ((v3 + 1).toNatClampNeg)) (fun r7 I8 => (r5 = r7 → kk n K R I8 L) ∧ (¬ r5 = r7 → False)))
set_option maxRecDepth 100000 in
set_option maxHeartbeats 4000000 in
theorem s_L_1 {p : Program} {l : Launch} {e : Env} {s : State} {m : MethodId} {below : List Frame} {meth : Method} {c : Code} {D : va_G} {cA : Nat → ClassId} {Z : mZ} {bs : Ad} {b Ls : Nat} {xs : Nat → Int32} (E : Ev p s m #[Value.ref b] c code 4 RL D cA Z bs) (hX : va_X b Ls xs s s.heap) (hbl : b < s.heap.size) (hbA : ¬ Ab bs b) {j : Nat} (hj : j < 513) {kk : Nat → mK → mR → mI → mL → Prop} {v3 : Int32} (hkk : ∀ (bs1 : Ad) (n : Nat) (K : mK) (R : mR) (I : mI) (L : mL) (H : Heap) (locs : List Loc) (ls : Array Slot), bs1.1 = bs.1 → kk n K R I L → mm D cA bs1 (n, K, R, I, L) H → va_S (Ab bs1) s.heap H locs → lv_has ls 4 [(0, .ref b), (1, .ref (ad bs1 0)), (2, .ref (ad bs1 128)), (3, .int v3)] → W p l e room_1 s m #[Value.ref b] below meth c H locs (151 + 42 * j + 42) (33822 + 6542 * j + 6542) (lw_Z below #[Value.ref b] s) (F0 m 1216 ls [])) {n : Nat} {K : mK} {R : mR} {I : mI} {L : mL} {H : Heap} {locs : List Loc} {ls : Array Slot} (hw : w_L_1 xs Ls kk n K R I L v3) (hM : mm D cA bs (n, K, R, I, L) H) (hS : va_S (Ab bs) s.heap H locs) (hl : lv_has ls 4 [(0, .ref b), (1, .ref (ad bs 0)), (2, .ref (ad bs 128)), (3, .int v3)]) : W p l e room_1 s m #[Value.ref b] below meth c H locs (151 + 42 * j) (33822 + 6542 * j) (lw_Z below #[Value.ref b] s) (F0 m 211 ls []) := by
  have hx := E.1.1
  have hb := E.1.2.1
  have hb9 : bs.1 = bs.1 := rfl
  have hRc : room_1.cells = 600000 := rfl
  have hRs : 7000000 ≤ room_1.slots := Nat.le_of_ble_eq_true rfl
  refine lv_aload_n hx hb dL_law_211 rfl (lv_at hl 1 rfl) ?_
  refine lv_aload_n hx hb dL_law_212 rfl (lv_at hl 0 rfl) ?_
  refine lv_iload_n hx hb dL_law_213 rfl (lv_at hl 3 rfl) ?_
  refine lv_iconst (v := 1) hx hb dL_law_214 (by decide) ?_
  refine lv_iadd hx hb dL_law_215 ?_
  obtain ⟨hv, hw⟩ := hw
  refine va_sld hx hb hX hbl hbA hS hv dL_law_216 ?_
  obtain ⟨ob9, hw⟩ := hw
  refine m_ci (m_runV E hM hS cs_L_18 ob9.1 (by decide) rfl rfl (c_X11_end ob9 hw) rfl rfl ⟨Nat.le_of_ble_eq_true rfl, Nat.le_of_ble_eq_true rfl⟩ rfl hl.1 rfl (Nat.le_of_ble_eq_true rfl) dL_law_217 ⟨by omega, by omega⟩) hS (fun r5 u H locs hp hM hS => ?_)
  obtain ⟨I6, rfl, hw⟩ := hp
  refine lv_aload_n hx hb dL_law_220 rfl (lv_at hl 2 rfl) ?_
  refine lv_aload_n hx hb dL_law_221 rfl (lv_at hl 0 rfl) ?_
  refine lv_iload_n hx hb dL_law_222 rfl (lv_at hl 3 rfl) ?_
  refine lv_iconst (v := 1) hx hb dL_law_223 (by decide) ?_
  refine lv_iadd hx hb dL_law_224 ?_
  obtain ⟨hv, hw⟩ := hw
  refine va_sld hx hb hX hbl hbA hS hv dL_law_225 ?_
  obtain ⟨ob9, hw⟩ := hw
  refine m_ci (m_runV E hM hS cs_L_22 ob9.1 (by decide) rfl rfl (c_X12_end ob9 hw) rfl rfl ⟨Nat.le_of_ble_eq_true rfl, Nat.le_of_ble_eq_true rfl⟩ rfl hl.1 rfl (Nat.le_of_ble_eq_true rfl) dL_law_226 ⟨by omega, by omega⟩) hS (fun r7 u H locs hp hM hS => ?_)
  obtain ⟨I8, rfl, hw⟩ := hp
  refine lv_icmp_eq (tgt := 1216) hx hb dL_law_229 (by decide) (fun cq => ?_) (fun cq => ?_)
  · have hw := hw.1 cq
    refine W.widen (k := 151 + 42 * j + 42) (n := 33822 + 6542 * j + 6542) (by omega) (by omega) ?_
    exact hkk bs _ _ _ _ _ H locs ls hb9 hw hM hS (lv_sub hl [0, 1, 2, 3] rfl)
  · have hw := hw.2 cq
    refine lv_iconst (v := 0) hx hb dL_law_232 (by decide) ?_
    exact False.elim hw
def w_L_2 (xs : Nat → Int32) (Ls : Nat) (kk : Nat → mK → mR → mI → mL → Prop) (n : Nat) (K : mK) (R : mR) (I : mI) (L : mL) (v3 : Int32) : Prop := vp_in (v3 + 1) Ls ∧ vp_in (v3 + 2) Ls ∧ isX11 K R ∧ w_X11_text I (xs ((v3 + 1).toNatClampNeg)) (xs ((v3 + 2).toNatClampNeg)) (fun r9 I10 => vp_in (v3 + 1) Ls ∧ vp_in (v3 + 2) Ls ∧ isX12 K R 128 ∧ w_X12_text I10 128 (xs ((v3 + 1).toNatClampNeg)) (xs ((v3 + 2).toNatClampNeg)) (fun r11 I12 => (r9 = r11 → kk n K R I12 L) ∧ (¬ r9 = r11 → False)))
set_option maxRecDepth 100000 in
set_option maxHeartbeats 4000000 in
theorem s_L_2 {p : Program} {l : Launch} {e : Env} {s : State} {m : MethodId} {below : List Frame} {meth : Method} {c : Code} {D : va_G} {cA : Nat → ClassId} {Z : mZ} {bs : Ad} {b Ls : Nat} {xs : Nat → Int32} (E : Ev p s m #[Value.ref b] c code 4 RL D cA Z bs) (hX : va_X b Ls xs s s.heap) (hbl : b < s.heap.size) (hbA : ¬ Ab bs b) {j : Nat} (hj : j < 513) {kk : Nat → mK → mR → mI → mL → Prop} {v3 : Int32} (hkk : ∀ (bs1 : Ad) (n : Nat) (K : mK) (R : mR) (I : mI) (L : mL) (H : Heap) (locs : List Loc) (ls : Array Slot), bs1.1 = bs.1 → kk n K R I L → mm D cA bs1 (n, K, R, I, L) H → va_S (Ab bs1) s.heap H locs → lv_has ls 4 [(0, .ref b), (1, .ref (ad bs1 0)), (2, .ref (ad bs1 128)), (3, .int v3)] → W p l e room_1 s m #[Value.ref b] below meth c H locs (151 + 42 * j + 42) (33822 + 6542 * j + 6542) (lw_Z below #[Value.ref b] s) (F0 m 1216 ls [])) {n : Nat} {K : mK} {R : mR} {I : mI} {L : mL} {H : Heap} {locs : List Loc} {ls : Array Slot} (hw : w_L_2 xs Ls kk n K R I L v3) (hM : mm D cA bs (n, K, R, I, L) H) (hS : va_S (Ab bs) s.heap H locs) (hl : lv_has ls 4 [(0, .ref b), (1, .ref (ad bs 0)), (2, .ref (ad bs 128)), (3, .int v3)]) : W p l e room_1 s m #[Value.ref b] below meth c H locs (151 + 42 * j) (33822 + 6542 * j) (lw_Z below #[Value.ref b] s) (F0 m 234 ls []) := by
  have hx := E.1.1
  have hb := E.1.2.1
  have hb9 : bs.1 = bs.1 := rfl
  have hRc : room_1.cells = 600000 := rfl
  have hRs : 7000000 ≤ room_1.slots := Nat.le_of_ble_eq_true rfl
  refine lv_aload_n hx hb dL_law_234 rfl (lv_at hl 1 rfl) ?_
  refine lv_aload_n hx hb dL_law_235 rfl (lv_at hl 0 rfl) ?_
  refine lv_iload_n hx hb dL_law_236 rfl (lv_at hl 3 rfl) ?_
  refine lv_iconst (v := 1) hx hb dL_law_237 (by decide) ?_
  refine lv_iadd hx hb dL_law_238 ?_
  obtain ⟨hv, hw⟩ := hw
  refine va_sld hx hb hX hbl hbA hS hv dL_law_239 ?_
  refine lv_aload_n hx hb dL_law_240 rfl (lv_at hl 0 rfl) ?_
  refine lv_iload_n hx hb dL_law_241 rfl (lv_at hl 3 rfl) ?_
  refine lv_iconst (v := 2) hx hb dL_law_242 (by decide) ?_
  refine lv_iadd hx hb dL_law_243 ?_
  obtain ⟨hv, hw⟩ := hw
  refine va_sld hx hb hX hbl hbA hS hv dL_law_244 ?_
  obtain ⟨ob9, hw⟩ := hw
  refine m_ci (m_runV E hM hS cs_L_23 ob9.1 (by decide) rfl rfl (c_X11_text ob9 hw) rfl rfl ⟨Nat.le_of_ble_eq_true rfl, Nat.le_of_ble_eq_true rfl⟩ rfl hl.1 rfl (Nat.le_of_ble_eq_true rfl) dL_law_245 ⟨by omega, by omega⟩) hS (fun r9 u H locs hp hM hS => ?_)
  obtain ⟨I10, rfl, hw⟩ := hp
  refine lv_aload_n hx hb dL_law_248 rfl (lv_at hl 2 rfl) ?_
  refine lv_aload_n hx hb dL_law_249 rfl (lv_at hl 0 rfl) ?_
  refine lv_iload_n hx hb dL_law_250 rfl (lv_at hl 3 rfl) ?_
  refine lv_iconst (v := 1) hx hb dL_law_251 (by decide) ?_
  refine lv_iadd hx hb dL_law_252 ?_
  obtain ⟨hv, hw⟩ := hw
  refine va_sld hx hb hX hbl hbA hS hv dL_law_253 ?_
  refine lv_aload_n hx hb dL_law_254 rfl (lv_at hl 0 rfl) ?_
  refine lv_iload_n hx hb dL_law_255 rfl (lv_at hl 3 rfl) ?_
  refine lv_iconst (v := 2) hx hb dL_law_256 (by decide) ?_
  refine lv_iadd hx hb dL_law_257 ?_
  obtain ⟨hv, hw⟩ := hw
  refine va_sld hx hb hX hbl hbA hS hv dL_law_258 ?_
  obtain ⟨ob9, hw⟩ := hw
  refine m_ci (m_runV E hM hS cs_L_27 ob9.1 (by decide) rfl rfl (c_X12_text ob9 hw) rfl rfl ⟨Nat.le_of_ble_eq_true rfl, Nat.le_of_ble_eq_true rfl⟩ rfl hl.1 rfl (Nat.le_of_ble_eq_true rfl) dL_law_259 ⟨by omega, by omega⟩) hS (fun r11 u H locs hp hM hS => ?_)
  obtain ⟨I12, rfl, hw⟩ := hp
  refine lv_icmp_eq (tgt := 1216) hx hb dL_law_262 (by decide) (fun cq => ?_) (fun cq => ?_)
  · have hw := hw.1 cq
    refine W.widen (k := 151 + 42 * j + 42) (n := 33822 + 6542 * j + 6542) (by omega) (by omega) ?_
    exact hkk bs _ _ _ _ _ H locs ls hb9 hw hM hS (lv_sub hl [0, 1, 2, 3] rfl)
  · have hw := hw.2 cq
    refine lv_iconst (v := 0) hx hb dL_law_265 (by decide) ?_
    exact False.elim hw
def w_L_3 (xs : Nat → Int32) (Ls : Nat) (kk : Nat → mK → mR → mI → mL → Prop) (n : Nat) (K : mK) (R : mR) (I : mI) (L : mL) (v3 : Int32) : Prop := vp_in (v3 + 1) Ls ∧ isX11 K R ∧ w_X11_fault I (xs ((v3 + 1).toNatClampNeg)) (fun r13 => vp_in (v3 + 1) Ls ∧ isX12 K R 128 ∧ w_X12_fault I 128 (xs ((v3 + 1).toNatClampNeg)) (fun r14 => (r13 = r14 → kk n K R I L) ∧ (¬ r13 = r14 → False)))
set_option maxRecDepth 100000 in
set_option maxHeartbeats 4000000 in
theorem s_L_3 {p : Program} {l : Launch} {e : Env} {s : State} {m : MethodId} {below : List Frame} {meth : Method} {c : Code} {D : va_G} {cA : Nat → ClassId} {Z : mZ} {bs : Ad} {b Ls : Nat} {xs : Nat → Int32} (E : Ev p s m #[Value.ref b] c code 4 RL D cA Z bs) (hX : va_X b Ls xs s s.heap) (hbl : b < s.heap.size) (hbA : ¬ Ab bs b) {j : Nat} (hj : j < 513) {kk : Nat → mK → mR → mI → mL → Prop} {v3 : Int32} (hkk : ∀ (bs1 : Ad) (n : Nat) (K : mK) (R : mR) (I : mI) (L : mL) (H : Heap) (locs : List Loc) (ls : Array Slot), bs1.1 = bs.1 → kk n K R I L → mm D cA bs1 (n, K, R, I, L) H → va_S (Ab bs1) s.heap H locs → lv_has ls 4 [(0, .ref b), (1, .ref (ad bs1 0)), (2, .ref (ad bs1 128)), (3, .int v3)] → W p l e room_1 s m #[Value.ref b] below meth c H locs (151 + 42 * j + 42) (33822 + 6542 * j + 6542) (lw_Z below #[Value.ref b] s) (F0 m 1216 ls [])) {n : Nat} {K : mK} {R : mR} {I : mI} {L : mL} {H : Heap} {locs : List Loc} {ls : Array Slot} (hw : w_L_3 xs Ls kk n K R I L v3) (hM : mm D cA bs (n, K, R, I, L) H) (hS : va_S (Ab bs) s.heap H locs) (hl : lv_has ls 4 [(0, .ref b), (1, .ref (ad bs 0)), (2, .ref (ad bs 128)), (3, .int v3)]) : W p l e room_1 s m #[Value.ref b] below meth c H locs (151 + 42 * j) (33822 + 6542 * j) (lw_Z below #[Value.ref b] s) (F0 m 267 ls []) := by
  have hx := E.1.1
  have hb := E.1.2.1
  have hb9 : bs.1 = bs.1 := rfl
  have hRc : room_1.cells = 600000 := rfl
  have hRs : 7000000 ≤ room_1.slots := Nat.le_of_ble_eq_true rfl
  refine lv_aload_n hx hb dL_law_267 rfl (lv_at hl 1 rfl) ?_
  refine lv_aload_n hx hb dL_law_268 rfl (lv_at hl 0 rfl) ?_
  refine lv_iload_n hx hb dL_law_269 rfl (lv_at hl 3 rfl) ?_
  refine lv_iconst (v := 1) hx hb dL_law_270 (by decide) ?_
  refine lv_iadd hx hb dL_law_271 ?_
  obtain ⟨hv, hw⟩ := hw
  refine va_sld hx hb hX hbl hbA hS hv dL_law_272 ?_
  obtain ⟨ob9, hw⟩ := hw
  refine m_ci (m_runV E hM hS cs_L_28 ob9.1 (by decide) rfl rfl (c_X11_fault ob9 hw) rfl rfl ⟨Nat.le_of_ble_eq_true rfl, Nat.le_of_ble_eq_true rfl⟩ rfl hl.1 rfl (Nat.le_of_ble_eq_true rfl) dL_law_273 ⟨by omega, by omega⟩) hS (fun r13 u H locs hp hM hS => ?_)
  obtain ⟨rfl, hw⟩ := hp
  refine lv_aload_n hx hb dL_law_276 rfl (lv_at hl 2 rfl) ?_
  refine lv_aload_n hx hb dL_law_277 rfl (lv_at hl 0 rfl) ?_
  refine lv_iload_n hx hb dL_law_278 rfl (lv_at hl 3 rfl) ?_
  refine lv_iconst (v := 1) hx hb dL_law_279 (by decide) ?_
  refine lv_iadd hx hb dL_law_280 ?_
  obtain ⟨hv, hw⟩ := hw
  refine va_sld hx hb hX hbl hbA hS hv dL_law_281 ?_
  obtain ⟨ob9, hw⟩ := hw
  refine m_ci (m_runV E hM hS cs_L_31 ob9.1 (by decide) rfl rfl (c_X12_fault ob9 hw) rfl rfl ⟨Nat.le_of_ble_eq_true rfl, Nat.le_of_ble_eq_true rfl⟩ rfl hl.1 rfl (Nat.le_of_ble_eq_true rfl) dL_law_282 ⟨by omega, by omega⟩) hS (fun r14 u H locs hp hM hS => ?_)
  obtain ⟨rfl, hw⟩ := hp
  refine lv_icmp_eq (tgt := 1216) hx hb dL_law_285 (by decide) (fun cq => ?_) (fun cq => ?_)
  · have hw := hw.1 cq
    refine W.widen (k := 151 + 42 * j + 42) (n := 33822 + 6542 * j + 6542) (by omega) (by omega) ?_
    exact hkk bs _ _ _ _ _ H locs ls hb9 hw hM hS (lv_sub hl [0, 1, 2, 3] rfl)
  · have hw := hw.2 cq
    refine lv_iconst (v := 0) hx hb dL_law_288 (by decide) ?_
    exact False.elim hw
def w_L_4 (xs : Nat → Int32) (Ls : Nat) (kk : Nat → mK → mR → mI → mL → Prop) (n : Nat) (K : mK) (R : mR) (I : mI) (L : mL) (v3 : Int32) : Prop := vp_in (v3 + 1) Ls ∧ vp_in (v3 + 2) Ls ∧ isX11 K R ∧ w_X11_house I (xs ((v3 + 1).toNatClampNeg)) (xs ((v3 + 2).toNatClampNeg)) (fun r15 => vp_in (v3 + 1) Ls ∧ vp_in (v3 + 2) Ls ∧ isX12 K R 128 ∧ w_X12_house I 128 (xs ((v3 + 1).toNatClampNeg)) (xs ((v3 + 2).toNatClampNeg)) (fun r16 I17 => (r15 = r16 → kk n K R I17 L) ∧ (¬ r15 = r16 → False)))
set_option maxRecDepth 100000 in
set_option maxHeartbeats 4000000 in
theorem s_L_4 {p : Program} {l : Launch} {e : Env} {s : State} {m : MethodId} {below : List Frame} {meth : Method} {c : Code} {D : va_G} {cA : Nat → ClassId} {Z : mZ} {bs : Ad} {b Ls : Nat} {xs : Nat → Int32} (E : Ev p s m #[Value.ref b] c code 4 RL D cA Z bs) (hX : va_X b Ls xs s s.heap) (hbl : b < s.heap.size) (hbA : ¬ Ab bs b) {j : Nat} (hj : j < 513) {kk : Nat → mK → mR → mI → mL → Prop} {v3 : Int32} (hkk : ∀ (bs1 : Ad) (n : Nat) (K : mK) (R : mR) (I : mI) (L : mL) (H : Heap) (locs : List Loc) (ls : Array Slot), bs1.1 = bs.1 → kk n K R I L → mm D cA bs1 (n, K, R, I, L) H → va_S (Ab bs1) s.heap H locs → lv_has ls 4 [(0, .ref b), (1, .ref (ad bs1 0)), (2, .ref (ad bs1 128)), (3, .int v3)] → W p l e room_1 s m #[Value.ref b] below meth c H locs (151 + 42 * j + 42) (33822 + 6542 * j + 6542) (lw_Z below #[Value.ref b] s) (F0 m 1216 ls [])) {n : Nat} {K : mK} {R : mR} {I : mI} {L : mL} {H : Heap} {locs : List Loc} {ls : Array Slot} (hw : w_L_4 xs Ls kk n K R I L v3) (hM : mm D cA bs (n, K, R, I, L) H) (hS : va_S (Ab bs) s.heap H locs) (hl : lv_has ls 4 [(0, .ref b), (1, .ref (ad bs 0)), (2, .ref (ad bs 128)), (3, .int v3)]) : W p l e room_1 s m #[Value.ref b] below meth c H locs (151 + 42 * j) (33822 + 6542 * j) (lw_Z below #[Value.ref b] s) (F0 m 290 ls []) := by
  have hx := E.1.1
  have hb := E.1.2.1
  have hb9 : bs.1 = bs.1 := rfl
  have hRc : room_1.cells = 600000 := rfl
  have hRs : 7000000 ≤ room_1.slots := Nat.le_of_ble_eq_true rfl
  refine lv_aload_n hx hb dL_law_290 rfl (lv_at hl 1 rfl) ?_
  refine lv_aload_n hx hb dL_law_291 rfl (lv_at hl 0 rfl) ?_
  refine lv_iload_n hx hb dL_law_292 rfl (lv_at hl 3 rfl) ?_
  refine lv_iconst (v := 1) hx hb dL_law_293 (by decide) ?_
  refine lv_iadd hx hb dL_law_294 ?_
  obtain ⟨hv, hw⟩ := hw
  refine va_sld hx hb hX hbl hbA hS hv dL_law_295 ?_
  refine lv_aload_n hx hb dL_law_296 rfl (lv_at hl 0 rfl) ?_
  refine lv_iload_n hx hb dL_law_297 rfl (lv_at hl 3 rfl) ?_
  refine lv_iconst (v := 2) hx hb dL_law_298 (by decide) ?_
  refine lv_iadd hx hb dL_law_299 ?_
  obtain ⟨hv, hw⟩ := hw
  refine va_sld hx hb hX hbl hbA hS hv dL_law_300 ?_
  obtain ⟨ob9, hw⟩ := hw
  refine m_ci (m_runV E hM hS cs_L_32 ob9.1 (by decide) rfl rfl (c_X11_house ob9 hw) rfl rfl ⟨Nat.le_of_ble_eq_true rfl, Nat.le_of_ble_eq_true rfl⟩ rfl hl.1 rfl (Nat.le_of_ble_eq_true rfl) dL_law_301 ⟨by omega, by omega⟩) hS (fun r15 u H locs hp hM hS => ?_)
  obtain ⟨rfl, hw⟩ := hp
  refine lv_aload_n hx hb dL_law_304 rfl (lv_at hl 2 rfl) ?_
  refine lv_aload_n hx hb dL_law_305 rfl (lv_at hl 0 rfl) ?_
  refine lv_iload_n hx hb dL_law_306 rfl (lv_at hl 3 rfl) ?_
  refine lv_iconst (v := 1) hx hb dL_law_307 (by decide) ?_
  refine lv_iadd hx hb dL_law_308 ?_
  obtain ⟨hv, hw⟩ := hw
  refine va_sld hx hb hX hbl hbA hS hv dL_law_309 ?_
  refine lv_aload_n hx hb dL_law_310 rfl (lv_at hl 0 rfl) ?_
  refine lv_iload_n hx hb dL_law_311 rfl (lv_at hl 3 rfl) ?_
  refine lv_iconst (v := 2) hx hb dL_law_312 (by decide) ?_
  refine lv_iadd hx hb dL_law_313 ?_
  obtain ⟨hv, hw⟩ := hw
  refine va_sld hx hb hX hbl hbA hS hv dL_law_314 ?_
  obtain ⟨ob9, hw⟩ := hw
  refine m_ci (m_runV E hM hS cs_L_35 ob9.1 (by decide) rfl rfl (c_X12_house ob9 hw) rfl rfl ⟨Nat.le_of_ble_eq_true rfl, Nat.le_of_ble_eq_true rfl⟩ rfl hl.1 rfl (Nat.le_of_ble_eq_true rfl) dL_law_315 ⟨by omega, by omega⟩) hS (fun r16 u H locs hp hM hS => ?_)
  obtain ⟨I17, rfl, hw⟩ := hp
  refine lv_icmp_eq (tgt := 1216) hx hb dL_law_318 (by decide) (fun cq => ?_) (fun cq => ?_)
  · have hw := hw.1 cq
    refine W.widen (k := 151 + 42 * j + 42) (n := 33822 + 6542 * j + 6542) (by omega) (by omega) ?_
    exact hkk bs _ _ _ _ _ H locs ls hb9 hw hM hS (lv_sub hl [0, 1, 2, 3] rfl)
  · have hw := hw.2 cq
    refine lv_iconst (v := 0) hx hb dL_law_321 (by decide) ?_
    exact False.elim hw
def w_L_5 (xs : Nat → Int32) (Ls : Nat) (kk : Nat → mK → mR → mI → mL → Prop) (n : Nat) (K : mK) (R : mR) (I : mI) (L : mL) (v3 : Int32) : Prop := vp_in (v3 + 1) Ls ∧ vp_in (v3 + 2) Ls ∧ vp_in (v3 + 3) Ls ∧ isX11 K R ∧ isX12 K R 128 ∧ w_X11_person I (xs ((v3 + 1).toNatClampNeg)) (xs ((v3 + 2).toNatClampNeg)) (xs ((v3 + 3).toNatClampNeg)) (fun r18 I20 => ∀ K19, KX K R K19 → vp_in (v3 + 1) Ls ∧ vp_in (v3 + 2) Ls ∧ vp_in (v3 + 3) Ls ∧ isX12 K19 R 128 ∧ w_X12_person I20 128 (xs ((v3 + 1).toNatClampNeg)) (xs ((v3 + 2).toNatClampNeg)) (xs ((v3 + 3).toNatClampNeg)) (fun r21 I22 => (r18 = r21 → kk n K19 R I22 L) ∧ (¬ r18 = r21 → False)))
set_option maxRecDepth 100000 in
set_option maxHeartbeats 4000000 in
theorem s_L_5 {p : Program} {l : Launch} {e : Env} {s : State} {m : MethodId} {below : List Frame} {meth : Method} {c : Code} {D : va_G} {cA : Nat → ClassId} {Z : mZ} {bs : Ad} {b Ls : Nat} {xs : Nat → Int32} (E : Ev p s m #[Value.ref b] c code 4 RL D cA Z bs) (hX : va_X b Ls xs s s.heap) (hbl : b < s.heap.size) (hbA : ¬ Ab bs b) {j : Nat} (hj : j < 513) {kk : Nat → mK → mR → mI → mL → Prop} {v3 : Int32} (hkk : ∀ (bs1 : Ad) (n : Nat) (K : mK) (R : mR) (I : mI) (L : mL) (H : Heap) (locs : List Loc) (ls : Array Slot), bs1.1 = bs.1 → kk n K R I L → mm D cA bs1 (n, K, R, I, L) H → va_S (Ab bs1) s.heap H locs → lv_has ls 4 [(0, .ref b), (1, .ref (ad bs1 0)), (2, .ref (ad bs1 128)), (3, .int v3)] → W p l e room_1 s m #[Value.ref b] below meth c H locs (151 + 42 * j + 42) (33822 + 6542 * j + 6542) (lw_Z below #[Value.ref b] s) (F0 m 1216 ls [])) {n : Nat} {K : mK} {R : mR} {I : mI} {L : mL} {H : Heap} {locs : List Loc} {ls : Array Slot} (hw : w_L_5 xs Ls kk n K R I L v3) (hM : mm D cA bs (n, K, R, I, L) H) (hS : va_S (Ab bs) s.heap H locs) (hl : lv_has ls 4 [(0, .ref b), (1, .ref (ad bs 0)), (2, .ref (ad bs 128)), (3, .int v3)]) : W p l e room_1 s m #[Value.ref b] below meth c H locs (151 + 42 * j) (33822 + 6542 * j) (lw_Z below #[Value.ref b] s) (F0 m 323 ls []) := by
  have hx := E.1.1
  have hb := E.1.2.1
  have hb9 : bs.1 = bs.1 := rfl
  have hRc : room_1.cells = 600000 := rfl
  have hRs : 7000000 ≤ room_1.slots := Nat.le_of_ble_eq_true rfl
  refine lv_aload_n hx hb dL_law_323 rfl (lv_at hl 1 rfl) ?_
  refine lv_aload_n hx hb dL_law_324 rfl (lv_at hl 0 rfl) ?_
  refine lv_iload_n hx hb dL_law_325 rfl (lv_at hl 3 rfl) ?_
  refine lv_iconst (v := 1) hx hb dL_law_326 (by decide) ?_
  refine lv_iadd hx hb dL_law_327 ?_
  obtain ⟨hv, hw⟩ := hw
  refine va_sld hx hb hX hbl hbA hS hv dL_law_328 ?_
  refine lv_aload_n hx hb dL_law_329 rfl (lv_at hl 0 rfl) ?_
  refine lv_iload_n hx hb dL_law_330 rfl (lv_at hl 3 rfl) ?_
  refine lv_iconst (v := 2) hx hb dL_law_331 (by decide) ?_
  refine lv_iadd hx hb dL_law_332 ?_
  obtain ⟨hv, hw⟩ := hw
  refine va_sld hx hb hX hbl hbA hS hv dL_law_333 ?_
  refine lv_aload_n hx hb dL_law_334 rfl (lv_at hl 0 rfl) ?_
  refine lv_iload_n hx hb dL_law_335 rfl (lv_at hl 3 rfl) ?_
  refine lv_iconst (v := 3) hx hb dL_law_336 (by decide) ?_
  refine lv_iadd hx hb dL_law_337 ?_
  obtain ⟨hv, hw⟩ := hw
  refine va_sld hx hb hX hbl hbA hS hv dL_law_338 ?_
  obtain ⟨ob9, ob8, hw⟩ := hw
  refine m_cix (m_runV E hM hS cs_L_36 ob9.1 (by decide) rfl rfl (c_X11_person ob9 hw) rfl rfl ⟨Nat.le_of_ble_eq_true rfl, Nat.le_of_ble_eq_true rfl⟩ rfl hl.1 rfl (Nat.le_of_ble_eq_true rfl) dL_law_339 ⟨by omega, by omega⟩) hS (fun r18 bs u H locs hx1 hp hM hS => ?_)
  obtain ⟨K19, I20, rfl, hw⟩ := hp
  have hx1 : EX _ _ R bs K19 := hx1
  have hw := hw K19 ⟨hx1.2.2.1.1, hx1.2.2.2 ob9⟩
  have e0 := hx1.2.1 0 (by unfold lve; rw [ob9.1]; decide)
  have e128 := hx1.2.1 128 (by unfold lve; rw [ob8.1]; decide)
  have E := EX_E hx1 E
  have hbA : ¬ Ab bs b := by rw [Ab_e hx1.1]; exact hbA
  have hb9 := hx1.1.trans hb9
  have hl : lv_has ls 4 [(0, .ref b), (1, .ref (ad bs 0)), (2, .ref (ad bs 128)), (3, .int v3)] := by rw [e0, e128]; exact hl
  clear e0 e128 hx1
  refine lv_aload_n hx hb dL_law_342 rfl (lv_at hl 2 rfl) ?_
  refine lv_aload_n hx hb dL_law_343 rfl (lv_at hl 0 rfl) ?_
  refine lv_iload_n hx hb dL_law_344 rfl (lv_at hl 3 rfl) ?_
  refine lv_iconst (v := 1) hx hb dL_law_345 (by decide) ?_
  refine lv_iadd hx hb dL_law_346 ?_
  obtain ⟨hv, hw⟩ := hw
  refine va_sld hx hb hX hbl hbA hS hv dL_law_347 ?_
  refine lv_aload_n hx hb dL_law_348 rfl (lv_at hl 0 rfl) ?_
  refine lv_iload_n hx hb dL_law_349 rfl (lv_at hl 3 rfl) ?_
  refine lv_iconst (v := 2) hx hb dL_law_350 (by decide) ?_
  refine lv_iadd hx hb dL_law_351 ?_
  obtain ⟨hv, hw⟩ := hw
  refine va_sld hx hb hX hbl hbA hS hv dL_law_352 ?_
  refine lv_aload_n hx hb dL_law_353 rfl (lv_at hl 0 rfl) ?_
  refine lv_iload_n hx hb dL_law_354 rfl (lv_at hl 3 rfl) ?_
  refine lv_iconst (v := 3) hx hb dL_law_355 (by decide) ?_
  refine lv_iadd hx hb dL_law_356 ?_
  obtain ⟨hv, hw⟩ := hw
  refine va_sld hx hb hX hbl hbA hS hv dL_law_357 ?_
  obtain ⟨ob9, hw⟩ := hw
  refine m_ci (m_runV E hM hS cs_L_40 ob9.1 (by decide) rfl rfl (c_X12_person ob9 hw) rfl rfl ⟨Nat.le_of_ble_eq_true rfl, Nat.le_of_ble_eq_true rfl⟩ rfl hl.1 rfl (Nat.le_of_ble_eq_true rfl) dL_law_358 ⟨by omega, by omega⟩) hS (fun r21 u H locs hp hM hS => ?_)
  obtain ⟨I22, rfl, hw⟩ := hp
  refine lv_icmp_eq (tgt := 1216) hx hb dL_law_361 (by decide) (fun cq => ?_) (fun cq => ?_)
  · have hw := hw.1 cq
    refine W.widen (k := 151 + 42 * j + 42) (n := 33822 + 6542 * j + 6542) (by omega) (by omega) ?_
    exact hkk bs _ _ _ _ _ H locs ls hb9 hw hM hS (lv_sub hl [0, 1, 2, 3] rfl)
  · have hw := hw.2 cq
    refine lv_iconst (v := 0) hx hb dL_law_364 (by decide) ?_
    exact False.elim hw
def w_L_6 (xs : Nat → Int32) (Ls : Nat) (kk : Nat → mK → mR → mI → mL → Prop) (n : Nat) (K : mK) (R : mR) (I : mI) (L : mL) (v3 : Int32) : Prop := vp_in (v3 + 1) Ls ∧ vp_in (v3 + 2) Ls ∧ vp_in (v3 + 3) Ls ∧ isX11 K R ∧ isX12 K R 128 ∧ w_X11_tread I (xs ((v3 + 1).toNatClampNeg)) (xs ((v3 + 2).toNatClampNeg)) (xs ((v3 + 3).toNatClampNeg)) (fun r23 I25 => ∀ K24, KX K R K24 → vp_in (v3 + 1) Ls ∧ vp_in (v3 + 2) Ls ∧ vp_in (v3 + 3) Ls ∧ isX12 K24 R 128 ∧ w_X12_tread I25 128 (xs ((v3 + 1).toNatClampNeg)) (xs ((v3 + 2).toNatClampNeg)) (xs ((v3 + 3).toNatClampNeg)) (fun r26 I27 => (r23 = r26 → kk n K24 R I27 L) ∧ (¬ r23 = r26 → False)))
set_option maxRecDepth 100000 in
set_option maxHeartbeats 4000000 in
theorem s_L_6 {p : Program} {l : Launch} {e : Env} {s : State} {m : MethodId} {below : List Frame} {meth : Method} {c : Code} {D : va_G} {cA : Nat → ClassId} {Z : mZ} {bs : Ad} {b Ls : Nat} {xs : Nat → Int32} (E : Ev p s m #[Value.ref b] c code 4 RL D cA Z bs) (hX : va_X b Ls xs s s.heap) (hbl : b < s.heap.size) (hbA : ¬ Ab bs b) {j : Nat} (hj : j < 513) {kk : Nat → mK → mR → mI → mL → Prop} {v3 : Int32} (hkk : ∀ (bs1 : Ad) (n : Nat) (K : mK) (R : mR) (I : mI) (L : mL) (H : Heap) (locs : List Loc) (ls : Array Slot), bs1.1 = bs.1 → kk n K R I L → mm D cA bs1 (n, K, R, I, L) H → va_S (Ab bs1) s.heap H locs → lv_has ls 4 [(0, .ref b), (1, .ref (ad bs1 0)), (2, .ref (ad bs1 128)), (3, .int v3)] → W p l e room_1 s m #[Value.ref b] below meth c H locs (151 + 42 * j + 42) (33822 + 6542 * j + 6542) (lw_Z below #[Value.ref b] s) (F0 m 1216 ls [])) {n : Nat} {K : mK} {R : mR} {I : mI} {L : mL} {H : Heap} {locs : List Loc} {ls : Array Slot} (hw : w_L_6 xs Ls kk n K R I L v3) (hM : mm D cA bs (n, K, R, I, L) H) (hS : va_S (Ab bs) s.heap H locs) (hl : lv_has ls 4 [(0, .ref b), (1, .ref (ad bs 0)), (2, .ref (ad bs 128)), (3, .int v3)]) : W p l e room_1 s m #[Value.ref b] below meth c H locs (151 + 42 * j) (33822 + 6542 * j) (lw_Z below #[Value.ref b] s) (F0 m 366 ls []) := by
  have hx := E.1.1
  have hb := E.1.2.1
  have hb9 : bs.1 = bs.1 := rfl
  have hRc : room_1.cells = 600000 := rfl
  have hRs : 7000000 ≤ room_1.slots := Nat.le_of_ble_eq_true rfl
  refine lv_aload_n hx hb dL_law_366 rfl (lv_at hl 1 rfl) ?_
  refine lv_aload_n hx hb dL_law_367 rfl (lv_at hl 0 rfl) ?_
  refine lv_iload_n hx hb dL_law_368 rfl (lv_at hl 3 rfl) ?_
  refine lv_iconst (v := 1) hx hb dL_law_369 (by decide) ?_
  refine lv_iadd hx hb dL_law_370 ?_
  obtain ⟨hv, hw⟩ := hw
  refine va_sld hx hb hX hbl hbA hS hv dL_law_371 ?_
  refine lv_aload_n hx hb dL_law_372 rfl (lv_at hl 0 rfl) ?_
  refine lv_iload_n hx hb dL_law_373 rfl (lv_at hl 3 rfl) ?_
  refine lv_iconst (v := 2) hx hb dL_law_374 (by decide) ?_
  refine lv_iadd hx hb dL_law_375 ?_
  obtain ⟨hv, hw⟩ := hw
  refine va_sld hx hb hX hbl hbA hS hv dL_law_376 ?_
  refine lv_aload_n hx hb dL_law_377 rfl (lv_at hl 0 rfl) ?_
  refine lv_iload_n hx hb dL_law_378 rfl (lv_at hl 3 rfl) ?_
  refine lv_iconst (v := 3) hx hb dL_law_379 (by decide) ?_
  refine lv_iadd hx hb dL_law_380 ?_
  obtain ⟨hv, hw⟩ := hw
  refine va_sld hx hb hX hbl hbA hS hv dL_law_381 ?_
  obtain ⟨ob9, ob8, hw⟩ := hw
  refine m_cix (m_runV E hM hS cs_L_41 ob9.1 (by decide) rfl rfl (c_X11_tread ob9 hw) rfl rfl ⟨Nat.le_of_ble_eq_true rfl, Nat.le_of_ble_eq_true rfl⟩ rfl hl.1 rfl (Nat.le_of_ble_eq_true rfl) dL_law_382 ⟨by omega, by omega⟩) hS (fun r23 bs u H locs hx1 hp hM hS => ?_)
  obtain ⟨K24, I25, rfl, hw⟩ := hp
  have hx1 : EX _ _ R bs K24 := hx1
  have hw := hw K24 ⟨hx1.2.2.1.1, hx1.2.2.2 ob9⟩
  have e0 := hx1.2.1 0 (by unfold lve; rw [ob9.1]; decide)
  have e128 := hx1.2.1 128 (by unfold lve; rw [ob8.1]; decide)
  have E := EX_E hx1 E
  have hbA : ¬ Ab bs b := by rw [Ab_e hx1.1]; exact hbA
  have hb9 := hx1.1.trans hb9
  have hl : lv_has ls 4 [(0, .ref b), (1, .ref (ad bs 0)), (2, .ref (ad bs 128)), (3, .int v3)] := by rw [e0, e128]; exact hl
  clear e0 e128 hx1
  refine lv_aload_n hx hb dL_law_385 rfl (lv_at hl 2 rfl) ?_
  refine lv_aload_n hx hb dL_law_386 rfl (lv_at hl 0 rfl) ?_
  refine lv_iload_n hx hb dL_law_387 rfl (lv_at hl 3 rfl) ?_
  refine lv_iconst (v := 1) hx hb dL_law_388 (by decide) ?_
  refine lv_iadd hx hb dL_law_389 ?_
  obtain ⟨hv, hw⟩ := hw
  refine va_sld hx hb hX hbl hbA hS hv dL_law_390 ?_
  refine lv_aload_n hx hb dL_law_391 rfl (lv_at hl 0 rfl) ?_
  refine lv_iload_n hx hb dL_law_392 rfl (lv_at hl 3 rfl) ?_
  refine lv_iconst (v := 2) hx hb dL_law_393 (by decide) ?_
  refine lv_iadd hx hb dL_law_394 ?_
  obtain ⟨hv, hw⟩ := hw
  refine va_sld hx hb hX hbl hbA hS hv dL_law_395 ?_
  refine lv_aload_n hx hb dL_law_396 rfl (lv_at hl 0 rfl) ?_
  refine lv_iload_n hx hb dL_law_397 rfl (lv_at hl 3 rfl) ?_
  refine lv_iconst (v := 3) hx hb dL_law_398 (by decide) ?_
  refine lv_iadd hx hb dL_law_399 ?_
  obtain ⟨hv, hw⟩ := hw
  refine va_sld hx hb hX hbl hbA hS hv dL_law_400 ?_
  obtain ⟨ob9, hw⟩ := hw
  refine m_ci (m_runV E hM hS cs_L_44 ob9.1 (by decide) rfl rfl (c_X12_tread ob9 hw) rfl rfl ⟨Nat.le_of_ble_eq_true rfl, Nat.le_of_ble_eq_true rfl⟩ rfl hl.1 rfl (Nat.le_of_ble_eq_true rfl) dL_law_401 ⟨by omega, by omega⟩) hS (fun r26 u H locs hp hM hS => ?_)
  obtain ⟨I27, rfl, hw⟩ := hp
  refine lv_icmp_eq (tgt := 1216) hx hb dL_law_404 (by decide) (fun cq => ?_) (fun cq => ?_)
  · have hw := hw.1 cq
    refine W.widen (k := 151 + 42 * j + 42) (n := 33822 + 6542 * j + 6542) (by omega) (by omega) ?_
    exact hkk bs _ _ _ _ _ H locs ls hb9 hw hM hS (lv_sub hl [0, 1, 2, 3] rfl)
  · have hw := hw.2 cq
    refine lv_iconst (v := 0) hx hb dL_law_407 (by decide) ?_
    exact False.elim hw
def w_L_7 (xs : Nat → Int32) (Ls : Nat) (kk : Nat → mK → mR → mI → mL → Prop) (n : Nat) (K : mK) (R : mR) (I : mI) (L : mL) (v3 : Int32) : Prop := vp_in (v3 + 1) Ls ∧ vp_in (v3 + 2) Ls ∧ vp_in (v3 + 3) Ls ∧ isX11 K R ∧ isX12 K R 128 ∧ w_X11_where I (xs ((v3 + 1).toNatClampNeg)) (xs ((v3 + 2).toNatClampNeg)) (xs ((v3 + 3).toNatClampNeg)) (fun r28 I30 => ∀ K29, KX K R K29 → vp_in (v3 + 1) Ls ∧ vp_in (v3 + 2) Ls ∧ vp_in (v3 + 3) Ls ∧ isX12 K29 R 128 ∧ w_X12_where I30 128 (xs ((v3 + 1).toNatClampNeg)) (xs ((v3 + 2).toNatClampNeg)) (xs ((v3 + 3).toNatClampNeg)) (fun r31 I32 => (r28 = r31 → kk n K29 R I32 L) ∧ (¬ r28 = r31 → False)))
set_option maxRecDepth 100000 in
set_option maxHeartbeats 4000000 in
theorem s_L_7 {p : Program} {l : Launch} {e : Env} {s : State} {m : MethodId} {below : List Frame} {meth : Method} {c : Code} {D : va_G} {cA : Nat → ClassId} {Z : mZ} {bs : Ad} {b Ls : Nat} {xs : Nat → Int32} (E : Ev p s m #[Value.ref b] c code 4 RL D cA Z bs) (hX : va_X b Ls xs s s.heap) (hbl : b < s.heap.size) (hbA : ¬ Ab bs b) {j : Nat} (hj : j < 513) {kk : Nat → mK → mR → mI → mL → Prop} {v3 : Int32} (hkk : ∀ (bs1 : Ad) (n : Nat) (K : mK) (R : mR) (I : mI) (L : mL) (H : Heap) (locs : List Loc) (ls : Array Slot), bs1.1 = bs.1 → kk n K R I L → mm D cA bs1 (n, K, R, I, L) H → va_S (Ab bs1) s.heap H locs → lv_has ls 4 [(0, .ref b), (1, .ref (ad bs1 0)), (2, .ref (ad bs1 128)), (3, .int v3)] → W p l e room_1 s m #[Value.ref b] below meth c H locs (151 + 42 * j + 42) (33822 + 6542 * j + 6542) (lw_Z below #[Value.ref b] s) (F0 m 1216 ls [])) {n : Nat} {K : mK} {R : mR} {I : mI} {L : mL} {H : Heap} {locs : List Loc} {ls : Array Slot} (hw : w_L_7 xs Ls kk n K R I L v3) (hM : mm D cA bs (n, K, R, I, L) H) (hS : va_S (Ab bs) s.heap H locs) (hl : lv_has ls 4 [(0, .ref b), (1, .ref (ad bs 0)), (2, .ref (ad bs 128)), (3, .int v3)]) : W p l e room_1 s m #[Value.ref b] below meth c H locs (151 + 42 * j) (33822 + 6542 * j) (lw_Z below #[Value.ref b] s) (F0 m 409 ls []) := by
  have hx := E.1.1
  have hb := E.1.2.1
  have hb9 : bs.1 = bs.1 := rfl
  have hRc : room_1.cells = 600000 := rfl
  have hRs : 7000000 ≤ room_1.slots := Nat.le_of_ble_eq_true rfl
  refine lv_aload_n hx hb dL_law_409 rfl (lv_at hl 1 rfl) ?_
  refine lv_aload_n hx hb dL_law_410 rfl (lv_at hl 0 rfl) ?_
  refine lv_iload_n hx hb dL_law_411 rfl (lv_at hl 3 rfl) ?_
  refine lv_iconst (v := 1) hx hb dL_law_412 (by decide) ?_
  refine lv_iadd hx hb dL_law_413 ?_
  obtain ⟨hv, hw⟩ := hw
  refine va_sld hx hb hX hbl hbA hS hv dL_law_414 ?_
  refine lv_aload_n hx hb dL_law_415 rfl (lv_at hl 0 rfl) ?_
  refine lv_iload_n hx hb dL_law_416 rfl (lv_at hl 3 rfl) ?_
  refine lv_iconst (v := 2) hx hb dL_law_417 (by decide) ?_
  refine lv_iadd hx hb dL_law_418 ?_
  obtain ⟨hv, hw⟩ := hw
  refine va_sld hx hb hX hbl hbA hS hv dL_law_419 ?_
  refine lv_aload_n hx hb dL_law_420 rfl (lv_at hl 0 rfl) ?_
  refine lv_iload_n hx hb dL_law_421 rfl (lv_at hl 3 rfl) ?_
  refine lv_iconst (v := 3) hx hb dL_law_422 (by decide) ?_
  refine lv_iadd hx hb dL_law_423 ?_
  obtain ⟨hv, hw⟩ := hw
  refine va_sld hx hb hX hbl hbA hS hv dL_law_424 ?_
  obtain ⟨ob9, ob8, hw⟩ := hw
  refine m_cix (m_runV E hM hS cs_L_45 ob9.1 (by decide) rfl rfl (c_X11_where ob9 hw) rfl rfl ⟨Nat.le_of_ble_eq_true rfl, Nat.le_of_ble_eq_true rfl⟩ rfl hl.1 rfl (Nat.le_of_ble_eq_true rfl) dL_law_425 ⟨by omega, by omega⟩) hS (fun r28 bs u H locs hx1 hp hM hS => ?_)
  obtain ⟨K29, I30, rfl, hw⟩ := hp
  have hx1 : EX _ _ R bs K29 := hx1
  have hw := hw K29 ⟨hx1.2.2.1.1, hx1.2.2.2 ob9⟩
  have e0 := hx1.2.1 0 (by unfold lve; rw [ob9.1]; decide)
  have e128 := hx1.2.1 128 (by unfold lve; rw [ob8.1]; decide)
  have E := EX_E hx1 E
  have hbA : ¬ Ab bs b := by rw [Ab_e hx1.1]; exact hbA
  have hb9 := hx1.1.trans hb9
  have hl : lv_has ls 4 [(0, .ref b), (1, .ref (ad bs 0)), (2, .ref (ad bs 128)), (3, .int v3)] := by rw [e0, e128]; exact hl
  clear e0 e128 hx1
  refine lv_aload_n hx hb dL_law_428 rfl (lv_at hl 2 rfl) ?_
  refine lv_aload_n hx hb dL_law_429 rfl (lv_at hl 0 rfl) ?_
  refine lv_iload_n hx hb dL_law_430 rfl (lv_at hl 3 rfl) ?_
  refine lv_iconst (v := 1) hx hb dL_law_431 (by decide) ?_
  refine lv_iadd hx hb dL_law_432 ?_
  obtain ⟨hv, hw⟩ := hw
  refine va_sld hx hb hX hbl hbA hS hv dL_law_433 ?_
  refine lv_aload_n hx hb dL_law_434 rfl (lv_at hl 0 rfl) ?_
  refine lv_iload_n hx hb dL_law_435 rfl (lv_at hl 3 rfl) ?_
  refine lv_iconst (v := 2) hx hb dL_law_436 (by decide) ?_
  refine lv_iadd hx hb dL_law_437 ?_
  obtain ⟨hv, hw⟩ := hw
  refine va_sld hx hb hX hbl hbA hS hv dL_law_438 ?_
  refine lv_aload_n hx hb dL_law_439 rfl (lv_at hl 0 rfl) ?_
  refine lv_iload_n hx hb dL_law_440 rfl (lv_at hl 3 rfl) ?_
  refine lv_iconst (v := 3) hx hb dL_law_441 (by decide) ?_
  refine lv_iadd hx hb dL_law_442 ?_
  obtain ⟨hv, hw⟩ := hw
  refine va_sld hx hb hX hbl hbA hS hv dL_law_443 ?_
  obtain ⟨ob9, hw⟩ := hw
  refine m_ci (m_runV E hM hS cs_L_48 ob9.1 (by decide) rfl rfl (c_X12_where ob9 hw) rfl rfl ⟨Nat.le_of_ble_eq_true rfl, Nat.le_of_ble_eq_true rfl⟩ rfl hl.1 rfl (Nat.le_of_ble_eq_true rfl) dL_law_444 ⟨by omega, by omega⟩) hS (fun r31 u H locs hp hM hS => ?_)
  obtain ⟨I32, rfl, hw⟩ := hp
  refine lv_icmp_eq (tgt := 1216) hx hb dL_law_447 (by decide) (fun cq => ?_) (fun cq => ?_)
  · have hw := hw.1 cq
    refine W.widen (k := 151 + 42 * j + 42) (n := 33822 + 6542 * j + 6542) (by omega) (by omega) ?_
    exact hkk bs _ _ _ _ _ H locs ls hb9 hw hM hS (lv_sub hl [0, 1, 2, 3] rfl)
  · have hw := hw.2 cq
    refine lv_iconst (v := 0) hx hb dL_law_450 (by decide) ?_
    exact False.elim hw
def w_L_8 (xs : Nat → Int32) (Ls : Nat) (kk : Nat → mK → mR → mI → mL → Prop) (n : Nat) (K : mK) (R : mR) (I : mI) (L : mL) (v3 : Int32) : Prop := vp_in (v3 + 1) Ls ∧ vp_in (v3 + 2) Ls ∧ vp_in (v3 + 3) Ls ∧ vp_in (v3 + 4) Ls ∧ isX11 K R ∧ isX12 K R 128 ∧ w_X11_note I (xs ((v3 + 1).toNatClampNeg)) (xs ((v3 + 2).toNatClampNeg)) (xs ((v3 + 3).toNatClampNeg)) (xs ((v3 + 4).toNatClampNeg)) (fun r33 I35 => ∀ K34, KX K R K34 → vp_in (v3 + 1) Ls ∧ vp_in (v3 + 2) Ls ∧ vp_in (v3 + 3) Ls ∧ vp_in (v3 + 4) Ls ∧ isX12 K34 R 128 ∧ w_X12_note I35 128 (xs ((v3 + 1).toNatClampNeg)) (xs ((v3 + 2).toNatClampNeg)) (xs ((v3 + 3).toNatClampNeg)) (xs ((v3 + 4).toNatClampNeg)) (fun r36 I37 => (r33 = r36 → kk n K34 R I37 L) ∧ (¬ r33 = r36 → False)))
set_option maxRecDepth 100000 in
set_option maxHeartbeats 4000000 in
theorem s_L_8 {p : Program} {l : Launch} {e : Env} {s : State} {m : MethodId} {below : List Frame} {meth : Method} {c : Code} {D : va_G} {cA : Nat → ClassId} {Z : mZ} {bs : Ad} {b Ls : Nat} {xs : Nat → Int32} (E : Ev p s m #[Value.ref b] c code 4 RL D cA Z bs) (hX : va_X b Ls xs s s.heap) (hbl : b < s.heap.size) (hbA : ¬ Ab bs b) {j : Nat} (hj : j < 513) {kk : Nat → mK → mR → mI → mL → Prop} {v3 : Int32} (hkk : ∀ (bs1 : Ad) (n : Nat) (K : mK) (R : mR) (I : mI) (L : mL) (H : Heap) (locs : List Loc) (ls : Array Slot), bs1.1 = bs.1 → kk n K R I L → mm D cA bs1 (n, K, R, I, L) H → va_S (Ab bs1) s.heap H locs → lv_has ls 4 [(0, .ref b), (1, .ref (ad bs1 0)), (2, .ref (ad bs1 128)), (3, .int v3)] → W p l e room_1 s m #[Value.ref b] below meth c H locs (151 + 42 * j + 42) (33822 + 6542 * j + 6542) (lw_Z below #[Value.ref b] s) (F0 m 1216 ls [])) {n : Nat} {K : mK} {R : mR} {I : mI} {L : mL} {H : Heap} {locs : List Loc} {ls : Array Slot} (hw : w_L_8 xs Ls kk n K R I L v3) (hM : mm D cA bs (n, K, R, I, L) H) (hS : va_S (Ab bs) s.heap H locs) (hl : lv_has ls 4 [(0, .ref b), (1, .ref (ad bs 0)), (2, .ref (ad bs 128)), (3, .int v3)]) : W p l e room_1 s m #[Value.ref b] below meth c H locs (151 + 42 * j) (33822 + 6542 * j) (lw_Z below #[Value.ref b] s) (F0 m 452 ls []) := by
  have hx := E.1.1
  have hb := E.1.2.1
  have hb9 : bs.1 = bs.1 := rfl
  have hRc : room_1.cells = 600000 := rfl
  have hRs : 7000000 ≤ room_1.slots := Nat.le_of_ble_eq_true rfl
  refine lv_aload_n hx hb dL_law_452 rfl (lv_at hl 1 rfl) ?_
  refine lv_aload_n hx hb dL_law_453 rfl (lv_at hl 0 rfl) ?_
  refine lv_iload_n hx hb dL_law_454 rfl (lv_at hl 3 rfl) ?_
  refine lv_iconst (v := 1) hx hb dL_law_455 (by decide) ?_
  refine lv_iadd hx hb dL_law_456 ?_
  obtain ⟨hv, hw⟩ := hw
  refine va_sld hx hb hX hbl hbA hS hv dL_law_457 ?_
  refine lv_aload_n hx hb dL_law_458 rfl (lv_at hl 0 rfl) ?_
  refine lv_iload_n hx hb dL_law_459 rfl (lv_at hl 3 rfl) ?_
  refine lv_iconst (v := 2) hx hb dL_law_460 (by decide) ?_
  refine lv_iadd hx hb dL_law_461 ?_
  obtain ⟨hv, hw⟩ := hw
  refine va_sld hx hb hX hbl hbA hS hv dL_law_462 ?_
  refine lv_aload_n hx hb dL_law_463 rfl (lv_at hl 0 rfl) ?_
  refine lv_iload_n hx hb dL_law_464 rfl (lv_at hl 3 rfl) ?_
  refine lv_iconst (v := 3) hx hb dL_law_465 (by decide) ?_
  refine lv_iadd hx hb dL_law_466 ?_
  obtain ⟨hv, hw⟩ := hw
  refine va_sld hx hb hX hbl hbA hS hv dL_law_467 ?_
  refine lv_aload_n hx hb dL_law_468 rfl (lv_at hl 0 rfl) ?_
  refine lv_iload_n hx hb dL_law_469 rfl (lv_at hl 3 rfl) ?_
  refine lv_iconst (v := 4) hx hb dL_law_470 (by decide) ?_
  refine lv_iadd hx hb dL_law_471 ?_
  obtain ⟨hv, hw⟩ := hw
  refine va_sld hx hb hX hbl hbA hS hv dL_law_472 ?_
  obtain ⟨ob9, ob8, hw⟩ := hw
  refine m_cix (m_runV E hM hS cs_L_49 ob9.1 (by decide) rfl rfl (c_X11_note ob9 hw) rfl rfl ⟨Nat.le_of_ble_eq_true rfl, Nat.le_of_ble_eq_true rfl⟩ rfl hl.1 rfl (Nat.le_of_ble_eq_true rfl) dL_law_473 ⟨by omega, by omega⟩) hS (fun r33 bs u H locs hx1 hp hM hS => ?_)
  obtain ⟨K34, I35, rfl, hw⟩ := hp
  have hx1 : EX _ _ R bs K34 := hx1
  have hw := hw K34 ⟨hx1.2.2.1.1, hx1.2.2.2 ob9⟩
  have e0 := hx1.2.1 0 (by unfold lve; rw [ob9.1]; decide)
  have e128 := hx1.2.1 128 (by unfold lve; rw [ob8.1]; decide)
  have E := EX_E hx1 E
  have hbA : ¬ Ab bs b := by rw [Ab_e hx1.1]; exact hbA
  have hb9 := hx1.1.trans hb9
  have hl : lv_has ls 4 [(0, .ref b), (1, .ref (ad bs 0)), (2, .ref (ad bs 128)), (3, .int v3)] := by rw [e0, e128]; exact hl
  clear e0 e128 hx1
  refine lv_aload_n hx hb dL_law_476 rfl (lv_at hl 2 rfl) ?_
  refine lv_aload_n hx hb dL_law_477 rfl (lv_at hl 0 rfl) ?_
  refine lv_iload_n hx hb dL_law_478 rfl (lv_at hl 3 rfl) ?_
  refine lv_iconst (v := 1) hx hb dL_law_479 (by decide) ?_
  refine lv_iadd hx hb dL_law_480 ?_
  obtain ⟨hv, hw⟩ := hw
  refine va_sld hx hb hX hbl hbA hS hv dL_law_481 ?_
  refine lv_aload_n hx hb dL_law_482 rfl (lv_at hl 0 rfl) ?_
  refine lv_iload_n hx hb dL_law_483 rfl (lv_at hl 3 rfl) ?_
  refine lv_iconst (v := 2) hx hb dL_law_484 (by decide) ?_
  refine lv_iadd hx hb dL_law_485 ?_
  obtain ⟨hv, hw⟩ := hw
  refine va_sld hx hb hX hbl hbA hS hv dL_law_486 ?_
  refine lv_aload_n hx hb dL_law_487 rfl (lv_at hl 0 rfl) ?_
  refine lv_iload_n hx hb dL_law_488 rfl (lv_at hl 3 rfl) ?_
  refine lv_iconst (v := 3) hx hb dL_law_489 (by decide) ?_
  refine lv_iadd hx hb dL_law_490 ?_
  obtain ⟨hv, hw⟩ := hw
  refine va_sld hx hb hX hbl hbA hS hv dL_law_491 ?_
  refine lv_aload_n hx hb dL_law_492 rfl (lv_at hl 0 rfl) ?_
  refine lv_iload_n hx hb dL_law_493 rfl (lv_at hl 3 rfl) ?_
  refine lv_iconst (v := 4) hx hb dL_law_494 (by decide) ?_
  refine lv_iadd hx hb dL_law_495 ?_
  obtain ⟨hv, hw⟩ := hw
  refine va_sld hx hb hX hbl hbA hS hv dL_law_496 ?_
  obtain ⟨ob9, hw⟩ := hw
  refine m_ci (m_runV E hM hS cs_L_53 ob9.1 (by decide) rfl rfl (c_X12_note ob9 hw) rfl rfl ⟨Nat.le_of_ble_eq_true rfl, Nat.le_of_ble_eq_true rfl⟩ rfl hl.1 rfl (Nat.le_of_ble_eq_true rfl) dL_law_497 ⟨by omega, by omega⟩) hS (fun r36 u H locs hp hM hS => ?_)
  obtain ⟨I37, rfl, hw⟩ := hp
  refine lv_icmp_eq (tgt := 1216) hx hb dL_law_500 (by decide) (fun cq => ?_) (fun cq => ?_)
  · have hw := hw.1 cq
    refine W.widen (k := 151 + 42 * j + 42) (n := 33822 + 6542 * j + 6542) (by omega) (by omega) ?_
    exact hkk bs _ _ _ _ _ H locs ls hb9 hw hM hS (lv_sub hl [0, 1, 2, 3] rfl)
  · have hw := hw.2 cq
    refine lv_iconst (v := 0) hx hb dL_law_503 (by decide) ?_
    exact False.elim hw
def w_L_9 (xs : Nat → Int32) (Ls : Nat) (kk : Nat → mK → mR → mI → mL → Prop) (n : Nat) (K : mK) (R : mR) (I : mI) (L : mL) (v3 : Int32) : Prop := vp_in (v3 + 1) Ls ∧ vp_in (v3 + 2) Ls ∧ isX11 K R ∧ isX12 K R 128 ∧ w_X11_ends I (xs ((v3 + 1).toNatClampNeg)) (xs ((v3 + 2).toNatClampNeg)) (fun r38 I40 => ∀ K39, KX K R K39 → vp_in (v3 + 1) Ls ∧ vp_in (v3 + 2) Ls ∧ isX12 K39 R 128 ∧ w_X12_ends_ I40 128 (xs ((v3 + 1).toNatClampNeg)) (xs ((v3 + 2).toNatClampNeg)) (fun r41 I42 => (r38 = r41 → kk n K39 R I42 L) ∧ (¬ r38 = r41 → False)))
set_option maxRecDepth 100000 in
set_option maxHeartbeats 4000000 in
theorem s_L_9 {p : Program} {l : Launch} {e : Env} {s : State} {m : MethodId} {below : List Frame} {meth : Method} {c : Code} {D : va_G} {cA : Nat → ClassId} {Z : mZ} {bs : Ad} {b Ls : Nat} {xs : Nat → Int32} (E : Ev p s m #[Value.ref b] c code 4 RL D cA Z bs) (hX : va_X b Ls xs s s.heap) (hbl : b < s.heap.size) (hbA : ¬ Ab bs b) {j : Nat} (hj : j < 513) {kk : Nat → mK → mR → mI → mL → Prop} {v3 : Int32} (hkk : ∀ (bs1 : Ad) (n : Nat) (K : mK) (R : mR) (I : mI) (L : mL) (H : Heap) (locs : List Loc) (ls : Array Slot), bs1.1 = bs.1 → kk n K R I L → mm D cA bs1 (n, K, R, I, L) H → va_S (Ab bs1) s.heap H locs → lv_has ls 4 [(0, .ref b), (1, .ref (ad bs1 0)), (2, .ref (ad bs1 128)), (3, .int v3)] → W p l e room_1 s m #[Value.ref b] below meth c H locs (151 + 42 * j + 42) (33822 + 6542 * j + 6542) (lw_Z below #[Value.ref b] s) (F0 m 1216 ls [])) {n : Nat} {K : mK} {R : mR} {I : mI} {L : mL} {H : Heap} {locs : List Loc} {ls : Array Slot} (hw : w_L_9 xs Ls kk n K R I L v3) (hM : mm D cA bs (n, K, R, I, L) H) (hS : va_S (Ab bs) s.heap H locs) (hl : lv_has ls 4 [(0, .ref b), (1, .ref (ad bs 0)), (2, .ref (ad bs 128)), (3, .int v3)]) : W p l e room_1 s m #[Value.ref b] below meth c H locs (151 + 42 * j) (33822 + 6542 * j) (lw_Z below #[Value.ref b] s) (F0 m 505 ls []) := by
  have hx := E.1.1
  have hb := E.1.2.1
  have hb9 : bs.1 = bs.1 := rfl
  have hRc : room_1.cells = 600000 := rfl
  have hRs : 7000000 ≤ room_1.slots := Nat.le_of_ble_eq_true rfl
  refine lv_aload_n hx hb dL_law_505 rfl (lv_at hl 1 rfl) ?_
  refine lv_aload_n hx hb dL_law_506 rfl (lv_at hl 0 rfl) ?_
  refine lv_iload_n hx hb dL_law_507 rfl (lv_at hl 3 rfl) ?_
  refine lv_iconst (v := 1) hx hb dL_law_508 (by decide) ?_
  refine lv_iadd hx hb dL_law_509 ?_
  obtain ⟨hv, hw⟩ := hw
  refine va_sld hx hb hX hbl hbA hS hv dL_law_510 ?_
  refine lv_aload_n hx hb dL_law_511 rfl (lv_at hl 0 rfl) ?_
  refine lv_iload_n hx hb dL_law_512 rfl (lv_at hl 3 rfl) ?_
  refine lv_iconst (v := 2) hx hb dL_law_513 (by decide) ?_
  refine lv_iadd hx hb dL_law_514 ?_
  obtain ⟨hv, hw⟩ := hw
  refine va_sld hx hb hX hbl hbA hS hv dL_law_515 ?_
  obtain ⟨ob9, ob8, hw⟩ := hw
  refine m_cix (m_runV E hM hS cs_L_54 ob9.1 (by decide) rfl rfl (c_X11_ends ob9 hw) rfl rfl ⟨Nat.le_of_ble_eq_true rfl, Nat.le_of_ble_eq_true rfl⟩ rfl hl.1 rfl (Nat.le_of_ble_eq_true rfl) dL_law_516 ⟨by omega, by omega⟩) hS (fun r38 bs u H locs hx1 hp hM hS => ?_)
  obtain ⟨K39, I40, rfl, hw⟩ := hp
  have hx1 : EX _ _ R bs K39 := hx1
  have hw := hw K39 ⟨hx1.2.2.1.1, hx1.2.2.2 ob9⟩
  have e0 := hx1.2.1 0 (by unfold lve; rw [ob9.1]; decide)
  have e128 := hx1.2.1 128 (by unfold lve; rw [ob8.1]; decide)
  have E := EX_E hx1 E
  have hbA : ¬ Ab bs b := by rw [Ab_e hx1.1]; exact hbA
  have hb9 := hx1.1.trans hb9
  have hl : lv_has ls 4 [(0, .ref b), (1, .ref (ad bs 0)), (2, .ref (ad bs 128)), (3, .int v3)] := by rw [e0, e128]; exact hl
  clear e0 e128 hx1
  refine lv_aload_n hx hb dL_law_519 rfl (lv_at hl 2 rfl) ?_
  refine lv_aload_n hx hb dL_law_520 rfl (lv_at hl 0 rfl) ?_
  refine lv_iload_n hx hb dL_law_521 rfl (lv_at hl 3 rfl) ?_
  refine lv_iconst (v := 1) hx hb dL_law_522 (by decide) ?_
  refine lv_iadd hx hb dL_law_523 ?_
  obtain ⟨hv, hw⟩ := hw
  refine va_sld hx hb hX hbl hbA hS hv dL_law_524 ?_
  refine lv_aload_n hx hb dL_law_525 rfl (lv_at hl 0 rfl) ?_
  refine lv_iload_n hx hb dL_law_526 rfl (lv_at hl 3 rfl) ?_
  refine lv_iconst (v := 2) hx hb dL_law_527 (by decide) ?_
  refine lv_iadd hx hb dL_law_528 ?_
  obtain ⟨hv, hw⟩ := hw
  refine va_sld hx hb hX hbl hbA hS hv dL_law_529 ?_
  obtain ⟨ob9, hw⟩ := hw
  refine m_ci (m_runV E hM hS cs_L_57 ob9.1 (by decide) rfl rfl (c_X12_ends_ ob9 hw) rfl rfl ⟨Nat.le_of_ble_eq_true rfl, Nat.le_of_ble_eq_true rfl⟩ rfl hl.1 rfl (Nat.le_of_ble_eq_true rfl) dL_law_530 ⟨by omega, by omega⟩) hS (fun r41 u H locs hp hM hS => ?_)
  obtain ⟨I42, rfl, hw⟩ := hp
  refine lv_icmp_eq (tgt := 1216) hx hb dL_law_533 (by decide) (fun cq => ?_) (fun cq => ?_)
  · have hw := hw.1 cq
    refine W.widen (k := 151 + 42 * j + 42) (n := 33822 + 6542 * j + 6542) (by omega) (by omega) ?_
    exact hkk bs _ _ _ _ _ H locs ls hb9 hw hM hS (lv_sub hl [0, 1, 2, 3] rfl)
  · have hw := hw.2 cq
    refine lv_iconst (v := 0) hx hb dL_law_536 (by decide) ?_
    exact False.elim hw
def w_L_10 (xs : Nat → Int32) (Ls : Nat) (kk : Nat → mK → mR → mI → mL → Prop) (n : Nat) (K : mK) (R : mR) (I : mI) (L : mL) (v3 : Int32) : Prop := vp_in (v3 + 1) Ls ∧ vp_in (v3 + 2) Ls ∧ vp_in (v3 + 3) Ls ∧ vp_in (v3 + 4) Ls ∧ vp_in (v3 + 5) Ls ∧ vp_in (v3 + 6) Ls ∧ vp_in (v3 + 7) Ls ∧ isX11 K R ∧ isX12 K R 128 ∧ w_X11_home I (xs ((v3 + 1).toNatClampNeg)) (xs ((v3 + 2).toNatClampNeg)) (xs ((v3 + 3).toNatClampNeg)) (xs ((v3 + 4).toNatClampNeg)) (xs ((v3 + 5).toNatClampNeg)) (xs ((v3 + 6).toNatClampNeg)) (xs ((v3 + 7).toNatClampNeg)) (fun r43 I45 => ∀ K44, KX K R K44 → vp_in (v3 + 1) Ls ∧ vp_in (v3 + 2) Ls ∧ vp_in (v3 + 3) Ls ∧ vp_in (v3 + 4) Ls ∧ vp_in (v3 + 5) Ls ∧ vp_in (v3 + 6) Ls ∧ vp_in (v3 + 7) Ls ∧ isX12 K44 R 128 ∧ w_X12_home I45 128 (xs ((v3 + 1).toNatClampNeg)) (xs ((v3 + 2).toNatClampNeg)) (xs ((v3 + 3).toNatClampNeg)) (xs ((v3 + 4).toNatClampNeg)) (xs ((v3 + 5).toNatClampNeg)) (xs ((v3 + 6).toNatClampNeg)) (xs ((v3 + 7).toNatClampNeg)) (fun r46 I47 => (r43 = r46 → kk n K44 R I47 L) ∧ (¬ r43 = r46 → False)))
set_option maxRecDepth 100000 in
set_option maxHeartbeats 4000000 in
theorem s_L_10 {p : Program} {l : Launch} {e : Env} {s : State} {m : MethodId} {below : List Frame} {meth : Method} {c : Code} {D : va_G} {cA : Nat → ClassId} {Z : mZ} {bs : Ad} {b Ls : Nat} {xs : Nat → Int32} (E : Ev p s m #[Value.ref b] c code 4 RL D cA Z bs) (hX : va_X b Ls xs s s.heap) (hbl : b < s.heap.size) (hbA : ¬ Ab bs b) {j : Nat} (hj : j < 513) {kk : Nat → mK → mR → mI → mL → Prop} {v3 : Int32} (hkk : ∀ (bs1 : Ad) (n : Nat) (K : mK) (R : mR) (I : mI) (L : mL) (H : Heap) (locs : List Loc) (ls : Array Slot), bs1.1 = bs.1 → kk n K R I L → mm D cA bs1 (n, K, R, I, L) H → va_S (Ab bs1) s.heap H locs → lv_has ls 4 [(0, .ref b), (1, .ref (ad bs1 0)), (2, .ref (ad bs1 128)), (3, .int v3)] → W p l e room_1 s m #[Value.ref b] below meth c H locs (151 + 42 * j + 42) (33822 + 6542 * j + 6542) (lw_Z below #[Value.ref b] s) (F0 m 1216 ls [])) {n : Nat} {K : mK} {R : mR} {I : mI} {L : mL} {H : Heap} {locs : List Loc} {ls : Array Slot} (hw : w_L_10 xs Ls kk n K R I L v3) (hM : mm D cA bs (n, K, R, I, L) H) (hS : va_S (Ab bs) s.heap H locs) (hl : lv_has ls 4 [(0, .ref b), (1, .ref (ad bs 0)), (2, .ref (ad bs 128)), (3, .int v3)]) : W p l e room_1 s m #[Value.ref b] below meth c H locs (151 + 42 * j) (33822 + 6542 * j) (lw_Z below #[Value.ref b] s) (F0 m 538 ls []) := by
  have hx := E.1.1
  have hb := E.1.2.1
  have hb9 : bs.1 = bs.1 := rfl
  have hRc : room_1.cells = 600000 := rfl
  have hRs : 7000000 ≤ room_1.slots := Nat.le_of_ble_eq_true rfl
  refine lv_aload_n hx hb dL_law_538 rfl (lv_at hl 1 rfl) ?_
  refine lv_aload_n hx hb dL_law_539 rfl (lv_at hl 0 rfl) ?_
  refine lv_iload_n hx hb dL_law_540 rfl (lv_at hl 3 rfl) ?_
  refine lv_iconst (v := 1) hx hb dL_law_541 (by decide) ?_
  refine lv_iadd hx hb dL_law_542 ?_
  obtain ⟨hv, hw⟩ := hw
  refine va_sld hx hb hX hbl hbA hS hv dL_law_543 ?_
  refine lv_aload_n hx hb dL_law_544 rfl (lv_at hl 0 rfl) ?_
  refine lv_iload_n hx hb dL_law_545 rfl (lv_at hl 3 rfl) ?_
  refine lv_iconst (v := 2) hx hb dL_law_546 (by decide) ?_
  refine lv_iadd hx hb dL_law_547 ?_
  obtain ⟨hv, hw⟩ := hw
  refine va_sld hx hb hX hbl hbA hS hv dL_law_548 ?_
  refine lv_aload_n hx hb dL_law_549 rfl (lv_at hl 0 rfl) ?_
  refine lv_iload_n hx hb dL_law_550 rfl (lv_at hl 3 rfl) ?_
  refine lv_iconst (v := 3) hx hb dL_law_551 (by decide) ?_
  refine lv_iadd hx hb dL_law_552 ?_
  obtain ⟨hv, hw⟩ := hw
  refine va_sld hx hb hX hbl hbA hS hv dL_law_553 ?_
  refine lv_aload_n hx hb dL_law_554 rfl (lv_at hl 0 rfl) ?_
  refine lv_iload_n hx hb dL_law_555 rfl (lv_at hl 3 rfl) ?_
  refine lv_iconst (v := 4) hx hb dL_law_556 (by decide) ?_
  refine lv_iadd hx hb dL_law_557 ?_
  obtain ⟨hv, hw⟩ := hw
  refine va_sld hx hb hX hbl hbA hS hv dL_law_558 ?_
  refine lv_aload_n hx hb dL_law_559 rfl (lv_at hl 0 rfl) ?_
  refine lv_iload_n hx hb dL_law_560 rfl (lv_at hl 3 rfl) ?_
  refine lv_iconst (v := 5) hx hb dL_law_561 (by decide) ?_
  refine lv_iadd hx hb dL_law_562 ?_
  obtain ⟨hv, hw⟩ := hw
  refine va_sld hx hb hX hbl hbA hS hv dL_law_563 ?_
  refine lv_aload_n hx hb dL_law_564 rfl (lv_at hl 0 rfl) ?_
  refine lv_iload_n hx hb dL_law_565 rfl (lv_at hl 3 rfl) ?_
  refine lv_bipush (v := 6) hx hb dL_law_566 (by decide) ?_
  refine lv_iadd hx hb dL_law_568 ?_
  obtain ⟨hv, hw⟩ := hw
  refine va_sld hx hb hX hbl hbA hS hv dL_law_569 ?_
  refine lv_aload_n hx hb dL_law_570 rfl (lv_at hl 0 rfl) ?_
  refine lv_iload_n hx hb dL_law_571 rfl (lv_at hl 3 rfl) ?_
  refine lv_bipush (v := 7) hx hb dL_law_572 (by decide) ?_
  refine lv_iadd hx hb dL_law_574 ?_
  obtain ⟨hv, hw⟩ := hw
  refine va_sld hx hb hX hbl hbA hS hv dL_law_575 ?_
  obtain ⟨ob9, ob8, hw⟩ := hw
  refine m_cix (m_runV E hM hS cs_L_58 ob9.1 (by decide) rfl rfl (c_X11_home ob9 hw) rfl rfl ⟨Nat.le_of_ble_eq_true rfl, Nat.le_of_ble_eq_true rfl⟩ rfl hl.1 rfl (Nat.le_of_ble_eq_true rfl) dL_law_576 ⟨by omega, by omega⟩) hS (fun r43 bs u H locs hx1 hp hM hS => ?_)
  obtain ⟨K44, I45, rfl, hw⟩ := hp
  have hx1 : EX _ _ R bs K44 := hx1
  have hw := hw K44 ⟨hx1.2.2.1.1, hx1.2.2.2 ob9⟩
  have e0 := hx1.2.1 0 (by unfold lve; rw [ob9.1]; decide)
  have e128 := hx1.2.1 128 (by unfold lve; rw [ob8.1]; decide)
  have E := EX_E hx1 E
  have hbA : ¬ Ab bs b := by rw [Ab_e hx1.1]; exact hbA
  have hb9 := hx1.1.trans hb9
  have hl : lv_has ls 4 [(0, .ref b), (1, .ref (ad bs 0)), (2, .ref (ad bs 128)), (3, .int v3)] := by rw [e0, e128]; exact hl
  clear e0 e128 hx1
  refine lv_aload_n hx hb dL_law_579 rfl (lv_at hl 2 rfl) ?_
  refine lv_aload_n hx hb dL_law_580 rfl (lv_at hl 0 rfl) ?_
  refine lv_iload_n hx hb dL_law_581 rfl (lv_at hl 3 rfl) ?_
  refine lv_iconst (v := 1) hx hb dL_law_582 (by decide) ?_
  refine lv_iadd hx hb dL_law_583 ?_
  obtain ⟨hv, hw⟩ := hw
  refine va_sld hx hb hX hbl hbA hS hv dL_law_584 ?_
  refine lv_aload_n hx hb dL_law_585 rfl (lv_at hl 0 rfl) ?_
  refine lv_iload_n hx hb dL_law_586 rfl (lv_at hl 3 rfl) ?_
  refine lv_iconst (v := 2) hx hb dL_law_587 (by decide) ?_
  refine lv_iadd hx hb dL_law_588 ?_
  obtain ⟨hv, hw⟩ := hw
  refine va_sld hx hb hX hbl hbA hS hv dL_law_589 ?_
  refine lv_aload_n hx hb dL_law_590 rfl (lv_at hl 0 rfl) ?_
  refine lv_iload_n hx hb dL_law_591 rfl (lv_at hl 3 rfl) ?_
  refine lv_iconst (v := 3) hx hb dL_law_592 (by decide) ?_
  refine lv_iadd hx hb dL_law_593 ?_
  obtain ⟨hv, hw⟩ := hw
  refine va_sld hx hb hX hbl hbA hS hv dL_law_594 ?_
  refine lv_aload_n hx hb dL_law_595 rfl (lv_at hl 0 rfl) ?_
  refine lv_iload_n hx hb dL_law_596 rfl (lv_at hl 3 rfl) ?_
  refine lv_iconst (v := 4) hx hb dL_law_597 (by decide) ?_
  refine lv_iadd hx hb dL_law_598 ?_
  obtain ⟨hv, hw⟩ := hw
  refine va_sld hx hb hX hbl hbA hS hv dL_law_599 ?_
  refine lv_aload_n hx hb dL_law_600 rfl (lv_at hl 0 rfl) ?_
  refine lv_iload_n hx hb dL_law_601 rfl (lv_at hl 3 rfl) ?_
  refine lv_iconst (v := 5) hx hb dL_law_602 (by decide) ?_
  refine lv_iadd hx hb dL_law_603 ?_
  obtain ⟨hv, hw⟩ := hw
  refine va_sld hx hb hX hbl hbA hS hv dL_law_604 ?_
  refine lv_aload_n hx hb dL_law_605 rfl (lv_at hl 0 rfl) ?_
  refine lv_iload_n hx hb dL_law_606 rfl (lv_at hl 3 rfl) ?_
  refine lv_bipush (v := 6) hx hb dL_law_607 (by decide) ?_
  refine lv_iadd hx hb dL_law_609 ?_
  obtain ⟨hv, hw⟩ := hw
  refine va_sld hx hb hX hbl hbA hS hv dL_law_610 ?_
  refine lv_aload_n hx hb dL_law_611 rfl (lv_at hl 0 rfl) ?_
  refine lv_iload_n hx hb dL_law_612 rfl (lv_at hl 3 rfl) ?_
  refine lv_bipush (v := 7) hx hb dL_law_613 (by decide) ?_
  refine lv_iadd hx hb dL_law_615 ?_
  obtain ⟨hv, hw⟩ := hw
  refine va_sld hx hb hX hbl hbA hS hv dL_law_616 ?_
  obtain ⟨ob9, hw⟩ := hw
  refine m_ci (m_runV E hM hS cs_L_62 ob9.1 (by decide) rfl rfl (c_X12_home ob9 hw) rfl rfl ⟨Nat.le_of_ble_eq_true rfl, Nat.le_of_ble_eq_true rfl⟩ rfl hl.1 rfl (Nat.le_of_ble_eq_true rfl) dL_law_617 ⟨by omega, by omega⟩) hS (fun r46 u H locs hp hM hS => ?_)
  obtain ⟨I47, rfl, hw⟩ := hp
  refine lv_icmp_eq (tgt := 1216) hx hb dL_law_620 (by decide) (fun cq => ?_) (fun cq => ?_)
  · have hw := hw.1 cq
    refine W.widen (k := 151 + 42 * j + 42) (n := 33822 + 6542 * j + 6542) (by omega) (by omega) ?_
    exact hkk bs _ _ _ _ _ H locs ls hb9 hw hM hS (lv_sub hl [0, 1, 2, 3] rfl)
  · have hw := hw.2 cq
    refine lv_iconst (v := 0) hx hb dL_law_623 (by decide) ?_
    exact False.elim hw
def w_L_11 (xs : Nat → Int32) (Ls : Nat) (kk : Nat → mK → mR → mI → mL → Prop) (n : Nat) (K : mK) (R : mR) (I : mI) (L : mL) (v3 : Int32) : Prop := vp_in (v3 + 1) Ls ∧ vp_in (v3 + 2) Ls ∧ vp_in (v3 + 3) Ls ∧ vp_in (v3 + 4) Ls ∧ vp_in (v3 + 5) Ls ∧ vp_in (v3 + 6) Ls ∧ isX11 K R ∧ isX12 K R 128 ∧ w_X11_thief I (xs ((v3 + 1).toNatClampNeg)) (xs ((v3 + 2).toNatClampNeg)) (xs ((v3 + 3).toNatClampNeg)) (xs ((v3 + 4).toNatClampNeg)) (xs ((v3 + 5).toNatClampNeg)) (xs ((v3 + 6).toNatClampNeg)) (fun r48 I50 => ∀ K49, KX K R K49 → vp_in (v3 + 1) Ls ∧ vp_in (v3 + 2) Ls ∧ vp_in (v3 + 3) Ls ∧ vp_in (v3 + 4) Ls ∧ vp_in (v3 + 5) Ls ∧ vp_in (v3 + 6) Ls ∧ isX12 K49 R 128 ∧ w_X12_thief I50 128 (xs ((v3 + 1).toNatClampNeg)) (xs ((v3 + 2).toNatClampNeg)) (xs ((v3 + 3).toNatClampNeg)) (xs ((v3 + 4).toNatClampNeg)) (xs ((v3 + 5).toNatClampNeg)) (xs ((v3 + 6).toNatClampNeg)) (fun r51 I52 => (r48 = r51 → kk n K49 R I52 L) ∧ (¬ r48 = r51 → False)))
set_option maxRecDepth 100000 in
set_option maxHeartbeats 4000000 in
theorem s_L_11 {p : Program} {l : Launch} {e : Env} {s : State} {m : MethodId} {below : List Frame} {meth : Method} {c : Code} {D : va_G} {cA : Nat → ClassId} {Z : mZ} {bs : Ad} {b Ls : Nat} {xs : Nat → Int32} (E : Ev p s m #[Value.ref b] c code 4 RL D cA Z bs) (hX : va_X b Ls xs s s.heap) (hbl : b < s.heap.size) (hbA : ¬ Ab bs b) {j : Nat} (hj : j < 513) {kk : Nat → mK → mR → mI → mL → Prop} {v3 : Int32} (hkk : ∀ (bs1 : Ad) (n : Nat) (K : mK) (R : mR) (I : mI) (L : mL) (H : Heap) (locs : List Loc) (ls : Array Slot), bs1.1 = bs.1 → kk n K R I L → mm D cA bs1 (n, K, R, I, L) H → va_S (Ab bs1) s.heap H locs → lv_has ls 4 [(0, .ref b), (1, .ref (ad bs1 0)), (2, .ref (ad bs1 128)), (3, .int v3)] → W p l e room_1 s m #[Value.ref b] below meth c H locs (151 + 42 * j + 42) (33822 + 6542 * j + 6542) (lw_Z below #[Value.ref b] s) (F0 m 1216 ls [])) {n : Nat} {K : mK} {R : mR} {I : mI} {L : mL} {H : Heap} {locs : List Loc} {ls : Array Slot} (hw : w_L_11 xs Ls kk n K R I L v3) (hM : mm D cA bs (n, K, R, I, L) H) (hS : va_S (Ab bs) s.heap H locs) (hl : lv_has ls 4 [(0, .ref b), (1, .ref (ad bs 0)), (2, .ref (ad bs 128)), (3, .int v3)]) : W p l e room_1 s m #[Value.ref b] below meth c H locs (151 + 42 * j) (33822 + 6542 * j) (lw_Z below #[Value.ref b] s) (F0 m 625 ls []) := by
  have hx := E.1.1
  have hb := E.1.2.1
  have hb9 : bs.1 = bs.1 := rfl
  have hRc : room_1.cells = 600000 := rfl
  have hRs : 7000000 ≤ room_1.slots := Nat.le_of_ble_eq_true rfl
  refine lv_aload_n hx hb dL_law_625 rfl (lv_at hl 1 rfl) ?_
  refine lv_aload_n hx hb dL_law_626 rfl (lv_at hl 0 rfl) ?_
  refine lv_iload_n hx hb dL_law_627 rfl (lv_at hl 3 rfl) ?_
  refine lv_iconst (v := 1) hx hb dL_law_628 (by decide) ?_
  refine lv_iadd hx hb dL_law_629 ?_
  obtain ⟨hv, hw⟩ := hw
  refine va_sld hx hb hX hbl hbA hS hv dL_law_630 ?_
  refine lv_aload_n hx hb dL_law_631 rfl (lv_at hl 0 rfl) ?_
  refine lv_iload_n hx hb dL_law_632 rfl (lv_at hl 3 rfl) ?_
  refine lv_iconst (v := 2) hx hb dL_law_633 (by decide) ?_
  refine lv_iadd hx hb dL_law_634 ?_
  obtain ⟨hv, hw⟩ := hw
  refine va_sld hx hb hX hbl hbA hS hv dL_law_635 ?_
  refine lv_aload_n hx hb dL_law_636 rfl (lv_at hl 0 rfl) ?_
  refine lv_iload_n hx hb dL_law_637 rfl (lv_at hl 3 rfl) ?_
  refine lv_iconst (v := 3) hx hb dL_law_638 (by decide) ?_
  refine lv_iadd hx hb dL_law_639 ?_
  obtain ⟨hv, hw⟩ := hw
  refine va_sld hx hb hX hbl hbA hS hv dL_law_640 ?_
  refine lv_aload_n hx hb dL_law_641 rfl (lv_at hl 0 rfl) ?_
  refine lv_iload_n hx hb dL_law_642 rfl (lv_at hl 3 rfl) ?_
  refine lv_iconst (v := 4) hx hb dL_law_643 (by decide) ?_
  refine lv_iadd hx hb dL_law_644 ?_
  obtain ⟨hv, hw⟩ := hw
  refine va_sld hx hb hX hbl hbA hS hv dL_law_645 ?_
  refine lv_aload_n hx hb dL_law_646 rfl (lv_at hl 0 rfl) ?_
  refine lv_iload_n hx hb dL_law_647 rfl (lv_at hl 3 rfl) ?_
  refine lv_iconst (v := 5) hx hb dL_law_648 (by decide) ?_
  refine lv_iadd hx hb dL_law_649 ?_
  obtain ⟨hv, hw⟩ := hw
  refine va_sld hx hb hX hbl hbA hS hv dL_law_650 ?_
  refine lv_aload_n hx hb dL_law_651 rfl (lv_at hl 0 rfl) ?_
  refine lv_iload_n hx hb dL_law_652 rfl (lv_at hl 3 rfl) ?_
  refine lv_bipush (v := 6) hx hb dL_law_653 (by decide) ?_
  refine lv_iadd hx hb dL_law_655 ?_
  obtain ⟨hv, hw⟩ := hw
  refine va_sld hx hb hX hbl hbA hS hv dL_law_656 ?_
  obtain ⟨ob9, ob8, hw⟩ := hw
  refine m_cix (m_runV E hM hS cs_L_63 ob9.1 (by decide) rfl rfl (c_X11_thief ob9 hw) rfl rfl ⟨Nat.le_of_ble_eq_true rfl, Nat.le_of_ble_eq_true rfl⟩ rfl hl.1 rfl (Nat.le_of_ble_eq_true rfl) dL_law_657 ⟨by omega, by omega⟩) hS (fun r48 bs u H locs hx1 hp hM hS => ?_)
  obtain ⟨K49, I50, rfl, hw⟩ := hp
  have hx1 : EX _ _ R bs K49 := hx1
  have hw := hw K49 ⟨hx1.2.2.1.1, hx1.2.2.2 ob9⟩
  have e0 := hx1.2.1 0 (by unfold lve; rw [ob9.1]; decide)
  have e128 := hx1.2.1 128 (by unfold lve; rw [ob8.1]; decide)
  have E := EX_E hx1 E
  have hbA : ¬ Ab bs b := by rw [Ab_e hx1.1]; exact hbA
  have hb9 := hx1.1.trans hb9
  have hl : lv_has ls 4 [(0, .ref b), (1, .ref (ad bs 0)), (2, .ref (ad bs 128)), (3, .int v3)] := by rw [e0, e128]; exact hl
  clear e0 e128 hx1
  refine lv_aload_n hx hb dL_law_660 rfl (lv_at hl 2 rfl) ?_
  refine lv_aload_n hx hb dL_law_661 rfl (lv_at hl 0 rfl) ?_
  refine lv_iload_n hx hb dL_law_662 rfl (lv_at hl 3 rfl) ?_
  refine lv_iconst (v := 1) hx hb dL_law_663 (by decide) ?_
  refine lv_iadd hx hb dL_law_664 ?_
  obtain ⟨hv, hw⟩ := hw
  refine va_sld hx hb hX hbl hbA hS hv dL_law_665 ?_
  refine lv_aload_n hx hb dL_law_666 rfl (lv_at hl 0 rfl) ?_
  refine lv_iload_n hx hb dL_law_667 rfl (lv_at hl 3 rfl) ?_
  refine lv_iconst (v := 2) hx hb dL_law_668 (by decide) ?_
  refine lv_iadd hx hb dL_law_669 ?_
  obtain ⟨hv, hw⟩ := hw
  refine va_sld hx hb hX hbl hbA hS hv dL_law_670 ?_
  refine lv_aload_n hx hb dL_law_671 rfl (lv_at hl 0 rfl) ?_
  refine lv_iload_n hx hb dL_law_672 rfl (lv_at hl 3 rfl) ?_
  refine lv_iconst (v := 3) hx hb dL_law_673 (by decide) ?_
  refine lv_iadd hx hb dL_law_674 ?_
  obtain ⟨hv, hw⟩ := hw
  refine va_sld hx hb hX hbl hbA hS hv dL_law_675 ?_
  refine lv_aload_n hx hb dL_law_676 rfl (lv_at hl 0 rfl) ?_
  refine lv_iload_n hx hb dL_law_677 rfl (lv_at hl 3 rfl) ?_
  refine lv_iconst (v := 4) hx hb dL_law_678 (by decide) ?_
  refine lv_iadd hx hb dL_law_679 ?_
  obtain ⟨hv, hw⟩ := hw
  refine va_sld hx hb hX hbl hbA hS hv dL_law_680 ?_
  refine lv_aload_n hx hb dL_law_681 rfl (lv_at hl 0 rfl) ?_
  refine lv_iload_n hx hb dL_law_682 rfl (lv_at hl 3 rfl) ?_
  refine lv_iconst (v := 5) hx hb dL_law_683 (by decide) ?_
  refine lv_iadd hx hb dL_law_684 ?_
  obtain ⟨hv, hw⟩ := hw
  refine va_sld hx hb hX hbl hbA hS hv dL_law_685 ?_
  refine lv_aload_n hx hb dL_law_686 rfl (lv_at hl 0 rfl) ?_
  refine lv_iload_n hx hb dL_law_687 rfl (lv_at hl 3 rfl) ?_
  refine lv_bipush (v := 6) hx hb dL_law_688 (by decide) ?_
  refine lv_iadd hx hb dL_law_690 ?_
  obtain ⟨hv, hw⟩ := hw
  refine va_sld hx hb hX hbl hbA hS hv dL_law_691 ?_
  obtain ⟨ob9, hw⟩ := hw
  refine m_ci (m_runV E hM hS cs_L_67 ob9.1 (by decide) rfl rfl (c_X12_thief ob9 hw) rfl rfl ⟨Nat.le_of_ble_eq_true rfl, Nat.le_of_ble_eq_true rfl⟩ rfl hl.1 rfl (Nat.le_of_ble_eq_true rfl) dL_law_692 ⟨by omega, by omega⟩) hS (fun r51 u H locs hp hM hS => ?_)
  obtain ⟨I52, rfl, hw⟩ := hp
  refine lv_icmp_eq (tgt := 1216) hx hb dL_law_695 (by decide) (fun cq => ?_) (fun cq => ?_)
  · have hw := hw.1 cq
    refine W.widen (k := 151 + 42 * j + 42) (n := 33822 + 6542 * j + 6542) (by omega) (by omega) ?_
    exact hkk bs _ _ _ _ _ H locs ls hb9 hw hM hS (lv_sub hl [0, 1, 2, 3] rfl)
  · have hw := hw.2 cq
    refine lv_iconst (v := 0) hx hb dL_law_698 (by decide) ?_
    exact False.elim hw
def w_L_12 (xs : Nat → Int32) (Ls : Nat) (kk : Nat → mK → mR → mI → mL → Prop) (n : Nat) (K : mK) (R : mR) (I : mI) (L : mL) (v3 : Int32) : Prop := vp_in (v3 + 1) Ls ∧ vp_in (v3 + 2) Ls ∧ isX11 K R ∧ isX12 K R 128 ∧ w_X11_apart I (xs ((v3 + 1).toNatClampNeg)) (xs ((v3 + 2).toNatClampNeg)) (fun r53 I55 => ∀ K54, KX K R K54 → vp_in (v3 + 1) Ls ∧ vp_in (v3 + 2) Ls ∧ isX12 K54 R 128 ∧ w_X12_apart I55 128 (xs ((v3 + 1).toNatClampNeg)) (xs ((v3 + 2).toNatClampNeg)) (fun r56 I57 => (r53 = r56 → kk n K54 R I57 L) ∧ (¬ r53 = r56 → False)))
set_option maxRecDepth 100000 in
set_option maxHeartbeats 4000000 in
theorem s_L_12 {p : Program} {l : Launch} {e : Env} {s : State} {m : MethodId} {below : List Frame} {meth : Method} {c : Code} {D : va_G} {cA : Nat → ClassId} {Z : mZ} {bs : Ad} {b Ls : Nat} {xs : Nat → Int32} (E : Ev p s m #[Value.ref b] c code 4 RL D cA Z bs) (hX : va_X b Ls xs s s.heap) (hbl : b < s.heap.size) (hbA : ¬ Ab bs b) {j : Nat} (hj : j < 513) {kk : Nat → mK → mR → mI → mL → Prop} {v3 : Int32} (hkk : ∀ (bs1 : Ad) (n : Nat) (K : mK) (R : mR) (I : mI) (L : mL) (H : Heap) (locs : List Loc) (ls : Array Slot), bs1.1 = bs.1 → kk n K R I L → mm D cA bs1 (n, K, R, I, L) H → va_S (Ab bs1) s.heap H locs → lv_has ls 4 [(0, .ref b), (1, .ref (ad bs1 0)), (2, .ref (ad bs1 128)), (3, .int v3)] → W p l e room_1 s m #[Value.ref b] below meth c H locs (151 + 42 * j + 42) (33822 + 6542 * j + 6542) (lw_Z below #[Value.ref b] s) (F0 m 1216 ls [])) {n : Nat} {K : mK} {R : mR} {I : mI} {L : mL} {H : Heap} {locs : List Loc} {ls : Array Slot} (hw : w_L_12 xs Ls kk n K R I L v3) (hM : mm D cA bs (n, K, R, I, L) H) (hS : va_S (Ab bs) s.heap H locs) (hl : lv_has ls 4 [(0, .ref b), (1, .ref (ad bs 0)), (2, .ref (ad bs 128)), (3, .int v3)]) : W p l e room_1 s m #[Value.ref b] below meth c H locs (151 + 42 * j) (33822 + 6542 * j) (lw_Z below #[Value.ref b] s) (F0 m 700 ls []) := by
  have hx := E.1.1
  have hb := E.1.2.1
  have hb9 : bs.1 = bs.1 := rfl
  have hRc : room_1.cells = 600000 := rfl
  have hRs : 7000000 ≤ room_1.slots := Nat.le_of_ble_eq_true rfl
  refine lv_aload_n hx hb dL_law_700 rfl (lv_at hl 1 rfl) ?_
  refine lv_aload_n hx hb dL_law_701 rfl (lv_at hl 0 rfl) ?_
  refine lv_iload_n hx hb dL_law_702 rfl (lv_at hl 3 rfl) ?_
  refine lv_iconst (v := 1) hx hb dL_law_703 (by decide) ?_
  refine lv_iadd hx hb dL_law_704 ?_
  obtain ⟨hv, hw⟩ := hw
  refine va_sld hx hb hX hbl hbA hS hv dL_law_705 ?_
  refine lv_aload_n hx hb dL_law_706 rfl (lv_at hl 0 rfl) ?_
  refine lv_iload_n hx hb dL_law_707 rfl (lv_at hl 3 rfl) ?_
  refine lv_iconst (v := 2) hx hb dL_law_708 (by decide) ?_
  refine lv_iadd hx hb dL_law_709 ?_
  obtain ⟨hv, hw⟩ := hw
  refine va_sld hx hb hX hbl hbA hS hv dL_law_710 ?_
  obtain ⟨ob9, ob8, hw⟩ := hw
  refine m_cix (m_runV E hM hS cs_L_68 ob9.1 (by decide) rfl rfl (c_X11_apart ob9 hw) rfl rfl ⟨Nat.le_of_ble_eq_true rfl, Nat.le_of_ble_eq_true rfl⟩ rfl hl.1 rfl (Nat.le_of_ble_eq_true rfl) dL_law_711 ⟨by omega, by omega⟩) hS (fun r53 bs u H locs hx1 hp hM hS => ?_)
  obtain ⟨K54, I55, rfl, hw⟩ := hp
  have hx1 : EX _ _ R bs K54 := hx1
  have hw := hw K54 ⟨hx1.2.2.1.1, hx1.2.2.2 ob9⟩
  have e0 := hx1.2.1 0 (by unfold lve; rw [ob9.1]; decide)
  have e128 := hx1.2.1 128 (by unfold lve; rw [ob8.1]; decide)
  have E := EX_E hx1 E
  have hbA : ¬ Ab bs b := by rw [Ab_e hx1.1]; exact hbA
  have hb9 := hx1.1.trans hb9
  have hl : lv_has ls 4 [(0, .ref b), (1, .ref (ad bs 0)), (2, .ref (ad bs 128)), (3, .int v3)] := by rw [e0, e128]; exact hl
  clear e0 e128 hx1
  refine lv_aload_n hx hb dL_law_714 rfl (lv_at hl 2 rfl) ?_
  refine lv_aload_n hx hb dL_law_715 rfl (lv_at hl 0 rfl) ?_
  refine lv_iload_n hx hb dL_law_716 rfl (lv_at hl 3 rfl) ?_
  refine lv_iconst (v := 1) hx hb dL_law_717 (by decide) ?_
  refine lv_iadd hx hb dL_law_718 ?_
  obtain ⟨hv, hw⟩ := hw
  refine va_sld hx hb hX hbl hbA hS hv dL_law_719 ?_
  refine lv_aload_n hx hb dL_law_720 rfl (lv_at hl 0 rfl) ?_
  refine lv_iload_n hx hb dL_law_721 rfl (lv_at hl 3 rfl) ?_
  refine lv_iconst (v := 2) hx hb dL_law_722 (by decide) ?_
  refine lv_iadd hx hb dL_law_723 ?_
  obtain ⟨hv, hw⟩ := hw
  refine va_sld hx hb hX hbl hbA hS hv dL_law_724 ?_
  obtain ⟨ob9, hw⟩ := hw
  refine m_ci (m_runV E hM hS cs_L_71 ob9.1 (by decide) rfl rfl (c_X12_apart ob9 hw) rfl rfl ⟨Nat.le_of_ble_eq_true rfl, Nat.le_of_ble_eq_true rfl⟩ rfl hl.1 rfl (Nat.le_of_ble_eq_true rfl) dL_law_725 ⟨by omega, by omega⟩) hS (fun r56 u H locs hp hM hS => ?_)
  obtain ⟨I57, rfl, hw⟩ := hp
  refine lv_icmp_eq (tgt := 1216) hx hb dL_law_728 (by decide) (fun cq => ?_) (fun cq => ?_)
  · have hw := hw.1 cq
    refine W.widen (k := 151 + 42 * j + 42) (n := 33822 + 6542 * j + 6542) (by omega) (by omega) ?_
    exact hkk bs _ _ _ _ _ H locs ls hb9 hw hM hS (lv_sub hl [0, 1, 2, 3] rfl)
  · have hw := hw.2 cq
    refine lv_iconst (v := 0) hx hb dL_law_731 (by decide) ?_
    exact False.elim hw
def w_L_13 (xs : Nat → Int32) (Ls : Nat) (kk : Nat → mK → mR → mI → mL → Prop) (n : Nat) (K : mK) (R : mR) (I : mI) (L : mL) (v3 : Int32) : Prop := vp_in (v3 + 1) Ls ∧ vp_in (v3 + 2) Ls ∧ vp_in (v3 + 3) Ls ∧ isX11 K R ∧ isX12 K R 128 ∧ w_X11_worth I (xs ((v3 + 1).toNatClampNeg)) (xs ((v3 + 2).toNatClampNeg)) (xs ((v3 + 3).toNatClampNeg)) (fun r58 I60 => ∀ K59, KX K R K59 → vp_in (v3 + 1) Ls ∧ vp_in (v3 + 2) Ls ∧ vp_in (v3 + 3) Ls ∧ isX12 K59 R 128 ∧ w_X12_worth I60 128 (xs ((v3 + 1).toNatClampNeg)) (xs ((v3 + 2).toNatClampNeg)) (xs ((v3 + 3).toNatClampNeg)) (fun r61 I62 => (r58 = r61 → kk n K59 R I62 L) ∧ (¬ r58 = r61 → False)))
set_option maxRecDepth 100000 in
set_option maxHeartbeats 4000000 in
theorem s_L_13 {p : Program} {l : Launch} {e : Env} {s : State} {m : MethodId} {below : List Frame} {meth : Method} {c : Code} {D : va_G} {cA : Nat → ClassId} {Z : mZ} {bs : Ad} {b Ls : Nat} {xs : Nat → Int32} (E : Ev p s m #[Value.ref b] c code 4 RL D cA Z bs) (hX : va_X b Ls xs s s.heap) (hbl : b < s.heap.size) (hbA : ¬ Ab bs b) {j : Nat} (hj : j < 513) {kk : Nat → mK → mR → mI → mL → Prop} {v3 : Int32} (hkk : ∀ (bs1 : Ad) (n : Nat) (K : mK) (R : mR) (I : mI) (L : mL) (H : Heap) (locs : List Loc) (ls : Array Slot), bs1.1 = bs.1 → kk n K R I L → mm D cA bs1 (n, K, R, I, L) H → va_S (Ab bs1) s.heap H locs → lv_has ls 4 [(0, .ref b), (1, .ref (ad bs1 0)), (2, .ref (ad bs1 128)), (3, .int v3)] → W p l e room_1 s m #[Value.ref b] below meth c H locs (151 + 42 * j + 42) (33822 + 6542 * j + 6542) (lw_Z below #[Value.ref b] s) (F0 m 1216 ls [])) {n : Nat} {K : mK} {R : mR} {I : mI} {L : mL} {H : Heap} {locs : List Loc} {ls : Array Slot} (hw : w_L_13 xs Ls kk n K R I L v3) (hM : mm D cA bs (n, K, R, I, L) H) (hS : va_S (Ab bs) s.heap H locs) (hl : lv_has ls 4 [(0, .ref b), (1, .ref (ad bs 0)), (2, .ref (ad bs 128)), (3, .int v3)]) : W p l e room_1 s m #[Value.ref b] below meth c H locs (151 + 42 * j) (33822 + 6542 * j) (lw_Z below #[Value.ref b] s) (F0 m 733 ls []) := by
  have hx := E.1.1
  have hb := E.1.2.1
  have hb9 : bs.1 = bs.1 := rfl
  have hRc : room_1.cells = 600000 := rfl
  have hRs : 7000000 ≤ room_1.slots := Nat.le_of_ble_eq_true rfl
  refine lv_aload_n hx hb dL_law_733 rfl (lv_at hl 1 rfl) ?_
  refine lv_aload_n hx hb dL_law_734 rfl (lv_at hl 0 rfl) ?_
  refine lv_iload_n hx hb dL_law_735 rfl (lv_at hl 3 rfl) ?_
  refine lv_iconst (v := 1) hx hb dL_law_736 (by decide) ?_
  refine lv_iadd hx hb dL_law_737 ?_
  obtain ⟨hv, hw⟩ := hw
  refine va_sld hx hb hX hbl hbA hS hv dL_law_738 ?_
  refine lv_aload_n hx hb dL_law_739 rfl (lv_at hl 0 rfl) ?_
  refine lv_iload_n hx hb dL_law_740 rfl (lv_at hl 3 rfl) ?_
  refine lv_iconst (v := 2) hx hb dL_law_741 (by decide) ?_
  refine lv_iadd hx hb dL_law_742 ?_
  obtain ⟨hv, hw⟩ := hw
  refine va_sld hx hb hX hbl hbA hS hv dL_law_743 ?_
  refine lv_aload_n hx hb dL_law_744 rfl (lv_at hl 0 rfl) ?_
  refine lv_iload_n hx hb dL_law_745 rfl (lv_at hl 3 rfl) ?_
  refine lv_iconst (v := 3) hx hb dL_law_746 (by decide) ?_
  refine lv_iadd hx hb dL_law_747 ?_
  obtain ⟨hv, hw⟩ := hw
  refine va_sld hx hb hX hbl hbA hS hv dL_law_748 ?_
  obtain ⟨ob9, ob8, hw⟩ := hw
  refine m_cix (m_runV E hM hS cs_L_72 ob9.1 (by decide) rfl rfl (c_X11_worth ob9 hw) rfl rfl ⟨Nat.le_of_ble_eq_true rfl, Nat.le_of_ble_eq_true rfl⟩ rfl hl.1 rfl (Nat.le_of_ble_eq_true rfl) dL_law_749 ⟨by omega, by omega⟩) hS (fun r58 bs u H locs hx1 hp hM hS => ?_)
  obtain ⟨K59, I60, rfl, hw⟩ := hp
  have hx1 : EX _ _ R bs K59 := hx1
  have hw := hw K59 ⟨hx1.2.2.1.1, hx1.2.2.2 ob9⟩
  have e0 := hx1.2.1 0 (by unfold lve; rw [ob9.1]; decide)
  have e128 := hx1.2.1 128 (by unfold lve; rw [ob8.1]; decide)
  have E := EX_E hx1 E
  have hbA : ¬ Ab bs b := by rw [Ab_e hx1.1]; exact hbA
  have hb9 := hx1.1.trans hb9
  have hl : lv_has ls 4 [(0, .ref b), (1, .ref (ad bs 0)), (2, .ref (ad bs 128)), (3, .int v3)] := by rw [e0, e128]; exact hl
  clear e0 e128 hx1
  refine lv_aload_n hx hb dL_law_752 rfl (lv_at hl 2 rfl) ?_
  refine lv_aload_n hx hb dL_law_753 rfl (lv_at hl 0 rfl) ?_
  refine lv_iload_n hx hb dL_law_754 rfl (lv_at hl 3 rfl) ?_
  refine lv_iconst (v := 1) hx hb dL_law_755 (by decide) ?_
  refine lv_iadd hx hb dL_law_756 ?_
  obtain ⟨hv, hw⟩ := hw
  refine va_sld hx hb hX hbl hbA hS hv dL_law_757 ?_
  refine lv_aload_n hx hb dL_law_758 rfl (lv_at hl 0 rfl) ?_
  refine lv_iload_n hx hb dL_law_759 rfl (lv_at hl 3 rfl) ?_
  refine lv_iconst (v := 2) hx hb dL_law_760 (by decide) ?_
  refine lv_iadd hx hb dL_law_761 ?_
  obtain ⟨hv, hw⟩ := hw
  refine va_sld hx hb hX hbl hbA hS hv dL_law_762 ?_
  refine lv_aload_n hx hb dL_law_763 rfl (lv_at hl 0 rfl) ?_
  refine lv_iload_n hx hb dL_law_764 rfl (lv_at hl 3 rfl) ?_
  refine lv_iconst (v := 3) hx hb dL_law_765 (by decide) ?_
  refine lv_iadd hx hb dL_law_766 ?_
  obtain ⟨hv, hw⟩ := hw
  refine va_sld hx hb hX hbl hbA hS hv dL_law_767 ?_
  obtain ⟨ob9, hw⟩ := hw
  refine m_ci (m_runV E hM hS cs_L_75 ob9.1 (by decide) rfl rfl (c_X12_worth ob9 hw) rfl rfl ⟨Nat.le_of_ble_eq_true rfl, Nat.le_of_ble_eq_true rfl⟩ rfl hl.1 rfl (Nat.le_of_ble_eq_true rfl) dL_law_768 ⟨by omega, by omega⟩) hS (fun r61 u H locs hp hM hS => ?_)
  obtain ⟨I62, rfl, hw⟩ := hp
  refine lv_icmp_eq (tgt := 1216) hx hb dL_law_771 (by decide) (fun cq => ?_) (fun cq => ?_)
  · have hw := hw.1 cq
    refine W.widen (k := 151 + 42 * j + 42) (n := 33822 + 6542 * j + 6542) (by omega) (by omega) ?_
    exact hkk bs _ _ _ _ _ H locs ls hb9 hw hM hS (lv_sub hl [0, 1, 2, 3] rfl)
  · have hw := hw.2 cq
    refine lv_iconst (v := 0) hx hb dL_law_774 (by decide) ?_
    exact False.elim hw
def w_L_14 (xs : Nat → Int32) (Ls : Nat) (kk : Nat → mK → mR → mI → mL → Prop) (n : Nat) (K : mK) (R : mR) (I : mI) (L : mL) (v3 : Int32) : Prop := vp_in (v3 + 1) Ls ∧ vp_in (v3 + 2) Ls ∧ vp_in (v3 + 3) Ls ∧ isX11 K R ∧ w_X11_sound I (xs ((v3 + 1).toNatClampNeg)) (xs ((v3 + 2).toNatClampNeg)) (xs ((v3 + 3).toNatClampNeg)) (fun r63 => vp_in (v3 + 1) Ls ∧ vp_in (v3 + 2) Ls ∧ vp_in (v3 + 3) Ls ∧ isX12 K R 128 ∧ w_X12_sound I 128 (xs ((v3 + 1).toNatClampNeg)) (xs ((v3 + 2).toNatClampNeg)) (xs ((v3 + 3).toNatClampNeg)) (fun r64 I65 => (r63 = r64 → kk n K R I65 L) ∧ (¬ r63 = r64 → False)))
set_option maxRecDepth 100000 in
set_option maxHeartbeats 4000000 in
theorem s_L_14 {p : Program} {l : Launch} {e : Env} {s : State} {m : MethodId} {below : List Frame} {meth : Method} {c : Code} {D : va_G} {cA : Nat → ClassId} {Z : mZ} {bs : Ad} {b Ls : Nat} {xs : Nat → Int32} (E : Ev p s m #[Value.ref b] c code 4 RL D cA Z bs) (hX : va_X b Ls xs s s.heap) (hbl : b < s.heap.size) (hbA : ¬ Ab bs b) {j : Nat} (hj : j < 513) {kk : Nat → mK → mR → mI → mL → Prop} {v3 : Int32} (hkk : ∀ (bs1 : Ad) (n : Nat) (K : mK) (R : mR) (I : mI) (L : mL) (H : Heap) (locs : List Loc) (ls : Array Slot), bs1.1 = bs.1 → kk n K R I L → mm D cA bs1 (n, K, R, I, L) H → va_S (Ab bs1) s.heap H locs → lv_has ls 4 [(0, .ref b), (1, .ref (ad bs1 0)), (2, .ref (ad bs1 128)), (3, .int v3)] → W p l e room_1 s m #[Value.ref b] below meth c H locs (151 + 42 * j + 42) (33822 + 6542 * j + 6542) (lw_Z below #[Value.ref b] s) (F0 m 1216 ls [])) {n : Nat} {K : mK} {R : mR} {I : mI} {L : mL} {H : Heap} {locs : List Loc} {ls : Array Slot} (hw : w_L_14 xs Ls kk n K R I L v3) (hM : mm D cA bs (n, K, R, I, L) H) (hS : va_S (Ab bs) s.heap H locs) (hl : lv_has ls 4 [(0, .ref b), (1, .ref (ad bs 0)), (2, .ref (ad bs 128)), (3, .int v3)]) : W p l e room_1 s m #[Value.ref b] below meth c H locs (151 + 42 * j) (33822 + 6542 * j) (lw_Z below #[Value.ref b] s) (F0 m 776 ls []) := by
  have hx := E.1.1
  have hb := E.1.2.1
  have hb9 : bs.1 = bs.1 := rfl
  have hRc : room_1.cells = 600000 := rfl
  have hRs : 7000000 ≤ room_1.slots := Nat.le_of_ble_eq_true rfl
  refine lv_aload_n hx hb dL_law_776 rfl (lv_at hl 1 rfl) ?_
  refine lv_aload_n hx hb dL_law_777 rfl (lv_at hl 0 rfl) ?_
  refine lv_iload_n hx hb dL_law_778 rfl (lv_at hl 3 rfl) ?_
  refine lv_iconst (v := 1) hx hb dL_law_779 (by decide) ?_
  refine lv_iadd hx hb dL_law_780 ?_
  obtain ⟨hv, hw⟩ := hw
  refine va_sld hx hb hX hbl hbA hS hv dL_law_781 ?_
  refine lv_aload_n hx hb dL_law_782 rfl (lv_at hl 0 rfl) ?_
  refine lv_iload_n hx hb dL_law_783 rfl (lv_at hl 3 rfl) ?_
  refine lv_iconst (v := 2) hx hb dL_law_784 (by decide) ?_
  refine lv_iadd hx hb dL_law_785 ?_
  obtain ⟨hv, hw⟩ := hw
  refine va_sld hx hb hX hbl hbA hS hv dL_law_786 ?_
  refine lv_aload_n hx hb dL_law_787 rfl (lv_at hl 0 rfl) ?_
  refine lv_iload_n hx hb dL_law_788 rfl (lv_at hl 3 rfl) ?_
  refine lv_iconst (v := 3) hx hb dL_law_789 (by decide) ?_
  refine lv_iadd hx hb dL_law_790 ?_
  obtain ⟨hv, hw⟩ := hw
  refine va_sld hx hb hX hbl hbA hS hv dL_law_791 ?_
  obtain ⟨ob9, hw⟩ := hw
  refine m_ci (m_runV E hM hS cs_L_76 ob9.1 (by decide) rfl rfl (c_X11_sound ob9 hw) rfl rfl ⟨Nat.le_of_ble_eq_true rfl, Nat.le_of_ble_eq_true rfl⟩ rfl hl.1 rfl (Nat.le_of_ble_eq_true rfl) dL_law_792 ⟨by omega, by omega⟩) hS (fun r63 u H locs hp hM hS => ?_)
  obtain ⟨rfl, hw⟩ := hp
  refine lv_aload_n hx hb dL_law_795 rfl (lv_at hl 2 rfl) ?_
  refine lv_aload_n hx hb dL_law_796 rfl (lv_at hl 0 rfl) ?_
  refine lv_iload_n hx hb dL_law_797 rfl (lv_at hl 3 rfl) ?_
  refine lv_iconst (v := 1) hx hb dL_law_798 (by decide) ?_
  refine lv_iadd hx hb dL_law_799 ?_
  obtain ⟨hv, hw⟩ := hw
  refine va_sld hx hb hX hbl hbA hS hv dL_law_800 ?_
  refine lv_aload_n hx hb dL_law_801 rfl (lv_at hl 0 rfl) ?_
  refine lv_iload_n hx hb dL_law_802 rfl (lv_at hl 3 rfl) ?_
  refine lv_iconst (v := 2) hx hb dL_law_803 (by decide) ?_
  refine lv_iadd hx hb dL_law_804 ?_
  obtain ⟨hv, hw⟩ := hw
  refine va_sld hx hb hX hbl hbA hS hv dL_law_805 ?_
  refine lv_aload_n hx hb dL_law_806 rfl (lv_at hl 0 rfl) ?_
  refine lv_iload_n hx hb dL_law_807 rfl (lv_at hl 3 rfl) ?_
  refine lv_iconst (v := 3) hx hb dL_law_808 (by decide) ?_
  refine lv_iadd hx hb dL_law_809 ?_
  obtain ⟨hv, hw⟩ := hw
  refine va_sld hx hb hX hbl hbA hS hv dL_law_810 ?_
  obtain ⟨ob9, hw⟩ := hw
  refine m_ci (m_runV E hM hS cs_L_79 ob9.1 (by decide) rfl rfl (c_X12_sound ob9 hw) rfl rfl ⟨Nat.le_of_ble_eq_true rfl, Nat.le_of_ble_eq_true rfl⟩ rfl hl.1 rfl (Nat.le_of_ble_eq_true rfl) dL_law_811 ⟨by omega, by omega⟩) hS (fun r64 u H locs hp hM hS => ?_)
  obtain ⟨I65, rfl, hw⟩ := hp
  refine lv_icmp_eq (tgt := 1216) hx hb dL_law_814 (by decide) (fun cq => ?_) (fun cq => ?_)
  · have hw := hw.1 cq
    refine W.widen (k := 151 + 42 * j + 42) (n := 33822 + 6542 * j + 6542) (by omega) (by omega) ?_
    exact hkk bs _ _ _ _ _ H locs ls hb9 hw hM hS (lv_sub hl [0, 1, 2, 3] rfl)
  · have hw := hw.2 cq
    refine lv_iconst (v := 0) hx hb dL_law_817 (by decide) ?_
    exact False.elim hw
def w_L_15 (xs : Nat → Int32) (Ls : Nat) (kk : Nat → mK → mR → mI → mL → Prop) (n : Nat) (K : mK) (R : mR) (I : mI) (L : mL) (v3 : Int32) : Prop := vp_in (v3 + 1) Ls ∧ vp_in (v3 + 2) Ls ∧ vp_in (v3 + 3) Ls ∧ isX11 K R ∧ w_X11_makers I (xs ((v3 + 1).toNatClampNeg)) (xs ((v3 + 2).toNatClampNeg)) (xs ((v3 + 3).toNatClampNeg)) (fun r66 => vp_in (v3 + 1) Ls ∧ vp_in (v3 + 2) Ls ∧ vp_in (v3 + 3) Ls ∧ isX12 K R 128 ∧ w_X12_makers I 128 (xs ((v3 + 1).toNatClampNeg)) (xs ((v3 + 2).toNatClampNeg)) (xs ((v3 + 3).toNatClampNeg)) (fun r67 I68 => (r66 = r67 → kk n K R I68 L) ∧ (¬ r66 = r67 → False)))
set_option maxRecDepth 100000 in
set_option maxHeartbeats 4000000 in
theorem s_L_15 {p : Program} {l : Launch} {e : Env} {s : State} {m : MethodId} {below : List Frame} {meth : Method} {c : Code} {D : va_G} {cA : Nat → ClassId} {Z : mZ} {bs : Ad} {b Ls : Nat} {xs : Nat → Int32} (E : Ev p s m #[Value.ref b] c code 4 RL D cA Z bs) (hX : va_X b Ls xs s s.heap) (hbl : b < s.heap.size) (hbA : ¬ Ab bs b) {j : Nat} (hj : j < 513) {kk : Nat → mK → mR → mI → mL → Prop} {v3 : Int32} (hkk : ∀ (bs1 : Ad) (n : Nat) (K : mK) (R : mR) (I : mI) (L : mL) (H : Heap) (locs : List Loc) (ls : Array Slot), bs1.1 = bs.1 → kk n K R I L → mm D cA bs1 (n, K, R, I, L) H → va_S (Ab bs1) s.heap H locs → lv_has ls 4 [(0, .ref b), (1, .ref (ad bs1 0)), (2, .ref (ad bs1 128)), (3, .int v3)] → W p l e room_1 s m #[Value.ref b] below meth c H locs (151 + 42 * j + 42) (33822 + 6542 * j + 6542) (lw_Z below #[Value.ref b] s) (F0 m 1216 ls [])) {n : Nat} {K : mK} {R : mR} {I : mI} {L : mL} {H : Heap} {locs : List Loc} {ls : Array Slot} (hw : w_L_15 xs Ls kk n K R I L v3) (hM : mm D cA bs (n, K, R, I, L) H) (hS : va_S (Ab bs) s.heap H locs) (hl : lv_has ls 4 [(0, .ref b), (1, .ref (ad bs 0)), (2, .ref (ad bs 128)), (3, .int v3)]) : W p l e room_1 s m #[Value.ref b] below meth c H locs (151 + 42 * j) (33822 + 6542 * j) (lw_Z below #[Value.ref b] s) (F0 m 819 ls []) := by
  have hx := E.1.1
  have hb := E.1.2.1
  have hb9 : bs.1 = bs.1 := rfl
  have hRc : room_1.cells = 600000 := rfl
  have hRs : 7000000 ≤ room_1.slots := Nat.le_of_ble_eq_true rfl
  refine lv_aload_n hx hb dL_law_819 rfl (lv_at hl 1 rfl) ?_
  refine lv_aload_n hx hb dL_law_820 rfl (lv_at hl 0 rfl) ?_
  refine lv_iload_n hx hb dL_law_821 rfl (lv_at hl 3 rfl) ?_
  refine lv_iconst (v := 1) hx hb dL_law_822 (by decide) ?_
  refine lv_iadd hx hb dL_law_823 ?_
  obtain ⟨hv, hw⟩ := hw
  refine va_sld hx hb hX hbl hbA hS hv dL_law_824 ?_
  refine lv_aload_n hx hb dL_law_825 rfl (lv_at hl 0 rfl) ?_
  refine lv_iload_n hx hb dL_law_826 rfl (lv_at hl 3 rfl) ?_
  refine lv_iconst (v := 2) hx hb dL_law_827 (by decide) ?_
  refine lv_iadd hx hb dL_law_828 ?_
  obtain ⟨hv, hw⟩ := hw
  refine va_sld hx hb hX hbl hbA hS hv dL_law_829 ?_
  refine lv_aload_n hx hb dL_law_830 rfl (lv_at hl 0 rfl) ?_
  refine lv_iload_n hx hb dL_law_831 rfl (lv_at hl 3 rfl) ?_
  refine lv_iconst (v := 3) hx hb dL_law_832 (by decide) ?_
  refine lv_iadd hx hb dL_law_833 ?_
  obtain ⟨hv, hw⟩ := hw
  refine va_sld hx hb hX hbl hbA hS hv dL_law_834 ?_
  obtain ⟨ob9, hw⟩ := hw
  refine m_ci (m_runV E hM hS cs_L_80 ob9.1 (by decide) rfl rfl (c_X11_makers ob9 hw) rfl rfl ⟨Nat.le_of_ble_eq_true rfl, Nat.le_of_ble_eq_true rfl⟩ rfl hl.1 rfl (Nat.le_of_ble_eq_true rfl) dL_law_835 ⟨by omega, by omega⟩) hS (fun r66 u H locs hp hM hS => ?_)
  obtain ⟨rfl, hw⟩ := hp
  refine lv_aload_n hx hb dL_law_838 rfl (lv_at hl 2 rfl) ?_
  refine lv_aload_n hx hb dL_law_839 rfl (lv_at hl 0 rfl) ?_
  refine lv_iload_n hx hb dL_law_840 rfl (lv_at hl 3 rfl) ?_
  refine lv_iconst (v := 1) hx hb dL_law_841 (by decide) ?_
  refine lv_iadd hx hb dL_law_842 ?_
  obtain ⟨hv, hw⟩ := hw
  refine va_sld hx hb hX hbl hbA hS hv dL_law_843 ?_
  refine lv_aload_n hx hb dL_law_844 rfl (lv_at hl 0 rfl) ?_
  refine lv_iload_n hx hb dL_law_845 rfl (lv_at hl 3 rfl) ?_
  refine lv_iconst (v := 2) hx hb dL_law_846 (by decide) ?_
  refine lv_iadd hx hb dL_law_847 ?_
  obtain ⟨hv, hw⟩ := hw
  refine va_sld hx hb hX hbl hbA hS hv dL_law_848 ?_
  refine lv_aload_n hx hb dL_law_849 rfl (lv_at hl 0 rfl) ?_
  refine lv_iload_n hx hb dL_law_850 rfl (lv_at hl 3 rfl) ?_
  refine lv_iconst (v := 3) hx hb dL_law_851 (by decide) ?_
  refine lv_iadd hx hb dL_law_852 ?_
  obtain ⟨hv, hw⟩ := hw
  refine va_sld hx hb hX hbl hbA hS hv dL_law_853 ?_
  obtain ⟨ob9, hw⟩ := hw
  refine m_ci (m_runV E hM hS cs_L_83 ob9.1 (by decide) rfl rfl (c_X12_makers ob9 hw) rfl rfl ⟨Nat.le_of_ble_eq_true rfl, Nat.le_of_ble_eq_true rfl⟩ rfl hl.1 rfl (Nat.le_of_ble_eq_true rfl) dL_law_854 ⟨by omega, by omega⟩) hS (fun r67 u H locs hp hM hS => ?_)
  obtain ⟨I68, rfl, hw⟩ := hp
  refine lv_icmp_eq (tgt := 1216) hx hb dL_law_857 (by decide) (fun cq => ?_) (fun cq => ?_)
  · have hw := hw.1 cq
    refine W.widen (k := 151 + 42 * j + 42) (n := 33822 + 6542 * j + 6542) (by omega) (by omega) ?_
    exact hkk bs _ _ _ _ _ H locs ls hb9 hw hM hS (lv_sub hl [0, 1, 2, 3] rfl)
  · have hw := hw.2 cq
    refine lv_iconst (v := 0) hx hb dL_law_860 (by decide) ?_
    exact False.elim hw
def w_L_16 (xs : Nat → Int32) (Ls : Nat) (kk : Nat → mK → mR → mI → mL → Prop) (n : Nat) (K : mK) (R : mR) (I : mI) (L : mL) (v3 : Int32) : Prop := vp_in (v3 + 1) Ls ∧ vp_in (v3 + 2) Ls ∧ vp_in (v3 + 3) Ls ∧ isX11 K R ∧ w_X11_track K R I L (xs ((v3 + 1).toNatClampNeg)) (xs ((v3 + 2).toNatClampNeg)) (xs ((v3 + 3).toNatClampNeg)) (fun r69 R70 I71 L72 => vp_in (v3 + 1) Ls ∧ vp_in (v3 + 2) Ls ∧ vp_in (v3 + 3) Ls ∧ isX12 K R70 128 ∧ w_X12_track I71 L72 128 (xs ((v3 + 1).toNatClampNeg)) (xs ((v3 + 2).toNatClampNeg)) (xs ((v3 + 3).toNatClampNeg)) (fun r73 I74 L75 => ((lg_cmp r69 r73) = 0 → kk n K R70 I74 L75) ∧ (¬ (lg_cmp r69 r73) = 0 → False)))
set_option maxRecDepth 100000 in
set_option maxHeartbeats 4000000 in
theorem s_L_16 {p : Program} {l : Launch} {e : Env} {s : State} {m : MethodId} {below : List Frame} {meth : Method} {c : Code} {D : va_G} {cA : Nat → ClassId} {Z : mZ} {bs : Ad} {b Ls : Nat} {xs : Nat → Int32} (E : Ev p s m #[Value.ref b] c code 4 RL D cA Z bs) (hX : va_X b Ls xs s s.heap) (hbl : b < s.heap.size) (hbA : ¬ Ab bs b) {j : Nat} (hj : j < 513) {kk : Nat → mK → mR → mI → mL → Prop} {v3 : Int32} (hkk : ∀ (bs1 : Ad) (n : Nat) (K : mK) (R : mR) (I : mI) (L : mL) (H : Heap) (locs : List Loc) (ls : Array Slot), bs1.1 = bs.1 → kk n K R I L → mm D cA bs1 (n, K, R, I, L) H → va_S (Ab bs1) s.heap H locs → lv_has ls 4 [(0, .ref b), (1, .ref (ad bs1 0)), (2, .ref (ad bs1 128)), (3, .int v3)] → W p l e room_1 s m #[Value.ref b] below meth c H locs (151 + 42 * j + 42) (33822 + 6542 * j + 6542) (lw_Z below #[Value.ref b] s) (F0 m 1216 ls [])) {n : Nat} {K : mK} {R : mR} {I : mI} {L : mL} {H : Heap} {locs : List Loc} {ls : Array Slot} (hw : w_L_16 xs Ls kk n K R I L v3) (hM : mm D cA bs (n, K, R, I, L) H) (hS : va_S (Ab bs) s.heap H locs) (hl : lv_has ls 4 [(0, .ref b), (1, .ref (ad bs 0)), (2, .ref (ad bs 128)), (3, .int v3)]) : W p l e room_1 s m #[Value.ref b] below meth c H locs (151 + 42 * j) (33822 + 6542 * j) (lw_Z below #[Value.ref b] s) (F0 m 862 ls []) := by
  have hx := E.1.1
  have hb := E.1.2.1
  have hb9 : bs.1 = bs.1 := rfl
  have hRc : room_1.cells = 600000 := rfl
  have hRs : 7000000 ≤ room_1.slots := Nat.le_of_ble_eq_true rfl
  refine lv_aload_n hx hb dL_law_862 rfl (lv_at hl 1 rfl) ?_
  refine lv_aload_n hx hb dL_law_863 rfl (lv_at hl 0 rfl) ?_
  refine lv_iload_n hx hb dL_law_864 rfl (lv_at hl 3 rfl) ?_
  refine lv_iconst (v := 1) hx hb dL_law_865 (by decide) ?_
  refine lv_iadd hx hb dL_law_866 ?_
  obtain ⟨hv, hw⟩ := hw
  refine va_sld hx hb hX hbl hbA hS hv dL_law_867 ?_
  refine lv_aload_n hx hb dL_law_868 rfl (lv_at hl 0 rfl) ?_
  refine lv_iload_n hx hb dL_law_869 rfl (lv_at hl 3 rfl) ?_
  refine lv_iconst (v := 2) hx hb dL_law_870 (by decide) ?_
  refine lv_iadd hx hb dL_law_871 ?_
  obtain ⟨hv, hw⟩ := hw
  refine va_sld hx hb hX hbl hbA hS hv dL_law_872 ?_
  refine lv_aload_n hx hb dL_law_873 rfl (lv_at hl 0 rfl) ?_
  refine lv_iload_n hx hb dL_law_874 rfl (lv_at hl 3 rfl) ?_
  refine lv_iconst (v := 3) hx hb dL_law_875 (by decide) ?_
  refine lv_iadd hx hb dL_law_876 ?_
  obtain ⟨hv, hw⟩ := hw
  refine va_sld hx hb hX hbl hbA hS hv dL_law_877 ?_
  obtain ⟨ob9, hw⟩ := hw
  refine m_cl (m_runV E hM hS cs_L_84 ob9.1 (by decide) rfl rfl (c_X11_track ob9 hw) rfl rfl ⟨Nat.le_of_ble_eq_true rfl, Nat.le_of_ble_eq_true rfl⟩ rfl hl.1 rfl (Nat.le_of_ble_eq_true rfl) dL_law_878 ⟨by omega, by omega⟩) hS (fun r69 u H locs hp hM hS => ?_)
  obtain ⟨R70, I71, L72, rfl, hw⟩ := hp
  refine lv_aload_n hx hb dL_law_881 rfl (lv_at hl 2 rfl) ?_
  refine lv_aload_n hx hb dL_law_882 rfl (lv_at hl 0 rfl) ?_
  refine lv_iload_n hx hb dL_law_883 rfl (lv_at hl 3 rfl) ?_
  refine lv_iconst (v := 1) hx hb dL_law_884 (by decide) ?_
  refine lv_iadd hx hb dL_law_885 ?_
  obtain ⟨hv, hw⟩ := hw
  refine va_sld hx hb hX hbl hbA hS hv dL_law_886 ?_
  refine lv_aload_n hx hb dL_law_887 rfl (lv_at hl 0 rfl) ?_
  refine lv_iload_n hx hb dL_law_888 rfl (lv_at hl 3 rfl) ?_
  refine lv_iconst (v := 2) hx hb dL_law_889 (by decide) ?_
  refine lv_iadd hx hb dL_law_890 ?_
  obtain ⟨hv, hw⟩ := hw
  refine va_sld hx hb hX hbl hbA hS hv dL_law_891 ?_
  refine lv_aload_n hx hb dL_law_892 rfl (lv_at hl 0 rfl) ?_
  refine lv_iload_n hx hb dL_law_893 rfl (lv_at hl 3 rfl) ?_
  refine lv_iconst (v := 3) hx hb dL_law_894 (by decide) ?_
  refine lv_iadd hx hb dL_law_895 ?_
  obtain ⟨hv, hw⟩ := hw
  refine va_sld hx hb hX hbl hbA hS hv dL_law_896 ?_
  obtain ⟨ob9, hw⟩ := hw
  refine m_cl (m_runV E hM hS cs_L_88 ob9.1 (by decide) rfl rfl (c_X12_track ob9 hw) rfl rfl ⟨Nat.le_of_ble_eq_true rfl, Nat.le_of_ble_eq_true rfl⟩ rfl hl.1 rfl (Nat.le_of_ble_eq_true rfl) dL_law_897 ⟨by omega, by omega⟩) hS (fun r73 u H locs hp hM hS => ?_)
  obtain ⟨I74, L75, rfl, hw⟩ := hp
  refine W.lcmp hx hb dL_law_900 ?_
  refine lv_if_eq (tgt := 1216) hx hb dL_law_901 (by decide) (fun cq => ?_) (fun cq => ?_)
  · have hw := hw.1 cq
    refine W.widen (k := 151 + 42 * j + 42) (n := 33822 + 6542 * j + 6542) (by omega) (by omega) ?_
    exact hkk bs _ _ _ _ _ H locs ls hb9 hw hM hS (lv_sub hl [0, 1, 2, 3] rfl)
  · have hw := hw.2 cq
    refine lv_iconst (v := 0) hx hb dL_law_904 (by decide) ?_
    exact False.elim hw
def w_L_17 (xs : Nat → Int32) (Ls : Nat) (kk : Nat → mK → mR → mI → mL → Prop) (n : Nat) (K : mK) (R : mR) (I : mI) (L : mL) (v3 : Int32) : Prop := vp_in (v3 + 1) Ls ∧ vp_in (v3 + 2) Ls ∧ vp_in (v3 + 3) Ls ∧ vp_in (v3 + 4) Ls ∧ isX11 K R ∧ w_X11_spots I (xs ((v3 + 1).toNatClampNeg)) (xs ((v3 + 2).toNatClampNeg)) (xs ((v3 + 3).toNatClampNeg)) (xs ((v3 + 4).toNatClampNeg)) (fun r76 I77 => vp_in (v3 + 1) Ls ∧ vp_in (v3 + 2) Ls ∧ vp_in (v3 + 3) Ls ∧ vp_in (v3 + 4) Ls ∧ isX12 K R 128 ∧ w_X12_spots I77 L 128 (xs ((v3 + 1).toNatClampNeg)) (xs ((v3 + 2).toNatClampNeg)) (xs ((v3 + 3).toNatClampNeg)) (xs ((v3 + 4).toNatClampNeg)) (fun r78 I79 L80 => (r76 = r78 → kk n K R I79 L80) ∧ (¬ r76 = r78 → False)))
set_option maxRecDepth 100000 in
set_option maxHeartbeats 4000000 in
theorem s_L_17 {p : Program} {l : Launch} {e : Env} {s : State} {m : MethodId} {below : List Frame} {meth : Method} {c : Code} {D : va_G} {cA : Nat → ClassId} {Z : mZ} {bs : Ad} {b Ls : Nat} {xs : Nat → Int32} (E : Ev p s m #[Value.ref b] c code 4 RL D cA Z bs) (hX : va_X b Ls xs s s.heap) (hbl : b < s.heap.size) (hbA : ¬ Ab bs b) {j : Nat} (hj : j < 513) {kk : Nat → mK → mR → mI → mL → Prop} {v3 : Int32} (hkk : ∀ (bs1 : Ad) (n : Nat) (K : mK) (R : mR) (I : mI) (L : mL) (H : Heap) (locs : List Loc) (ls : Array Slot), bs1.1 = bs.1 → kk n K R I L → mm D cA bs1 (n, K, R, I, L) H → va_S (Ab bs1) s.heap H locs → lv_has ls 4 [(0, .ref b), (1, .ref (ad bs1 0)), (2, .ref (ad bs1 128)), (3, .int v3)] → W p l e room_1 s m #[Value.ref b] below meth c H locs (151 + 42 * j + 42) (33822 + 6542 * j + 6542) (lw_Z below #[Value.ref b] s) (F0 m 1216 ls [])) {n : Nat} {K : mK} {R : mR} {I : mI} {L : mL} {H : Heap} {locs : List Loc} {ls : Array Slot} (hw : w_L_17 xs Ls kk n K R I L v3) (hM : mm D cA bs (n, K, R, I, L) H) (hS : va_S (Ab bs) s.heap H locs) (hl : lv_has ls 4 [(0, .ref b), (1, .ref (ad bs 0)), (2, .ref (ad bs 128)), (3, .int v3)]) : W p l e room_1 s m #[Value.ref b] below meth c H locs (151 + 42 * j) (33822 + 6542 * j) (lw_Z below #[Value.ref b] s) (F0 m 906 ls []) := by
  have hx := E.1.1
  have hb := E.1.2.1
  have hb9 : bs.1 = bs.1 := rfl
  have hRc : room_1.cells = 600000 := rfl
  have hRs : 7000000 ≤ room_1.slots := Nat.le_of_ble_eq_true rfl
  refine lv_aload_n hx hb dL_law_906 rfl (lv_at hl 1 rfl) ?_
  refine lv_aload_n hx hb dL_law_907 rfl (lv_at hl 0 rfl) ?_
  refine lv_iload_n hx hb dL_law_908 rfl (lv_at hl 3 rfl) ?_
  refine lv_iconst (v := 1) hx hb dL_law_909 (by decide) ?_
  refine lv_iadd hx hb dL_law_910 ?_
  obtain ⟨hv, hw⟩ := hw
  refine va_sld hx hb hX hbl hbA hS hv dL_law_911 ?_
  refine lv_aload_n hx hb dL_law_912 rfl (lv_at hl 0 rfl) ?_
  refine lv_iload_n hx hb dL_law_913 rfl (lv_at hl 3 rfl) ?_
  refine lv_iconst (v := 2) hx hb dL_law_914 (by decide) ?_
  refine lv_iadd hx hb dL_law_915 ?_
  obtain ⟨hv, hw⟩ := hw
  refine va_sld hx hb hX hbl hbA hS hv dL_law_916 ?_
  refine lv_aload_n hx hb dL_law_917 rfl (lv_at hl 0 rfl) ?_
  refine lv_iload_n hx hb dL_law_918 rfl (lv_at hl 3 rfl) ?_
  refine lv_iconst (v := 3) hx hb dL_law_919 (by decide) ?_
  refine lv_iadd hx hb dL_law_920 ?_
  obtain ⟨hv, hw⟩ := hw
  refine va_sld hx hb hX hbl hbA hS hv dL_law_921 ?_
  refine lv_aload_n hx hb dL_law_922 rfl (lv_at hl 0 rfl) ?_
  refine lv_iload_n hx hb dL_law_923 rfl (lv_at hl 3 rfl) ?_
  refine lv_iconst (v := 4) hx hb dL_law_924 (by decide) ?_
  refine lv_iadd hx hb dL_law_925 ?_
  obtain ⟨hv, hw⟩ := hw
  refine va_sld hx hb hX hbl hbA hS hv dL_law_926 ?_
  obtain ⟨ob9, hw⟩ := hw
  refine m_ci (m_runV E hM hS cs_L_89 ob9.1 (by decide) rfl rfl (c_X11_spots ob9 hw) rfl rfl ⟨Nat.le_of_ble_eq_true rfl, Nat.le_of_ble_eq_true rfl⟩ rfl hl.1 rfl (Nat.le_of_ble_eq_true rfl) dL_law_927 ⟨by omega, by omega⟩) hS (fun r76 u H locs hp hM hS => ?_)
  obtain ⟨I77, rfl, hw⟩ := hp
  refine lv_aload_n hx hb dL_law_930 rfl (lv_at hl 2 rfl) ?_
  refine lv_aload_n hx hb dL_law_931 rfl (lv_at hl 0 rfl) ?_
  refine lv_iload_n hx hb dL_law_932 rfl (lv_at hl 3 rfl) ?_
  refine lv_iconst (v := 1) hx hb dL_law_933 (by decide) ?_
  refine lv_iadd hx hb dL_law_934 ?_
  obtain ⟨hv, hw⟩ := hw
  refine va_sld hx hb hX hbl hbA hS hv dL_law_935 ?_
  refine lv_aload_n hx hb dL_law_936 rfl (lv_at hl 0 rfl) ?_
  refine lv_iload_n hx hb dL_law_937 rfl (lv_at hl 3 rfl) ?_
  refine lv_iconst (v := 2) hx hb dL_law_938 (by decide) ?_
  refine lv_iadd hx hb dL_law_939 ?_
  obtain ⟨hv, hw⟩ := hw
  refine va_sld hx hb hX hbl hbA hS hv dL_law_940 ?_
  refine lv_aload_n hx hb dL_law_941 rfl (lv_at hl 0 rfl) ?_
  refine lv_iload_n hx hb dL_law_942 rfl (lv_at hl 3 rfl) ?_
  refine lv_iconst (v := 3) hx hb dL_law_943 (by decide) ?_
  refine lv_iadd hx hb dL_law_944 ?_
  obtain ⟨hv, hw⟩ := hw
  refine va_sld hx hb hX hbl hbA hS hv dL_law_945 ?_
  refine lv_aload_n hx hb dL_law_946 rfl (lv_at hl 0 rfl) ?_
  refine lv_iload_n hx hb dL_law_947 rfl (lv_at hl 3 rfl) ?_
  refine lv_iconst (v := 4) hx hb dL_law_948 (by decide) ?_
  refine lv_iadd hx hb dL_law_949 ?_
  obtain ⟨hv, hw⟩ := hw
  refine va_sld hx hb hX hbl hbA hS hv dL_law_950 ?_
  obtain ⟨ob9, hw⟩ := hw
  refine m_ci (m_runV E hM hS cs_L_92 ob9.1 (by decide) rfl rfl (c_X12_spots ob9 hw) rfl rfl ⟨Nat.le_of_ble_eq_true rfl, Nat.le_of_ble_eq_true rfl⟩ rfl hl.1 rfl (Nat.le_of_ble_eq_true rfl) dL_law_951 ⟨by omega, by omega⟩) hS (fun r78 u H locs hp hM hS => ?_)
  obtain ⟨I79, L80, rfl, hw⟩ := hp
  refine lv_icmp_eq (tgt := 1216) hx hb dL_law_954 (by decide) (fun cq => ?_) (fun cq => ?_)
  · have hw := hw.1 cq
    refine W.widen (k := 151 + 42 * j + 42) (n := 33822 + 6542 * j + 6542) (by omega) (by omega) ?_
    exact hkk bs _ _ _ _ _ H locs ls hb9 hw hM hS (lv_sub hl [0, 1, 2, 3] rfl)
  · have hw := hw.2 cq
    refine lv_iconst (v := 0) hx hb dL_law_957 (by decide) ?_
    exact False.elim hw
def w_L_18 (xs : Nat → Int32) (Ls : Nat) (kk : Nat → mK → mR → mI → mL → Prop) (n : Nat) (K : mK) (R : mR) (I : mI) (L : mL) (v3 : Int32) : Prop := vp_in (v3 + 1) Ls ∧ vp_in (v3 + 2) Ls ∧ vp_in (v3 + 3) Ls ∧ vp_in (v3 + 4) Ls ∧ isX11 K R ∧ isX12 K R 128 ∧ w_X11_drawn I (xs ((v3 + 1).toNatClampNeg)) (xs ((v3 + 2).toNatClampNeg)) (xs ((v3 + 3).toNatClampNeg)) (xs ((v3 + 4).toNatClampNeg)) (fun r81 I83 => ∀ K82, KX K R K82 → vp_in (v3 + 1) Ls ∧ vp_in (v3 + 2) Ls ∧ vp_in (v3 + 3) Ls ∧ vp_in (v3 + 4) Ls ∧ isX12 K82 R 128 ∧ w_X12_drawn I83 128 (xs ((v3 + 1).toNatClampNeg)) (xs ((v3 + 2).toNatClampNeg)) (xs ((v3 + 3).toNatClampNeg)) (xs ((v3 + 4).toNatClampNeg)) (fun r84 I85 => (r81 = r84 → kk n K82 R I85 L) ∧ (¬ r81 = r84 → False)))
set_option maxRecDepth 100000 in
set_option maxHeartbeats 4000000 in
theorem s_L_18 {p : Program} {l : Launch} {e : Env} {s : State} {m : MethodId} {below : List Frame} {meth : Method} {c : Code} {D : va_G} {cA : Nat → ClassId} {Z : mZ} {bs : Ad} {b Ls : Nat} {xs : Nat → Int32} (E : Ev p s m #[Value.ref b] c code 4 RL D cA Z bs) (hX : va_X b Ls xs s s.heap) (hbl : b < s.heap.size) (hbA : ¬ Ab bs b) {j : Nat} (hj : j < 513) {kk : Nat → mK → mR → mI → mL → Prop} {v3 : Int32} (hkk : ∀ (bs1 : Ad) (n : Nat) (K : mK) (R : mR) (I : mI) (L : mL) (H : Heap) (locs : List Loc) (ls : Array Slot), bs1.1 = bs.1 → kk n K R I L → mm D cA bs1 (n, K, R, I, L) H → va_S (Ab bs1) s.heap H locs → lv_has ls 4 [(0, .ref b), (1, .ref (ad bs1 0)), (2, .ref (ad bs1 128)), (3, .int v3)] → W p l e room_1 s m #[Value.ref b] below meth c H locs (151 + 42 * j + 42) (33822 + 6542 * j + 6542) (lw_Z below #[Value.ref b] s) (F0 m 1216 ls [])) {n : Nat} {K : mK} {R : mR} {I : mI} {L : mL} {H : Heap} {locs : List Loc} {ls : Array Slot} (hw : w_L_18 xs Ls kk n K R I L v3) (hM : mm D cA bs (n, K, R, I, L) H) (hS : va_S (Ab bs) s.heap H locs) (hl : lv_has ls 4 [(0, .ref b), (1, .ref (ad bs 0)), (2, .ref (ad bs 128)), (3, .int v3)]) : W p l e room_1 s m #[Value.ref b] below meth c H locs (151 + 42 * j) (33822 + 6542 * j) (lw_Z below #[Value.ref b] s) (F0 m 959 ls []) := by
  have hx := E.1.1
  have hb := E.1.2.1
  have hb9 : bs.1 = bs.1 := rfl
  have hRc : room_1.cells = 600000 := rfl
  have hRs : 7000000 ≤ room_1.slots := Nat.le_of_ble_eq_true rfl
  refine lv_aload_n hx hb dL_law_959 rfl (lv_at hl 1 rfl) ?_
  refine lv_aload_n hx hb dL_law_960 rfl (lv_at hl 0 rfl) ?_
  refine lv_iload_n hx hb dL_law_961 rfl (lv_at hl 3 rfl) ?_
  refine lv_iconst (v := 1) hx hb dL_law_962 (by decide) ?_
  refine lv_iadd hx hb dL_law_963 ?_
  obtain ⟨hv, hw⟩ := hw
  refine va_sld hx hb hX hbl hbA hS hv dL_law_964 ?_
  refine lv_aload_n hx hb dL_law_965 rfl (lv_at hl 0 rfl) ?_
  refine lv_iload_n hx hb dL_law_966 rfl (lv_at hl 3 rfl) ?_
  refine lv_iconst (v := 2) hx hb dL_law_967 (by decide) ?_
  refine lv_iadd hx hb dL_law_968 ?_
  obtain ⟨hv, hw⟩ := hw
  refine va_sld hx hb hX hbl hbA hS hv dL_law_969 ?_
  refine lv_aload_n hx hb dL_law_970 rfl (lv_at hl 0 rfl) ?_
  refine lv_iload_n hx hb dL_law_971 rfl (lv_at hl 3 rfl) ?_
  refine lv_iconst (v := 3) hx hb dL_law_972 (by decide) ?_
  refine lv_iadd hx hb dL_law_973 ?_
  obtain ⟨hv, hw⟩ := hw
  refine va_sld hx hb hX hbl hbA hS hv dL_law_974 ?_
  refine lv_aload_n hx hb dL_law_975 rfl (lv_at hl 0 rfl) ?_
  refine lv_iload_n hx hb dL_law_976 rfl (lv_at hl 3 rfl) ?_
  refine lv_iconst (v := 4) hx hb dL_law_977 (by decide) ?_
  refine lv_iadd hx hb dL_law_978 ?_
  obtain ⟨hv, hw⟩ := hw
  refine va_sld hx hb hX hbl hbA hS hv dL_law_979 ?_
  obtain ⟨ob9, ob8, hw⟩ := hw
  refine m_cix (m_runV E hM hS cs_L_93 ob9.1 (by decide) rfl rfl (c_X11_drawn ob9 hw) rfl rfl ⟨Nat.le_of_ble_eq_true rfl, Nat.le_of_ble_eq_true rfl⟩ rfl hl.1 rfl (Nat.le_of_ble_eq_true rfl) dL_law_980 ⟨by omega, by omega⟩) hS (fun r81 bs u H locs hx1 hp hM hS => ?_)
  obtain ⟨K82, I83, rfl, hw⟩ := hp
  have hx1 : EX _ _ R bs K82 := hx1
  have hw := hw K82 ⟨hx1.2.2.1.1, hx1.2.2.2 ob9⟩
  have e0 := hx1.2.1 0 (by unfold lve; rw [ob9.1]; decide)
  have e128 := hx1.2.1 128 (by unfold lve; rw [ob8.1]; decide)
  have E := EX_E hx1 E
  have hbA : ¬ Ab bs b := by rw [Ab_e hx1.1]; exact hbA
  have hb9 := hx1.1.trans hb9
  have hl : lv_has ls 4 [(0, .ref b), (1, .ref (ad bs 0)), (2, .ref (ad bs 128)), (3, .int v3)] := by rw [e0, e128]; exact hl
  clear e0 e128 hx1
  refine lv_aload_n hx hb dL_law_983 rfl (lv_at hl 2 rfl) ?_
  refine lv_aload_n hx hb dL_law_984 rfl (lv_at hl 0 rfl) ?_
  refine lv_iload_n hx hb dL_law_985 rfl (lv_at hl 3 rfl) ?_
  refine lv_iconst (v := 1) hx hb dL_law_986 (by decide) ?_
  refine lv_iadd hx hb dL_law_987 ?_
  obtain ⟨hv, hw⟩ := hw
  refine va_sld hx hb hX hbl hbA hS hv dL_law_988 ?_
  refine lv_aload_n hx hb dL_law_989 rfl (lv_at hl 0 rfl) ?_
  refine lv_iload_n hx hb dL_law_990 rfl (lv_at hl 3 rfl) ?_
  refine lv_iconst (v := 2) hx hb dL_law_991 (by decide) ?_
  refine lv_iadd hx hb dL_law_992 ?_
  obtain ⟨hv, hw⟩ := hw
  refine va_sld hx hb hX hbl hbA hS hv dL_law_993 ?_
  refine lv_aload_n hx hb dL_law_994 rfl (lv_at hl 0 rfl) ?_
  refine lv_iload_n hx hb dL_law_995 rfl (lv_at hl 3 rfl) ?_
  refine lv_iconst (v := 3) hx hb dL_law_996 (by decide) ?_
  refine lv_iadd hx hb dL_law_997 ?_
  obtain ⟨hv, hw⟩ := hw
  refine va_sld hx hb hX hbl hbA hS hv dL_law_998 ?_
  refine lv_aload_n hx hb dL_law_999 rfl (lv_at hl 0 rfl) ?_
  refine lv_iload_n hx hb dL_law_1000 rfl (lv_at hl 3 rfl) ?_
  refine lv_iconst (v := 4) hx hb dL_law_1001 (by decide) ?_
  refine lv_iadd hx hb dL_law_1002 ?_
  obtain ⟨hv, hw⟩ := hw
  refine va_sld hx hb hX hbl hbA hS hv dL_law_1003 ?_
  obtain ⟨ob9, hw⟩ := hw
  refine m_ci (m_runV E hM hS cs_L_96 ob9.1 (by decide) rfl rfl (c_X12_drawn ob9 hw) rfl rfl ⟨Nat.le_of_ble_eq_true rfl, Nat.le_of_ble_eq_true rfl⟩ rfl hl.1 rfl (Nat.le_of_ble_eq_true rfl) dL_law_1004 ⟨by omega, by omega⟩) hS (fun r84 u H locs hp hM hS => ?_)
  obtain ⟨I85, rfl, hw⟩ := hp
  refine lv_icmp_eq (tgt := 1216) hx hb dL_law_1007 (by decide) (fun cq => ?_) (fun cq => ?_)
  · have hw := hw.1 cq
    refine W.widen (k := 151 + 42 * j + 42) (n := 33822 + 6542 * j + 6542) (by omega) (by omega) ?_
    exact hkk bs _ _ _ _ _ H locs ls hb9 hw hM hS (lv_sub hl [0, 1, 2, 3] rfl)
  · have hw := hw.2 cq
    refine lv_iconst (v := 0) hx hb dL_law_1010 (by decide) ?_
    exact False.elim hw
def w_L_19 (xs : Nat → Int32) (Ls : Nat) (kk : Nat → mK → mR → mI → mL → Prop) (n : Nat) (K : mK) (R : mR) (I : mI) (L : mL) (v3 : Int32) : Prop := vp_in (v3 + 1) Ls ∧ vp_in (v3 + 2) Ls ∧ isX11 K R ∧ isX12 K R 128 ∧ w_X11_ring I (xs ((v3 + 1).toNatClampNeg)) (xs ((v3 + 2).toNatClampNeg)) (fun r86 I88 => ∀ K87, KX K R K87 → vp_in (v3 + 1) Ls ∧ vp_in (v3 + 2) Ls ∧ isX12 K87 R 128 ∧ w_X12_ring I88 128 (xs ((v3 + 1).toNatClampNeg)) (xs ((v3 + 2).toNatClampNeg)) (fun r89 I90 => (r86 = r89 → kk n K87 R I90 L) ∧ (¬ r86 = r89 → False)))
set_option maxRecDepth 100000 in
set_option maxHeartbeats 4000000 in
theorem s_L_19 {p : Program} {l : Launch} {e : Env} {s : State} {m : MethodId} {below : List Frame} {meth : Method} {c : Code} {D : va_G} {cA : Nat → ClassId} {Z : mZ} {bs : Ad} {b Ls : Nat} {xs : Nat → Int32} (E : Ev p s m #[Value.ref b] c code 4 RL D cA Z bs) (hX : va_X b Ls xs s s.heap) (hbl : b < s.heap.size) (hbA : ¬ Ab bs b) {j : Nat} (hj : j < 513) {kk : Nat → mK → mR → mI → mL → Prop} {v3 : Int32} (hkk : ∀ (bs1 : Ad) (n : Nat) (K : mK) (R : mR) (I : mI) (L : mL) (H : Heap) (locs : List Loc) (ls : Array Slot), bs1.1 = bs.1 → kk n K R I L → mm D cA bs1 (n, K, R, I, L) H → va_S (Ab bs1) s.heap H locs → lv_has ls 4 [(0, .ref b), (1, .ref (ad bs1 0)), (2, .ref (ad bs1 128)), (3, .int v3)] → W p l e room_1 s m #[Value.ref b] below meth c H locs (151 + 42 * j + 42) (33822 + 6542 * j + 6542) (lw_Z below #[Value.ref b] s) (F0 m 1216 ls [])) {n : Nat} {K : mK} {R : mR} {I : mI} {L : mL} {H : Heap} {locs : List Loc} {ls : Array Slot} (hw : w_L_19 xs Ls kk n K R I L v3) (hM : mm D cA bs (n, K, R, I, L) H) (hS : va_S (Ab bs) s.heap H locs) (hl : lv_has ls 4 [(0, .ref b), (1, .ref (ad bs 0)), (2, .ref (ad bs 128)), (3, .int v3)]) : W p l e room_1 s m #[Value.ref b] below meth c H locs (151 + 42 * j) (33822 + 6542 * j) (lw_Z below #[Value.ref b] s) (F0 m 1012 ls []) := by
  have hx := E.1.1
  have hb := E.1.2.1
  have hb9 : bs.1 = bs.1 := rfl
  have hRc : room_1.cells = 600000 := rfl
  have hRs : 7000000 ≤ room_1.slots := Nat.le_of_ble_eq_true rfl
  refine lv_aload_n hx hb dL_law_1012 rfl (lv_at hl 1 rfl) ?_
  refine lv_aload_n hx hb dL_law_1013 rfl (lv_at hl 0 rfl) ?_
  refine lv_iload_n hx hb dL_law_1014 rfl (lv_at hl 3 rfl) ?_
  refine lv_iconst (v := 1) hx hb dL_law_1015 (by decide) ?_
  refine lv_iadd hx hb dL_law_1016 ?_
  obtain ⟨hv, hw⟩ := hw
  refine va_sld hx hb hX hbl hbA hS hv dL_law_1017 ?_
  refine lv_aload_n hx hb dL_law_1018 rfl (lv_at hl 0 rfl) ?_
  refine lv_iload_n hx hb dL_law_1019 rfl (lv_at hl 3 rfl) ?_
  refine lv_iconst (v := 2) hx hb dL_law_1020 (by decide) ?_
  refine lv_iadd hx hb dL_law_1021 ?_
  obtain ⟨hv, hw⟩ := hw
  refine va_sld hx hb hX hbl hbA hS hv dL_law_1022 ?_
  obtain ⟨ob9, ob8, hw⟩ := hw
  refine m_cix (m_runV E hM hS cs_L_97 ob9.1 (by decide) rfl rfl (c_X11_ring ob9 hw) rfl rfl ⟨Nat.le_of_ble_eq_true rfl, Nat.le_of_ble_eq_true rfl⟩ rfl hl.1 rfl (Nat.le_of_ble_eq_true rfl) dL_law_1023 ⟨by omega, by omega⟩) hS (fun r86 bs u H locs hx1 hp hM hS => ?_)
  obtain ⟨K87, I88, rfl, hw⟩ := hp
  have hx1 : EX _ _ R bs K87 := hx1
  have hw := hw K87 ⟨hx1.2.2.1.1, hx1.2.2.2 ob9⟩
  have e0 := hx1.2.1 0 (by unfold lve; rw [ob9.1]; decide)
  have e128 := hx1.2.1 128 (by unfold lve; rw [ob8.1]; decide)
  have E := EX_E hx1 E
  have hbA : ¬ Ab bs b := by rw [Ab_e hx1.1]; exact hbA
  have hb9 := hx1.1.trans hb9
  have hl : lv_has ls 4 [(0, .ref b), (1, .ref (ad bs 0)), (2, .ref (ad bs 128)), (3, .int v3)] := by rw [e0, e128]; exact hl
  clear e0 e128 hx1
  refine lv_aload_n hx hb dL_law_1026 rfl (lv_at hl 2 rfl) ?_
  refine lv_aload_n hx hb dL_law_1027 rfl (lv_at hl 0 rfl) ?_
  refine lv_iload_n hx hb dL_law_1028 rfl (lv_at hl 3 rfl) ?_
  refine lv_iconst (v := 1) hx hb dL_law_1029 (by decide) ?_
  refine lv_iadd hx hb dL_law_1030 ?_
  obtain ⟨hv, hw⟩ := hw
  refine va_sld hx hb hX hbl hbA hS hv dL_law_1031 ?_
  refine lv_aload_n hx hb dL_law_1032 rfl (lv_at hl 0 rfl) ?_
  refine lv_iload_n hx hb dL_law_1033 rfl (lv_at hl 3 rfl) ?_
  refine lv_iconst (v := 2) hx hb dL_law_1034 (by decide) ?_
  refine lv_iadd hx hb dL_law_1035 ?_
  obtain ⟨hv, hw⟩ := hw
  refine va_sld hx hb hX hbl hbA hS hv dL_law_1036 ?_
  obtain ⟨ob9, hw⟩ := hw
  refine m_ci (m_runV E hM hS cs_L_100 ob9.1 (by decide) rfl rfl (c_X12_ring ob9 hw) rfl rfl ⟨Nat.le_of_ble_eq_true rfl, Nat.le_of_ble_eq_true rfl⟩ rfl hl.1 rfl (Nat.le_of_ble_eq_true rfl) dL_law_1037 ⟨by omega, by omega⟩) hS (fun r89 u H locs hp hM hS => ?_)
  obtain ⟨I90, rfl, hw⟩ := hp
  refine lv_icmp_eq (tgt := 1216) hx hb dL_law_1040 (by decide) (fun cq => ?_) (fun cq => ?_)
  · have hw := hw.1 cq
    refine W.widen (k := 151 + 42 * j + 42) (n := 33822 + 6542 * j + 6542) (by omega) (by omega) ?_
    exact hkk bs _ _ _ _ _ H locs ls hb9 hw hM hS (lv_sub hl [0, 1, 2, 3] rfl)
  · have hw := hw.2 cq
    refine lv_iconst (v := 0) hx hb dL_law_1043 (by decide) ?_
    exact False.elim hw
def w_L_20 (xs : Nat → Int32) (Ls : Nat) (kk : Nat → mK → mR → mI → mL → Prop) (n : Nat) (K : mK) (R : mR) (I : mI) (L : mL) (v3 : Int32) : Prop := vp_in (v3 + 1) Ls ∧ vp_in (v3 + 2) Ls ∧ vp_in (v3 + 3) Ls ∧ vp_in (v3 + 4) Ls ∧ ((xs ((v3 + 4).toNatClampNeg)) = 0 → isX11 K R ∧ isX12 K R 128 ∧ w_X11_meet I (xs ((v3 + 1).toNatClampNeg)) (xs ((v3 + 2).toNatClampNeg)) (xs ((v3 + 3).toNatClampNeg)) 0 (fun r91 I93 => ∀ K92, KX K R K92 → vp_in (v3 + 1) Ls ∧ vp_in (v3 + 2) Ls ∧ vp_in (v3 + 3) Ls ∧ vp_in (v3 + 4) Ls ∧ ((xs ((v3 + 4).toNatClampNeg)) = 0 → isX12 K92 R 128 ∧ w_X12_meet I93 128 (xs ((v3 + 1).toNatClampNeg)) (xs ((v3 + 2).toNatClampNeg)) (xs ((v3 + 3).toNatClampNeg)) 0 (fun r94 I95 => (r91 = r94 → kk n K92 R I95 L) ∧ (¬ r91 = r94 → False))) ∧ (¬ (xs ((v3 + 4).toNatClampNeg)) = 0 → isX12 K92 R 128 ∧ w_X12_meet I93 128 (xs ((v3 + 1).toNatClampNeg)) (xs ((v3 + 2).toNatClampNeg)) (xs ((v3 + 3).toNatClampNeg)) 1 (fun r96 I97 => (r91 = r96 → kk n K92 R I97 L) ∧ (¬ r91 = r96 → False))))) ∧ (¬ (xs ((v3 + 4).toNatClampNeg)) = 0 → isX11 K R ∧ isX12 K R 128 ∧ w_X11_meet I (xs ((v3 + 1).toNatClampNeg)) (xs ((v3 + 2).toNatClampNeg)) (xs ((v3 + 3).toNatClampNeg)) 1 (fun r98 I100 => ∀ K99, KX K R K99 → vp_in (v3 + 1) Ls ∧ vp_in (v3 + 2) Ls ∧ vp_in (v3 + 3) Ls ∧ vp_in (v3 + 4) Ls ∧ ((xs ((v3 + 4).toNatClampNeg)) = 0 → isX12 K99 R 128 ∧ w_X12_meet I100 128 (xs ((v3 + 1).toNatClampNeg)) (xs ((v3 + 2).toNatClampNeg)) (xs ((v3 + 3).toNatClampNeg)) 0 (fun r101 I102 => (r98 = r101 → kk n K99 R I102 L) ∧ (¬ r98 = r101 → False))) ∧ (¬ (xs ((v3 + 4).toNatClampNeg)) = 0 → isX12 K99 R 128 ∧ w_X12_meet I100 128 (xs ((v3 + 1).toNatClampNeg)) (xs ((v3 + 2).toNatClampNeg)) (xs ((v3 + 3).toNatClampNeg)) 1 (fun r103 I104 => (r98 = r103 → kk n K99 R I104 L) ∧ (¬ r98 = r103 → False)))))
set_option maxRecDepth 100000 in
set_option maxHeartbeats 4000000 in
theorem s_L_20 {p : Program} {l : Launch} {e : Env} {s : State} {m : MethodId} {below : List Frame} {meth : Method} {c : Code} {D : va_G} {cA : Nat → ClassId} {Z : mZ} {bs : Ad} {b Ls : Nat} {xs : Nat → Int32} (E : Ev p s m #[Value.ref b] c code 4 RL D cA Z bs) (hX : va_X b Ls xs s s.heap) (hbl : b < s.heap.size) (hbA : ¬ Ab bs b) {j : Nat} (hj : j < 513) {kk : Nat → mK → mR → mI → mL → Prop} {v3 : Int32} (hkk : ∀ (bs1 : Ad) (n : Nat) (K : mK) (R : mR) (I : mI) (L : mL) (H : Heap) (locs : List Loc) (ls : Array Slot), bs1.1 = bs.1 → kk n K R I L → mm D cA bs1 (n, K, R, I, L) H → va_S (Ab bs1) s.heap H locs → lv_has ls 4 [(0, .ref b), (1, .ref (ad bs1 0)), (2, .ref (ad bs1 128)), (3, .int v3)] → W p l e room_1 s m #[Value.ref b] below meth c H locs (151 + 42 * j + 42) (33822 + 6542 * j + 6542) (lw_Z below #[Value.ref b] s) (F0 m 1216 ls [])) {n : Nat} {K : mK} {R : mR} {I : mI} {L : mL} {H : Heap} {locs : List Loc} {ls : Array Slot} (hw : w_L_20 xs Ls kk n K R I L v3) (hM : mm D cA bs (n, K, R, I, L) H) (hS : va_S (Ab bs) s.heap H locs) (hl : lv_has ls 4 [(0, .ref b), (1, .ref (ad bs 0)), (2, .ref (ad bs 128)), (3, .int v3)]) : W p l e room_1 s m #[Value.ref b] below meth c H locs (151 + 42 * j) (33822 + 6542 * j) (lw_Z below #[Value.ref b] s) (F0 m 1045 ls []) := by
  have hx := E.1.1
  have hb := E.1.2.1
  have hb9 : bs.1 = bs.1 := rfl
  have hRc : room_1.cells = 600000 := rfl
  have hRs : 7000000 ≤ room_1.slots := Nat.le_of_ble_eq_true rfl
  refine lv_aload_n hx hb dL_law_1045 rfl (lv_at hl 1 rfl) ?_
  refine lv_aload_n hx hb dL_law_1046 rfl (lv_at hl 0 rfl) ?_
  refine lv_iload_n hx hb dL_law_1047 rfl (lv_at hl 3 rfl) ?_
  refine lv_iconst (v := 1) hx hb dL_law_1048 (by decide) ?_
  refine lv_iadd hx hb dL_law_1049 ?_
  obtain ⟨hv, hw⟩ := hw
  refine va_sld hx hb hX hbl hbA hS hv dL_law_1050 ?_
  refine lv_aload_n hx hb dL_law_1051 rfl (lv_at hl 0 rfl) ?_
  refine lv_iload_n hx hb dL_law_1052 rfl (lv_at hl 3 rfl) ?_
  refine lv_iconst (v := 2) hx hb dL_law_1053 (by decide) ?_
  refine lv_iadd hx hb dL_law_1054 ?_
  obtain ⟨hv, hw⟩ := hw
  refine va_sld hx hb hX hbl hbA hS hv dL_law_1055 ?_
  refine lv_aload_n hx hb dL_law_1056 rfl (lv_at hl 0 rfl) ?_
  refine lv_iload_n hx hb dL_law_1057 rfl (lv_at hl 3 rfl) ?_
  refine lv_iconst (v := 3) hx hb dL_law_1058 (by decide) ?_
  refine lv_iadd hx hb dL_law_1059 ?_
  obtain ⟨hv, hw⟩ := hw
  refine va_sld hx hb hX hbl hbA hS hv dL_law_1060 ?_
  refine lv_aload_n hx hb dL_law_1061 rfl (lv_at hl 0 rfl) ?_
  refine lv_iload_n hx hb dL_law_1062 rfl (lv_at hl 3 rfl) ?_
  refine lv_iconst (v := 4) hx hb dL_law_1063 (by decide) ?_
  refine lv_iadd hx hb dL_law_1064 ?_
  obtain ⟨hv, hw⟩ := hw
  refine va_sld hx hb hX hbl hbA hS hv dL_law_1065 ?_
  refine lv_if_eq (tgt := 1073) hx hb dL_law_1066 (by decide) (fun cq => ?_) (fun cq => ?_)
  · have hw := hw.1 cq
    refine lv_iconst (v := 0) hx hb dL_law_1073 (by decide) ?_
    obtain ⟨ob9, ob8, hw⟩ := hw
    refine m_cix (m_runV E hM hS cs_L_101 ob9.1 (by decide) rfl rfl (c_X11_meet ob9 hw) rfl rfl ⟨Nat.le_of_ble_eq_true rfl, Nat.le_of_ble_eq_true rfl⟩ rfl hl.1 rfl (Nat.le_of_ble_eq_true rfl) dL_law_1074 ⟨by omega, by omega⟩) hS (fun r91 bs u H locs hx1 hp hM hS => ?_)
    obtain ⟨K92, I93, rfl, hw⟩ := hp
    have hx1 : EX _ _ R bs K92 := hx1
    have hw := hw K92 ⟨hx1.2.2.1.1, hx1.2.2.2 ob9⟩
    have e0 := hx1.2.1 0 (by unfold lve; rw [ob9.1]; decide)
    have e128 := hx1.2.1 128 (by unfold lve; rw [ob8.1]; decide)
    have E := EX_E hx1 E
    have hbA : ¬ Ab bs b := by rw [Ab_e hx1.1]; exact hbA
    have hb9 := hx1.1.trans hb9
    have hl : lv_has ls 4 [(0, .ref b), (1, .ref (ad bs 0)), (2, .ref (ad bs 128)), (3, .int v3)] := by rw [e0, e128]; exact hl
    clear e0 e128 hx1
    refine lv_aload_n hx hb dL_law_1077 rfl (lv_at hl 2 rfl) ?_
    refine lv_aload_n hx hb dL_law_1078 rfl (lv_at hl 0 rfl) ?_
    refine lv_iload_n hx hb dL_law_1079 rfl (lv_at hl 3 rfl) ?_
    refine lv_iconst (v := 1) hx hb dL_law_1080 (by decide) ?_
    refine lv_iadd hx hb dL_law_1081 ?_
    obtain ⟨hv, hw⟩ := hw
    refine va_sld hx hb hX hbl hbA hS hv dL_law_1082 ?_
    refine lv_aload_n hx hb dL_law_1083 rfl (lv_at hl 0 rfl) ?_
    refine lv_iload_n hx hb dL_law_1084 rfl (lv_at hl 3 rfl) ?_
    refine lv_iconst (v := 2) hx hb dL_law_1085 (by decide) ?_
    refine lv_iadd hx hb dL_law_1086 ?_
    obtain ⟨hv, hw⟩ := hw
    refine va_sld hx hb hX hbl hbA hS hv dL_law_1087 ?_
    refine lv_aload_n hx hb dL_law_1088 rfl (lv_at hl 0 rfl) ?_
    refine lv_iload_n hx hb dL_law_1089 rfl (lv_at hl 3 rfl) ?_
    refine lv_iconst (v := 3) hx hb dL_law_1090 (by decide) ?_
    refine lv_iadd hx hb dL_law_1091 ?_
    obtain ⟨hv, hw⟩ := hw
    refine va_sld hx hb hX hbl hbA hS hv dL_law_1092 ?_
    refine lv_aload_n hx hb dL_law_1093 rfl (lv_at hl 0 rfl) ?_
    refine lv_iload_n hx hb dL_law_1094 rfl (lv_at hl 3 rfl) ?_
    refine lv_iconst (v := 4) hx hb dL_law_1095 (by decide) ?_
    refine lv_iadd hx hb dL_law_1096 ?_
    obtain ⟨hv, hw⟩ := hw
    refine va_sld hx hb hX hbl hbA hS hv dL_law_1097 ?_
    refine lv_if_eq (tgt := 1105) hx hb dL_law_1098 (by decide) (fun cq => ?_) (fun cq => ?_)
    · have hw := hw.1 cq
      refine lv_iconst (v := 0) hx hb dL_law_1105 (by decide) ?_
      obtain ⟨ob9, hw⟩ := hw
      refine m_ci (m_runV E hM hS cs_L_105 ob9.1 (by decide) rfl rfl (c_X12_meet ob9 hw) rfl rfl ⟨Nat.le_of_ble_eq_true rfl, Nat.le_of_ble_eq_true rfl⟩ rfl hl.1 rfl (Nat.le_of_ble_eq_true rfl) dL_law_1106 ⟨by omega, by omega⟩) hS (fun r94 u H locs hp hM hS => ?_)
      obtain ⟨I95, rfl, hw⟩ := hp
      refine lv_icmp_eq (tgt := 1216) hx hb dL_law_1109 (by decide) (fun cq => ?_) (fun cq => ?_)
      · have hw := hw.1 cq
        refine W.widen (k := 151 + 42 * j + 42) (n := 33822 + 6542 * j + 6542) (by omega) (by omega) ?_
        exact hkk bs _ _ _ _ _ H locs ls hb9 hw hM hS (lv_sub hl [0, 1, 2, 3] rfl)
      · have hw := hw.2 cq
        refine lv_iconst (v := 0) hx hb dL_law_1112 (by decide) ?_
        exact False.elim hw
    · have hw := hw.2 cq
      refine lv_iconst (v := 1) hx hb dL_law_1101 (by decide) ?_
      refine lv_goto (tgt := 1106) hx hb dL_law_1102 (by decide) ?_
      obtain ⟨ob9, hw⟩ := hw
      refine m_ci (m_runV E hM hS cs_L_105 ob9.1 (by decide) rfl rfl (c_X12_meet ob9 hw) rfl rfl ⟨Nat.le_of_ble_eq_true rfl, Nat.le_of_ble_eq_true rfl⟩ rfl hl.1 rfl (Nat.le_of_ble_eq_true rfl) dL_law_1106 ⟨by omega, by omega⟩) hS (fun r96 u H locs hp hM hS => ?_)
      obtain ⟨I97, rfl, hw⟩ := hp
      refine lv_icmp_eq (tgt := 1216) hx hb dL_law_1109 (by decide) (fun cq => ?_) (fun cq => ?_)
      · have hw := hw.1 cq
        refine W.widen (k := 151 + 42 * j + 42) (n := 33822 + 6542 * j + 6542) (by omega) (by omega) ?_
        exact hkk bs _ _ _ _ _ H locs ls hb9 hw hM hS (lv_sub hl [0, 1, 2, 3] rfl)
      · have hw := hw.2 cq
        refine lv_iconst (v := 0) hx hb dL_law_1112 (by decide) ?_
        exact False.elim hw
  · have hw := hw.2 cq
    refine lv_iconst (v := 1) hx hb dL_law_1069 (by decide) ?_
    refine lv_goto (tgt := 1074) hx hb dL_law_1070 (by decide) ?_
    obtain ⟨ob9, ob8, hw⟩ := hw
    refine m_cix (m_runV E hM hS cs_L_101 ob9.1 (by decide) rfl rfl (c_X11_meet ob9 hw) rfl rfl ⟨Nat.le_of_ble_eq_true rfl, Nat.le_of_ble_eq_true rfl⟩ rfl hl.1 rfl (Nat.le_of_ble_eq_true rfl) dL_law_1074 ⟨by omega, by omega⟩) hS (fun r98 bs u H locs hx1 hp hM hS => ?_)
    obtain ⟨K99, I100, rfl, hw⟩ := hp
    have hx1 : EX _ _ R bs K99 := hx1
    have hw := hw K99 ⟨hx1.2.2.1.1, hx1.2.2.2 ob9⟩
    have e0 := hx1.2.1 0 (by unfold lve; rw [ob9.1]; decide)
    have e128 := hx1.2.1 128 (by unfold lve; rw [ob8.1]; decide)
    have E := EX_E hx1 E
    have hbA : ¬ Ab bs b := by rw [Ab_e hx1.1]; exact hbA
    have hb9 := hx1.1.trans hb9
    have hl : lv_has ls 4 [(0, .ref b), (1, .ref (ad bs 0)), (2, .ref (ad bs 128)), (3, .int v3)] := by rw [e0, e128]; exact hl
    clear e0 e128 hx1
    refine lv_aload_n hx hb dL_law_1077 rfl (lv_at hl 2 rfl) ?_
    refine lv_aload_n hx hb dL_law_1078 rfl (lv_at hl 0 rfl) ?_
    refine lv_iload_n hx hb dL_law_1079 rfl (lv_at hl 3 rfl) ?_
    refine lv_iconst (v := 1) hx hb dL_law_1080 (by decide) ?_
    refine lv_iadd hx hb dL_law_1081 ?_
    obtain ⟨hv, hw⟩ := hw
    refine va_sld hx hb hX hbl hbA hS hv dL_law_1082 ?_
    refine lv_aload_n hx hb dL_law_1083 rfl (lv_at hl 0 rfl) ?_
    refine lv_iload_n hx hb dL_law_1084 rfl (lv_at hl 3 rfl) ?_
    refine lv_iconst (v := 2) hx hb dL_law_1085 (by decide) ?_
    refine lv_iadd hx hb dL_law_1086 ?_
    obtain ⟨hv, hw⟩ := hw
    refine va_sld hx hb hX hbl hbA hS hv dL_law_1087 ?_
    refine lv_aload_n hx hb dL_law_1088 rfl (lv_at hl 0 rfl) ?_
    refine lv_iload_n hx hb dL_law_1089 rfl (lv_at hl 3 rfl) ?_
    refine lv_iconst (v := 3) hx hb dL_law_1090 (by decide) ?_
    refine lv_iadd hx hb dL_law_1091 ?_
    obtain ⟨hv, hw⟩ := hw
    refine va_sld hx hb hX hbl hbA hS hv dL_law_1092 ?_
    refine lv_aload_n hx hb dL_law_1093 rfl (lv_at hl 0 rfl) ?_
    refine lv_iload_n hx hb dL_law_1094 rfl (lv_at hl 3 rfl) ?_
    refine lv_iconst (v := 4) hx hb dL_law_1095 (by decide) ?_
    refine lv_iadd hx hb dL_law_1096 ?_
    obtain ⟨hv, hw⟩ := hw
    refine va_sld hx hb hX hbl hbA hS hv dL_law_1097 ?_
    refine lv_if_eq (tgt := 1105) hx hb dL_law_1098 (by decide) (fun cq => ?_) (fun cq => ?_)
    · have hw := hw.1 cq
      refine lv_iconst (v := 0) hx hb dL_law_1105 (by decide) ?_
      obtain ⟨ob9, hw⟩ := hw
      refine m_ci (m_runV E hM hS cs_L_105 ob9.1 (by decide) rfl rfl (c_X12_meet ob9 hw) rfl rfl ⟨Nat.le_of_ble_eq_true rfl, Nat.le_of_ble_eq_true rfl⟩ rfl hl.1 rfl (Nat.le_of_ble_eq_true rfl) dL_law_1106 ⟨by omega, by omega⟩) hS (fun r101 u H locs hp hM hS => ?_)
      obtain ⟨I102, rfl, hw⟩ := hp
      refine lv_icmp_eq (tgt := 1216) hx hb dL_law_1109 (by decide) (fun cq => ?_) (fun cq => ?_)
      · have hw := hw.1 cq
        refine W.widen (k := 151 + 42 * j + 42) (n := 33822 + 6542 * j + 6542) (by omega) (by omega) ?_
        exact hkk bs _ _ _ _ _ H locs ls hb9 hw hM hS (lv_sub hl [0, 1, 2, 3] rfl)
      · have hw := hw.2 cq
        refine lv_iconst (v := 0) hx hb dL_law_1112 (by decide) ?_
        exact False.elim hw
    · have hw := hw.2 cq
      refine lv_iconst (v := 1) hx hb dL_law_1101 (by decide) ?_
      refine lv_goto (tgt := 1106) hx hb dL_law_1102 (by decide) ?_
      obtain ⟨ob9, hw⟩ := hw
      refine m_ci (m_runV E hM hS cs_L_105 ob9.1 (by decide) rfl rfl (c_X12_meet ob9 hw) rfl rfl ⟨Nat.le_of_ble_eq_true rfl, Nat.le_of_ble_eq_true rfl⟩ rfl hl.1 rfl (Nat.le_of_ble_eq_true rfl) dL_law_1106 ⟨by omega, by omega⟩) hS (fun r103 u H locs hp hM hS => ?_)
      obtain ⟨I104, rfl, hw⟩ := hp
      refine lv_icmp_eq (tgt := 1216) hx hb dL_law_1109 (by decide) (fun cq => ?_) (fun cq => ?_)
      · have hw := hw.1 cq
        refine W.widen (k := 151 + 42 * j + 42) (n := 33822 + 6542 * j + 6542) (by omega) (by omega) ?_
        exact hkk bs _ _ _ _ _ H locs ls hb9 hw hM hS (lv_sub hl [0, 1, 2, 3] rfl)
      · have hw := hw.2 cq
        refine lv_iconst (v := 0) hx hb dL_law_1112 (by decide) ?_
        exact False.elim hw
def w_L_21 (xs : Nat → Int32) (Ls : Nat) (kk : Nat → mK → mR → mI → mL → Prop) (n : Nat) (K : mK) (R : mR) (I : mI) (L : mL) (v3 : Int32) : Prop := vp_in (v3 + 1) Ls ∧ vp_in (v3 + 2) Ls ∧ isX11 K R ∧ isX12 K R 128 ∧ w_X11_look I (xs ((v3 + 1).toNatClampNeg)) (xs ((v3 + 2).toNatClampNeg)) (fun r105 I107 => ∀ K106, KX K R K106 → vp_in (v3 + 1) Ls ∧ vp_in (v3 + 2) Ls ∧ isX12 K106 R 128 ∧ w_X12_look I107 128 (xs ((v3 + 1).toNatClampNeg)) (xs ((v3 + 2).toNatClampNeg)) (fun r108 I109 => (r105 = r108 → kk n K106 R I109 L) ∧ (¬ r105 = r108 → False)))
set_option maxRecDepth 100000 in
set_option maxHeartbeats 4000000 in
theorem s_L_21 {p : Program} {l : Launch} {e : Env} {s : State} {m : MethodId} {below : List Frame} {meth : Method} {c : Code} {D : va_G} {cA : Nat → ClassId} {Z : mZ} {bs : Ad} {b Ls : Nat} {xs : Nat → Int32} (E : Ev p s m #[Value.ref b] c code 4 RL D cA Z bs) (hX : va_X b Ls xs s s.heap) (hbl : b < s.heap.size) (hbA : ¬ Ab bs b) {j : Nat} (hj : j < 513) {kk : Nat → mK → mR → mI → mL → Prop} {v3 : Int32} (hkk : ∀ (bs1 : Ad) (n : Nat) (K : mK) (R : mR) (I : mI) (L : mL) (H : Heap) (locs : List Loc) (ls : Array Slot), bs1.1 = bs.1 → kk n K R I L → mm D cA bs1 (n, K, R, I, L) H → va_S (Ab bs1) s.heap H locs → lv_has ls 4 [(0, .ref b), (1, .ref (ad bs1 0)), (2, .ref (ad bs1 128)), (3, .int v3)] → W p l e room_1 s m #[Value.ref b] below meth c H locs (151 + 42 * j + 42) (33822 + 6542 * j + 6542) (lw_Z below #[Value.ref b] s) (F0 m 1216 ls [])) {n : Nat} {K : mK} {R : mR} {I : mI} {L : mL} {H : Heap} {locs : List Loc} {ls : Array Slot} (hw : w_L_21 xs Ls kk n K R I L v3) (hM : mm D cA bs (n, K, R, I, L) H) (hS : va_S (Ab bs) s.heap H locs) (hl : lv_has ls 4 [(0, .ref b), (1, .ref (ad bs 0)), (2, .ref (ad bs 128)), (3, .int v3)]) : W p l e room_1 s m #[Value.ref b] below meth c H locs (151 + 42 * j) (33822 + 6542 * j) (lw_Z below #[Value.ref b] s) (F0 m 1114 ls []) := by
  have hx := E.1.1
  have hb := E.1.2.1
  have hb9 : bs.1 = bs.1 := rfl
  have hRc : room_1.cells = 600000 := rfl
  have hRs : 7000000 ≤ room_1.slots := Nat.le_of_ble_eq_true rfl
  refine lv_aload_n hx hb dL_law_1114 rfl (lv_at hl 1 rfl) ?_
  refine lv_aload_n hx hb dL_law_1115 rfl (lv_at hl 0 rfl) ?_
  refine lv_iload_n hx hb dL_law_1116 rfl (lv_at hl 3 rfl) ?_
  refine lv_iconst (v := 1) hx hb dL_law_1117 (by decide) ?_
  refine lv_iadd hx hb dL_law_1118 ?_
  obtain ⟨hv, hw⟩ := hw
  refine va_sld hx hb hX hbl hbA hS hv dL_law_1119 ?_
  refine lv_aload_n hx hb dL_law_1120 rfl (lv_at hl 0 rfl) ?_
  refine lv_iload_n hx hb dL_law_1121 rfl (lv_at hl 3 rfl) ?_
  refine lv_iconst (v := 2) hx hb dL_law_1122 (by decide) ?_
  refine lv_iadd hx hb dL_law_1123 ?_
  obtain ⟨hv, hw⟩ := hw
  refine va_sld hx hb hX hbl hbA hS hv dL_law_1124 ?_
  obtain ⟨ob9, ob8, hw⟩ := hw
  refine m_cix (m_runV E hM hS cs_L_106 ob9.1 (by decide) rfl rfl (c_X11_look ob9 hw) rfl rfl ⟨Nat.le_of_ble_eq_true rfl, Nat.le_of_ble_eq_true rfl⟩ rfl hl.1 rfl (Nat.le_of_ble_eq_true rfl) dL_law_1125 ⟨by omega, by omega⟩) hS (fun r105 bs u H locs hx1 hp hM hS => ?_)
  obtain ⟨K106, I107, rfl, hw⟩ := hp
  have hx1 : EX _ _ R bs K106 := hx1
  have hw := hw K106 ⟨hx1.2.2.1.1, hx1.2.2.2 ob9⟩
  have e0 := hx1.2.1 0 (by unfold lve; rw [ob9.1]; decide)
  have e128 := hx1.2.1 128 (by unfold lve; rw [ob8.1]; decide)
  have E := EX_E hx1 E
  have hbA : ¬ Ab bs b := by rw [Ab_e hx1.1]; exact hbA
  have hb9 := hx1.1.trans hb9
  have hl : lv_has ls 4 [(0, .ref b), (1, .ref (ad bs 0)), (2, .ref (ad bs 128)), (3, .int v3)] := by rw [e0, e128]; exact hl
  clear e0 e128 hx1
  refine lv_aload_n hx hb dL_law_1128 rfl (lv_at hl 2 rfl) ?_
  refine lv_aload_n hx hb dL_law_1129 rfl (lv_at hl 0 rfl) ?_
  refine lv_iload_n hx hb dL_law_1130 rfl (lv_at hl 3 rfl) ?_
  refine lv_iconst (v := 1) hx hb dL_law_1131 (by decide) ?_
  refine lv_iadd hx hb dL_law_1132 ?_
  obtain ⟨hv, hw⟩ := hw
  refine va_sld hx hb hX hbl hbA hS hv dL_law_1133 ?_
  refine lv_aload_n hx hb dL_law_1134 rfl (lv_at hl 0 rfl) ?_
  refine lv_iload_n hx hb dL_law_1135 rfl (lv_at hl 3 rfl) ?_
  refine lv_iconst (v := 2) hx hb dL_law_1136 (by decide) ?_
  refine lv_iadd hx hb dL_law_1137 ?_
  obtain ⟨hv, hw⟩ := hw
  refine va_sld hx hb hX hbl hbA hS hv dL_law_1138 ?_
  obtain ⟨ob9, hw⟩ := hw
  refine m_ci (m_runV E hM hS cs_L_109 ob9.1 (by decide) rfl rfl (c_X12_look ob9 hw) rfl rfl ⟨Nat.le_of_ble_eq_true rfl, Nat.le_of_ble_eq_true rfl⟩ rfl hl.1 rfl (Nat.le_of_ble_eq_true rfl) dL_law_1139 ⟨by omega, by omega⟩) hS (fun r108 u H locs hp hM hS => ?_)
  obtain ⟨I109, rfl, hw⟩ := hp
  refine lv_icmp_eq (tgt := 1216) hx hb dL_law_1142 (by decide) (fun cq => ?_) (fun cq => ?_)
  · have hw := hw.1 cq
    refine W.widen (k := 151 + 42 * j + 42) (n := 33822 + 6542 * j + 6542) (by omega) (by omega) ?_
    exact hkk bs _ _ _ _ _ H locs ls hb9 hw hM hS (lv_sub hl [0, 1, 2, 3] rfl)
  · have hw := hw.2 cq
    refine lv_iconst (v := 0) hx hb dL_law_1145 (by decide) ?_
    exact False.elim hw
def w_L_22 (xs : Nat → Int32) (Ls : Nat) (kk : Nat → mK → mR → mI → mL → Prop) (n : Nat) (K : mK) (R : mR) (I : mI) (L : mL) (v3 : Int32) : Prop := vp_in (v3 + 1) Ls ∧ isX11 K R ∧ w_X11_count I (xs ((v3 + 1).toNatClampNeg)) (fun r110 => vp_in (v3 + 1) Ls ∧ isX12 K R 128 ∧ w_X12_count I 128 (xs ((v3 + 1).toNatClampNeg)) (fun r111 => (r110 = r111 → kk n K R I L) ∧ (¬ r110 = r111 → False)))
set_option maxRecDepth 100000 in
set_option maxHeartbeats 4000000 in
theorem s_L_22 {p : Program} {l : Launch} {e : Env} {s : State} {m : MethodId} {below : List Frame} {meth : Method} {c : Code} {D : va_G} {cA : Nat → ClassId} {Z : mZ} {bs : Ad} {b Ls : Nat} {xs : Nat → Int32} (E : Ev p s m #[Value.ref b] c code 4 RL D cA Z bs) (hX : va_X b Ls xs s s.heap) (hbl : b < s.heap.size) (hbA : ¬ Ab bs b) {j : Nat} (hj : j < 513) {kk : Nat → mK → mR → mI → mL → Prop} {v3 : Int32} (hkk : ∀ (bs1 : Ad) (n : Nat) (K : mK) (R : mR) (I : mI) (L : mL) (H : Heap) (locs : List Loc) (ls : Array Slot), bs1.1 = bs.1 → kk n K R I L → mm D cA bs1 (n, K, R, I, L) H → va_S (Ab bs1) s.heap H locs → lv_has ls 4 [(0, .ref b), (1, .ref (ad bs1 0)), (2, .ref (ad bs1 128)), (3, .int v3)] → W p l e room_1 s m #[Value.ref b] below meth c H locs (151 + 42 * j + 42) (33822 + 6542 * j + 6542) (lw_Z below #[Value.ref b] s) (F0 m 1216 ls [])) {n : Nat} {K : mK} {R : mR} {I : mI} {L : mL} {H : Heap} {locs : List Loc} {ls : Array Slot} (hw : w_L_22 xs Ls kk n K R I L v3) (hM : mm D cA bs (n, K, R, I, L) H) (hS : va_S (Ab bs) s.heap H locs) (hl : lv_has ls 4 [(0, .ref b), (1, .ref (ad bs 0)), (2, .ref (ad bs 128)), (3, .int v3)]) : W p l e room_1 s m #[Value.ref b] below meth c H locs (151 + 42 * j) (33822 + 6542 * j) (lw_Z below #[Value.ref b] s) (F0 m 1147 ls []) := by
  have hx := E.1.1
  have hb := E.1.2.1
  have hb9 : bs.1 = bs.1 := rfl
  have hRc : room_1.cells = 600000 := rfl
  have hRs : 7000000 ≤ room_1.slots := Nat.le_of_ble_eq_true rfl
  refine lv_aload_n hx hb dL_law_1147 rfl (lv_at hl 1 rfl) ?_
  refine lv_aload_n hx hb dL_law_1148 rfl (lv_at hl 0 rfl) ?_
  refine lv_iload_n hx hb dL_law_1149 rfl (lv_at hl 3 rfl) ?_
  refine lv_iconst (v := 1) hx hb dL_law_1150 (by decide) ?_
  refine lv_iadd hx hb dL_law_1151 ?_
  obtain ⟨hv, hw⟩ := hw
  refine va_sld hx hb hX hbl hbA hS hv dL_law_1152 ?_
  obtain ⟨ob9, hw⟩ := hw
  refine m_ci (m_runV E hM hS cs_L_110 ob9.1 (by decide) rfl rfl (c_X11_count ob9 hw) rfl rfl ⟨Nat.le_of_ble_eq_true rfl, Nat.le_of_ble_eq_true rfl⟩ rfl hl.1 rfl (Nat.le_of_ble_eq_true rfl) dL_law_1153 ⟨by omega, by omega⟩) hS (fun r110 u H locs hp hM hS => ?_)
  obtain ⟨rfl, hw⟩ := hp
  refine lv_aload_n hx hb dL_law_1156 rfl (lv_at hl 2 rfl) ?_
  refine lv_aload_n hx hb dL_law_1157 rfl (lv_at hl 0 rfl) ?_
  refine lv_iload_n hx hb dL_law_1158 rfl (lv_at hl 3 rfl) ?_
  refine lv_iconst (v := 1) hx hb dL_law_1159 (by decide) ?_
  refine lv_iadd hx hb dL_law_1160 ?_
  obtain ⟨hv, hw⟩ := hw
  refine va_sld hx hb hX hbl hbA hS hv dL_law_1161 ?_
  obtain ⟨ob9, hw⟩ := hw
  refine m_ci (m_runV E hM hS cs_L_113 ob9.1 (by decide) rfl rfl (c_X12_count ob9 hw) rfl rfl ⟨Nat.le_of_ble_eq_true rfl, Nat.le_of_ble_eq_true rfl⟩ rfl hl.1 rfl (Nat.le_of_ble_eq_true rfl) dL_law_1162 ⟨by omega, by omega⟩) hS (fun r111 u H locs hp hM hS => ?_)
  obtain ⟨rfl, hw⟩ := hp
  refine lv_icmp_eq (tgt := 1216) hx hb dL_law_1165 (by decide) (fun cq => ?_) (fun cq => ?_)
  · have hw := hw.1 cq
    refine W.widen (k := 151 + 42 * j + 42) (n := 33822 + 6542 * j + 6542) (by omega) (by omega) ?_
    exact hkk bs _ _ _ _ _ H locs ls hb9 hw hM hS (lv_sub hl [0, 1, 2, 3] rfl)
  · have hw := hw.2 cq
    refine lv_iconst (v := 0) hx hb dL_law_1168 (by decide) ?_
    exact False.elim hw
def w_L_23 (xs : Nat → Int32) (Ls : Nat) (kk : Nat → mK → mR → mI → mL → Prop) (n : Nat) (K : mK) (R : mR) (I : mI) (L : mL) (v3 : Int32) : Prop := vp_in (v3 + 1) Ls ∧ isX11 K R ∧ w_X11_image n K R I L (xs ((v3 + 1).toNatClampNeg)) (fun b117 n112 K113 R114 I115 L116 => vp_in (v3 + 1) Ls ∧ isX12 K113 R114 128 ∧ w_X12_image I115 128 (xs ((v3 + 1).toNatClampNeg)) (fun b118 I119 => ((bI b117) = (bI b118) → kk n112 K113 R114 I119 L116) ∧ (¬ (bI b117) = (bI b118) → False)))
set_option maxRecDepth 100000 in
set_option maxHeartbeats 4000000 in
theorem s_L_23 {p : Program} {l : Launch} {e : Env} {s : State} {m : MethodId} {below : List Frame} {meth : Method} {c : Code} {D : va_G} {cA : Nat → ClassId} {Z : mZ} {bs : Ad} {b Ls : Nat} {xs : Nat → Int32} (E : Ev p s m #[Value.ref b] c code 4 RL D cA Z bs) (hX : va_X b Ls xs s s.heap) (hbl : b < s.heap.size) (hbA : ¬ Ab bs b) {j : Nat} (hj : j < 513) {kk : Nat → mK → mR → mI → mL → Prop} {v3 : Int32} (hkk : ∀ (bs1 : Ad) (n : Nat) (K : mK) (R : mR) (I : mI) (L : mL) (H : Heap) (locs : List Loc) (ls : Array Slot), bs1.1 = bs.1 → kk n K R I L → mm D cA bs1 (n, K, R, I, L) H → va_S (Ab bs1) s.heap H locs → lv_has ls 4 [(0, .ref b), (1, .ref (ad bs1 0)), (2, .ref (ad bs1 128)), (3, .int v3)] → W p l e room_1 s m #[Value.ref b] below meth c H locs (151 + 42 * j + 42) (33822 + 6542 * j + 6542) (lw_Z below #[Value.ref b] s) (F0 m 1216 ls [])) {n : Nat} {K : mK} {R : mR} {I : mI} {L : mL} {H : Heap} {locs : List Loc} {ls : Array Slot} (hw : w_L_23 xs Ls kk n K R I L v3) (hM : mm D cA bs (n, K, R, I, L) H) (hS : va_S (Ab bs) s.heap H locs) (hl : lv_has ls 4 [(0, .ref b), (1, .ref (ad bs 0)), (2, .ref (ad bs 128)), (3, .int v3)]) : W p l e room_1 s m #[Value.ref b] below meth c H locs (151 + 42 * j) (33822 + 6542 * j) (lw_Z below #[Value.ref b] s) (F0 m 1170 ls []) := by
  have hx := E.1.1
  have hb := E.1.2.1
  have hb9 : bs.1 = bs.1 := rfl
  have hRc : room_1.cells = 600000 := rfl
  have hRs : 7000000 ≤ room_1.slots := Nat.le_of_ble_eq_true rfl
  refine lv_aload_n hx hb dL_law_1170 rfl (lv_at hl 1 rfl) ?_
  refine lv_aload_n hx hb dL_law_1171 rfl (lv_at hl 0 rfl) ?_
  refine lv_iload_n hx hb dL_law_1172 rfl (lv_at hl 3 rfl) ?_
  refine lv_iconst (v := 1) hx hb dL_law_1173 (by decide) ?_
  refine lv_iadd hx hb dL_law_1174 ?_
  obtain ⟨hv, hw⟩ := hw
  refine va_sld hx hb hX hbl hbA hS hv dL_law_1175 ?_
  obtain ⟨ob9, hw⟩ := hw
  refine m_ci (m_runV E hM hS cs_L_114 ob9.1 (by decide) rfl rfl (c_X11_image hw) rfl rfl ⟨Nat.le_of_ble_eq_true rfl, Nat.le_of_ble_eq_true rfl⟩ rfl hl.1 rfl (Nat.le_of_ble_eq_true rfl) dL_law_1176 ⟨by omega, by omega⟩) hS (fun r9 u H locs hp hM hS => ?_)
  obtain ⟨b117, rfl, n112, K113, R114, I115, L116, rfl, hw⟩ := hp
  refine lv_aload_n hx hb dL_law_1179 rfl (lv_at hl 2 rfl) ?_
  refine lv_aload_n hx hb dL_law_1180 rfl (lv_at hl 0 rfl) ?_
  refine lv_iload_n hx hb dL_law_1181 rfl (lv_at hl 3 rfl) ?_
  refine lv_iconst (v := 1) hx hb dL_law_1182 (by decide) ?_
  refine lv_iadd hx hb dL_law_1183 ?_
  obtain ⟨hv, hw⟩ := hw
  refine va_sld hx hb hX hbl hbA hS hv dL_law_1184 ?_
  obtain ⟨ob9, hw⟩ := hw
  refine m_ci (m_runV E hM hS cs_L_118 ob9.1 (by decide) rfl rfl (c_X12_image ob9 hw) rfl rfl ⟨Nat.le_of_ble_eq_true rfl, Nat.le_of_ble_eq_true rfl⟩ rfl hl.1 rfl (Nat.le_of_ble_eq_true rfl) dL_law_1185 ⟨by omega, by omega⟩) hS (fun r9 u H locs hp hM hS => ?_)
  obtain ⟨b118, rfl, I119, rfl, hw⟩ := hp
  refine lv_icmp_eq (tgt := 1216) hx hb dL_law_1188 (by decide) (fun cq => ?_) (fun cq => ?_)
  · have hw := hw.1 cq
    refine W.widen (k := 151 + 42 * j + 42) (n := 33822 + 6542 * j + 6542) (by omega) (by omega) ?_
    exact hkk bs _ _ _ _ _ H locs ls hb9 hw hM hS (lv_sub hl [0, 1, 2, 3] rfl)
  · have hw := hw.2 cq
    refine lv_iconst (v := 0) hx hb dL_law_1191 (by decide) ?_
    exact False.elim hw
def w_L_24 (xs : Nat → Int32) (Ls : Nat) (kk : Nat → mK → mR → mI → mL → Prop) (n : Nat) (K : mK) (R : mR) (I : mI) (L : mL) (v3 : Int32) : Prop := vp_in (v3 + 1) Ls ∧ isX11 K R ∧ w_X11_again K R I (xs ((v3 + 1).toNatClampNeg)) (fun b120 I121 => vp_in (v3 + 1) Ls ∧ isX12 K R 128 ∧ w_X12_again I121 128 (xs ((v3 + 1).toNatClampNeg)) (fun b122 I123 => ((bI b120) = (bI b122) → kk n K R I123 L) ∧ (¬ (bI b120) = (bI b122) → False)))
set_option maxRecDepth 100000 in
set_option maxHeartbeats 4000000 in
theorem s_L_24 {p : Program} {l : Launch} {e : Env} {s : State} {m : MethodId} {below : List Frame} {meth : Method} {c : Code} {D : va_G} {cA : Nat → ClassId} {Z : mZ} {bs : Ad} {b Ls : Nat} {xs : Nat → Int32} (E : Ev p s m #[Value.ref b] c code 4 RL D cA Z bs) (hX : va_X b Ls xs s s.heap) (hbl : b < s.heap.size) (hbA : ¬ Ab bs b) {j : Nat} (hj : j < 513) {kk : Nat → mK → mR → mI → mL → Prop} {v3 : Int32} (hkk : ∀ (bs1 : Ad) (n : Nat) (K : mK) (R : mR) (I : mI) (L : mL) (H : Heap) (locs : List Loc) (ls : Array Slot), bs1.1 = bs.1 → kk n K R I L → mm D cA bs1 (n, K, R, I, L) H → va_S (Ab bs1) s.heap H locs → lv_has ls 4 [(0, .ref b), (1, .ref (ad bs1 0)), (2, .ref (ad bs1 128)), (3, .int v3)] → W p l e room_1 s m #[Value.ref b] below meth c H locs (151 + 42 * j + 42) (33822 + 6542 * j + 6542) (lw_Z below #[Value.ref b] s) (F0 m 1216 ls [])) {n : Nat} {K : mK} {R : mR} {I : mI} {L : mL} {H : Heap} {locs : List Loc} {ls : Array Slot} (hw : w_L_24 xs Ls kk n K R I L v3) (hM : mm D cA bs (n, K, R, I, L) H) (hS : va_S (Ab bs) s.heap H locs) (hl : lv_has ls 4 [(0, .ref b), (1, .ref (ad bs 0)), (2, .ref (ad bs 128)), (3, .int v3)]) : W p l e room_1 s m #[Value.ref b] below meth c H locs (151 + 42 * j) (33822 + 6542 * j) (lw_Z below #[Value.ref b] s) (F0 m 1193 ls []) := by
  have hx := E.1.1
  have hb := E.1.2.1
  have hb9 : bs.1 = bs.1 := rfl
  have hRc : room_1.cells = 600000 := rfl
  have hRs : 7000000 ≤ room_1.slots := Nat.le_of_ble_eq_true rfl
  refine lv_aload_n hx hb dL_law_1193 rfl (lv_at hl 1 rfl) ?_
  refine lv_aload_n hx hb dL_law_1194 rfl (lv_at hl 0 rfl) ?_
  refine lv_iload_n hx hb dL_law_1195 rfl (lv_at hl 3 rfl) ?_
  refine lv_iconst (v := 1) hx hb dL_law_1196 (by decide) ?_
  refine lv_iadd hx hb dL_law_1197 ?_
  obtain ⟨hv, hw⟩ := hw
  refine va_sld hx hb hX hbl hbA hS hv dL_law_1198 ?_
  obtain ⟨ob9, hw⟩ := hw
  refine m_ci (m_runV E hM hS cs_L_119 ob9.1 (by decide) rfl rfl (c_X11_again ob9 hw) rfl rfl ⟨Nat.le_of_ble_eq_true rfl, Nat.le_of_ble_eq_true rfl⟩ rfl hl.1 rfl (Nat.le_of_ble_eq_true rfl) dL_law_1199 ⟨by omega, by omega⟩) hS (fun r9 u H locs hp hM hS => ?_)
  obtain ⟨b120, rfl, I121, rfl, hw⟩ := hp
  refine lv_aload_n hx hb dL_law_1202 rfl (lv_at hl 2 rfl) ?_
  refine lv_aload_n hx hb dL_law_1203 rfl (lv_at hl 0 rfl) ?_
  refine lv_iload_n hx hb dL_law_1204 rfl (lv_at hl 3 rfl) ?_
  refine lv_iconst (v := 1) hx hb dL_law_1205 (by decide) ?_
  refine lv_iadd hx hb dL_law_1206 ?_
  obtain ⟨hv, hw⟩ := hw
  refine va_sld hx hb hX hbl hbA hS hv dL_law_1207 ?_
  obtain ⟨ob9, hw⟩ := hw
  refine m_ci (m_runV E hM hS cs_L_122 ob9.1 (by decide) rfl rfl (c_X12_again ob9 hw) rfl rfl ⟨Nat.le_of_ble_eq_true rfl, Nat.le_of_ble_eq_true rfl⟩ rfl hl.1 rfl (Nat.le_of_ble_eq_true rfl) dL_law_1208 ⟨by omega, by omega⟩) hS (fun r9 u H locs hp hM hS => ?_)
  obtain ⟨b122, rfl, I123, rfl, hw⟩ := hp
  refine lv_icmp_eq (tgt := 1216) hx hb dL_law_1211 (by decide) (fun cq => ?_) (fun cq => ?_)
  · have hw := hw.1 cq
    refine W.widen (k := 151 + 42 * j + 42) (n := 33822 + 6542 * j + 6542) (by omega) (by omega) ?_
    exact hkk bs _ _ _ _ _ H locs ls hb9 hw hM hS (lv_sub hl [0, 1, 2, 3] rfl)
  · have hw := hw.2 cq
    refine lv_iconst (v := 0) hx hb dL_law_1214 (by decide) ?_
    exact False.elim hw
def w_L_loop (xs : Nat → Int32) (Ls : Nat) (n : Nat) (K : mK) (R : mR) (I : mI) (L : mL) (v3 : Int32) : Prop := ∀ ZZ : (Nat → mK → mR → mI → mL → Int32 → Nat → Prop), (∀ (n : Nat) (K : mK) (R : mR) (I : mI) (L : mL) (v3 : Int32) (j : Nat), (((Int32.ofNat Ls - 8) < v3 → True) ∧ (¬ (Int32.ofNat Ls - 8) < v3 → j < 513 ∧ vp_in v3 Ls ∧ ∀ x, x = (xs v3.toNatClampNeg) &&& 31 → (x = 0 → w_L_0 xs Ls (fun n K R I L => ∀ y, y = v3 + 8 → ZZ n K R I L y (j + 1)) n K R I L v3) ∧ (x = 1 → w_L_1 xs Ls (fun n K R I L => ∀ y, y = v3 + 8 → ZZ n K R I L y (j + 1)) n K R I L v3) ∧ (x = 2 → w_L_2 xs Ls (fun n K R I L => ∀ y, y = v3 + 8 → ZZ n K R I L y (j + 1)) n K R I L v3) ∧ (x = 3 → w_L_3 xs Ls (fun n K R I L => ∀ y, y = v3 + 8 → ZZ n K R I L y (j + 1)) n K R I L v3) ∧ (x = 4 → w_L_4 xs Ls (fun n K R I L => ∀ y, y = v3 + 8 → ZZ n K R I L y (j + 1)) n K R I L v3) ∧ (x = 5 → w_L_5 xs Ls (fun n K R I L => ∀ y, y = v3 + 8 → ZZ n K R I L y (j + 1)) n K R I L v3) ∧ (x = 6 → w_L_6 xs Ls (fun n K R I L => ∀ y, y = v3 + 8 → ZZ n K R I L y (j + 1)) n K R I L v3) ∧ (x = 7 → w_L_7 xs Ls (fun n K R I L => ∀ y, y = v3 + 8 → ZZ n K R I L y (j + 1)) n K R I L v3) ∧ (x = 8 → w_L_8 xs Ls (fun n K R I L => ∀ y, y = v3 + 8 → ZZ n K R I L y (j + 1)) n K R I L v3) ∧ (x = 9 → w_L_9 xs Ls (fun n K R I L => ∀ y, y = v3 + 8 → ZZ n K R I L y (j + 1)) n K R I L v3) ∧ (x = 10 → w_L_10 xs Ls (fun n K R I L => ∀ y, y = v3 + 8 → ZZ n K R I L y (j + 1)) n K R I L v3) ∧ (x = 11 → w_L_11 xs Ls (fun n K R I L => ∀ y, y = v3 + 8 → ZZ n K R I L y (j + 1)) n K R I L v3) ∧ (x = 12 → w_L_12 xs Ls (fun n K R I L => ∀ y, y = v3 + 8 → ZZ n K R I L y (j + 1)) n K R I L v3) ∧ (x = 13 → w_L_13 xs Ls (fun n K R I L => ∀ y, y = v3 + 8 → ZZ n K R I L y (j + 1)) n K R I L v3) ∧ (x = 14 → w_L_14 xs Ls (fun n K R I L => ∀ y, y = v3 + 8 → ZZ n K R I L y (j + 1)) n K R I L v3) ∧ (x = 15 → w_L_15 xs Ls (fun n K R I L => ∀ y, y = v3 + 8 → ZZ n K R I L y (j + 1)) n K R I L v3) ∧ (x = 16 → w_L_16 xs Ls (fun n K R I L => ∀ y, y = v3 + 8 → ZZ n K R I L y (j + 1)) n K R I L v3) ∧ (x = 17 → w_L_17 xs Ls (fun n K R I L => ∀ y, y = v3 + 8 → ZZ n K R I L y (j + 1)) n K R I L v3) ∧ (x = 18 → w_L_18 xs Ls (fun n K R I L => ∀ y, y = v3 + 8 → ZZ n K R I L y (j + 1)) n K R I L v3) ∧ (x = 19 → w_L_19 xs Ls (fun n K R I L => ∀ y, y = v3 + 8 → ZZ n K R I L y (j + 1)) n K R I L v3) ∧ (x = 20 → w_L_20 xs Ls (fun n K R I L => ∀ y, y = v3 + 8 → ZZ n K R I L y (j + 1)) n K R I L v3) ∧ (x = 21 → w_L_21 xs Ls (fun n K R I L => ∀ y, y = v3 + 8 → ZZ n K R I L y (j + 1)) n K R I L v3) ∧ (x = 22 → w_L_22 xs Ls (fun n K R I L => ∀ y, y = v3 + 8 → ZZ n K R I L y (j + 1)) n K R I L v3) ∧ (x = 23 → w_L_23 xs Ls (fun n K R I L => ∀ y, y = v3 + 8 → ZZ n K R I L y (j + 1)) n K R I L v3) ∧ (x = 24 → w_L_24 xs Ls (fun n K R I L => ∀ y, y = v3 + 8 → ZZ n K R I L y (j + 1)) n K R I L v3) ∧ (¬ x = 0 → ¬ x = 1 → ¬ x = 2 → ¬ x = 3 → ¬ x = 4 → ¬ x = 5 → ¬ x = 6 → ¬ x = 7 → ¬ x = 8 → ¬ x = 9 → ¬ x = 10 → ¬ x = 11 → ¬ x = 12 → ¬ x = 13 → ¬ x = 14 → ¬ x = 15 → ¬ x = 16 → ¬ x = 17 → ¬ x = 18 → ¬ x = 19 → ¬ x = 20 → ¬ x = 21 → ¬ x = 22 → ¬ x = 23 → ¬ x = 24 → ∀ y, y = v3 + 8 → ZZ n K R I L y (j + 1)))) → ZZ n K R I L v3 j) → ZZ n K R I L v3 0
set_option maxRecDepth 100000 in
set_option maxHeartbeats 4000000 in
theorem s_L_loop {p : Program} {l : Launch} {e : Env} {s : State} {m : MethodId} {below : List Frame} {meth : Method} {c : Code} {D : va_G} {cA : Nat → ClassId} {Z : mZ} {bs : Ad} {b Ls : Nat} {xs : Nat → Int32} (E : Ev p s m #[Value.ref b] c code 4 RL D cA Z bs) (hX : va_X b Ls xs s s.heap) (hbl : b < s.heap.size) (hbA : ¬ Ab bs b) (hr : meth.sig.returnType = ret) (hlk : meth.locks = false) (hbs : bs.1 = s.heap.size) {n : Nat} {K : mK} {R : mR} {I : mI} {L : mL} {v3 : Int32} {H : Heap} {locs : List Loc} {ls : Array Slot} (hw : w_L_loop xs Ls n K R I L v3) (hM : mm D cA bs (n, K, R, I, L) H) (hS : va_S (Ab bs) s.heap H locs) (hl : lv_has ls 4 [(0, .ref b), (1, .ref (ad bs 0)), (2, .ref (ad bs 128)), (3, .int v3)]) : W p l e room_1 s m #[Value.ref b] below meth c H locs 151 33822 (lw_Z below #[Value.ref b] s) (F0 m 18 ls []) := by
  have hx := E.1.1
  have hb := E.1.2.1
  refine hw (fun n K R I L v3 j => j < 514 → ∀ (bs1 : Ad) (H : Heap) (locs : List Loc) (ls : Array Slot), bs1.1 = s.heap.size → mm D cA bs1 (n, K, R, I, L) H → va_S (Ab bs1) s.heap H locs → lv_has ls 4 [(0, .ref b), (1, .ref (ad bs1 0)), (2, .ref (ad bs1 128)), (3, .int v3)] → W p l e room_1 s m #[Value.ref b] below meth c H locs (151 + 42 * j) (33822 + 6542 * j) (lw_Z below #[Value.ref b] s) (F0 m 18 ls [])) ?_ (by decide) bs H locs ls hbs hM hS hl
  clear hw hM hS hl
  intro n K R I L v3 j hw hj bs1 H locs ls hbs1 hM hS hl
  have hb1 : bs1.1 = bs.1 := hbs1.trans hbs.symm
  have E := Ev_e hb1 E
  have hbA : ¬ Ab bs1 b := by rw [Ab_e hb1]; exact hbA
  refine lv_iload_n hx hb dL_law_18 rfl (lv_at hl 3 rfl) ?_
  refine lv_aload_n hx hb dL_law_19 rfl (lv_at hl 0 rfl) ?_
  refine va_slen hx hb hX hbl hbA hS dL_law_20 ?_
  refine lv_bipush (v := 8) hx hb dL_law_21 (by decide) ?_
  refine lv_isub hx hb dL_law_23 ?_
  refine lv_icmp_gt (tgt := 1222) hx hb dL_law_24 (by decide) (fun cq => ?_) (fun cq => ?_)
  · refine lv_iconst (v := 1) hx hb dL_law_1222 (by decide) ?_
    refine va_forget (fun q hq => by have := hS.2.2 q hq; rw [← hbs1]; exact this) ?_
    have hRs : 7000000 ≤ room_1.slots := Nat.le_of_ble_eq_true rfl
    refine W.widen (k := 600000) (n := room_1.slots) (by omega) (by omega) ?_
    exact lw_ret hx hb hr hlk dL_law_1223
  · obtain ⟨hj3, hv, hw⟩ := hw.2 cq
    refine lv_aload_n hx hb dL_law_27 rfl (lv_at hl 0 rfl) ?_
    refine lv_iload_n hx hb dL_law_28 rfl (lv_at hl 3 rfl) ?_
    refine va_sld hx hb hX hbl hbA hS hv dL_law_29 ?_
    refine lv_bipush (v := 31) hx hb dL_law_30 (by decide) ?_
    refine lv_iand hx hb dL_law_32 ?_
    refine lv_topi (fun x ex => ?_)
    have hw := hw x ex
    have hkk : ∀ (bs2 : Ad) (n : Nat) (K : mK) (R : mR) (I : mI) (L : mL) (H : Heap) (locs : List Loc) (ls : Array Slot), bs2.1 = bs1.1 → (∀ y, y = v3 + 8 → (fun n K R I L v3 j => j < 514 → ∀ (bs1 : Ad) (H : Heap) (locs : List Loc) (ls : Array Slot), bs1.1 = s.heap.size → mm D cA bs1 (n, K, R, I, L) H → va_S (Ab bs1) s.heap H locs → lv_has ls 4 [(0, .ref b), (1, .ref (ad bs1 0)), (2, .ref (ad bs1 128)), (3, .int v3)] → W p l e room_1 s m #[Value.ref b] below meth c H locs (151 + 42 * j) (33822 + 6542 * j) (lw_Z below #[Value.ref b] s) (F0 m 18 ls [])) n K R I L y (j + 1)) → mm D cA bs2 (n, K, R, I, L) H → va_S (Ab bs2) s.heap H locs → lv_has ls 4 [(0, .ref b), (1, .ref (ad bs2 0)), (2, .ref (ad bs2 128)), (3, .int v3)] → W p l e room_1 s m #[Value.ref b] below meth c H locs (151 + 42 * j + 42) (33822 + 6542 * j + 6542) (lw_Z below #[Value.ref b] s) (F0 m 1216 ls []) := by
      intro bs2 n K R I L H locs ls hb2 hw hM hS hl
      obtain ⟨y, ey⟩ : ∃ y : Int32, y = v3 + 8 := ⟨_, rfl⟩
      have hw := hw y ey (by omega) bs2 H locs
      refine lv_iinc (v := y) (lv' := [(3, .int y), (0, .ref b), (1, .ref (ad bs2 0)), (2, .ref (ad bs2 128))]) hx hb dL_law_1216 hl (k := 3) rfl (by rw [ey]; rfl) (by decide) rfl (fun ls hl => ?_)
      refine lv_goto (tgt := 18) hx hb dL_law_1219 (by decide) ?_
      exact hw ls (hb2.trans hbs1) hM hS (lv_sub hl [1, 2, 3, 0] rfl)
    by_cases cq0 : x = 0
    · have hw := hw.1 cq0
      refine lv_tableIn (tgt := 148) hx hb dL_law_33 (by rw [cq0]; decide) (by rw [cq0]; decide) (by rw [cq0]; rfl) (by decide) ?_
      exact s_L_0 E hX hbl hbA hj3 hkk hw hM hS hl
    by_cases cq1 : x = 1
    · have hw := hw.2.1 cq1
      refine lv_tableIn (tgt := 211) hx hb dL_law_33 (by rw [cq1]; decide) (by rw [cq1]; decide) (by rw [cq1]; rfl) (by decide) ?_
      exact s_L_1 E hX hbl hbA hj3 hkk hw hM hS hl
    by_cases cq2 : x = 2
    · have hw := hw.2.2.1 cq2
      refine lv_tableIn (tgt := 234) hx hb dL_law_33 (by rw [cq2]; decide) (by rw [cq2]; decide) (by rw [cq2]; rfl) (by decide) ?_
      exact s_L_2 E hX hbl hbA hj3 hkk hw hM hS hl
    by_cases cq3 : x = 3
    · have hw := hw.2.2.2.1 cq3
      refine lv_tableIn (tgt := 267) hx hb dL_law_33 (by rw [cq3]; decide) (by rw [cq3]; decide) (by rw [cq3]; rfl) (by decide) ?_
      exact s_L_3 E hX hbl hbA hj3 hkk hw hM hS hl
    by_cases cq4 : x = 4
    · have hw := hw.2.2.2.2.1 cq4
      refine lv_tableIn (tgt := 290) hx hb dL_law_33 (by rw [cq4]; decide) (by rw [cq4]; decide) (by rw [cq4]; rfl) (by decide) ?_
      exact s_L_4 E hX hbl hbA hj3 hkk hw hM hS hl
    by_cases cq5 : x = 5
    · have hw := hw.2.2.2.2.2.1 cq5
      refine lv_tableIn (tgt := 323) hx hb dL_law_33 (by rw [cq5]; decide) (by rw [cq5]; decide) (by rw [cq5]; rfl) (by decide) ?_
      exact s_L_5 E hX hbl hbA hj3 hkk hw hM hS hl
    by_cases cq6 : x = 6
    · have hw := hw.2.2.2.2.2.2.1 cq6
      refine lv_tableIn (tgt := 366) hx hb dL_law_33 (by rw [cq6]; decide) (by rw [cq6]; decide) (by rw [cq6]; rfl) (by decide) ?_
      exact s_L_6 E hX hbl hbA hj3 hkk hw hM hS hl
    by_cases cq7 : x = 7
    · have hw := hw.2.2.2.2.2.2.2.1 cq7
      refine lv_tableIn (tgt := 409) hx hb dL_law_33 (by rw [cq7]; decide) (by rw [cq7]; decide) (by rw [cq7]; rfl) (by decide) ?_
      exact s_L_7 E hX hbl hbA hj3 hkk hw hM hS hl
    by_cases cq8 : x = 8
    · have hw := hw.2.2.2.2.2.2.2.2.1 cq8
      refine lv_tableIn (tgt := 452) hx hb dL_law_33 (by rw [cq8]; decide) (by rw [cq8]; decide) (by rw [cq8]; rfl) (by decide) ?_
      exact s_L_8 E hX hbl hbA hj3 hkk hw hM hS hl
    by_cases cq9 : x = 9
    · have hw := hw.2.2.2.2.2.2.2.2.2.1 cq9
      refine lv_tableIn (tgt := 505) hx hb dL_law_33 (by rw [cq9]; decide) (by rw [cq9]; decide) (by rw [cq9]; rfl) (by decide) ?_
      exact s_L_9 E hX hbl hbA hj3 hkk hw hM hS hl
    by_cases cq10 : x = 10
    · have hw := hw.2.2.2.2.2.2.2.2.2.2.1 cq10
      refine lv_tableIn (tgt := 538) hx hb dL_law_33 (by rw [cq10]; decide) (by rw [cq10]; decide) (by rw [cq10]; rfl) (by decide) ?_
      exact s_L_10 E hX hbl hbA hj3 hkk hw hM hS hl
    by_cases cq11 : x = 11
    · have hw := hw.2.2.2.2.2.2.2.2.2.2.2.1 cq11
      refine lv_tableIn (tgt := 625) hx hb dL_law_33 (by rw [cq11]; decide) (by rw [cq11]; decide) (by rw [cq11]; rfl) (by decide) ?_
      exact s_L_11 E hX hbl hbA hj3 hkk hw hM hS hl
    by_cases cq12 : x = 12
    · have hw := hw.2.2.2.2.2.2.2.2.2.2.2.2.1 cq12
      refine lv_tableIn (tgt := 700) hx hb dL_law_33 (by rw [cq12]; decide) (by rw [cq12]; decide) (by rw [cq12]; rfl) (by decide) ?_
      exact s_L_12 E hX hbl hbA hj3 hkk hw hM hS hl
    by_cases cq13 : x = 13
    · have hw := hw.2.2.2.2.2.2.2.2.2.2.2.2.2.1 cq13
      refine lv_tableIn (tgt := 733) hx hb dL_law_33 (by rw [cq13]; decide) (by rw [cq13]; decide) (by rw [cq13]; rfl) (by decide) ?_
      exact s_L_13 E hX hbl hbA hj3 hkk hw hM hS hl
    by_cases cq14 : x = 14
    · have hw := hw.2.2.2.2.2.2.2.2.2.2.2.2.2.2.1 cq14
      refine lv_tableIn (tgt := 776) hx hb dL_law_33 (by rw [cq14]; decide) (by rw [cq14]; decide) (by rw [cq14]; rfl) (by decide) ?_
      exact s_L_14 E hX hbl hbA hj3 hkk hw hM hS hl
    by_cases cq15 : x = 15
    · have hw := hw.2.2.2.2.2.2.2.2.2.2.2.2.2.2.2.1 cq15
      refine lv_tableIn (tgt := 819) hx hb dL_law_33 (by rw [cq15]; decide) (by rw [cq15]; decide) (by rw [cq15]; rfl) (by decide) ?_
      exact s_L_15 E hX hbl hbA hj3 hkk hw hM hS hl
    by_cases cq16 : x = 16
    · have hw := hw.2.2.2.2.2.2.2.2.2.2.2.2.2.2.2.2.1 cq16
      refine lv_tableIn (tgt := 862) hx hb dL_law_33 (by rw [cq16]; decide) (by rw [cq16]; decide) (by rw [cq16]; rfl) (by decide) ?_
      exact s_L_16 E hX hbl hbA hj3 hkk hw hM hS hl
    by_cases cq17 : x = 17
    · have hw := hw.2.2.2.2.2.2.2.2.2.2.2.2.2.2.2.2.2.1 cq17
      refine lv_tableIn (tgt := 906) hx hb dL_law_33 (by rw [cq17]; decide) (by rw [cq17]; decide) (by rw [cq17]; rfl) (by decide) ?_
      exact s_L_17 E hX hbl hbA hj3 hkk hw hM hS hl
    by_cases cq18 : x = 18
    · have hw := hw.2.2.2.2.2.2.2.2.2.2.2.2.2.2.2.2.2.2.1 cq18
      refine lv_tableIn (tgt := 959) hx hb dL_law_33 (by rw [cq18]; decide) (by rw [cq18]; decide) (by rw [cq18]; rfl) (by decide) ?_
      exact s_L_18 E hX hbl hbA hj3 hkk hw hM hS hl
    by_cases cq19 : x = 19
    · have hw := hw.2.2.2.2.2.2.2.2.2.2.2.2.2.2.2.2.2.2.2.1 cq19
      refine lv_tableIn (tgt := 1012) hx hb dL_law_33 (by rw [cq19]; decide) (by rw [cq19]; decide) (by rw [cq19]; rfl) (by decide) ?_
      exact s_L_19 E hX hbl hbA hj3 hkk hw hM hS hl
    by_cases cq20 : x = 20
    · have hw := hw.2.2.2.2.2.2.2.2.2.2.2.2.2.2.2.2.2.2.2.2.1 cq20
      refine lv_tableIn (tgt := 1045) hx hb dL_law_33 (by rw [cq20]; decide) (by rw [cq20]; decide) (by rw [cq20]; rfl) (by decide) ?_
      exact s_L_20 E hX hbl hbA hj3 hkk hw hM hS hl
    by_cases cq21 : x = 21
    · have hw := hw.2.2.2.2.2.2.2.2.2.2.2.2.2.2.2.2.2.2.2.2.2.1 cq21
      refine lv_tableIn (tgt := 1114) hx hb dL_law_33 (by rw [cq21]; decide) (by rw [cq21]; decide) (by rw [cq21]; rfl) (by decide) ?_
      exact s_L_21 E hX hbl hbA hj3 hkk hw hM hS hl
    by_cases cq22 : x = 22
    · have hw := hw.2.2.2.2.2.2.2.2.2.2.2.2.2.2.2.2.2.2.2.2.2.2.1 cq22
      refine lv_tableIn (tgt := 1147) hx hb dL_law_33 (by rw [cq22]; decide) (by rw [cq22]; decide) (by rw [cq22]; rfl) (by decide) ?_
      exact s_L_22 E hX hbl hbA hj3 hkk hw hM hS hl
    by_cases cq23 : x = 23
    · have hw := hw.2.2.2.2.2.2.2.2.2.2.2.2.2.2.2.2.2.2.2.2.2.2.2.1 cq23
      refine lv_tableIn (tgt := 1170) hx hb dL_law_33 (by rw [cq23]; decide) (by rw [cq23]; decide) (by rw [cq23]; rfl) (by decide) ?_
      exact s_L_23 E hX hbl hbA hj3 hkk hw hM hS hl
    by_cases cq24 : x = 24
    · have hw := hw.2.2.2.2.2.2.2.2.2.2.2.2.2.2.2.2.2.2.2.2.2.2.2.2.1 cq24
      refine lv_tableIn (tgt := 1193) hx hb dL_law_33 (by rw [cq24]; decide) (by rw [cq24]; decide) (by rw [cq24]; rfl) (by decide) ?_
      exact s_L_24 E hX hbl hbA hj3 hkk hw hM hS hl
    have hw := hw.2.2.2.2.2.2.2.2.2.2.2.2.2.2.2.2.2.2.2.2.2.2.2.2.2 cq0 cq1 cq2 cq3 cq4 cq5 cq6 cq7 cq8 cq9 cq10 cq11 cq12 cq13 cq14 cq15 cq16 cq17 cq18 cq19 cq20 cq21 cq22 cq23 cq24
    refine lv_tableOut (tgt := 1216) hx hb dL_law_33 (by have hn0 := lv_neT cq0 (a := 0) (by decide); have hn1 := lv_neT cq1 (a := 1) (by decide); have hn2 := lv_neT cq2 (a := 2) (by decide); have hn3 := lv_neT cq3 (a := 3) (by decide); have hn4 := lv_neT cq4 (a := 4) (by decide); have hn5 := lv_neT cq5 (a := 5) (by decide); have hn6 := lv_neT cq6 (a := 6) (by decide); have hn7 := lv_neT cq7 (a := 7) (by decide); have hn8 := lv_neT cq8 (a := 8) (by decide); have hn9 := lv_neT cq9 (a := 9) (by decide); have hn10 := lv_neT cq10 (a := 10) (by decide); have hn11 := lv_neT cq11 (a := 11) (by decide); have hn12 := lv_neT cq12 (a := 12) (by decide); have hn13 := lv_neT cq13 (a := 13) (by decide); have hn14 := lv_neT cq14 (a := 14) (by decide); have hn15 := lv_neT cq15 (a := 15) (by decide); have hn16 := lv_neT cq16 (a := 16) (by decide); have hn17 := lv_neT cq17 (a := 17) (by decide); have hn18 := lv_neT cq18 (a := 18) (by decide); have hn19 := lv_neT cq19 (a := 19) (by decide); have hn20 := lv_neT cq20 (a := 20) (by decide); have hn21 := lv_neT cq21 (a := 21) (by decide); have hn22 := lv_neT cq22 (a := 22) (by decide); have hn23 := lv_neT cq23 (a := 23) (by decide); have hn24 := lv_neT cq24 (a := 24) (by decide); omega) (by decide) ?_
    refine W.widen (k := 151 + 42 * j + 42) (n := 33822 + 6542 * j + 6542) (by omega) (by omega) ?_
    exact hkk bs1 _ _ _ _ _ H locs ls rfl hw hM hS hl
