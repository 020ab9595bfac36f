/-! THE CLAIM OUT OF ONE WALK OF THE LAW'S BODY. Your part is whole_start (and what it stands on); all else here is the same for every law, but numbers. -/
def R_law : String := "ColourLessenLaw"
def lw_P (b : Addr) (xs : List Int32) (args : Array Value) (s : State) : Prop := args = #[.ref b] ∧ s.IntsAt b xs ∧ xs.length ≤ 3586 ∧ (Jvm.Cond.and given_1 narrow_1).before args s = true
def lw_Q (_ : Array Value) (s : State) (o : Outcome) (t : State) : Prop := o = .returned (some (.int 1)) ∧ Framed s o t [] 601024 7293000
def lw_Z (below : List Frame) (a : Array Value) (s : State) : State → Prop := fun t => ∃ o, t.status = .running ∧ Ended t below o ∧ lw_Q a s o t
/-- the law's own end, with 1 on the stack, nothing written that was there before, its room as the claim has it -/
theorem lw_ret {p : Program} {l : Launch} {e : Env} {s : State} {m : MethodId} {below : List Frame} {meth : Method} {c : Code} {b : Nat} (hx : p.tables.exec = Jvm.exec) (hb : c.code = code) (hr : meth.sig.returnType = ret) (hlocks : meth.locks = false) {pc : Nat} {H : Heap} {ls : Array Slot} (hdg : decode code pc = .ok (.ireturn, 1)) : W p l e room_1 s m #[Value.ref b] below meth c H [] 601024 7293000 (lw_Z below #[Value.ref b] s) (F0 m pc ls [.int 1]) := by
  intro T hT X
  obtain ⟨fs, hret, hrun, hended, hW, hframe⟩ := X.leave (v := some (.int 1)) (hlocks := hlocks) (fun h => by rw [hr] at h; cases h)
  have hmeth' : T.vm.method? m = some meth := X.method'
  refine ⟨T.setFrames fs, ?_, .returned (some (.int 1)), hrun, hended, rfl, ⟨_, rfl⟩, hW, hframe⟩
  jvm_step X.here [X.here.top, hx, hb, hdg, hmeth', hr, ret, narrow_b1]
  (try refine ⟨rfl, ?_⟩); (try refine ⟨rfl, ?_⟩)
  first | (intro acts; rw [hret _ acts rfl rfl rfl]) | rw [hret _ _ rfl rfl rfl]
  exact Steps.refl _
/-- what holds at the law's entry: the machine, the code, the tables' words (any of lw_tbl by 'hts w (by decide +kernel)'), the script of L ints xs at the cell b, what the Statement gives of the start (any of its parts by flat_of_before) -/
def lw_At (p : Program) (s : State) (m : MethodId) (meth : Method) (c : Code) (b L : Nat) (xs : Nat → Int32) : Prop :=
  p.tables.exec = Jvm.exec ∧ c.code = code ∧ meth.sig.returnType = ret ∧ c.maxLocals = 8 ∧ s.vm.findClass R_law = some m.cls ∧ (∀ w ∈ lw_tbl, w.before #[Value.ref b] s = true) ∧ va_X b L xs s s.heap ∧ b < s.heap.size ∧ meth.locks = false ∧ (Jvm.Cond.and given_1 narrow_1).before #[Value.ref b] s = true

theorem dLw_law_0 : decode code 0 = .ok (.new 8, 3) := by decide +kernel
theorem dLw_law_3 : decode code 3 = .ok (.dup, 1) := by decide +kernel
theorem dLw_law_4 : decode code 4 = .ok (.aload_n 0, 1) := by decide +kernel
theorem dLw_law_5 : decode code 5 = .ok (.iconst 0, 1) := by decide +kernel
theorem dLw_law_6 : decode code 6 = .ok (.invokestatic 59, 3) := by decide +kernel
theorem dLw_law_9 : decode code 9 = .ok (.aload_n 0, 1) := by decide +kernel
theorem dLw_law_10 : decode code 10 = .ok (.iconst 1, 1) := by decide +kernel
theorem dLw_law_11 : decode code 11 = .ok (.invokestatic 59, 3) := by decide +kernel
theorem dLw_law_14 : decode code 14 = .ok (.invokespecial 65, 3) := by decide +kernel
theorem dLw_law_17 : decode code 17 = .ok (.astore_n 1, 1) := by decide +kernel
theorem dLw_law_18 : decode code 18 = .ok (.new 68, 3) := by decide +kernel
theorem dLw_law_21 : decode code 21 = .ok (.dup, 1) := by decide +kernel
theorem dLw_law_22 : decode code 22 = .ok (.aload_n 0, 1) := by decide +kernel
theorem dLw_law_23 : decode code 23 = .ok (.iconst 0, 1) := by decide +kernel
theorem dLw_law_24 : decode code 24 = .ok (.invokestatic 59, 3) := by decide +kernel
theorem dLw_law_27 : decode code 27 = .ok (.aload_n 0, 1) := by decide +kernel
theorem dLw_law_28 : decode code 28 = .ok (.iconst 1, 1) := by decide +kernel
theorem dLw_law_29 : decode code 29 = .ok (.invokestatic 59, 3) := by decide +kernel
theorem dLw_law_32 : decode code 32 = .ok (.invokespecial 70, 3) := by decide +kernel
theorem dLw_law_35 : decode code 35 = .ok (.astore_n 2, 1) := by decide +kernel
theorem dLw_law_36 : decode code 36 = .ok (.iconst 1, 1) := by decide +kernel
theorem dLw_law_37 : decode code 37 = .ok (.newarray .long, 2) := by decide +kernel
theorem dLw_law_39 : decode code 39 = .ok (.astore_n 3, 1) := by decide +kernel
theorem dLw_law_40 : decode code 40 = .ok (.iconst 2, 1) := by decide +kernel
theorem dLw_law_41 : decode code 41 = .ok (.istore 4, 2) := by decide +kernel
theorem dLw_law_43 : decode code 43 = .ok (.iload 4, 2) := by decide +kernel
theorem dLw_law_45 : decode code 45 = .ok (.aload_n 0, 1) := by decide +kernel
theorem dLw_law_46 : decode code 46 = .ok (.arraylength, 1) := by decide +kernel
theorem dLw_law_47 : decode code 47 = .ok (.bipush 7, 2) := by decide +kernel
theorem dLw_law_49 : decode code 49 = .ok (.isub, 1) := by decide +kernel
theorem dLw_law_50 : decode code 50 = .ok (.if_icmp .gt 1051, 3) := by decide +kernel
theorem dLw_law_53 : decode code 53 = .ok (.aload_n 0, 1) := by decide +kernel
theorem dLw_law_54 : decode code 54 = .ok (.iload 4, 2) := by decide +kernel
theorem dLw_law_56 : decode code 56 = .ok (.iaload, 1) := by decide +kernel
theorem dLw_law_57 : decode code 57 = .ok (.bipush 15, 2) := by decide +kernel
theorem dLw_law_59 : decode code 59 = .ok (.iand, 1) := by decide +kernel
theorem dLw_law_60 : decode code 60 = .ok (.tableswitch 1035 0 13 #[72, 197, 301, 369, 449, 553, 621, 689, 781, 836, 892, 948, 999, 1024], 72) := by decide +kernel
theorem dLw_law_132 : decode code 132 = .ok (.aload_n 1, 1) := by decide +kernel
theorem dLw_law_133 : decode code 133 = .ok (.aload_n 0, 1) := by decide +kernel
theorem dLw_law_134 : decode code 134 = .ok (.iload 4, 2) := by decide +kernel
theorem dLw_law_136 : decode code 136 = .ok (.iconst 1, 1) := by decide +kernel
theorem dLw_law_137 : decode code 137 = .ok (.iadd, 1) := by decide +kernel
theorem dLw_law_138 : decode code 138 = .ok (.iaload, 1) := by decide +kernel
theorem dLw_law_139 : decode code 139 = .ok (.aload_n 0, 1) := by decide +kernel
theorem dLw_law_140 : decode code 140 = .ok (.iload 4, 2) := by decide +kernel
theorem dLw_law_142 : decode code 142 = .ok (.iconst 2, 1) := by decide +kernel
theorem dLw_law_143 : decode code 143 = .ok (.iadd, 1) := by decide +kernel
theorem dLw_law_144 : decode code 144 = .ok (.iaload, 1) := by decide +kernel
theorem dLw_law_145 : decode code 145 = .ok (.aload_n 0, 1) := by decide +kernel
theorem dLw_law_146 : decode code 146 = .ok (.iload 4, 2) := by decide +kernel
theorem dLw_law_148 : decode code 148 = .ok (.iconst 3, 1) := by decide +kernel
theorem dLw_law_149 : decode code 149 = .ok (.iadd, 1) := by decide +kernel
theorem dLw_law_150 : decode code 150 = .ok (.iaload, 1) := by decide +kernel
theorem dLw_law_151 : decode code 151 = .ok (.aload_n 0, 1) := by decide +kernel
theorem dLw_law_152 : decode code 152 = .ok (.iload 4, 2) := by decide +kernel
theorem dLw_law_154 : decode code 154 = .ok (.iconst 4, 1) := by decide +kernel
theorem dLw_law_155 : decode code 155 = .ok (.iadd, 1) := by decide +kernel
theorem dLw_law_156 : decode code 156 = .ok (.iaload, 1) := by decide +kernel
theorem dLw_law_157 : decode code 157 = .ok (.aload_n 0, 1) := by decide +kernel
theorem dLw_law_158 : decode code 158 = .ok (.iload 4, 2) := by decide +kernel
theorem dLw_law_160 : decode code 160 = .ok (.iconst 5, 1) := by decide +kernel
theorem dLw_law_161 : decode code 161 = .ok (.iadd, 1) := by decide +kernel
theorem dLw_law_162 : decode code 162 = .ok (.iaload, 1) := by decide +kernel
theorem dLw_law_163 : decode code 163 = .ok (.aload_n 0, 1) := by decide +kernel
theorem dLw_law_164 : decode code 164 = .ok (.iload 4, 2) := by decide +kernel
theorem dLw_law_166 : decode code 166 = .ok (.bipush 6, 2) := by decide +kernel
theorem dLw_law_168 : decode code 168 = .ok (.iadd, 1) := by decide +kernel
theorem dLw_law_169 : decode code 169 = .ok (.iaload, 1) := by decide +kernel
theorem dLw_law_170 : decode code 170 = .ok (.aload_n 3, 1) := by decide +kernel
theorem dLw_law_171 : decode code 171 = .ok (.invokestatic 71, 3) := by decide +kernel
theorem dLw_law_174 : decode code 174 = .ok (.istore 5, 2) := by decide +kernel
theorem dLw_law_176 : decode code 176 = .ok (.aload_n 2, 1) := by decide +kernel
theorem dLw_law_177 : decode code 177 = .ok (.aload_n 0, 1) := by decide +kernel
theorem dLw_law_178 : decode code 178 = .ok (.iload 4, 2) := by decide +kernel
theorem dLw_law_180 : decode code 180 = .ok (.iconst 1, 1) := by decide +kernel
theorem dLw_law_181 : decode code 181 = .ok (.iadd, 1) := by decide +kernel
theorem dLw_law_182 : decode code 182 = .ok (.iaload, 1) := by decide +kernel
theorem dLw_law_183 : decode code 183 = .ok (.aload_n 0, 1) := by decide +kernel
theorem dLw_law_184 : decode code 184 = .ok (.iload 4, 2) := by decide +kernel
theorem dLw_law_186 : decode code 186 = .ok (.iconst 2, 1) := by decide +kernel
theorem dLw_law_187 : decode code 187 = .ok (.iadd, 1) := by decide +kernel
theorem dLw_law_188 : decode code 188 = .ok (.iaload, 1) := by decide +kernel
theorem dLw_law_189 : decode code 189 = .ok (.aload_n 0, 1) := by decide +kernel
theorem dLw_law_190 : decode code 190 = .ok (.iload 4, 2) := by decide +kernel
theorem dLw_law_192 : decode code 192 = .ok (.iconst 3, 1) := by decide +kernel
theorem dLw_law_193 : decode code 193 = .ok (.iadd, 1) := by decide +kernel
theorem dLw_law_194 : decode code 194 = .ok (.iaload, 1) := by decide +kernel
theorem dLw_law_195 : decode code 195 = .ok (.aload_n 0, 1) := by decide +kernel
theorem dLw_law_196 : decode code 196 = .ok (.iload 4, 2) := by decide +kernel
theorem dLw_law_198 : decode code 198 = .ok (.iconst 4, 1) := by decide +kernel
theorem dLw_law_199 : decode code 199 = .ok (.iadd, 1) := by decide +kernel
theorem dLw_law_200 : decode code 200 = .ok (.iaload, 1) := by decide +kernel
theorem dLw_law_201 : decode code 201 = .ok (.aload_n 0, 1) := by decide +kernel
theorem dLw_law_202 : decode code 202 = .ok (.iload 4, 2) := by decide +kernel
theorem dLw_law_204 : decode code 204 = .ok (.iconst 5, 1) := by decide +kernel
theorem dLw_law_205 : decode code 205 = .ok (.iadd, 1) := by decide +kernel
theorem dLw_law_206 : decode code 206 = .ok (.iaload, 1) := by decide +kernel
theorem dLw_law_207 : decode code 207 = .ok (.aload_n 0, 1) := by decide +kernel
theorem dLw_law_208 : decode code 208 = .ok (.iload 4, 2) := by decide +kernel
theorem dLw_law_210 : decode code 210 = .ok (.bipush 6, 2) := by decide +kernel
theorem dLw_law_212 : decode code 212 = .ok (.iadd, 1) := by decide +kernel
theorem dLw_law_213 : decode code 213 = .ok (.iaload, 1) := by decide +kernel
theorem dLw_law_214 : decode code 214 = .ok (.invokevirtual 74, 3) := by decide +kernel
theorem dLw_law_217 : decode code 217 = .ok (.istore 6, 2) := by decide +kernel
theorem dLw_law_219 : decode code 219 = .ok (.aload_n 2, 1) := by decide +kernel
theorem dLw_law_220 : decode code 220 = .ok (.invokevirtual 75, 3) := by decide +kernel
theorem dLw_law_223 : decode code 223 = .ok (.iload 5, 2) := by decide +kernel
theorem dLw_law_225 : decode code 225 = .ok (.if_icmp .eq 5, 3) := by decide +kernel
theorem dLw_law_228 : decode code 228 = .ok (.iconst 0, 1) := by decide +kernel
theorem dLw_law_229 : decode code 229 = .ok (.ireturn, 1) := by decide +kernel
theorem dLw_law_230 : decode code 230 = .ok (.iload 5, 2) := by decide +kernel
theorem dLw_law_232 : decode code 232 = .ok (.ifCond .ne 22, 3) := by decide +kernel
theorem dLw_law_235 : decode code 235 = .ok (.aload_n 3, 1) := by decide +kernel
theorem dLw_law_236 : decode code 236 = .ok (.iconst 0, 1) := by decide +kernel
theorem dLw_law_237 : decode code 237 = .ok (.laload, 1) := by decide +kernel
theorem dLw_law_238 : decode code 238 = .ok (.iload 6, 2) := by decide +kernel
theorem dLw_law_240 : decode code 240 = .ok (.ifCond .eq 7, 3) := by decide +kernel
theorem dLw_law_243 : decode code 243 = .ok (.lconst 1, 1) := by decide +kernel
theorem dLw_law_244 : decode code 244 = .ok (.goto 4, 3) := by decide +kernel
theorem dLw_law_247 : decode code 247 = .ok (.lconst 0, 1) := by decide +kernel
theorem dLw_law_248 : decode code 248 = .ok (.lcmp, 1) := by decide +kernel
theorem dLw_law_249 : decode code 249 = .ok (.ifCond .eq 5, 3) := by decide +kernel
theorem dLw_law_252 : decode code 252 = .ok (.iconst 0, 1) := by decide +kernel
theorem dLw_law_253 : decode code 253 = .ok (.ireturn, 1) := by decide +kernel
theorem dLw_law_254 : decode code 254 = .ok (.goto 841, 3) := by decide +kernel
theorem dLw_law_257 : decode code 257 = .ok (.aload_n 1, 1) := by decide +kernel
theorem dLw_law_258 : decode code 258 = .ok (.aload_n 0, 1) := by decide +kernel
theorem dLw_law_259 : decode code 259 = .ok (.iload 4, 2) := by decide +kernel
theorem dLw_law_261 : decode code 261 = .ok (.iconst 1, 1) := by decide +kernel
theorem dLw_law_262 : decode code 262 = .ok (.iadd, 1) := by decide +kernel
theorem dLw_law_263 : decode code 263 = .ok (.iaload, 1) := by decide +kernel
theorem dLw_law_264 : decode code 264 = .ok (.aload_n 0, 1) := by decide +kernel
theorem dLw_law_265 : decode code 265 = .ok (.iload 4, 2) := by decide +kernel
theorem dLw_law_267 : decode code 267 = .ok (.iconst 2, 1) := by decide +kernel
theorem dLw_law_268 : decode code 268 = .ok (.iadd, 1) := by decide +kernel
theorem dLw_law_269 : decode code 269 = .ok (.iaload, 1) := by decide +kernel
theorem dLw_law_270 : decode code 270 = .ok (.aload_n 0, 1) := by decide +kernel
theorem dLw_law_271 : decode code 271 = .ok (.iload 4, 2) := by decide +kernel
theorem dLw_law_273 : decode code 273 = .ok (.iconst 3, 1) := by decide +kernel
theorem dLw_law_274 : decode code 274 = .ok (.iadd, 1) := by decide +kernel
theorem dLw_law_275 : decode code 275 = .ok (.iaload, 1) := by decide +kernel
theorem dLw_law_276 : decode code 276 = .ok (.aload_n 0, 1) := by decide +kernel
theorem dLw_law_277 : decode code 277 = .ok (.iload 4, 2) := by decide +kernel
theorem dLw_law_279 : decode code 279 = .ok (.iconst 4, 1) := by decide +kernel
theorem dLw_law_280 : decode code 280 = .ok (.iadd, 1) := by decide +kernel
theorem dLw_law_281 : decode code 281 = .ok (.iaload, 1) := by decide +kernel
theorem dLw_law_282 : decode code 282 = .ok (.aload_n 0, 1) := by decide +kernel
theorem dLw_law_283 : decode code 283 = .ok (.iload 4, 2) := by decide +kernel
theorem dLw_law_285 : decode code 285 = .ok (.iconst 5, 1) := by decide +kernel
theorem dLw_law_286 : decode code 286 = .ok (.iadd, 1) := by decide +kernel
theorem dLw_law_287 : decode code 287 = .ok (.iaload, 1) := by decide +kernel
theorem dLw_law_288 : decode code 288 = .ok (.aload_n 3, 1) := by decide +kernel
theorem dLw_law_289 : decode code 289 = .ok (.invokestatic 79, 3) := by decide +kernel
theorem dLw_law_292 : decode code 292 = .ok (.istore 5, 2) := by decide +kernel
theorem dLw_law_294 : decode code 294 = .ok (.aload_n 2, 1) := by decide +kernel
theorem dLw_law_295 : decode code 295 = .ok (.aload_n 0, 1) := by decide +kernel
theorem dLw_law_296 : decode code 296 = .ok (.iload 4, 2) := by decide +kernel
theorem dLw_law_298 : decode code 298 = .ok (.iconst 1, 1) := by decide +kernel
theorem dLw_law_299 : decode code 299 = .ok (.iadd, 1) := by decide +kernel
theorem dLw_law_300 : decode code 300 = .ok (.iaload, 1) := by decide +kernel
theorem dLw_law_301 : decode code 301 = .ok (.aload_n 0, 1) := by decide +kernel
theorem dLw_law_302 : decode code 302 = .ok (.iload 4, 2) := by decide +kernel
theorem dLw_law_304 : decode code 304 = .ok (.iconst 2, 1) := by decide +kernel
theorem dLw_law_305 : decode code 305 = .ok (.iadd, 1) := by decide +kernel
theorem dLw_law_306 : decode code 306 = .ok (.iaload, 1) := by decide +kernel
theorem dLw_law_307 : decode code 307 = .ok (.aload_n 0, 1) := by decide +kernel
theorem dLw_law_308 : decode code 308 = .ok (.iload 4, 2) := by decide +kernel
theorem dLw_law_310 : decode code 310 = .ok (.iconst 3, 1) := by decide +kernel
theorem dLw_law_311 : decode code 311 = .ok (.iadd, 1) := by decide +kernel
theorem dLw_law_312 : decode code 312 = .ok (.iaload, 1) := by decide +kernel
theorem dLw_law_313 : decode code 313 = .ok (.aload_n 0, 1) := by decide +kernel
theorem dLw_law_314 : decode code 314 = .ok (.iload 4, 2) := by decide +kernel
theorem dLw_law_316 : decode code 316 = .ok (.iconst 4, 1) := by decide +kernel
theorem dLw_law_317 : decode code 317 = .ok (.iadd, 1) := by decide +kernel
theorem dLw_law_318 : decode code 318 = .ok (.iaload, 1) := by decide +kernel
theorem dLw_law_319 : decode code 319 = .ok (.aload_n 0, 1) := by decide +kernel
theorem dLw_law_320 : decode code 320 = .ok (.iload 4, 2) := by decide +kernel
theorem dLw_law_322 : decode code 322 = .ok (.iconst 5, 1) := by decide +kernel
theorem dLw_law_323 : decode code 323 = .ok (.iadd, 1) := by decide +kernel
theorem dLw_law_324 : decode code 324 = .ok (.iaload, 1) := by decide +kernel
theorem dLw_law_325 : decode code 325 = .ok (.invokevirtual 82, 3) := by decide +kernel
theorem dLw_law_328 : decode code 328 = .ok (.istore 6, 2) := by decide +kernel
theorem dLw_law_330 : decode code 330 = .ok (.aload_n 2, 1) := by decide +kernel
theorem dLw_law_331 : decode code 331 = .ok (.invokevirtual 75, 3) := by decide +kernel
theorem dLw_law_334 : decode code 334 = .ok (.iload 5, 2) := by decide +kernel
theorem dLw_law_336 : decode code 336 = .ok (.if_icmp .eq 5, 3) := by decide +kernel
theorem dLw_law_339 : decode code 339 = .ok (.iconst 0, 1) := by decide +kernel
theorem dLw_law_340 : decode code 340 = .ok (.ireturn, 1) := by decide +kernel
theorem dLw_law_341 : decode code 341 = .ok (.iload 5, 2) := by decide +kernel
theorem dLw_law_343 : decode code 343 = .ok (.ifCond .ne 15, 3) := by decide +kernel
theorem dLw_law_346 : decode code 346 = .ok (.aload_n 3, 1) := by decide +kernel
theorem dLw_law_347 : decode code 347 = .ok (.iconst 0, 1) := by decide +kernel
theorem dLw_law_348 : decode code 348 = .ok (.laload, 1) := by decide +kernel
theorem dLw_law_349 : decode code 349 = .ok (.iload 6, 2) := by decide +kernel
theorem dLw_law_351 : decode code 351 = .ok (.i2l, 1) := by decide +kernel
theorem dLw_law_352 : decode code 352 = .ok (.lcmp, 1) := by decide +kernel
theorem dLw_law_353 : decode code 353 = .ok (.ifCond .eq 5, 3) := by decide +kernel
theorem dLw_law_356 : decode code 356 = .ok (.iconst 0, 1) := by decide +kernel
theorem dLw_law_357 : decode code 357 = .ok (.ireturn, 1) := by decide +kernel
theorem dLw_law_358 : decode code 358 = .ok (.goto 737, 3) := by decide +kernel
theorem dLw_law_361 : decode code 361 = .ok (.aload_n 1, 1) := by decide +kernel
theorem dLw_law_362 : decode code 362 = .ok (.aload_n 0, 1) := by decide +kernel
theorem dLw_law_363 : decode code 363 = .ok (.iload 4, 2) := by decide +kernel
theorem dLw_law_365 : decode code 365 = .ok (.iconst 1, 1) := by decide +kernel
theorem dLw_law_366 : decode code 366 = .ok (.iadd, 1) := by decide +kernel
theorem dLw_law_367 : decode code 367 = .ok (.iaload, 1) := by decide +kernel
theorem dLw_law_368 : decode code 368 = .ok (.aload_n 0, 1) := by decide +kernel
theorem dLw_law_369 : decode code 369 = .ok (.iload 4, 2) := by decide +kernel
theorem dLw_law_371 : decode code 371 = .ok (.iconst 2, 1) := by decide +kernel
theorem dLw_law_372 : decode code 372 = .ok (.iadd, 1) := by decide +kernel
theorem dLw_law_373 : decode code 373 = .ok (.iaload, 1) := by decide +kernel
theorem dLw_law_374 : decode code 374 = .ok (.aload_n 3, 1) := by decide +kernel
theorem dLw_law_375 : decode code 375 = .ok (.invokestatic 83, 3) := by decide +kernel
theorem dLw_law_378 : decode code 378 = .ok (.istore 5, 2) := by decide +kernel
theorem dLw_law_380 : decode code 380 = .ok (.aload_n 2, 1) := by decide +kernel
theorem dLw_law_381 : decode code 381 = .ok (.aload_n 0, 1) := by decide +kernel
theorem dLw_law_382 : decode code 382 = .ok (.iload 4, 2) := by decide +kernel
theorem dLw_law_384 : decode code 384 = .ok (.iconst 1, 1) := by decide +kernel
theorem dLw_law_385 : decode code 385 = .ok (.iadd, 1) := by decide +kernel
theorem dLw_law_386 : decode code 386 = .ok (.iaload, 1) := by decide +kernel
theorem dLw_law_387 : decode code 387 = .ok (.aload_n 0, 1) := by decide +kernel
theorem dLw_law_388 : decode code 388 = .ok (.iload 4, 2) := by decide +kernel
theorem dLw_law_390 : decode code 390 = .ok (.iconst 2, 1) := by decide +kernel
theorem dLw_law_391 : decode code 391 = .ok (.iadd, 1) := by decide +kernel
theorem dLw_law_392 : decode code 392 = .ok (.iaload, 1) := by decide +kernel
theorem dLw_law_393 : decode code 393 = .ok (.invokevirtual 86, 3) := by decide +kernel
theorem dLw_law_396 : decode code 396 = .ok (.istore 6, 2) := by decide +kernel
theorem dLw_law_398 : decode code 398 = .ok (.aload_n 2, 1) := by decide +kernel
theorem dLw_law_399 : decode code 399 = .ok (.invokevirtual 75, 3) := by decide +kernel
theorem dLw_law_402 : decode code 402 = .ok (.iload 5, 2) := by decide +kernel
theorem dLw_law_404 : decode code 404 = .ok (.if_icmp .eq 5, 3) := by decide +kernel
theorem dLw_law_407 : decode code 407 = .ok (.iconst 0, 1) := by decide +kernel
theorem dLw_law_408 : decode code 408 = .ok (.ireturn, 1) := by decide +kernel
theorem dLw_law_409 : decode code 409 = .ok (.iload 5, 2) := by decide +kernel
theorem dLw_law_411 : decode code 411 = .ok (.ifCond .ne 15, 3) := by decide +kernel
theorem dLw_law_414 : decode code 414 = .ok (.aload_n 3, 1) := by decide +kernel
theorem dLw_law_415 : decode code 415 = .ok (.iconst 0, 1) := by decide +kernel
theorem dLw_law_416 : decode code 416 = .ok (.laload, 1) := by decide +kernel
theorem dLw_law_417 : decode code 417 = .ok (.iload 6, 2) := by decide +kernel
theorem dLw_law_419 : decode code 419 = .ok (.i2l, 1) := by decide +kernel
theorem dLw_law_420 : decode code 420 = .ok (.lcmp, 1) := by decide +kernel
theorem dLw_law_421 : decode code 421 = .ok (.ifCond .eq 5, 3) := by decide +kernel
theorem dLw_law_424 : decode code 424 = .ok (.iconst 0, 1) := by decide +kernel
theorem dLw_law_425 : decode code 425 = .ok (.ireturn, 1) := by decide +kernel
theorem dLw_law_426 : decode code 426 = .ok (.goto 669, 3) := by decide +kernel
theorem dLw_law_429 : decode code 429 = .ok (.aload_n 1, 1) := by decide +kernel
theorem dLw_law_430 : decode code 430 = .ok (.aload_n 0, 1) := by decide +kernel
theorem dLw_law_431 : decode code 431 = .ok (.iload 4, 2) := by decide +kernel
theorem dLw_law_433 : decode code 433 = .ok (.iconst 1, 1) := by decide +kernel
theorem dLw_law_434 : decode code 434 = .ok (.iadd, 1) := by decide +kernel
theorem dLw_law_435 : decode code 435 = .ok (.iaload, 1) := by decide +kernel
theorem dLw_law_436 : decode code 436 = .ok (.aload_n 0, 1) := by decide +kernel
theorem dLw_law_437 : decode code 437 = .ok (.iload 4, 2) := by decide +kernel
theorem dLw_law_439 : decode code 439 = .ok (.iconst 2, 1) := by decide +kernel
theorem dLw_law_440 : decode code 440 = .ok (.iadd, 1) := by decide +kernel
theorem dLw_law_441 : decode code 441 = .ok (.iaload, 1) := by decide +kernel
theorem dLw_law_442 : decode code 442 = .ok (.aload_n 0, 1) := by decide +kernel
theorem dLw_law_443 : decode code 443 = .ok (.iload 4, 2) := by decide +kernel
theorem dLw_law_445 : decode code 445 = .ok (.iconst 3, 1) := by decide +kernel
theorem dLw_law_446 : decode code 446 = .ok (.iadd, 1) := by decide +kernel
theorem dLw_law_447 : decode code 447 = .ok (.iaload, 1) := by decide +kernel
theorem dLw_law_448 : decode code 448 = .ok (.aload_n 3, 1) := by decide +kernel
theorem dLw_law_449 : decode code 449 = .ok (.invokestatic 87, 3) := by decide +kernel
theorem dLw_law_452 : decode code 452 = .ok (.istore 5, 2) := by decide +kernel
theorem dLw_law_454 : decode code 454 = .ok (.aload_n 2, 1) := by decide +kernel
theorem dLw_law_455 : decode code 455 = .ok (.aload_n 0, 1) := by decide +kernel
theorem dLw_law_456 : decode code 456 = .ok (.iload 4, 2) := by decide +kernel
theorem dLw_law_458 : decode code 458 = .ok (.iconst 1, 1) := by decide +kernel
theorem dLw_law_459 : decode code 459 = .ok (.iadd, 1) := by decide +kernel
theorem dLw_law_460 : decode code 460 = .ok (.iaload, 1) := by decide +kernel
theorem dLw_law_461 : decode code 461 = .ok (.aload_n 0, 1) := by decide +kernel
theorem dLw_law_462 : decode code 462 = .ok (.iload 4, 2) := by decide +kernel
theorem dLw_law_464 : decode code 464 = .ok (.iconst 2, 1) := by decide +kernel
theorem dLw_law_465 : decode code 465 = .ok (.iadd, 1) := by decide +kernel
theorem dLw_law_466 : decode code 466 = .ok (.iaload, 1) := by decide +kernel
theorem dLw_law_467 : decode code 467 = .ok (.aload_n 0, 1) := by decide +kernel
theorem dLw_law_468 : decode code 468 = .ok (.iload 4, 2) := by decide +kernel
theorem dLw_law_470 : decode code 470 = .ok (.iconst 3, 1) := by decide +kernel
theorem dLw_law_471 : decode code 471 = .ok (.iadd, 1) := by decide +kernel
theorem dLw_law_472 : decode code 472 = .ok (.iaload, 1) := by decide +kernel
theorem dLw_law_473 : decode code 473 = .ok (.invokevirtual 90, 3) := by decide +kernel
theorem dLw_law_476 : decode code 476 = .ok (.istore 6, 2) := by decide +kernel
theorem dLw_law_478 : decode code 478 = .ok (.aload_n 2, 1) := by decide +kernel
theorem dLw_law_479 : decode code 479 = .ok (.invokevirtual 75, 3) := by decide +kernel
theorem dLw_law_482 : decode code 482 = .ok (.iload 5, 2) := by decide +kernel
theorem dLw_law_484 : decode code 484 = .ok (.if_icmp .eq 5, 3) := by decide +kernel
theorem dLw_law_487 : decode code 487 = .ok (.iconst 0, 1) := by decide +kernel
theorem dLw_law_488 : decode code 488 = .ok (.ireturn, 1) := by decide +kernel
theorem dLw_law_489 : decode code 489 = .ok (.iload 5, 2) := by decide +kernel
theorem dLw_law_491 : decode code 491 = .ok (.ifCond .ne 15, 3) := by decide +kernel
theorem dLw_law_494 : decode code 494 = .ok (.aload_n 3, 1) := by decide +kernel
theorem dLw_law_495 : decode code 495 = .ok (.iconst 0, 1) := by decide +kernel
theorem dLw_law_496 : decode code 496 = .ok (.laload, 1) := by decide +kernel
theorem dLw_law_497 : decode code 497 = .ok (.iload 6, 2) := by decide +kernel
theorem dLw_law_499 : decode code 499 = .ok (.i2l, 1) := by decide +kernel
theorem dLw_law_500 : decode code 500 = .ok (.lcmp, 1) := by decide +kernel
theorem dLw_law_501 : decode code 501 = .ok (.ifCond .eq 5, 3) := by decide +kernel
theorem dLw_law_504 : decode code 504 = .ok (.iconst 0, 1) := by decide +kernel
theorem dLw_law_505 : decode code 505 = .ok (.ireturn, 1) := by decide +kernel
theorem dLw_law_506 : decode code 506 = .ok (.goto 589, 3) := by decide +kernel
theorem dLw_law_509 : decode code 509 = .ok (.aload_n 1, 1) := by decide +kernel
theorem dLw_law_510 : decode code 510 = .ok (.aload_n 0, 1) := by decide +kernel
theorem dLw_law_511 : decode code 511 = .ok (.iload 4, 2) := by decide +kernel
theorem dLw_law_513 : decode code 513 = .ok (.iconst 1, 1) := by decide +kernel
theorem dLw_law_514 : decode code 514 = .ok (.iadd, 1) := by decide +kernel
theorem dLw_law_515 : decode code 515 = .ok (.iaload, 1) := by decide +kernel
theorem dLw_law_516 : decode code 516 = .ok (.aload_n 0, 1) := by decide +kernel
theorem dLw_law_517 : decode code 517 = .ok (.iload 4, 2) := by decide +kernel
theorem dLw_law_519 : decode code 519 = .ok (.iconst 2, 1) := by decide +kernel
theorem dLw_law_520 : decode code 520 = .ok (.iadd, 1) := by decide +kernel
theorem dLw_law_521 : decode code 521 = .ok (.iaload, 1) := by decide +kernel
theorem dLw_law_522 : decode code 522 = .ok (.aload_n 0, 1) := by decide +kernel
theorem dLw_law_523 : decode code 523 = .ok (.iload 4, 2) := by decide +kernel
theorem dLw_law_525 : decode code 525 = .ok (.iconst 3, 1) := by decide +kernel
theorem dLw_law_526 : decode code 526 = .ok (.iadd, 1) := by decide +kernel
theorem dLw_law_527 : decode code 527 = .ok (.iaload, 1) := by decide +kernel
theorem dLw_law_528 : decode code 528 = .ok (.aload_n 0, 1) := by decide +kernel
theorem dLw_law_529 : decode code 529 = .ok (.iload 4, 2) := by decide +kernel
theorem dLw_law_531 : decode code 531 = .ok (.iconst 4, 1) := by decide +kernel
theorem dLw_law_532 : decode code 532 = .ok (.iadd, 1) := by decide +kernel
theorem dLw_law_533 : decode code 533 = .ok (.iaload, 1) := by decide +kernel
theorem dLw_law_534 : decode code 534 = .ok (.aload_n 0, 1) := by decide +kernel
theorem dLw_law_535 : decode code 535 = .ok (.iload 4, 2) := by decide +kernel
theorem dLw_law_537 : decode code 537 = .ok (.iconst 5, 1) := by decide +kernel
theorem dLw_law_538 : decode code 538 = .ok (.iadd, 1) := by decide +kernel
theorem dLw_law_539 : decode code 539 = .ok (.iaload, 1) := by decide +kernel
theorem dLw_law_540 : decode code 540 = .ok (.aload_n 3, 1) := by decide +kernel
theorem dLw_law_541 : decode code 541 = .ok (.invokestatic 91, 3) := by decide +kernel
theorem dLw_law_544 : decode code 544 = .ok (.istore 5, 2) := by decide +kernel
theorem dLw_law_546 : decode code 546 = .ok (.aload_n 2, 1) := by decide +kernel
theorem dLw_law_547 : decode code 547 = .ok (.aload_n 0, 1) := by decide +kernel
theorem dLw_law_548 : decode code 548 = .ok (.iload 4, 2) := by decide +kernel
theorem dLw_law_550 : decode code 550 = .ok (.iconst 1, 1) := by decide +kernel
theorem dLw_law_551 : decode code 551 = .ok (.iadd, 1) := by decide +kernel
theorem dLw_law_552 : decode code 552 = .ok (.iaload, 1) := by decide +kernel
theorem dLw_law_553 : decode code 553 = .ok (.aload_n 0, 1) := by decide +kernel
theorem dLw_law_554 : decode code 554 = .ok (.iload 4, 2) := by decide +kernel
theorem dLw_law_556 : decode code 556 = .ok (.iconst 2, 1) := by decide +kernel
theorem dLw_law_557 : decode code 557 = .ok (.iadd, 1) := by decide +kernel
theorem dLw_law_558 : decode code 558 = .ok (.iaload, 1) := by decide +kernel
theorem dLw_law_559 : decode code 559 = .ok (.aload_n 0, 1) := by decide +kernel
theorem dLw_law_560 : decode code 560 = .ok (.iload 4, 2) := by decide +kernel
theorem dLw_law_562 : decode code 562 = .ok (.iconst 3, 1) := by decide +kernel
theorem dLw_law_563 : decode code 563 = .ok (.iadd, 1) := by decide +kernel
theorem dLw_law_564 : decode code 564 = .ok (.iaload, 1) := by decide +kernel
theorem dLw_law_565 : decode code 565 = .ok (.aload_n 0, 1) := by decide +kernel
theorem dLw_law_566 : decode code 566 = .ok (.iload 4, 2) := by decide +kernel
theorem dLw_law_568 : decode code 568 = .ok (.iconst 4, 1) := by decide +kernel
theorem dLw_law_569 : decode code 569 = .ok (.iadd, 1) := by decide +kernel
theorem dLw_law_570 : decode code 570 = .ok (.iaload, 1) := by decide +kernel
