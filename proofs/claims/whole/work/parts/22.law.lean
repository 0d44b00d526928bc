/-! THE CLAIM OUT OF ONE WALK OF THE LAW'S BODY. Your part is whole_start (and what it stands on); all else here is the same for every law, but numbers. -/
def R_law : String := "RealmTilesLaw"
def lw_P (b : Addr) (xs : List Int32) (args : Array Value) (s : State) : Prop := args = #[.ref b] ∧ s.IntsAt b xs ∧ xs.length ≤ 3584 ∧ (Jvm.Cond.and given_1 narrow_1).before args s = true
def lw_Q (_ : Array Value) (s : State) (o : Outcome) (t : State) : Prop := o = .returned (some (.int 1)) ∧ Framed s o t [] 61 5957
def lw_Z (below : List Frame) (a : Array Value) (s : State) : State → Prop := fun t => ∃ o, t.status = .running ∧ Ended t below o ∧ lw_Q a s o t
/-- the law's own end, with 1 on the stack, nothing written that was there before, its room as the claim has it -/
theorem lw_ret {p : Program} {l : Launch} {e : Env} {s : State} {m : MethodId} {below : List Frame} {meth : Method} {c : Code} {b : Nat} (hx : p.tables.exec = Jvm.exec) (hb : c.code = code) (hr : meth.sig.returnType = ret) (hlocks : meth.locks = false) {pc : Nat} {H : Heap} {ls : Array Slot} (hdg : decode code pc = .ok (.ireturn, 1)) : W p l e room_1 s m #[Value.ref b] below meth c H [] 61 5957 (lw_Z below #[Value.ref b] s) (F0 m pc ls [.int 1]) := by
  intro T hT X
  obtain ⟨fs, hret, hrun, hended, hW, hframe⟩ := X.leave (v := some (.int 1)) (hlocks := hlocks) (fun h => by rw [hr] at h; cases h)
  have hmeth' : T.vm.method? m = some meth := X.method'
  refine ⟨T.setFrames fs, ?_, .returned (some (.int 1)), hrun, hended, rfl, ⟨_, rfl⟩, hW, hframe⟩
  jvm_step X.here [X.here.top, hx, hb, hdg, hmeth', hr, ret, narrow_b1]
  (try refine ⟨rfl, ?_⟩); (try refine ⟨rfl, ?_⟩)
  first | (intro acts; rw [hret _ acts rfl rfl rfl]) | rw [hret _ _ rfl rfl rfl]
  exact Steps.refl _
/-- what holds at the law's entry: the machine, the code, the tables' words (any of lw_tbl by 'hts w (by decide +kernel)'), the script of L ints xs at the cell b, what the Statement gives of the start (any of its parts by flat_of_before) -/
def lw_At (p : Program) (s : State) (m : MethodId) (meth : Method) (c : Code) (b L : Nat) (xs : Nat → Int32) : Prop :=
  p.tables.exec = Jvm.exec ∧ c.code = code ∧ meth.sig.returnType = ret ∧ c.maxLocals = 4 ∧ s.vm.findClass R_law = some m.cls ∧ (∀ w ∈ lw_tbl, w.before #[Value.ref b] s = true) ∧ va_X b L xs s s.heap ∧ b < s.heap.size ∧ meth.locks = false ∧ (Jvm.Cond.and given_1 narrow_1).before #[Value.ref b] s = true
theorem ib_6 : (Int8.ofInt 6).toInt32 = (6 : Int32) := by decide
theorem ib_32 : (Int8.ofInt 32).toInt32 = (32 : Int32) := by decide
theorem it_8 : Int32.toInt (8 : Int32) = (8 : Int) := by decide
theorem it_9 : Int32.toInt (9 : Int32) = (9 : Int) := by decide
theorem it_10 : Int32.toInt (10 : Int32) = (10 : Int) := by decide
theorem it_11 : Int32.toInt (11 : Int32) = (11 : Int) := by decide
theorem it_12 : Int32.toInt (12 : Int32) = (12 : Int) := by decide
theorem it_13 : Int32.toInt (13 : Int32) = (13 : Int) := by decide
theorem it_14 : Int32.toInt (14 : Int32) = (14 : Int) := by decide
theorem dL_law_0 : decode code 0 = .ok (.new 7, 3) := by decide +kernel
theorem dL_law_3 : decode code 3 = .ok (.dup, 1) := by decide +kernel
theorem dL_law_4 : decode code 4 = .ok (.invokespecial 9, 3) := by decide +kernel
theorem dL_law_7 : decode code 7 = .ok (.astore_n 1, 1) := by decide +kernel
theorem dL_law_8 : decode code 8 = .ok (.new 10, 3) := by decide +kernel
theorem dL_law_11 : decode code 11 = .ok (.dup, 1) := by decide +kernel
theorem dL_law_12 : decode code 12 = .ok (.invokespecial 12, 3) := by decide +kernel
theorem dL_law_15 : decode code 15 = .ok (.astore_n 2, 1) := by decide +kernel
theorem dL_law_16 : decode code 16 = .ok (.iconst 0, 1) := by decide +kernel
theorem dL_law_17 : decode code 17 = .ok (.istore_n 3, 1) := by decide +kernel
theorem dL_law_18 : decode code 18 = .ok (.iload_n 3, 1) := by decide +kernel
theorem dL_law_19 : decode code 19 = .ok (.aload_n 0, 1) := by decide +kernel
theorem dL_law_20 : decode code 20 = .ok (.arraylength, 1) := by decide +kernel
theorem dL_law_21 : decode code 21 = .ok (.bipush 7, 2) := by decide +kernel
theorem dL_law_23 : decode code 23 = .ok (.isub, 1) := by decide +kernel
theorem dL_law_24 : decode code 24 = .ok (.if_icmp .gt 585, 3) := by decide +kernel
theorem dL_law_27 : decode code 27 = .ok (.aload_n 0, 1) := by decide +kernel
theorem dL_law_28 : decode code 28 = .ok (.iload_n 3, 1) := by decide +kernel
theorem dL_law_29 : decode code 29 = .ok (.iaload, 1) := by decide +kernel
theorem dL_law_30 : decode code 30 = .ok (.bipush 15, 2) := by decide +kernel
theorem dL_law_32 : decode code 32 = .ok (.iand, 1) := by decide +kernel
theorem dL_law_33 : decode code 33 = .ok (.tableswitch 570 0 14 #[75, 210, 233, 256, 267, 280, 303, 336, 379, 402, 415, 458, 491, 524, 547], 75) := by decide +kernel
theorem dL_law_108 : decode code 108 = .ok (.aload_n 1, 1) := by decide +kernel
theorem dL_law_109 : decode code 109 = .ok (.aload_n 0, 1) := by decide +kernel
theorem dL_law_110 : decode code 110 = .ok (.iload_n 3, 1) := by decide +kernel
theorem dL_law_111 : decode code 111 = .ok (.iconst 1, 1) := by decide +kernel
theorem dL_law_112 : decode code 112 = .ok (.iadd, 1) := by decide +kernel
theorem dL_law_113 : decode code 113 = .ok (.iaload, 1) := by decide +kernel
theorem dL_law_114 : decode code 114 = .ok (.i2l, 1) := by decide +kernel
theorem dL_law_115 : decode code 115 = .ok (.bipush 32, 2) := by decide +kernel
theorem dL_law_117 : decode code 117 = .ok (.lshl, 1) := by decide +kernel
theorem dL_law_118 : decode code 118 = .ok (.aload_n 0, 1) := by decide +kernel
theorem dL_law_119 : decode code 119 = .ok (.iload_n 3, 1) := by decide +kernel
theorem dL_law_120 : decode code 120 = .ok (.iconst 2, 1) := by decide +kernel
theorem dL_law_121 : decode code 121 = .ok (.iadd, 1) := by decide +kernel
theorem dL_law_122 : decode code 122 = .ok (.iaload, 1) := by decide +kernel
theorem dL_law_123 : decode code 123 = .ok (.i2l, 1) := by decide +kernel
theorem dL_law_124 : decode code 124 = .ok (.ldc2_w 13, 3) := by decide +kernel
theorem dL_law_127 : decode code 127 = .ok (.land, 1) := by decide +kernel
theorem dL_law_128 : decode code 128 = .ok (.lor, 1) := by decide +kernel
theorem dL_law_129 : decode code 129 = .ok (.aload_n 0, 1) := by decide +kernel
theorem dL_law_130 : decode code 130 = .ok (.iload_n 3, 1) := by decide +kernel
theorem dL_law_131 : decode code 131 = .ok (.iconst 3, 1) := by decide +kernel
theorem dL_law_132 : decode code 132 = .ok (.iadd, 1) := by decide +kernel
theorem dL_law_133 : decode code 133 = .ok (.iaload, 1) := by decide +kernel
theorem dL_law_134 : decode code 134 = .ok (.i2l, 1) := by decide +kernel
theorem dL_law_135 : decode code 135 = .ok (.bipush 32, 2) := by decide +kernel
theorem dL_law_137 : decode code 137 = .ok (.lshl, 1) := by decide +kernel
theorem dL_law_138 : decode code 138 = .ok (.aload_n 0, 1) := by decide +kernel
theorem dL_law_139 : decode code 139 = .ok (.iload_n 3, 1) := by decide +kernel
theorem dL_law_140 : decode code 140 = .ok (.iconst 4, 1) := by decide +kernel
theorem dL_law_141 : decode code 141 = .ok (.iadd, 1) := by decide +kernel
theorem dL_law_142 : decode code 142 = .ok (.iaload, 1) := by decide +kernel
theorem dL_law_143 : decode code 143 = .ok (.i2l, 1) := by decide +kernel
theorem dL_law_144 : decode code 144 = .ok (.ldc2_w 13, 3) := by decide +kernel
theorem dL_law_147 : decode code 147 = .ok (.land, 1) := by decide +kernel
theorem dL_law_148 : decode code 148 = .ok (.lor, 1) := by decide +kernel
theorem dL_law_149 : decode code 149 = .ok (.aload_n 0, 1) := by decide +kernel
theorem dL_law_150 : decode code 150 = .ok (.iload_n 3, 1) := by decide +kernel
theorem dL_law_151 : decode code 151 = .ok (.iconst 5, 1) := by decide +kernel
theorem dL_law_152 : decode code 152 = .ok (.iadd, 1) := by decide +kernel
theorem dL_law_153 : decode code 153 = .ok (.iaload, 1) := by decide +kernel
theorem dL_law_154 : decode code 154 = .ok (.i2l, 1) := by decide +kernel
theorem dL_law_155 : decode code 155 = .ok (.bipush 32, 2) := by decide +kernel
theorem dL_law_157 : decode code 157 = .ok (.lshl, 1) := by decide +kernel
theorem dL_law_158 : decode code 158 = .ok (.aload_n 0, 1) := by decide +kernel
theorem dL_law_159 : decode code 159 = .ok (.iload_n 3, 1) := by decide +kernel
theorem dL_law_160 : decode code 160 = .ok (.bipush 6, 2) := by decide +kernel
theorem dL_law_162 : decode code 162 = .ok (.iadd, 1) := by decide +kernel
theorem dL_law_163 : decode code 163 = .ok (.iaload, 1) := by decide +kernel
theorem dL_law_164 : decode code 164 = .ok (.i2l, 1) := by decide +kernel
theorem dL_law_165 : decode code 165 = .ok (.ldc2_w 13, 3) := by decide +kernel
theorem dL_law_168 : decode code 168 = .ok (.land, 1) := by decide +kernel
theorem dL_law_169 : decode code 169 = .ok (.lor, 1) := by decide +kernel
theorem dL_law_170 : decode code 170 = .ok (.invokevirtual 15, 3) := by decide +kernel
theorem dL_law_173 : decode code 173 = .ok (.aload_n 2, 1) := by decide +kernel
theorem dL_law_174 : decode code 174 = .ok (.aload_n 0, 1) := by decide +kernel
theorem dL_law_175 : decode code 175 = .ok (.iload_n 3, 1) := by decide +kernel
theorem dL_law_176 : decode code 176 = .ok (.iconst 1, 1) := by decide +kernel
theorem dL_law_177 : decode code 177 = .ok (.iadd, 1) := by decide +kernel
theorem dL_law_178 : decode code 178 = .ok (.iaload, 1) := by decide +kernel
theorem dL_law_179 : decode code 179 = .ok (.i2l, 1) := by decide +kernel
theorem dL_law_180 : decode code 180 = .ok (.bipush 32, 2) := by decide +kernel
theorem dL_law_182 : decode code 182 = .ok (.lshl, 1) := by decide +kernel
theorem dL_law_183 : decode code 183 = .ok (.aload_n 0, 1) := by decide +kernel
theorem dL_law_184 : decode code 184 = .ok (.iload_n 3, 1) := by decide +kernel
theorem dL_law_185 : decode code 185 = .ok (.iconst 2, 1) := by decide +kernel
theorem dL_law_186 : decode code 186 = .ok (.iadd, 1) := by decide +kernel
theorem dL_law_187 : decode code 187 = .ok (.iaload, 1) := by decide +kernel
theorem dL_law_188 : decode code 188 = .ok (.i2l, 1) := by decide +kernel
theorem dL_law_189 : decode code 189 = .ok (.ldc2_w 13, 3) := by decide +kernel
theorem dL_law_192 : decode code 192 = .ok (.land, 1) := by decide +kernel
theorem dL_law_193 : decode code 193 = .ok (.lor, 1) := by decide +kernel
theorem dL_law_194 : decode code 194 = .ok (.aload_n 0, 1) := by decide +kernel
theorem dL_law_195 : decode code 195 = .ok (.iload_n 3, 1) := by decide +kernel
theorem dL_law_196 : decode code 196 = .ok (.iconst 3, 1) := by decide +kernel
theorem dL_law_197 : decode code 197 = .ok (.iadd, 1) := by decide +kernel
theorem dL_law_198 : decode code 198 = .ok (.iaload, 1) := by decide +kernel
theorem dL_law_199 : decode code 199 = .ok (.i2l, 1) := by decide +kernel
theorem dL_law_200 : decode code 200 = .ok (.bipush 32, 2) := by decide +kernel
theorem dL_law_202 : decode code 202 = .ok (.lshl, 1) := by decide +kernel
theorem dL_law_203 : decode code 203 = .ok (.aload_n 0, 1) := by decide +kernel
theorem dL_law_204 : decode code 204 = .ok (.iload_n 3, 1) := by decide +kernel
theorem dL_law_205 : decode code 205 = .ok (.iconst 4, 1) := by decide +kernel
theorem dL_law_206 : decode code 206 = .ok (.iadd, 1) := by decide +kernel
theorem dL_law_207 : decode code 207 = .ok (.iaload, 1) := by decide +kernel
theorem dL_law_208 : decode code 208 = .ok (.i2l, 1) := by decide +kernel
theorem dL_law_209 : decode code 209 = .ok (.ldc2_w 13, 3) := by decide +kernel
theorem dL_law_212 : decode code 212 = .ok (.land, 1) := by decide +kernel
theorem dL_law_213 : decode code 213 = .ok (.lor, 1) := by decide +kernel
theorem dL_law_214 : decode code 214 = .ok (.aload_n 0, 1) := by decide +kernel
theorem dL_law_215 : decode code 215 = .ok (.iload_n 3, 1) := by decide +kernel
theorem dL_law_216 : decode code 216 = .ok (.iconst 5, 1) := by decide +kernel
theorem dL_law_217 : decode code 217 = .ok (.iadd, 1) := by decide +kernel
theorem dL_law_218 : decode code 218 = .ok (.iaload, 1) := by decide +kernel
theorem dL_law_219 : decode code 219 = .ok (.i2l, 1) := by decide +kernel
theorem dL_law_220 : decode code 220 = .ok (.bipush 32, 2) := by decide +kernel
theorem dL_law_222 : decode code 222 = .ok (.lshl, 1) := by decide +kernel
theorem dL_law_223 : decode code 223 = .ok (.aload_n 0, 1) := by decide +kernel
theorem dL_law_224 : decode code 224 = .ok (.iload_n 3, 1) := by decide +kernel
theorem dL_law_225 : decode code 225 = .ok (.bipush 6, 2) := by decide +kernel
theorem dL_law_227 : decode code 227 = .ok (.iadd, 1) := by decide +kernel
theorem dL_law_228 : decode code 228 = .ok (.iaload, 1) := by decide +kernel
theorem dL_law_229 : decode code 229 = .ok (.i2l, 1) := by decide +kernel
theorem dL_law_230 : decode code 230 = .ok (.ldc2_w 13, 3) := by decide +kernel
theorem dL_law_233 : decode code 233 = .ok (.land, 1) := by decide +kernel
theorem dL_law_234 : decode code 234 = .ok (.lor, 1) := by decide +kernel
theorem dL_law_235 : decode code 235 = .ok (.invokevirtual 19, 3) := by decide +kernel
theorem dL_law_238 : decode code 238 = .ok (.if_icmp .eq 365, 3) := by decide +kernel
theorem dL_law_241 : decode code 241 = .ok (.iconst 0, 1) := by decide +kernel
theorem dL_law_242 : decode code 242 = .ok (.ireturn, 1) := by decide +kernel
theorem dL_law_243 : decode code 243 = .ok (.aload_n 1, 1) := by decide +kernel
theorem dL_law_244 : decode code 244 = .ok (.aload_n 0, 1) := by decide +kernel
theorem dL_law_245 : decode code 245 = .ok (.iload_n 3, 1) := by decide +kernel
theorem dL_law_246 : decode code 246 = .ok (.iconst 1, 1) := by decide +kernel
theorem dL_law_247 : decode code 247 = .ok (.iadd, 1) := by decide +kernel
theorem dL_law_248 : decode code 248 = .ok (.iaload, 1) := by decide +kernel
theorem dL_law_249 : decode code 249 = .ok (.invokevirtual 20, 3) := by decide +kernel
theorem dL_law_252 : decode code 252 = .ok (.aload_n 2, 1) := by decide +kernel
theorem dL_law_253 : decode code 253 = .ok (.aload_n 0, 1) := by decide +kernel
theorem dL_law_254 : decode code 254 = .ok (.iload_n 3, 1) := by decide +kernel
theorem dL_law_255 : decode code 255 = .ok (.iconst 1, 1) := by decide +kernel
theorem dL_law_256 : decode code 256 = .ok (.iadd, 1) := by decide +kernel
theorem dL_law_257 : decode code 257 = .ok (.iaload, 1) := by decide +kernel
theorem dL_law_258 : decode code 258 = .ok (.invokevirtual 24, 3) := by decide +kernel
theorem dL_law_261 : decode code 261 = .ok (.if_icmp .eq 342, 3) := by decide +kernel
theorem dL_law_264 : decode code 264 = .ok (.iconst 0, 1) := by decide +kernel
theorem dL_law_265 : decode code 265 = .ok (.ireturn, 1) := by decide +kernel
theorem dL_law_266 : decode code 266 = .ok (.aload_n 1, 1) := by decide +kernel
theorem dL_law_267 : decode code 267 = .ok (.aload_n 0, 1) := by decide +kernel
theorem dL_law_268 : decode code 268 = .ok (.iload_n 3, 1) := by decide +kernel
theorem dL_law_269 : decode code 269 = .ok (.iconst 1, 1) := by decide +kernel
theorem dL_law_270 : decode code 270 = .ok (.iadd, 1) := by decide +kernel
theorem dL_law_271 : decode code 271 = .ok (.iaload, 1) := by decide +kernel
theorem dL_law_272 : decode code 272 = .ok (.invokevirtual 25, 3) := by decide +kernel
theorem dL_law_275 : decode code 275 = .ok (.aload_n 2, 1) := by decide +kernel
theorem dL_law_276 : decode code 276 = .ok (.aload_n 0, 1) := by decide +kernel
theorem dL_law_277 : decode code 277 = .ok (.iload_n 3, 1) := by decide +kernel
theorem dL_law_278 : decode code 278 = .ok (.iconst 1, 1) := by decide +kernel
theorem dL_law_279 : decode code 279 = .ok (.iadd, 1) := by decide +kernel
theorem dL_law_280 : decode code 280 = .ok (.iaload, 1) := by decide +kernel
theorem dL_law_281 : decode code 281 = .ok (.invokevirtual 29, 3) := by decide +kernel
theorem dL_law_284 : decode code 284 = .ok (.if_icmp .eq 319, 3) := by decide +kernel
theorem dL_law_287 : decode code 287 = .ok (.iconst 0, 1) := by decide +kernel
theorem dL_law_288 : decode code 288 = .ok (.ireturn, 1) := by decide +kernel
theorem dL_law_289 : decode code 289 = .ok (.aload_n 1, 1) := by decide +kernel
theorem dL_law_290 : decode code 290 = .ok (.invokevirtual 30, 3) := by decide +kernel
theorem dL_law_293 : decode code 293 = .ok (.aload_n 2, 1) := by decide +kernel
theorem dL_law_294 : decode code 294 = .ok (.invokevirtual 33, 3) := by decide +kernel
theorem dL_law_297 : decode code 297 = .ok (.goto 306, 3) := by decide +kernel
theorem dL_law_300 : decode code 300 = .ok (.aload_n 1, 1) := by decide +kernel
theorem dL_law_301 : decode code 301 = .ok (.invokevirtual 34, 3) := by decide +kernel
theorem dL_law_304 : decode code 304 = .ok (.aload_n 2, 1) := by decide +kernel
theorem dL_law_305 : decode code 305 = .ok (.invokevirtual 38, 3) := by decide +kernel
theorem dL_law_308 : decode code 308 = .ok (.if_icmp .eq 295, 3) := by decide +kernel
theorem dL_law_311 : decode code 311 = .ok (.iconst 0, 1) := by decide +kernel
theorem dL_law_312 : decode code 312 = .ok (.ireturn, 1) := by decide +kernel
theorem dL_law_313 : decode code 313 = .ok (.aload_n 1, 1) := by decide +kernel
theorem dL_law_314 : decode code 314 = .ok (.aload_n 0, 1) := by decide +kernel
theorem dL_law_315 : decode code 315 = .ok (.iload_n 3, 1) := by decide +kernel
theorem dL_law_316 : decode code 316 = .ok (.iconst 1, 1) := by decide +kernel
theorem dL_law_317 : decode code 317 = .ok (.iadd, 1) := by decide +kernel
theorem dL_law_318 : decode code 318 = .ok (.iaload, 1) := by decide +kernel
theorem dL_law_319 : decode code 319 = .ok (.invokevirtual 39, 3) := by decide +kernel
theorem dL_law_322 : decode code 322 = .ok (.aload_n 2, 1) := by decide +kernel
theorem dL_law_323 : decode code 323 = .ok (.aload_n 0, 1) := by decide +kernel
theorem dL_law_324 : decode code 324 = .ok (.iload_n 3, 1) := by decide +kernel
theorem dL_law_325 : decode code 325 = .ok (.iconst 1, 1) := by decide +kernel
theorem dL_law_326 : decode code 326 = .ok (.iadd, 1) := by decide +kernel
theorem dL_law_327 : decode code 327 = .ok (.iaload, 1) := by decide +kernel
theorem dL_law_328 : decode code 328 = .ok (.invokevirtual 42, 3) := by decide +kernel
theorem dL_law_331 : decode code 331 = .ok (.if_icmp .eq 272, 3) := by decide +kernel
theorem dL_law_334 : decode code 334 = .ok (.iconst 0, 1) := by decide +kernel
theorem dL_law_335 : decode code 335 = .ok (.ireturn, 1) := by decide +kernel
theorem dL_law_336 : decode code 336 = .ok (.aload_n 1, 1) := by decide +kernel
theorem dL_law_337 : decode code 337 = .ok (.aload_n 0, 1) := by decide +kernel
theorem dL_law_338 : decode code 338 = .ok (.iload_n 3, 1) := by decide +kernel
theorem dL_law_339 : decode code 339 = .ok (.iconst 1, 1) := by decide +kernel
theorem dL_law_340 : decode code 340 = .ok (.iadd, 1) := by decide +kernel
theorem dL_law_341 : decode code 341 = .ok (.iaload, 1) := by decide +kernel
theorem dL_law_342 : decode code 342 = .ok (.aload_n 0, 1) := by decide +kernel
theorem dL_law_343 : decode code 343 = .ok (.iload_n 3, 1) := by decide +kernel
theorem dL_law_344 : decode code 344 = .ok (.iconst 2, 1) := by decide +kernel
theorem dL_law_345 : decode code 345 = .ok (.iadd, 1) := by decide +kernel
theorem dL_law_346 : decode code 346 = .ok (.iaload, 1) := by decide +kernel
theorem dL_law_347 : decode code 347 = .ok (.invokevirtual 43, 3) := by decide +kernel
theorem dL_law_350 : decode code 350 = .ok (.aload_n 2, 1) := by decide +kernel
theorem dL_law_351 : decode code 351 = .ok (.aload_n 0, 1) := by decide +kernel
theorem dL_law_352 : decode code 352 = .ok (.iload_n 3, 1) := by decide +kernel
theorem dL_law_353 : decode code 353 = .ok (.iconst 1, 1) := by decide +kernel
theorem dL_law_354 : decode code 354 = .ok (.iadd, 1) := by decide +kernel
theorem dL_law_355 : decode code 355 = .ok (.iaload, 1) := by decide +kernel
theorem dL_law_356 : decode code 356 = .ok (.aload_n 0, 1) := by decide +kernel
theorem dL_law_357 : decode code 357 = .ok (.iload_n 3, 1) := by decide +kernel
theorem dL_law_358 : decode code 358 = .ok (.iconst 2, 1) := by decide +kernel
theorem dL_law_359 : decode code 359 = .ok (.iadd, 1) := by decide +kernel
theorem dL_law_360 : decode code 360 = .ok (.iaload, 1) := by decide +kernel
theorem dL_law_361 : decode code 361 = .ok (.invokevirtual 47, 3) := by decide +kernel
theorem dL_law_364 : decode code 364 = .ok (.if_icmp .eq 239, 3) := by decide +kernel
theorem dL_law_367 : decode code 367 = .ok (.iconst 0, 1) := by decide +kernel
theorem dL_law_368 : decode code 368 = .ok (.ireturn, 1) := by decide +kernel
theorem dL_law_369 : decode code 369 = .ok (.aload_n 1, 1) := by decide +kernel
theorem dL_law_370 : decode code 370 = .ok (.aload_n 0, 1) := by decide +kernel
theorem dL_law_371 : decode code 371 = .ok (.iload_n 3, 1) := by decide +kernel
theorem dL_law_372 : decode code 372 = .ok (.iconst 1, 1) := by decide +kernel
theorem dL_law_373 : decode code 373 = .ok (.iadd, 1) := by decide +kernel
theorem dL_law_374 : decode code 374 = .ok (.iaload, 1) := by decide +kernel
theorem dL_law_375 : decode code 375 = .ok (.aload_n 0, 1) := by decide +kernel
theorem dL_law_376 : decode code 376 = .ok (.iload_n 3, 1) := by decide +kernel
theorem dL_law_377 : decode code 377 = .ok (.iconst 2, 1) := by decide +kernel
theorem dL_law_378 : decode code 378 = .ok (.iadd, 1) := by decide +kernel
theorem dL_law_379 : decode code 379 = .ok (.iaload, 1) := by decide +kernel
theorem dL_law_380 : decode code 380 = .ok (.aload_n 0, 1) := by decide +kernel
theorem dL_law_381 : decode code 381 = .ok (.iload_n 3, 1) := by decide +kernel
theorem dL_law_382 : decode code 382 = .ok (.iconst 3, 1) := by decide +kernel
theorem dL_law_383 : decode code 383 = .ok (.iadd, 1) := by decide +kernel
theorem dL_law_384 : decode code 384 = .ok (.iaload, 1) := by decide +kernel
theorem dL_law_385 : decode code 385 = .ok (.invokevirtual 48, 3) := by decide +kernel
theorem dL_law_388 : decode code 388 = .ok (.aload_n 2, 1) := by decide +kernel
theorem dL_law_389 : decode code 389 = .ok (.aload_n 0, 1) := by decide +kernel
theorem dL_law_390 : decode code 390 = .ok (.iload_n 3, 1) := by decide +kernel
theorem dL_law_391 : decode code 391 = .ok (.iconst 1, 1) := by decide +kernel
theorem dL_law_392 : decode code 392 = .ok (.iadd, 1) := by decide +kernel
theorem dL_law_393 : decode code 393 = .ok (.iaload, 1) := by decide +kernel
theorem dL_law_394 : decode code 394 = .ok (.aload_n 0, 1) := by decide +kernel
theorem dL_law_395 : decode code 395 = .ok (.iload_n 3, 1) := by decide +kernel
theorem dL_law_396 : decode code 396 = .ok (.iconst 2, 1) := by decide +kernel
theorem dL_law_397 : decode code 397 = .ok (.iadd, 1) := by decide +kernel
theorem dL_law_398 : decode code 398 = .ok (.iaload, 1) := by decide +kernel
theorem dL_law_399 : decode code 399 = .ok (.aload_n 0, 1) := by decide +kernel
theorem dL_law_400 : decode code 400 = .ok (.iload_n 3, 1) := by decide +kernel
theorem dL_law_401 : decode code 401 = .ok (.iconst 3, 1) := by decide +kernel
theorem dL_law_402 : decode code 402 = .ok (.iadd, 1) := by decide +kernel
theorem dL_law_403 : decode code 403 = .ok (.iaload, 1) := by decide +kernel
theorem dL_law_404 : decode code 404 = .ok (.invokevirtual 52, 3) := by decide +kernel
theorem dL_law_407 : decode code 407 = .ok (.if_icmp .eq 196, 3) := by decide +kernel
theorem dL_law_410 : decode code 410 = .ok (.iconst 0, 1) := by decide +kernel
theorem dL_law_411 : decode code 411 = .ok (.ireturn, 1) := by decide +kernel
theorem dL_law_412 : decode code 412 = .ok (.aload_n 1, 1) := by decide +kernel
theorem dL_law_413 : decode code 413 = .ok (.aload_n 0, 1) := by decide +kernel
theorem dL_law_414 : decode code 414 = .ok (.iload_n 3, 1) := by decide +kernel
theorem dL_law_415 : decode code 415 = .ok (.iconst 1, 1) := by decide +kernel
theorem dL_law_416 : decode code 416 = .ok (.iadd, 1) := by decide +kernel
theorem dL_law_417 : decode code 417 = .ok (.iaload, 1) := by decide +kernel
theorem dL_law_418 : decode code 418 = .ok (.invokevirtual 53, 3) := by decide +kernel
theorem dL_law_421 : decode code 421 = .ok (.aload_n 2, 1) := by decide +kernel
theorem dL_law_422 : decode code 422 = .ok (.aload_n 0, 1) := by decide +kernel
theorem dL_law_423 : decode code 423 = .ok (.iload_n 3, 1) := by decide +kernel
theorem dL_law_424 : decode code 424 = .ok (.iconst 1, 1) := by decide +kernel
theorem dL_law_425 : decode code 425 = .ok (.iadd, 1) := by decide +kernel
theorem dL_law_426 : decode code 426 = .ok (.iaload, 1) := by decide +kernel
theorem dL_law_427 : decode code 427 = .ok (.invokevirtual 56, 3) := by decide +kernel
theorem dL_law_430 : decode code 430 = .ok (.if_icmp .eq 173, 3) := by decide +kernel
theorem dL_law_433 : decode code 433 = .ok (.iconst 0, 1) := by decide +kernel
theorem dL_law_434 : decode code 434 = .ok (.ireturn, 1) := by decide +kernel
theorem dL_law_435 : decode code 435 = .ok (.aload_n 1, 1) := by decide +kernel
theorem dL_law_436 : decode code 436 = .ok (.invokevirtual 57, 3) := by decide +kernel
theorem dL_law_439 : decode code 439 = .ok (.aload_n 2, 1) := by decide +kernel
theorem dL_law_440 : decode code 440 = .ok (.invokevirtual 61, 3) := by decide +kernel
theorem dL_law_443 : decode code 443 = .ok (.if_icmp .eq 160, 3) := by decide +kernel
theorem dL_law_446 : decode code 446 = .ok (.iconst 0, 1) := by decide +kernel
theorem dL_law_447 : decode code 447 = .ok (.ireturn, 1) := by decide +kernel
theorem dL_law_448 : decode code 448 = .ok (.aload_n 1, 1) := by decide +kernel
theorem dL_law_449 : decode code 449 = .ok (.aload_n 0, 1) := by decide +kernel
theorem dL_law_450 : decode code 450 = .ok (.iload_n 3, 1) := by decide +kernel
theorem dL_law_451 : decode code 451 = .ok (.iconst 1, 1) := by decide +kernel
theorem dL_law_452 : decode code 452 = .ok (.iadd, 1) := by decide +kernel
theorem dL_law_453 : decode code 453 = .ok (.iaload, 1) := by decide +kernel
theorem dL_law_454 : decode code 454 = .ok (.aload_n 0, 1) := by decide +kernel
theorem dL_law_455 : decode code 455 = .ok (.iload_n 3, 1) := by decide +kernel
theorem dL_law_456 : decode code 456 = .ok (.iconst 2, 1) := by decide +kernel
theorem dL_law_457 : decode code 457 = .ok (.iadd, 1) := by decide +kernel
theorem dL_law_458 : decode code 458 = .ok (.iaload, 1) := by decide +kernel
theorem dL_law_459 : decode code 459 = .ok (.aload_n 0, 1) := by decide +kernel
theorem dL_law_460 : decode code 460 = .ok (.iload_n 3, 1) := by decide +kernel
theorem dL_law_461 : decode code 461 = .ok (.iconst 3, 1) := by decide +kernel
theorem dL_law_462 : decode code 462 = .ok (.iadd, 1) := by decide +kernel
theorem dL_law_463 : decode code 463 = .ok (.iaload, 1) := by decide +kernel
theorem dL_law_464 : decode code 464 = .ok (.invokevirtual 62, 3) := by decide +kernel
theorem dL_law_467 : decode code 467 = .ok (.aload_n 2, 1) := by decide +kernel
theorem dL_law_468 : decode code 468 = .ok (.aload_n 0, 1) := by decide +kernel
theorem dL_law_469 : decode code 469 = .ok (.iload_n 3, 1) := by decide +kernel
theorem dL_law_470 : decode code 470 = .ok (.iconst 1, 1) := by decide +kernel
theorem dL_law_471 : decode code 471 = .ok (.iadd, 1) := by decide +kernel
theorem dL_law_472 : decode code 472 = .ok (.iaload, 1) := by decide +kernel
theorem dL_law_473 : decode code 473 = .ok (.aload_n 0, 1) := by decide +kernel
theorem dL_law_474 : decode code 474 = .ok (.iload_n 3, 1) := by decide +kernel
theorem dL_law_475 : decode code 475 = .ok (.iconst 2, 1) := by decide +kernel
theorem dL_law_476 : decode code 476 = .ok (.iadd, 1) := by decide +kernel
theorem dL_law_477 : decode code 477 = .ok (.iaload, 1) := by decide +kernel
theorem dL_law_478 : decode code 478 = .ok (.aload_n 0, 1) := by decide +kernel
theorem dL_law_479 : decode code 479 = .ok (.iload_n 3, 1) := by decide +kernel
theorem dL_law_480 : decode code 480 = .ok (.iconst 3, 1) := by decide +kernel
theorem dL_law_481 : decode code 481 = .ok (.iadd, 1) := by decide +kernel
theorem dL_law_482 : decode code 482 = .ok (.iaload, 1) := by decide +kernel
theorem dL_law_483 : decode code 483 = .ok (.invokevirtual 65, 3) := by decide +kernel
theorem dL_law_486 : decode code 486 = .ok (.if_icmp .eq 117, 3) := by decide +kernel
theorem dL_law_489 : decode code 489 = .ok (.iconst 0, 1) := by decide +kernel
theorem dL_law_490 : decode code 490 = .ok (.ireturn, 1) := by decide +kernel
theorem dL_law_491 : decode code 491 = .ok (.aload_n 1, 1) := by decide +kernel
theorem dL_law_492 : decode code 492 = .ok (.aload_n 0, 1) := by decide +kernel
theorem dL_law_493 : decode code 493 = .ok (.iload_n 3, 1) := by decide +kernel
theorem dL_law_494 : decode code 494 = .ok (.iconst 1, 1) := by decide +kernel
theorem dL_law_495 : decode code 495 = .ok (.iadd, 1) := by decide +kernel
theorem dL_law_496 : decode code 496 = .ok (.iaload, 1) := by decide +kernel
theorem dL_law_497 : decode code 497 = .ok (.aload_n 0, 1) := by decide +kernel
theorem dL_law_498 : decode code 498 = .ok (.iload_n 3, 1) := by decide +kernel
theorem dL_law_499 : decode code 499 = .ok (.iconst 2, 1) := by decide +kernel
theorem dL_law_500 : decode code 500 = .ok (.iadd, 1) := by decide +kernel
theorem dL_law_501 : decode code 501 = .ok (.iaload, 1) := by decide +kernel
theorem dL_law_502 : decode code 502 = .ok (.invokevirtual 66, 3) := by decide +kernel
theorem dL_law_505 : decode code 505 = .ok (.aload_n 2, 1) := by decide +kernel
theorem dL_law_506 : decode code 506 = .ok (.aload_n 0, 1) := by decide +kernel
theorem dL_law_507 : decode code 507 = .ok (.iload_n 3, 1) := by decide +kernel
theorem dL_law_508 : decode code 508 = .ok (.iconst 1, 1) := by decide +kernel
theorem dL_law_509 : decode code 509 = .ok (.iadd, 1) := by decide +kernel
theorem dL_law_510 : decode code 510 = .ok (.iaload, 1) := by decide +kernel
theorem dL_law_511 : decode code 511 = .ok (.aload_n 0, 1) := by decide +kernel
theorem dL_law_512 : decode code 512 = .ok (.iload_n 3, 1) := by decide +kernel
theorem dL_law_513 : decode code 513 = .ok (.iconst 2, 1) := by decide +kernel
theorem dL_law_514 : decode code 514 = .ok (.iadd, 1) := by decide +kernel
theorem dL_law_515 : decode code 515 = .ok (.iaload, 1) := by decide +kernel
theorem dL_law_516 : decode code 516 = .ok (.invokevirtual 69, 3) := by decide +kernel
theorem dL_law_519 : decode code 519 = .ok (.if_icmp .eq 84, 3) := by decide +kernel
theorem dL_law_522 : decode code 522 = .ok (.iconst 0, 1) := by decide +kernel
theorem dL_law_523 : decode code 523 = .ok (.ireturn, 1) := by decide +kernel
theorem dL_law_524 : decode code 524 = .ok (.aload_n 1, 1) := by decide +kernel
theorem dL_law_525 : decode code 525 = .ok (.aload_n 0, 1) := by decide +kernel
theorem dL_law_526 : decode code 526 = .ok (.iload_n 3, 1) := by decide +kernel
theorem dL_law_527 : decode code 527 = .ok (.iconst 1, 1) := by decide +kernel
theorem dL_law_528 : decode code 528 = .ok (.iadd, 1) := by decide +kernel
theorem dL_law_529 : decode code 529 = .ok (.iaload, 1) := by decide +kernel
theorem dL_law_530 : decode code 530 = .ok (.aload_n 0, 1) := by decide +kernel
theorem dL_law_531 : decode code 531 = .ok (.iload_n 3, 1) := by decide +kernel
theorem dL_law_532 : decode code 532 = .ok (.iconst 2, 1) := by decide +kernel
theorem dL_law_533 : decode code 533 = .ok (.iadd, 1) := by decide +kernel
theorem dL_law_534 : decode code 534 = .ok (.iaload, 1) := by decide +kernel
theorem dL_law_535 : decode code 535 = .ok (.invokevirtual 70, 3) := by decide +kernel
theorem dL_law_538 : decode code 538 = .ok (.aload_n 2, 1) := by decide +kernel
theorem dL_law_539 : decode code 539 = .ok (.aload_n 0, 1) := by decide +kernel
theorem dL_law_540 : decode code 540 = .ok (.iload_n 3, 1) := by decide +kernel
theorem dL_law_541 : decode code 541 = .ok (.iconst 1, 1) := by decide +kernel
theorem dL_law_542 : decode code 542 = .ok (.iadd, 1) := by decide +kernel
theorem dL_law_543 : decode code 543 = .ok (.iaload, 1) := by decide +kernel
theorem dL_law_544 : decode code 544 = .ok (.aload_n 0, 1) := by decide +kernel
theorem dL_law_545 : decode code 545 = .ok (.iload_n 3, 1) := by decide +kernel
theorem dL_law_546 : decode code 546 = .ok (.iconst 2, 1) := by decide +kernel
theorem dL_law_547 : decode code 547 = .ok (.iadd, 1) := by decide +kernel
theorem dL_law_548 : decode code 548 = .ok (.iaload, 1) := by decide +kernel
theorem dL_law_549 : decode code 549 = .ok (.invokevirtual 73, 3) := by decide +kernel
theorem dL_law_552 : decode code 552 = .ok (.if_icmp .eq 51, 3) := by decide +kernel
theorem dL_law_555 : decode code 555 = .ok (.iconst 0, 1) := by decide +kernel
theorem dL_law_556 : decode code 556 = .ok (.ireturn, 1) := by decide +kernel
theorem dL_law_557 : decode code 557 = .ok (.aload_n 1, 1) := by decide +kernel
theorem dL_law_558 : decode code 558 = .ok (.aload_n 0, 1) := by decide +kernel
theorem dL_law_559 : decode code 559 = .ok (.iload_n 3, 1) := by decide +kernel
theorem dL_law_560 : decode code 560 = .ok (.iconst 1, 1) := by decide +kernel
theorem dL_law_561 : decode code 561 = .ok (.iadd, 1) := by decide +kernel
theorem dL_law_562 : decode code 562 = .ok (.iaload, 1) := by decide +kernel
theorem dL_law_563 : decode code 563 = .ok (.invokevirtual 74, 3) := by decide +kernel
theorem dL_law_566 : decode code 566 = .ok (.aload_n 2, 1) := by decide +kernel
theorem dL_law_567 : decode code 567 = .ok (.aload_n 0, 1) := by decide +kernel
theorem dL_law_568 : decode code 568 = .ok (.iload_n 3, 1) := by decide +kernel
theorem dL_law_569 : decode code 569 = .ok (.iconst 1, 1) := by decide +kernel
theorem dL_law_570 : decode code 570 = .ok (.iadd, 1) := by decide +kernel
theorem dL_law_571 : decode code 571 = .ok (.iaload, 1) := by decide +kernel
theorem dL_law_572 : decode code 572 = .ok (.invokevirtual 77, 3) := by decide +kernel
theorem dL_law_575 : decode code 575 = .ok (.if_icmp .eq 28, 3) := by decide +kernel
theorem dL_law_578 : decode code 578 = .ok (.iconst 0, 1) := by decide +kernel
theorem dL_law_579 : decode code 579 = .ok (.ireturn, 1) := by decide +kernel
theorem dL_law_580 : decode code 580 = .ok (.aload_n 1, 1) := by decide +kernel
theorem dL_law_581 : decode code 581 = .ok (.aload_n 0, 1) := by decide +kernel
theorem dL_law_582 : decode code 582 = .ok (.iload_n 3, 1) := by decide +kernel
theorem dL_law_583 : decode code 583 = .ok (.iconst 1, 1) := by decide +kernel
theorem dL_law_584 : decode code 584 = .ok (.iadd, 1) := by decide +kernel
theorem dL_law_585 : decode code 585 = .ok (.iaload, 1) := by decide +kernel
theorem dL_law_586 : decode code 586 = .ok (.invokevirtual 78, 3) := by decide +kernel
theorem dL_law_589 : decode code 589 = .ok (.aload_n 2, 1) := by decide +kernel
theorem dL_law_590 : decode code 590 = .ok (.aload_n 0, 1) := by decide +kernel
theorem dL_law_591 : decode code 591 = .ok (.iload_n 3, 1) := by decide +kernel
theorem dL_law_592 : decode code 592 = .ok (.iconst 1, 1) := by decide +kernel
theorem dL_law_593 : decode code 593 = .ok (.iadd, 1) := by decide +kernel
theorem dL_law_594 : decode code 594 = .ok (.iaload, 1) := by decide +kernel
theorem dL_law_595 : decode code 595 = .ok (.invokevirtual 81, 3) := by decide +kernel
theorem dL_law_598 : decode code 598 = .ok (.if_icmp .eq 5, 3) := by decide +kernel
theorem dL_law_601 : decode code 601 = .ok (.iconst 0, 1) := by decide +kernel
theorem dL_law_602 : decode code 602 = .ok (.ireturn, 1) := by decide +kernel
theorem dL_law_603 : decode code 603 = .ok (.iinc 3 7, 3) := by decide +kernel
theorem dL_law_606 : decode code 606 = .ok (.goto (-588), 3) := by decide +kernel
theorem dL_law_609 : decode code 609 = .ok (.iconst 1, 1) := by decide +kernel
theorem dL_law_610 : decode code 610 = .ok (.ireturn, 1) := by decide +kernel
/-! The law: two worlds side by side. -/
section RL
variable {p : Program} {l : Launch} {e : Env} {R : Room} {s : State} {m : MethodId} {args : Array Value} {below : List Frame} {meth : Method} {c : Code} {H : Heap} {locs : List Loc} {cells slots : Nat} {Q : State → Prop} {cc : ByteArray} {pc nL : Nat} {ls : Array Slot} {rest : List Value} {D : va_G} {cl : List vw_C} {A : Nat → Prop} {tys : List (ClassId × FieldType)} {wd1 wd2 : Me → va_W} {zs : rx_zt} {kw : Cond} {own : String} {M M2 : Me}
variable {y : MethodName} {bytes : ByteArray} {maxL n index : Nat} {ret : Option FieldType} {rm : Room} {As : List Value} {f : Me → Op} {r : Int32} {M1 : Me} {a q0 ci : Nat} {qc : vw_C}
theorem rl_other (hj : ∀ (M M2 : Me) (i j : Nat) (x y : Nat × va_E), (wd1 M)[i]? = some x → (wd2 M2)[j]? = some y → x.1 ≠ y.1) (h2 : rx_W D cl wd2 A s.heap M2 H locs) {H1 : Heap} {locs1 : List Loc} (hk : ∀ q : Nat, q < H.size → ¬ va_A (wd1 M) H.size q → H1[q]? = H[q]?) (hS : va_S A s.heap H1 locs1) : rx_W D cl wd2 A s.heap M2 H1 locs1 := by
  refine ⟨h2.1.kept (fun k q hq => hk q.1 ((h2.1 k q hq).lt) ?_), h2.2.1, hS⟩
  rintro (⟨k1, e1, h⟩ | h)
  · exact hj M M2 k1 k _ q h hq rfl
  · exact absurd ((h2.1 k q hq).lt) (Nat.not_lt.mpr h)
theorem rl_jVi (cx : rx_C p m c cc nL s args (kw :: wA) own D cl tys zs wN A) (hj : ∀ (M M2 : Me) (i j : Nat) (x y : Nat × va_E), (wd1 M)[i]? = some x → (wd2 M2)[j]? = some y → x.1 ≠ y.1) (hw : rx_W D cl wd1 A s.heap M H locs) (h2 : rx_W D cl wd2 A s.heap M2 H locs) (hM : rx_MI l y (Cond.code y bytes maxL ret :: wA) rm D cl wd1 tys zs wN (.ref a :: As) f) (ho : rx_ob wd1 a q0 ci) (hc : cl[ci]? = some qc) (hC : qc.1 = y.cls) (kf : rx_KV y bytes maxL ret n) (hlk : Cond.methodLink own index y ∈ wA) (hR : rm.frames + 1 ≤ R.frames ∧ 8 + (maxL + 11) + rm.locals ≤ R.locals ∧ rm.cells = 0 ∧ rm.slots = 0) (hn : As.length = n) (hsz : ls.size = nL) (hst : (rest.map fun v => v.category).sum ≤ 8) (hcs : cells ≤ R.cells ∧ slots ≤ R.slots) (hdg : decode cc pc = .ok (.invokevirtual index, 3)) {st0 : List Value} (hstk : st0 = As.reverse ++ .ref a :: rest) (hf : f M = some (r, M1))
    (kk : ∀ (H : Heap) (locs : List Loc), rx_W D cl wd1 A s.heap M1 H locs → rx_W D cl wd2 A s.heap M2 H locs → W p l e R s m args below meth c H locs cells slots Q (F0 m (pc + 3) ls (.int r :: rest))) : W p l e R s m args below meth c H locs cells slots Q (F0 m pc ls st0) := by
  obtain ⟨fs, hfs⟩ := ho
  have hFc := rx_frees cx hw
  refine va_calli (va_runV cx.1 (hM H.size M (r, M1) hf) (rx_kV cx kf hlk hR) ⟨rx_blind cx.2.2.2.2.1, hC ▸ va_recv cx.2.1 hw.1 hc (hfs M), rx_pre cx hw⟩ rfl hn hsz hstk (lv_room hst) hdg hcs) hw.2.2 (fun q _ h => hFc q h) hFc (fun r2 u t H1 locs1 ht hvm hp hB hz hk hS => ?_)
  obtain ⟨h1, h3⟩ := hp
  have h1 : r2 = r := h1
  have h3 : u = M1 := h3
  subst h1; subst h3
  exact kk H1 locs1 ⟨by rw [← ht]; exact hB.1, hB.2.2.weaken (fun _ _ _ h => hFc _ h), hS⟩ (rl_other hj h2 hk hS)
theorem rl_jVv (cx : rx_C p m c cc nL s args (kw :: wA) own D cl tys zs wN A) (hj : ∀ (M M2 : Me) (i j : Nat) (x y : Nat × va_E), (wd1 M)[i]? = some x → (wd2 M2)[j]? = some y → x.1 ≠ y.1) (hw : rx_W D cl wd1 A s.heap M H locs) (h2 : rx_W D cl wd2 A s.heap M2 H locs) (hM : rx_MV l y (Cond.code y bytes maxL ret :: wA) rm D cl wd1 tys zs wN (.ref a :: As) f) (ho : rx_ob wd1 a q0 ci) (hc : cl[ci]? = some qc) (hC : qc.1 = y.cls) (kf : rx_KV y bytes maxL ret n) (hlk : Cond.methodLink own index y ∈ wA) (hR : rm.frames + 1 ≤ R.frames ∧ 8 + (maxL + 11) + rm.locals ≤ R.locals ∧ rm.cells = 0 ∧ rm.slots = 0) (hn : As.length = n) (hsz : ls.size = nL) (hst : (rest.map fun v => v.category).sum ≤ 8) (hcs : cells ≤ R.cells ∧ slots ≤ R.slots) (hdg : decode cc pc = .ok (.invokevirtual index, 3)) {st0 : List Value} (hstk : st0 = As.reverse ++ .ref a :: rest) (hf : f M = some (r, M1))
    (kk : ∀ (H : Heap) (locs : List Loc), rx_W D cl wd1 A s.heap M1 H locs → rx_W D cl wd2 A s.heap M2 H locs → W p l e R s m args below meth c H locs cells slots Q (F0 m (pc + 3) ls rest)) : W p l e R s m args below meth c H locs cells slots Q (F0 m pc ls st0) := by
  obtain ⟨fs, hfs⟩ := ho
  have hFc := rx_frees cx hw
  refine va_callv (va_runV cx.1 (hM H.size M (r, M1) hf) (rx_kV cx kf hlk hR) ⟨rx_blind cx.2.2.2.2.1, hC ▸ va_recv cx.2.1 hw.1 hc (hfs M), rx_pre cx hw⟩ rfl hn hsz hstk (lv_room hst) hdg hcs) hw.2.2 (fun q _ h => hFc q h) hFc (fun u t H1 locs1 ht hvm hp hB hz hk hS => ?_)
  have h3 : u = M1 := hp
  subst h3
  exact kk H1 locs1 ⟨by rw [← ht]; exact hB.1, hB.2.2.weaken (fun _ _ _ h => hFc _ h), hS⟩ (rl_other hj h2 hk hS)
/-- a place of the script -/
theorem rl_ld {b L : Nat} {xs : Nat → Int32} (hx : p.tables.exec = Jvm.exec) (hb : c.code = cc) (hX : va_X b L xs s s.heap) (hbl : b < s.heap.size) (hbA : ¬ A b) (hS : va_S A s.heap H locs) (hL : L ≤ 3584) {j : Int32} (k : Nat) (hj : j = nI k) (hlt : k < L) (hdg : decode cc pc = .ok (.iaload, 1))
    (kk : W p l e R s m args below meth c H locs cells slots Q (F0 m (pc + 1) ls (.int (xs k) :: rest))) : W p l e R s m args below meth c H locs cells slots Q (F0 m pc ls (.int j :: .ref b :: rest)) := by
  subst hj
  refine va_sld hx hb hX hbl hbA hS (vp_in_nI hlt (by omega)) hdg ?_
  rw [nI_clamp (by omega)]
  exact kk
end RL
/-- one call on both sides: they answer alike, and the relation holds behind it -/
def rl_step (Rel : Nat → Me → Me → Prop) (fX fY : Me → Op) : Prop := ∀ (i : Nat) (MX MY : Me), i + 7 ≤ 3584 → Rel i MX MY → ∃ r MX1 MY1, fX MX = some (r, MX1) ∧ fY MY = some (r, MY1) ∧ Rel (i + 7) MX1 MY1
def rl_stepv (Rel : Nat → Me → Me → Prop) (fX fY : Me → Op) : Prop := ∀ (i : Nat) (MX MY : Me), i + 7 ≤ 3584 → Rel i MX MY → ∃ r1 r2 MX1 MY1, fX MX = some (r1, MX1) ∧ fY MY = some (r2, MY1) ∧ Rel (i + 7) MX1 MY1
theorem rl_add (i k : Nat) : nI i + nI k = nI (i + k) := nI_add i k
section
variable {p : Program} {l : Launch} {e : Env} {s : State} {m : MethodId} {args : Array Value} {below : List Frame} {meth : Method} {c : Code} {Q : State → Prop} {D : va_G} {cI cZ cL : ClassId} {b1 b2 b L : Nat} {xs : Nat → Int32} {adX adY : Nat → Nat} {A : Nat → Prop} {kw : Cond}
set_option maxRecDepth 100000 in
set_option maxHeartbeats 4000000 in
theorem lc_type (cX : rx_C p m c code 4 s args (kw :: wA) RL D vwCl (tX cI cL) (zX b1 b2) wN A) (cY : rx_C p m c code 4 s args (kw :: wA) RL D vwCl (tY cI cZ) [] wN A) (hj : ∀ (M M2 : Me) (i j : Nat) (x y : Nat × va_E), (wX adX cI cL M)[i]? = some x → (wY adY cI cZ M2)[j]? = some y → x.1 ≠ y.1) (hXs : va_X b L xs s s.heap) (hbl : b < s.heap.size) (hbA : ¬ A b) (hL : L ≤ 3584) {Rel : Nat → Me → Me → Prop} (h_type : ∀ (a0 : Int64) (a1 : Int64) (a2 : Int64), rl_step Rel (fun M => qf_X6_type a0 a1 a2 M) (fun M => qf_X7_type a0 a1 a2 M)) {i : Nat} (hi : i + 7 ≤ L) {ls : Array Slot} {MX MY : Me} {H : Heap} {locs : List Loc} (hRel : Rel i MX MY) (hwX : rx_W D vwCl (wX adX cI cL) A s.heap MX H locs) (hwY : rx_W D vwCl (wY adY cI cZ) A s.heap MY H locs) (hl : lv_has ls 4 [(0, .ref b), (1, .ref (adX 0)), (2, .ref (adY 0)), (3, .int (nI i))]) (hend : ∀ {MX MY : Me} {H : Heap} {locs : List Loc}, Rel (i + 7) MX MY → rx_W D vwCl (wX adX cI cL) A s.heap MX H locs → rx_W D vwCl (wY adY cI cZ) A s.heap MY H locs → lv_has ls 4 [(0, .ref b), (1, .ref (adX 0)), (2, .ref (adY 0)), (3, .int (nI i))] → W p l e room_1 s m args below meth c H locs 61 5957 Q (F0 m 603 ls [])) : W p l e room_1 s m args below meth c H locs 61 5957 Q (F0 m 108 ls []) := by
  have hx := cX.1.1
  have hb := cX.1.2.1
  obtain ⟨r, MX1, MY1, eX, eY, hRel⟩ := h_type (((Int32.toInt64 (xs (i + 1))) <<< (Int32.toInt64 32 &&& 63)) ||| ((Int32.toInt64 (xs (i + 2))) &&& (4294967295))) (((Int32.toInt64 (xs (i + 3))) <<< (Int32.toInt64 32 &&& 63)) ||| ((Int32.toInt64 (xs (i + 4))) &&& (4294967295))) (((Int32.toInt64 (xs (i + 5))) <<< (Int32.toInt64 32 &&& 63)) ||| ((Int32.toInt64 (xs (i + 6))) &&& (4294967295))) i MX MY (by omega) hRel
  refine lv_aload_n hx hb dL_law_108 rfl (lv_at hl 1 rfl) ?_
  refine lv_aload_n hx hb dL_law_109 rfl (lv_at hl 0 rfl) ?_
  refine lv_iload_n hx hb dL_law_110 rfl (lv_at hl 3 rfl) ?_
  refine lv_iconst (v := 1) hx hb dL_law_111 ic_1 ?_
  refine lv_iadd hx hb dL_law_112 ?_
  refine rl_ld hx hb hXs hbl hbA hwX.2.2 hL (i + 1) (rl_add i 1) (by omega) dL_law_113 ?_
  refine lv_i2l hx hb dL_law_114 rfl ?_
  refine lv_bipush (v := 32) hx hb dL_law_115 ib_32 ?_
  refine lv_lshl hx hb dL_law_117 rfl ?_
  refine lv_aload_n hx hb dL_law_118 rfl (lv_at hl 0 rfl) ?_
  refine lv_iload_n hx hb dL_law_119 rfl (lv_at hl 3 rfl) ?_
  refine lv_iconst (v := 2) hx hb dL_law_120 ic_2 ?_
  refine lv_iadd hx hb dL_law_121 ?_
  refine rl_ld hx hb hXs hbl hbA hwX.2.2 hL (i + 2) (rl_add i 2) (by omega) dL_law_122 ?_
  refine lv_i2l hx hb dL_law_123 rfl ?_
  refine lv_ldc2 (v := 4294967295) hx hb cX.1.2.2.2.1 (cX.1.2.2.2.2 _ (.tail _ tw_974)) dL_law_124 ?_
  refine lv_land hx hb dL_law_127 ?_
  refine lv_lor hx hb dL_law_128 ?_
  refine lv_aload_n hx hb dL_law_129 rfl (lv_at hl 0 rfl) ?_
  refine lv_iload_n hx hb dL_law_130 rfl (lv_at hl 3 rfl) ?_
  refine lv_iconst (v := 3) hx hb dL_law_131 ic_3 ?_
  refine lv_iadd hx hb dL_law_132 ?_
  refine rl_ld hx hb hXs hbl hbA hwX.2.2 hL (i + 3) (rl_add i 3) (by omega) dL_law_133 ?_
  refine lv_i2l hx hb dL_law_134 rfl ?_
  refine lv_bipush (v := 32) hx hb dL_law_135 ib_32 ?_
  refine lv_lshl hx hb dL_law_137 rfl ?_
  refine lv_aload_n hx hb dL_law_138 rfl (lv_at hl 0 rfl) ?_
  refine lv_iload_n hx hb dL_law_139 rfl (lv_at hl 3 rfl) ?_
  refine lv_iconst (v := 4) hx hb dL_law_140 ic_4 ?_
  refine lv_iadd hx hb dL_law_141 ?_
  refine rl_ld hx hb hXs hbl hbA hwX.2.2 hL (i + 4) (rl_add i 4) (by omega) dL_law_142 ?_
  refine lv_i2l hx hb dL_law_143 rfl ?_
  refine lv_ldc2 (v := 4294967295) hx hb cX.1.2.2.2.1 (cX.1.2.2.2.2 _ (.tail _ tw_974)) dL_law_144 ?_
  refine lv_land hx hb dL_law_147 ?_
  refine lv_lor hx hb dL_law_148 ?_
  refine lv_aload_n hx hb dL_law_149 rfl (lv_at hl 0 rfl) ?_
  refine lv_iload_n hx hb dL_law_150 rfl (lv_at hl 3 rfl) ?_
  refine lv_iconst (v := 5) hx hb dL_law_151 ic_5 ?_
  refine lv_iadd hx hb dL_law_152 ?_
  refine rl_ld hx hb hXs hbl hbA hwX.2.2 hL (i + 5) (rl_add i 5) (by omega) dL_law_153 ?_
  refine lv_i2l hx hb dL_law_154 rfl ?_
  refine lv_bipush (v := 32) hx hb dL_law_155 ib_32 ?_
  refine lv_lshl hx hb dL_law_157 rfl ?_
  refine lv_aload_n hx hb dL_law_158 rfl (lv_at hl 0 rfl) ?_
  refine lv_iload_n hx hb dL_law_159 rfl (lv_at hl 3 rfl) ?_
  refine lv_bipush (v := 6) hx hb dL_law_160 ib_6 ?_
  refine lv_iadd hx hb dL_law_162 ?_
  refine rl_ld hx hb hXs hbl hbA hwX.2.2 hL (i + 6) (rl_add i 6) (by omega) dL_law_163 ?_
  refine lv_i2l hx hb dL_law_164 rfl ?_
  refine lv_ldc2 (v := 4294967295) hx hb cX.1.2.2.2.1 (cX.1.2.2.2.2 _ (.tail _ tw_974)) dL_law_165 ?_
  refine lv_land hx hb dL_law_168 ?_
  refine lv_lor hx hb dL_law_169 ?_
  refine rl_jVi cX hj hwX hwY (qc_X6_type l D adX cI cL b1 b2 (((Int32.toInt64 (xs (i + 1))) <<< (Int32.toInt64 32 &&& 63)) ||| ((Int32.toInt64 (xs (i + 2))) &&& (4294967295))) (((Int32.toInt64 (xs (i + 3))) <<< (Int32.toInt64 32 &&& 63)) ||| ((Int32.toInt64 (xs (i + 4))) &&& (4294967295))) (((Int32.toInt64 (xs (i + 5))) <<< (Int32.toInt64 32 &&& 63)) ||| ((Int32.toInt64 (xs (i + 6))) &&& (4294967295)))) (obX_0 adX cI cL) rfl rfl kfX6_type tw_317 ⟨Nat.le_of_ble_eq_true rfl, Nat.le_of_ble_eq_true rfl, rfl, rfl⟩ rfl hl.1 (Nat.le_of_ble_eq_true rfl) ⟨Nat.le_of_ble_eq_true rfl, Nat.le_of_ble_eq_true rfl⟩ dL_law_170 rfl eX (fun H locs hwX hwY => ?_)
  refine lv_aload_n hx hb dL_law_173 rfl (lv_at hl 2 rfl) ?_
  refine lv_aload_n hx hb dL_law_174 rfl (lv_at hl 0 rfl) ?_
  refine lv_iload_n hx hb dL_law_175 rfl (lv_at hl 3 rfl) ?_
  refine lv_iconst (v := 1) hx hb dL_law_176 ic_1 ?_
  refine lv_iadd hx hb dL_law_177 ?_
  refine rl_ld hx hb hXs hbl hbA hwX.2.2 hL (i + 1) (rl_add i 1) (by omega) dL_law_178 ?_
  refine lv_i2l hx hb dL_law_179 rfl ?_
  refine lv_bipush (v := 32) hx hb dL_law_180 ib_32 ?_
  refine lv_lshl hx hb dL_law_182 rfl ?_
  refine lv_aload_n hx hb dL_law_183 rfl (lv_at hl 0 rfl) ?_
  refine lv_iload_n hx hb dL_law_184 rfl (lv_at hl 3 rfl) ?_
  refine lv_iconst (v := 2) hx hb dL_law_185 ic_2 ?_
  refine lv_iadd hx hb dL_law_186 ?_
  refine rl_ld hx hb hXs hbl hbA hwX.2.2 hL (i + 2) (rl_add i 2) (by omega) dL_law_187 ?_
  refine lv_i2l hx hb dL_law_188 rfl ?_
  refine lv_ldc2 (v := 4294967295) hx hb cX.1.2.2.2.1 (cX.1.2.2.2.2 _ (.tail _ tw_974)) dL_law_189 ?_
  refine lv_land hx hb dL_law_192 ?_
  refine lv_lor hx hb dL_law_193 ?_
  refine lv_aload_n hx hb dL_law_194 rfl (lv_at hl 0 rfl) ?_
  refine lv_iload_n hx hb dL_law_195 rfl (lv_at hl 3 rfl) ?_
  refine lv_iconst (v := 3) hx hb dL_law_196 ic_3 ?_
  refine lv_iadd hx hb dL_law_197 ?_
  refine rl_ld hx hb hXs hbl hbA hwX.2.2 hL (i + 3) (rl_add i 3) (by omega) dL_law_198 ?_
  refine lv_i2l hx hb dL_law_199 rfl ?_
  refine lv_bipush (v := 32) hx hb dL_law_200 ib_32 ?_
  refine lv_lshl hx hb dL_law_202 rfl ?_
  refine lv_aload_n hx hb dL_law_203 rfl (lv_at hl 0 rfl) ?_
  refine lv_iload_n hx hb dL_law_204 rfl (lv_at hl 3 rfl) ?_
  refine lv_iconst (v := 4) hx hb dL_law_205 ic_4 ?_
  refine lv_iadd hx hb dL_law_206 ?_
  refine rl_ld hx hb hXs hbl hbA hwX.2.2 hL (i + 4) (rl_add i 4) (by omega) dL_law_207 ?_
  refine lv_i2l hx hb dL_law_208 rfl ?_
  refine lv_ldc2 (v := 4294967295) hx hb cX.1.2.2.2.1 (cX.1.2.2.2.2 _ (.tail _ tw_974)) dL_law_209 ?_
  refine lv_land hx hb dL_law_212 ?_
  refine lv_lor hx hb dL_law_213 ?_
  refine lv_aload_n hx hb dL_law_214 rfl (lv_at hl 0 rfl) ?_
  refine lv_iload_n hx hb dL_law_215 rfl (lv_at hl 3 rfl) ?_
  refine lv_iconst (v := 5) hx hb dL_law_216 ic_5 ?_
  refine lv_iadd hx hb dL_law_217 ?_
  refine rl_ld hx hb hXs hbl hbA hwX.2.2 hL (i + 5) (rl_add i 5) (by omega) dL_law_218 ?_
  refine lv_i2l hx hb dL_law_219 rfl ?_
  refine lv_bipush (v := 32) hx hb dL_law_220 ib_32 ?_
  refine lv_lshl hx hb dL_law_222 rfl ?_
  refine lv_aload_n hx hb dL_law_223 rfl (lv_at hl 0 rfl) ?_
  refine lv_iload_n hx hb dL_law_224 rfl (lv_at hl 3 rfl) ?_
  refine lv_bipush (v := 6) hx hb dL_law_225 ib_6 ?_
  refine lv_iadd hx hb dL_law_227 ?_
  refine rl_ld hx hb hXs hbl hbA hwX.2.2 hL (i + 6) (rl_add i 6) (by omega) dL_law_228 ?_
  refine lv_i2l hx hb dL_law_229 rfl ?_
  refine lv_ldc2 (v := 4294967295) hx hb cX.1.2.2.2.1 (cX.1.2.2.2.2 _ (.tail _ tw_974)) dL_law_230 ?_
  refine lv_land hx hb dL_law_233 ?_
  refine lv_lor hx hb dL_law_234 ?_
  refine rl_jVi cY (fun M M2 i j x y hx hy e => hj M2 M j i y x hy hx e.symm) hwY hwX (qc_X7_type l D adY cI cZ  (((Int32.toInt64 (xs (i + 1))) <<< (Int32.toInt64 32 &&& 63)) ||| ((Int32.toInt64 (xs (i + 2))) &&& (4294967295))) (((Int32.toInt64 (xs (i + 3))) <<< (Int32.toInt64 32 &&& 63)) ||| ((Int32.toInt64 (xs (i + 4))) &&& (4294967295))) (((Int32.toInt64 (xs (i + 5))) <<< (Int32.toInt64 32 &&& 63)) ||| ((Int32.toInt64 (xs (i + 6))) &&& (4294967295)))) (obY_0 adY cI cZ) rfl rfl kfX7_type tw_765 ⟨Nat.le_of_ble_eq_true rfl, Nat.le_of_ble_eq_true rfl, rfl, rfl⟩ rfl hl.1 (Nat.le_of_ble_eq_true rfl) ⟨Nat.le_of_ble_eq_true rfl, Nat.le_of_ble_eq_true rfl⟩ dL_law_235 rfl eY (fun H locs hwY hwX => ?_)
  refine lv_icmp_eq hx hb dL_law_238 rfl (fun _ => ?_) (fun hc => absurd rfl hc)
  exact hend hRel hwX hwY hl
set_option maxRecDepth 100000 in
set_option maxHeartbeats 4000000 in
theorem lc_draw (cX : rx_C p m c code 4 s args (kw :: wA) RL D vwCl (tX cI cL) (zX b1 b2) wN A) (cY : rx_C p m c code 4 s args (kw :: wA) RL D vwCl (tY cI cZ) [] wN A) (hj : ∀ (M M2 : Me) (i j : Nat) (x y : Nat × va_E), (wX adX cI cL M)[i]? = some x → (wY adY cI cZ M2)[j]? = some y → x.1 ≠ y.1) (hXs : va_X b L xs s s.heap) (hbl : b < s.heap.size) (hbA : ¬ A b) (hL : L ≤ 3584) {Rel : Nat → Me → Me → Prop} (h_draw : ∀ (a0 : Int32), rl_step Rel (fun M => qf_X6_draw a0 M) (fun M => qf_X7_draw a0 M)) {i : Nat} (hi : i + 7 ≤ L) {ls : Array Slot} {MX MY : Me} {H : Heap} {locs : List Loc} (hRel : Rel i MX MY) (hwX : rx_W D vwCl (wX adX cI cL) A s.heap MX H locs) (hwY : rx_W D vwCl (wY adY cI cZ) A s.heap MY H locs) (hl : lv_has ls 4 [(0, .ref b), (1, .ref (adX 0)), (2, .ref (adY 0)), (3, .int (nI i))]) (hend : ∀ {MX MY : Me} {H : Heap} {locs : List Loc}, Rel (i + 7) MX MY → rx_W D vwCl (wX adX cI cL) A s.heap MX H locs → rx_W D vwCl (wY adY cI cZ) A s.heap MY H locs → lv_has ls 4 [(0, .ref b), (1, .ref (adX 0)), (2, .ref (adY 0)), (3, .int (nI i))] → W p l e room_1 s m args below meth c H locs 61 5957 Q (F0 m 603 ls [])) : W p l e room_1 s m args below meth c H locs 61 5957 Q (F0 m 243 ls []) := by
  have hx := cX.1.1
  have hb := cX.1.2.1
  obtain ⟨r, MX1, MY1, eX, eY, hRel⟩ := h_draw (xs (i + 1)) i MX MY (by omega) hRel
  refine lv_aload_n hx hb dL_law_243 rfl (lv_at hl 1 rfl) ?_
  refine lv_aload_n hx hb dL_law_244 rfl (lv_at hl 0 rfl) ?_
  refine lv_iload_n hx hb dL_law_245 rfl (lv_at hl 3 rfl) ?_
  refine lv_iconst (v := 1) hx hb dL_law_246 ic_1 ?_
  refine lv_iadd hx hb dL_law_247 ?_
  refine rl_ld hx hb hXs hbl hbA hwX.2.2 hL (i + 1) (rl_add i 1) (by omega) dL_law_248 ?_
  refine rl_jVi cX hj hwX hwY (qc_X6_draw l D adX cI cL b1 b2 (xs (i + 1))) (obX_0 adX cI cL) rfl rfl kfX6_draw tw_352 ⟨Nat.le_of_ble_eq_true rfl, Nat.le_of_ble_eq_true rfl, rfl, rfl⟩ rfl hl.1 (Nat.le_of_ble_eq_true rfl) ⟨Nat.le_of_ble_eq_true rfl, Nat.le_of_ble_eq_true rfl⟩ dL_law_249 rfl eX (fun H locs hwX hwY => ?_)
  refine lv_aload_n hx hb dL_law_252 rfl (lv_at hl 2 rfl) ?_
  refine lv_aload_n hx hb dL_law_253 rfl (lv_at hl 0 rfl) ?_
  refine lv_iload_n hx hb dL_law_254 rfl (lv_at hl 3 rfl) ?_
  refine lv_iconst (v := 1) hx hb dL_law_255 ic_1 ?_
  refine lv_iadd hx hb dL_law_256 ?_
  refine rl_ld hx hb hXs hbl hbA hwX.2.2 hL (i + 1) (rl_add i 1) (by omega) dL_law_257 ?_
  refine rl_jVi cY (fun M M2 i j x y hx hy e => hj M2 M j i y x hy hx e.symm) hwY hwX (qc_X7_draw l D adY cI cZ  (xs (i + 1))) (obY_0 adY cI cZ) rfl rfl kfX7_draw tw_787 ⟨Nat.le_of_ble_eq_true rfl, Nat.le_of_ble_eq_true rfl, rfl, rfl⟩ rfl hl.1 (Nat.le_of_ble_eq_true rfl) ⟨Nat.le_of_ble_eq_true rfl, Nat.le_of_ble_eq_true rfl⟩ dL_law_258 rfl eY (fun H locs hwY hwX => ?_)
  refine lv_icmp_eq hx hb dL_law_261 rfl (fun _ => ?_) (fun hc => absurd rfl hc)
  exact hend hRel hwX hwY hl
set_option maxRecDepth 100000 in
set_option maxHeartbeats 4000000 in
theorem lc_start (cX : rx_C p m c code 4 s args (kw :: wA) RL D vwCl (tX cI cL) (zX b1 b2) wN A) (cY : rx_C p m c code 4 s args (kw :: wA) RL D vwCl (tY cI cZ) [] wN A) (hj : ∀ (M M2 : Me) (i j : Nat) (x y : Nat × va_E), (wX adX cI cL M)[i]? = some x → (wY adY cI cZ M2)[j]? = some y → x.1 ≠ y.1) (hXs : va_X b L xs s s.heap) (hbl : b < s.heap.size) (hbA : ¬ A b) (hL : L ≤ 3584) {Rel : Nat → Me → Me → Prop} (h_start : ∀ (a0 : Int32), rl_step Rel (fun M => qf_X6_start a0 M) (fun M => qf_X7_start a0 M)) {i : Nat} (hi : i + 7 ≤ L) {ls : Array Slot} {MX MY : Me} {H : Heap} {locs : List Loc} (hRel : Rel i MX MY) (hwX : rx_W D vwCl (wX adX cI cL) A s.heap MX H locs) (hwY : rx_W D vwCl (wY adY cI cZ) A s.heap MY H locs) (hl : lv_has ls 4 [(0, .ref b), (1, .ref (adX 0)), (2, .ref (adY 0)), (3, .int (nI i))]) (hend : ∀ {MX MY : Me} {H : Heap} {locs : List Loc}, Rel (i + 7) MX MY → rx_W D vwCl (wX adX cI cL) A s.heap MX H locs → rx_W D vwCl (wY adY cI cZ) A s.heap MY H locs → lv_has ls 4 [(0, .ref b), (1, .ref (adX 0)), (2, .ref (adY 0)), (3, .int (nI i))] → W p l e room_1 s m args below meth c H locs 61 5957 Q (F0 m 603 ls [])) : W p l e room_1 s m args below meth c H locs 61 5957 Q (F0 m 266 ls []) := by
  have hx := cX.1.1
  have hb := cX.1.2.1
  obtain ⟨r, MX1, MY1, eX, eY, hRel⟩ := h_start (xs (i + 1)) i MX MY (by omega) hRel
  refine lv_aload_n hx hb dL_law_266 rfl (lv_at hl 1 rfl) ?_
  refine lv_aload_n hx hb dL_law_267 rfl (lv_at hl 0 rfl) ?_
  refine lv_iload_n hx hb dL_law_268 rfl (lv_at hl 3 rfl) ?_
  refine lv_iconst (v := 1) hx hb dL_law_269 ic_1 ?_
  refine lv_iadd hx hb dL_law_270 ?_
  refine rl_ld hx hb hXs hbl hbA hwX.2.2 hL (i + 1) (rl_add i 1) (by omega) dL_law_271 ?_
  refine rl_jVi cX hj hwX hwY (qc_X6_start l D adX cI cL b1 b2 (xs (i + 1))) (obX_0 adX cI cL) rfl rfl kfX6_start tw_360 ⟨Nat.le_of_ble_eq_true rfl, Nat.le_of_ble_eq_true rfl, rfl, rfl⟩ rfl hl.1 (Nat.le_of_ble_eq_true rfl) ⟨Nat.le_of_ble_eq_true rfl, Nat.le_of_ble_eq_true rfl⟩ dL_law_272 rfl eX (fun H locs hwX hwY => ?_)
  refine lv_aload_n hx hb dL_law_275 rfl (lv_at hl 2 rfl) ?_
  refine lv_aload_n hx hb dL_law_276 rfl (lv_at hl 0 rfl) ?_
  refine lv_iload_n hx hb dL_law_277 rfl (lv_at hl 3 rfl) ?_
  refine lv_iconst (v := 1) hx hb dL_law_278 ic_1 ?_
  refine lv_iadd hx hb dL_law_279 ?_
  refine rl_ld hx hb hXs hbl hbA hwX.2.2 hL (i + 1) (rl_add i 1) (by omega) dL_law_280 ?_
  refine rl_jVi cY (fun M M2 i j x y hx hy e => hj M2 M j i y x hy hx e.symm) hwY hwX (qc_X7_start l D adY cI cZ  (xs (i + 1))) (obY_0 adY cI cZ) rfl rfl kfX7_start tw_791 ⟨Nat.le_of_ble_eq_true rfl, Nat.le_of_ble_eq_true rfl, rfl, rfl⟩ rfl hl.1 (Nat.le_of_ble_eq_true rfl) ⟨Nat.le_of_ble_eq_true rfl, Nat.le_of_ble_eq_true rfl⟩ dL_law_281 rfl eY (fun H locs hwY hwX => ?_)
  refine lv_icmp_eq hx hb dL_law_284 rfl (fun _ => ?_) (fun hc => absurd rfl hc)
  exact hend hRel hwX hwY hl
set_option maxRecDepth 100000 in
set_option maxHeartbeats 4000000 in
theorem lc_clear (cX : rx_C p m c code 4 s args (kw :: wA) RL D vwCl (tX cI cL) (zX b1 b2) wN A) (cY : rx_C p m c code 4 s args (kw :: wA) RL D vwCl (tY cI cZ) [] wN A) (hj : ∀ (M M2 : Me) (i j : Nat) (x y : Nat × va_E), (wX adX cI cL M)[i]? = some x → (wY adY cI cZ M2)[j]? = some y → x.1 ≠ y.1) (hXs : va_X b L xs s s.heap) (hbl : b < s.heap.size) (hbA : ¬ A b) (hL : L ≤ 3584) {Rel : Nat → Me → Me → Prop} (h_clear : rl_stepv Rel (fun M => qf_X6_clear M) (fun M => qf_X7_clear M)) {i : Nat} (hi : i + 7 ≤ L) {ls : Array Slot} {MX MY : Me} {H : Heap} {locs : List Loc} (hRel : Rel i MX MY) (hwX : rx_W D vwCl (wX adX cI cL) A s.heap MX H locs) (hwY : rx_W D vwCl (wY adY cI cZ) A s.heap MY H locs) (hl : lv_has ls 4 [(0, .ref b), (1, .ref (adX 0)), (2, .ref (adY 0)), (3, .int (nI i))]) (hend : ∀ {MX MY : Me} {H : Heap} {locs : List Loc}, Rel (i + 7) MX MY → rx_W D vwCl (wX adX cI cL) A s.heap MX H locs → rx_W D vwCl (wY adY cI cZ) A s.heap MY H locs → lv_has ls 4 [(0, .ref b), (1, .ref (adX 0)), (2, .ref (adY 0)), (3, .int (nI i))] → W p l e room_1 s m args below meth c H locs 61 5957 Q (F0 m 603 ls [])) : W p l e room_1 s m args below meth c H locs 61 5957 Q (F0 m 289 ls []) := by
  have hx := cX.1.1
  have hb := cX.1.2.1
  obtain ⟨r1, r2, MX1, MY1, eX, eY, hRel⟩ := h_clear i MX MY (by omega) hRel
  refine lv_aload_n hx hb dL_law_289 rfl (lv_at hl 1 rfl) ?_
  refine rl_jVv cX hj hwX hwY (qc_X6_clear l D adX cI cL b1 b2 ) (obX_0 adX cI cL) rfl rfl kfX6_clear tw_432 ⟨Nat.le_of_ble_eq_true rfl, Nat.le_of_ble_eq_true rfl, rfl, rfl⟩ rfl hl.1 (Nat.le_of_ble_eq_true rfl) ⟨Nat.le_of_ble_eq_true rfl, Nat.le_of_ble_eq_true rfl⟩ dL_law_290 rfl eX (fun H locs hwX hwY => ?_)
  refine lv_aload_n hx hb dL_law_293 rfl (lv_at hl 2 rfl) ?_
  refine rl_jVv cY (fun M M2 i j x y hx hy e => hj M2 M j i y x hy hx e.symm) hwY hwX (qc_X7_clear l D adY cI cZ  ) (obY_0 adY cI cZ) rfl rfl kfX7_clear tw_833 ⟨Nat.le_of_ble_eq_true rfl, Nat.le_of_ble_eq_true rfl, rfl, rfl⟩ rfl hl.1 (Nat.le_of_ble_eq_true rfl) ⟨Nat.le_of_ble_eq_true rfl, Nat.le_of_ble_eq_true rfl⟩ dL_law_294 rfl eY (fun H locs hwY hwX => ?_)
  refine lv_goto hx hb dL_law_297 rfl ?_
  exact hend hRel hwX hwY hl
set_option maxRecDepth 100000 in
set_option maxHeartbeats 4000000 in
theorem lc_drawn (cX : rx_C p m c code 4 s args (kw :: wA) RL D vwCl (tX cI cL) (zX b1 b2) wN A) (cY : rx_C p m c code 4 s args (kw :: wA) RL D vwCl (tY cI cZ) [] wN A) (hj : ∀ (M M2 : Me) (i j : Nat) (x y : Nat × va_E), (wX adX cI cL M)[i]? = some x → (wY adY cI cZ M2)[j]? = some y → x.1 ≠ y.1) (hXs : va_X b L xs s s.heap) (hbl : b < s.heap.size) (hbA : ¬ A b) (hL : L ≤ 3584) {Rel : Nat → Me → Me → Prop} (h_drawn : rl_step Rel (fun M => qf_X6_drawn M) (fun M => qf_X7_drawn M)) {i : Nat} (hi : i + 7 ≤ L) {ls : Array Slot} {MX MY : Me} {H : Heap} {locs : List Loc} (hRel : Rel i MX MY) (hwX : rx_W D vwCl (wX adX cI cL) A s.heap MX H locs) (hwY : rx_W D vwCl (wY adY cI cZ) A s.heap MY H locs) (hl : lv_has ls 4 [(0, .ref b), (1, .ref (adX 0)), (2, .ref (adY 0)), (3, .int (nI i))]) (hend : ∀ {MX MY : Me} {H : Heap} {locs : List Loc}, Rel (i + 7) MX MY → rx_W D vwCl (wX adX cI cL) A s.heap MX H locs → rx_W D vwCl (wY adY cI cZ) A s.heap MY H locs → lv_has ls 4 [(0, .ref b), (1, .ref (adX 0)), (2, .ref (adY 0)), (3, .int (nI i))] → W p l e room_1 s m args below meth c H locs 61 5957 Q (F0 m 603 ls [])) : W p l e room_1 s m args below meth c H locs 61 5957 Q (F0 m 300 ls []) := by
  have hx := cX.1.1
  have hb := cX.1.2.1
  obtain ⟨r, MX1, MY1, eX, eY, hRel⟩ := h_drawn i MX MY (by omega) hRel
  refine lv_aload_n hx hb dL_law_300 rfl (lv_at hl 1 rfl) ?_
  refine rl_jVi cX hj hwX hwY (qc_X6_drawn l D adX cI cL b1 b2 ) (obX_0 adX cI cL) rfl rfl kfX6_drawn tw_441 ⟨Nat.le_of_ble_eq_true rfl, Nat.le_of_ble_eq_true rfl, rfl, rfl⟩ rfl hl.1 (Nat.le_of_ble_eq_true rfl) ⟨Nat.le_of_ble_eq_true rfl, Nat.le_of_ble_eq_true rfl⟩ dL_law_301 rfl eX (fun H locs hwX hwY => ?_)
  refine lv_aload_n hx hb dL_law_304 rfl (lv_at hl 2 rfl) ?_
  refine rl_jVi cY (fun M M2 i j x y hx hy e => hj M2 M j i y x hy hx e.symm) hwY hwX (qc_X7_drawn l D adY cI cZ  ) (obY_0 adY cI cZ) rfl rfl kfX7_drawn tw_837 ⟨Nat.le_of_ble_eq_true rfl, Nat.le_of_ble_eq_true rfl, rfl, rfl⟩ rfl hl.1 (Nat.le_of_ble_eq_true rfl) ⟨Nat.le_of_ble_eq_true rfl, Nat.le_of_ble_eq_true rfl⟩ dL_law_305 rfl eY (fun H locs hwY hwX => ?_)
  refine lv_icmp_eq hx hb dL_law_308 rfl (fun _ => ?_) (fun hc => absurd rfl hc)
  exact hend hRel hwX hwY hl
set_option maxRecDepth 100000 in
set_option maxHeartbeats 4000000 in
theorem lc_game (cX : rx_C p m c code 4 s args (kw :: wA) RL D vwCl (tX cI cL) (zX b1 b2) wN A) (cY : rx_C p m c code 4 s args (kw :: wA) RL D vwCl (tY cI cZ) [] wN A) (hj : ∀ (M M2 : Me) (i j : Nat) (x y : Nat × va_E), (wX adX cI cL M)[i]? = some x → (wY adY cI cZ M2)[j]? = some y → x.1 ≠ y.1) (hXs : va_X b L xs s s.heap) (hbl : b < s.heap.size) (hbA : ¬ A b) (hL : L ≤ 3584) {Rel : Nat → Me → Me → Prop} (h_game : ∀ (a0 : Int32), rl_step Rel (fun M => qf_X6_game a0 M) (fun M => qf_X7_game a0 M)) {i : Nat} (hi : i + 7 ≤ L) {ls : Array Slot} {MX MY : Me} {H : Heap} {locs : List Loc} (hRel : Rel i MX MY) (hwX : rx_W D vwCl (wX adX cI cL) A s.heap MX H locs) (hwY : rx_W D vwCl (wY adY cI cZ) A s.heap MY H locs) (hl : lv_has ls 4 [(0, .ref b), (1, .ref (adX 0)), (2, .ref (adY 0)), (3, .int (nI i))]) (hend : ∀ {MX MY : Me} {H : Heap} {locs : List Loc}, Rel (i + 7) MX MY → rx_W D vwCl (wX adX cI cL) A s.heap MX H locs → rx_W D vwCl (wY adY cI cZ) A s.heap MY H locs → lv_has ls 4 [(0, .ref b), (1, .ref (adX 0)), (2, .ref (adY 0)), (3, .int (nI i))] → W p l e room_1 s m args below meth c H locs 61 5957 Q (F0 m 603 ls [])) : W p l e room_1 s m args below meth c H locs 61 5957 Q (F0 m 313 ls []) := by
  have hx := cX.1.1
  have hb := cX.1.2.1
  obtain ⟨r, MX1, MY1, eX, eY, hRel⟩ := h_game (xs (i + 1)) i MX MY (by omega) hRel
  refine lv_aload_n hx hb dL_law_313 rfl (lv_at hl 1 rfl) ?_
  refine lv_aload_n hx hb dL_law_314 rfl (lv_at hl 0 rfl) ?_
  refine lv_iload_n hx hb dL_law_315 rfl (lv_at hl 3 rfl) ?_
  refine lv_iconst (v := 1) hx hb dL_law_316 ic_1 ?_
  refine lv_iadd hx hb dL_law_317 ?_
  refine rl_ld hx hb hXs hbl hbA hwX.2.2 hL (i + 1) (rl_add i 1) (by omega) dL_law_318 ?_
  refine rl_jVi cX hj hwX hwY (qc_X6_game l D adX cI cL b1 b2 (xs (i + 1))) (obX_0 adX cI cL) rfl rfl kfX6_game tw_445 ⟨Nat.le_of_ble_eq_true rfl, Nat.le_of_ble_eq_true rfl, rfl, rfl⟩ rfl hl.1 (Nat.le_of_ble_eq_true rfl) ⟨Nat.le_of_ble_eq_true rfl, Nat.le_of_ble_eq_true rfl⟩ dL_law_319 rfl eX (fun H locs hwX hwY => ?_)
  refine lv_aload_n hx hb dL_law_322 rfl (lv_at hl 2 rfl) ?_
  refine lv_aload_n hx hb dL_law_323 rfl (lv_at hl 0 rfl) ?_
  refine lv_iload_n hx hb dL_law_324 rfl (lv_at hl 3 rfl) ?_
  refine lv_iconst (v := 1) hx hb dL_law_325 ic_1 ?_
  refine lv_iadd hx hb dL_law_326 ?_
  refine rl_ld hx hb hXs hbl hbA hwX.2.2 hL (i + 1) (rl_add i 1) (by omega) dL_law_327 ?_
  refine rl_jVi cY (fun M M2 i j x y hx hy e => hj M2 M j i y x hy hx e.symm) hwY hwX (qc_X7_game l D adY cI cZ  (xs (i + 1))) (obY_0 adY cI cZ) rfl rfl kfX7_game tw_841 ⟨Nat.le_of_ble_eq_true rfl, Nat.le_of_ble_eq_true rfl, rfl, rfl⟩ rfl hl.1 (Nat.le_of_ble_eq_true rfl) ⟨Nat.le_of_ble_eq_true rfl, Nat.le_of_ble_eq_true rfl⟩ dL_law_328 rfl eY (fun H locs hwY hwX => ?_)
  refine lv_icmp_eq hx hb dL_law_331 rfl (fun _ => ?_) (fun hc => absurd rfl hc)
  exact hend hRel hwX hwY hl
set_option maxRecDepth 100000 in
set_option maxHeartbeats 4000000 in
theorem lc_fits (cX : rx_C p m c code 4 s args (kw :: wA) RL D vwCl (tX cI cL) (zX b1 b2) wN A) (cY : rx_C p m c code 4 s args (kw :: wA) RL D vwCl (tY cI cZ) [] wN A) (hj : ∀ (M M2 : Me) (i j : Nat) (x y : Nat × va_E), (wX adX cI cL M)[i]? = some x → (wY adY cI cZ M2)[j]? = some y → x.1 ≠ y.1) (hXs : va_X b L xs s s.heap) (hbl : b < s.heap.size) (hbA : ¬ A b) (hL : L ≤ 3584) {Rel : Nat → Me → Me → Prop} (h_fits : ∀ (a0 : Int32) (a1 : Int32), rl_step Rel (fun M => qf_X6_fits a0 a1 M) (fun M => qf_X7_fits a0 a1 M)) {i : Nat} (hi : i + 7 ≤ L) {ls : Array Slot} {MX MY : Me} {H : Heap} {locs : List Loc} (hRel : Rel i MX MY) (hwX : rx_W D vwCl (wX adX cI cL) A s.heap MX H locs) (hwY : rx_W D vwCl (wY adY cI cZ) A s.heap MY H locs) (hl : lv_has ls 4 [(0, .ref b), (1, .ref (adX 0)), (2, .ref (adY 0)), (3, .int (nI i))]) (hend : ∀ {MX MY : Me} {H : Heap} {locs : List Loc}, Rel (i + 7) MX MY → rx_W D vwCl (wX adX cI cL) A s.heap MX H locs → rx_W D vwCl (wY adY cI cZ) A s.heap MY H locs → lv_has ls 4 [(0, .ref b), (1, .ref (adX 0)), (2, .ref (adY 0)), (3, .int (nI i))] → W p l e room_1 s m args below meth c H locs 61 5957 Q (F0 m 603 ls [])) : W p l e room_1 s m args below meth c H locs 61 5957 Q (F0 m 336 ls []) := by
  have hx := cX.1.1
  have hb := cX.1.2.1
  obtain ⟨r, MX1, MY1, eX, eY, hRel⟩ := h_fits (xs (i + 1)) (xs (i + 2)) i MX MY (by omega) hRel
  refine lv_aload_n hx hb dL_law_336 rfl (lv_at hl 1 rfl) ?_
  refine lv_aload_n hx hb dL_law_337 rfl (lv_at hl 0 rfl) ?_
  refine lv_iload_n hx hb dL_law_338 rfl (lv_at hl 3 rfl) ?_
  refine lv_iconst (v := 1) hx hb dL_law_339 ic_1 ?_
  refine lv_iadd hx hb dL_law_340 ?_
  refine rl_ld hx hb hXs hbl hbA hwX.2.2 hL (i + 1) (rl_add i 1) (by omega) dL_law_341 ?_
  refine lv_aload_n hx hb dL_law_342 rfl (lv_at hl 0 rfl) ?_
  refine lv_iload_n hx hb dL_law_343 rfl (lv_at hl 3 rfl) ?_
  refine lv_iconst (v := 2) hx hb dL_law_344 ic_2 ?_
  refine lv_iadd hx hb dL_law_345 ?_
  refine rl_ld hx hb hXs hbl hbA hwX.2.2 hL (i + 2) (rl_add i 2) (by omega) dL_law_346 ?_
  refine rl_jVi cX hj hwX hwY (qc_X6_fits l D adX cI cL b1 b2 (xs (i + 1)) (xs (i + 2))) (obX_0 adX cI cL) rfl rfl kfX6_fits tw_454 ⟨Nat.le_of_ble_eq_true rfl, Nat.le_of_ble_eq_true rfl, rfl, rfl⟩ rfl hl.1 (Nat.le_of_ble_eq_true rfl) ⟨Nat.le_of_ble_eq_true rfl, Nat.le_of_ble_eq_true rfl⟩ dL_law_347 rfl eX (fun H locs hwX hwY => ?_)
  refine lv_aload_n hx hb dL_law_350 rfl (lv_at hl 2 rfl) ?_
  refine lv_aload_n hx hb dL_law_351 rfl (lv_at hl 0 rfl) ?_
  refine lv_iload_n hx hb dL_law_352 rfl (lv_at hl 3 rfl) ?_
  refine lv_iconst (v := 1) hx hb dL_law_353 ic_1 ?_
  refine lv_iadd hx hb dL_law_354 ?_
  refine rl_ld hx hb hXs hbl hbA hwX.2.2 hL (i + 1) (rl_add i 1) (by omega) dL_law_355 ?_
  refine lv_aload_n hx hb dL_law_356 rfl (lv_at hl 0 rfl) ?_
  refine lv_iload_n hx hb dL_law_357 rfl (lv_at hl 3 rfl) ?_
  refine lv_iconst (v := 2) hx hb dL_law_358 ic_2 ?_
  refine lv_iadd hx hb dL_law_359 ?_
  refine rl_ld hx hb hXs hbl hbA hwX.2.2 hL (i + 2) (rl_add i 2) (by omega) dL_law_360 ?_
  refine rl_jVi cY (fun M M2 i j x y hx hy e => hj M2 M j i y x hy hx e.symm) hwY hwX (qc_X7_fits l D adY cI cZ  (xs (i + 1)) (xs (i + 2))) (obY_0 adY cI cZ) rfl rfl kfX7_fits tw_845 ⟨Nat.le_of_ble_eq_true rfl, Nat.le_of_ble_eq_true rfl, rfl, rfl⟩ rfl hl.1 (Nat.le_of_ble_eq_true rfl) ⟨Nat.le_of_ble_eq_true rfl, Nat.le_of_ble_eq_true rfl⟩ dL_law_361 rfl eY (fun H locs hwY hwX => ?_)
  refine lv_icmp_eq hx hb dL_law_364 rfl (fun _ => ?_) (fun hc => absurd rfl hc)
  exact hend hRel hwX hwY hl
set_option maxRecDepth 100000 in
set_option maxHeartbeats 4000000 in
theorem lc_place (cX : rx_C p m c code 4 s args (kw :: wA) RL D vwCl (tX cI cL) (zX b1 b2) wN A) (cY : rx_C p m c code 4 s args (kw :: wA) RL D vwCl (tY cI cZ) [] wN A) (hj : ∀ (M M2 : Me) (i j : Nat) (x y : Nat × va_E), (wX adX cI cL M)[i]? = some x → (wY adY cI cZ M2)[j]? = some y → x.1 ≠ y.1) (hXs : va_X b L xs s s.heap) (hbl : b < s.heap.size) (hbA : ¬ A b) (hL : L ≤ 3584) {Rel : Nat → Me → Me → Prop} (h_place : ∀ (a0 : Int32) (a1 : Int32) (a2 : Int32), rl_step Rel (fun M => qf_X6_place a0 a1 a2 M) (fun M => qf_X7_place a0 a1 a2 M)) {i : Nat} (hi : i + 7 ≤ L) {ls : Array Slot} {MX MY : Me} {H : Heap} {locs : List Loc} (hRel : Rel i MX MY) (hwX : rx_W D vwCl (wX adX cI cL) A s.heap MX H locs) (hwY : rx_W D vwCl (wY adY cI cZ) A s.heap MY H locs) (hl : lv_has ls 4 [(0, .ref b), (1, .ref (adX 0)), (2, .ref (adY 0)), (3, .int (nI i))]) (hend : ∀ {MX MY : Me} {H : Heap} {locs : List Loc}, Rel (i + 7) MX MY → rx_W D vwCl (wX adX cI cL) A s.heap MX H locs → rx_W D vwCl (wY adY cI cZ) A s.heap MY H locs → lv_has ls 4 [(0, .ref b), (1, .ref (adX 0)), (2, .ref (adY 0)), (3, .int (nI i))] → W p l e room_1 s m args below meth c H locs 61 5957 Q (F0 m 603 ls [])) : W p l e room_1 s m args below meth c H locs 61 5957 Q (F0 m 369 ls []) := by
  have hx := cX.1.1
  have hb := cX.1.2.1
  obtain ⟨r, MX1, MY1, eX, eY, hRel⟩ := h_place (xs (i + 1)) (xs (i + 2)) (xs (i + 3)) i MX MY (by omega) hRel
  refine lv_aload_n hx hb dL_law_369 rfl (lv_at hl 1 rfl) ?_
  refine lv_aload_n hx hb dL_law_370 rfl (lv_at hl 0 rfl) ?_
  refine lv_iload_n hx hb dL_law_371 rfl (lv_at hl 3 rfl) ?_
  refine lv_iconst (v := 1) hx hb dL_law_372 ic_1 ?_
  refine lv_iadd hx hb dL_law_373 ?_
  refine rl_ld hx hb hXs hbl hbA hwX.2.2 hL (i + 1) (rl_add i 1) (by omega) dL_law_374 ?_
  refine lv_aload_n hx hb dL_law_375 rfl (lv_at hl 0 rfl) ?_
  refine lv_iload_n hx hb dL_law_376 rfl (lv_at hl 3 rfl) ?_
  refine lv_iconst (v := 2) hx hb dL_law_377 ic_2 ?_
  refine lv_iadd hx hb dL_law_378 ?_
  refine rl_ld hx hb hXs hbl hbA hwX.2.2 hL (i + 2) (rl_add i 2) (by omega) dL_law_379 ?_
  refine lv_aload_n hx hb dL_law_380 rfl (lv_at hl 0 rfl) ?_
  refine lv_iload_n hx hb dL_law_381 rfl (lv_at hl 3 rfl) ?_
  refine lv_iconst (v := 3) hx hb dL_law_382 ic_3 ?_
  refine lv_iadd hx hb dL_law_383 ?_
  refine rl_ld hx hb hXs hbl hbA hwX.2.2 hL (i + 3) (rl_add i 3) (by omega) dL_law_384 ?_
  refine rl_jVi cX hj hwX hwY (qc_X6_place l D adX cI cL b1 b2 (xs (i + 1)) (xs (i + 2)) (xs (i + 3))) (obX_0 adX cI cL) rfl rfl kfX6_place tw_466 ⟨Nat.le_of_ble_eq_true rfl, Nat.le_of_ble_eq_true rfl, rfl, rfl⟩ rfl hl.1 (Nat.le_of_ble_eq_true rfl) ⟨Nat.le_of_ble_eq_true rfl, Nat.le_of_ble_eq_true rfl⟩ dL_law_385 rfl eX (fun H locs hwX hwY => ?_)
  refine lv_aload_n hx hb dL_law_388 rfl (lv_at hl 2 rfl) ?_
  refine lv_aload_n hx hb dL_law_389 rfl (lv_at hl 0 rfl) ?_
  refine lv_iload_n hx hb dL_law_390 rfl (lv_at hl 3 rfl) ?_
  refine lv_iconst (v := 1) hx hb dL_law_391 ic_1 ?_
  refine lv_iadd hx hb dL_law_392 ?_
  refine rl_ld hx hb hXs hbl hbA hwX.2.2 hL (i + 1) (rl_add i 1) (by omega) dL_law_393 ?_
  refine lv_aload_n hx hb dL_law_394 rfl (lv_at hl 0 rfl) ?_
  refine lv_iload_n hx hb dL_law_395 rfl (lv_at hl 3 rfl) ?_
  refine lv_iconst (v := 2) hx hb dL_law_396 ic_2 ?_
  refine lv_iadd hx hb dL_law_397 ?_
  refine rl_ld hx hb hXs hbl hbA hwX.2.2 hL (i + 2) (rl_add i 2) (by omega) dL_law_398 ?_
  refine lv_aload_n hx hb dL_law_399 rfl (lv_at hl 0 rfl) ?_
  refine lv_iload_n hx hb dL_law_400 rfl (lv_at hl 3 rfl) ?_
  refine lv_iconst (v := 3) hx hb dL_law_401 ic_3 ?_
  refine lv_iadd hx hb dL_law_402 ?_
  refine rl_ld hx hb hXs hbl hbA hwX.2.2 hL (i + 3) (rl_add i 3) (by omega) dL_law_403 ?_
  refine rl_jVi cY (fun M M2 i j x y hx hy e => hj M2 M j i y x hy hx e.symm) hwY hwX (qc_X7_place l D adY cI cZ  (xs (i + 1)) (xs (i + 2)) (xs (i + 3))) (obY_0 adY cI cZ) rfl rfl kfX7_place tw_853 ⟨Nat.le_of_ble_eq_true rfl, Nat.le_of_ble_eq_true rfl, rfl, rfl⟩ rfl hl.1 (Nat.le_of_ble_eq_true rfl) ⟨Nat.le_of_ble_eq_true rfl, Nat.le_of_ble_eq_true rfl⟩ dL_law_404 rfl eY (fun H locs hwY hwX => ?_)
  refine lv_icmp_eq hx hb dL_law_407 rfl (fun _ => ?_) (fun hc => absurd rfl hc)
  exact hend hRel hwX hwY hl
set_option maxRecDepth 100000 in
set_option maxHeartbeats 4000000 in
theorem lc_follow (cX : rx_C p m c code 4 s args (kw :: wA) RL D vwCl (tX cI cL) (zX b1 b2) wN A) (cY : rx_C p m c code 4 s args (kw :: wA) RL D vwCl (tY cI cZ) [] wN A) (hj : ∀ (M M2 : Me) (i j : Nat) (x y : Nat × va_E), (wX adX cI cL M)[i]? = some x → (wY adY cI cZ M2)[j]? = some y → x.1 ≠ y.1) (hXs : va_X b L xs s s.heap) (hbl : b < s.heap.size) (hbA : ¬ A b) (hL : L ≤ 3584) {Rel : Nat → Me → Me → Prop} (h_follow : ∀ (a0 : Int32), rl_step Rel (fun M => qf_X6_follow a0 M) (fun M => qf_X7_follow a0 M)) {i : Nat} (hi : i + 7 ≤ L) {ls : Array Slot} {MX MY : Me} {H : Heap} {locs : List Loc} (hRel : Rel i MX MY) (hwX : rx_W D vwCl (wX adX cI cL) A s.heap MX H locs) (hwY : rx_W D vwCl (wY adY cI cZ) A s.heap MY H locs) (hl : lv_has ls 4 [(0, .ref b), (1, .ref (adX 0)), (2, .ref (adY 0)), (3, .int (nI i))]) (hend : ∀ {MX MY : Me} {H : Heap} {locs : List Loc}, Rel (i + 7) MX MY → rx_W D vwCl (wX adX cI cL) A s.heap MX H locs → rx_W D vwCl (wY adY cI cZ) A s.heap MY H locs → lv_has ls 4 [(0, .ref b), (1, .ref (adX 0)), (2, .ref (adY 0)), (3, .int (nI i))] → W p l e room_1 s m args below meth c H locs 61 5957 Q (F0 m 603 ls [])) : W p l e room_1 s m args below meth c H locs 61 5957 Q (F0 m 412 ls []) := by
  have hx := cX.1.1
  have hb := cX.1.2.1
  obtain ⟨r, MX1, MY1, eX, eY, hRel⟩ := h_follow (xs (i + 1)) i MX MY (by omega) hRel
  refine lv_aload_n hx hb dL_law_412 rfl (lv_at hl 1 rfl) ?_
  refine lv_aload_n hx hb dL_law_413 rfl (lv_at hl 0 rfl) ?_
  refine lv_iload_n hx hb dL_law_414 rfl (lv_at hl 3 rfl) ?_
  refine lv_iconst (v := 1) hx hb dL_law_415 ic_1 ?_
  refine lv_iadd hx hb dL_law_416 ?_
  refine rl_ld hx hb hXs hbl hbA hwX.2.2 hL (i + 1) (rl_add i 1) (by omega) dL_law_417 ?_
  refine rl_jVi cX hj hwX hwY (qc_X6_follow l D adX cI cL b1 b2 (xs (i + 1))) (obX_0 adX cI cL) rfl rfl kfX6_follow tw_503 ⟨Nat.le_of_ble_eq_true rfl, Nat.le_of_ble_eq_true rfl, rfl, rfl⟩ rfl hl.1 (Nat.le_of_ble_eq_true rfl) ⟨Nat.le_of_ble_eq_true rfl, Nat.le_of_ble_eq_true rfl⟩ dL_law_418 rfl eX (fun H locs hwX hwY => ?_)
  refine lv_aload_n hx hb dL_law_421 rfl (lv_at hl 2 rfl) ?_
  refine lv_aload_n hx hb dL_law_422 rfl (lv_at hl 0 rfl) ?_
  refine lv_iload_n hx hb dL_law_423 rfl (lv_at hl 3 rfl) ?_
  refine lv_iconst (v := 1) hx hb dL_law_424 ic_1 ?_
  refine lv_iadd hx hb dL_law_425 ?_
  refine rl_ld hx hb hXs hbl hbA hwX.2.2 hL (i + 1) (rl_add i 1) (by omega) dL_law_426 ?_
  refine rl_jVi cY (fun M M2 i j x y hx hy e => hj M2 M j i y x hy hx e.symm) hwY hwX (qc_X7_follow l D adY cI cZ  (xs (i + 1))) (obY_0 adY cI cZ) rfl rfl kfX7_follow tw_865 ⟨Nat.le_of_ble_eq_true rfl, Nat.le_of_ble_eq_true rfl, rfl, rfl⟩ rfl hl.1 (Nat.le_of_ble_eq_true rfl) ⟨Nat.le_of_ble_eq_true rfl, Nat.le_of_ble_eq_true rfl⟩ dL_law_427 rfl eY (fun H locs hwY hwX => ?_)
  refine lv_icmp_eq hx hb dL_law_430 rfl (fun _ => ?_) (fun hc => absurd rfl hc)
  exact hend hRel hwX hwY hl
set_option maxRecDepth 100000 in
set_option maxHeartbeats 4000000 in
theorem lc_undo (cX : rx_C p m c code 4 s args (kw :: wA) RL D vwCl (tX cI cL) (zX b1 b2) wN A) (cY : rx_C p m c code 4 s args (kw :: wA) RL D vwCl (tY cI cZ) [] wN A) (hj : ∀ (M M2 : Me) (i j : Nat) (x y : Nat × va_E), (wX adX cI cL M)[i]? = some x → (wY adY cI cZ M2)[j]? = some y → x.1 ≠ y.1) (hXs : va_X b L xs s s.heap) (hbl : b < s.heap.size) (hbA : ¬ A b) (hL : L ≤ 3584) {Rel : Nat → Me → Me → Prop} (h_undo : rl_step Rel (fun M => qf_X6_undo M) (fun M => qf_X7_undo M)) {i : Nat} (hi : i + 7 ≤ L) {ls : Array Slot} {MX MY : Me} {H : Heap} {locs : List Loc} (hRel : Rel i MX MY) (hwX : rx_W D vwCl (wX adX cI cL) A s.heap MX H locs) (hwY : rx_W D vwCl (wY adY cI cZ) A s.heap MY H locs) (hl : lv_has ls 4 [(0, .ref b), (1, .ref (adX 0)), (2, .ref (adY 0)), (3, .int (nI i))]) (hend : ∀ {MX MY : Me} {H : Heap} {locs : List Loc}, Rel (i + 7) MX MY → rx_W D vwCl (wX adX cI cL) A s.heap MX H locs → rx_W D vwCl (wY adY cI cZ) A s.heap MY H locs → lv_has ls 4 [(0, .ref b), (1, .ref (adX 0)), (2, .ref (adY 0)), (3, .int (nI i))] → W p l e room_1 s m args below meth c H locs 61 5957 Q (F0 m 603 ls [])) : W p l e room_1 s m args below meth c H locs 61 5957 Q (F0 m 435 ls []) := by
  have hx := cX.1.1
  have hb := cX.1.2.1
  obtain ⟨r, MX1, MY1, eX, eY, hRel⟩ := h_undo i MX MY (by omega) hRel
  refine lv_aload_n hx hb dL_law_435 rfl (lv_at hl 1 rfl) ?_
  refine rl_jVi cX hj hwX hwY (qc_X6_undo l D adX cI cL b1 b2 ) (obX_0 adX cI cL) rfl rfl kfX6_undo tw_567 ⟨Nat.le_of_ble_eq_true rfl, Nat.le_of_ble_eq_true rfl, rfl, rfl⟩ rfl hl.1 (Nat.le_of_ble_eq_true rfl) ⟨Nat.le_of_ble_eq_true rfl, Nat.le_of_ble_eq_true rfl⟩ dL_law_436 rfl eX (fun H locs hwX hwY => ?_)
  refine lv_aload_n hx hb dL_law_439 rfl (lv_at hl 2 rfl) ?_
  refine rl_jVi cY (fun M M2 i j x y hx hy e => hj M2 M j i y x hy hx e.symm) hwY hwX (qc_X7_undo l D adY cI cZ  ) (obY_0 adY cI cZ) rfl rfl kfX7_undo tw_921 ⟨Nat.le_of_ble_eq_true rfl, Nat.le_of_ble_eq_true rfl, rfl, rfl⟩ rfl hl.1 (Nat.le_of_ble_eq_true rfl) ⟨Nat.le_of_ble_eq_true rfl, Nat.le_of_ble_eq_true rfl⟩ dL_law_440 rfl eY (fun H locs hwY hwX => ?_)
  refine lv_icmp_eq hx hb dL_law_443 rfl (fun _ => ?_) (fun hc => absurd rfl hc)
  exact hend hRel hwX hwY hl
set_option maxRecDepth 100000 in
set_option maxHeartbeats 4000000 in
theorem lc_region (cX : rx_C p m c code 4 s args (kw :: wA) RL D vwCl (tX cI cL) (zX b1 b2) wN A) (cY : rx_C p m c code 4 s args (kw :: wA) RL D vwCl (tY cI cZ) [] wN A) (hj : ∀ (M M2 : Me) (i j : Nat) (x y : Nat × va_E), (wX adX cI cL M)[i]? = some x → (wY adY cI cZ M2)[j]? = some y → x.1 ≠ y.1) (hXs : va_X b L xs s s.heap) (hbl : b < s.heap.size) (hbA : ¬ A b) (hL : L ≤ 3584) {Rel : Nat → Me → Me → Prop} (h_region : ∀ (a0 : Int32) (a1 : Int32) (a2 : Int32), rl_step Rel (fun M => qf_X6_region a0 a1 a2 M) (fun M => qf_X7_region a0 a1 a2 M)) {i : Nat} (hi : i + 7 ≤ L) {ls : Array Slot} {MX MY : Me} {H : Heap} {locs : List Loc} (hRel : Rel i MX MY) (hwX : rx_W D vwCl (wX adX cI cL) A s.heap MX H locs) (hwY : rx_W D vwCl (wY adY cI cZ) A s.heap MY H locs) (hl : lv_has ls 4 [(0, .ref b), (1, .ref (adX 0)), (2, .ref (adY 0)), (3, .int (nI i))]) (hend : ∀ {MX MY : Me} {H : Heap} {locs : List Loc}, Rel (i + 7) MX MY → rx_W D vwCl (wX adX cI cL) A s.heap MX H locs → rx_W D vwCl (wY adY cI cZ) A s.heap MY H locs → lv_has ls 4 [(0, .ref b), (1, .ref (adX 0)), (2, .ref (adY 0)), (3, .int (nI i))] → W p l e room_1 s m args below meth c H locs 61 5957 Q (F0 m 603 ls [])) : W p l e room_1 s m args below meth c H locs 61 5957 Q (F0 m 448 ls []) := by
  have hx := cX.1.1
  have hb := cX.1.2.1
  obtain ⟨r, MX1, MY1, eX, eY, hRel⟩ := h_region (xs (i + 1)) (xs (i + 2)) (xs (i + 3)) i MX MY (by omega) hRel
  refine lv_aload_n hx hb dL_law_448 rfl (lv_at hl 1 rfl) ?_
  refine lv_aload_n hx hb dL_law_449 rfl (lv_at hl 0 rfl) ?_
  refine lv_iload_n hx hb dL_law_450 rfl (lv_at hl 3 rfl) ?_
  refine lv_iconst (v := 1) hx hb dL_law_451 ic_1 ?_
  refine lv_iadd hx hb dL_law_452 ?_
  refine rl_ld hx hb hXs hbl hbA hwX.2.2 hL (i + 1) (rl_add i 1) (by omega) dL_law_453 ?_
  refine lv_aload_n hx hb dL_law_454 rfl (lv_at hl 0 rfl) ?_
  refine lv_iload_n hx hb dL_law_455 rfl (lv_at hl 3 rfl) ?_
  refine lv_iconst (v := 2) hx hb dL_law_456 ic_2 ?_
  refine lv_iadd hx hb dL_law_457 ?_
  refine rl_ld hx hb hXs hbl hbA hwX.2.2 hL (i + 2) (rl_add i 2) (by omega) dL_law_458 ?_
  refine lv_aload_n hx hb dL_law_459 rfl (lv_at hl 0 rfl) ?_
  refine lv_iload_n hx hb dL_law_460 rfl (lv_at hl 3 rfl) ?_
  refine lv_iconst (v := 3) hx hb dL_law_461 ic_3 ?_
  refine lv_iadd hx hb dL_law_462 ?_
  refine rl_ld hx hb hXs hbl hbA hwX.2.2 hL (i + 3) (rl_add i 3) (by omega) dL_law_463 ?_
  refine rl_jVi cX hj hwX hwY (qc_X6_region l D adX cI cL b1 b2 (xs (i + 1)) (xs (i + 2)) (xs (i + 3))) (obX_0 adX cI cL) rfl rfl kfX6_region tw_572 ⟨Nat.le_of_ble_eq_true rfl, Nat.le_of_ble_eq_true rfl, rfl, rfl⟩ rfl hl.1 (Nat.le_of_ble_eq_true rfl) ⟨Nat.le_of_ble_eq_true rfl, Nat.le_of_ble_eq_true rfl⟩ dL_law_464 rfl eX (fun H locs hwX hwY => ?_)
  refine lv_aload_n hx hb dL_law_467 rfl (lv_at hl 2 rfl) ?_
  refine lv_aload_n hx hb dL_law_468 rfl (lv_at hl 0 rfl) ?_
  refine lv_iload_n hx hb dL_law_469 rfl (lv_at hl 3 rfl) ?_
  refine lv_iconst (v := 1) hx hb dL_law_470 ic_1 ?_
  refine lv_iadd hx hb dL_law_471 ?_
  refine rl_ld hx hb hXs hbl hbA hwX.2.2 hL (i + 1) (rl_add i 1) (by omega) dL_law_472 ?_
  refine lv_aload_n hx hb dL_law_473 rfl (lv_at hl 0 rfl) ?_
  refine lv_iload_n hx hb dL_law_474 rfl (lv_at hl 3 rfl) ?_
  refine lv_iconst (v := 2) hx hb dL_law_475 ic_2 ?_
  refine lv_iadd hx hb dL_law_476 ?_
  refine rl_ld hx hb hXs hbl hbA hwX.2.2 hL (i + 2) (rl_add i 2) (by omega) dL_law_477 ?_
  refine lv_aload_n hx hb dL_law_478 rfl (lv_at hl 0 rfl) ?_
  refine lv_iload_n hx hb dL_law_479 rfl (lv_at hl 3 rfl) ?_
  refine lv_iconst (v := 3) hx hb dL_law_480 ic_3 ?_
  refine lv_iadd hx hb dL_law_481 ?_
  refine rl_ld hx hb hXs hbl hbA hwX.2.2 hL (i + 3) (rl_add i 3) (by omega) dL_law_482 ?_
  refine rl_jVi cY (fun M M2 i j x y hx hy e => hj M2 M j i y x hy hx e.symm) hwY hwX (qc_X7_region l D adY cI cZ  (xs (i + 1)) (xs (i + 2)) (xs (i + 3))) (obY_0 adY cI cZ) rfl rfl kfX7_region tw_925 ⟨Nat.le_of_ble_eq_true rfl, Nat.le_of_ble_eq_true rfl, rfl, rfl⟩ rfl hl.1 (Nat.le_of_ble_eq_true rfl) ⟨Nat.le_of_ble_eq_true rfl, Nat.le_of_ble_eq_true rfl⟩ dL_law_483 rfl eY (fun H locs hwY hwX => ?_)
  refine lv_icmp_eq hx hb dL_law_486 rfl (fun _ => ?_) (fun hc => absurd rfl hc)
  exact hend hRel hwX hwY hl
set_option maxRecDepth 100000 in
set_option maxHeartbeats 4000000 in
theorem lc_about (cX : rx_C p m c code 4 s args (kw :: wA) RL D vwCl (tX cI cL) (zX b1 b2) wN A) (cY : rx_C p m c code 4 s args (kw :: wA) RL D vwCl (tY cI cZ) [] wN A) (hj : ∀ (M M2 : Me) (i j : Nat) (x y : Nat × va_E), (wX adX cI cL M)[i]? = some x → (wY adY cI cZ M2)[j]? = some y → x.1 ≠ y.1) (hXs : va_X b L xs s s.heap) (hbl : b < s.heap.size) (hbA : ¬ A b) (hL : L ≤ 3584) {Rel : Nat → Me → Me → Prop} (h_about : ∀ (a0 : Int32) (a1 : Int32), rl_step Rel (fun M => qf_X6_about a0 a1 M) (fun M => qf_X7_about a0 a1 M)) {i : Nat} (hi : i + 7 ≤ L) {ls : Array Slot} {MX MY : Me} {H : Heap} {locs : List Loc} (hRel : Rel i MX MY) (hwX : rx_W D vwCl (wX adX cI cL) A s.heap MX H locs) (hwY : rx_W D vwCl (wY adY cI cZ) A s.heap MY H locs) (hl : lv_has ls 4 [(0, .ref b), (1, .ref (adX 0)), (2, .ref (adY 0)), (3, .int (nI i))]) (hend : ∀ {MX MY : Me} {H : Heap} {locs : List Loc}, Rel (i + 7) MX MY → rx_W D vwCl (wX adX cI cL) A s.heap MX H locs → rx_W D vwCl (wY adY cI cZ) A s.heap MY H locs → lv_has ls 4 [(0, .ref b), (1, .ref (adX 0)), (2, .ref (adY 0)), (3, .int (nI i))] → W p l e room_1 s m args below meth c H locs 61 5957 Q (F0 m 603 ls [])) : W p l e room_1 s m args below meth c H locs 61 5957 Q (F0 m 491 ls []) := by
  have hx := cX.1.1
  have hb := cX.1.2.1
  obtain ⟨r, MX1, MY1, eX, eY, hRel⟩ := h_about (xs (i + 1)) (xs (i + 2)) i MX MY (by omega) hRel
  refine lv_aload_n hx hb dL_law_491 rfl (lv_at hl 1 rfl) ?_
  refine lv_aload_n hx hb dL_law_492 rfl (lv_at hl 0 rfl) ?_
  refine lv_iload_n hx hb dL_law_493 rfl (lv_at hl 3 rfl) ?_
  refine lv_iconst (v := 1) hx hb dL_law_494 ic_1 ?_
  refine lv_iadd hx hb dL_law_495 ?_
  refine rl_ld hx hb hXs hbl hbA hwX.2.2 hL (i + 1) (rl_add i 1) (by omega) dL_law_496 ?_
  refine lv_aload_n hx hb dL_law_497 rfl (lv_at hl 0 rfl) ?_
  refine lv_iload_n hx hb dL_law_498 rfl (lv_at hl 3 rfl) ?_
  refine lv_iconst (v := 2) hx hb dL_law_499 ic_2 ?_
  refine lv_iadd hx hb dL_law_500 ?_
  refine rl_ld hx hb hXs hbl hbA hwX.2.2 hL (i + 2) (rl_add i 2) (by omega) dL_law_501 ?_
  refine rl_jVi cX hj hwX hwY (qc_X6_about l D adX cI cL b1 b2 (xs (i + 1)) (xs (i + 2))) (obX_0 adX cI cL) rfl rfl kfX6_about tw_578 ⟨Nat.le_of_ble_eq_true rfl, Nat.le_of_ble_eq_true rfl, rfl, rfl⟩ rfl hl.1 (Nat.le_of_ble_eq_true rfl) ⟨Nat.le_of_ble_eq_true rfl, Nat.le_of_ble_eq_true rfl⟩ dL_law_502 rfl eX (fun H locs hwX hwY => ?_)
  refine lv_aload_n hx hb dL_law_505 rfl (lv_at hl 2 rfl) ?_
  refine lv_aload_n hx hb dL_law_506 rfl (lv_at hl 0 rfl) ?_
  refine lv_iload_n hx hb dL_law_507 rfl (lv_at hl 3 rfl) ?_
  refine lv_iconst (v := 1) hx hb dL_law_508 ic_1 ?_
  refine lv_iadd hx hb dL_law_509 ?_
  refine rl_ld hx hb hXs hbl hbA hwX.2.2 hL (i + 1) (rl_add i 1) (by omega) dL_law_510 ?_
  refine lv_aload_n hx hb dL_law_511 rfl (lv_at hl 0 rfl) ?_
  refine lv_iload_n hx hb dL_law_512 rfl (lv_at hl 3 rfl) ?_
  refine lv_iconst (v := 2) hx hb dL_law_513 ic_2 ?_
  refine lv_iadd hx hb dL_law_514 ?_
  refine rl_ld hx hb hXs hbl hbA hwX.2.2 hL (i + 2) (rl_add i 2) (by omega) dL_law_515 ?_
  refine rl_jVi cY (fun M M2 i j x y hx hy e => hj M2 M j i y x hy hx e.symm) hwY hwX (qc_X7_about l D adY cI cZ  (xs (i + 1)) (xs (i + 2))) (obY_0 adY cI cZ) rfl rfl kfX7_about tw_929 ⟨Nat.le_of_ble_eq_true rfl, Nat.le_of_ble_eq_true rfl, rfl, rfl⟩ rfl hl.1 (Nat.le_of_ble_eq_true rfl) ⟨Nat.le_of_ble_eq_true rfl, Nat.le_of_ble_eq_true rfl⟩ dL_law_516 rfl eY (fun H locs hwY hwX => ?_)
  refine lv_icmp_eq hx hb dL_law_519 rfl (fun _ => ?_) (fun hc => absurd rfl hc)
  exact hend hRel hwX hwY hl
set_option maxRecDepth 100000 in
set_option maxHeartbeats 4000000 in
theorem lc_player (cX : rx_C p m c code 4 s args (kw :: wA) RL D vwCl (tX cI cL) (zX b1 b2) wN A) (cY : rx_C p m c code 4 s args (kw :: wA) RL D vwCl (tY cI cZ) [] wN A) (hj : ∀ (M M2 : Me) (i j : Nat) (x y : Nat × va_E), (wX adX cI cL M)[i]? = some x → (wY adY cI cZ M2)[j]? = some y → x.1 ≠ y.1) (hXs : va_X b L xs s s.heap) (hbl : b < s.heap.size) (hbA : ¬ A b) (hL : L ≤ 3584) {Rel : Nat → Me → Me → Prop} (h_player : ∀ (a0 : Int32) (a1 : Int32), rl_step Rel (fun M => qf_X6_player a0 a1 M) (fun M => qf_X7_player a0 a1 M)) {i : Nat} (hi : i + 7 ≤ L) {ls : Array Slot} {MX MY : Me} {H : Heap} {locs : List Loc} (hRel : Rel i MX MY) (hwX : rx_W D vwCl (wX adX cI cL) A s.heap MX H locs) (hwY : rx_W D vwCl (wY adY cI cZ) A s.heap MY H locs) (hl : lv_has ls 4 [(0, .ref b), (1, .ref (adX 0)), (2, .ref (adY 0)), (3, .int (nI i))]) (hend : ∀ {MX MY : Me} {H : Heap} {locs : List Loc}, Rel (i + 7) MX MY → rx_W D vwCl (wX adX cI cL) A s.heap MX H locs → rx_W D vwCl (wY adY cI cZ) A s.heap MY H locs → lv_has ls 4 [(0, .ref b), (1, .ref (adX 0)), (2, .ref (adY 0)), (3, .int (nI i))] → W p l e room_1 s m args below meth c H locs 61 5957 Q (F0 m 603 ls [])) : W p l e room_1 s m args below meth c H locs 61 5957 Q (F0 m 524 ls []) := by
  have hx := cX.1.1
  have hb := cX.1.2.1
  obtain ⟨r, MX1, MY1, eX, eY, hRel⟩ := h_player (xs (i + 1)) (xs (i + 2)) i MX MY (by omega) hRel
  refine lv_aload_n hx hb dL_law_524 rfl (lv_at hl 1 rfl) ?_
  refine lv_aload_n hx hb dL_law_525 rfl (lv_at hl 0 rfl) ?_
  refine lv_iload_n hx hb dL_law_526 rfl (lv_at hl 3 rfl) ?_
  refine lv_iconst (v := 1) hx hb dL_law_527 ic_1 ?_
  refine lv_iadd hx hb dL_law_528 ?_
  refine rl_ld hx hb hXs hbl hbA hwX.2.2 hL (i + 1) (rl_add i 1) (by omega) dL_law_529 ?_
  refine lv_aload_n hx hb dL_law_530 rfl (lv_at hl 0 rfl) ?_
  refine lv_iload_n hx hb dL_law_531 rfl (lv_at hl 3 rfl) ?_
  refine lv_iconst (v := 2) hx hb dL_law_532 ic_2 ?_
  refine lv_iadd hx hb dL_law_533 ?_
  refine rl_ld hx hb hXs hbl hbA hwX.2.2 hL (i + 2) (rl_add i 2) (by omega) dL_law_534 ?_
  refine rl_jVi cX hj hwX hwY (qc_X6_player l D adX cI cL b1 b2 (xs (i + 1)) (xs (i + 2))) (obX_0 adX cI cL) rfl rfl kfX6_player tw_588 ⟨Nat.le_of_ble_eq_true rfl, Nat.le_of_ble_eq_true rfl, rfl, rfl⟩ rfl hl.1 (Nat.le_of_ble_eq_true rfl) ⟨Nat.le_of_ble_eq_true rfl, Nat.le_of_ble_eq_true rfl⟩ dL_law_535 rfl eX (fun H locs hwX hwY => ?_)
  refine lv_aload_n hx hb dL_law_538 rfl (lv_at hl 2 rfl) ?_
  refine lv_aload_n hx hb dL_law_539 rfl (lv_at hl 0 rfl) ?_
  refine lv_iload_n hx hb dL_law_540 rfl (lv_at hl 3 rfl) ?_
  refine lv_iconst (v := 1) hx hb dL_law_541 ic_1 ?_
  refine lv_iadd hx hb dL_law_542 ?_
  refine rl_ld hx hb hXs hbl hbA hwX.2.2 hL (i + 1) (rl_add i 1) (by omega) dL_law_543 ?_
  refine lv_aload_n hx hb dL_law_544 rfl (lv_at hl 0 rfl) ?_
  refine lv_iload_n hx hb dL_law_545 rfl (lv_at hl 3 rfl) ?_
  refine lv_iconst (v := 2) hx hb dL_law_546 ic_2 ?_
  refine lv_iadd hx hb dL_law_547 ?_
  refine rl_ld hx hb hXs hbl hbA hwX.2.2 hL (i + 2) (rl_add i 2) (by omega) dL_law_548 ?_
  refine rl_jVi cY (fun M M2 i j x y hx hy e => hj M2 M j i y x hy hx e.symm) hwY hwX (qc_X7_player l D adY cI cZ  (xs (i + 1)) (xs (i + 2))) (obY_0 adY cI cZ) rfl rfl kfX7_player tw_933 ⟨Nat.le_of_ble_eq_true rfl, Nat.le_of_ble_eq_true rfl, rfl, rfl⟩ rfl hl.1 (Nat.le_of_ble_eq_true rfl) ⟨Nat.le_of_ble_eq_true rfl, Nat.le_of_ble_eq_true rfl⟩ dL_law_549 rfl eY (fun H locs hwY hwX => ?_)
  refine lv_icmp_eq hx hb dL_law_552 rfl (fun _ => ?_) (fun hc => absurd rfl hc)
  exact hend hRel hwX hwY hl
set_option maxRecDepth 100000 in
set_option maxHeartbeats 4000000 in
theorem lc_search (cX : rx_C p m c code 4 s args (kw :: wA) RL D vwCl (tX cI cL) (zX b1 b2) wN A) (cY : rx_C p m c code 4 s args (kw :: wA) RL D vwCl (tY cI cZ) [] wN A) (hj : ∀ (M M2 : Me) (i j : Nat) (x y : Nat × va_E), (wX adX cI cL M)[i]? = some x → (wY adY cI cZ M2)[j]? = some y → x.1 ≠ y.1) (hXs : va_X b L xs s s.heap) (hbl : b < s.heap.size) (hbA : ¬ A b) (hL : L ≤ 3584) {Rel : Nat → Me → Me → Prop} (h_search : ∀ (a0 : Int32), rl_step Rel (fun M => qf_X6_search a0 M) (fun M => qf_X7_search a0 M)) {i : Nat} (hi : i + 7 ≤ L) {ls : Array Slot} {MX MY : Me} {H : Heap} {locs : List Loc} (hRel : Rel i MX MY) (hwX : rx_W D vwCl (wX adX cI cL) A s.heap MX H locs) (hwY : rx_W D vwCl (wY adY cI cZ) A s.heap MY H locs) (hl : lv_has ls 4 [(0, .ref b), (1, .ref (adX 0)), (2, .ref (adY 0)), (3, .int (nI i))]) (hend : ∀ {MX MY : Me} {H : Heap} {locs : List Loc}, Rel (i + 7) MX MY → rx_W D vwCl (wX adX cI cL) A s.heap MX H locs → rx_W D vwCl (wY adY cI cZ) A s.heap MY H locs → lv_has ls 4 [(0, .ref b), (1, .ref (adX 0)), (2, .ref (adY 0)), (3, .int (nI i))] → W p l e room_1 s m args below meth c H locs 61 5957 Q (F0 m 603 ls [])) : W p l e room_1 s m args below meth c H locs 61 5957 Q (F0 m 557 ls []) := by
  have hx := cX.1.1
  have hb := cX.1.2.1
  obtain ⟨r, MX1, MY1, eX, eY, hRel⟩ := h_search (xs (i + 1)) i MX MY (by omega) hRel
  refine lv_aload_n hx hb dL_law_557 rfl (lv_at hl 1 rfl) ?_
  refine lv_aload_n hx hb dL_law_558 rfl (lv_at hl 0 rfl) ?_
  refine lv_iload_n hx hb dL_law_559 rfl (lv_at hl 3 rfl) ?_
  refine lv_iconst (v := 1) hx hb dL_law_560 ic_1 ?_
  refine lv_iadd hx hb dL_law_561 ?_
  refine rl_ld hx hb hXs hbl hbA hwX.2.2 hL (i + 1) (rl_add i 1) (by omega) dL_law_562 ?_
  refine rl_jVi cX hj hwX hwY (qc_X6_search l D adX cI cL b1 b2 (xs (i + 1))) (obX_0 adX cI cL) rfl rfl kfX6_search tw_612 ⟨Nat.le_of_ble_eq_true rfl, Nat.le_of_ble_eq_true rfl, rfl, rfl⟩ rfl hl.1 (Nat.le_of_ble_eq_true rfl) ⟨Nat.le_of_ble_eq_true rfl, Nat.le_of_ble_eq_true rfl⟩ dL_law_563 rfl eX (fun H locs hwX hwY => ?_)
  refine lv_aload_n hx hb dL_law_566 rfl (lv_at hl 2 rfl) ?_
  refine lv_aload_n hx hb dL_law_567 rfl (lv_at hl 0 rfl) ?_
  refine lv_iload_n hx hb dL_law_568 rfl (lv_at hl 3 rfl) ?_
  refine lv_iconst (v := 1) hx hb dL_law_569 ic_1 ?_
  refine lv_iadd hx hb dL_law_570 ?_
  refine rl_ld hx hb hXs hbl hbA hwX.2.2 hL (i + 1) (rl_add i 1) (by omega) dL_law_571 ?_
  refine rl_jVi cY (fun M M2 i j x y hx hy e => hj M2 M j i y x hy hx e.symm) hwY hwX (qc_X7_search l D adY cI cZ  (xs (i + 1))) (obY_0 adY cI cZ) rfl rfl kfX7_search tw_949 ⟨Nat.le_of_ble_eq_true rfl, Nat.le_of_ble_eq_true rfl, rfl, rfl⟩ rfl hl.1 (Nat.le_of_ble_eq_true rfl) ⟨Nat.le_of_ble_eq_true rfl, Nat.le_of_ble_eq_true rfl⟩ dL_law_572 rfl eY (fun H locs hwY hwX => ?_)
  refine lv_icmp_eq hx hb dL_law_575 rfl (fun _ => ?_) (fun hc => absurd rfl hc)
  exact hend hRel hwX hwY hl
set_option maxRecDepth 100000 in
set_option maxHeartbeats 4000000 in
theorem lc_best (cX : rx_C p m c code 4 s args (kw :: wA) RL D vwCl (tX cI cL) (zX b1 b2) wN A) (cY : rx_C p m c code 4 s args (kw :: wA) RL D vwCl (tY cI cZ) [] wN A) (hj : ∀ (M M2 : Me) (i j : Nat) (x y : Nat × va_E), (wX adX cI cL M)[i]? = some x → (wY adY cI cZ M2)[j]? = some y → x.1 ≠ y.1) (hXs : va_X b L xs s s.heap) (hbl : b < s.heap.size) (hbA : ¬ A b) (hL : L ≤ 3584) {Rel : Nat → Me → Me → Prop} (h_best : ∀ (a0 : Int32), rl_step Rel (fun M => qf_X6_best a0 M) (fun M => qf_X7_best a0 M)) {i : Nat} (hi : i + 7 ≤ L) {ls : Array Slot} {MX MY : Me} {H : Heap} {locs : List Loc} (hRel : Rel i MX MY) (hwX : rx_W D vwCl (wX adX cI cL) A s.heap MX H locs) (hwY : rx_W D vwCl (wY adY cI cZ) A s.heap MY H locs) (hl : lv_has ls 4 [(0, .ref b), (1, .ref (adX 0)), (2, .ref (adY 0)), (3, .int (nI i))]) (hend : ∀ {MX MY : Me} {H : Heap} {locs : List Loc}, Rel (i + 7) MX MY → rx_W D vwCl (wX adX cI cL) A s.heap MX H locs → rx_W D vwCl (wY adY cI cZ) A s.heap MY H locs → lv_has ls 4 [(0, .ref b), (1, .ref (adX 0)), (2, .ref (adY 0)), (3, .int (nI i))] → W p l e room_1 s m args below meth c H locs 61 5957 Q (F0 m 603 ls [])) : W p l e room_1 s m args below meth c H locs 61 5957 Q (F0 m 580 ls []) := by
  have hx := cX.1.1
  have hb := cX.1.2.1
  obtain ⟨r, MX1, MY1, eX, eY, hRel⟩ := h_best (xs (i + 1)) i MX MY (by omega) hRel
  refine lv_aload_n hx hb dL_law_580 rfl (lv_at hl 1 rfl) ?_
  refine lv_aload_n hx hb dL_law_581 rfl (lv_at hl 0 rfl) ?_
  refine lv_iload_n hx hb dL_law_582 rfl (lv_at hl 3 rfl) ?_
  refine lv_iconst (v := 1) hx hb dL_law_583 ic_1 ?_
  refine lv_iadd hx hb dL_law_584 ?_
  refine rl_ld hx hb hXs hbl hbA hwX.2.2 hL (i + 1) (rl_add i 1) (by omega) dL_law_585 ?_
  refine rl_jVi cX hj hwX hwY (qc_X6_best l D adX cI cL b1 b2 (xs (i + 1))) (obX_0 adX cI cL) rfl rfl kfX6_best tw_651 ⟨Nat.le_of_ble_eq_true rfl, Nat.le_of_ble_eq_true rfl, rfl, rfl⟩ rfl hl.1 (Nat.le_of_ble_eq_true rfl) ⟨Nat.le_of_ble_eq_true rfl, Nat.le_of_ble_eq_true rfl⟩ dL_law_586 rfl eX (fun H locs hwX hwY => ?_)
  refine lv_aload_n hx hb dL_law_589 rfl (lv_at hl 2 rfl) ?_
  refine lv_aload_n hx hb dL_law_590 rfl (lv_at hl 0 rfl) ?_
  refine lv_iload_n hx hb dL_law_591 rfl (lv_at hl 3 rfl) ?_
  refine lv_iconst (v := 1) hx hb dL_law_592 ic_1 ?_
  refine lv_iadd hx hb dL_law_593 ?_
  refine rl_ld hx hb hXs hbl hbA hwX.2.2 hL (i + 1) (rl_add i 1) (by omega) dL_law_594 ?_
  refine rl_jVi cY (fun M M2 i j x y hx hy e => hj M2 M j i y x hy hx e.symm) hwY hwX (qc_X7_best l D adY cI cZ  (xs (i + 1))) (obY_0 adY cI cZ) rfl rfl kfX7_best tw_970 ⟨Nat.le_of_ble_eq_true rfl, Nat.le_of_ble_eq_true rfl, rfl, rfl⟩ rfl hl.1 (Nat.le_of_ble_eq_true rfl) ⟨Nat.le_of_ble_eq_true rfl, Nat.le_of_ble_eq_true rfl⟩ dL_law_595 rfl eY (fun H locs hwY hwX => ?_)
  refine lv_icmp_eq hx hb dL_law_598 rfl (fun _ => ?_) (fun hc => absurd rfl hc)
  exact hend hRel hwX hwY hl
set_option maxRecDepth 100000 in
set_option maxHeartbeats 4000000 in
theorem lc_loop (cX : rx_C p m c code 4 s args (kw :: wA) RL D vwCl (tX cI cL) (zX b1 b2) wN A) (cY : rx_C p m c code 4 s args (kw :: wA) RL D vwCl (tY cI cZ) [] wN A) (hj : ∀ (M M2 : Me) (i j : Nat) (x y : Nat × va_E), (wX adX cI cL M)[i]? = some x → (wY adY cI cZ M2)[j]? = some y → x.1 ≠ y.1) (hXs : va_X b L xs s s.heap) (hbl : b < s.heap.size) (hbA : ¬ A b) (hL : L ≤ 3584) (hA : ∀ q, A q → s.heap.size ≤ q) {Rel : Nat → Me → Me → Prop} (hmono : ∀ i MX MY, Rel i MX MY → Rel (i + 7) MX MY) (h_type : ∀ (a0 : Int64) (a1 : Int64) (a2 : Int64), rl_step Rel (fun M => qf_X6_type a0 a1 a2 M) (fun M => qf_X7_type a0 a1 a2 M)) (h_draw : ∀ (a0 : Int32), rl_step Rel (fun M => qf_X6_draw a0 M) (fun M => qf_X7_draw a0 M)) (h_start : ∀ (a0 : Int32), rl_step Rel (fun M => qf_X6_start a0 M) (fun M => qf_X7_start a0 M)) (h_clear : rl_stepv Rel (fun M => qf_X6_clear M) (fun M => qf_X7_clear M)) (h_drawn : rl_step Rel (fun M => qf_X6_drawn M) (fun M => qf_X7_drawn M)) (h_game : ∀ (a0 : Int32), rl_step Rel (fun M => qf_X6_game a0 M) (fun M => qf_X7_game a0 M)) (h_fits : ∀ (a0 : Int32) (a1 : Int32), rl_step Rel (fun M => qf_X6_fits a0 a1 M) (fun M => qf_X7_fits a0 a1 M)) (h_place : ∀ (a0 : Int32) (a1 : Int32) (a2 : Int32), rl_step Rel (fun M => qf_X6_place a0 a1 a2 M) (fun M => qf_X7_place a0 a1 a2 M)) (h_follow : ∀ (a0 : Int32), rl_step Rel (fun M => qf_X6_follow a0 M) (fun M => qf_X7_follow a0 M)) (h_undo : rl_step Rel (fun M => qf_X6_undo M) (fun M => qf_X7_undo M)) (h_region : ∀ (a0 : Int32) (a1 : Int32) (a2 : Int32), rl_step Rel (fun M => qf_X6_region a0 a1 a2 M) (fun M => qf_X7_region a0 a1 a2 M)) (h_about : ∀ (a0 : Int32) (a1 : Int32), rl_step Rel (fun M => qf_X6_about a0 a1 M) (fun M => qf_X7_about a0 a1 M)) (h_player : ∀ (a0 : Int32) (a1 : Int32), rl_step Rel (fun M => qf_X6_player a0 a1 M) (fun M => qf_X7_player a0 a1 M)) (h_search : ∀ (a0 : Int32), rl_step Rel (fun M => qf_X6_search a0 M) (fun M => qf_X7_search a0 M)) (h_best : ∀ (a0 : Int32), rl_step Rel (fun M => qf_X6_best a0 M) (fun M => qf_X7_best a0 M)) (hend : ∀ {ls : Array Slot} {H : Heap}, W p l e room_1 s m args below meth c H [] 61 5957 Q (F0 m 609 ls [])) : ∀ (n i : Nat) {ls : Array Slot} {MX MY : Me} {H : Heap} {locs : List Loc}, L + 7 - i < n → i ≤ L + 7 → Rel i MX MY → rx_W D vwCl (wX adX cI cL) A s.heap MX H locs → rx_W D vwCl (wY adY cI cZ) A s.heap MY H locs → lv_has ls 4 [(0, .ref b), (1, .ref (adX 0)), (2, .ref (adY 0)), (3, .int (nI i))] → W p l e room_1 s m args below meth c H locs 61 5957 Q (F0 m 18 ls []) := by
  have hx := cX.1.1
  have hb := cX.1.2.1
  intro n
  induction n with
  | zero => intro i ls MX MY H locs h; omega
  | succ n ih =>
    intro i ls MX MY H locs hn hiL hRel hwX hwY hl
    refine lv_iload_n hx hb dL_law_18 rfl (lv_at hl 3 rfl) ?_
    refine lv_aload_n hx hb dL_law_19 rfl (lv_at hl 0 rfl) ?_
    refine va_slen hx hb hXs hbl hbA hwX.2.2 dL_law_20 ?_
    refine lv_bipush (v := 7) hx hb dL_law_21 ib_7 ?_
    refine lv_isub hx hb dL_law_23 ?_
    have hsub : (Int32.ofNat L - 7).toInt = (L : Int) - 7 := pk_sub_toInt (a := L) (b := 7) (by omega) (by decide)
    have hii : (nI i).toInt = (i : Int) := nI_toInt (by omega)
    refine lv_icmp_gt hx hb dL_law_24 rfl (fun hc => ?_) (fun hc => ?_)
    · exact va_forget (fun q hq => hA _ (hwX.2.2.2.2 q hq)) hend
    have hi : i + 7 ≤ L := by
      have h2 : ¬ ((Int32.ofNat L - 7).toInt < (nI i).toInt) := fun h => hc (Int32.lt_iff_toInt_lt.mpr h)
      rw [hsub, hii] at h2
      omega
    refine lv_aload_n hx hb dL_law_27 rfl (lv_at hl 0 rfl) ?_
    refine lv_iload_n hx hb dL_law_28 rfl (lv_at hl 3 rfl) ?_
    refine rl_ld hx hb hXs hbl hbA hwX.2.2 hL i rfl (by omega) dL_law_29 ?_
    refine lv_bipush (v := 15) hx hb dL_law_30 ib_15 ?_
    refine lv_iand hx hb dL_law_32 ?_
    have hnext : ∀ {MX MY : Me} {H : Heap} {locs : List Loc} {ls : Array Slot}, Rel (i + 7) MX MY → rx_W D vwCl (wX adX cI cL) A s.heap MX H locs → rx_W D vwCl (wY adY cI cZ) A s.heap MY H locs → lv_has ls 4 [(0, .ref b), (1, .ref (adX 0)), (2, .ref (adY 0)), (3, .int (nI i))] → W p l e room_1 s m args below meth c H locs 61 5957 Q (F0 m 603 ls []) := by
      intro MX MY H locs ls hRel hwX hwY hl
      refine lv_iinc (lv' := [(3, .int (nI (i + 7))), (0, .ref b), (1, .ref (adX 0)), (2, .ref (adY 0))]) hx hb dL_law_603 hl (k := 3) rfl (rl_add i 7) (Nat.le_of_ble_eq_true rfl) rfl (fun ls hl => ?_)
      refine lv_goto hx hb dL_law_606 rfl ?_
      exact ih (i + 7) (by omega) (by omega) hRel hwX hwY (lv_sub hl [1, 2, 3, 0] rfl)
    by_cases hs0 : (xs i &&& 15) = 0
    · refine lv_tableIn hx hb dL_law_33 (by rw [hs0]; decide) (by rw [hs0]; decide) (by rw [hs0]; rfl) rfl ?_
      exact lc_type cX cY hj hXs hbl hbA hL h_type hi hRel hwX hwY hl hnext
    by_cases hs1 : (xs i &&& 15) = 1
    · refine lv_tableIn hx hb dL_law_33 (by rw [hs1]; decide) (by rw [hs1]; decide) (by rw [hs1]; rfl) rfl ?_
      exact lc_draw cX cY hj hXs hbl hbA hL h_draw hi hRel hwX hwY hl hnext
    by_cases hs2 : (xs i &&& 15) = 2
    · refine lv_tableIn hx hb dL_law_33 (by rw [hs2]; decide) (by rw [hs2]; decide) (by rw [hs2]; rfl) rfl ?_
      exact lc_start cX cY hj hXs hbl hbA hL h_start hi hRel hwX hwY hl hnext
    by_cases hs3 : (xs i &&& 15) = 3
    · refine lv_tableIn hx hb dL_law_33 (by rw [hs3]; decide) (by rw [hs3]; decide) (by rw [hs3]; rfl) rfl ?_
      exact lc_clear cX cY hj hXs hbl hbA hL h_clear hi hRel hwX hwY hl hnext
    by_cases hs4 : (xs i &&& 15) = 4
    · refine lv_tableIn hx hb dL_law_33 (by rw [hs4]; decide) (by rw [hs4]; decide) (by rw [hs4]; rfl) rfl ?_
      exact lc_drawn cX cY hj hXs hbl hbA hL h_drawn hi hRel hwX hwY hl hnext
    by_cases hs5 : (xs i &&& 15) = 5
    · refine lv_tableIn hx hb dL_law_33 (by rw [hs5]; decide) (by rw [hs5]; decide) (by rw [hs5]; rfl) rfl ?_
      exact lc_game cX cY hj hXs hbl hbA hL h_game hi hRel hwX hwY hl hnext
    by_cases hs6 : (xs i &&& 15) = 6
    · refine lv_tableIn hx hb dL_law_33 (by rw [hs6]; decide) (by rw [hs6]; decide) (by rw [hs6]; rfl) rfl ?_
      exact lc_fits cX cY hj hXs hbl hbA hL h_fits hi hRel hwX hwY hl hnext
    by_cases hs7 : (xs i &&& 15) = 7
    · refine lv_tableIn hx hb dL_law_33 (by rw [hs7]; decide) (by rw [hs7]; decide) (by rw [hs7]; rfl) rfl ?_
      exact lc_place cX cY hj hXs hbl hbA hL h_place hi hRel hwX hwY hl hnext
    by_cases hs8 : (xs i &&& 15) = 8
    · refine lv_tableIn hx hb dL_law_33 (by rw [hs8]; decide) (by rw [hs8]; decide) (by rw [hs8]; rfl) rfl ?_
      exact lc_follow cX cY hj hXs hbl hbA hL h_follow hi hRel hwX hwY hl hnext
    by_cases hs9 : (xs i &&& 15) = 9
    · refine lv_tableIn hx hb dL_law_33 (by rw [hs9]; decide) (by rw [hs9]; decide) (by rw [hs9]; rfl) rfl ?_
      exact lc_undo cX cY hj hXs hbl hbA hL h_undo hi hRel hwX hwY hl hnext
    by_cases hs10 : (xs i &&& 15) = 10
    · refine lv_tableIn hx hb dL_law_33 (by rw [hs10]; decide) (by rw [hs10]; decide) (by rw [hs10]; rfl) rfl ?_
      exact lc_region cX cY hj hXs hbl hbA hL h_region hi hRel hwX hwY hl hnext
    by_cases hs11 : (xs i &&& 15) = 11
    · refine lv_tableIn hx hb dL_law_33 (by rw [hs11]; decide) (by rw [hs11]; decide) (by rw [hs11]; rfl) rfl ?_
      exact lc_about cX cY hj hXs hbl hbA hL h_about hi hRel hwX hwY hl hnext
    by_cases hs12 : (xs i &&& 15) = 12
    · refine lv_tableIn hx hb dL_law_33 (by rw [hs12]; decide) (by rw [hs12]; decide) (by rw [hs12]; rfl) rfl ?_
      exact lc_player cX cY hj hXs hbl hbA hL h_player hi hRel hwX hwY hl hnext
    by_cases hs13 : (xs i &&& 15) = 13
    · refine lv_tableIn hx hb dL_law_33 (by rw [hs13]; decide) (by rw [hs13]; decide) (by rw [hs13]; rfl) rfl ?_
      exact lc_search cX cY hj hXs hbl hbA hL h_search hi hRel hwX hwY hl hnext
    by_cases hs14 : (xs i &&& 15) = 14
    · refine lv_tableIn hx hb dL_law_33 (by rw [hs14]; decide) (by rw [hs14]; decide) (by rw [hs14]; rfl) rfl ?_
      exact lc_best cX cY hj hXs hbl hbA hL h_best hi hRel hwX hwY hl hnext
    refine lv_tableOut hx hb dL_law_33 (by have := lv_neT hs0 it_0; have := lv_neT hs1 it_1; have := lv_neT hs2 it_2; have := lv_neT hs3 it_3; have := lv_neT hs4 it_4; have := lv_neT hs5 it_5; have := lv_neT hs6 it_6; have := lv_neT hs7 it_7; have := lv_neT hs8 it_8; have := lv_neT hs9 it_9; have := lv_neT hs10 it_10; have := lv_neT hs11 it_11; have := lv_neT hs12 it_12; have := lv_neT hs13 it_13; have := lv_neT hs14 it_14; omega) rfl ?_
    exact hnext (hmono _ _ _ hRel) hwX hwY hl
end
