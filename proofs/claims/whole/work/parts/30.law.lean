/-! THE CLAIM OUT OF ONE WALK OF THE LAW'S BODY. Your part is whole_start (and what it stands on); all else here is the same for every law, but numbers. -/
def R_law : String := "NodalAuctionLaw"
def lw_P (b : Addr) (xs : List Int32) (args : Array Value) (s : State) : Prop := args = #[.ref b] ∧ s.IntsAt b xs ∧ xs.length ≤ 2560 ∧ (Jvm.Cond.and given_1 narrow_1).before args s = true
def lw_Q (_ : Array Value) (s : State) (o : Outcome) (t : State) : Prop := o = .returned (some (.int 1)) ∧ Framed s o t [] 600000 7302250
def lw_Z (below : List Frame) (a : Array Value) (s : State) : State → Prop := fun t => ∃ o, t.status = .running ∧ Ended t below o ∧ lw_Q a s o t
/-- the law's own end, with 1 on the stack, nothing written that was there before, its room as the claim has it -/
theorem lw_ret {p : Program} {l : Launch} {e : Env} {s : State} {m : MethodId} {below : List Frame} {meth : Method} {c : Code} {b : Nat} (hx : p.tables.exec = Jvm.exec) (hb : c.code = code) (hr : meth.sig.returnType = ret) (hlocks : meth.locks = false) {pc : Nat} {H : Heap} {ls : Array Slot} (hdg : decode code pc = .ok (.ireturn, 1)) : W p l e room_1 s m #[Value.ref b] below meth c H [] 600000 7302250 (lw_Z below #[Value.ref b] s) (F0 m pc ls [.int 1]) := by
  intro T hT X
  obtain ⟨fs, hret, hrun, hended, hW, hframe⟩ := X.leave (v := some (.int 1)) (hlocks := hlocks) (fun h => by rw [hr] at h; cases h)
  have hmeth' : T.vm.method? m = some meth := X.method'
  refine ⟨T.setFrames fs, ?_, .returned (some (.int 1)), hrun, hended, rfl, ⟨_, rfl⟩, hW, hframe⟩
  jvm_step X.here [X.here.top, hx, hb, hdg, hmeth', hr, ret, narrow_b1]
  (try refine ⟨rfl, ?_⟩); (try refine ⟨rfl, ?_⟩)
  first | (intro acts; rw [hret _ acts rfl rfl rfl]) | rw [hret _ _ rfl rfl rfl]
  exact Steps.refl _
/-- what holds at the law's entry: the machine, the code, the tables' words (any of lw_tbl by 'hts w (by decide +kernel)'), the script of L ints xs at the cell b, what the Statement gives of the start (any of its parts by flat_of_before) -/
def lw_At (p : Program) (s : State) (m : MethodId) (meth : Method) (c : Code) (b L : Nat) (xs : Nat → Int32) : Prop :=
  p.tables.exec = Jvm.exec ∧ c.code = code ∧ meth.sig.returnType = ret ∧ c.maxLocals = 4 ∧ s.vm.findClass R_law = some m.cls ∧ (∀ w ∈ lw_tbl, w.before #[Value.ref b] s = true) ∧ va_X b L xs s s.heap ∧ b < s.heap.size ∧ meth.locks = false ∧ (Jvm.Cond.and given_1 narrow_1).before #[Value.ref b] s = true
theorem d_L_0 : decode code 0 = .ok (.new 7, 3) := by decide +kernel
theorem d_L_3 : decode code 3 = .ok (.dup, 1) := by decide +kernel
theorem d_L_4 : decode code 4 = .ok (.invokespecial 9, 3) := by decide +kernel
theorem d_L_7 : decode code 7 = .ok (.astore_n 1, 1) := by decide +kernel
theorem d_L_8 : decode code 8 = .ok (.new 10, 3) := by decide +kernel
theorem d_L_11 : decode code 11 = .ok (.dup, 1) := by decide +kernel
theorem d_L_12 : decode code 12 = .ok (.invokespecial 12, 3) := by decide +kernel
theorem d_L_15 : decode code 15 = .ok (.astore_n 2, 1) := by decide +kernel
theorem d_L_16 : decode code 16 = .ok (.iconst 0, 1) := by decide +kernel
theorem d_L_17 : decode code 17 = .ok (.istore_n 3, 1) := by decide +kernel
theorem d_L_18 : decode code 18 = .ok (.iload_n 3, 1) := by decide +kernel
theorem d_L_19 : decode code 19 = .ok (.aload_n 0, 1) := by decide +kernel
theorem d_L_20 : decode code 20 = .ok (.arraylength, 1) := by decide +kernel
theorem d_L_21 : decode code 21 = .ok (.iconst 5, 1) := by decide +kernel
theorem d_L_22 : decode code 22 = .ok (.isub, 1) := by decide +kernel
theorem d_L_23 : decode code 23 = .ok (.if_icmp .gt 600, 3) := by decide +kernel
theorem d_L_26 : decode code 26 = .ok (.aload_n 0, 1) := by decide +kernel
theorem d_L_27 : decode code 27 = .ok (.iload_n 3, 1) := by decide +kernel
theorem d_L_28 : decode code 28 = .ok (.iaload, 1) := by decide +kernel
theorem d_L_29 : decode code 29 = .ok (.bipush 31, 2) := by decide +kernel
theorem d_L_31 : decode code 31 = .ok (.iand, 1) := by decide +kernel
theorem d_L_32 : decode code 32 = .ok (.tableswitch 585 0 17 #[88, 141, 174, 197, 240, 283, 306, 319, 332, 345, 358, 381, 404, 417, 431, 455, 478, 531], 88) := by decide +kernel
theorem d_L_120 : decode code 120 = .ok (.aload_n 1, 1) := by decide +kernel
theorem d_L_121 : decode code 121 = .ok (.aload_n 0, 1) := by decide +kernel
theorem d_L_122 : decode code 122 = .ok (.iload_n 3, 1) := by decide +kernel
theorem d_L_123 : decode code 123 = .ok (.iconst 1, 1) := by decide +kernel
theorem d_L_124 : decode code 124 = .ok (.iadd, 1) := by decide +kernel
theorem d_L_125 : decode code 125 = .ok (.iaload, 1) := by decide +kernel
theorem d_L_126 : decode code 126 = .ok (.aload_n 0, 1) := by decide +kernel
theorem d_L_127 : decode code 127 = .ok (.iload_n 3, 1) := by decide +kernel
theorem d_L_128 : decode code 128 = .ok (.iconst 2, 1) := by decide +kernel
theorem d_L_129 : decode code 129 = .ok (.iadd, 1) := by decide +kernel
theorem d_L_130 : decode code 130 = .ok (.iaload, 1) := by decide +kernel
theorem d_L_131 : decode code 131 = .ok (.aload_n 0, 1) := by decide +kernel
theorem d_L_132 : decode code 132 = .ok (.iload_n 3, 1) := by decide +kernel
theorem d_L_133 : decode code 133 = .ok (.iconst 3, 1) := by decide +kernel
theorem d_L_134 : decode code 134 = .ok (.iadd, 1) := by decide +kernel
theorem d_L_135 : decode code 135 = .ok (.iaload, 1) := by decide +kernel
theorem d_L_136 : decode code 136 = .ok (.aload_n 0, 1) := by decide +kernel
theorem d_L_137 : decode code 137 = .ok (.iload_n 3, 1) := by decide +kernel
theorem d_L_138 : decode code 138 = .ok (.iconst 4, 1) := by decide +kernel
theorem d_L_139 : decode code 139 = .ok (.iadd, 1) := by decide +kernel
theorem d_L_140 : decode code 140 = .ok (.iaload, 1) := by decide +kernel
theorem d_L_141 : decode code 141 = .ok (.invokevirtual 13, 3) := by decide +kernel
theorem d_L_144 : decode code 144 = .ok (.aload_n 2, 1) := by decide +kernel
theorem d_L_145 : decode code 145 = .ok (.aload_n 0, 1) := by decide +kernel
theorem d_L_146 : decode code 146 = .ok (.iload_n 3, 1) := by decide +kernel
theorem d_L_147 : decode code 147 = .ok (.iconst 1, 1) := by decide +kernel
theorem d_L_148 : decode code 148 = .ok (.iadd, 1) := by decide +kernel
theorem d_L_149 : decode code 149 = .ok (.iaload, 1) := by decide +kernel
theorem d_L_150 : decode code 150 = .ok (.aload_n 0, 1) := by decide +kernel
theorem d_L_151 : decode code 151 = .ok (.iload_n 3, 1) := by decide +kernel
theorem d_L_152 : decode code 152 = .ok (.iconst 2, 1) := by decide +kernel
theorem d_L_153 : decode code 153 = .ok (.iadd, 1) := by decide +kernel
theorem d_L_154 : decode code 154 = .ok (.iaload, 1) := by decide +kernel
theorem d_L_155 : decode code 155 = .ok (.aload_n 0, 1) := by decide +kernel
theorem d_L_156 : decode code 156 = .ok (.iload_n 3, 1) := by decide +kernel
theorem d_L_157 : decode code 157 = .ok (.iconst 3, 1) := by decide +kernel
theorem d_L_158 : decode code 158 = .ok (.iadd, 1) := by decide +kernel
theorem d_L_159 : decode code 159 = .ok (.iaload, 1) := by decide +kernel
theorem d_L_160 : decode code 160 = .ok (.aload_n 0, 1) := by decide +kernel
theorem d_L_161 : decode code 161 = .ok (.iload_n 3, 1) := by decide +kernel
theorem d_L_162 : decode code 162 = .ok (.iconst 4, 1) := by decide +kernel
theorem d_L_163 : decode code 163 = .ok (.iadd, 1) := by decide +kernel
theorem d_L_164 : decode code 164 = .ok (.iaload, 1) := by decide +kernel
theorem d_L_165 : decode code 165 = .ok (.invokevirtual 17, 3) := by decide +kernel
theorem d_L_168 : decode code 168 = .ok (.if_icmp .eq 449, 3) := by decide +kernel
theorem d_L_171 : decode code 171 = .ok (.iconst 0, 1) := by decide +kernel
theorem d_L_172 : decode code 172 = .ok (.ireturn, 1) := by decide +kernel
theorem d_L_173 : decode code 173 = .ok (.aload_n 1, 1) := by decide +kernel
theorem d_L_174 : decode code 174 = .ok (.aload_n 0, 1) := by decide +kernel
theorem d_L_175 : decode code 175 = .ok (.iload_n 3, 1) := by decide +kernel
theorem d_L_176 : decode code 176 = .ok (.iconst 1, 1) := by decide +kernel
theorem d_L_177 : decode code 177 = .ok (.iadd, 1) := by decide +kernel
theorem d_L_178 : decode code 178 = .ok (.iaload, 1) := by decide +kernel
theorem d_L_179 : decode code 179 = .ok (.aload_n 0, 1) := by decide +kernel
theorem d_L_180 : decode code 180 = .ok (.iload_n 3, 1) := by decide +kernel
theorem d_L_181 : decode code 181 = .ok (.iconst 2, 1) := by decide +kernel
theorem d_L_182 : decode code 182 = .ok (.iadd, 1) := by decide +kernel
theorem d_L_183 : decode code 183 = .ok (.iaload, 1) := by decide +kernel
theorem d_L_184 : decode code 184 = .ok (.invokevirtual 18, 3) := by decide +kernel
theorem d_L_187 : decode code 187 = .ok (.aload_n 2, 1) := by decide +kernel
theorem d_L_188 : decode code 188 = .ok (.aload_n 0, 1) := by decide +kernel
theorem d_L_189 : decode code 189 = .ok (.iload_n 3, 1) := by decide +kernel
theorem d_L_190 : decode code 190 = .ok (.iconst 1, 1) := by decide +kernel
theorem d_L_191 : decode code 191 = .ok (.iadd, 1) := by decide +kernel
theorem d_L_192 : decode code 192 = .ok (.iaload, 1) := by decide +kernel
theorem d_L_193 : decode code 193 = .ok (.aload_n 0, 1) := by decide +kernel
theorem d_L_194 : decode code 194 = .ok (.iload_n 3, 1) := by decide +kernel
theorem d_L_195 : decode code 195 = .ok (.iconst 2, 1) := by decide +kernel
theorem d_L_196 : decode code 196 = .ok (.iadd, 1) := by decide +kernel
theorem d_L_197 : decode code 197 = .ok (.iaload, 1) := by decide +kernel
theorem d_L_198 : decode code 198 = .ok (.invokevirtual 22, 3) := by decide +kernel
theorem d_L_201 : decode code 201 = .ok (.if_icmp .eq 416, 3) := by decide +kernel
theorem d_L_204 : decode code 204 = .ok (.iconst 0, 1) := by decide +kernel
theorem d_L_205 : decode code 205 = .ok (.ireturn, 1) := by decide +kernel
theorem d_L_206 : decode code 206 = .ok (.aload_n 1, 1) := by decide +kernel
theorem d_L_207 : decode code 207 = .ok (.aload_n 0, 1) := by decide +kernel
theorem d_L_208 : decode code 208 = .ok (.iload_n 3, 1) := by decide +kernel
theorem d_L_209 : decode code 209 = .ok (.iconst 1, 1) := by decide +kernel
theorem d_L_210 : decode code 210 = .ok (.iadd, 1) := by decide +kernel
theorem d_L_211 : decode code 211 = .ok (.iaload, 1) := by decide +kernel
theorem d_L_212 : decode code 212 = .ok (.invokevirtual 23, 3) := by decide +kernel
theorem d_L_215 : decode code 215 = .ok (.aload_n 2, 1) := by decide +kernel
theorem d_L_216 : decode code 216 = .ok (.aload_n 0, 1) := by decide +kernel
theorem d_L_217 : decode code 217 = .ok (.iload_n 3, 1) := by decide +kernel
theorem d_L_218 : decode code 218 = .ok (.iconst 1, 1) := by decide +kernel
theorem d_L_219 : decode code 219 = .ok (.iadd, 1) := by decide +kernel
theorem d_L_220 : decode code 220 = .ok (.iaload, 1) := by decide +kernel
theorem d_L_221 : decode code 221 = .ok (.invokevirtual 27, 3) := by decide +kernel
theorem d_L_224 : decode code 224 = .ok (.if_icmp .eq 393, 3) := by decide +kernel
theorem d_L_227 : decode code 227 = .ok (.iconst 0, 1) := by decide +kernel
theorem d_L_228 : decode code 228 = .ok (.ireturn, 1) := by decide +kernel
theorem d_L_229 : decode code 229 = .ok (.aload_n 1, 1) := by decide +kernel
theorem d_L_230 : decode code 230 = .ok (.aload_n 0, 1) := by decide +kernel
theorem d_L_231 : decode code 231 = .ok (.iload_n 3, 1) := by decide +kernel
theorem d_L_232 : decode code 232 = .ok (.iconst 1, 1) := by decide +kernel
theorem d_L_233 : decode code 233 = .ok (.iadd, 1) := by decide +kernel
theorem d_L_234 : decode code 234 = .ok (.iaload, 1) := by decide +kernel
theorem d_L_235 : decode code 235 = .ok (.aload_n 0, 1) := by decide +kernel
theorem d_L_236 : decode code 236 = .ok (.iload_n 3, 1) := by decide +kernel
theorem d_L_237 : decode code 237 = .ok (.iconst 2, 1) := by decide +kernel
theorem d_L_238 : decode code 238 = .ok (.iadd, 1) := by decide +kernel
theorem d_L_239 : decode code 239 = .ok (.iaload, 1) := by decide +kernel
theorem d_L_240 : decode code 240 = .ok (.aload_n 0, 1) := by decide +kernel
theorem d_L_241 : decode code 241 = .ok (.iload_n 3, 1) := by decide +kernel
theorem d_L_242 : decode code 242 = .ok (.iconst 3, 1) := by decide +kernel
theorem d_L_243 : decode code 243 = .ok (.iadd, 1) := by decide +kernel
theorem d_L_244 : decode code 244 = .ok (.iaload, 1) := by decide +kernel
theorem d_L_245 : decode code 245 = .ok (.invokevirtual 28, 3) := by decide +kernel
theorem d_L_248 : decode code 248 = .ok (.aload_n 2, 1) := by decide +kernel
theorem d_L_249 : decode code 249 = .ok (.aload_n 0, 1) := by decide +kernel
theorem d_L_250 : decode code 250 = .ok (.iload_n 3, 1) := by decide +kernel
theorem d_L_251 : decode code 251 = .ok (.iconst 1, 1) := by decide +kernel
theorem d_L_252 : decode code 252 = .ok (.iadd, 1) := by decide +kernel
theorem d_L_253 : decode code 253 = .ok (.iaload, 1) := by decide +kernel
theorem d_L_254 : decode code 254 = .ok (.aload_n 0, 1) := by decide +kernel
theorem d_L_255 : decode code 255 = .ok (.iload_n 3, 1) := by decide +kernel
theorem d_L_256 : decode code 256 = .ok (.iconst 2, 1) := by decide +kernel
theorem d_L_257 : decode code 257 = .ok (.iadd, 1) := by decide +kernel
theorem d_L_258 : decode code 258 = .ok (.iaload, 1) := by decide +kernel
theorem d_L_259 : decode code 259 = .ok (.aload_n 0, 1) := by decide +kernel
theorem d_L_260 : decode code 260 = .ok (.iload_n 3, 1) := by decide +kernel
theorem d_L_261 : decode code 261 = .ok (.iconst 3, 1) := by decide +kernel
theorem d_L_262 : decode code 262 = .ok (.iadd, 1) := by decide +kernel
theorem d_L_263 : decode code 263 = .ok (.iaload, 1) := by decide +kernel
theorem d_L_264 : decode code 264 = .ok (.invokevirtual 32, 3) := by decide +kernel
theorem d_L_267 : decode code 267 = .ok (.if_icmp .eq 350, 3) := by decide +kernel
theorem d_L_270 : decode code 270 = .ok (.iconst 0, 1) := by decide +kernel
theorem d_L_271 : decode code 271 = .ok (.ireturn, 1) := by decide +kernel
theorem d_L_272 : decode code 272 = .ok (.aload_n 1, 1) := by decide +kernel
theorem d_L_273 : decode code 273 = .ok (.aload_n 0, 1) := by decide +kernel
theorem d_L_274 : decode code 274 = .ok (.iload_n 3, 1) := by decide +kernel
theorem d_L_275 : decode code 275 = .ok (.iconst 1, 1) := by decide +kernel
theorem d_L_276 : decode code 276 = .ok (.iadd, 1) := by decide +kernel
theorem d_L_277 : decode code 277 = .ok (.iaload, 1) := by decide +kernel
theorem d_L_278 : decode code 278 = .ok (.aload_n 0, 1) := by decide +kernel
theorem d_L_279 : decode code 279 = .ok (.iload_n 3, 1) := by decide +kernel
theorem d_L_280 : decode code 280 = .ok (.iconst 2, 1) := by decide +kernel
theorem d_L_281 : decode code 281 = .ok (.iadd, 1) := by decide +kernel
theorem d_L_282 : decode code 282 = .ok (.iaload, 1) := by decide +kernel
theorem d_L_283 : decode code 283 = .ok (.aload_n 0, 1) := by decide +kernel
theorem d_L_284 : decode code 284 = .ok (.iload_n 3, 1) := by decide +kernel
theorem d_L_285 : decode code 285 = .ok (.iconst 3, 1) := by decide +kernel
theorem d_L_286 : decode code 286 = .ok (.iadd, 1) := by decide +kernel
theorem d_L_287 : decode code 287 = .ok (.iaload, 1) := by decide +kernel
theorem d_L_288 : decode code 288 = .ok (.invokevirtual 33, 3) := by decide +kernel
theorem d_L_291 : decode code 291 = .ok (.aload_n 2, 1) := by decide +kernel
theorem d_L_292 : decode code 292 = .ok (.aload_n 0, 1) := by decide +kernel
theorem d_L_293 : decode code 293 = .ok (.iload_n 3, 1) := by decide +kernel
theorem d_L_294 : decode code 294 = .ok (.iconst 1, 1) := by decide +kernel
theorem d_L_295 : decode code 295 = .ok (.iadd, 1) := by decide +kernel
theorem d_L_296 : decode code 296 = .ok (.iaload, 1) := by decide +kernel
theorem d_L_297 : decode code 297 = .ok (.aload_n 0, 1) := by decide +kernel
theorem d_L_298 : decode code 298 = .ok (.iload_n 3, 1) := by decide +kernel
theorem d_L_299 : decode code 299 = .ok (.iconst 2, 1) := by decide +kernel
theorem d_L_300 : decode code 300 = .ok (.iadd, 1) := by decide +kernel
theorem d_L_301 : decode code 301 = .ok (.iaload, 1) := by decide +kernel
theorem d_L_302 : decode code 302 = .ok (.aload_n 0, 1) := by decide +kernel
theorem d_L_303 : decode code 303 = .ok (.iload_n 3, 1) := by decide +kernel
theorem d_L_304 : decode code 304 = .ok (.iconst 3, 1) := by decide +kernel
theorem d_L_305 : decode code 305 = .ok (.iadd, 1) := by decide +kernel
theorem d_L_306 : decode code 306 = .ok (.iaload, 1) := by decide +kernel
theorem d_L_307 : decode code 307 = .ok (.invokevirtual 36, 3) := by decide +kernel
theorem d_L_310 : decode code 310 = .ok (.if_icmp .eq 307, 3) := by decide +kernel
theorem d_L_313 : decode code 313 = .ok (.iconst 0, 1) := by decide +kernel
theorem d_L_314 : decode code 314 = .ok (.ireturn, 1) := by decide +kernel
theorem d_L_315 : decode code 315 = .ok (.aload_n 1, 1) := by decide +kernel
theorem d_L_316 : decode code 316 = .ok (.aload_n 0, 1) := by decide +kernel
theorem d_L_317 : decode code 317 = .ok (.iload_n 3, 1) := by decide +kernel
theorem d_L_318 : decode code 318 = .ok (.iconst 1, 1) := by decide +kernel
theorem d_L_319 : decode code 319 = .ok (.iadd, 1) := by decide +kernel
theorem d_L_320 : decode code 320 = .ok (.iaload, 1) := by decide +kernel
theorem d_L_321 : decode code 321 = .ok (.invokevirtual 37, 3) := by decide +kernel
theorem d_L_324 : decode code 324 = .ok (.aload_n 2, 1) := by decide +kernel
theorem d_L_325 : decode code 325 = .ok (.aload_n 0, 1) := by decide +kernel
theorem d_L_326 : decode code 326 = .ok (.iload_n 3, 1) := by decide +kernel
theorem d_L_327 : decode code 327 = .ok (.iconst 1, 1) := by decide +kernel
theorem d_L_328 : decode code 328 = .ok (.iadd, 1) := by decide +kernel
theorem d_L_329 : decode code 329 = .ok (.iaload, 1) := by decide +kernel
theorem d_L_330 : decode code 330 = .ok (.invokevirtual 40, 3) := by decide +kernel
theorem d_L_333 : decode code 333 = .ok (.if_icmp .eq 284, 3) := by decide +kernel
theorem d_L_336 : decode code 336 = .ok (.iconst 0, 1) := by decide +kernel
theorem d_L_337 : decode code 337 = .ok (.ireturn, 1) := by decide +kernel
theorem d_L_338 : decode code 338 = .ok (.aload_n 1, 1) := by decide +kernel
theorem d_L_339 : decode code 339 = .ok (.invokevirtual 41, 3) := by decide +kernel
theorem d_L_342 : decode code 342 = .ok (.aload_n 2, 1) := by decide +kernel
theorem d_L_343 : decode code 343 = .ok (.invokevirtual 45, 3) := by decide +kernel
theorem d_L_346 : decode code 346 = .ok (.if_icmp .eq 271, 3) := by decide +kernel
theorem d_L_349 : decode code 349 = .ok (.iconst 0, 1) := by decide +kernel
theorem d_L_350 : decode code 350 = .ok (.ireturn, 1) := by decide +kernel
theorem d_L_351 : decode code 351 = .ok (.aload_n 1, 1) := by decide +kernel
theorem d_L_352 : decode code 352 = .ok (.invokevirtual 46, 3) := by decide +kernel
theorem d_L_355 : decode code 355 = .ok (.aload_n 2, 1) := by decide +kernel
theorem d_L_356 : decode code 356 = .ok (.invokevirtual 49, 3) := by decide +kernel
theorem d_L_359 : decode code 359 = .ok (.if_icmp .eq 258, 3) := by decide +kernel
theorem d_L_362 : decode code 362 = .ok (.iconst 0, 1) := by decide +kernel
theorem d_L_363 : decode code 363 = .ok (.ireturn, 1) := by decide +kernel
theorem d_L_364 : decode code 364 = .ok (.aload_n 1, 1) := by decide +kernel
theorem d_L_365 : decode code 365 = .ok (.invokevirtual 50, 3) := by decide +kernel
theorem d_L_368 : decode code 368 = .ok (.aload_n 2, 1) := by decide +kernel
theorem d_L_369 : decode code 369 = .ok (.invokevirtual 53, 3) := by decide +kernel
theorem d_L_372 : decode code 372 = .ok (.if_icmp .eq 245, 3) := by decide +kernel
theorem d_L_375 : decode code 375 = .ok (.iconst 0, 1) := by decide +kernel
theorem d_L_376 : decode code 376 = .ok (.ireturn, 1) := by decide +kernel
theorem d_L_377 : decode code 377 = .ok (.aload_n 1, 1) := by decide +kernel
theorem d_L_378 : decode code 378 = .ok (.invokevirtual 54, 3) := by decide +kernel
theorem d_L_381 : decode code 381 = .ok (.aload_n 2, 1) := by decide +kernel
theorem d_L_382 : decode code 382 = .ok (.invokevirtual 57, 3) := by decide +kernel
theorem d_L_385 : decode code 385 = .ok (.if_icmp .eq 232, 3) := by decide +kernel
theorem d_L_388 : decode code 388 = .ok (.iconst 0, 1) := by decide +kernel
theorem d_L_389 : decode code 389 = .ok (.ireturn, 1) := by decide +kernel
theorem d_L_390 : decode code 390 = .ok (.aload_n 1, 1) := by decide +kernel
theorem d_L_391 : decode code 391 = .ok (.aload_n 0, 1) := by decide +kernel
theorem d_L_392 : decode code 392 = .ok (.iload_n 3, 1) := by decide +kernel
theorem d_L_393 : decode code 393 = .ok (.iconst 1, 1) := by decide +kernel
theorem d_L_394 : decode code 394 = .ok (.iadd, 1) := by decide +kernel
theorem d_L_395 : decode code 395 = .ok (.iaload, 1) := by decide +kernel
theorem d_L_396 : decode code 396 = .ok (.invokevirtual 58, 3) := by decide +kernel
theorem d_L_399 : decode code 399 = .ok (.aload_n 2, 1) := by decide +kernel
theorem d_L_400 : decode code 400 = .ok (.aload_n 0, 1) := by decide +kernel
theorem d_L_401 : decode code 401 = .ok (.iload_n 3, 1) := by decide +kernel
theorem d_L_402 : decode code 402 = .ok (.iconst 1, 1) := by decide +kernel
theorem d_L_403 : decode code 403 = .ok (.iadd, 1) := by decide +kernel
theorem d_L_404 : decode code 404 = .ok (.iaload, 1) := by decide +kernel
theorem d_L_405 : decode code 405 = .ok (.invokevirtual 62, 3) := by decide +kernel
theorem d_L_408 : decode code 408 = .ok (.if_icmp .eq 209, 3) := by decide +kernel
theorem d_L_411 : decode code 411 = .ok (.iconst 0, 1) := by decide +kernel
theorem d_L_412 : decode code 412 = .ok (.ireturn, 1) := by decide +kernel
theorem d_L_413 : decode code 413 = .ok (.aload_n 1, 1) := by decide +kernel
theorem d_L_414 : decode code 414 = .ok (.aload_n 0, 1) := by decide +kernel
theorem d_L_415 : decode code 415 = .ok (.iload_n 3, 1) := by decide +kernel
theorem d_L_416 : decode code 416 = .ok (.iconst 1, 1) := by decide +kernel
theorem d_L_417 : decode code 417 = .ok (.iadd, 1) := by decide +kernel
theorem d_L_418 : decode code 418 = .ok (.iaload, 1) := by decide +kernel
theorem d_L_419 : decode code 419 = .ok (.invokevirtual 63, 3) := by decide +kernel
theorem d_L_422 : decode code 422 = .ok (.aload_n 2, 1) := by decide +kernel
theorem d_L_423 : decode code 423 = .ok (.aload_n 0, 1) := by decide +kernel
theorem d_L_424 : decode code 424 = .ok (.iload_n 3, 1) := by decide +kernel
theorem d_L_425 : decode code 425 = .ok (.iconst 1, 1) := by decide +kernel
theorem d_L_426 : decode code 426 = .ok (.iadd, 1) := by decide +kernel
theorem d_L_427 : decode code 427 = .ok (.iaload, 1) := by decide +kernel
theorem d_L_428 : decode code 428 = .ok (.invokevirtual 66, 3) := by decide +kernel
theorem d_L_431 : decode code 431 = .ok (.if_icmp .eq 186, 3) := by decide +kernel
theorem d_L_434 : decode code 434 = .ok (.iconst 0, 1) := by decide +kernel
theorem d_L_435 : decode code 435 = .ok (.ireturn, 1) := by decide +kernel
theorem d_L_436 : decode code 436 = .ok (.aload_n 1, 1) := by decide +kernel
theorem d_L_437 : decode code 437 = .ok (.invokevirtual 67, 3) := by decide +kernel
theorem d_L_440 : decode code 440 = .ok (.aload_n 2, 1) := by decide +kernel
theorem d_L_441 : decode code 441 = .ok (.invokevirtual 70, 3) := by decide +kernel
theorem d_L_444 : decode code 444 = .ok (.if_icmp .eq 173, 3) := by decide +kernel
theorem d_L_447 : decode code 447 = .ok (.iconst 0, 1) := by decide +kernel
theorem d_L_448 : decode code 448 = .ok (.ireturn, 1) := by decide +kernel
theorem d_L_449 : decode code 449 = .ok (.aload_n 1, 1) := by decide +kernel
theorem d_L_450 : decode code 450 = .ok (.invokevirtual 71, 3) := by decide +kernel
theorem d_L_453 : decode code 453 = .ok (.aload_n 2, 1) := by decide +kernel
theorem d_L_454 : decode code 454 = .ok (.invokevirtual 75, 3) := by decide +kernel
theorem d_L_457 : decode code 457 = .ok (.lcmp, 1) := by decide +kernel
theorem d_L_458 : decode code 458 = .ok (.ifCond .eq 159, 3) := by decide +kernel
theorem d_L_461 : decode code 461 = .ok (.iconst 0, 1) := by decide +kernel
theorem d_L_462 : decode code 462 = .ok (.ireturn, 1) := by decide +kernel
theorem d_L_463 : decode code 463 = .ok (.aload_n 1, 1) := by decide +kernel
theorem d_L_464 : decode code 464 = .ok (.aload_n 0, 1) := by decide +kernel
theorem d_L_465 : decode code 465 = .ok (.iload_n 3, 1) := by decide +kernel
theorem d_L_466 : decode code 466 = .ok (.iconst 1, 1) := by decide +kernel
theorem d_L_467 : decode code 467 = .ok (.iadd, 1) := by decide +kernel
theorem d_L_468 : decode code 468 = .ok (.iaload, 1) := by decide +kernel
theorem d_L_469 : decode code 469 = .ok (.invokevirtual 76, 3) := by decide +kernel
theorem d_L_472 : decode code 472 = .ok (.aload_n 2, 1) := by decide +kernel
theorem d_L_473 : decode code 473 = .ok (.aload_n 0, 1) := by decide +kernel
theorem d_L_474 : decode code 474 = .ok (.iload_n 3, 1) := by decide +kernel
theorem d_L_475 : decode code 475 = .ok (.iconst 1, 1) := by decide +kernel
theorem d_L_476 : decode code 476 = .ok (.iadd, 1) := by decide +kernel
theorem d_L_477 : decode code 477 = .ok (.iaload, 1) := by decide +kernel
theorem d_L_478 : decode code 478 = .ok (.invokevirtual 80, 3) := by decide +kernel
theorem d_L_481 : decode code 481 = .ok (.lcmp, 1) := by decide +kernel
theorem d_L_482 : decode code 482 = .ok (.ifCond .eq 135, 3) := by decide +kernel
theorem d_L_485 : decode code 485 = .ok (.iconst 0, 1) := by decide +kernel
theorem d_L_486 : decode code 486 = .ok (.ireturn, 1) := by decide +kernel
theorem d_L_487 : decode code 487 = .ok (.aload_n 1, 1) := by decide +kernel
theorem d_L_488 : decode code 488 = .ok (.aload_n 0, 1) := by decide +kernel
theorem d_L_489 : decode code 489 = .ok (.iload_n 3, 1) := by decide +kernel
theorem d_L_490 : decode code 490 = .ok (.iconst 1, 1) := by decide +kernel
theorem d_L_491 : decode code 491 = .ok (.iadd, 1) := by decide +kernel
theorem d_L_492 : decode code 492 = .ok (.iaload, 1) := by decide +kernel
theorem d_L_493 : decode code 493 = .ok (.invokevirtual 81, 3) := by decide +kernel
theorem d_L_496 : decode code 496 = .ok (.aload_n 2, 1) := by decide +kernel
theorem d_L_497 : decode code 497 = .ok (.aload_n 0, 1) := by decide +kernel
theorem d_L_498 : decode code 498 = .ok (.iload_n 3, 1) := by decide +kernel
theorem d_L_499 : decode code 499 = .ok (.iconst 1, 1) := by decide +kernel
theorem d_L_500 : decode code 500 = .ok (.iadd, 1) := by decide +kernel
theorem d_L_501 : decode code 501 = .ok (.iaload, 1) := by decide +kernel
theorem d_L_502 : decode code 502 = .ok (.invokevirtual 84, 3) := by decide +kernel
theorem d_L_505 : decode code 505 = .ok (.if_icmp .eq 112, 3) := by decide +kernel
theorem d_L_508 : decode code 508 = .ok (.iconst 0, 1) := by decide +kernel
theorem d_L_509 : decode code 509 = .ok (.ireturn, 1) := by decide +kernel
theorem d_L_510 : decode code 510 = .ok (.aload_n 1, 1) := by decide +kernel
theorem d_L_511 : decode code 511 = .ok (.aload_n 0, 1) := by decide +kernel
theorem d_L_512 : decode code 512 = .ok (.iload_n 3, 1) := by decide +kernel
theorem d_L_513 : decode code 513 = .ok (.iconst 1, 1) := by decide +kernel
theorem d_L_514 : decode code 514 = .ok (.iadd, 1) := by decide +kernel
theorem d_L_515 : decode code 515 = .ok (.iaload, 1) := by decide +kernel
theorem d_L_516 : decode code 516 = .ok (.aload_n 0, 1) := by decide +kernel
theorem d_L_517 : decode code 517 = .ok (.iload_n 3, 1) := by decide +kernel
theorem d_L_518 : decode code 518 = .ok (.iconst 2, 1) := by decide +kernel
theorem d_L_519 : decode code 519 = .ok (.iadd, 1) := by decide +kernel
theorem d_L_520 : decode code 520 = .ok (.iaload, 1) := by decide +kernel
theorem d_L_521 : decode code 521 = .ok (.aload_n 0, 1) := by decide +kernel
theorem d_L_522 : decode code 522 = .ok (.iload_n 3, 1) := by decide +kernel
theorem d_L_523 : decode code 523 = .ok (.iconst 3, 1) := by decide +kernel
theorem d_L_524 : decode code 524 = .ok (.iadd, 1) := by decide +kernel
theorem d_L_525 : decode code 525 = .ok (.iaload, 1) := by decide +kernel
theorem d_L_526 : decode code 526 = .ok (.aload_n 0, 1) := by decide +kernel
theorem d_L_527 : decode code 527 = .ok (.iload_n 3, 1) := by decide +kernel
theorem d_L_528 : decode code 528 = .ok (.iconst 4, 1) := by decide +kernel
theorem d_L_529 : decode code 529 = .ok (.iadd, 1) := by decide +kernel
theorem d_L_530 : decode code 530 = .ok (.iaload, 1) := by decide +kernel
theorem d_L_531 : decode code 531 = .ok (.invokevirtual 85, 3) := by decide +kernel
theorem d_L_534 : decode code 534 = .ok (.aload_n 2, 1) := by decide +kernel
theorem d_L_535 : decode code 535 = .ok (.aload_n 0, 1) := by decide +kernel
theorem d_L_536 : decode code 536 = .ok (.iload_n 3, 1) := by decide +kernel
theorem d_L_537 : decode code 537 = .ok (.iconst 1, 1) := by decide +kernel
theorem d_L_538 : decode code 538 = .ok (.iadd, 1) := by decide +kernel
theorem d_L_539 : decode code 539 = .ok (.iaload, 1) := by decide +kernel
theorem d_L_540 : decode code 540 = .ok (.aload_n 0, 1) := by decide +kernel
theorem d_L_541 : decode code 541 = .ok (.iload_n 3, 1) := by decide +kernel
theorem d_L_542 : decode code 542 = .ok (.iconst 2, 1) := by decide +kernel
theorem d_L_543 : decode code 543 = .ok (.iadd, 1) := by decide +kernel
theorem d_L_544 : decode code 544 = .ok (.iaload, 1) := by decide +kernel
theorem d_L_545 : decode code 545 = .ok (.aload_n 0, 1) := by decide +kernel
theorem d_L_546 : decode code 546 = .ok (.iload_n 3, 1) := by decide +kernel
theorem d_L_547 : decode code 547 = .ok (.iconst 3, 1) := by decide +kernel
theorem d_L_548 : decode code 548 = .ok (.iadd, 1) := by decide +kernel
theorem d_L_549 : decode code 549 = .ok (.iaload, 1) := by decide +kernel
theorem d_L_550 : decode code 550 = .ok (.aload_n 0, 1) := by decide +kernel
theorem d_L_551 : decode code 551 = .ok (.iload_n 3, 1) := by decide +kernel
theorem d_L_552 : decode code 552 = .ok (.iconst 4, 1) := by decide +kernel
theorem d_L_553 : decode code 553 = .ok (.iadd, 1) := by decide +kernel
theorem d_L_554 : decode code 554 = .ok (.iaload, 1) := by decide +kernel
theorem d_L_555 : decode code 555 = .ok (.invokevirtual 88, 3) := by decide +kernel
theorem d_L_558 : decode code 558 = .ok (.if_icmp .eq 59, 3) := by decide +kernel
theorem d_L_561 : decode code 561 = .ok (.iconst 0, 1) := by decide +kernel
theorem d_L_562 : decode code 562 = .ok (.ireturn, 1) := by decide +kernel
theorem d_L_563 : decode code 563 = .ok (.aload_n 1, 1) := by decide +kernel
theorem d_L_564 : decode code 564 = .ok (.aload_n 0, 1) := by decide +kernel
theorem d_L_565 : decode code 565 = .ok (.iload_n 3, 1) := by decide +kernel
theorem d_L_566 : decode code 566 = .ok (.iconst 1, 1) := by decide +kernel
theorem d_L_567 : decode code 567 = .ok (.iadd, 1) := by decide +kernel
theorem d_L_568 : decode code 568 = .ok (.iaload, 1) := by decide +kernel
theorem d_L_569 : decode code 569 = .ok (.aload_n 0, 1) := by decide +kernel
theorem d_L_570 : decode code 570 = .ok (.iload_n 3, 1) := by decide +kernel
theorem d_L_571 : decode code 571 = .ok (.iconst 2, 1) := by decide +kernel
theorem d_L_572 : decode code 572 = .ok (.iadd, 1) := by decide +kernel
theorem d_L_573 : decode code 573 = .ok (.iaload, 1) := by decide +kernel
theorem d_L_574 : decode code 574 = .ok (.aload_n 0, 1) := by decide +kernel
theorem d_L_575 : decode code 575 = .ok (.iload_n 3, 1) := by decide +kernel
theorem d_L_576 : decode code 576 = .ok (.iconst 3, 1) := by decide +kernel
theorem d_L_577 : decode code 577 = .ok (.iadd, 1) := by decide +kernel
theorem d_L_578 : decode code 578 = .ok (.iaload, 1) := by decide +kernel
theorem d_L_579 : decode code 579 = .ok (.aload_n 0, 1) := by decide +kernel
theorem d_L_580 : decode code 580 = .ok (.iload_n 3, 1) := by decide +kernel
theorem d_L_581 : decode code 581 = .ok (.iconst 4, 1) := by decide +kernel
theorem d_L_582 : decode code 582 = .ok (.iadd, 1) := by decide +kernel
theorem d_L_583 : decode code 583 = .ok (.iaload, 1) := by decide +kernel
theorem d_L_584 : decode code 584 = .ok (.invokevirtual 89, 3) := by decide +kernel
theorem d_L_587 : decode code 587 = .ok (.aload_n 2, 1) := by decide +kernel
theorem d_L_588 : decode code 588 = .ok (.aload_n 0, 1) := by decide +kernel
theorem d_L_589 : decode code 589 = .ok (.iload_n 3, 1) := by decide +kernel
theorem d_L_590 : decode code 590 = .ok (.iconst 1, 1) := by decide +kernel
theorem d_L_591 : decode code 591 = .ok (.iadd, 1) := by decide +kernel
theorem d_L_592 : decode code 592 = .ok (.iaload, 1) := by decide +kernel
theorem d_L_593 : decode code 593 = .ok (.aload_n 0, 1) := by decide +kernel
theorem d_L_594 : decode code 594 = .ok (.iload_n 3, 1) := by decide +kernel
theorem d_L_595 : decode code 595 = .ok (.iconst 2, 1) := by decide +kernel
theorem d_L_596 : decode code 596 = .ok (.iadd, 1) := by decide +kernel
theorem d_L_597 : decode code 597 = .ok (.iaload, 1) := by decide +kernel
theorem d_L_598 : decode code 598 = .ok (.aload_n 0, 1) := by decide +kernel
theorem d_L_599 : decode code 599 = .ok (.iload_n 3, 1) := by decide +kernel
theorem d_L_600 : decode code 600 = .ok (.iconst 3, 1) := by decide +kernel
theorem d_L_601 : decode code 601 = .ok (.iadd, 1) := by decide +kernel
theorem d_L_602 : decode code 602 = .ok (.iaload, 1) := by decide +kernel
theorem d_L_603 : decode code 603 = .ok (.aload_n 0, 1) := by decide +kernel
theorem d_L_604 : decode code 604 = .ok (.iload_n 3, 1) := by decide +kernel
theorem d_L_605 : decode code 605 = .ok (.iconst 4, 1) := by decide +kernel
theorem d_L_606 : decode code 606 = .ok (.iadd, 1) := by decide +kernel
theorem d_L_607 : decode code 607 = .ok (.iaload, 1) := by decide +kernel
theorem d_L_608 : decode code 608 = .ok (.invokevirtual 93, 3) := by decide +kernel
theorem d_L_611 : decode code 611 = .ok (.lcmp, 1) := by decide +kernel
theorem d_L_612 : decode code 612 = .ok (.ifCond .eq 5, 3) := by decide +kernel
theorem d_L_615 : decode code 615 = .ok (.iconst 0, 1) := by decide +kernel
theorem d_L_616 : decode code 616 = .ok (.ireturn, 1) := by decide +kernel
theorem d_L_617 : decode code 617 = .ok (.iinc 3 5, 3) := by decide +kernel
theorem d_L_620 : decode code 620 = .ok (.goto (-602), 3) := by decide +kernel
theorem d_L_623 : decode code 623 = .ok (.iconst 1, 1) := by decide +kernel
theorem d_L_624 : decode code 624 = .ok (.ireturn, 1) := by decide +kernel
def z_op_line (I : z_S → z_S → Prop) : Prop := ∀ (S M : z_S) (a0 a1 a2 a3 : Int32), I S M → ∃ (n : Nat) (r : Int32) (S1 M1 : z_S), f_N_line n a0 a1 a2 a3 S = some (r, S1) ∧ f_M_line n a0 a1 a2 a3 M = some (r, M1) ∧ I S1 M1
def z_op_limit (I : z_S → z_S → Prop) : Prop := ∀ (S M : z_S) (a0 a1 : Int32), I S M → ∃ (n : Nat) (r : Int32) (S1 M1 : z_S), f_N_limit n a0 a1 S = some (r, S1) ∧ f_M_limit n a0 a1 M = some (r, M1) ∧ I S1 M1
def z_op_cut (I : z_S → z_S → Prop) : Prop := ∀ (S M : z_S) (a0 : Int32), I S M → ∃ (n : Nat) (r : Int32) (S1 M1 : z_S), f_N_cut n a0 S = some (r, S1) ∧ f_M_cut n a0 M = some (r, M1) ∧ I S1 M1
def z_op_bid (I : z_S → z_S → Prop) : Prop := ∀ (S M : z_S) (a0 a1 a2 : Int32), I S M → ∃ (n : Nat) (r : Int32) (S1 M1 : z_S), f_N_bid n a0 a1 a2 S = some (r, S1) ∧ f_M_bid n a0 a1 a2 M = some (r, M1) ∧ I S1 M1
def z_op_offer (I : z_S → z_S → Prop) : Prop := ∀ (S M : z_S) (a0 a1 a2 : Int32), I S M → ∃ (n : Nat) (r : Int32) (S1 M1 : z_S), f_N_offer n a0 a1 a2 S = some (r, S1) ∧ f_M_offer n a0 a1 a2 M = some (r, M1) ∧ I S1 M1
def z_op_cancel (I : z_S → z_S → Prop) : Prop := ∀ (S M : z_S) (a0 : Int32), I S M → ∃ (n : Nat) (r : Int32) (S1 M1 : z_S), f_N_cancel n a0 S = some (r, S1) ∧ f_M_cancel n a0 M = some (r, M1) ∧ I S1 M1
def z_op_clear (I : z_S → z_S → Prop) : Prop := ∀ (S M : z_S), I S M → ∃ (n : Nat) (r : Int32) (S1 M1 : z_S), f_N_clear n S = some (r, S1) ∧ f_M_clear n M = some (r, M1) ∧ I S1 M1
def z_op_steps (I : z_S → z_S → Prop) : Prop := ∀ (S M : z_S), I S M → ∃ (n : Nat) (r : Int32) (S1 M1 : z_S), f_N_steps n S = some (r, S1) ∧ f_M_steps n M = some (r, M1) ∧ I S1 M1
def z_op_lines (I : z_S → z_S → Prop) : Prop := ∀ (S M : z_S), I S M → ∃ (n : Nat) (r : Int32) (S1 M1 : z_S), f_N_lines n S = some (r, S1) ∧ f_M_lines n M = some (r, M1) ∧ I S1 M1
def z_op_scale (I : z_S → z_S → Prop) : Prop := ∀ (S M : z_S), I S M → ∃ (n : Nat) (r : Int32) (S1 M1 : z_S), f_N_scale n S = some (r, S1) ∧ f_M_scale n M = some (r, M1) ∧ I S1 M1
def z_op_accepted (I : z_S → z_S → Prop) : Prop := ∀ (S M : z_S) (a0 : Int32), I S M → ∃ (n : Nat) (r : Int32) (S1 M1 : z_S), f_N_accepted n a0 S = some (r, S1) ∧ f_M_accepted n a0 M = some (r, M1) ∧ I S1 M1
def z_op_flow (I : z_S → z_S → Prop) : Prop := ∀ (S M : z_S) (a0 : Int32), I S M → ∃ (n : Nat) (r : Int32) (S1 M1 : z_S), f_N_flow n a0 S = some (r, S1) ∧ f_M_flow n a0 M = some (r, M1) ∧ I S1 M1
def z_op_tight (I : z_S → z_S → Prop) : Prop := ∀ (S M : z_S), I S M → ∃ (n : Nat) (r : Int32) (S1 M1 : z_S), f_N_tight n S = some (r, S1) ∧ f_M_tight n M = some (r, M1) ∧ I S1 M1
def z_op_welfare (I : z_S → z_S → Prop) : Prop := ∀ (S M : z_S), I S M → ∃ (n : Nat) (r : Int64) (S1 M1 : z_S), f_N_welfare n S = some (r, S1) ∧ f_M_welfare n M = some (r, M1) ∧ I S1 M1
def z_op_extraTop (I : z_S → z_S → Prop) : Prop := ∀ (S M : z_S) (a0 : Int32), I S M → ∃ (n : Nat) (r : Int64) (S1 M1 : z_S), f_N_extraTop n a0 S = some (r, S1) ∧ f_M_extraTop n a0 M = some (r, M1) ∧ I S1 M1
def z_op_extraBottom (I : z_S → z_S → Prop) : Prop := ∀ (S M : z_S) (a0 : Int32), I S M → ∃ (n : Nat) (r : Int32) (S1 M1 : z_S), f_N_extraBottom n a0 S = some (r, S1) ∧ f_M_extraBottom n a0 M = some (r, M1) ∧ I S1 M1
def z_op_check (I : z_S → z_S → Prop) : Prop := ∀ (S M : z_S) (a0 a1 a2 a3 : Int32), I S M → ∃ (n : Nat) (r : Int32) (S1 M1 : z_S), f_N_check n a0 a1 a2 a3 S = some (r, S1) ∧ f_M_check n a0 a1 a2 a3 M = some (r, M1) ∧ I S1 M1
def z_op_rent (I : z_S → z_S → Prop) : Prop := ∀ (S M : z_S) (a0 a1 a2 a3 : Int32), I S M → ∃ (n : Nat) (r : Int64) (S1 M1 : z_S), f_N_rent n a0 a1 a2 a3 S = some (r, S1) ∧ f_M_rent n a0 a1 a2 a3 M = some (r, M1) ∧ I S1 M1
def z_Sim (I : z_S → z_S → Prop) : Prop := z_op_line I ∧ z_op_limit I ∧ z_op_cut I ∧ z_op_bid I ∧ z_op_offer I ∧ z_op_cancel I ∧ z_op_clear I ∧ z_op_steps I ∧ z_op_lines I ∧ z_op_scale I ∧ z_op_accepted I ∧ z_op_flow I ∧ z_op_tight I ∧ z_op_welfare I ∧ z_op_extraTop I ∧ z_op_extraBottom I ∧ z_op_check I ∧ z_op_rent I
theorem z_split {D : va_G} {cl : List vw_C} {A : Nat → Prop} {w1 w2 : va_W} {H : Heap} (hP : va_P D cl (w1 ++ w2) H) (hD : va_D A (w1 ++ w2)) : va_P D cl w1 H ∧ va_P D cl w2 H ∧ va_D A w1 ∧ va_D A w2 ∧ (∀ (i : Nat) (x : Nat × va_E), w1[i]? = some x → x.1 < H.size ∧ ¬ va_A w2 H.size x.1) ∧ (∀ (i : Nat) (x : Nat × va_E), w2[i]? = some x → x.1 < H.size ∧ ¬ va_A w1 H.size x.1) := by
  have e1 : ∀ (i : Nat) (x : Nat × va_E), w1[i]? = some x → i < w1.length ∧ (w1 ++ w2)[i]? = some x := fun i x h => by
    have hl : i < w1.length := (List.getElem?_eq_some_iff.mp h).1
    exact ⟨hl, by rw [List.getElem?_append_left hl]; exact h⟩
  have e2 : ∀ (i : Nat) (x : Nat × va_E), w2[i]? = some x → (w1 ++ w2)[w1.length + i]? = some x := fun i x h => by
    rw [List.getElem?_append_right (by omega), show w1.length + i - w1.length = i by omega]; exact h
  refine ⟨fun i x h => hP i x (e1 i x h).2, fun i x h => hP _ x (e2 i x h), ⟨fun i j x y h1 h2 h3 => hD.1 i j x y (e1 i x h1).2 (e1 j y h2).2 h3, fun i x h => hD.2 i x (e1 i x h).2⟩, ⟨fun i j x y h1 h2 h3 => by have := hD.1 _ _ x y (e2 i x h1) (e2 j y h2) h3; omega, fun i x h => hD.2 _ x (e2 i x h)⟩, fun i x h => ⟨(hP i x (e1 i x h).2).lt, fun hh => ?_⟩, fun i x h => ⟨(hP _ x (e2 i x h)).lt, fun hh => ?_⟩⟩
  · rcases hh with ⟨j, e9, hh⟩ | hh
    · have h1 := hD.1 i (w1.length + j) x (x.1, e9) (e1 i x h).2 (e2 j _ hh) rfl
      have := (e1 i x h).1
      omega
    · have := (hP i x (e1 i x h).2).lt
      omega
  · rcases hh with ⟨j, e9, hh⟩ | hh
    · have h1 := hD.1 (w1.length + i) j x (x.1, e9) (e2 i x h) (e1 j _ hh).2 rfl
      have := (e1 j _ hh).1
      omega
    · have := (hP _ x (e2 i x h)).lt
      omega
section ZLAW
variable {X : z_X} {A : Nat → Prop} {Q : State → Prop} {Ω : z_O} {k n nL pc q : Nat} {lv : List (Nat × Value)} {st : List Value} {w : va_W} {cc : ByteArray} {own : String}
theorem z_callLi {y : MethodName} {bytes : ByteArray} {maxL fr lo N ix b : Nat} {r : Int32} {rt : FieldType} {As sk : List Value} {wc wr wc' : va_W} {q0 ci : Nat} {fs : List Value} {T : u_T} {NN : Nat} (hC : z_C X cc nL own Ω) (hA : z_hA X A) (hM : z_MI (z_lOf X) Ω y bytes maxL rt fr lo (.ref b :: As) wc r wc') (hco : Cond.code y bytes maxL (some rt) ∈ z_good) (hlk : Cond.methodLink own ix y ∈ z_good) (hi : Cond.instanceMethod y ∈ z_good) (hs : Cond.selects y.cls y y ∈ z_good) (hini : Cond.initialized y.cls ∈ z_good) (hd : y.cls ≠ "java/lang/invoke/MethodHandle" ∧ y.cls ≠ "java/lang/invoke/VarHandle" ∧ (parseMethodDescriptor y.desc).map (fun d => d.parameters.length) = some N) (hR : fr + 1 ≤ (z_rmOf X).frames ∧ 8 + (maxL + 11) + lo ≤ (z_rmOf X).locals) (hkn : k ≤ (z_rmOf X).cells ∧ n ≤ (z_rmOf X).slots) (hn : As.length = N) (he : wc[q0]? = some (b, .inr (ci, fs))) (hc : z_cl[ci]? = some (y.cls, T, NN)) (hsk : (st.map fun v => v.category).sum ≤ 8) (hst : sk = As.reverse ++ .ref b :: st) (d : decode cc pc = .ok (.invokevirtual ix, 3)) (hq : pc + 3 = q) (kk : z_At X A Q Ω k n nL q lv (.int r :: st) (wc' ++ wr)) : z_At X A Q Ω k n nL pc lv sk (wc ++ wr) := by
  subst hq
  subst hst
  obtain ⟨p, l, e, R, s, m, args, below, meth, c⟩ := X
  obtain ⟨hx, hb, hml, hown, hts, hK, hN⟩ := hC
  intro H locs ls hP hD hS hl
  obtain ⟨hPc, hPr, hDc, hDr, -, hne⟩ := z_split hP hD
  have hF := z_wFree hDc hS hA
  refine va_calli (va_runV (C := y.cls) (As := As) (rest := st) ⟨hx, hb, hml, hown, hts⟩ (hM H.size) ⟨callB_of N hts (z_goodC hco) rfl rfl rfl (hts _ hini) (hts _ hlk) hd hR, hts _ hi, hts _ hs⟩ ⟨z_blind wc H.size _, va_recv hK hPc hc he, fun U hU hW => ⟨rfl, by rw [hU], by rw [hU]; exact hPc, va_K.moved hW.alike hK, hDc.weaken (fun _ _ _ _ => trivial), z_nestW hW hN⟩⟩ rfl hn hl.1 rfl (lv_room hsk) d ⟨hkn.1, hkn.2⟩) hS (fun q _ h => hF q h) hF (fun r1 u t H1 locs1 ht hvm hp hB hz1 hk1 hS1 => ?_)
  obtain ⟨hP1, hD1⟩ := hB
  rw [ht] at hP1
  subst hp
  exact kk H1 locs1 ls (va_P.app hP1 (fun i x hi => (hPr i x hi).kept (hk1 x.1 (hne i x hi).1 (hne i x hi).2))) (va_D.app (hD1.weaken (fun _ q _ h => hF q.1 h)) hDr (fun i j x y hi hj h => (hne j y hj).2 (by rw [← h]; exact hD1.2 i x hi))) hS1 hl
theorem z_callLl {y : MethodName} {bytes : ByteArray} {maxL fr lo N ix b : Nat} {r : Int64} {rt : FieldType} {As sk : List Value} {wc wr wc' : va_W} {q0 ci : Nat} {fs : List Value} {T : u_T} {NN : Nat} (hC : z_C X cc nL own Ω) (hA : z_hA X A) (hM : z_ML (z_lOf X) Ω y bytes maxL rt fr lo (.ref b :: As) wc r wc') (hco : Cond.code y bytes maxL (some rt) ∈ z_good) (hlk : Cond.methodLink own ix y ∈ z_good) (hi : Cond.instanceMethod y ∈ z_good) (hs : Cond.selects y.cls y y ∈ z_good) (hini : Cond.initialized y.cls ∈ z_good) (hd : y.cls ≠ "java/lang/invoke/MethodHandle" ∧ y.cls ≠ "java/lang/invoke/VarHandle" ∧ (parseMethodDescriptor y.desc).map (fun d => d.parameters.length) = some N) (hR : fr + 1 ≤ (z_rmOf X).frames ∧ 8 + (maxL + 11) + lo ≤ (z_rmOf X).locals) (hkn : k ≤ (z_rmOf X).cells ∧ n ≤ (z_rmOf X).slots) (hn : As.length = N) (he : wc[q0]? = some (b, .inr (ci, fs))) (hc : z_cl[ci]? = some (y.cls, T, NN)) (hsk : (st.map fun v => v.category).sum ≤ 8) (hst : sk = As.reverse ++ .ref b :: st) (d : decode cc pc = .ok (.invokevirtual ix, 3)) (hq : pc + 3 = q) (kk : z_At X A Q Ω k n nL q lv (.long r :: st) (wc' ++ wr)) : z_At X A Q Ω k n nL pc lv sk (wc ++ wr) := by
  subst hq
  subst hst
  obtain ⟨p, l, e, R, s, m, args, below, meth, c⟩ := X
  obtain ⟨hx, hb, hml, hown, hts, hK, hN⟩ := hC
  intro H locs ls hP hD hS hl
  obtain ⟨hPc, hPr, hDc, hDr, -, hne⟩ := z_split hP hD
  have hF := z_wFree hDc hS hA
  refine va_calll (va_runV (C := y.cls) (As := As) (rest := st) ⟨hx, hb, hml, hown, hts⟩ (hM H.size) ⟨callB_of N hts (z_goodC hco) rfl rfl rfl (hts _ hini) (hts _ hlk) hd hR, hts _ hi, hts _ hs⟩ ⟨z_blind wc H.size _, va_recv hK hPc hc he, fun U hU hW => ⟨rfl, by rw [hU], by rw [hU]; exact hPc, va_K.moved hW.alike hK, hDc.weaken (fun _ _ _ _ => trivial), z_nestW hW hN⟩⟩ rfl hn hl.1 rfl (lv_room hsk) d ⟨hkn.1, hkn.2⟩) hS (fun q _ h => hF q h) hF (fun r1 u t H1 locs1 ht hvm hp hB hz1 hk1 hS1 => ?_)
  obtain ⟨hP1, hD1⟩ := hB
  rw [ht] at hP1
  subst hp
  exact kk H1 locs1 ls (va_P.app hP1 (fun i x hi => (hPr i x hi).kept (hk1 x.1 (hne i x hi).1 (hne i x hi).2))) (va_D.app (hD1.weaken (fun _ q _ h => hF q.1 h)) hDr (fun i j x y hi hj h => (hne j y hj).2 (by rw [← h]; exact hD1.2 i x hi))) hS1 hl
theorem z_callRi {y : MethodName} {bytes : ByteArray} {maxL fr lo N ix b : Nat} {r : Int32} {rt : FieldType} {As sk : List Value} {wc wr wc' : va_W} {q0 ci : Nat} {fs : List Value} {T : u_T} {NN : Nat} (hC : z_C X cc nL own Ω) (hA : z_hA X A) (hM : z_MI (z_lOf X) Ω y bytes maxL rt fr lo (.ref b :: As) wc r wc') (hco : Cond.code y bytes maxL (some rt) ∈ z_good) (hlk : Cond.methodLink own ix y ∈ z_good) (hi : Cond.instanceMethod y ∈ z_good) (hs : Cond.selects y.cls y y ∈ z_good) (hini : Cond.initialized y.cls ∈ z_good) (hd : y.cls ≠ "java/lang/invoke/MethodHandle" ∧ y.cls ≠ "java/lang/invoke/VarHandle" ∧ (parseMethodDescriptor y.desc).map (fun d => d.parameters.length) = some N) (hR : fr + 1 ≤ (z_rmOf X).frames ∧ 8 + (maxL + 11) + lo ≤ (z_rmOf X).locals) (hkn : k ≤ (z_rmOf X).cells ∧ n ≤ (z_rmOf X).slots) (hn : As.length = N) (he : wc[q0]? = some (b, .inr (ci, fs))) (hc : z_cl[ci]? = some (y.cls, T, NN)) (hsk : (st.map fun v => v.category).sum ≤ 8) (hst : sk = As.reverse ++ .ref b :: st) (d : decode cc pc = .ok (.invokevirtual ix, 3)) (hq : pc + 3 = q) (kk : z_At X A Q Ω k n nL q lv (.int r :: st) (wr ++ wc')) : z_At X A Q Ω k n nL pc lv sk (wr ++ wc) := by
  subst hq
  subst hst
  obtain ⟨p, l, e, R, s, m, args, below, meth, c⟩ := X
  obtain ⟨hx, hb, hml, hown, hts, hK, hN⟩ := hC
  intro H locs ls hP hD hS hl
  obtain ⟨hPr, hPc, hDr, hDc, hne, -⟩ := z_split hP hD
  have hF := z_wFree hDc hS hA
  refine va_calli (va_runV (C := y.cls) (As := As) (rest := st) ⟨hx, hb, hml, hown, hts⟩ (hM H.size) ⟨callB_of N hts (z_goodC hco) rfl rfl rfl (hts _ hini) (hts _ hlk) hd hR, hts _ hi, hts _ hs⟩ ⟨z_blind wc H.size _, va_recv hK hPc hc he, fun U hU hW => ⟨rfl, by rw [hU], by rw [hU]; exact hPc, va_K.moved hW.alike hK, hDc.weaken (fun _ _ _ _ => trivial), z_nestW hW hN⟩⟩ rfl hn hl.1 rfl (lv_room hsk) d ⟨hkn.1, hkn.2⟩) hS (fun q _ h => hF q h) hF (fun r1 u t H1 locs1 ht hvm hp hB hz1 hk1 hS1 => ?_)
  obtain ⟨hP1, hD1⟩ := hB
  rw [ht] at hP1
  subst hp
  exact kk H1 locs1 ls (va_P.app (fun i x hi => (hPr i x hi).kept (hk1 x.1 (hne i x hi).1 (hne i x hi).2)) hP1) (va_D.app hDr (hD1.weaken (fun _ q _ h => hF q.1 h)) (fun i j x y hi hj h => (hne i x hi).2 (by rw [h]; exact hD1.2 j y hj))) hS1 hl
theorem z_callRl {y : MethodName} {bytes : ByteArray} {maxL fr lo N ix b : Nat} {r : Int64} {rt : FieldType} {As sk : List Value} {wc wr wc' : va_W} {q0 ci : Nat} {fs : List Value} {T : u_T} {NN : Nat} (hC : z_C X cc nL own Ω) (hA : z_hA X A) (hM : z_ML (z_lOf X) Ω y bytes maxL rt fr lo (.ref b :: As) wc r wc') (hco : Cond.code y bytes maxL (some rt) ∈ z_good) (hlk : Cond.methodLink own ix y ∈ z_good) (hi : Cond.instanceMethod y ∈ z_good) (hs : Cond.selects y.cls y y ∈ z_good) (hini : Cond.initialized y.cls ∈ z_good) (hd : y.cls ≠ "java/lang/invoke/MethodHandle" ∧ y.cls ≠ "java/lang/invoke/VarHandle" ∧ (parseMethodDescriptor y.desc).map (fun d => d.parameters.length) = some N) (hR : fr + 1 ≤ (z_rmOf X).frames ∧ 8 + (maxL + 11) + lo ≤ (z_rmOf X).locals) (hkn : k ≤ (z_rmOf X).cells ∧ n ≤ (z_rmOf X).slots) (hn : As.length = N) (he : wc[q0]? = some (b, .inr (ci, fs))) (hc : z_cl[ci]? = some (y.cls, T, NN)) (hsk : (st.map fun v => v.category).sum ≤ 8) (hst : sk = As.reverse ++ .ref b :: st) (d : decode cc pc = .ok (.invokevirtual ix, 3)) (hq : pc + 3 = q) (kk : z_At X A Q Ω k n nL q lv (.long r :: st) (wr ++ wc')) : z_At X A Q Ω k n nL pc lv sk (wr ++ wc) := by
  subst hq
  subst hst
  obtain ⟨p, l, e, R, s, m, args, below, meth, c⟩ := X
  obtain ⟨hx, hb, hml, hown, hts, hK, hN⟩ := hC
  intro H locs ls hP hD hS hl
  obtain ⟨hPr, hPc, hDr, hDc, hne, -⟩ := z_split hP hD
  have hF := z_wFree hDc hS hA
  refine va_calll (va_runV (C := y.cls) (As := As) (rest := st) ⟨hx, hb, hml, hown, hts⟩ (hM H.size) ⟨callB_of N hts (z_goodC hco) rfl rfl rfl (hts _ hini) (hts _ hlk) hd hR, hts _ hi, hts _ hs⟩ ⟨z_blind wc H.size _, va_recv hK hPc hc he, fun U hU hW => ⟨rfl, by rw [hU], by rw [hU]; exact hPc, va_K.moved hW.alike hK, hDc.weaken (fun _ _ _ _ => trivial), z_nestW hW hN⟩⟩ rfl hn hl.1 rfl (lv_room hsk) d ⟨hkn.1, hkn.2⟩) hS (fun q _ h => hF q h) hF (fun r1 u t H1 locs1 ht hvm hp hB hz1 hk1 hS1 => ?_)
  obtain ⟨hP1, hD1⟩ := hB
  rw [ht] at hP1
  subst hp
  exact kk H1 locs1 ls (va_P.app (fun i x hi => (hPr i x hi).kept (hk1 x.1 (hne i x hi).1 (hne i x hi).2)) hP1) (va_D.app hDr (hD1.weaken (fun _ q _ h => hF q.1 h)) (fun i j x y hi hj h => (hne i x hi).2 (by rw [h]; exact hD1.2 j y hj))) hS1 hl
def z_Xs (X : z_X) (A : Nat → Prop) (b L : Nat) (xs : Nat → Int32) : Prop := va_X b L xs X.2.2.2.2.1 X.2.2.2.2.1.heap ∧ b < X.2.2.2.2.1.heap.size ∧ ¬ A b
theorem z_sld {b L : Nat} {xs : Nat → Int32} {i : Int32} (hC : z_C X cc nL own Ω) (hX : z_Xs X A b L xs) (hi : vi i L = true) (d : decode cc pc = .ok (.iaload, 1)) (hq : pc + 1 = q) (kk : z_At X A Q Ω k n nL q lv (.int (xs i.toNatClampNeg) :: st) w) : z_At X A Q Ω k n nL pc lv (.int i :: .ref b :: st) w := by
  subst hq
  obtain ⟨p, l, e, R, s, m, args, below, meth, c⟩ := X
  obtain ⟨hx, hb, hml, hown, hts, hK, hN⟩ := hC
  intro H locs ls hP hD hS hl
  exact va_sld hx hb hX.1 hX.2.1 hX.2.2 hS (vi_in hi) d (kk H locs ls hP hD hS hl)
theorem z_slen {b L : Nat} {xs : Nat → Int32} (hC : z_C X cc nL own Ω) (hX : z_Xs X A b L xs) (d : decode cc pc = .ok (.arraylength, 1)) (hq : pc + 1 = q) (kk : z_At X A Q Ω k n nL q lv (.int (Int32.ofNat L) :: st) w) : z_At X A Q Ω k n nL pc lv (.ref b :: st) w := by
  subst hq
  obtain ⟨p, l, e, R, s, m, args, below, meth, c⟩ := X
  obtain ⟨hx, hb, hml, hown, hts, hK, hN⟩ := hC
  intro H locs ls hP hD hS hl
  exact va_slen hx hb hX.1 hX.2.1 hX.2.2 hS d (kk H locs ls hP hD hS hl)
theorem z_tabIn {dflt lo hi off : Int} {offs : Array Int} {len : Nat} {x : Int32} {tgt : Nat} (hC : z_C X cc nL own Ω) (d : decode cc pc = .ok (.tableswitch dflt lo hi offs, len)) (h1 : ¬ x.toInt < lo) (h2 : ¬ hi < x.toInt) (ho : offs[(x.toInt - lo).toNat]? = some off) (ht : (pc : Int) + off = (tgt : Int)) (kk : z_At X A Q Ω k n nL tgt lv st w) : z_At X A Q Ω k n nL pc lv (.int x :: st) w := by
  obtain ⟨p, l, e, R, s, m, args, below, meth, c⟩ := X
  obtain ⟨hx, hb, hml, hown, hts, hK, hN⟩ := hC
  intro H locs ls hP hD hS hl
  exact lv_tableIn hx hb d h1 h2 ho ht (kk H locs ls hP hD hS hl)
theorem z_tabOut {dflt lo hi : Int} {offs : Array Int} {len : Nat} {x : Int32} {tgt : Nat} (hC : z_C X cc nL own Ω) (d : decode cc pc = .ok (.tableswitch dflt lo hi offs, len)) (h : x.toInt < lo ∨ hi < x.toInt) (ht : (pc : Int) + dflt = (tgt : Int)) (kk : z_At X A Q Ω k n nL tgt lv st w) : z_At X A Q Ω k n nL pc lv (.int x :: st) w := by
  obtain ⟨p, l, e, R, s, m, args, below, meth, c⟩ := X
  obtain ⟨hx, hb, hml, hown, hts, hK, hN⟩ := hC
  intro H locs ls hP hD hS hl
  exact lv_tableOut hx hb d h ht (kk H locs ls hP hD hS hl)
def z_QW (X : z_X) (b : Nat) : State → Prop := match X with
  | (_, _, _, _, s, _, _, below, _, _) => lw_Z below #[Value.ref b] s
def z_LX (X : z_X) (b : Nat) : Prop := match X with
  | (_, _, _, R, s, _, args, _, meth, _) => R = room_1 ∧ args = #[Value.ref b] ∧ meth.sig.returnType = ret ∧ meth.locks = false
theorem z_lawret {b : Nat} (hC : z_C X code nL own Ω) (hL : z_LX X b) (hA0 : ∀ q, A q → X.2.2.2.2.1.heap.size ≤ q) (hk : k ≤ 600000) (hn : n ≤ 7302250) (d : decode code pc = .ok (.ireturn, 1)) : z_At X A (z_QW X b) Ω k n nL pc lv [.int 1] w := by
  obtain ⟨p, l, e, R, s, m, args, below, meth, c⟩ := X
  obtain ⟨hx, hb, hml, hown, hts, hK, hN⟩ := hC
  obtain ⟨rfl, rfl, hr, hlk⟩ := hL
  intro H locs ls hP hD hS hl
  exact va_forget (fun q hq => hA0 _ (hS.2.2 q hq)) (W.widen hk hn (lw_ret hx hb hr hlk d))
end ZLAW
theorem z_vx {j L : Nat} (hL : L ≤ 2560) (h : j + 5 ≤ L) (t : Nat) (ht : t < 5) : vi (nI j + nI t) L = true := by
  unfold vi
  rw [nI_add]
  rw [decide_eq_true_eq, nI_toInt (by omega)]
  omega
set_option maxRecDepth 20000 in
theorem wl_line {X : z_X} {A : Nat → Prop} {Ω : z_O} {k n b L : Nat} {xs : Nat → Int32} (hC : z_C X code 4 "NodalAuctionLaw" Ω) (hA : z_hA X A) (hX : z_Xs X A b L xs) (hR : z_rmOf X = room_1) (hk : k ≤ 600000) (hn : n ≤ 7302250) (hL : L ≤ 2560) {Q : State → Prop} {I : z_S → z_S → Prop} (hs : z_op_line I) {j : Nat} (hj : j + 5 ≤ L) (S M : z_S) (hI : I S M) (kk : ∀ S1 M1 : z_S, I S1 M1 → z_At X A Q Ω k n 4 617 [(0, .ref b), (1, .ref (Ω.2.2 0)), (2, .ref (Ω.2.2 100)), (3, .int (nI j))] [] (wN Ω S1 ++ wM Ω M1)) : z_At X A Q Ω k n 4 120 [(0, .ref b), (1, .ref (Ω.2.2 0)), (2, .ref (Ω.2.2 100)), (3, .int (nI j))] [] (wN Ω S ++ wM Ω M) := by
  obtain ⟨nn, r, S1, M1, e1, e2, hI1⟩ := hs S M (xs (nI j + 1).toNatClampNeg) (xs (nI j + 2).toNatClampNeg) (xs (nI j + 3).toNatClampNeg) (xs (nI j + 4).toNatClampNeg) hI
  refine z_aload_n rfl 1 rfl hC d_L_120 (q := 121) rfl ?_
  refine z_aload_n rfl 0 rfl hC d_L_121 (q := 122) rfl ?_
  refine z_iload_n rfl 3 rfl hC d_L_122 (q := 123) rfl ?_
  refine z_iconst (v := (1 : Int32)) (by decide) hC d_L_123 (q := 124) rfl ?_
  refine z_iadd hC d_L_124 (q := 125) rfl ?_
  refine z_sld hC hX (z_vx hL hj 1 (by decide)) d_L_125 (q := 126) rfl ?_
  refine z_aload_n rfl 0 rfl hC d_L_126 (q := 127) rfl ?_
  refine z_iload_n rfl 3 rfl hC d_L_127 (q := 128) rfl ?_
  refine z_iconst (v := (2 : Int32)) (by decide) hC d_L_128 (q := 129) rfl ?_
  refine z_iadd hC d_L_129 (q := 130) rfl ?_
  refine z_sld hC hX (z_vx hL hj 2 (by decide)) d_L_130 (q := 131) rfl ?_
  refine z_aload_n rfl 0 rfl hC d_L_131 (q := 132) rfl ?_
  refine z_iload_n rfl 3 rfl hC d_L_132 (q := 133) rfl ?_
  refine z_iconst (v := (3 : Int32)) (by decide) hC d_L_133 (q := 134) rfl ?_
  refine z_iadd hC d_L_134 (q := 135) rfl ?_
  refine z_sld hC hX (z_vx hL hj 3 (by decide)) d_L_135 (q := 136) rfl ?_
  refine z_aload_n rfl 0 rfl hC d_L_136 (q := 137) rfl ?_
  refine z_iload_n rfl 3 rfl hC d_L_137 (q := 138) rfl ?_
  refine z_iconst (v := (4 : Int32)) (by decide) hC d_L_138 (q := 139) rfl ?_
  refine z_iadd hC d_L_139 (q := 140) rfl ?_
  refine z_sld hC hX (z_vx hL hj 4 (by decide)) d_L_140 (q := 141) rfl ?_
  refine z_callLi (q0 := 0) (As := [.int (xs (nI j + 1).toNatClampNeg), .int (xs (nI j + 2).toNatClampNeg), .int (xs (nI j + 3).toNatClampNeg), .int (xs (nI j + 4).toNatClampNeg)]) hC hA (c_N_line (z_lOf X) Ω nn (xs (nI j + 1).toNatClampNeg) (xs (nI j + 2).toNatClampNeg) (xs (nI j + 3).toNatClampNeg) (xs (nI j + 4).toNatClampNeg) S (r, S1) e1) k_180 k_177 k_178 k_179 k_1 h_N_line (by rw [hR]; exact ⟨by decide, by decide⟩) (by rw [hR]; exact ⟨hk, hn⟩) rfl rfl rfl (Nat.le_of_ble_eq_true rfl) rfl d_L_141 (q := 144) rfl ?_
  refine z_aload_n rfl 2 rfl hC d_L_144 (q := 145) rfl ?_
  refine z_aload_n rfl 0 rfl hC d_L_145 (q := 146) rfl ?_
  refine z_iload_n rfl 3 rfl hC d_L_146 (q := 147) rfl ?_
  refine z_iconst (v := (1 : Int32)) (by decide) hC d_L_147 (q := 148) rfl ?_
  refine z_iadd hC d_L_148 (q := 149) rfl ?_
  refine z_sld hC hX (z_vx hL hj 1 (by decide)) d_L_149 (q := 150) rfl ?_
  refine z_aload_n rfl 0 rfl hC d_L_150 (q := 151) rfl ?_
  refine z_iload_n rfl 3 rfl hC d_L_151 (q := 152) rfl ?_
  refine z_iconst (v := (2 : Int32)) (by decide) hC d_L_152 (q := 153) rfl ?_
  refine z_iadd hC d_L_153 (q := 154) rfl ?_
  refine z_sld hC hX (z_vx hL hj 2 (by decide)) d_L_154 (q := 155) rfl ?_
  refine z_aload_n rfl 0 rfl hC d_L_155 (q := 156) rfl ?_
  refine z_iload_n rfl 3 rfl hC d_L_156 (q := 157) rfl ?_
  refine z_iconst (v := (3 : Int32)) (by decide) hC d_L_157 (q := 158) rfl ?_
  refine z_iadd hC d_L_158 (q := 159) rfl ?_
  refine z_sld hC hX (z_vx hL hj 3 (by decide)) d_L_159 (q := 160) rfl ?_
  refine z_aload_n rfl 0 rfl hC d_L_160 (q := 161) rfl ?_
  refine z_iload_n rfl 3 rfl hC d_L_161 (q := 162) rfl ?_
  refine z_iconst (v := (4 : Int32)) (by decide) hC d_L_162 (q := 163) rfl ?_
  refine z_iadd hC d_L_163 (q := 164) rfl ?_
  refine z_sld hC hX (z_vx hL hj 4 (by decide)) d_L_164 (q := 165) rfl ?_
  refine z_callRi (q0 := 0) (As := [.int (xs (nI j + 1).toNatClampNeg), .int (xs (nI j + 2).toNatClampNeg), .int (xs (nI j + 3).toNatClampNeg), .int (xs (nI j + 4).toNatClampNeg)]) hC hA (c_M_line (z_lOf X) Ω nn (xs (nI j + 1).toNatClampNeg) (xs (nI j + 2).toNatClampNeg) (xs (nI j + 3).toNatClampNeg) (xs (nI j + 4).toNatClampNeg) M (r, M1) e2) k_536 k_533 k_534 k_535 k_6 h_M_line (by rw [hR]; exact ⟨by decide, by decide⟩) (by rw [hR]; exact ⟨hk, hn⟩) rfl rfl rfl (Nat.le_of_ble_eq_true rfl) rfl d_L_165 (q := 168) rfl ?_
  exact z_icmp_eq (tgt := 617) (q := 171) hC d_L_168 rfl rfl (fun _ => kk S1 M1 hI1) (fun h => absurd rfl h)
set_option maxRecDepth 20000 in
theorem wl_limit {X : z_X} {A : Nat → Prop} {Ω : z_O} {k n b L : Nat} {xs : Nat → Int32} (hC : z_C X code 4 "NodalAuctionLaw" Ω) (hA : z_hA X A) (hX : z_Xs X A b L xs) (hR : z_rmOf X = room_1) (hk : k ≤ 600000) (hn : n ≤ 7302250) (hL : L ≤ 2560) {Q : State → Prop} {I : z_S → z_S → Prop} (hs : z_op_limit I) {j : Nat} (hj : j + 5 ≤ L) (S M : z_S) (hI : I S M) (kk : ∀ S1 M1 : z_S, I S1 M1 → z_At X A Q Ω k n 4 617 [(0, .ref b), (1, .ref (Ω.2.2 0)), (2, .ref (Ω.2.2 100)), (3, .int (nI j))] [] (wN Ω S1 ++ wM Ω M1)) : z_At X A Q Ω k n 4 173 [(0, .ref b), (1, .ref (Ω.2.2 0)), (2, .ref (Ω.2.2 100)), (3, .int (nI j))] [] (wN Ω S ++ wM Ω M) := by
  obtain ⟨nn, r, S1, M1, e1, e2, hI1⟩ := hs S M (xs (nI j + 1).toNatClampNeg) (xs (nI j + 2).toNatClampNeg) hI
  refine z_aload_n rfl 1 rfl hC d_L_173 (q := 174) rfl ?_
  refine z_aload_n rfl 0 rfl hC d_L_174 (q := 175) rfl ?_
  refine z_iload_n rfl 3 rfl hC d_L_175 (q := 176) rfl ?_
  refine z_iconst (v := (1 : Int32)) (by decide) hC d_L_176 (q := 177) rfl ?_
  refine z_iadd hC d_L_177 (q := 178) rfl ?_
  refine z_sld hC hX (z_vx hL hj 1 (by decide)) d_L_178 (q := 179) rfl ?_
  refine z_aload_n rfl 0 rfl hC d_L_179 (q := 180) rfl ?_
  refine z_iload_n rfl 3 rfl hC d_L_180 (q := 181) rfl ?_
  refine z_iconst (v := (2 : Int32)) (by decide) hC d_L_181 (q := 182) rfl ?_
  refine z_iadd hC d_L_182 (q := 183) rfl ?_
  refine z_sld hC hX (z_vx hL hj 2 (by decide)) d_L_183 (q := 184) rfl ?_
  refine z_callLi (q0 := 0) (As := [.int (xs (nI j + 1).toNatClampNeg), .int (xs (nI j + 2).toNatClampNeg)]) hC hA (c_N_limit (z_lOf X) Ω nn (xs (nI j + 1).toNatClampNeg) (xs (nI j + 2).toNatClampNeg) S (r, S1) e1) k_200 k_197 k_198 k_199 k_1 h_N_limit (by rw [hR]; exact ⟨by decide, by decide⟩) (by rw [hR]; exact ⟨hk, hn⟩) rfl rfl rfl (Nat.le_of_ble_eq_true rfl) rfl d_L_184 (q := 187) rfl ?_
  refine z_aload_n rfl 2 rfl hC d_L_187 (q := 188) rfl ?_
  refine z_aload_n rfl 0 rfl hC d_L_188 (q := 189) rfl ?_
  refine z_iload_n rfl 3 rfl hC d_L_189 (q := 190) rfl ?_
  refine z_iconst (v := (1 : Int32)) (by decide) hC d_L_190 (q := 191) rfl ?_
  refine z_iadd hC d_L_191 (q := 192) rfl ?_
  refine z_sld hC hX (z_vx hL hj 1 (by decide)) d_L_192 (q := 193) rfl ?_
  refine z_aload_n rfl 0 rfl hC d_L_193 (q := 194) rfl ?_
  refine z_iload_n rfl 3 rfl hC d_L_194 (q := 195) rfl ?_
  refine z_iconst (v := (2 : Int32)) (by decide) hC d_L_195 (q := 196) rfl ?_
  refine z_iadd hC d_L_196 (q := 197) rfl ?_
  refine z_sld hC hX (z_vx hL hj 2 (by decide)) d_L_197 (q := 198) rfl ?_
  refine z_callRi (q0 := 0) (As := [.int (xs (nI j + 1).toNatClampNeg), .int (xs (nI j + 2).toNatClampNeg)]) hC hA (c_M_limit (z_lOf X) Ω nn (xs (nI j + 1).toNatClampNeg) (xs (nI j + 2).toNatClampNeg) M (r, M1) e2) k_544 k_541 k_542 k_543 k_6 h_M_limit (by rw [hR]; exact ⟨by decide, by decide⟩) (by rw [hR]; exact ⟨hk, hn⟩) rfl rfl rfl (Nat.le_of_ble_eq_true rfl) rfl d_L_198 (q := 201) rfl ?_
  exact z_icmp_eq (tgt := 617) (q := 204) hC d_L_201 rfl rfl (fun _ => kk S1 M1 hI1) (fun h => absurd rfl h)
set_option maxRecDepth 20000 in
theorem wl_cut {X : z_X} {A : Nat → Prop} {Ω : z_O} {k n b L : Nat} {xs : Nat → Int32} (hC : z_C X code 4 "NodalAuctionLaw" Ω) (hA : z_hA X A) (hX : z_Xs X A b L xs) (hR : z_rmOf X = room_1) (hk : k ≤ 600000) (hn : n ≤ 7302250) (hL : L ≤ 2560) {Q : State → Prop} {I : z_S → z_S → Prop} (hs : z_op_cut I) {j : Nat} (hj : j + 5 ≤ L) (S M : z_S) (hI : I S M) (kk : ∀ S1 M1 : z_S, I S1 M1 → z_At X A Q Ω k n 4 617 [(0, .ref b), (1, .ref (Ω.2.2 0)), (2, .ref (Ω.2.2 100)), (3, .int (nI j))] [] (wN Ω S1 ++ wM Ω M1)) : z_At X A Q Ω k n 4 206 [(0, .ref b), (1, .ref (Ω.2.2 0)), (2, .ref (Ω.2.2 100)), (3, .int (nI j))] [] (wN Ω S ++ wM Ω M) := by
  obtain ⟨nn, r, S1, M1, e1, e2, hI1⟩ := hs S M (xs (nI j + 1).toNatClampNeg) hI
  refine z_aload_n rfl 1 rfl hC d_L_206 (q := 207) rfl ?_
  refine z_aload_n rfl 0 rfl hC d_L_207 (q := 208) rfl ?_
  refine z_iload_n rfl 3 rfl hC d_L_208 (q := 209) rfl ?_
  refine z_iconst (v := (1 : Int32)) (by decide) hC d_L_209 (q := 210) rfl ?_
  refine z_iadd hC d_L_210 (q := 211) rfl ?_
  refine z_sld hC hX (z_vx hL hj 1 (by decide)) d_L_211 (q := 212) rfl ?_
  refine z_callLi (q0 := 0) (As := [.int (xs (nI j + 1).toNatClampNeg)]) hC hA (c_N_cut (z_lOf X) Ω nn (xs (nI j + 1).toNatClampNeg) S (r, S1) e1) k_208 k_205 k_206 k_207 k_1 h_N_cut (by rw [hR]; exact ⟨by decide, by decide⟩) (by rw [hR]; exact ⟨hk, hn⟩) rfl rfl rfl (Nat.le_of_ble_eq_true rfl) rfl d_L_212 (q := 215) rfl ?_
  refine z_aload_n rfl 2 rfl hC d_L_215 (q := 216) rfl ?_
  refine z_aload_n rfl 0 rfl hC d_L_216 (q := 217) rfl ?_
  refine z_iload_n rfl 3 rfl hC d_L_217 (q := 218) rfl ?_
  refine z_iconst (v := (1 : Int32)) (by decide) hC d_L_218 (q := 219) rfl ?_
  refine z_iadd hC d_L_219 (q := 220) rfl ?_
  refine z_sld hC hX (z_vx hL hj 1 (by decide)) d_L_220 (q := 221) rfl ?_
  refine z_callRi (q0 := 0) (As := [.int (xs (nI j + 1).toNatClampNeg)]) hC hA (c_M_cut (z_lOf X) Ω nn (xs (nI j + 1).toNatClampNeg) M (r, M1) e2) k_548 k_545 k_546 k_547 k_6 h_M_cut (by rw [hR]; exact ⟨by decide, by decide⟩) (by rw [hR]; exact ⟨hk, hn⟩) rfl rfl rfl (Nat.le_of_ble_eq_true rfl) rfl d_L_221 (q := 224) rfl ?_
  exact z_icmp_eq (tgt := 617) (q := 227) hC d_L_224 rfl rfl (fun _ => kk S1 M1 hI1) (fun h => absurd rfl h)
set_option maxRecDepth 20000 in
theorem wl_bid {X : z_X} {A : Nat → Prop} {Ω : z_O} {k n b L : Nat} {xs : Nat → Int32} (hC : z_C X code 4 "NodalAuctionLaw" Ω) (hA : z_hA X A) (hX : z_Xs X A b L xs) (hR : z_rmOf X = room_1) (hk : k ≤ 600000) (hn : n ≤ 7302250) (hL : L ≤ 2560) {Q : State → Prop} {I : z_S → z_S → Prop} (hs : z_op_bid I) {j : Nat} (hj : j + 5 ≤ L) (S M : z_S) (hI : I S M) (kk : ∀ S1 M1 : z_S, I S1 M1 → z_At X A Q Ω k n 4 617 [(0, .ref b), (1, .ref (Ω.2.2 0)), (2, .ref (Ω.2.2 100)), (3, .int (nI j))] [] (wN Ω S1 ++ wM Ω M1)) : z_At X A Q Ω k n 4 229 [(0, .ref b), (1, .ref (Ω.2.2 0)), (2, .ref (Ω.2.2 100)), (3, .int (nI j))] [] (wN Ω S ++ wM Ω M) := by
  obtain ⟨nn, r, S1, M1, e1, e2, hI1⟩ := hs S M (xs (nI j + 1).toNatClampNeg) (xs (nI j + 2).toNatClampNeg) (xs (nI j + 3).toNatClampNeg) hI
  refine z_aload_n rfl 1 rfl hC d_L_229 (q := 230) rfl ?_
  refine z_aload_n rfl 0 rfl hC d_L_230 (q := 231) rfl ?_
  refine z_iload_n rfl 3 rfl hC d_L_231 (q := 232) rfl ?_
  refine z_iconst (v := (1 : Int32)) (by decide) hC d_L_232 (q := 233) rfl ?_
  refine z_iadd hC d_L_233 (q := 234) rfl ?_
  refine z_sld hC hX (z_vx hL hj 1 (by decide)) d_L_234 (q := 235) rfl ?_
  refine z_aload_n rfl 0 rfl hC d_L_235 (q := 236) rfl ?_
  refine z_iload_n rfl 3 rfl hC d_L_236 (q := 237) rfl ?_
  refine z_iconst (v := (2 : Int32)) (by decide) hC d_L_237 (q := 238) rfl ?_
  refine z_iadd hC d_L_238 (q := 239) rfl ?_
  refine z_sld hC hX (z_vx hL hj 2 (by decide)) d_L_239 (q := 240) rfl ?_
  refine z_aload_n rfl 0 rfl hC d_L_240 (q := 241) rfl ?_
  refine z_iload_n rfl 3 rfl hC d_L_241 (q := 242) rfl ?_
  refine z_iconst (v := (3 : Int32)) (by decide) hC d_L_242 (q := 243) rfl ?_
  refine z_iadd hC d_L_243 (q := 244) rfl ?_
  refine z_sld hC hX (z_vx hL hj 3 (by decide)) d_L_244 (q := 245) rfl ?_
  refine z_callLi (q0 := 0) (As := [.int (xs (nI j + 1).toNatClampNeg), .int (xs (nI j + 2).toNatClampNeg), .int (xs (nI j + 3).toNatClampNeg)]) hC hA (c_N_bid (z_lOf X) Ω nn (xs (nI j + 1).toNatClampNeg) (xs (nI j + 2).toNatClampNeg) (xs (nI j + 3).toNatClampNeg) S (r, S1) e1) k_216 k_213 k_214 k_215 k_1 h_N_bid (by rw [hR]; exact ⟨by decide, by decide⟩) (by rw [hR]; exact ⟨hk, hn⟩) rfl rfl rfl (Nat.le_of_ble_eq_true rfl) rfl d_L_245 (q := 248) rfl ?_
  refine z_aload_n rfl 2 rfl hC d_L_248 (q := 249) rfl ?_
  refine z_aload_n rfl 0 rfl hC d_L_249 (q := 250) rfl ?_
  refine z_iload_n rfl 3 rfl hC d_L_250 (q := 251) rfl ?_
  refine z_iconst (v := (1 : Int32)) (by decide) hC d_L_251 (q := 252) rfl ?_
  refine z_iadd hC d_L_252 (q := 253) rfl ?_
  refine z_sld hC hX (z_vx hL hj 1 (by decide)) d_L_253 (q := 254) rfl ?_
  refine z_aload_n rfl 0 rfl hC d_L_254 (q := 255) rfl ?_
  refine z_iload_n rfl 3 rfl hC d_L_255 (q := 256) rfl ?_
  refine z_iconst (v := (2 : Int32)) (by decide) hC d_L_256 (q := 257) rfl ?_
  refine z_iadd hC d_L_257 (q := 258) rfl ?_
  refine z_sld hC hX (z_vx hL hj 2 (by decide)) d_L_258 (q := 259) rfl ?_
  refine z_aload_n rfl 0 rfl hC d_L_259 (q := 260) rfl ?_
  refine z_iload_n rfl 3 rfl hC d_L_260 (q := 261) rfl ?_
  refine z_iconst (v := (3 : Int32)) (by decide) hC d_L_261 (q := 262) rfl ?_
  refine z_iadd hC d_L_262 (q := 263) rfl ?_
  refine z_sld hC hX (z_vx hL hj 3 (by decide)) d_L_263 (q := 264) rfl ?_
  refine z_callRi (q0 := 0) (As := [.int (xs (nI j + 1).toNatClampNeg), .int (xs (nI j + 2).toNatClampNeg), .int (xs (nI j + 3).toNatClampNeg)]) hC hA (c_M_bid (z_lOf X) Ω nn (xs (nI j + 1).toNatClampNeg) (xs (nI j + 2).toNatClampNeg) (xs (nI j + 3).toNatClampNeg) M (r, M1) e2) k_552 k_549 k_550 k_551 k_6 h_M_bid (by rw [hR]; exact ⟨by decide, by decide⟩) (by rw [hR]; exact ⟨hk, hn⟩) rfl rfl rfl (Nat.le_of_ble_eq_true rfl) rfl d_L_264 (q := 267) rfl ?_
  exact z_icmp_eq (tgt := 617) (q := 270) hC d_L_267 rfl rfl (fun _ => kk S1 M1 hI1) (fun h => absurd rfl h)
set_option maxRecDepth 20000 in
theorem wl_offer {X : z_X} {A : Nat → Prop} {Ω : z_O} {k n b L : Nat} {xs : Nat → Int32} (hC : z_C X code 4 "NodalAuctionLaw" Ω) (hA : z_hA X A) (hX : z_Xs X A b L xs) (hR : z_rmOf X = room_1) (hk : k ≤ 600000) (hn : n ≤ 7302250) (hL : L ≤ 2560) {Q : State → Prop} {I : z_S → z_S → Prop} (hs : z_op_offer I) {j : Nat} (hj : j + 5 ≤ L) (S M : z_S) (hI : I S M) (kk : ∀ S1 M1 : z_S, I S1 M1 → z_At X A Q Ω k n 4 617 [(0, .ref b), (1, .ref (Ω.2.2 0)), (2, .ref (Ω.2.2 100)), (3, .int (nI j))] [] (wN Ω S1 ++ wM Ω M1)) : z_At X A Q Ω k n 4 272 [(0, .ref b), (1, .ref (Ω.2.2 0)), (2, .ref (Ω.2.2 100)), (3, .int (nI j))] [] (wN Ω S ++ wM Ω M) := by
  obtain ⟨nn, r, S1, M1, e1, e2, hI1⟩ := hs S M (xs (nI j + 1).toNatClampNeg) (xs (nI j + 2).toNatClampNeg) (xs (nI j + 3).toNatClampNeg) hI
  refine z_aload_n rfl 1 rfl hC d_L_272 (q := 273) rfl ?_
  refine z_aload_n rfl 0 rfl hC d_L_273 (q := 274) rfl ?_
  refine z_iload_n rfl 3 rfl hC d_L_274 (q := 275) rfl ?_
  refine z_iconst (v := (1 : Int32)) (by decide) hC d_L_275 (q := 276) rfl ?_
  refine z_iadd hC d_L_276 (q := 277) rfl ?_
  refine z_sld hC hX (z_vx hL hj 1 (by decide)) d_L_277 (q := 278) rfl ?_
  refine z_aload_n rfl 0 rfl hC d_L_278 (q := 279) rfl ?_
  refine z_iload_n rfl 3 rfl hC d_L_279 (q := 280) rfl ?_
  refine z_iconst (v := (2 : Int32)) (by decide) hC d_L_280 (q := 281) rfl ?_
  refine z_iadd hC d_L_281 (q := 282) rfl ?_
  refine z_sld hC hX (z_vx hL hj 2 (by decide)) d_L_282 (q := 283) rfl ?_
  refine z_aload_n rfl 0 rfl hC d_L_283 (q := 284) rfl ?_
  refine z_iload_n rfl 3 rfl hC d_L_284 (q := 285) rfl ?_
  refine z_iconst (v := (3 : Int32)) (by decide) hC d_L_285 (q := 286) rfl ?_
  refine z_iadd hC d_L_286 (q := 287) rfl ?_
  refine z_sld hC hX (z_vx hL hj 3 (by decide)) d_L_287 (q := 288) rfl ?_
  refine z_callLi (q0 := 0) (As := [.int (xs (nI j + 1).toNatClampNeg), .int (xs (nI j + 2).toNatClampNeg), .int (xs (nI j + 3).toNatClampNeg)]) hC hA (c_N_offer (z_lOf X) Ω nn (xs (nI j + 1).toNatClampNeg) (xs (nI j + 2).toNatClampNeg) (xs (nI j + 3).toNatClampNeg) S (r, S1) e1) k_229 k_226 k_227 k_228 k_1 h_N_offer (by rw [hR]; exact ⟨by decide, by decide⟩) (by rw [hR]; exact ⟨hk, hn⟩) rfl rfl rfl (Nat.le_of_ble_eq_true rfl) rfl d_L_288 (q := 291) rfl ?_
  refine z_aload_n rfl 2 rfl hC d_L_291 (q := 292) rfl ?_
  refine z_aload_n rfl 0 rfl hC d_L_292 (q := 293) rfl ?_
  refine z_iload_n rfl 3 rfl hC d_L_293 (q := 294) rfl ?_
  refine z_iconst (v := (1 : Int32)) (by decide) hC d_L_294 (q := 295) rfl ?_
  refine z_iadd hC d_L_295 (q := 296) rfl ?_
  refine z_sld hC hX (z_vx hL hj 1 (by decide)) d_L_296 (q := 297) rfl ?_
  refine z_aload_n rfl 0 rfl hC d_L_297 (q := 298) rfl ?_
  refine z_iload_n rfl 3 rfl hC d_L_298 (q := 299) rfl ?_
  refine z_iconst (v := (2 : Int32)) (by decide) hC d_L_299 (q := 300) rfl ?_
  refine z_iadd hC d_L_300 (q := 301) rfl ?_
  refine z_sld hC hX (z_vx hL hj 2 (by decide)) d_L_301 (q := 302) rfl ?_
  refine z_aload_n rfl 0 rfl hC d_L_302 (q := 303) rfl ?_
  refine z_iload_n rfl 3 rfl hC d_L_303 (q := 304) rfl ?_
  refine z_iconst (v := (3 : Int32)) (by decide) hC d_L_304 (q := 305) rfl ?_
  refine z_iadd hC d_L_305 (q := 306) rfl ?_
  refine z_sld hC hX (z_vx hL hj 3 (by decide)) d_L_306 (q := 307) rfl ?_
  refine z_callRi (q0 := 0) (As := [.int (xs (nI j + 1).toNatClampNeg), .int (xs (nI j + 2).toNatClampNeg), .int (xs (nI j + 3).toNatClampNeg)]) hC hA (c_M_offer (z_lOf X) Ω nn (xs (nI j + 1).toNatClampNeg) (xs (nI j + 2).toNatClampNeg) (xs (nI j + 3).toNatClampNeg) M (r, M1) e2) k_560 k_557 k_558 k_559 k_6 h_M_offer (by rw [hR]; exact ⟨by decide, by decide⟩) (by rw [hR]; exact ⟨hk, hn⟩) rfl rfl rfl (Nat.le_of_ble_eq_true rfl) rfl d_L_307 (q := 310) rfl ?_
  exact z_icmp_eq (tgt := 617) (q := 313) hC d_L_310 rfl rfl (fun _ => kk S1 M1 hI1) (fun h => absurd rfl h)
set_option maxRecDepth 20000 in
theorem wl_cancel {X : z_X} {A : Nat → Prop} {Ω : z_O} {k n b L : Nat} {xs : Nat → Int32} (hC : z_C X code 4 "NodalAuctionLaw" Ω) (hA : z_hA X A) (hX : z_Xs X A b L xs) (hR : z_rmOf X = room_1) (hk : k ≤ 600000) (hn : n ≤ 7302250) (hL : L ≤ 2560) {Q : State → Prop} {I : z_S → z_S → Prop} (hs : z_op_cancel I) {j : Nat} (hj : j + 5 ≤ L) (S M : z_S) (hI : I S M) (kk : ∀ S1 M1 : z_S, I S1 M1 → z_At X A Q Ω k n 4 617 [(0, .ref b), (1, .ref (Ω.2.2 0)), (2, .ref (Ω.2.2 100)), (3, .int (nI j))] [] (wN Ω S1 ++ wM Ω M1)) : z_At X A Q Ω k n 4 315 [(0, .ref b), (1, .ref (Ω.2.2 0)), (2, .ref (Ω.2.2 100)), (3, .int (nI j))] [] (wN Ω S ++ wM Ω M) := by
  obtain ⟨nn, r, S1, M1, e1, e2, hI1⟩ := hs S M (xs (nI j + 1).toNatClampNeg) hI
  refine z_aload_n rfl 1 rfl hC d_L_315 (q := 316) rfl ?_
  refine z_aload_n rfl 0 rfl hC d_L_316 (q := 317) rfl ?_
  refine z_iload_n rfl 3 rfl hC d_L_317 (q := 318) rfl ?_
  refine z_iconst (v := (1 : Int32)) (by decide) hC d_L_318 (q := 319) rfl ?_
  refine z_iadd hC d_L_319 (q := 320) rfl ?_
  refine z_sld hC hX (z_vx hL hj 1 (by decide)) d_L_320 (q := 321) rfl ?_
  refine z_callLi (q0 := 0) (As := [.int (xs (nI j + 1).toNatClampNeg)]) hC hA (c_N_cancel (z_lOf X) Ω nn (xs (nI j + 1).toNatClampNeg) S (r, S1) e1) k_233 k_230 k_231 k_232 k_1 h_N_cancel (by rw [hR]; exact ⟨by decide, by decide⟩) (by rw [hR]; exact ⟨hk, hn⟩) rfl rfl rfl (Nat.le_of_ble_eq_true rfl) rfl d_L_321 (q := 324) rfl ?_
  refine z_aload_n rfl 2 rfl hC d_L_324 (q := 325) rfl ?_
  refine z_aload_n rfl 0 rfl hC d_L_325 (q := 326) rfl ?_
  refine z_iload_n rfl 3 rfl hC d_L_326 (q := 327) rfl ?_
  refine z_iconst (v := (1 : Int32)) (by decide) hC d_L_327 (q := 328) rfl ?_
  refine z_iadd hC d_L_328 (q := 329) rfl ?_
  refine z_sld hC hX (z_vx hL hj 1 (by decide)) d_L_329 (q := 330) rfl ?_
  refine z_callRi (q0 := 0) (As := [.int (xs (nI j + 1).toNatClampNeg)]) hC hA (c_M_cancel (z_lOf X) Ω nn (xs (nI j + 1).toNatClampNeg) M (r, M1) e2) k_564 k_561 k_562 k_563 k_6 h_M_cancel (by rw [hR]; exact ⟨by decide, by decide⟩) (by rw [hR]; exact ⟨hk, hn⟩) rfl rfl rfl (Nat.le_of_ble_eq_true rfl) rfl d_L_330 (q := 333) rfl ?_
  exact z_icmp_eq (tgt := 617) (q := 336) hC d_L_333 rfl rfl (fun _ => kk S1 M1 hI1) (fun h => absurd rfl h)
set_option maxRecDepth 20000 in
theorem wl_clear {X : z_X} {A : Nat → Prop} {Ω : z_O} {k n b L : Nat} {xs : Nat → Int32} (hC : z_C X code 4 "NodalAuctionLaw" Ω) (hA : z_hA X A) (hX : z_Xs X A b L xs) (hR : z_rmOf X = room_1) (hk : k ≤ 600000) (hn : n ≤ 7302250) (hL : L ≤ 2560) {Q : State → Prop} {I : z_S → z_S → Prop} (hs : z_op_clear I) {j : Nat} (hj : j + 5 ≤ L) (S M : z_S) (hI : I S M) (kk : ∀ S1 M1 : z_S, I S1 M1 → z_At X A Q Ω k n 4 617 [(0, .ref b), (1, .ref (Ω.2.2 0)), (2, .ref (Ω.2.2 100)), (3, .int (nI j))] [] (wN Ω S1 ++ wM Ω M1)) : z_At X A Q Ω k n 4 338 [(0, .ref b), (1, .ref (Ω.2.2 0)), (2, .ref (Ω.2.2 100)), (3, .int (nI j))] [] (wN Ω S ++ wM Ω M) := by
  obtain ⟨nn, r, S1, M1, e1, e2, hI1⟩ := hs S M hI
  refine z_aload_n rfl 1 rfl hC d_L_338 (q := 339) rfl ?_
  refine z_callLi (q0 := 0) (As := []) hC hA (c_N_clear (z_lOf X) Ω nn S (r, S1) e1) k_245 k_242 k_243 k_244 k_1 h_N_clear (by rw [hR]; exact ⟨by decide, by decide⟩) (by rw [hR]; exact ⟨hk, hn⟩) rfl rfl rfl (Nat.le_of_ble_eq_true rfl) rfl d_L_339 (q := 342) rfl ?_
  refine z_aload_n rfl 2 rfl hC d_L_342 (q := 343) rfl ?_
  refine z_callRi (q0 := 0) (As := []) hC hA (c_M_clear (z_lOf X) Ω nn M (r, M1) e2) k_568 k_565 k_566 k_567 k_6 h_M_clear (by rw [hR]; exact ⟨by decide, by decide⟩) (by rw [hR]; exact ⟨hk, hn⟩) rfl rfl rfl (Nat.le_of_ble_eq_true rfl) rfl d_L_343 (q := 346) rfl ?_
  exact z_icmp_eq (tgt := 617) (q := 349) hC d_L_346 rfl rfl (fun _ => kk S1 M1 hI1) (fun h => absurd rfl h)
set_option maxRecDepth 20000 in
theorem wl_steps {X : z_X} {A : Nat → Prop} {Ω : z_O} {k n b L : Nat} {xs : Nat → Int32} (hC : z_C X code 4 "NodalAuctionLaw" Ω) (hA : z_hA X A) (hX : z_Xs X A b L xs) (hR : z_rmOf X = room_1) (hk : k ≤ 600000) (hn : n ≤ 7302250) (hL : L ≤ 2560) {Q : State → Prop} {I : z_S → z_S → Prop} (hs : z_op_steps I) {j : Nat} (hj : j + 5 ≤ L) (S M : z_S) (hI : I S M) (kk : ∀ S1 M1 : z_S, I S1 M1 → z_At X A Q Ω k n 4 617 [(0, .ref b), (1, .ref (Ω.2.2 0)), (2, .ref (Ω.2.2 100)), (3, .int (nI j))] [] (wN Ω S1 ++ wM Ω M1)) : z_At X A Q Ω k n 4 351 [(0, .ref b), (1, .ref (Ω.2.2 0)), (2, .ref (Ω.2.2 100)), (3, .int (nI j))] [] (wN Ω S ++ wM Ω M) := by
  obtain ⟨nn, r, S1, M1, e1, e2, hI1⟩ := hs S M hI
  refine z_aload_n rfl 1 rfl hC d_L_351 (q := 352) rfl ?_
  refine z_callLi (q0 := 0) (As := []) hC hA (c_N_steps (z_lOf X) Ω nn S (r, S1) e1) k_341 k_338 k_339 k_340 k_1 h_N_steps (by rw [hR]; exact ⟨by decide, by decide⟩) (by rw [hR]; exact ⟨hk, hn⟩) rfl rfl rfl (Nat.le_of_ble_eq_true rfl) rfl d_L_352 (q := 355) rfl ?_
  refine z_aload_n rfl 2 rfl hC d_L_355 (q := 356) rfl ?_
  refine z_callRi (q0 := 0) (As := []) hC hA (c_M_steps (z_lOf X) Ω nn M (r, M1) e2) k_653 k_650 k_651 k_652 k_6 h_M_steps (by rw [hR]; exact ⟨by decide, by decide⟩) (by rw [hR]; exact ⟨hk, hn⟩) rfl rfl rfl (Nat.le_of_ble_eq_true rfl) rfl d_L_356 (q := 359) rfl ?_
  exact z_icmp_eq (tgt := 617) (q := 362) hC d_L_359 rfl rfl (fun _ => kk S1 M1 hI1) (fun h => absurd rfl h)
set_option maxRecDepth 20000 in
theorem wl_lines {X : z_X} {A : Nat → Prop} {Ω : z_O} {k n b L : Nat} {xs : Nat → Int32} (hC : z_C X code 4 "NodalAuctionLaw" Ω) (hA : z_hA X A) (hX : z_Xs X A b L xs) (hR : z_rmOf X = room_1) (hk : k ≤ 600000) (hn : n ≤ 7302250) (hL : L ≤ 2560) {Q : State → Prop} {I : z_S → z_S → Prop} (hs : z_op_lines I) {j : Nat} (hj : j + 5 ≤ L) (S M : z_S) (hI : I S M) (kk : ∀ S1 M1 : z_S, I S1 M1 → z_At X A Q Ω k n 4 617 [(0, .ref b), (1, .ref (Ω.2.2 0)), (2, .ref (Ω.2.2 100)), (3, .int (nI j))] [] (wN Ω S1 ++ wM Ω M1)) : z_At X A Q Ω k n 4 364 [(0, .ref b), (1, .ref (Ω.2.2 0)), (2, .ref (Ω.2.2 100)), (3, .int (nI j))] [] (wN Ω S ++ wM Ω M) := by
  obtain ⟨nn, r, S1, M1, e1, e2, hI1⟩ := hs S M hI
  refine z_aload_n rfl 1 rfl hC d_L_364 (q := 365) rfl ?_
  refine z_callLi (q0 := 0) (As := []) hC hA (c_N_lines (z_lOf X) Ω nn S (r, S1) e1) k_345 k_342 k_343 k_344 k_1 h_N_lines (by rw [hR]; exact ⟨by decide, by decide⟩) (by rw [hR]; exact ⟨hk, hn⟩) rfl rfl rfl (Nat.le_of_ble_eq_true rfl) rfl d_L_365 (q := 368) rfl ?_
  refine z_aload_n rfl 2 rfl hC d_L_368 (q := 369) rfl ?_
  refine z_callRi (q0 := 0) (As := []) hC hA (c_M_lines (z_lOf X) Ω nn M (r, M1) e2) k_657 k_654 k_655 k_656 k_6 h_M_lines (by rw [hR]; exact ⟨by decide, by decide⟩) (by rw [hR]; exact ⟨hk, hn⟩) rfl rfl rfl (Nat.le_of_ble_eq_true rfl) rfl d_L_369 (q := 372) rfl ?_
  exact z_icmp_eq (tgt := 617) (q := 375) hC d_L_372 rfl rfl (fun _ => kk S1 M1 hI1) (fun h => absurd rfl h)
set_option maxRecDepth 20000 in
theorem wl_scale {X : z_X} {A : Nat → Prop} {Ω : z_O} {k n b L : Nat} {xs : Nat → Int32} (hC : z_C X code 4 "NodalAuctionLaw" Ω) (hA : z_hA X A) (hX : z_Xs X A b L xs) (hR : z_rmOf X = room_1) (hk : k ≤ 600000) (hn : n ≤ 7302250) (hL : L ≤ 2560) {Q : State → Prop} {I : z_S → z_S → Prop} (hs : z_op_scale I) {j : Nat} (hj : j + 5 ≤ L) (S M : z_S) (hI : I S M) (kk : ∀ S1 M1 : z_S, I S1 M1 → z_At X A Q Ω k n 4 617 [(0, .ref b), (1, .ref (Ω.2.2 0)), (2, .ref (Ω.2.2 100)), (3, .int (nI j))] [] (wN Ω S1 ++ wM Ω M1)) : z_At X A Q Ω k n 4 377 [(0, .ref b), (1, .ref (Ω.2.2 0)), (2, .ref (Ω.2.2 100)), (3, .int (nI j))] [] (wN Ω S ++ wM Ω M) := by
  obtain ⟨nn, r, S1, M1, e1, e2, hI1⟩ := hs S M hI
  refine z_aload_n rfl 1 rfl hC d_L_377 (q := 378) rfl ?_
  refine z_callLi (q0 := 0) (As := []) hC hA (c_N_scale (z_lOf X) Ω nn S (r, S1) e1) k_349 k_346 k_347 k_348 k_1 h_N_scale (by rw [hR]; exact ⟨by decide, by decide⟩) (by rw [hR]; exact ⟨hk, hn⟩) rfl rfl rfl (Nat.le_of_ble_eq_true rfl) rfl d_L_378 (q := 381) rfl ?_
  refine z_aload_n rfl 2 rfl hC d_L_381 (q := 382) rfl ?_
  refine z_callRi (q0 := 0) (As := []) hC hA (c_M_scale (z_lOf X) Ω nn M (r, M1) e2) k_661 k_658 k_659 k_660 k_6 h_M_scale (by rw [hR]; exact ⟨by decide, by decide⟩) (by rw [hR]; exact ⟨hk, hn⟩) rfl rfl rfl (Nat.le_of_ble_eq_true rfl) rfl d_L_382 (q := 385) rfl ?_
  exact z_icmp_eq (tgt := 617) (q := 388) hC d_L_385 rfl rfl (fun _ => kk S1 M1 hI1) (fun h => absurd rfl h)
set_option maxRecDepth 20000 in
theorem wl_accepted {X : z_X} {A : Nat → Prop} {Ω : z_O} {k n b L : Nat} {xs : Nat → Int32} (hC : z_C X code 4 "NodalAuctionLaw" Ω) (hA : z_hA X A) (hX : z_Xs X A b L xs) (hR : z_rmOf X = room_1) (hk : k ≤ 600000) (hn : n ≤ 7302250) (hL : L ≤ 2560) {Q : State → Prop} {I : z_S → z_S → Prop} (hs : z_op_accepted I) {j : Nat} (hj : j + 5 ≤ L) (S M : z_S) (hI : I S M) (kk : ∀ S1 M1 : z_S, I S1 M1 → z_At X A Q Ω k n 4 617 [(0, .ref b), (1, .ref (Ω.2.2 0)), (2, .ref (Ω.2.2 100)), (3, .int (nI j))] [] (wN Ω S1 ++ wM Ω M1)) : z_At X A Q Ω k n 4 390 [(0, .ref b), (1, .ref (Ω.2.2 0)), (2, .ref (Ω.2.2 100)), (3, .int (nI j))] [] (wN Ω S ++ wM Ω M) := by
  obtain ⟨nn, r, S1, M1, e1, e2, hI1⟩ := hs S M (xs (nI j + 1).toNatClampNeg) hI
  refine z_aload_n rfl 1 rfl hC d_L_390 (q := 391) rfl ?_
  refine z_aload_n rfl 0 rfl hC d_L_391 (q := 392) rfl ?_
  refine z_iload_n rfl 3 rfl hC d_L_392 (q := 393) rfl ?_
  refine z_iconst (v := (1 : Int32)) (by decide) hC d_L_393 (q := 394) rfl ?_
  refine z_iadd hC d_L_394 (q := 395) rfl ?_
  refine z_sld hC hX (z_vx hL hj 1 (by decide)) d_L_395 (q := 396) rfl ?_
  refine z_callLi (q0 := 0) (As := [.int (xs (nI j + 1).toNatClampNeg)]) hC hA (c_N_accepted (z_lOf X) Ω nn (xs (nI j + 1).toNatClampNeg) S (r, S1) e1) k_353 k_350 k_351 k_352 k_1 h_N_accepted (by rw [hR]; exact ⟨by decide, by decide⟩) (by rw [hR]; exact ⟨hk, hn⟩) rfl rfl rfl (Nat.le_of_ble_eq_true rfl) rfl d_L_396 (q := 399) rfl ?_
  refine z_aload_n rfl 2 rfl hC d_L_399 (q := 400) rfl ?_
  refine z_aload_n rfl 0 rfl hC d_L_400 (q := 401) rfl ?_
  refine z_iload_n rfl 3 rfl hC d_L_401 (q := 402) rfl ?_
  refine z_iconst (v := (1 : Int32)) (by decide) hC d_L_402 (q := 403) rfl ?_
  refine z_iadd hC d_L_403 (q := 404) rfl ?_
  refine z_sld hC hX (z_vx hL hj 1 (by decide)) d_L_404 (q := 405) rfl ?_
  refine z_callRi (q0 := 0) (As := [.int (xs (nI j + 1).toNatClampNeg)]) hC hA (c_M_accepted (z_lOf X) Ω nn (xs (nI j + 1).toNatClampNeg) M (r, M1) e2) k_665 k_662 k_663 k_664 k_6 h_M_accepted (by rw [hR]; exact ⟨by decide, by decide⟩) (by rw [hR]; exact ⟨hk, hn⟩) rfl rfl rfl (Nat.le_of_ble_eq_true rfl) rfl d_L_405 (q := 408) rfl ?_
  exact z_icmp_eq (tgt := 617) (q := 411) hC d_L_408 rfl rfl (fun _ => kk S1 M1 hI1) (fun h => absurd rfl h)
set_option maxRecDepth 20000 in
theorem wl_flow {X : z_X} {A : Nat → Prop} {Ω : z_O} {k n b L : Nat} {xs : Nat → Int32} (hC : z_C X code 4 "NodalAuctionLaw" Ω) (hA : z_hA X A) (hX : z_Xs X A b L xs) (hR : z_rmOf X = room_1) (hk : k ≤ 600000) (hn : n ≤ 7302250) (hL : L ≤ 2560) {Q : State → Prop} {I : z_S → z_S → Prop} (hs : z_op_flow I) {j : Nat} (hj : j + 5 ≤ L) (S M : z_S) (hI : I S M) (kk : ∀ S1 M1 : z_S, I S1 M1 → z_At X A Q Ω k n 4 617 [(0, .ref b), (1, .ref (Ω.2.2 0)), (2, .ref (Ω.2.2 100)), (3, .int (nI j))] [] (wN Ω S1 ++ wM Ω M1)) : z_At X A Q Ω k n 4 413 [(0, .ref b), (1, .ref (Ω.2.2 0)), (2, .ref (Ω.2.2 100)), (3, .int (nI j))] [] (wN Ω S ++ wM Ω M) := by
  obtain ⟨nn, r, S1, M1, e1, e2, hI1⟩ := hs S M (xs (nI j + 1).toNatClampNeg) hI
  refine z_aload_n rfl 1 rfl hC d_L_413 (q := 414) rfl ?_
  refine z_aload_n rfl 0 rfl hC d_L_414 (q := 415) rfl ?_
  refine z_iload_n rfl 3 rfl hC d_L_415 (q := 416) rfl ?_
  refine z_iconst (v := (1 : Int32)) (by decide) hC d_L_416 (q := 417) rfl ?_
  refine z_iadd hC d_L_417 (q := 418) rfl ?_
  refine z_sld hC hX (z_vx hL hj 1 (by decide)) d_L_418 (q := 419) rfl ?_
  refine z_callLi (q0 := 0) (As := [.int (xs (nI j + 1).toNatClampNeg)]) hC hA (c_N_flow (z_lOf X) Ω nn (xs (nI j + 1).toNatClampNeg) S (r, S1) e1) k_357 k_354 k_355 k_356 k_1 h_N_flow (by rw [hR]; exact ⟨by decide, by decide⟩) (by rw [hR]; exact ⟨hk, hn⟩) rfl rfl rfl (Nat.le_of_ble_eq_true rfl) rfl d_L_419 (q := 422) rfl ?_
  refine z_aload_n rfl 2 rfl hC d_L_422 (q := 423) rfl ?_
  refine z_aload_n rfl 0 rfl hC d_L_423 (q := 424) rfl ?_
  refine z_iload_n rfl 3 rfl hC d_L_424 (q := 425) rfl ?_
  refine z_iconst (v := (1 : Int32)) (by decide) hC d_L_425 (q := 426) rfl ?_
  refine z_iadd hC d_L_426 (q := 427) rfl ?_
  refine z_sld hC hX (z_vx hL hj 1 (by decide)) d_L_427 (q := 428) rfl ?_
  refine z_callRi (q0 := 0) (As := [.int (xs (nI j + 1).toNatClampNeg)]) hC hA (c_M_flow (z_lOf X) Ω nn (xs (nI j + 1).toNatClampNeg) M (r, M1) e2) k_669 k_666 k_667 k_668 k_6 h_M_flow (by rw [hR]; exact ⟨by decide, by decide⟩) (by rw [hR]; exact ⟨hk, hn⟩) rfl rfl rfl (Nat.le_of_ble_eq_true rfl) rfl d_L_428 (q := 431) rfl ?_
  exact z_icmp_eq (tgt := 617) (q := 434) hC d_L_431 rfl rfl (fun _ => kk S1 M1 hI1) (fun h => absurd rfl h)
set_option maxRecDepth 20000 in
theorem wl_tight {X : z_X} {A : Nat → Prop} {Ω : z_O} {k n b L : Nat} {xs : Nat → Int32} (hC : z_C X code 4 "NodalAuctionLaw" Ω) (hA : z_hA X A) (hX : z_Xs X A b L xs) (hR : z_rmOf X = room_1) (hk : k ≤ 600000) (hn : n ≤ 7302250) (hL : L ≤ 2560) {Q : State → Prop} {I : z_S → z_S → Prop} (hs : z_op_tight I) {j : Nat} (hj : j + 5 ≤ L) (S M : z_S) (hI : I S M) (kk : ∀ S1 M1 : z_S, I S1 M1 → z_At X A Q Ω k n 4 617 [(0, .ref b), (1, .ref (Ω.2.2 0)), (2, .ref (Ω.2.2 100)), (3, .int (nI j))] [] (wN Ω S1 ++ wM Ω M1)) : z_At X A Q Ω k n 4 436 [(0, .ref b), (1, .ref (Ω.2.2 0)), (2, .ref (Ω.2.2 100)), (3, .int (nI j))] [] (wN Ω S ++ wM Ω M) := by
  obtain ⟨nn, r, S1, M1, e1, e2, hI1⟩ := hs S M hI
  refine z_aload_n rfl 1 rfl hC d_L_436 (q := 437) rfl ?_
  refine z_callLi (q0 := 0) (As := []) hC hA (c_N_tight (z_lOf X) Ω nn S (r, S1) e1) k_361 k_358 k_359 k_360 k_1 h_N_tight (by rw [hR]; exact ⟨by decide, by decide⟩) (by rw [hR]; exact ⟨hk, hn⟩) rfl rfl rfl (Nat.le_of_ble_eq_true rfl) rfl d_L_437 (q := 440) rfl ?_
  refine z_aload_n rfl 2 rfl hC d_L_440 (q := 441) rfl ?_
  refine z_callRi (q0 := 0) (As := []) hC hA (c_M_tight (z_lOf X) Ω nn M (r, M1) e2) k_673 k_670 k_671 k_672 k_6 h_M_tight (by rw [hR]; exact ⟨by decide, by decide⟩) (by rw [hR]; exact ⟨hk, hn⟩) rfl rfl rfl (Nat.le_of_ble_eq_true rfl) rfl d_L_441 (q := 444) rfl ?_
  exact z_icmp_eq (tgt := 617) (q := 447) hC d_L_444 rfl rfl (fun _ => kk S1 M1 hI1) (fun h => absurd rfl h)
set_option maxRecDepth 20000 in
theorem wl_welfare {X : z_X} {A : Nat → Prop} {Ω : z_O} {k n b L : Nat} {xs : Nat → Int32} (hC : z_C X code 4 "NodalAuctionLaw" Ω) (hA : z_hA X A) (hX : z_Xs X A b L xs) (hR : z_rmOf X = room_1) (hk : k ≤ 600000) (hn : n ≤ 7302250) (hL : L ≤ 2560) {Q : State → Prop} {I : z_S → z_S → Prop} (hs : z_op_welfare I) {j : Nat} (hj : j + 5 ≤ L) (S M : z_S) (hI : I S M) (kk : ∀ S1 M1 : z_S, I S1 M1 → z_At X A Q Ω k n 4 617 [(0, .ref b), (1, .ref (Ω.2.2 0)), (2, .ref (Ω.2.2 100)), (3, .int (nI j))] [] (wN Ω S1 ++ wM Ω M1)) : z_At X A Q Ω k n 4 449 [(0, .ref b), (1, .ref (Ω.2.2 0)), (2, .ref (Ω.2.2 100)), (3, .int (nI j))] [] (wN Ω S ++ wM Ω M) := by
  obtain ⟨nn, r, S1, M1, e1, e2, hI1⟩ := hs S M hI
  refine z_aload_n rfl 1 rfl hC d_L_449 (q := 450) rfl ?_
  refine z_callLl (q0 := 0) (As := []) hC hA (c_N_welfare (z_lOf X) Ω nn S (r, S1) e1) k_368 k_365 k_366 k_367 k_1 h_N_welfare (by rw [hR]; exact ⟨by decide, by decide⟩) (by rw [hR]; exact ⟨hk, hn⟩) rfl rfl rfl (Nat.le_of_ble_eq_true rfl) rfl d_L_450 (q := 453) rfl ?_
  refine z_aload_n rfl 2 rfl hC d_L_453 (q := 454) rfl ?_
  refine z_callRl (q0 := 0) (As := []) hC hA (c_M_welfare (z_lOf X) Ω nn M (r, M1) e2) k_677 k_674 k_675 k_676 k_6 h_M_welfare (by rw [hR]; exact ⟨by decide, by decide⟩) (by rw [hR]; exact ⟨hk, hn⟩) rfl rfl rfl (Nat.le_of_ble_eq_true rfl) rfl d_L_454 (q := 457) rfl ?_
  exact z_lcmp_eq (pc1 := 458) (tgt := 617) (q := 461) hC d_L_457 rfl d_L_458 rfl rfl (fun _ => kk S1 M1 hI1) (fun h => absurd rfl h)
set_option maxRecDepth 20000 in
theorem wl_extraTop {X : z_X} {A : Nat → Prop} {Ω : z_O} {k n b L : Nat} {xs : Nat → Int32} (hC : z_C X code 4 "NodalAuctionLaw" Ω) (hA : z_hA X A) (hX : z_Xs X A b L xs) (hR : z_rmOf X = room_1) (hk : k ≤ 600000) (hn : n ≤ 7302250) (hL : L ≤ 2560) {Q : State → Prop} {I : z_S → z_S → Prop} (hs : z_op_extraTop I) {j : Nat} (hj : j + 5 ≤ L) (S M : z_S) (hI : I S M) (kk : ∀ S1 M1 : z_S, I S1 M1 → z_At X A Q Ω k n 4 617 [(0, .ref b), (1, .ref (Ω.2.2 0)), (2, .ref (Ω.2.2 100)), (3, .int (nI j))] [] (wN Ω S1 ++ wM Ω M1)) : z_At X A Q Ω k n 4 463 [(0, .ref b), (1, .ref (Ω.2.2 0)), (2, .ref (Ω.2.2 100)), (3, .int (nI j))] [] (wN Ω S ++ wM Ω M) := by
  obtain ⟨nn, r, S1, M1, e1, e2, hI1⟩ := hs S M (xs (nI j + 1).toNatClampNeg) hI
  refine z_aload_n rfl 1 rfl hC d_L_463 (q := 464) rfl ?_
  refine z_aload_n rfl 0 rfl hC d_L_464 (q := 465) rfl ?_
  refine z_iload_n rfl 3 rfl hC d_L_465 (q := 466) rfl ?_
  refine z_iconst (v := (1 : Int32)) (by decide) hC d_L_466 (q := 467) rfl ?_
  refine z_iadd hC d_L_467 (q := 468) rfl ?_
  refine z_sld hC hX (z_vx hL hj 1 (by decide)) d_L_468 (q := 469) rfl ?_
  refine z_callLl (q0 := 0) (As := [.int (xs (nI j + 1).toNatClampNeg)]) hC hA (c_N_extraTop (z_lOf X) Ω nn (xs (nI j + 1).toNatClampNeg) S (r, S1) e1) k_373 k_370 k_371 k_372 k_1 h_N_extraTop (by rw [hR]; exact ⟨by decide, by decide⟩) (by rw [hR]; exact ⟨hk, hn⟩) rfl rfl rfl (Nat.le_of_ble_eq_true rfl) rfl d_L_469 (q := 472) rfl ?_
  refine z_aload_n rfl 2 rfl hC d_L_472 (q := 473) rfl ?_
  refine z_aload_n rfl 0 rfl hC d_L_473 (q := 474) rfl ?_
  refine z_iload_n rfl 3 rfl hC d_L_474 (q := 475) rfl ?_
  refine z_iconst (v := (1 : Int32)) (by decide) hC d_L_475 (q := 476) rfl ?_
  refine z_iadd hC d_L_476 (q := 477) rfl ?_
  refine z_sld hC hX (z_vx hL hj 1 (by decide)) d_L_477 (q := 478) rfl ?_
  refine z_callRl (q0 := 0) (As := [.int (xs (nI j + 1).toNatClampNeg)]) hC hA (c_M_extraTop (z_lOf X) Ω nn (xs (nI j + 1).toNatClampNeg) M (r, M1) e2) k_681 k_678 k_679 k_680 k_6 h_M_extraTop (by rw [hR]; exact ⟨by decide, by decide⟩) (by rw [hR]; exact ⟨hk, hn⟩) rfl rfl rfl (Nat.le_of_ble_eq_true rfl) rfl d_L_478 (q := 481) rfl ?_
  exact z_lcmp_eq (pc1 := 482) (tgt := 617) (q := 485) hC d_L_481 rfl d_L_482 rfl rfl (fun _ => kk S1 M1 hI1) (fun h => absurd rfl h)
set_option maxRecDepth 20000 in
theorem wl_extraBottom {X : z_X} {A : Nat → Prop} {Ω : z_O} {k n b L : Nat} {xs : Nat → Int32} (hC : z_C X code 4 "NodalAuctionLaw" Ω) (hA : z_hA X A) (hX : z_Xs X A b L xs) (hR : z_rmOf X = room_1) (hk : k ≤ 600000) (hn : n ≤ 7302250) (hL : L ≤ 2560) {Q : State → Prop} {I : z_S → z_S → Prop} (hs : z_op_extraBottom I) {j : Nat} (hj : j + 5 ≤ L) (S M : z_S) (hI : I S M) (kk : ∀ S1 M1 : z_S, I S1 M1 → z_At X A Q Ω k n 4 617 [(0, .ref b), (1, .ref (Ω.2.2 0)), (2, .ref (Ω.2.2 100)), (3, .int (nI j))] [] (wN Ω S1 ++ wM Ω M1)) : z_At X A Q Ω k n 4 487 [(0, .ref b), (1, .ref (Ω.2.2 0)), (2, .ref (Ω.2.2 100)), (3, .int (nI j))] [] (wN Ω S ++ wM Ω M) := by
  obtain ⟨nn, r, S1, M1, e1, e2, hI1⟩ := hs S M (xs (nI j + 1).toNatClampNeg) hI
  refine z_aload_n rfl 1 rfl hC d_L_487 (q := 488) rfl ?_
  refine z_aload_n rfl 0 rfl hC d_L_488 (q := 489) rfl ?_
  refine z_iload_n rfl 3 rfl hC d_L_489 (q := 490) rfl ?_
  refine z_iconst (v := (1 : Int32)) (by decide) hC d_L_490 (q := 491) rfl ?_
  refine z_iadd hC d_L_491 (q := 492) rfl ?_
  refine z_sld hC hX (z_vx hL hj 1 (by decide)) d_L_492 (q := 493) rfl ?_
  refine z_callLi (q0 := 0) (As := [.int (xs (nI j + 1).toNatClampNeg)]) hC hA (c_N_extraBottom (z_lOf X) Ω nn (xs (nI j + 1).toNatClampNeg) S (r, S1) e1) k_391 k_388 k_389 k_390 k_1 h_N_extraBottom (by rw [hR]; exact ⟨by decide, by decide⟩) (by rw [hR]; exact ⟨hk, hn⟩) rfl rfl rfl (Nat.le_of_ble_eq_true rfl) rfl d_L_493 (q := 496) rfl ?_
  refine z_aload_n rfl 2 rfl hC d_L_496 (q := 497) rfl ?_
  refine z_aload_n rfl 0 rfl hC d_L_497 (q := 498) rfl ?_
  refine z_iload_n rfl 3 rfl hC d_L_498 (q := 499) rfl ?_
  refine z_iconst (v := (1 : Int32)) (by decide) hC d_L_499 (q := 500) rfl ?_
  refine z_iadd hC d_L_500 (q := 501) rfl ?_
  refine z_sld hC hX (z_vx hL hj 1 (by decide)) d_L_501 (q := 502) rfl ?_
  refine z_callRi (q0 := 0) (As := [.int (xs (nI j + 1).toNatClampNeg)]) hC hA (c_M_extraBottom (z_lOf X) Ω nn (xs (nI j + 1).toNatClampNeg) M (r, M1) e2) k_689 k_686 k_687 k_688 k_6 h_M_extraBottom (by rw [hR]; exact ⟨by decide, by decide⟩) (by rw [hR]; exact ⟨hk, hn⟩) rfl rfl rfl (Nat.le_of_ble_eq_true rfl) rfl d_L_502 (q := 505) rfl ?_
  exact z_icmp_eq (tgt := 617) (q := 508) hC d_L_505 rfl rfl (fun _ => kk S1 M1 hI1) (fun h => absurd rfl h)
set_option maxRecDepth 20000 in
theorem wl_check {X : z_X} {A : Nat → Prop} {Ω : z_O} {k n b L : Nat} {xs : Nat → Int32} (hC : z_C X code 4 "NodalAuctionLaw" Ω) (hA : z_hA X A) (hX : z_Xs X A b L xs) (hR : z_rmOf X = room_1) (hk : k ≤ 600000) (hn : n ≤ 7302250) (hL : L ≤ 2560) {Q : State → Prop} {I : z_S → z_S → Prop} (hs : z_op_check I) {j : Nat} (hj : j + 5 ≤ L) (S M : z_S) (hI : I S M) (kk : ∀ S1 M1 : z_S, I S1 M1 → z_At X A Q Ω k n 4 617 [(0, .ref b), (1, .ref (Ω.2.2 0)), (2, .ref (Ω.2.2 100)), (3, .int (nI j))] [] (wN Ω S1 ++ wM Ω M1)) : z_At X A Q Ω k n 4 510 [(0, .ref b), (1, .ref (Ω.2.2 0)), (2, .ref (Ω.2.2 100)), (3, .int (nI j))] [] (wN Ω S ++ wM Ω M) := by
  obtain ⟨nn, r, S1, M1, e1, e2, hI1⟩ := hs S M (xs (nI j + 1).toNatClampNeg) (xs (nI j + 2).toNatClampNeg) (xs (nI j + 3).toNatClampNeg) (xs (nI j + 4).toNatClampNeg) hI
  refine z_aload_n rfl 1 rfl hC d_L_510 (q := 511) rfl ?_
  refine z_aload_n rfl 0 rfl hC d_L_511 (q := 512) rfl ?_
  refine z_iload_n rfl 3 rfl hC d_L_512 (q := 513) rfl ?_
  refine z_iconst (v := (1 : Int32)) (by decide) hC d_L_513 (q := 514) rfl ?_
  refine z_iadd hC d_L_514 (q := 515) rfl ?_
  refine z_sld hC hX (z_vx hL hj 1 (by decide)) d_L_515 (q := 516) rfl ?_
  refine z_aload_n rfl 0 rfl hC d_L_516 (q := 517) rfl ?_
  refine z_iload_n rfl 3 rfl hC d_L_517 (q := 518) rfl ?_
  refine z_iconst (v := (2 : Int32)) (by decide) hC d_L_518 (q := 519) rfl ?_
  refine z_iadd hC d_L_519 (q := 520) rfl ?_
  refine z_sld hC hX (z_vx hL hj 2 (by decide)) d_L_520 (q := 521) rfl ?_
  refine z_aload_n rfl 0 rfl hC d_L_521 (q := 522) rfl ?_
  refine z_iload_n rfl 3 rfl hC d_L_522 (q := 523) rfl ?_
  refine z_iconst (v := (3 : Int32)) (by decide) hC d_L_523 (q := 524) rfl ?_
  refine z_iadd hC d_L_524 (q := 525) rfl ?_
  refine z_sld hC hX (z_vx hL hj 3 (by decide)) d_L_525 (q := 526) rfl ?_
  refine z_aload_n rfl 0 rfl hC d_L_526 (q := 527) rfl ?_
  refine z_iload_n rfl 3 rfl hC d_L_527 (q := 528) rfl ?_
  refine z_iconst (v := (4 : Int32)) (by decide) hC d_L_528 (q := 529) rfl ?_
  refine z_iadd hC d_L_529 (q := 530) rfl ?_
  refine z_sld hC hX (z_vx hL hj 4 (by decide)) d_L_530 (q := 531) rfl ?_
  refine z_callLi (q0 := 0) (As := [.int (xs (nI j + 1).toNatClampNeg), .int (xs (nI j + 2).toNatClampNeg), .int (xs (nI j + 3).toNatClampNeg), .int (xs (nI j + 4).toNatClampNeg)]) hC hA (c_N_check (z_lOf X) Ω nn (xs (nI j + 1).toNatClampNeg) (xs (nI j + 2).toNatClampNeg) (xs (nI j + 3).toNatClampNeg) (xs (nI j + 4).toNatClampNeg) S (r, S1) e1) k_395 k_392 k_393 k_394 k_1 h_N_check (by rw [hR]; exact ⟨by decide, by decide⟩) (by rw [hR]; exact ⟨hk, hn⟩) rfl rfl rfl (Nat.le_of_ble_eq_true rfl) rfl d_L_531 (q := 534) rfl ?_
  refine z_aload_n rfl 2 rfl hC d_L_534 (q := 535) rfl ?_
  refine z_aload_n rfl 0 rfl hC d_L_535 (q := 536) rfl ?_
  refine z_iload_n rfl 3 rfl hC d_L_536 (q := 537) rfl ?_
  refine z_iconst (v := (1 : Int32)) (by decide) hC d_L_537 (q := 538) rfl ?_
  refine z_iadd hC d_L_538 (q := 539) rfl ?_
  refine z_sld hC hX (z_vx hL hj 1 (by decide)) d_L_539 (q := 540) rfl ?_
  refine z_aload_n rfl 0 rfl hC d_L_540 (q := 541) rfl ?_
  refine z_iload_n rfl 3 rfl hC d_L_541 (q := 542) rfl ?_
  refine z_iconst (v := (2 : Int32)) (by decide) hC d_L_542 (q := 543) rfl ?_
  refine z_iadd hC d_L_543 (q := 544) rfl ?_
  refine z_sld hC hX (z_vx hL hj 2 (by decide)) d_L_544 (q := 545) rfl ?_
  refine z_aload_n rfl 0 rfl hC d_L_545 (q := 546) rfl ?_
  refine z_iload_n rfl 3 rfl hC d_L_546 (q := 547) rfl ?_
  refine z_iconst (v := (3 : Int32)) (by decide) hC d_L_547 (q := 548) rfl ?_
  refine z_iadd hC d_L_548 (q := 549) rfl ?_
  refine z_sld hC hX (z_vx hL hj 3 (by decide)) d_L_549 (q := 550) rfl ?_
  refine z_aload_n rfl 0 rfl hC d_L_550 (q := 551) rfl ?_
  refine z_iload_n rfl 3 rfl hC d_L_551 (q := 552) rfl ?_
  refine z_iconst (v := (4 : Int32)) (by decide) hC d_L_552 (q := 553) rfl ?_
  refine z_iadd hC d_L_553 (q := 554) rfl ?_
  refine z_sld hC hX (z_vx hL hj 4 (by decide)) d_L_554 (q := 555) rfl ?_
  refine z_callRi (q0 := 0) (As := [.int (xs (nI j + 1).toNatClampNeg), .int (xs (nI j + 2).toNatClampNeg), .int (xs (nI j + 3).toNatClampNeg), .int (xs (nI j + 4).toNatClampNeg)]) hC hA (c_M_check (z_lOf X) Ω nn (xs (nI j + 1).toNatClampNeg) (xs (nI j + 2).toNatClampNeg) (xs (nI j + 3).toNatClampNeg) (xs (nI j + 4).toNatClampNeg) M (r, M1) e2) k_693 k_690 k_691 k_692 k_6 h_M_check (by rw [hR]; exact ⟨by decide, by decide⟩) (by rw [hR]; exact ⟨hk, hn⟩) rfl rfl rfl (Nat.le_of_ble_eq_true rfl) rfl d_L_555 (q := 558) rfl ?_
  exact z_icmp_eq (tgt := 617) (q := 561) hC d_L_558 rfl rfl (fun _ => kk S1 M1 hI1) (fun h => absurd rfl h)
set_option maxRecDepth 20000 in
theorem wl_rent {X : z_X} {A : Nat → Prop} {Ω : z_O} {k n b L : Nat} {xs : Nat → Int32} (hC : z_C X code 4 "NodalAuctionLaw" Ω) (hA : z_hA X A) (hX : z_Xs X A b L xs) (hR : z_rmOf X = room_1) (hk : k ≤ 600000) (hn : n ≤ 7302250) (hL : L ≤ 2560) {Q : State → Prop} {I : z_S → z_S → Prop} (hs : z_op_rent I) {j : Nat} (hj : j + 5 ≤ L) (S M : z_S) (hI : I S M) (kk : ∀ S1 M1 : z_S, I S1 M1 → z_At X A Q Ω k n 4 617 [(0, .ref b), (1, .ref (Ω.2.2 0)), (2, .ref (Ω.2.2 100)), (3, .int (nI j))] [] (wN Ω S1 ++ wM Ω M1)) : z_At X A Q Ω k n 4 563 [(0, .ref b), (1, .ref (Ω.2.2 0)), (2, .ref (Ω.2.2 100)), (3, .int (nI j))] [] (wN Ω S ++ wM Ω M) := by
  obtain ⟨nn, r, S1, M1, e1, e2, hI1⟩ := hs S M (xs (nI j + 1).toNatClampNeg) (xs (nI j + 2).toNatClampNeg) (xs (nI j + 3).toNatClampNeg) (xs (nI j + 4).toNatClampNeg) hI
  refine z_aload_n rfl 1 rfl hC d_L_563 (q := 564) rfl ?_
  refine z_aload_n rfl 0 rfl hC d_L_564 (q := 565) rfl ?_
  refine z_iload_n rfl 3 rfl hC d_L_565 (q := 566) rfl ?_
  refine z_iconst (v := (1 : Int32)) (by decide) hC d_L_566 (q := 567) rfl ?_
  refine z_iadd hC d_L_567 (q := 568) rfl ?_
  refine z_sld hC hX (z_vx hL hj 1 (by decide)) d_L_568 (q := 569) rfl ?_
  refine z_aload_n rfl 0 rfl hC d_L_569 (q := 570) rfl ?_
  refine z_iload_n rfl 3 rfl hC d_L_570 (q := 571) rfl ?_
  refine z_iconst (v := (2 : Int32)) (by decide) hC d_L_571 (q := 572) rfl ?_
  refine z_iadd hC d_L_572 (q := 573) rfl ?_
  refine z_sld hC hX (z_vx hL hj 2 (by decide)) d_L_573 (q := 574) rfl ?_
  refine z_aload_n rfl 0 rfl hC d_L_574 (q := 575) rfl ?_
  refine z_iload_n rfl 3 rfl hC d_L_575 (q := 576) rfl ?_
  refine z_iconst (v := (3 : Int32)) (by decide) hC d_L_576 (q := 577) rfl ?_
  refine z_iadd hC d_L_577 (q := 578) rfl ?_
  refine z_sld hC hX (z_vx hL hj 3 (by decide)) d_L_578 (q := 579) rfl ?_
  refine z_aload_n rfl 0 rfl hC d_L_579 (q := 580) rfl ?_
  refine z_iload_n rfl 3 rfl hC d_L_580 (q := 581) rfl ?_
  refine z_iconst (v := (4 : Int32)) (by decide) hC d_L_581 (q := 582) rfl ?_
  refine z_iadd hC d_L_582 (q := 583) rfl ?_
  refine z_sld hC hX (z_vx hL hj 4 (by decide)) d_L_583 (q := 584) rfl ?_
  refine z_callLl (q0 := 0) (As := [.int (xs (nI j + 1).toNatClampNeg), .int (xs (nI j + 2).toNatClampNeg), .int (xs (nI j + 3).toNatClampNeg), .int (xs (nI j + 4).toNatClampNeg)]) hC hA (c_N_rent (z_lOf X) Ω nn (xs (nI j + 1).toNatClampNeg) (xs (nI j + 2).toNatClampNeg) (xs (nI j + 3).toNatClampNeg) (xs (nI j + 4).toNatClampNeg) S (r, S1) e1) k_423 k_420 k_421 k_422 k_1 h_N_rent (by rw [hR]; exact ⟨by decide, by decide⟩) (by rw [hR]; exact ⟨hk, hn⟩) rfl rfl rfl (Nat.le_of_ble_eq_true rfl) rfl d_L_584 (q := 587) rfl ?_
  refine z_aload_n rfl 2 rfl hC d_L_587 (q := 588) rfl ?_
  refine z_aload_n rfl 0 rfl hC d_L_588 (q := 589) rfl ?_
  refine z_iload_n rfl 3 rfl hC d_L_589 (q := 590) rfl ?_
  refine z_iconst (v := (1 : Int32)) (by decide) hC d_L_590 (q := 591) rfl ?_
  refine z_iadd hC d_L_591 (q := 592) rfl ?_
  refine z_sld hC hX (z_vx hL hj 1 (by decide)) d_L_592 (q := 593) rfl ?_
  refine z_aload_n rfl 0 rfl hC d_L_593 (q := 594) rfl ?_
  refine z_iload_n rfl 3 rfl hC d_L_594 (q := 595) rfl ?_
  refine z_iconst (v := (2 : Int32)) (by decide) hC d_L_595 (q := 596) rfl ?_
  refine z_iadd hC d_L_596 (q := 597) rfl ?_
  refine z_sld hC hX (z_vx hL hj 2 (by decide)) d_L_597 (q := 598) rfl ?_
  refine z_aload_n rfl 0 rfl hC d_L_598 (q := 599) rfl ?_
  refine z_iload_n rfl 3 rfl hC d_L_599 (q := 600) rfl ?_
  refine z_iconst (v := (3 : Int32)) (by decide) hC d_L_600 (q := 601) rfl ?_
  refine z_iadd hC d_L_601 (q := 602) rfl ?_
  refine z_sld hC hX (z_vx hL hj 3 (by decide)) d_L_602 (q := 603) rfl ?_
  refine z_aload_n rfl 0 rfl hC d_L_603 (q := 604) rfl ?_
  refine z_iload_n rfl 3 rfl hC d_L_604 (q := 605) rfl ?_
  refine z_iconst (v := (4 : Int32)) (by decide) hC d_L_605 (q := 606) rfl ?_
  refine z_iadd hC d_L_606 (q := 607) rfl ?_
  refine z_sld hC hX (z_vx hL hj 4 (by decide)) d_L_607 (q := 608) rfl ?_
  refine z_callRl (q0 := 0) (As := [.int (xs (nI j + 1).toNatClampNeg), .int (xs (nI j + 2).toNatClampNeg), .int (xs (nI j + 3).toNatClampNeg), .int (xs (nI j + 4).toNatClampNeg)]) hC hA (c_M_rent (z_lOf X) Ω nn (xs (nI j + 1).toNatClampNeg) (xs (nI j + 2).toNatClampNeg) (xs (nI j + 3).toNatClampNeg) (xs (nI j + 4).toNatClampNeg) M (r, M1) e2) k_708 k_709 k_706 k_707 k_6 h_M_rent (by rw [hR]; exact ⟨by decide, by decide⟩) (by rw [hR]; exact ⟨hk, hn⟩) rfl rfl rfl (Nat.le_of_ble_eq_true rfl) rfl d_L_608 (q := 611) rfl ?_
  exact z_lcmp_eq (pc1 := 612) (tgt := 617) (q := 615) hC d_L_611 rfl d_L_612 rfl rfl (fun _ => kk S1 M1 hI1) (fun h => absurd rfl h)
theorem z_and31 (x : Int32) : ∃ t : Nat, t < 32 ∧ x &&& 31 = nI t := pk_andE x 5 (by decide)
theorem z_gt5 {j L : Nat} (hL : L ≤ 2560) (hj : j ≤ L) : (Int32.ofNat L - 5 < nI j) ↔ ¬ j + 5 ≤ L := by
  have e1 : (Int32.ofNat L).toInt = L := nI_toInt (n := L) (by omega)
  have e2 : (Int32.ofNat L - 5).toInt = (L : Int) - 5 := by
    rw [Int32.toInt_sub, e1]
    have : (5 : Int32).toInt = 5 := by decide
    rw [this]
    apply Int.bmod_eq_of_le <;> omega
  rw [Int32.lt_iff_toInt_lt, e2, nI_toInt (by omega)]
  omega
set_option maxRecDepth 20000 in
set_option maxHeartbeats 4000000 in
theorem wl_body {X : z_X} {A : Nat → Prop} {Ω : z_O} {k n b L : Nat} {xs : Nat → Int32} (hC : z_C X code 4 "NodalAuctionLaw" Ω) (hA : z_hA X A) (hX : z_Xs X A b L xs) (hR : z_rmOf X = room_1) (hk : k ≤ 600000) (hn : n ≤ 7302250) (hL : L ≤ 2560) {Q : State → Prop} {I : z_S → z_S → Prop} (hs : z_Sim I) {j : Nat} (hj : j + 5 ≤ L) (S M : z_S) (hI : I S M) (kk : ∀ S1 M1 : z_S, I S1 M1 → z_At X A Q Ω k n 4 617 [(0, .ref b), (1, .ref (Ω.2.2 0)), (2, .ref (Ω.2.2 100)), (3, .int (nI j))] [] (wN Ω S1 ++ wM Ω M1)) : z_At X A Q Ω k n 4 26 [(0, .ref b), (1, .ref (Ω.2.2 0)), (2, .ref (Ω.2.2 100)), (3, .int (nI j))] [] (wN Ω S ++ wM Ω M) := by
  refine z_aload_n rfl 0 rfl hC d_L_26 (q := 27) rfl ?_
  refine z_iload_n rfl 3 rfl hC d_L_27 (q := 28) rfl ?_
  refine z_sld hC hX (show vi (nI j) L = true from by have h := z_vx hL hj 0 (by decide); rwa [nI_add, Nat.add_zero] at h) d_L_28 (q := 29) rfl ?_
  refine z_bipush (v := (31 : Int32)) (by decide) hC d_L_29 (q := 31) rfl ?_
  refine z_iand hC d_L_31 (q := 32) rfl ?_
  obtain ⟨t, ht, et⟩ := z_and31 (xs (nI j).toNatClampNeg)
  rw [et]
  by_cases h0 : t = 0
  · subst h0
    refine z_tabIn (tgt := 120) (off := 88) hC d_L_32 (by decide) (by decide) (by decide) rfl ?_
    exact wl_line hC hA hX hR hk hn hL hs.1 hj S M hI kk
  by_cases h1 : t = 1
  · subst h1
    refine z_tabIn (tgt := 173) (off := 141) hC d_L_32 (by decide) (by decide) (by decide) rfl ?_
    exact wl_limit hC hA hX hR hk hn hL hs.2.1 hj S M hI kk
  by_cases h2 : t = 2
  · subst h2
    refine z_tabIn (tgt := 206) (off := 174) hC d_L_32 (by decide) (by decide) (by decide) rfl ?_
    exact wl_cut hC hA hX hR hk hn hL hs.2.2.1 hj S M hI kk
  by_cases h3 : t = 3
  · subst h3
    refine z_tabIn (tgt := 229) (off := 197) hC d_L_32 (by decide) (by decide) (by decide) rfl ?_
    exact wl_bid hC hA hX hR hk hn hL hs.2.2.2.1 hj S M hI kk
  by_cases h4 : t = 4
  · subst h4
    refine z_tabIn (tgt := 272) (off := 240) hC d_L_32 (by decide) (by decide) (by decide) rfl ?_
    exact wl_offer hC hA hX hR hk hn hL hs.2.2.2.2.1 hj S M hI kk
  by_cases h5 : t = 5
  · subst h5
    refine z_tabIn (tgt := 315) (off := 283) hC d_L_32 (by decide) (by decide) (by decide) rfl ?_
    exact wl_cancel hC hA hX hR hk hn hL hs.2.2.2.2.2.1 hj S M hI kk
  by_cases h6 : t = 6
  · subst h6
    refine z_tabIn (tgt := 338) (off := 306) hC d_L_32 (by decide) (by decide) (by decide) rfl ?_
    exact wl_clear hC hA hX hR hk hn hL hs.2.2.2.2.2.2.1 hj S M hI kk
  by_cases h7 : t = 7
  · subst h7
    refine z_tabIn (tgt := 351) (off := 319) hC d_L_32 (by decide) (by decide) (by decide) rfl ?_
    exact wl_steps hC hA hX hR hk hn hL hs.2.2.2.2.2.2.2.1 hj S M hI kk
  by_cases h8 : t = 8
  · subst h8
    refine z_tabIn (tgt := 364) (off := 332) hC d_L_32 (by decide) (by decide) (by decide) rfl ?_
    exact wl_lines hC hA hX hR hk hn hL hs.2.2.2.2.2.2.2.2.1 hj S M hI kk
  by_cases h9 : t = 9
  · subst h9
    refine z_tabIn (tgt := 377) (off := 345) hC d_L_32 (by decide) (by decide) (by decide) rfl ?_
    exact wl_scale hC hA hX hR hk hn hL hs.2.2.2.2.2.2.2.2.2.1 hj S M hI kk
  by_cases h10 : t = 10
  · subst h10
    refine z_tabIn (tgt := 390) (off := 358) hC d_L_32 (by decide) (by decide) (by decide) rfl ?_
    exact wl_accepted hC hA hX hR hk hn hL hs.2.2.2.2.2.2.2.2.2.2.1 hj S M hI kk
  by_cases h11 : t = 11
  · subst h11
    refine z_tabIn (tgt := 413) (off := 381) hC d_L_32 (by decide) (by decide) (by decide) rfl ?_
    exact wl_flow hC hA hX hR hk hn hL hs.2.2.2.2.2.2.2.2.2.2.2.1 hj S M hI kk
  by_cases h12 : t = 12
  · subst h12
    refine z_tabIn (tgt := 436) (off := 404) hC d_L_32 (by decide) (by decide) (by decide) rfl ?_
    exact wl_tight hC hA hX hR hk hn hL hs.2.2.2.2.2.2.2.2.2.2.2.2.1 hj S M hI kk
  by_cases h13 : t = 13
  · subst h13
    refine z_tabIn (tgt := 449) (off := 417) hC d_L_32 (by decide) (by decide) (by decide) rfl ?_
    exact wl_welfare hC hA hX hR hk hn hL hs.2.2.2.2.2.2.2.2.2.2.2.2.2.1 hj S M hI kk
  by_cases h14 : t = 14
  · subst h14
    refine z_tabIn (tgt := 463) (off := 431) hC d_L_32 (by decide) (by decide) (by decide) rfl ?_
    exact wl_extraTop hC hA hX hR hk hn hL hs.2.2.2.2.2.2.2.2.2.2.2.2.2.2.1 hj S M hI kk
  by_cases h15 : t = 15
  · subst h15
    refine z_tabIn (tgt := 487) (off := 455) hC d_L_32 (by decide) (by decide) (by decide) rfl ?_
    exact wl_extraBottom hC hA hX hR hk hn hL hs.2.2.2.2.2.2.2.2.2.2.2.2.2.2.2.1 hj S M hI kk
  by_cases h16 : t = 16
  · subst h16
    refine z_tabIn (tgt := 510) (off := 478) hC d_L_32 (by decide) (by decide) (by decide) rfl ?_
    exact wl_check hC hA hX hR hk hn hL hs.2.2.2.2.2.2.2.2.2.2.2.2.2.2.2.2.1 hj S M hI kk
  by_cases h17 : t = 17
  · subst h17
    refine z_tabIn (tgt := 563) (off := 531) hC d_L_32 (by decide) (by decide) (by decide) rfl ?_
    exact wl_rent hC hA hX hR hk hn hL hs.2.2.2.2.2.2.2.2.2.2.2.2.2.2.2.2.2 hj S M hI kk
  refine z_tabOut (tgt := 617) hC d_L_32 (Or.inr (by rw [nI_toInt (by omega)]; omega)) rfl ?_
  exact kk S M hI
theorem wl_loop {X : z_X} {A : Nat → Prop} {Ω : z_O} {k n b L : Nat} {xs : Nat → Int32} (hC : z_C X code 4 "NodalAuctionLaw" Ω) (hA : z_hA X A) (hX : z_Xs X A b L xs) (hR : z_rmOf X = room_1) (hk : k ≤ 600000) (hn : n ≤ 7302250) (hA0 : ∀ q, A q → X.2.2.2.2.1.heap.size ≤ q) (hLX : z_LX X b) (hL : L ≤ 2560) {I : z_S → z_S → Prop} (hs : z_Sim I) : ∀ (f j : Nat) (S M : z_S), j ≤ L → L - j < f → I S M → z_At X A (z_QW X b) Ω k n 4 18 [(0, .ref b), (1, .ref (Ω.2.2 0)), (2, .ref (Ω.2.2 100)), (3, .int (nI j))] [] (wN Ω S ++ wM Ω M) := by
  intro f
  induction f with
  | zero => intro j S M _ h; omega
  | succ f ih =>
    intro j S M hj hf hI
    refine z_iload_n rfl 3 rfl hC d_L_18 (q := 19) rfl ?_
    refine z_aload_n rfl 0 rfl hC d_L_19 (q := 20) rfl ?_
    refine z_slen hC hX d_L_20 (q := 21) rfl ?_
    refine z_iconst (v := (5 : Int32)) (by decide) hC d_L_21 (q := 22) rfl ?_
    refine z_isub hC d_L_22 (q := 23) rfl ?_
    refine z_icmp_gt (tgt := 623) (q := 26) hC d_L_23 rfl rfl (fun hb => ?_) (fun hb => ?_)
    · refine z_iconst (v := (1 : Int32)) (by decide) hC d_L_623 (q := 624) rfl ?_
      exact z_lawret hC hLX hA0 hk hn d_L_624
    · have hj5 : j + 5 ≤ L := Classical.byContradiction fun h => hb ((z_gt5 hL hj).mpr h)
      refine wl_body hC hA hX hR hk hn hL hs hj5 S M hI (fun S1 M1 hI1 => ?_)
      refine z_iinc (lv' := [(3, .int (nI (j + 5))), (0, .ref b), (1, .ref (Ω.2.2 0)), (2, .ref (Ω.2.2 100))]) 3 rfl (by show nI j + nI 5 = nI (j + 5); rw [nI_add]) (by decide) rfl hC d_L_617 (q := 620) rfl ?_
      refine z_goto (tgt := 18) hC d_L_620 rfl ?_
      refine z_sub [1, 2, 3, 0] rfl ?_
      exact ih (j + 5) S1 M1 hj5 (by omega) hI1
theorem wN_congr {D : va_G} {E : ClassId × ClassId × ClassId × ClassId} {a b : Nat → Nat} {S : z_S} (h : ∀ k, k < 100 → a k = b k) : wN (D, E, a) S = wN (D, E, b) S := by
  have h0 := h 0 (by decide)
  have h1 := h 1 (by decide)
  have h2 := h 2 (by decide)
  have h3 := h 3 (by decide)
  have h4 := h 4 (by decide)
  have h5 := h 5 (by decide)
  have h6 := h 6 (by decide)
  have h7 := h 7 (by decide)
  have h8 := h 8 (by decide)
  have h9 := h 9 (by decide)
  have h10 := h 10 (by decide)
  have h11 := h 11 (by decide)
  have h12 := h 12 (by decide)
  have h13 := h 13 (by decide)
  have h14 := h 14 (by decide)
  have h15 := h 15 (by decide)
  have h16 := h 16 (by decide)
  have h17 := h 17 (by decide)
  have h18 := h 18 (by decide)
  have h19 := h 19 (by decide)
  have h20 := h 20 (by decide)
  have h21 := h 21 (by decide)
  have h22 := h 22 (by decide)
  have h23 := h 23 (by decide)
  have h24 := h 24 (by decide)
  have h25 := h 25 (by decide)
  have h26 := h 26 (by decide)
  have h27 := h 27 (by decide)
  have h28 := h 28 (by decide)
  have h29 := h 29 (by decide)
  have h30 := h 30 (by decide)
  have h31 := h 31 (by decide)
  have h32 := h 32 (by decide)
  have h33 := h 33 (by decide)
  have h34 := h 34 (by decide)
  have h35 := h 35 (by decide)
  have h36 := h 36 (by decide)
  have h37 := h 37 (by decide)
  have h38 := h 38 (by decide)
  have h39 := h 39 (by decide)
  have h40 := h 40 (by decide)
  have h41 := h 41 (by decide)
  have h42 := h 42 (by decide)
  have h43 := h 43 (by decide)
  have h44 := h 44 (by decide)
  have h45 := h 45 (by decide)
  have e30 : (fun j => if j < 4 then some (a (30 + j)) else none) = (fun j => if j < 4 then some (b (30 + j)) else none) := funext fun j => by
    by_cases hj : j < 4
    · rw [if_pos hj, if_pos hj, h (30 + j) (by omega)]
    · rw [if_neg hj, if_neg hj]
  have e34 : (fun j => if j < 4 then some (a (34 + j)) else none) = (fun j => if j < 4 then some (b (34 + j)) else none) := funext fun j => by
    by_cases hj : j < 4
    · rw [if_pos hj, if_pos hj, h (34 + j) (by omega)]
    · rw [if_neg hj, if_neg hj]
  have e38 : (fun j => if j < 8 then some (a (38 + j)) else none) = (fun j => if j < 8 then some (b (38 + j)) else none) := funext fun j => by
    by_cases hj : j < 8
    · rw [if_pos hj, if_pos hj, h (38 + j) (by omega)]
    · rw [if_neg hj, if_neg hj]
  simp only [wN, e30, e34, e38, h0, h1, h2, h3, h4, h5, h6, h7, h8, h9, h10, h11, h12, h13, h14, h15, h16, h17, h18, h19, h20, h21, h22, h23, h24, h25, h26, h27, h28, h29, h30, h31, h32, h33, h34, h35, h36, h37, h38, h39, h40, h41, h42, h43, h44, h45]
set_option maxRecDepth 20000 in
set_option maxHeartbeats 4000000 in
theorem z_law {I : z_S → z_S → Prop} (h0 : I z_S0 z_M0) (hs : z_Sim I) {p : Program} {e : Env} {s : State} {m : MethodId} {below : List Frame} {meth : Method} {c : Code} (l : Launch) {b L : Nat} {xs : Nat → Int32} (hL : L ≤ 2560) (C0 : lw_At p s m meth c b L xs) : W p l e room_1 s m #[Value.ref b] below meth c s.heap [] 0 0 (lw_Z below #[Value.ref b] s) (entryFrame m ([Value.ref b] : List Value).toArray 4) := by
  obtain ⟨hx, hb, hr, hml, hown, hts0, hX, hbl, hlocks, hgv⟩ := C0
  have hts : ∀ w ∈ z_good, w.before #[Value.ref b] s = true := fun w hw => hts0 w (List.mem_filter.mp hw).1
  have hN : ∀ w ∈ z_nest, va_Nw w s := fun w hw => va_Nw.of (by have h1 := (List.mem_filter.mp hw).2; cases w <;> first | rfl | (simp [z_isNest] at h1; done)) (hts0 w (List.mem_append_right _ (List.mem_filter.mp hw).1))
  have hAO : z_AO s := hts0 (Cond.arrayOver (.array .long)) (List.mem_append_right _ (List.mem_of_getElem? (i := 23) rfl))

  obtain ⟨cN, iN, KN⟩ := u_known (C := R_N) (T := T_N) (N := 6) hts u_N (hts _ k_9)
  obtain ⟨cG, iG, KG⟩ := u_known (C := R_G) (T := T_G) (N := 8) hts u_G (hts _ k_17)
  obtain ⟨cB, iB, KB⟩ := u_known (C := R_B) (T := T_B) (N := 5) hts u_B (hts _ k_58)
  obtain ⟨cP, iP, KP⟩ := u_known (C := R_P) (T := T_P) (N := 10) hts u_P (hts _ k_91)
  obtain ⟨cO, iO, KO⟩ := u_known (C := R_O) (T := T_O) (N := 5) hts u_O (hts _ k_132)
  obtain ⟨cM, iM, KM⟩ := u_known (C := R_M) (T := T_M) (N := 34) hts u_M (hts _ k_425)
  obtain ⟨yI, kkI, ccI, fI, gI, g2I⟩ := Cond.arrayClass_spec (hts _ k_55)
  obtain ⟨yJ, kkJ, ccJ, fJ, gJ, g2J⟩ := Cond.arrayClass_spec (hts _ k_56)
  obtain ⟨yZ, kkZ, ccZ, fZ, gZ, g2Z⟩ := Cond.arrayClass_spec (hts _ k_130)
  obtain ⟨ccP, yP, kkP, fP0, gP, g2P, fP⟩ := Cond.arrayOver_specA hAO
  have hK : va_K ((fun k => [cN, cG, cB, cP, cO, cM].getD k 0), (fun k => [iN, iG, iB, iP, iO, iM].getD k (fun _ => 0))) z_cl (z_tys (((fun k => [cN, cG, cB, cP, cO, cM].getD k 0), (fun k => [iN, iG, iB, iP, iO, iM].getD k (fun _ => 0))), (yI, yJ, yZ, yP), (fun _ => 0))) s := by
    refine ⟨fun i q hq => ?_, fun i q hq => ?_⟩
    · match i, hq with
      | 0, hq => cases hq; exact KN
      | 1, hq => cases hq; exact KG
      | 2, hq => cases hq; exact KB
      | 3, hq => cases hq; exact KP
      | 4, hq => cases hq; exact KO
      | 5, hq => cases hq; exact KM
      | i + 6, hq => cases hq
    · match i, hq with
      | 0, hq => cases hq; exact ⟨fun n z => ⟨fun k h => (by cases h), kkI, gI, ccI, g2I⟩, fI⟩
      | 1, hq => cases hq; exact ⟨fun n z => ⟨fun k h => (by cases h), kkJ, gJ, ccJ, g2J⟩, fJ⟩
      | 2, hq => cases hq; exact ⟨fun n z => ⟨fun k h => (by cases h), kkZ, gZ, ccZ, g2Z⟩, fZ⟩
      | 3, hq => cases hq; exact ⟨fun n z => ⟨fun k h => (by cases h), kkP, gP, ccP, g2P⟩, fP⟩
      | i + 4, hq => cases hq
  generalize ((fun k => [cN, cG, cB, cP, cO, cM].getD k 0, fun k => [iN, iG, iB, iP, iO, iM].getD k (fun _ => 0)) : va_G) = D at hK
  generalize ((yI, yJ, yZ, yP) : ClassId × ClassId × ClassId × ClassId) = E at hK
  have hC : ∀ a : Nat → Nat, z_C (p, l, e, room_1, s, m, #[Value.ref b], below, meth, c) code 4 "NodalAuctionLaw" (D, E, a) := fun a => ⟨hx, hb, hml, hown, hts, hK, hN⟩
  have hA : z_hA (p, l, e, room_1, s, m, #[Value.ref b], below, meth, c) (fun q => s.heap.size ≤ q) := fun q h => h
  have hXs : z_Xs (p, l, e, room_1, s, m, #[Value.ref b], below, meth, c) (fun q => s.heap.size ≤ q) b L xs := ⟨hX, hbl, Nat.not_le.mpr hbl⟩
  have hLX : z_LX (p, l, e, room_1, s, m, #[Value.ref b], below, meth, c) b := ⟨rfl, rfl, hr, hlocks⟩
  have hRm : z_rmOf (p, l, e, room_1, s, m, #[Value.ref b], below, meth, c) = room_1 := rfl
  have goal : z_At (p, l, e, room_1, s, m, #[Value.ref b], below, meth, c) (fun q => s.heap.size ≤ q) (z_QW (p, l, e, room_1, s, m, #[Value.ref b], below, meth, c) b) (D, E, fun _ => 0) 0 0 4 0 [(0, .ref b)] [] [] := by
    refine z_newO (ci := 0) (fs := [.null, .null, .null, .null, .null, .null]) (hC _) hA u_N t_N t_N_ok k_8 k_9 k_1 rfl (by decide) (Nat.le_of_ble_eq_true rfl) (Nat.le_of_ble_eq_true rfl) d_L_0 (q := 3) rfl (fun q1 => ?_)
    refine z_dup rfl (hC _) d_L_3 (q := 4) rfl ?_
    refine z_callI (z := 0) (hC _) hAO hA (c_N_init _ _ q1) k_12 k_10 k_11 k_1 rfl h_N_init ⟨Nat.le_of_ble_eq_true rfl, Nat.le_of_ble_eq_true rfl⟩ ⟨Nat.le_of_ble_eq_true rfl, Nat.le_of_ble_eq_true rfl⟩ (Nat.le_of_ble_eq_true rfl) d_L_4 (q := 7) rfl (fun uN eN => ?_)
    subst eN
    refine z_astore_n (lv' := [(1, .ref (uN 0)), (0, .ref b)]) rfl (by decide) rfl (hC _) d_L_7 (q := 8) rfl ?_
    refine z_newO (ci := 5) (fs := [.int 0, .null, .null, .null, .null, .int 0, .null, .null, .null, .null, .null, .int 0, .null, .null, .null, .null, .null, .long 0, .null, .null, .long 0, .int 0, .long 0, .null, .null, .long 0, .int 0, .long 0, .null, .null, .long 0, .null, .null, .null]) (hC _) hA u_M t_M t_M_ok k_424 k_425 k_6 rfl (by decide) (Nat.le_of_ble_eq_true rfl) (Nat.le_of_ble_eq_true rfl) d_L_8 (q := 11) rfl (fun q2 => ?_)
    refine z_dup rfl (hC _) d_L_11 (q := 12) rfl ?_
    refine z_callI (z := 100) (hC _) hAO hA (c_M_init _ _ q2) k_428 k_426 k_427 k_6 rfl h_M_init ⟨Nat.le_of_ble_eq_true rfl, Nat.le_of_ble_eq_true rfl⟩ ⟨Nat.le_of_ble_eq_true rfl, Nat.le_of_ble_eq_true rfl⟩ (Nat.le_of_ble_eq_true rfl) d_L_12 (q := 15) rfl (fun uM eM => ?_)
    subst eM
    refine z_astore_n (lv' := [(2, .ref (uM 100)), (1, .ref (uN 0)), (0, .ref b)]) rfl (by decide) rfl (hC _) d_L_15 (q := 16) rfl ?_
    refine z_iconst (v := (0 : Int32)) (by decide) (hC _) d_L_16 (q := 17) rfl ?_
    refine z_istore_n (lv' := [(3, .int 0), (2, .ref (uM 100)), (1, .ref (uN 0)), (0, .ref b)]) rfl (by decide) rfl (hC _) d_L_17 (q := 18) rfl ?_
    refine z_sub [3, 2, 1, 0] rfl ?_
    refine z_world (w' := wN (D, E, fun k => if k < 100 then uN k else uM k) z_S0 ++ wM (D, E, fun k => if k < 100 then uN k else uM k) z_M0) (by
      rw [wN_congr (a := fun k => if k < 100 then uN k else uM k) (b := uN) (fun k hk => if_pos hk)]
      rfl) ?_
    have g := wl_loop (X := (p, l, e, room_1, s, m, #[Value.ref b], below, meth, c)) (Ω := (D, E, fun k => if k < 100 then uN k else uM k)) (k := 70) (n := 577) (hC _) hA hXs hRm (by decide) (by decide) (fun q h => h) hLX hL hs (L + 1) 0 z_S0 z_M0 (by omega) (by omega) h0
    exact g
  have hl := lv_entry [.ref b] (n := 4) (Nat.le_of_ble_eq_true rfl)
  rw [lg_entry_eq]
  exact goal s.heap [] _ (fun i q hq => by simp at hq) ⟨fun i j x y hi _ _ => by simp at hi, fun i x hi => by simp at hi⟩ va_S.rf hl
