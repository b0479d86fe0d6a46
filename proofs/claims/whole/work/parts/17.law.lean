section LAWROWS
variable {ρ : Type} {X : CX} {p : Program} {l : Launch} {e : Env} {R : Room} {s : State} {m : MethodId} {below : List Frame} {meth : Method} {c : Code} {cc : ByteArray} {own : String} {nL ck sk : Nat} {Qf : ρ → Mem → State → Prop} {pc : Nat} {ls : List (Nat × Value)} {rest : List Value} {σ : Mem} {o : Option (ρ × Mem)} {b L : Nat} {xs : Nat → Int32}
theorem g_slen {args : Array Value} (F : FR p s m args c cc nL own X) (hX : va_X b L xs s s.heap) (hbl : b < s.heap.size) (hbA : ¬ xA X b) (d : decode cc pc = .ok (.arraylength, 1))
    (k : G X p l e R s m args below meth c nL ck sk Qf (pc + 1) ls (.int (nI L) :: rest) σ o) : G X p l e R s m args below meth c nL ck sk Qf pc ls (.ref b :: rest) σ o :=
  fun r σ' ho H locs la hR hS hl => va_slen F.1 F.2.1 hX hbl hbA hS d (k r σ' ho H locs la hR hS hl)
theorem g_sld {args : Array Value} (F : FR p s m args c cc nL own X) (hX : va_X b L xs s s.heap) (hbl : b < s.heap.size) (hbA : ¬ xA X b) {i : Int32} (d : decode cc pc = .ok (.iaload, 1))
    (k : G X p l e R s m args below meth c nL ck sk Qf (pc + 1) ls (.int (xs i.toNatClampNeg) :: rest) σ o) : G X p l e R s m args below meth c nL ck sk Qf pc ls (.int i :: .ref b :: rest) σ (if ib i L then o else none) :=
  g_gd (fun hib r σ' ho H locs la hR hS hl => va_sld F.1 F.2.1 hX hbl hbA hS (vp_in_iff.mpr hib) d (k r σ' ho H locs la hR hS hl))
theorem g_lawend (F : FR p s m #[Value.ref b] c code nL own X) (hlk : meth.locks = false) (hr : meth.sig.returnType = ret) (hA2 : ∀ q, xA X q → s.heap.size ≤ q) (h1 : ck ≤ 600000) (h2 : sk ≤ 7302250) (d : decode code pc = .ok (.ireturn, 1)) : G X p l e room_1 s m #[Value.ref b] below meth c nL ck sk (fun (_ : Unit) (_ : Mem) => lw_Z below #[Value.ref b] s) pc ls [.int 1] σ (some ((), σ)) :=
  fun r σ' ho H locs la hR hS hl => va_forget (fun q hq => hA2 _ (hS.2.2 q hq)) (W.widen (k := 600000) (n := 7302250) h1 h2 (lw_ret F.1 F.2.1 hr hlk d))
end LAWROWS
theorem d_law_0 : decode code 0 = .ok (.new 7, 3) := by decide +kernel
theorem d_law_3 : decode code 3 = .ok (.dup, 1) := by decide +kernel
theorem d_law_4 : decode code 4 = .ok (.invokespecial 9, 3) := by decide +kernel
theorem d_law_7 : decode code 7 = .ok (.astore_n 1, 1) := by decide +kernel
theorem d_law_8 : decode code 8 = .ok (.new 10, 3) := by decide +kernel
theorem d_law_11 : decode code 11 = .ok (.dup, 1) := by decide +kernel
theorem d_law_12 : decode code 12 = .ok (.invokespecial 12, 3) := by decide +kernel
theorem d_law_15 : decode code 15 = .ok (.astore_n 2, 1) := by decide +kernel
theorem d_law_16 : decode code 16 = .ok (.iconst 0, 1) := by decide +kernel
theorem d_law_17 : decode code 17 = .ok (.istore_n 3, 1) := by decide +kernel
theorem d_law_18 : decode code 18 = .ok (.iload_n 3, 1) := by decide +kernel
theorem d_law_19 : decode code 19 = .ok (.aload_n 0, 1) := by decide +kernel
theorem d_law_20 : decode code 20 = .ok (.arraylength, 1) := by decide +kernel
theorem d_law_21 : decode code 21 = .ok (.bipush 7, 2) := by decide +kernel
theorem d_law_23 : decode code 23 = .ok (.isub, 1) := by decide +kernel
theorem d_law_24 : decode code 24 = .ok (.if_icmp .gt 746, 3) := by decide +kernel
theorem d_law_27 : decode code 27 = .ok (.aload_n 0, 1) := by decide +kernel
theorem d_law_28 : decode code 28 = .ok (.iload_n 3, 1) := by decide +kernel
theorem d_law_29 : decode code 29 = .ok (.iaload, 1) := by decide +kernel
theorem d_law_30 : decode code 30 = .ok (.bipush 31, 2) := by decide +kernel
theorem d_law_32 : decode code 32 = .ok (.iand, 1) := by decide +kernel
theorem d_law_33 : decode code 33 = .ok (.tableswitch 731 0 21 #[103, 178, 221, 264, 307, 330, 353, 376, 389, 402, 425, 438, 451, 474, 497, 530, 563, 596, 639, 652, 685, 708], 103) := by decide +kernel
theorem d_law_136 : decode code 136 = .ok (.aload_n 1, 1) := by decide +kernel
theorem d_law_137 : decode code 137 = .ok (.aload_n 0, 1) := by decide +kernel
theorem d_law_138 : decode code 138 = .ok (.iload_n 3, 1) := by decide +kernel
theorem d_law_139 : decode code 139 = .ok (.iconst 1, 1) := by decide +kernel
theorem d_law_140 : decode code 140 = .ok (.iadd, 1) := by decide +kernel
theorem d_law_141 : decode code 141 = .ok (.iaload, 1) := by decide +kernel
theorem d_law_142 : decode code 142 = .ok (.aload_n 0, 1) := by decide +kernel
theorem d_law_143 : decode code 143 = .ok (.iload_n 3, 1) := by decide +kernel
theorem d_law_144 : decode code 144 = .ok (.iconst 2, 1) := by decide +kernel
theorem d_law_145 : decode code 145 = .ok (.iadd, 1) := by decide +kernel
theorem d_law_146 : decode code 146 = .ok (.iaload, 1) := by decide +kernel
theorem d_law_147 : decode code 147 = .ok (.aload_n 0, 1) := by decide +kernel
theorem d_law_148 : decode code 148 = .ok (.iload_n 3, 1) := by decide +kernel
theorem d_law_149 : decode code 149 = .ok (.iconst 3, 1) := by decide +kernel
theorem d_law_150 : decode code 150 = .ok (.iadd, 1) := by decide +kernel
theorem d_law_151 : decode code 151 = .ok (.iaload, 1) := by decide +kernel
theorem d_law_152 : decode code 152 = .ok (.aload_n 0, 1) := by decide +kernel
theorem d_law_153 : decode code 153 = .ok (.iload_n 3, 1) := by decide +kernel
theorem d_law_154 : decode code 154 = .ok (.iconst 4, 1) := by decide +kernel
theorem d_law_155 : decode code 155 = .ok (.iadd, 1) := by decide +kernel
theorem d_law_156 : decode code 156 = .ok (.iaload, 1) := by decide +kernel
theorem d_law_157 : decode code 157 = .ok (.aload_n 0, 1) := by decide +kernel
theorem d_law_158 : decode code 158 = .ok (.iload_n 3, 1) := by decide +kernel
theorem d_law_159 : decode code 159 = .ok (.iconst 5, 1) := by decide +kernel
theorem d_law_160 : decode code 160 = .ok (.iadd, 1) := by decide +kernel
theorem d_law_161 : decode code 161 = .ok (.iaload, 1) := by decide +kernel
theorem d_law_162 : decode code 162 = .ok (.aload_n 0, 1) := by decide +kernel
theorem d_law_163 : decode code 163 = .ok (.iload_n 3, 1) := by decide +kernel
theorem d_law_164 : decode code 164 = .ok (.bipush 6, 2) := by decide +kernel
theorem d_law_166 : decode code 166 = .ok (.iadd, 1) := by decide +kernel
theorem d_law_167 : decode code 167 = .ok (.iaload, 1) := by decide +kernel
theorem d_law_168 : decode code 168 = .ok (.invokevirtual 13, 3) := by decide +kernel
theorem d_law_171 : decode code 171 = .ok (.aload_n 2, 1) := by decide +kernel
theorem d_law_172 : decode code 172 = .ok (.aload_n 0, 1) := by decide +kernel
theorem d_law_173 : decode code 173 = .ok (.iload_n 3, 1) := by decide +kernel
theorem d_law_174 : decode code 174 = .ok (.iconst 1, 1) := by decide +kernel
theorem d_law_175 : decode code 175 = .ok (.iadd, 1) := by decide +kernel
theorem d_law_176 : decode code 176 = .ok (.iaload, 1) := by decide +kernel
theorem d_law_177 : decode code 177 = .ok (.aload_n 0, 1) := by decide +kernel
theorem d_law_178 : decode code 178 = .ok (.iload_n 3, 1) := by decide +kernel
theorem d_law_179 : decode code 179 = .ok (.iconst 2, 1) := by decide +kernel
theorem d_law_180 : decode code 180 = .ok (.iadd, 1) := by decide +kernel
theorem d_law_181 : decode code 181 = .ok (.iaload, 1) := by decide +kernel
theorem d_law_182 : decode code 182 = .ok (.aload_n 0, 1) := by decide +kernel
theorem d_law_183 : decode code 183 = .ok (.iload_n 3, 1) := by decide +kernel
theorem d_law_184 : decode code 184 = .ok (.iconst 3, 1) := by decide +kernel
theorem d_law_185 : decode code 185 = .ok (.iadd, 1) := by decide +kernel
theorem d_law_186 : decode code 186 = .ok (.iaload, 1) := by decide +kernel
theorem d_law_187 : decode code 187 = .ok (.aload_n 0, 1) := by decide +kernel
theorem d_law_188 : decode code 188 = .ok (.iload_n 3, 1) := by decide +kernel
theorem d_law_189 : decode code 189 = .ok (.iconst 4, 1) := by decide +kernel
theorem d_law_190 : decode code 190 = .ok (.iadd, 1) := by decide +kernel
theorem d_law_191 : decode code 191 = .ok (.iaload, 1) := by decide +kernel
theorem d_law_192 : decode code 192 = .ok (.aload_n 0, 1) := by decide +kernel
theorem d_law_193 : decode code 193 = .ok (.iload_n 3, 1) := by decide +kernel
theorem d_law_194 : decode code 194 = .ok (.iconst 5, 1) := by decide +kernel
theorem d_law_195 : decode code 195 = .ok (.iadd, 1) := by decide +kernel
theorem d_law_196 : decode code 196 = .ok (.iaload, 1) := by decide +kernel
theorem d_law_197 : decode code 197 = .ok (.aload_n 0, 1) := by decide +kernel
theorem d_law_198 : decode code 198 = .ok (.iload_n 3, 1) := by decide +kernel
theorem d_law_199 : decode code 199 = .ok (.bipush 6, 2) := by decide +kernel
theorem d_law_201 : decode code 201 = .ok (.iadd, 1) := by decide +kernel
theorem d_law_202 : decode code 202 = .ok (.iaload, 1) := by decide +kernel
theorem d_law_203 : decode code 203 = .ok (.invokevirtual 17, 3) := by decide +kernel
theorem d_law_206 : decode code 206 = .ok (.if_icmp .eq 558, 3) := by decide +kernel
theorem d_law_209 : decode code 209 = .ok (.iconst 0, 1) := by decide +kernel
theorem d_law_210 : decode code 210 = .ok (.ireturn, 1) := by decide +kernel
theorem d_law_211 : decode code 211 = .ok (.aload_n 1, 1) := by decide +kernel
theorem d_law_212 : decode code 212 = .ok (.aload_n 0, 1) := by decide +kernel
theorem d_law_213 : decode code 213 = .ok (.iload_n 3, 1) := by decide +kernel
theorem d_law_214 : decode code 214 = .ok (.iconst 1, 1) := by decide +kernel
theorem d_law_215 : decode code 215 = .ok (.iadd, 1) := by decide +kernel
theorem d_law_216 : decode code 216 = .ok (.iaload, 1) := by decide +kernel
theorem d_law_217 : decode code 217 = .ok (.aload_n 0, 1) := by decide +kernel
theorem d_law_218 : decode code 218 = .ok (.iload_n 3, 1) := by decide +kernel
theorem d_law_219 : decode code 219 = .ok (.iconst 2, 1) := by decide +kernel
theorem d_law_220 : decode code 220 = .ok (.iadd, 1) := by decide +kernel
theorem d_law_221 : decode code 221 = .ok (.iaload, 1) := by decide +kernel
theorem d_law_222 : decode code 222 = .ok (.aload_n 0, 1) := by decide +kernel
theorem d_law_223 : decode code 223 = .ok (.iload_n 3, 1) := by decide +kernel
theorem d_law_224 : decode code 224 = .ok (.iconst 3, 1) := by decide +kernel
theorem d_law_225 : decode code 225 = .ok (.iadd, 1) := by decide +kernel
theorem d_law_226 : decode code 226 = .ok (.iaload, 1) := by decide +kernel
theorem d_law_227 : decode code 227 = .ok (.invokevirtual 18, 3) := by decide +kernel
theorem d_law_230 : decode code 230 = .ok (.aload_n 2, 1) := by decide +kernel
theorem d_law_231 : decode code 231 = .ok (.aload_n 0, 1) := by decide +kernel
theorem d_law_232 : decode code 232 = .ok (.iload_n 3, 1) := by decide +kernel
theorem d_law_233 : decode code 233 = .ok (.iconst 1, 1) := by decide +kernel
theorem d_law_234 : decode code 234 = .ok (.iadd, 1) := by decide +kernel
theorem d_law_235 : decode code 235 = .ok (.iaload, 1) := by decide +kernel
theorem d_law_236 : decode code 236 = .ok (.aload_n 0, 1) := by decide +kernel
theorem d_law_237 : decode code 237 = .ok (.iload_n 3, 1) := by decide +kernel
theorem d_law_238 : decode code 238 = .ok (.iconst 2, 1) := by decide +kernel
theorem d_law_239 : decode code 239 = .ok (.iadd, 1) := by decide +kernel
theorem d_law_240 : decode code 240 = .ok (.iaload, 1) := by decide +kernel
theorem d_law_241 : decode code 241 = .ok (.aload_n 0, 1) := by decide +kernel
theorem d_law_242 : decode code 242 = .ok (.iload_n 3, 1) := by decide +kernel
theorem d_law_243 : decode code 243 = .ok (.iconst 3, 1) := by decide +kernel
theorem d_law_244 : decode code 244 = .ok (.iadd, 1) := by decide +kernel
theorem d_law_245 : decode code 245 = .ok (.iaload, 1) := by decide +kernel
theorem d_law_246 : decode code 246 = .ok (.invokevirtual 22, 3) := by decide +kernel
theorem d_law_249 : decode code 249 = .ok (.if_icmp .eq 515, 3) := by decide +kernel
theorem d_law_252 : decode code 252 = .ok (.iconst 0, 1) := by decide +kernel
theorem d_law_253 : decode code 253 = .ok (.ireturn, 1) := by decide +kernel
theorem d_law_254 : decode code 254 = .ok (.aload_n 1, 1) := by decide +kernel
theorem d_law_255 : decode code 255 = .ok (.aload_n 0, 1) := by decide +kernel
theorem d_law_256 : decode code 256 = .ok (.iload_n 3, 1) := by decide +kernel
theorem d_law_257 : decode code 257 = .ok (.iconst 1, 1) := by decide +kernel
theorem d_law_258 : decode code 258 = .ok (.iadd, 1) := by decide +kernel
theorem d_law_259 : decode code 259 = .ok (.iaload, 1) := by decide +kernel
theorem d_law_260 : decode code 260 = .ok (.aload_n 0, 1) := by decide +kernel
theorem d_law_261 : decode code 261 = .ok (.iload_n 3, 1) := by decide +kernel
theorem d_law_262 : decode code 262 = .ok (.iconst 2, 1) := by decide +kernel
theorem d_law_263 : decode code 263 = .ok (.iadd, 1) := by decide +kernel
theorem d_law_264 : decode code 264 = .ok (.iaload, 1) := by decide +kernel
theorem d_law_265 : decode code 265 = .ok (.aload_n 0, 1) := by decide +kernel
theorem d_law_266 : decode code 266 = .ok (.iload_n 3, 1) := by decide +kernel
theorem d_law_267 : decode code 267 = .ok (.iconst 3, 1) := by decide +kernel
theorem d_law_268 : decode code 268 = .ok (.iadd, 1) := by decide +kernel
theorem d_law_269 : decode code 269 = .ok (.iaload, 1) := by decide +kernel
theorem d_law_270 : decode code 270 = .ok (.invokevirtual 23, 3) := by decide +kernel
theorem d_law_273 : decode code 273 = .ok (.aload_n 2, 1) := by decide +kernel
theorem d_law_274 : decode code 274 = .ok (.aload_n 0, 1) := by decide +kernel
theorem d_law_275 : decode code 275 = .ok (.iload_n 3, 1) := by decide +kernel
theorem d_law_276 : decode code 276 = .ok (.iconst 1, 1) := by decide +kernel
theorem d_law_277 : decode code 277 = .ok (.iadd, 1) := by decide +kernel
theorem d_law_278 : decode code 278 = .ok (.iaload, 1) := by decide +kernel
theorem d_law_279 : decode code 279 = .ok (.aload_n 0, 1) := by decide +kernel
theorem d_law_280 : decode code 280 = .ok (.iload_n 3, 1) := by decide +kernel
theorem d_law_281 : decode code 281 = .ok (.iconst 2, 1) := by decide +kernel
theorem d_law_282 : decode code 282 = .ok (.iadd, 1) := by decide +kernel
theorem d_law_283 : decode code 283 = .ok (.iaload, 1) := by decide +kernel
theorem d_law_284 : decode code 284 = .ok (.aload_n 0, 1) := by decide +kernel
theorem d_law_285 : decode code 285 = .ok (.iload_n 3, 1) := by decide +kernel
theorem d_law_286 : decode code 286 = .ok (.iconst 3, 1) := by decide +kernel
theorem d_law_287 : decode code 287 = .ok (.iadd, 1) := by decide +kernel
theorem d_law_288 : decode code 288 = .ok (.iaload, 1) := by decide +kernel
theorem d_law_289 : decode code 289 = .ok (.invokevirtual 26, 3) := by decide +kernel
theorem d_law_292 : decode code 292 = .ok (.if_icmp .eq 472, 3) := by decide +kernel
theorem d_law_295 : decode code 295 = .ok (.iconst 0, 1) := by decide +kernel
theorem d_law_296 : decode code 296 = .ok (.ireturn, 1) := by decide +kernel
theorem d_law_297 : decode code 297 = .ok (.aload_n 1, 1) := by decide +kernel
theorem d_law_298 : decode code 298 = .ok (.aload_n 0, 1) := by decide +kernel
theorem d_law_299 : decode code 299 = .ok (.iload_n 3, 1) := by decide +kernel
theorem d_law_300 : decode code 300 = .ok (.iconst 1, 1) := by decide +kernel
theorem d_law_301 : decode code 301 = .ok (.iadd, 1) := by decide +kernel
theorem d_law_302 : decode code 302 = .ok (.iaload, 1) := by decide +kernel
theorem d_law_303 : decode code 303 = .ok (.aload_n 0, 1) := by decide +kernel
theorem d_law_304 : decode code 304 = .ok (.iload_n 3, 1) := by decide +kernel
theorem d_law_305 : decode code 305 = .ok (.iconst 2, 1) := by decide +kernel
theorem d_law_306 : decode code 306 = .ok (.iadd, 1) := by decide +kernel
theorem d_law_307 : decode code 307 = .ok (.iaload, 1) := by decide +kernel
theorem d_law_308 : decode code 308 = .ok (.aload_n 0, 1) := by decide +kernel
theorem d_law_309 : decode code 309 = .ok (.iload_n 3, 1) := by decide +kernel
theorem d_law_310 : decode code 310 = .ok (.iconst 3, 1) := by decide +kernel
theorem d_law_311 : decode code 311 = .ok (.iadd, 1) := by decide +kernel
theorem d_law_312 : decode code 312 = .ok (.iaload, 1) := by decide +kernel
theorem d_law_313 : decode code 313 = .ok (.invokevirtual 27, 3) := by decide +kernel
theorem d_law_316 : decode code 316 = .ok (.aload_n 2, 1) := by decide +kernel
theorem d_law_317 : decode code 317 = .ok (.aload_n 0, 1) := by decide +kernel
theorem d_law_318 : decode code 318 = .ok (.iload_n 3, 1) := by decide +kernel
theorem d_law_319 : decode code 319 = .ok (.iconst 1, 1) := by decide +kernel
theorem d_law_320 : decode code 320 = .ok (.iadd, 1) := by decide +kernel
theorem d_law_321 : decode code 321 = .ok (.iaload, 1) := by decide +kernel
theorem d_law_322 : decode code 322 = .ok (.aload_n 0, 1) := by decide +kernel
theorem d_law_323 : decode code 323 = .ok (.iload_n 3, 1) := by decide +kernel
theorem d_law_324 : decode code 324 = .ok (.iconst 2, 1) := by decide +kernel
theorem d_law_325 : decode code 325 = .ok (.iadd, 1) := by decide +kernel
theorem d_law_326 : decode code 326 = .ok (.iaload, 1) := by decide +kernel
theorem d_law_327 : decode code 327 = .ok (.aload_n 0, 1) := by decide +kernel
theorem d_law_328 : decode code 328 = .ok (.iload_n 3, 1) := by decide +kernel
theorem d_law_329 : decode code 329 = .ok (.iconst 3, 1) := by decide +kernel
theorem d_law_330 : decode code 330 = .ok (.iadd, 1) := by decide +kernel
theorem d_law_331 : decode code 331 = .ok (.iaload, 1) := by decide +kernel
theorem d_law_332 : decode code 332 = .ok (.invokevirtual 30, 3) := by decide +kernel
theorem d_law_335 : decode code 335 = .ok (.if_icmp .eq 429, 3) := by decide +kernel
theorem d_law_338 : decode code 338 = .ok (.iconst 0, 1) := by decide +kernel
theorem d_law_339 : decode code 339 = .ok (.ireturn, 1) := by decide +kernel
theorem d_law_340 : decode code 340 = .ok (.aload_n 1, 1) := by decide +kernel
theorem d_law_341 : decode code 341 = .ok (.aload_n 0, 1) := by decide +kernel
theorem d_law_342 : decode code 342 = .ok (.iload_n 3, 1) := by decide +kernel
theorem d_law_343 : decode code 343 = .ok (.iconst 1, 1) := by decide +kernel
theorem d_law_344 : decode code 344 = .ok (.iadd, 1) := by decide +kernel
theorem d_law_345 : decode code 345 = .ok (.iaload, 1) := by decide +kernel
theorem d_law_346 : decode code 346 = .ok (.invokevirtual 31, 3) := by decide +kernel
theorem d_law_349 : decode code 349 = .ok (.aload_n 2, 1) := by decide +kernel
theorem d_law_350 : decode code 350 = .ok (.aload_n 0, 1) := by decide +kernel
theorem d_law_351 : decode code 351 = .ok (.iload_n 3, 1) := by decide +kernel
theorem d_law_352 : decode code 352 = .ok (.iconst 1, 1) := by decide +kernel
theorem d_law_353 : decode code 353 = .ok (.iadd, 1) := by decide +kernel
theorem d_law_354 : decode code 354 = .ok (.iaload, 1) := by decide +kernel
theorem d_law_355 : decode code 355 = .ok (.invokevirtual 35, 3) := by decide +kernel
theorem d_law_358 : decode code 358 = .ok (.if_icmp .eq 406, 3) := by decide +kernel
theorem d_law_361 : decode code 361 = .ok (.iconst 0, 1) := by decide +kernel
theorem d_law_362 : decode code 362 = .ok (.ireturn, 1) := by decide +kernel
theorem d_law_363 : decode code 363 = .ok (.aload_n 1, 1) := by decide +kernel
theorem d_law_364 : decode code 364 = .ok (.aload_n 0, 1) := by decide +kernel
theorem d_law_365 : decode code 365 = .ok (.iload_n 3, 1) := by decide +kernel
theorem d_law_366 : decode code 366 = .ok (.iconst 1, 1) := by decide +kernel
theorem d_law_367 : decode code 367 = .ok (.iadd, 1) := by decide +kernel
theorem d_law_368 : decode code 368 = .ok (.iaload, 1) := by decide +kernel
theorem d_law_369 : decode code 369 = .ok (.invokevirtual 36, 3) := by decide +kernel
theorem d_law_372 : decode code 372 = .ok (.aload_n 2, 1) := by decide +kernel
theorem d_law_373 : decode code 373 = .ok (.aload_n 0, 1) := by decide +kernel
theorem d_law_374 : decode code 374 = .ok (.iload_n 3, 1) := by decide +kernel
theorem d_law_375 : decode code 375 = .ok (.iconst 1, 1) := by decide +kernel
theorem d_law_376 : decode code 376 = .ok (.iadd, 1) := by decide +kernel
theorem d_law_377 : decode code 377 = .ok (.iaload, 1) := by decide +kernel
theorem d_law_378 : decode code 378 = .ok (.invokevirtual 39, 3) := by decide +kernel
theorem d_law_381 : decode code 381 = .ok (.if_icmp .eq 383, 3) := by decide +kernel
theorem d_law_384 : decode code 384 = .ok (.iconst 0, 1) := by decide +kernel
theorem d_law_385 : decode code 385 = .ok (.ireturn, 1) := by decide +kernel
theorem d_law_386 : decode code 386 = .ok (.aload_n 1, 1) := by decide +kernel
theorem d_law_387 : decode code 387 = .ok (.aload_n 0, 1) := by decide +kernel
theorem d_law_388 : decode code 388 = .ok (.iload_n 3, 1) := by decide +kernel
theorem d_law_389 : decode code 389 = .ok (.iconst 1, 1) := by decide +kernel
theorem d_law_390 : decode code 390 = .ok (.iadd, 1) := by decide +kernel
theorem d_law_391 : decode code 391 = .ok (.iaload, 1) := by decide +kernel
theorem d_law_392 : decode code 392 = .ok (.invokevirtual 40, 3) := by decide +kernel
theorem d_law_395 : decode code 395 = .ok (.aload_n 2, 1) := by decide +kernel
theorem d_law_396 : decode code 396 = .ok (.aload_n 0, 1) := by decide +kernel
theorem d_law_397 : decode code 397 = .ok (.iload_n 3, 1) := by decide +kernel
theorem d_law_398 : decode code 398 = .ok (.iconst 1, 1) := by decide +kernel
theorem d_law_399 : decode code 399 = .ok (.iadd, 1) := by decide +kernel
theorem d_law_400 : decode code 400 = .ok (.iaload, 1) := by decide +kernel
theorem d_law_401 : decode code 401 = .ok (.invokevirtual 43, 3) := by decide +kernel
theorem d_law_404 : decode code 404 = .ok (.if_icmp .eq 360, 3) := by decide +kernel
theorem d_law_407 : decode code 407 = .ok (.iconst 0, 1) := by decide +kernel
theorem d_law_408 : decode code 408 = .ok (.ireturn, 1) := by decide +kernel
theorem d_law_409 : decode code 409 = .ok (.aload_n 1, 1) := by decide +kernel
theorem d_law_410 : decode code 410 = .ok (.invokevirtual 44, 3) := by decide +kernel
theorem d_law_413 : decode code 413 = .ok (.aload_n 2, 1) := by decide +kernel
theorem d_law_414 : decode code 414 = .ok (.invokevirtual 48, 3) := by decide +kernel
theorem d_law_417 : decode code 417 = .ok (.if_icmp .eq 347, 3) := by decide +kernel
theorem d_law_420 : decode code 420 = .ok (.iconst 0, 1) := by decide +kernel
theorem d_law_421 : decode code 421 = .ok (.ireturn, 1) := by decide +kernel
theorem d_law_422 : decode code 422 = .ok (.aload_n 1, 1) := by decide +kernel
theorem d_law_423 : decode code 423 = .ok (.invokevirtual 49, 3) := by decide +kernel
theorem d_law_426 : decode code 426 = .ok (.aload_n 2, 1) := by decide +kernel
theorem d_law_427 : decode code 427 = .ok (.invokevirtual 52, 3) := by decide +kernel
theorem d_law_430 : decode code 430 = .ok (.if_icmp .eq 334, 3) := by decide +kernel
theorem d_law_433 : decode code 433 = .ok (.iconst 0, 1) := by decide +kernel
theorem d_law_434 : decode code 434 = .ok (.ireturn, 1) := by decide +kernel
theorem d_law_435 : decode code 435 = .ok (.aload_n 1, 1) := by decide +kernel
theorem d_law_436 : decode code 436 = .ok (.aload_n 0, 1) := by decide +kernel
theorem d_law_437 : decode code 437 = .ok (.iload_n 3, 1) := by decide +kernel
theorem d_law_438 : decode code 438 = .ok (.iconst 1, 1) := by decide +kernel
theorem d_law_439 : decode code 439 = .ok (.iadd, 1) := by decide +kernel
theorem d_law_440 : decode code 440 = .ok (.iaload, 1) := by decide +kernel
theorem d_law_441 : decode code 441 = .ok (.invokevirtual 53, 3) := by decide +kernel
theorem d_law_444 : decode code 444 = .ok (.aload_n 2, 1) := by decide +kernel
theorem d_law_445 : decode code 445 = .ok (.aload_n 0, 1) := by decide +kernel
theorem d_law_446 : decode code 446 = .ok (.iload_n 3, 1) := by decide +kernel
theorem d_law_447 : decode code 447 = .ok (.iconst 1, 1) := by decide +kernel
theorem d_law_448 : decode code 448 = .ok (.iadd, 1) := by decide +kernel
theorem d_law_449 : decode code 449 = .ok (.iaload, 1) := by decide +kernel
theorem d_law_450 : decode code 450 = .ok (.invokevirtual 56, 3) := by decide +kernel
theorem d_law_453 : decode code 453 = .ok (.if_icmp .eq 311, 3) := by decide +kernel
theorem d_law_456 : decode code 456 = .ok (.iconst 0, 1) := by decide +kernel
theorem d_law_457 : decode code 457 = .ok (.ireturn, 1) := by decide +kernel
theorem d_law_458 : decode code 458 = .ok (.aload_n 1, 1) := by decide +kernel
theorem d_law_459 : decode code 459 = .ok (.invokevirtual 57, 3) := by decide +kernel
theorem d_law_462 : decode code 462 = .ok (.aload_n 2, 1) := by decide +kernel
theorem d_law_463 : decode code 463 = .ok (.invokevirtual 60, 3) := by decide +kernel
theorem d_law_466 : decode code 466 = .ok (.if_icmp .eq 298, 3) := by decide +kernel
theorem d_law_469 : decode code 469 = .ok (.iconst 0, 1) := by decide +kernel
theorem d_law_470 : decode code 470 = .ok (.ireturn, 1) := by decide +kernel
theorem d_law_471 : decode code 471 = .ok (.aload_n 1, 1) := by decide +kernel
theorem d_law_472 : decode code 472 = .ok (.invokevirtual 61, 3) := by decide +kernel
theorem d_law_475 : decode code 475 = .ok (.aload_n 2, 1) := by decide +kernel
theorem d_law_476 : decode code 476 = .ok (.invokevirtual 64, 3) := by decide +kernel
theorem d_law_479 : decode code 479 = .ok (.if_icmp .eq 285, 3) := by decide +kernel
theorem d_law_482 : decode code 482 = .ok (.iconst 0, 1) := by decide +kernel
theorem d_law_483 : decode code 483 = .ok (.ireturn, 1) := by decide +kernel
theorem d_law_484 : decode code 484 = .ok (.aload_n 1, 1) := by decide +kernel
theorem d_law_485 : decode code 485 = .ok (.aload_n 0, 1) := by decide +kernel
theorem d_law_486 : decode code 486 = .ok (.iload_n 3, 1) := by decide +kernel
theorem d_law_487 : decode code 487 = .ok (.iconst 1, 1) := by decide +kernel
theorem d_law_488 : decode code 488 = .ok (.iadd, 1) := by decide +kernel
theorem d_law_489 : decode code 489 = .ok (.iaload, 1) := by decide +kernel
theorem d_law_490 : decode code 490 = .ok (.invokevirtual 65, 3) := by decide +kernel
theorem d_law_493 : decode code 493 = .ok (.aload_n 2, 1) := by decide +kernel
theorem d_law_494 : decode code 494 = .ok (.aload_n 0, 1) := by decide +kernel
theorem d_law_495 : decode code 495 = .ok (.iload_n 3, 1) := by decide +kernel
theorem d_law_496 : decode code 496 = .ok (.iconst 1, 1) := by decide +kernel
theorem d_law_497 : decode code 497 = .ok (.iadd, 1) := by decide +kernel
theorem d_law_498 : decode code 498 = .ok (.iaload, 1) := by decide +kernel
theorem d_law_499 : decode code 499 = .ok (.invokevirtual 68, 3) := by decide +kernel
theorem d_law_502 : decode code 502 = .ok (.if_icmp .eq 262, 3) := by decide +kernel
theorem d_law_505 : decode code 505 = .ok (.iconst 0, 1) := by decide +kernel
theorem d_law_506 : decode code 506 = .ok (.ireturn, 1) := by decide +kernel
theorem d_law_507 : decode code 507 = .ok (.aload_n 1, 1) := by decide +kernel
theorem d_law_508 : decode code 508 = .ok (.aload_n 0, 1) := by decide +kernel
theorem d_law_509 : decode code 509 = .ok (.iload_n 3, 1) := by decide +kernel
theorem d_law_510 : decode code 510 = .ok (.iconst 1, 1) := by decide +kernel
theorem d_law_511 : decode code 511 = .ok (.iadd, 1) := by decide +kernel
theorem d_law_512 : decode code 512 = .ok (.iaload, 1) := by decide +kernel
theorem d_law_513 : decode code 513 = .ok (.invokevirtual 69, 3) := by decide +kernel
theorem d_law_516 : decode code 516 = .ok (.aload_n 2, 1) := by decide +kernel
theorem d_law_517 : decode code 517 = .ok (.aload_n 0, 1) := by decide +kernel
theorem d_law_518 : decode code 518 = .ok (.iload_n 3, 1) := by decide +kernel
theorem d_law_519 : decode code 519 = .ok (.iconst 1, 1) := by decide +kernel
theorem d_law_520 : decode code 520 = .ok (.iadd, 1) := by decide +kernel
theorem d_law_521 : decode code 521 = .ok (.iaload, 1) := by decide +kernel
theorem d_law_522 : decode code 522 = .ok (.invokevirtual 72, 3) := by decide +kernel
theorem d_law_525 : decode code 525 = .ok (.if_icmp .eq 239, 3) := by decide +kernel
theorem d_law_528 : decode code 528 = .ok (.iconst 0, 1) := by decide +kernel
theorem d_law_529 : decode code 529 = .ok (.ireturn, 1) := by decide +kernel
theorem d_law_530 : decode code 530 = .ok (.aload_n 1, 1) := by decide +kernel
theorem d_law_531 : decode code 531 = .ok (.aload_n 0, 1) := by decide +kernel
theorem d_law_532 : decode code 532 = .ok (.iload_n 3, 1) := by decide +kernel
theorem d_law_533 : decode code 533 = .ok (.iconst 1, 1) := by decide +kernel
theorem d_law_534 : decode code 534 = .ok (.iadd, 1) := by decide +kernel
theorem d_law_535 : decode code 535 = .ok (.iaload, 1) := by decide +kernel
theorem d_law_536 : decode code 536 = .ok (.aload_n 0, 1) := by decide +kernel
theorem d_law_537 : decode code 537 = .ok (.iload_n 3, 1) := by decide +kernel
theorem d_law_538 : decode code 538 = .ok (.iconst 2, 1) := by decide +kernel
theorem d_law_539 : decode code 539 = .ok (.iadd, 1) := by decide +kernel
theorem d_law_540 : decode code 540 = .ok (.iaload, 1) := by decide +kernel
theorem d_law_541 : decode code 541 = .ok (.invokevirtual 73, 3) := by decide +kernel
theorem d_law_544 : decode code 544 = .ok (.aload_n 2, 1) := by decide +kernel
theorem d_law_545 : decode code 545 = .ok (.aload_n 0, 1) := by decide +kernel
theorem d_law_546 : decode code 546 = .ok (.iload_n 3, 1) := by decide +kernel
theorem d_law_547 : decode code 547 = .ok (.iconst 1, 1) := by decide +kernel
theorem d_law_548 : decode code 548 = .ok (.iadd, 1) := by decide +kernel
theorem d_law_549 : decode code 549 = .ok (.iaload, 1) := by decide +kernel
theorem d_law_550 : decode code 550 = .ok (.aload_n 0, 1) := by decide +kernel
theorem d_law_551 : decode code 551 = .ok (.iload_n 3, 1) := by decide +kernel
theorem d_law_552 : decode code 552 = .ok (.iconst 2, 1) := by decide +kernel
theorem d_law_553 : decode code 553 = .ok (.iadd, 1) := by decide +kernel
theorem d_law_554 : decode code 554 = .ok (.iaload, 1) := by decide +kernel
theorem d_law_555 : decode code 555 = .ok (.invokevirtual 77, 3) := by decide +kernel
theorem d_law_558 : decode code 558 = .ok (.if_icmp .eq 206, 3) := by decide +kernel
theorem d_law_561 : decode code 561 = .ok (.iconst 0, 1) := by decide +kernel
theorem d_law_562 : decode code 562 = .ok (.ireturn, 1) := by decide +kernel
theorem d_law_563 : decode code 563 = .ok (.aload_n 1, 1) := by decide +kernel
theorem d_law_564 : decode code 564 = .ok (.aload_n 0, 1) := by decide +kernel
theorem d_law_565 : decode code 565 = .ok (.iload_n 3, 1) := by decide +kernel
theorem d_law_566 : decode code 566 = .ok (.iconst 1, 1) := by decide +kernel
theorem d_law_567 : decode code 567 = .ok (.iadd, 1) := by decide +kernel
theorem d_law_568 : decode code 568 = .ok (.iaload, 1) := by decide +kernel
theorem d_law_569 : decode code 569 = .ok (.aload_n 0, 1) := by decide +kernel
theorem d_law_570 : decode code 570 = .ok (.iload_n 3, 1) := by decide +kernel
theorem d_law_571 : decode code 571 = .ok (.iconst 2, 1) := by decide +kernel
theorem d_law_572 : decode code 572 = .ok (.iadd, 1) := by decide +kernel
theorem d_law_573 : decode code 573 = .ok (.iaload, 1) := by decide +kernel
theorem d_law_574 : decode code 574 = .ok (.invokevirtual 78, 3) := by decide +kernel
theorem d_law_577 : decode code 577 = .ok (.aload_n 2, 1) := by decide +kernel
theorem d_law_578 : decode code 578 = .ok (.aload_n 0, 1) := by decide +kernel
theorem d_law_579 : decode code 579 = .ok (.iload_n 3, 1) := by decide +kernel
theorem d_law_580 : decode code 580 = .ok (.iconst 1, 1) := by decide +kernel
theorem d_law_581 : decode code 581 = .ok (.iadd, 1) := by decide +kernel
theorem d_law_582 : decode code 582 = .ok (.iaload, 1) := by decide +kernel
theorem d_law_583 : decode code 583 = .ok (.aload_n 0, 1) := by decide +kernel
theorem d_law_584 : decode code 584 = .ok (.iload_n 3, 1) := by decide +kernel
theorem d_law_585 : decode code 585 = .ok (.iconst 2, 1) := by decide +kernel
theorem d_law_586 : decode code 586 = .ok (.iadd, 1) := by decide +kernel
theorem d_law_587 : decode code 587 = .ok (.iaload, 1) := by decide +kernel
theorem d_law_588 : decode code 588 = .ok (.invokevirtual 81, 3) := by decide +kernel
theorem d_law_591 : decode code 591 = .ok (.if_icmp .eq 173, 3) := by decide +kernel
theorem d_law_594 : decode code 594 = .ok (.iconst 0, 1) := by decide +kernel
theorem d_law_595 : decode code 595 = .ok (.ireturn, 1) := by decide +kernel
theorem d_law_596 : decode code 596 = .ok (.aload_n 1, 1) := by decide +kernel
theorem d_law_597 : decode code 597 = .ok (.aload_n 0, 1) := by decide +kernel
theorem d_law_598 : decode code 598 = .ok (.iload_n 3, 1) := by decide +kernel
theorem d_law_599 : decode code 599 = .ok (.iconst 1, 1) := by decide +kernel
theorem d_law_600 : decode code 600 = .ok (.iadd, 1) := by decide +kernel
theorem d_law_601 : decode code 601 = .ok (.iaload, 1) := by decide +kernel
theorem d_law_602 : decode code 602 = .ok (.aload_n 0, 1) := by decide +kernel
theorem d_law_603 : decode code 603 = .ok (.iload_n 3, 1) := by decide +kernel
theorem d_law_604 : decode code 604 = .ok (.iconst 2, 1) := by decide +kernel
theorem d_law_605 : decode code 605 = .ok (.iadd, 1) := by decide +kernel
theorem d_law_606 : decode code 606 = .ok (.iaload, 1) := by decide +kernel
theorem d_law_607 : decode code 607 = .ok (.invokevirtual 82, 3) := by decide +kernel
theorem d_law_610 : decode code 610 = .ok (.aload_n 2, 1) := by decide +kernel
theorem d_law_611 : decode code 611 = .ok (.aload_n 0, 1) := by decide +kernel
theorem d_law_612 : decode code 612 = .ok (.iload_n 3, 1) := by decide +kernel
theorem d_law_613 : decode code 613 = .ok (.iconst 1, 1) := by decide +kernel
theorem d_law_614 : decode code 614 = .ok (.iadd, 1) := by decide +kernel
theorem d_law_615 : decode code 615 = .ok (.iaload, 1) := by decide +kernel
theorem d_law_616 : decode code 616 = .ok (.aload_n 0, 1) := by decide +kernel
theorem d_law_617 : decode code 617 = .ok (.iload_n 3, 1) := by decide +kernel
theorem d_law_618 : decode code 618 = .ok (.iconst 2, 1) := by decide +kernel
theorem d_law_619 : decode code 619 = .ok (.iadd, 1) := by decide +kernel
theorem d_law_620 : decode code 620 = .ok (.iaload, 1) := by decide +kernel
theorem d_law_621 : decode code 621 = .ok (.invokevirtual 85, 3) := by decide +kernel
theorem d_law_624 : decode code 624 = .ok (.if_icmp .eq 140, 3) := by decide +kernel
theorem d_law_627 : decode code 627 = .ok (.iconst 0, 1) := by decide +kernel
theorem d_law_628 : decode code 628 = .ok (.ireturn, 1) := by decide +kernel
theorem d_law_629 : decode code 629 = .ok (.aload_n 1, 1) := by decide +kernel
theorem d_law_630 : decode code 630 = .ok (.aload_n 0, 1) := by decide +kernel
theorem d_law_631 : decode code 631 = .ok (.iload_n 3, 1) := by decide +kernel
theorem d_law_632 : decode code 632 = .ok (.iconst 1, 1) := by decide +kernel
theorem d_law_633 : decode code 633 = .ok (.iadd, 1) := by decide +kernel
theorem d_law_634 : decode code 634 = .ok (.iaload, 1) := by decide +kernel
theorem d_law_635 : decode code 635 = .ok (.aload_n 0, 1) := by decide +kernel
theorem d_law_636 : decode code 636 = .ok (.iload_n 3, 1) := by decide +kernel
theorem d_law_637 : decode code 637 = .ok (.iconst 2, 1) := by decide +kernel
theorem d_law_638 : decode code 638 = .ok (.iadd, 1) := by decide +kernel
theorem d_law_639 : decode code 639 = .ok (.iaload, 1) := by decide +kernel
theorem d_law_640 : decode code 640 = .ok (.aload_n 0, 1) := by decide +kernel
theorem d_law_641 : decode code 641 = .ok (.iload_n 3, 1) := by decide +kernel
theorem d_law_642 : decode code 642 = .ok (.iconst 3, 1) := by decide +kernel
theorem d_law_643 : decode code 643 = .ok (.iadd, 1) := by decide +kernel
theorem d_law_644 : decode code 644 = .ok (.iaload, 1) := by decide +kernel
theorem d_law_645 : decode code 645 = .ok (.invokevirtual 86, 3) := by decide +kernel
theorem d_law_648 : decode code 648 = .ok (.aload_n 2, 1) := by decide +kernel
theorem d_law_649 : decode code 649 = .ok (.aload_n 0, 1) := by decide +kernel
theorem d_law_650 : decode code 650 = .ok (.iload_n 3, 1) := by decide +kernel
theorem d_law_651 : decode code 651 = .ok (.iconst 1, 1) := by decide +kernel
theorem d_law_652 : decode code 652 = .ok (.iadd, 1) := by decide +kernel
theorem d_law_653 : decode code 653 = .ok (.iaload, 1) := by decide +kernel
theorem d_law_654 : decode code 654 = .ok (.aload_n 0, 1) := by decide +kernel
theorem d_law_655 : decode code 655 = .ok (.iload_n 3, 1) := by decide +kernel
theorem d_law_656 : decode code 656 = .ok (.iconst 2, 1) := by decide +kernel
theorem d_law_657 : decode code 657 = .ok (.iadd, 1) := by decide +kernel
theorem d_law_658 : decode code 658 = .ok (.iaload, 1) := by decide +kernel
theorem d_law_659 : decode code 659 = .ok (.aload_n 0, 1) := by decide +kernel
theorem d_law_660 : decode code 660 = .ok (.iload_n 3, 1) := by decide +kernel
theorem d_law_661 : decode code 661 = .ok (.iconst 3, 1) := by decide +kernel
theorem d_law_662 : decode code 662 = .ok (.iadd, 1) := by decide +kernel
theorem d_law_663 : decode code 663 = .ok (.iaload, 1) := by decide +kernel
theorem d_law_664 : decode code 664 = .ok (.invokevirtual 89, 3) := by decide +kernel
theorem d_law_667 : decode code 667 = .ok (.if_icmp .eq 97, 3) := by decide +kernel
theorem d_law_670 : decode code 670 = .ok (.iconst 0, 1) := by decide +kernel
theorem d_law_671 : decode code 671 = .ok (.ireturn, 1) := by decide +kernel
theorem d_law_672 : decode code 672 = .ok (.aload_n 1, 1) := by decide +kernel
theorem d_law_673 : decode code 673 = .ok (.invokevirtual 90, 3) := by decide +kernel
theorem d_law_676 : decode code 676 = .ok (.aload_n 2, 1) := by decide +kernel
theorem d_law_677 : decode code 677 = .ok (.invokevirtual 93, 3) := by decide +kernel
theorem d_law_680 : decode code 680 = .ok (.if_icmp .eq 84, 3) := by decide +kernel
theorem d_law_683 : decode code 683 = .ok (.iconst 0, 1) := by decide +kernel
theorem d_law_684 : decode code 684 = .ok (.ireturn, 1) := by decide +kernel
theorem d_law_685 : decode code 685 = .ok (.aload_n 1, 1) := by decide +kernel
theorem d_law_686 : decode code 686 = .ok (.aload_n 0, 1) := by decide +kernel
theorem d_law_687 : decode code 687 = .ok (.iload_n 3, 1) := by decide +kernel
theorem d_law_688 : decode code 688 = .ok (.iconst 1, 1) := by decide +kernel
theorem d_law_689 : decode code 689 = .ok (.iadd, 1) := by decide +kernel
theorem d_law_690 : decode code 690 = .ok (.iaload, 1) := by decide +kernel
theorem d_law_691 : decode code 691 = .ok (.aload_n 0, 1) := by decide +kernel
theorem d_law_692 : decode code 692 = .ok (.iload_n 3, 1) := by decide +kernel
theorem d_law_693 : decode code 693 = .ok (.iconst 2, 1) := by decide +kernel
theorem d_law_694 : decode code 694 = .ok (.iadd, 1) := by decide +kernel
theorem d_law_695 : decode code 695 = .ok (.iaload, 1) := by decide +kernel
theorem d_law_696 : decode code 696 = .ok (.invokevirtual 94, 3) := by decide +kernel
theorem d_law_699 : decode code 699 = .ok (.aload_n 2, 1) := by decide +kernel
theorem d_law_700 : decode code 700 = .ok (.aload_n 0, 1) := by decide +kernel
theorem d_law_701 : decode code 701 = .ok (.iload_n 3, 1) := by decide +kernel
theorem d_law_702 : decode code 702 = .ok (.iconst 1, 1) := by decide +kernel
theorem d_law_703 : decode code 703 = .ok (.iadd, 1) := by decide +kernel
theorem d_law_704 : decode code 704 = .ok (.iaload, 1) := by decide +kernel
theorem d_law_705 : decode code 705 = .ok (.aload_n 0, 1) := by decide +kernel
theorem d_law_706 : decode code 706 = .ok (.iload_n 3, 1) := by decide +kernel
theorem d_law_707 : decode code 707 = .ok (.iconst 2, 1) := by decide +kernel
theorem d_law_708 : decode code 708 = .ok (.iadd, 1) := by decide +kernel
theorem d_law_709 : decode code 709 = .ok (.iaload, 1) := by decide +kernel
theorem d_law_710 : decode code 710 = .ok (.invokevirtual 97, 3) := by decide +kernel
theorem d_law_713 : decode code 713 = .ok (.if_icmp .eq 51, 3) := by decide +kernel
theorem d_law_716 : decode code 716 = .ok (.iconst 0, 1) := by decide +kernel
theorem d_law_717 : decode code 717 = .ok (.ireturn, 1) := by decide +kernel
theorem d_law_718 : decode code 718 = .ok (.aload_n 1, 1) := by decide +kernel
theorem d_law_719 : decode code 719 = .ok (.aload_n 0, 1) := by decide +kernel
theorem d_law_720 : decode code 720 = .ok (.iload_n 3, 1) := by decide +kernel
theorem d_law_721 : decode code 721 = .ok (.iconst 1, 1) := by decide +kernel
theorem d_law_722 : decode code 722 = .ok (.iadd, 1) := by decide +kernel
theorem d_law_723 : decode code 723 = .ok (.iaload, 1) := by decide +kernel
theorem d_law_724 : decode code 724 = .ok (.invokevirtual 98, 3) := by decide +kernel
theorem d_law_727 : decode code 727 = .ok (.aload_n 2, 1) := by decide +kernel
theorem d_law_728 : decode code 728 = .ok (.aload_n 0, 1) := by decide +kernel
theorem d_law_729 : decode code 729 = .ok (.iload_n 3, 1) := by decide +kernel
theorem d_law_730 : decode code 730 = .ok (.iconst 1, 1) := by decide +kernel
theorem d_law_731 : decode code 731 = .ok (.iadd, 1) := by decide +kernel
theorem d_law_732 : decode code 732 = .ok (.iaload, 1) := by decide +kernel
theorem d_law_733 : decode code 733 = .ok (.invokevirtual 101, 3) := by decide +kernel
theorem d_law_736 : decode code 736 = .ok (.if_icmp .eq 28, 3) := by decide +kernel
theorem d_law_739 : decode code 739 = .ok (.iconst 0, 1) := by decide +kernel
theorem d_law_740 : decode code 740 = .ok (.ireturn, 1) := by decide +kernel
theorem d_law_741 : decode code 741 = .ok (.aload_n 1, 1) := by decide +kernel
theorem d_law_742 : decode code 742 = .ok (.aload_n 0, 1) := by decide +kernel
theorem d_law_743 : decode code 743 = .ok (.iload_n 3, 1) := by decide +kernel
theorem d_law_744 : decode code 744 = .ok (.iconst 1, 1) := by decide +kernel
theorem d_law_745 : decode code 745 = .ok (.iadd, 1) := by decide +kernel
theorem d_law_746 : decode code 746 = .ok (.iaload, 1) := by decide +kernel
theorem d_law_747 : decode code 747 = .ok (.invokevirtual 102, 3) := by decide +kernel
theorem d_law_750 : decode code 750 = .ok (.aload_n 2, 1) := by decide +kernel
theorem d_law_751 : decode code 751 = .ok (.aload_n 0, 1) := by decide +kernel
theorem d_law_752 : decode code 752 = .ok (.iload_n 3, 1) := by decide +kernel
theorem d_law_753 : decode code 753 = .ok (.iconst 1, 1) := by decide +kernel
theorem d_law_754 : decode code 754 = .ok (.iadd, 1) := by decide +kernel
theorem d_law_755 : decode code 755 = .ok (.iaload, 1) := by decide +kernel
theorem d_law_756 : decode code 756 = .ok (.invokevirtual 105, 3) := by decide +kernel
theorem d_law_759 : decode code 759 = .ok (.if_icmp .eq 5, 3) := by decide +kernel
theorem d_law_762 : decode code 762 = .ok (.iconst 0, 1) := by decide +kernel
theorem d_law_763 : decode code 763 = .ok (.ireturn, 1) := by decide +kernel
theorem d_law_764 : decode code 764 = .ok (.iinc 3 7, 3) := by decide +kernel
theorem d_law_767 : decode code 767 = .ok (.goto (-749), 3) := by decide +kernel
theorem d_law_770 : decode code 770 = .ok (.iconst 1, 1) := by decide +kernel
theorem d_law_771 : decode code 771 = .ok (.ireturn, 1) := by decide +kernel
theorem cv_L_13 : CSV "SensorHubLaw" 13 y_X_addSensor prog_1_method_2_code 7 (some .int) 6 := ⟨gw_I 389 (by decide +kernel) rfl, gw_I 390 (by decide +kernel) rfl, gw_I 391 (by decide +kernel) rfl, gw_I 70 (by decide +kernel) rfl, gw_I 392 (by decide +kernel) rfl, ⟨by decide +kernel, by decide +kernel⟩, by decide +kernel⟩
theorem cv_L_17 : CSV "SensorHubLaw" 17 y_M_addSensor prog_10_method_35_code 7 (some .int) 6 := ⟨gw_I 942 (by decide +kernel) rfl, gw_I 943 (by decide +kernel) rfl, gw_I 944 (by decide +kernel) rfl, gw_I 78 (by decide +kernel) rfl, gw_I 945 (by decide +kernel) rfl, ⟨by decide +kernel, by decide +kernel⟩, by decide +kernel⟩
theorem cv_L_18 : CSV "SensorHubLaw" 18 y_X_addDerived prog_1_method_3_code 4 (some .int) 3 := ⟨gw_I 459 (by decide +kernel) rfl, gw_I 460 (by decide +kernel) rfl, gw_I 461 (by decide +kernel) rfl, gw_I 70 (by decide +kernel) rfl, gw_I 462 (by decide +kernel) rfl, ⟨by decide +kernel, by decide +kernel⟩, by decide +kernel⟩
theorem cv_L_22 : CSV "SensorHubLaw" 22 y_M_addDerived prog_10_method_36_code 4 (some .int) 3 := ⟨gw_I 961 (by decide +kernel) rfl, gw_I 962 (by decide +kernel) rfl, gw_I 963 (by decide +kernel) rfl, gw_I 78 (by decide +kernel) rfl, gw_I 964 (by decide +kernel) rfl, ⟨by decide +kernel, by decide +kernel⟩, by decide +kernel⟩
theorem cv_L_23 : CSV "SensorHubLaw" 23 y_X_addOutage prog_1_method_4_code 4 (some .int) 3 := ⟨gw_I 483 (by decide +kernel) rfl, gw_I 484 (by decide +kernel) rfl, gw_I 485 (by decide +kernel) rfl, gw_I 70 (by decide +kernel) rfl, gw_I 486 (by decide +kernel) rfl, ⟨by decide +kernel, by decide +kernel⟩, by decide +kernel⟩
theorem cv_L_26 : CSV "SensorHubLaw" 26 y_M_addOutage prog_10_method_38_code 4 (some .int) 3 := ⟨gw_I 969 (by decide +kernel) rfl, gw_I 970 (by decide +kernel) rfl, gw_I 971 (by decide +kernel) rfl, gw_I 78 (by decide +kernel) rfl, gw_I 972 (by decide +kernel) rfl, ⟨by decide +kernel, by decide +kernel⟩, by decide +kernel⟩
theorem cv_L_27 : CSV "SensorHubLaw" 27 y_X_subscribe prog_1_method_5_code 6 (some .int) 3 := ⟨gw_I 500 (by decide +kernel) rfl, gw_I 501 (by decide +kernel) rfl, gw_I 502 (by decide +kernel) rfl, gw_I 70 (by decide +kernel) rfl, gw_I 503 (by decide +kernel) rfl, ⟨by decide +kernel, by decide +kernel⟩, by decide +kernel⟩
theorem cv_L_30 : CSV "SensorHubLaw" 30 y_M_subscribe prog_10_method_42_code 7 (some .int) 3 := ⟨gw_I 985 (by decide +kernel) rfl, gw_I 986 (by decide +kernel) rfl, gw_I 987 (by decide +kernel) rfl, gw_I 78 (by decide +kernel) rfl, gw_I 988 (by decide +kernel) rfl, ⟨by decide +kernel, by decide +kernel⟩, by decide +kernel⟩
theorem cv_L_31 : CSV "SensorHubLaw" 31 y_X_unsubscribe prog_1_method_6_code 3 (some .int) 1 := ⟨gw_I 574 (by decide +kernel) rfl, gw_I 575 (by decide +kernel) rfl, gw_I 576 (by decide +kernel) rfl, gw_I 70 (by decide +kernel) rfl, gw_I 577 (by decide +kernel) rfl, ⟨by decide +kernel, by decide +kernel⟩, by decide +kernel⟩
theorem cv_L_35 : CSV "SensorHubLaw" 35 y_M_unsubscribe prog_10_method_43_code 3 (some .int) 1 := ⟨gw_I 1040 (by decide +kernel) rfl, gw_I 1041 (by decide +kernel) rfl, gw_I 1042 (by decide +kernel) rfl, gw_I 78 (by decide +kernel) rfl, gw_I 1043 (by decide +kernel) rfl, ⟨by decide +kernel, by decide +kernel⟩, by decide +kernel⟩
theorem cv_L_36 : CSV "SensorHubLaw" 36 y_X_setCapacity prog_1_method_7_code 3 (some .int) 1 := ⟨gw_I 583 (by decide +kernel) rfl, gw_I 584 (by decide +kernel) rfl, gw_I 585 (by decide +kernel) rfl, gw_I 70 (by decide +kernel) rfl, gw_I 586 (by decide +kernel) rfl, ⟨by decide +kernel, by decide +kernel⟩, by decide +kernel⟩
theorem cv_L_39 : CSV "SensorHubLaw" 39 y_M_setCapacity prog_10_method_44_code 3 (some .int) 1 := ⟨gw_I 1048 (by decide +kernel) rfl, gw_I 1049 (by decide +kernel) rfl, gw_I 1050 (by decide +kernel) rfl, gw_I 78 (by decide +kernel) rfl, gw_I 1051 (by decide +kernel) rfl, ⟨by decide +kernel, by decide +kernel⟩, by decide +kernel⟩
theorem cv_L_40 : CSV "SensorHubLaw" 40 y_X_append prog_1_method_8_code 2 (some .int) 1 := ⟨gw_I 587 (by decide +kernel) rfl, gw_I 588 (by decide +kernel) rfl, gw_I 589 (by decide +kernel) rfl, gw_I 70 (by decide +kernel) rfl, gw_I 590 (by decide +kernel) rfl, ⟨by decide +kernel, by decide +kernel⟩, by decide +kernel⟩
theorem cv_L_43 : CSV "SensorHubLaw" 43 y_M_append prog_10_method_45_code 2 (some .int) 1 := ⟨gw_I 1052 (by decide +kernel) rfl, gw_I 1053 (by decide +kernel) rfl, gw_I 1054 (by decide +kernel) rfl, gw_I 78 (by decide +kernel) rfl, gw_I 1055 (by decide +kernel) rfl, ⟨by decide +kernel, by decide +kernel⟩, by decide +kernel⟩
theorem cv_L_44 : CSV "SensorHubLaw" 44 y_X_clearText prog_1_method_9_code 1 (some .int) 0 := ⟨gw_I 600 (by decide +kernel) rfl, gw_I 601 (by decide +kernel) rfl, gw_I 602 (by decide +kernel) rfl, gw_I 70 (by decide +kernel) rfl, gw_I 603 (by decide +kernel) rfl, ⟨by decide +kernel, by decide +kernel⟩, by decide +kernel⟩
theorem cv_L_48 : CSV "SensorHubLaw" 48 y_M_clearText prog_10_method_46_code 2 (some .int) 0 := ⟨gw_I 1056 (by decide +kernel) rfl, gw_I 1057 (by decide +kernel) rfl, gw_I 1058 (by decide +kernel) rfl, gw_I 78 (by decide +kernel) rfl, gw_I 1059 (by decide +kernel) rfl, ⟨by decide +kernel, by decide +kernel⟩, by decide +kernel⟩
theorem cv_L_49 : CSV "SensorHubLaw" 49 y_X_load prog_1_method_10_code 2 (some .int) 0 := ⟨gw_I 608 (by decide +kernel) rfl, gw_I 609 (by decide +kernel) rfl, gw_I 610 (by decide +kernel) rfl, gw_I 70 (by decide +kernel) rfl, gw_I 611 (by decide +kernel) rfl, ⟨by decide +kernel, by decide +kernel⟩, by decide +kernel⟩
theorem cv_L_52 : CSV "SensorHubLaw" 52 y_M_load prog_10_method_57_code 3 (some .int) 0 := ⟨gw_I 1060 (by decide +kernel) rfl, gw_I 1061 (by decide +kernel) rfl, gw_I 1062 (by decide +kernel) rfl, gw_I 78 (by decide +kernel) rfl, gw_I 1063 (by decide +kernel) rfl, ⟨by decide +kernel, by decide +kernel⟩, by decide +kernel⟩
theorem cv_L_53 : CSV "SensorHubLaw" 53 y_X_advance prog_1_method_11_code 3 (some .int) 1 := ⟨gw_I 723 (by decide +kernel) rfl, gw_I 724 (by decide +kernel) rfl, gw_I 725 (by decide +kernel) rfl, gw_I 70 (by decide +kernel) rfl, gw_I 726 (by decide +kernel) rfl, ⟨by decide +kernel, by decide +kernel⟩, by decide +kernel⟩
theorem cv_L_56 : CSV "SensorHubLaw" 56 y_M_advance prog_10_method_58_code 3 (some .int) 1 := ⟨gw_I 1112 (by decide +kernel) rfl, gw_I 1113 (by decide +kernel) rfl, gw_I 1114 (by decide +kernel) rfl, gw_I 78 (by decide +kernel) rfl, gw_I 1115 (by decide +kernel) rfl, ⟨by decide +kernel, by decide +kernel⟩, by decide +kernel⟩
theorem cv_L_57 : CSV "SensorHubLaw" 57 y_X_flush prog_1_method_12_code 1 (some .int) 0 := ⟨gw_I 805 (by decide +kernel) rfl, gw_I 806 (by decide +kernel) rfl, gw_I 807 (by decide +kernel) rfl, gw_I 70 (by decide +kernel) rfl, gw_I 808 (by decide +kernel) rfl, ⟨by decide +kernel, by decide +kernel⟩, by decide +kernel⟩
theorem cv_L_60 : CSV "SensorHubLaw" 60 y_M_flush prog_10_method_59_code 1 (some .int) 0 := ⟨gw_I 1155 (by decide +kernel) rfl, gw_I 1156 (by decide +kernel) rfl, gw_I 1157 (by decide +kernel) rfl, gw_I 78 (by decide +kernel) rfl, gw_I 1158 (by decide +kernel) rfl, ⟨by decide +kernel, by decide +kernel⟩, by decide +kernel⟩
theorem cv_L_61 : CSV "SensorHubLaw" 61 y_X_undo prog_1_method_13_code 1 (some .int) 0 := ⟨gw_I 809 (by decide +kernel) rfl, gw_I 810 (by decide +kernel) rfl, gw_I 811 (by decide +kernel) rfl, gw_I 70 (by decide +kernel) rfl, gw_I 812 (by decide +kernel) rfl, ⟨by decide +kernel, by decide +kernel⟩, by decide +kernel⟩
theorem cv_L_64 : CSV "SensorHubLaw" 64 y_M_undo prog_10_method_60_code 2 (some .int) 0 := ⟨gw_I 1159 (by decide +kernel) rfl, gw_I 1160 (by decide +kernel) rfl, gw_I 1161 (by decide +kernel) rfl, gw_I 78 (by decide +kernel) rfl, gw_I 1162 (by decide +kernel) rfl, ⟨by decide +kernel, by decide +kernel⟩, by decide +kernel⟩
theorem cv_L_65 : CSV "SensorHubLaw" 65 y_X_count prog_1_method_14_code 2 (some .int) 1 := ⟨gw_I 817 (by decide +kernel) rfl, gw_I 818 (by decide +kernel) rfl, gw_I 819 (by decide +kernel) rfl, gw_I 70 (by decide +kernel) rfl, gw_I 820 (by decide +kernel) rfl, ⟨by decide +kernel, by decide +kernel⟩, by decide +kernel⟩
theorem cv_L_68 : CSV "SensorHubLaw" 68 y_M_count prog_10_method_61_code 2 (some .int) 1 := ⟨gw_I 1163 (by decide +kernel) rfl, gw_I 1164 (by decide +kernel) rfl, gw_I 1165 (by decide +kernel) rfl, gw_I 78 (by decide +kernel) rfl, gw_I 1166 (by decide +kernel) rfl, ⟨by decide +kernel, by decide +kernel⟩, by decide +kernel⟩
theorem cv_L_69 : CSV "SensorHubLaw" 69 y_X_wakes prog_1_method_15_code 2 (some .int) 1 := ⟨gw_I 825 (by decide +kernel) rfl, gw_I 826 (by decide +kernel) rfl, gw_I 827 (by decide +kernel) rfl, gw_I 70 (by decide +kernel) rfl, gw_I 828 (by decide +kernel) rfl, ⟨by decide +kernel, by decide +kernel⟩, by decide +kernel⟩
theorem cv_L_72 : CSV "SensorHubLaw" 72 y_M_wakes prog_10_method_62_code 2 (some .int) 1 := ⟨gw_I 1171 (by decide +kernel) rfl, gw_I 1172 (by decide +kernel) rfl, gw_I 1173 (by decide +kernel) rfl, gw_I 78 (by decide +kernel) rfl, gw_I 1174 (by decide +kernel) rfl, ⟨by decide +kernel, by decide +kernel⟩, by decide +kernel⟩
theorem cv_L_73 : CSV "SensorHubLaw" 73 y_X_sensor prog_1_method_16_code 4 (some .int) 2 := ⟨gw_I 833 (by decide +kernel) rfl, gw_I 834 (by decide +kernel) rfl, gw_I 835 (by decide +kernel) rfl, gw_I 70 (by decide +kernel) rfl, gw_I 836 (by decide +kernel) rfl, ⟨by decide +kernel, by decide +kernel⟩, by decide +kernel⟩
theorem cv_L_77 : CSV "SensorHubLaw" 77 y_M_sensor prog_10_method_63_code 4 (some .int) 2 := ⟨gw_I 1175 (by decide +kernel) rfl, gw_I 1176 (by decide +kernel) rfl, gw_I 1177 (by decide +kernel) rfl, gw_I 78 (by decide +kernel) rfl, gw_I 1178 (by decide +kernel) rfl, ⟨by decide +kernel, by decide +kernel⟩, by decide +kernel⟩
theorem cv_L_78 : CSV "SensorHubLaw" 78 y_X_client prog_1_method_17_code 4 (some .int) 2 := ⟨gw_I 837 (by decide +kernel) rfl, gw_I 838 (by decide +kernel) rfl, gw_I 839 (by decide +kernel) rfl, gw_I 70 (by decide +kernel) rfl, gw_I 840 (by decide +kernel) rfl, ⟨by decide +kernel, by decide +kernel⟩, by decide +kernel⟩
theorem cv_L_81 : CSV "SensorHubLaw" 81 y_M_client prog_10_method_65_code 3 (some .int) 2 := ⟨gw_I 1179 (by decide +kernel) rfl, gw_I 1180 (by decide +kernel) rfl, gw_I 1181 (by decide +kernel) rfl, gw_I 78 (by decide +kernel) rfl, gw_I 1182 (by decide +kernel) rfl, ⟨by decide +kernel, by decide +kernel⟩, by decide +kernel⟩
theorem cv_L_82 : CSV "SensorHubLaw" 82 y_X_entry prog_1_method_18_code 3 (some .int) 2 := ⟨gw_I 846 (by decide +kernel) rfl, gw_I 847 (by decide +kernel) rfl, gw_I 848 (by decide +kernel) rfl, gw_I 70 (by decide +kernel) rfl, gw_I 849 (by decide +kernel) rfl, ⟨by decide +kernel, by decide +kernel⟩, by decide +kernel⟩
theorem cv_L_85 : CSV "SensorHubLaw" 85 y_M_entry prog_10_method_66_code 3 (some .int) 2 := ⟨gw_I 1187 (by decide +kernel) rfl, gw_I 1188 (by decide +kernel) rfl, gw_I 1189 (by decide +kernel) rfl, gw_I 78 (by decide +kernel) rfl, gw_I 1190 (by decide +kernel) rfl, ⟨by decide +kernel, by decide +kernel⟩, by decide +kernel⟩
theorem cv_L_86 : CSV "SensorHubLaw" 86 y_X_delivered prog_1_method_19_code 5 (some .int) 3 := ⟨gw_I 851 (by decide +kernel) rfl, gw_I 852 (by decide +kernel) rfl, gw_I 853 (by decide +kernel) rfl, gw_I 70 (by decide +kernel) rfl, gw_I 854 (by decide +kernel) rfl, ⟨by decide +kernel, by decide +kernel⟩, by decide +kernel⟩
theorem cv_L_89 : CSV "SensorHubLaw" 89 y_M_delivered prog_10_method_67_code 4 (some .int) 3 := ⟨gw_I 1191 (by decide +kernel) rfl, gw_I 1192 (by decide +kernel) rfl, gw_I 1193 (by decide +kernel) rfl, gw_I 78 (by decide +kernel) rfl, gw_I 1194 (by decide +kernel) rfl, ⟨by decide +kernel, by decide +kernel⟩, by decide +kernel⟩
theorem cv_L_90 : CSV "SensorHubLaw" 90 y_X_nextDeadline prog_1_method_20_code 1 (some .int) 0 := ⟨gw_I 860 (by decide +kernel) rfl, gw_I 861 (by decide +kernel) rfl, gw_I 862 (by decide +kernel) rfl, gw_I 70 (by decide +kernel) rfl, gw_I 863 (by decide +kernel) rfl, ⟨by decide +kernel, by decide +kernel⟩, by decide +kernel⟩
theorem cv_L_93 : CSV "SensorHubLaw" 93 y_M_nextDeadline prog_10_method_68_code 4 (some .int) 0 := ⟨gw_I 1195 (by decide +kernel) rfl, gw_I 1196 (by decide +kernel) rfl, gw_I 1197 (by decide +kernel) rfl, gw_I 78 (by decide +kernel) rfl, gw_I 1198 (by decide +kernel) rfl, ⟨by decide +kernel, by decide +kernel⟩, by decide +kernel⟩
theorem cv_L_94 : CSV "SensorHubLaw" 94 y_X_forecastWakes prog_1_method_21_code 3 (some .int) 2 := ⟨gw_I 869 (by decide +kernel) rfl, gw_I 870 (by decide +kernel) rfl, gw_I 871 (by decide +kernel) rfl, gw_I 70 (by decide +kernel) rfl, gw_I 872 (by decide +kernel) rfl, ⟨by decide +kernel, by decide +kernel⟩, by decide +kernel⟩
theorem cv_L_97 : CSV "SensorHubLaw" 97 y_M_forecastWakes prog_10_method_69_code 5 (some .int) 2 := ⟨gw_I 1199 (by decide +kernel) rfl, gw_I 1200 (by decide +kernel) rfl, gw_I 1201 (by decide +kernel) rfl, gw_I 78 (by decide +kernel) rfl, gw_I 1202 (by decide +kernel) rfl, ⟨by decide +kernel, by decide +kernel⟩, by decide +kernel⟩
theorem cv_L_98 : CSV "SensorHubLaw" 98 y_X_smallestCapacity prog_1_method_22_code 2 (some .int) 1 := ⟨gw_I 873 (by decide +kernel) rfl, gw_I 874 (by decide +kernel) rfl, gw_I 875 (by decide +kernel) rfl, gw_I 70 (by decide +kernel) rfl, gw_I 876 (by decide +kernel) rfl, ⟨by decide +kernel, by decide +kernel⟩, by decide +kernel⟩
theorem cv_L_101 : CSV "SensorHubLaw" 101 y_M_smallestCapacity prog_10_method_70_code 5 (some .int) 1 := ⟨gw_I 1203 (by decide +kernel) rfl, gw_I 1204 (by decide +kernel) rfl, gw_I 1205 (by decide +kernel) rfl, gw_I 78 (by decide +kernel) rfl, gw_I 1206 (by decide +kernel) rfl, ⟨by decide +kernel, by decide +kernel⟩, by decide +kernel⟩
theorem cv_L_102 : CSV "SensorHubLaw" 102 y_X_tightestClient prog_1_method_23_code 6 (some .int) 1 := ⟨gw_I 878 (by decide +kernel) rfl, gw_I 879 (by decide +kernel) rfl, gw_I 880 (by decide +kernel) rfl, gw_I 70 (by decide +kernel) rfl, gw_I 881 (by decide +kernel) rfl, ⟨by decide +kernel, by decide +kernel⟩, by decide +kernel⟩
theorem cv_L_105 : CSV "SensorHubLaw" 105 y_M_tightestClient prog_10_method_71_code 7 (some .int) 1 := ⟨gw_I 1207 (by decide +kernel) rfl, gw_I 1208 (by decide +kernel) rfl, gw_I 1209 (by decide +kernel) rfl, gw_I 78 (by decide +kernel) rfl, gw_I 1210 (by decide +kernel) rfl, ⟨by decide +kernel, by decide +kernel⟩, by decide +kernel⟩
def L_law_18 (L : Nat) (xs : Nat → Int32) (r1 : Nat) (r2 : Nat) (k : Mem → Option (Unit × Mem)) : Nat → Int32 → Mem → Option (Unit × Mem)
  | 0, _, _ => none
  | n + 1, x3, σ =>
    if ((nI L) - (7 : Int32)) < x3 then
      k σ
    else
      if ib x3 L then
        lt (xs x3.toNatClampNeg) fun v1 =>
        if (v1 &&& (31 : Int32)) = 0 then
          if ib (x3 + (1 : Int32)) L then
            lt (xs (x3 + (1 : Int32)).toNatClampNeg) fun v2 =>
            if ib (x3 + (2 : Int32)) L then
              lt (xs (x3 + (2 : Int32)).toNatClampNeg) fun v3 =>
              if ib (x3 + (3 : Int32)) L then
                lt (xs (x3 + (3 : Int32)).toNatClampNeg) fun v4 =>
                if ib (x3 + (4 : Int32)) L then
                  lt (xs (x3 + (4 : Int32)).toNatClampNeg) fun v5 =>
                  if ib (x3 + (5 : Int32)) L then
                    lt (xs (x3 + (5 : Int32)).toNatClampNeg) fun v6 =>
                    if ib (x3 + (6 : Int32)) L then
                      lt (xs (x3 + (6 : Int32)).toNatClampNeg) fun v7 =>
                      bd (f_X_addSensor r1 v2 v3 v4 v5 v6 v7 σ) fun r8 σ9 =>
                      if ib (x3 + (1 : Int32)) L then
                        lt (xs (x3 + (1 : Int32)).toNatClampNeg) fun v10 =>
                        if ib (x3 + (2 : Int32)) L then
                          lt (xs (x3 + (2 : Int32)).toNatClampNeg) fun v11 =>
                          if ib (x3 + (3 : Int32)) L then
                            lt (xs (x3 + (3 : Int32)).toNatClampNeg) fun v12 =>
                            if ib (x3 + (4 : Int32)) L then
                              lt (xs (x3 + (4 : Int32)).toNatClampNeg) fun v13 =>
                              if ib (x3 + (5 : Int32)) L then
                                lt (xs (x3 + (5 : Int32)).toNatClampNeg) fun v14 =>
                                if ib (x3 + (6 : Int32)) L then
                                  lt (xs (x3 + (6 : Int32)).toNatClampNeg) fun v15 =>
                                  bd (f_M_addSensor r2 v10 v11 v12 v13 v14 v15 σ9) fun r16 σ17 =>
                                  if r8 = r16 then L_law_18 L xs r1 r2 k n (x3 + 7) σ17 else none
                                else none
                              else none
                            else none
                          else none
                        else none
                      else none
                    else none
                  else none
                else none
              else none
            else none
          else none
        else
        if (v1 &&& (31 : Int32)) = 1 then
          if ib (x3 + (1 : Int32)) L then
            lt (xs (x3 + (1 : Int32)).toNatClampNeg) fun v18 =>
            if ib (x3 + (2 : Int32)) L then
              lt (xs (x3 + (2 : Int32)).toNatClampNeg) fun v19 =>
              if ib (x3 + (3 : Int32)) L then
                lt (xs (x3 + (3 : Int32)).toNatClampNeg) fun v20 =>
                bd (f_X_addDerived r1 v18 v19 v20 σ) fun r21 σ22 =>
                if ib (x3 + (1 : Int32)) L then
                  lt (xs (x3 + (1 : Int32)).toNatClampNeg) fun v23 =>
                  if ib (x3 + (2 : Int32)) L then
                    lt (xs (x3 + (2 : Int32)).toNatClampNeg) fun v24 =>
                    if ib (x3 + (3 : Int32)) L then
                      lt (xs (x3 + (3 : Int32)).toNatClampNeg) fun v25 =>
                      bd (f_M_addDerived r2 v23 v24 v25 σ22) fun r26 σ27 =>
                      if r21 = r26 then L_law_18 L xs r1 r2 k n (x3 + 7) σ27 else none
                    else none
                  else none
                else none
              else none
            else none
          else none
        else
        if (v1 &&& (31 : Int32)) = 2 then
          if ib (x3 + (1 : Int32)) L then
            lt (xs (x3 + (1 : Int32)).toNatClampNeg) fun v28 =>
            if ib (x3 + (2 : Int32)) L then
              lt (xs (x3 + (2 : Int32)).toNatClampNeg) fun v29 =>
              if ib (x3 + (3 : Int32)) L then
                lt (xs (x3 + (3 : Int32)).toNatClampNeg) fun v30 =>
                bd (f_X_addOutage r1 v28 v29 v30 σ) fun r31 σ32 =>
                if ib (x3 + (1 : Int32)) L then
                  lt (xs (x3 + (1 : Int32)).toNatClampNeg) fun v33 =>
                  if ib (x3 + (2 : Int32)) L then
                    lt (xs (x3 + (2 : Int32)).toNatClampNeg) fun v34 =>
                    if ib (x3 + (3 : Int32)) L then
                      lt (xs (x3 + (3 : Int32)).toNatClampNeg) fun v35 =>
                      bd (f_M_addOutage r2 v33 v34 v35 σ32) fun r36 σ37 =>
                      if r31 = r36 then L_law_18 L xs r1 r2 k n (x3 + 7) σ37 else none
                    else none
                  else none
                else none
              else none
            else none
          else none
        else
        if (v1 &&& (31 : Int32)) = 3 then
          if ib (x3 + (1 : Int32)) L then
            lt (xs (x3 + (1 : Int32)).toNatClampNeg) fun v38 =>
            if ib (x3 + (2 : Int32)) L then
              lt (xs (x3 + (2 : Int32)).toNatClampNeg) fun v39 =>
              if ib (x3 + (3 : Int32)) L then
                lt (xs (x3 + (3 : Int32)).toNatClampNeg) fun v40 =>
                bd (f_X_subscribe r1 v38 v39 v40 σ) fun r41 σ42 =>
                if ib (x3 + (1 : Int32)) L then
                  lt (xs (x3 + (1 : Int32)).toNatClampNeg) fun v43 =>
                  if ib (x3 + (2 : Int32)) L then
                    lt (xs (x3 + (2 : Int32)).toNatClampNeg) fun v44 =>
                    if ib (x3 + (3 : Int32)) L then
                      lt (xs (x3 + (3 : Int32)).toNatClampNeg) fun v45 =>
                      bd (f_M_subscribe r2 v43 v44 v45 σ42) fun r46 σ47 =>
                      if r41 = r46 then L_law_18 L xs r1 r2 k n (x3 + 7) σ47 else none
                    else none
                  else none
                else none
              else none
            else none
          else none
        else
        if (v1 &&& (31 : Int32)) = 4 then
          if ib (x3 + (1 : Int32)) L then
            lt (xs (x3 + (1 : Int32)).toNatClampNeg) fun v48 =>
            bd (f_X_unsubscribe r1 v48 σ) fun r49 σ50 =>
            if ib (x3 + (1 : Int32)) L then
              lt (xs (x3 + (1 : Int32)).toNatClampNeg) fun v51 =>
              bd (f_M_unsubscribe r2 v51 σ50) fun r52 σ53 =>
              if r49 = r52 then L_law_18 L xs r1 r2 k n (x3 + 7) σ53 else none
            else none
          else none
        else
        if (v1 &&& (31 : Int32)) = 5 then
          if ib (x3 + (1 : Int32)) L then
            lt (xs (x3 + (1 : Int32)).toNatClampNeg) fun v54 =>
            bd (f_X_setCapacity r1 v54 σ) fun r55 σ56 =>
            if ib (x3 + (1 : Int32)) L then
              lt (xs (x3 + (1 : Int32)).toNatClampNeg) fun v57 =>
              bd (f_M_setCapacity r2 v57 σ56) fun r58 σ59 =>
              if r55 = r58 then L_law_18 L xs r1 r2 k n (x3 + 7) σ59 else none
            else none
          else none
        else
        if (v1 &&& (31 : Int32)) = 6 then
          if ib (x3 + (1 : Int32)) L then
            lt (xs (x3 + (1 : Int32)).toNatClampNeg) fun v60 =>
            bd (f_X_append r1 v60 σ) fun r61 σ62 =>
            if ib (x3 + (1 : Int32)) L then
              lt (xs (x3 + (1 : Int32)).toNatClampNeg) fun v63 =>
              bd (f_M_append r2 v63 σ62) fun r64 σ65 =>
              if r61 = r64 then L_law_18 L xs r1 r2 k n (x3 + 7) σ65 else none
            else none
          else none
        else
        if (v1 &&& (31 : Int32)) = 7 then
          bd (f_X_clearText r1 σ) fun r66 σ67 =>
          bd (f_M_clearText r2 σ67) fun r68 σ69 =>
          if r66 = r68 then L_law_18 L xs r1 r2 k n (x3 + 7) σ69 else none
        else
        if (v1 &&& (31 : Int32)) = 8 then
          bd (f_X_load r1 σ) fun r70 σ71 =>
          bd (f_M_load r2 σ71) fun r72 σ73 =>
          if r70 = r72 then L_law_18 L xs r1 r2 k n (x3 + 7) σ73 else none
        else
        if (v1 &&& (31 : Int32)) = 9 then
          if ib (x3 + (1 : Int32)) L then
            lt (xs (x3 + (1 : Int32)).toNatClampNeg) fun v74 =>
            bd (f_X_advance r1 v74 σ) fun r75 σ76 =>
            if ib (x3 + (1 : Int32)) L then
              lt (xs (x3 + (1 : Int32)).toNatClampNeg) fun v77 =>
              bd (f_M_advance r2 v77 σ76) fun r78 σ79 =>
              if r75 = r78 then L_law_18 L xs r1 r2 k n (x3 + 7) σ79 else none
            else none
          else none
        else
        if (v1 &&& (31 : Int32)) = 10 then
          bd (f_X_flush r1 σ) fun r80 σ81 =>
          bd (f_M_flush r2 σ81) fun r82 σ83 =>
          if r80 = r82 then L_law_18 L xs r1 r2 k n (x3 + 7) σ83 else none
        else
        if (v1 &&& (31 : Int32)) = 11 then
          bd (f_X_undo r1 σ) fun r84 σ85 =>
          bd (f_M_undo r2 σ85) fun r86 σ87 =>
          if r84 = r86 then L_law_18 L xs r1 r2 k n (x3 + 7) σ87 else none
        else
        if (v1 &&& (31 : Int32)) = 12 then
          if ib (x3 + (1 : Int32)) L then
            lt (xs (x3 + (1 : Int32)).toNatClampNeg) fun v88 =>
            bd (f_X_count r1 v88 σ) fun r89 σ90 =>
            if ib (x3 + (1 : Int32)) L then
              lt (xs (x3 + (1 : Int32)).toNatClampNeg) fun v91 =>
              bd (f_M_count r2 v91 σ90) fun r92 σ93 =>
              if r89 = r92 then L_law_18 L xs r1 r2 k n (x3 + 7) σ93 else none
            else none
          else none
        else
        if (v1 &&& (31 : Int32)) = 13 then
          if ib (x3 + (1 : Int32)) L then
            lt (xs (x3 + (1 : Int32)).toNatClampNeg) fun v94 =>
            bd (f_X_wakes r1 v94 σ) fun r95 σ96 =>
            if ib (x3 + (1 : Int32)) L then
              lt (xs (x3 + (1 : Int32)).toNatClampNeg) fun v97 =>
              bd (f_M_wakes r2 v97 σ96) fun r98 σ99 =>
              if r95 = r98 then L_law_18 L xs r1 r2 k n (x3 + 7) σ99 else none
            else none
          else none
        else
        if (v1 &&& (31 : Int32)) = 14 then
          if ib (x3 + (1 : Int32)) L then
            lt (xs (x3 + (1 : Int32)).toNatClampNeg) fun v100 =>
            if ib (x3 + (2 : Int32)) L then
              lt (xs (x3 + (2 : Int32)).toNatClampNeg) fun v101 =>
              bd (f_X_sensor r1 v100 v101 σ) fun r102 σ103 =>
              if ib (x3 + (1 : Int32)) L then
                lt (xs (x3 + (1 : Int32)).toNatClampNeg) fun v104 =>
                if ib (x3 + (2 : Int32)) L then
                  lt (xs (x3 + (2 : Int32)).toNatClampNeg) fun v105 =>
                  bd (f_M_sensor r2 v104 v105 σ103) fun r106 σ107 =>
                  if r102 = r106 then L_law_18 L xs r1 r2 k n (x3 + 7) σ107 else none
                else none
              else none
            else none
          else none
        else
        if (v1 &&& (31 : Int32)) = 15 then
          if ib (x3 + (1 : Int32)) L then
            lt (xs (x3 + (1 : Int32)).toNatClampNeg) fun v108 =>
            if ib (x3 + (2 : Int32)) L then
              lt (xs (x3 + (2 : Int32)).toNatClampNeg) fun v109 =>
              bd (f_X_client r1 v108 v109 σ) fun r110 σ111 =>
              if ib (x3 + (1 : Int32)) L then
                lt (xs (x3 + (1 : Int32)).toNatClampNeg) fun v112 =>
                if ib (x3 + (2 : Int32)) L then
                  lt (xs (x3 + (2 : Int32)).toNatClampNeg) fun v113 =>
                  bd (f_M_client r2 v112 v113 σ111) fun r114 σ115 =>
                  if r110 = r114 then L_law_18 L xs r1 r2 k n (x3 + 7) σ115 else none
                else none
              else none
            else none
          else none
        else
        if (v1 &&& (31 : Int32)) = 16 then
          if ib (x3 + (1 : Int32)) L then
            lt (xs (x3 + (1 : Int32)).toNatClampNeg) fun v116 =>
            if ib (x3 + (2 : Int32)) L then
              lt (xs (x3 + (2 : Int32)).toNatClampNeg) fun v117 =>
              bd (f_X_entry r1 v116 v117 σ) fun r118 σ119 =>
              if ib (x3 + (1 : Int32)) L then
                lt (xs (x3 + (1 : Int32)).toNatClampNeg) fun v120 =>
                if ib (x3 + (2 : Int32)) L then
                  lt (xs (x3 + (2 : Int32)).toNatClampNeg) fun v121 =>
                  bd (f_M_entry r2 v120 v121 σ119) fun r122 σ123 =>
                  if r118 = r122 then L_law_18 L xs r1 r2 k n (x3 + 7) σ123 else none
                else none
              else none
            else none
          else none
        else
        if (v1 &&& (31 : Int32)) = 17 then
          if ib (x3 + (1 : Int32)) L then
            lt (xs (x3 + (1 : Int32)).toNatClampNeg) fun v124 =>
            if ib (x3 + (2 : Int32)) L then
              lt (xs (x3 + (2 : Int32)).toNatClampNeg) fun v125 =>
              if ib (x3 + (3 : Int32)) L then
                lt (xs (x3 + (3 : Int32)).toNatClampNeg) fun v126 =>
                bd (f_X_delivered r1 v124 v125 v126 σ) fun r127 σ128 =>
                if ib (x3 + (1 : Int32)) L then
                  lt (xs (x3 + (1 : Int32)).toNatClampNeg) fun v129 =>
                  if ib (x3 + (2 : Int32)) L then
                    lt (xs (x3 + (2 : Int32)).toNatClampNeg) fun v130 =>
                    if ib (x3 + (3 : Int32)) L then
                      lt (xs (x3 + (3 : Int32)).toNatClampNeg) fun v131 =>
                      bd (f_M_delivered r2 v129 v130 v131 σ128) fun r132 σ133 =>
                      if r127 = r132 then L_law_18 L xs r1 r2 k n (x3 + 7) σ133 else none
                    else none
                  else none
                else none
              else none
            else none
          else none
        else
        if (v1 &&& (31 : Int32)) = 18 then
          bd (f_X_nextDeadline r1 σ) fun r134 σ135 =>
          bd (f_M_nextDeadline r2 σ135) fun r136 σ137 =>
          if r134 = r136 then L_law_18 L xs r1 r2 k n (x3 + 7) σ137 else none
        else
        if (v1 &&& (31 : Int32)) = 19 then
          if ib (x3 + (1 : Int32)) L then
            lt (xs (x3 + (1 : Int32)).toNatClampNeg) fun v138 =>
            if ib (x3 + (2 : Int32)) L then
              lt (xs (x3 + (2 : Int32)).toNatClampNeg) fun v139 =>
              bd (f_X_forecastWakes r1 v138 v139 σ) fun r140 σ141 =>
              if ib (x3 + (1 : Int32)) L then
                lt (xs (x3 + (1 : Int32)).toNatClampNeg) fun v142 =>
                if ib (x3 + (2 : Int32)) L then
                  lt (xs (x3 + (2 : Int32)).toNatClampNeg) fun v143 =>
                  bd (f_M_forecastWakes r2 v142 v143 σ141) fun r144 σ145 =>
                  if r140 = r144 then L_law_18 L xs r1 r2 k n (x3 + 7) σ145 else none
                else none
              else none
            else none
          else none
        else
        if (v1 &&& (31 : Int32)) = 20 then
          if ib (x3 + (1 : Int32)) L then
            lt (xs (x3 + (1 : Int32)).toNatClampNeg) fun v146 =>
            bd (f_X_smallestCapacity r1 v146 σ) fun r147 σ148 =>
            if ib (x3 + (1 : Int32)) L then
              lt (xs (x3 + (1 : Int32)).toNatClampNeg) fun v149 =>
              bd (f_M_smallestCapacity r2 v149 σ148) fun r150 σ151 =>
              if r147 = r150 then L_law_18 L xs r1 r2 k n (x3 + 7) σ151 else none
            else none
          else none
        else
        if (v1 &&& (31 : Int32)) = 21 then
          if ib (x3 + (1 : Int32)) L then
            lt (xs (x3 + (1 : Int32)).toNatClampNeg) fun v152 =>
            bd (f_X_tightestClient r1 v152 σ) fun r153 σ154 =>
            if ib (x3 + (1 : Int32)) L then
              lt (xs (x3 + (1 : Int32)).toNatClampNeg) fun v155 =>
              bd (f_M_tightestClient r2 v155 σ154) fun r156 σ157 =>
              if r153 = r156 then L_law_18 L xs r1 r2 k n (x3 + 7) σ157 else none
            else none
          else none
        else
          L_law_18 L xs r1 r2 k n (x3 + 7) σ
      else none
def f_law (L : Nat) (xs : Nat → Int32) (σ : Mem) : Option (Unit × Mem) :=
  L_law_18 L xs 0 299 (fun σ158 =>
    some ((), σ158)) FU (0 : Int32) σ
set_option maxRecDepth 100000 in
set_option maxHeartbeats 4000000 in
theorem l_L_law_18 {X : CX} {p : Program} {l : Launch} {e : Env} {s : State} {m : MethodId} {b : Nat} {below : List Frame} {meth : Method} {c : Code} (F : FR p s m #[Value.ref b] c code 4 "SensorHubLaw" X) (hlk : meth.locks = false) (hr : meth.sig.returnType = ret) (hA2 : ∀ q, xA X q → s.heap.size ≤ q) (L : Nat) (xs : Nat → Int32) (r1 : Nat) (r2 : Nat) (hX : va_X b L xs s s.heap) (hbl : b < s.heap.size) (hbA : ¬ xA X b) (hr1 : TopOK X r1) (hr2 : ModelOK X r2) (k : Mem → Option (Unit × Mem)) (hk : ∀  (σ : Mem), G X p l e room_1 s m #[Value.ref b] below meth c 4 308 7806 (fun (_ : Unit) (_ : Mem) => lw_Z below #[Value.ref b] s) 770 [] [] σ (k σ)) : ∀ (n : Nat) (x3 : Int32) (σ : Mem), G X p l e room_1 s m #[Value.ref b] below meth c 4 308 7806 (fun (_ : Unit) (_ : Mem) => lw_Z below #[Value.ref b] s) 18 [(0, .ref b), (1, .ref (xa X r1)), (2, .ref (xa X r2)), (3, .int x3)] [] σ (L_law_18 L xs r1 r2 k n x3 σ) := by
  intro n
  induction n with
  | zero => intros; exact g_no
  | succ n ih =>
    intro x3 σ
    unfold L_law_18
    refine g_iload_n F d_law_18 3 rfl ?_
    refine g_aload_n F d_law_19 0 rfl ?_
    refine g_slen F hX hbl hbA d_law_20 ?_
    refine g_bipush F (v := 7) d_law_21 (by decide) ?_
    refine g_isub F d_law_23 ?_
    refine g_icmp_gt F (tgt := 770) d_law_24 (by decide) (fun h1 => ?_) (fun h2 => ?_)
    · exact g_sub [] rfl (hk  _)
    refine g_aload_n F d_law_27 0 rfl ?_
    refine g_iload_n F d_law_28 3 rfl ?_
    refine g_sld F hX hbl hbA d_law_29 ?_
    refine g_ltI (fun v1 _ => ?_)
    refine g_bipush F (v := 31) d_law_30 (by decide) ?_
    refine g_iand F d_law_32 ?_
    refine g_if (fun h3 => ?_) (fun h4 => ?_)
    · refine g_tsIn F (tgt := 136) d_law_33 0 h3 (by decide) (by decide) rfl (by decide) ?_
      refine g_aload_n F d_law_136 1 rfl ?_
      refine g_aload_n F d_law_137 0 rfl ?_
      refine g_iload_n F d_law_138 3 rfl ?_
      refine g_iconst F (v := 1) d_law_139 (by decide) ?_
      refine g_iadd F d_law_140 ?_
      refine g_sld F hX hbl hbA d_law_141 ?_
      refine g_ltI (fun v2 _ => ?_)
      refine g_aload_n F d_law_142 0 rfl ?_
      refine g_iload_n F d_law_143 3 rfl ?_
      refine g_iconst F (v := 2) d_law_144 (by decide) ?_
      refine g_iadd F d_law_145 ?_
      refine g_sld F hX hbl hbA d_law_146 ?_
      refine g_ltI (fun v3 _ => ?_)
      refine g_aload_n F d_law_147 0 rfl ?_
      refine g_iload_n F d_law_148 3 rfl ?_
      refine g_iconst F (v := 3) d_law_149 (by decide) ?_
      refine g_iadd F d_law_150 ?_
      refine g_sld F hX hbl hbA d_law_151 ?_
      refine g_ltI (fun v4 _ => ?_)
      refine g_aload_n F d_law_152 0 rfl ?_
      refine g_iload_n F d_law_153 3 rfl ?_
      refine g_iconst F (v := 4) d_law_154 (by decide) ?_
      refine g_iadd F d_law_155 ?_
      refine g_sld F hX hbl hbA d_law_156 ?_
      refine g_ltI (fun v5 _ => ?_)
      refine g_aload_n F d_law_157 0 rfl ?_
      refine g_iload_n F d_law_158 3 rfl ?_
      refine g_iconst F (v := 5) d_law_159 (by decide) ?_
      refine g_iadd F d_law_160 ?_
      refine g_sld F hX hbl hbA d_law_161 ?_
      refine g_ltI (fun v6 _ => ?_)
      refine g_aload_n F d_law_162 0 rfl ?_
      refine g_iload_n F d_law_163 3 rfl ?_
      refine g_bipush F (v := 6) d_law_164 (by decide) ?_
      refine g_iadd F d_law_166 ?_
      refine g_sld F hX hbl hbA d_law_167 ?_
      refine g_ltI (fun v7 _ => ?_)
      refine g_callV F (dp := 4) (ci := 7) (As := [.int v2, .int v3, .int v4, .int v5, .int v6, .int v7]) (c_X_addSensor l _ _ _ _ _ _ _ hr1 _) cv_L_13 hr1.1 rfl rfl rfl (Nat.le_of_ble_eq_true rfl) ⟨Nat.le_of_ble_eq_true rfl, Nat.le_of_ble_eq_true rfl⟩ ⟨Nat.le_of_ble_eq_true rfl, Nat.le_of_ble_eq_true rfl⟩ d_law_168 (fun r8 σ9 h5 => ?_)
      refine g_aload_n F d_law_171 2 rfl ?_
      refine g_aload_n F d_law_172 0 rfl ?_
      refine g_iload_n F d_law_173 3 rfl ?_
      refine g_iconst F (v := 1) d_law_174 (by decide) ?_
      refine g_iadd F d_law_175 ?_
      refine g_sld F hX hbl hbA d_law_176 ?_
      refine g_ltI (fun v10 _ => ?_)
      refine g_aload_n F d_law_177 0 rfl ?_
      refine g_iload_n F d_law_178 3 rfl ?_
      refine g_iconst F (v := 2) d_law_179 (by decide) ?_
      refine g_iadd F d_law_180 ?_
      refine g_sld F hX hbl hbA d_law_181 ?_
      refine g_ltI (fun v11 _ => ?_)
      refine g_aload_n F d_law_182 0 rfl ?_
      refine g_iload_n F d_law_183 3 rfl ?_
      refine g_iconst F (v := 3) d_law_184 (by decide) ?_
      refine g_iadd F d_law_185 ?_
      refine g_sld F hX hbl hbA d_law_186 ?_
      refine g_ltI (fun v12 _ => ?_)
      refine g_aload_n F d_law_187 0 rfl ?_
      refine g_iload_n F d_law_188 3 rfl ?_
      refine g_iconst F (v := 4) d_law_189 (by decide) ?_
      refine g_iadd F d_law_190 ?_
      refine g_sld F hX hbl hbA d_law_191 ?_
      refine g_ltI (fun v13 _ => ?_)
      refine g_aload_n F d_law_192 0 rfl ?_
      refine g_iload_n F d_law_193 3 rfl ?_
      refine g_iconst F (v := 5) d_law_194 (by decide) ?_
      refine g_iadd F d_law_195 ?_
      refine g_sld F hX hbl hbA d_law_196 ?_
      refine g_ltI (fun v14 _ => ?_)
      refine g_aload_n F d_law_197 0 rfl ?_
      refine g_iload_n F d_law_198 3 rfl ?_
      refine g_bipush F (v := 6) d_law_199 (by decide) ?_
      refine g_iadd F d_law_201 ?_
      refine g_sld F hX hbl hbA d_law_202 ?_
      refine g_ltI (fun v15 _ => ?_)
      refine g_callV F (dp := 2) (ci := 8) (As := [.int v10, .int v11, .int v12, .int v13, .int v14, .int v15]) (c_M_addSensor l _ _ _ _ _ _ _ hr2 _) cv_L_17 hr2.1 rfl rfl rfl (Nat.le_of_ble_eq_true rfl) ⟨Nat.le_of_ble_eq_true rfl, Nat.le_of_ble_eq_true rfl⟩ ⟨Nat.le_of_ble_eq_true rfl, Nat.le_of_ble_eq_true rfl⟩ d_law_203 (fun r16 σ17 h6 => ?_)
      refine g_icmp_eq F (tgt := 764) d_law_206 (by decide) (fun h7 => ?_) (fun h8 => ?_)
      · refine g_iinc F (v := 7) (ls' := [(3, .int (x3 + 7)), (0, .ref b), (1, .ref (xa X r1)), (2, .ref (xa X r2))]) d_law_764 3 rfl (by decide) (by decide) rfl ?_
        refine g_goto F (tgt := 18) d_law_767 (by decide) ?_
        exact g_sub [1, 2, 3, 0] rfl (ih _ _)
      refine g_iconst F (v := 0) d_law_209 (by decide) ?_
      exact g_no
    refine g_if (fun h9 => ?_) (fun h10 => ?_)
    · refine g_tsIn F (tgt := 211) d_law_33 1 h9 (by decide) (by decide) rfl (by decide) ?_
      refine g_aload_n F d_law_211 1 rfl ?_
      refine g_aload_n F d_law_212 0 rfl ?_
      refine g_iload_n F d_law_213 3 rfl ?_
      refine g_iconst F (v := 1) d_law_214 (by decide) ?_
      refine g_iadd F d_law_215 ?_
      refine g_sld F hX hbl hbA d_law_216 ?_
      refine g_ltI (fun v18 _ => ?_)
      refine g_aload_n F d_law_217 0 rfl ?_
      refine g_iload_n F d_law_218 3 rfl ?_
      refine g_iconst F (v := 2) d_law_219 (by decide) ?_
      refine g_iadd F d_law_220 ?_
      refine g_sld F hX hbl hbA d_law_221 ?_
      refine g_ltI (fun v19 _ => ?_)
      refine g_aload_n F d_law_222 0 rfl ?_
      refine g_iload_n F d_law_223 3 rfl ?_
      refine g_iconst F (v := 3) d_law_224 (by decide) ?_
      refine g_iadd F d_law_225 ?_
      refine g_sld F hX hbl hbA d_law_226 ?_
      refine g_ltI (fun v20 _ => ?_)
      refine g_callV F (dp := 4) (ci := 7) (As := [.int v18, .int v19, .int v20]) (c_X_addDerived l _ _ _ _ hr1 _) cv_L_18 hr1.1 rfl rfl rfl (Nat.le_of_ble_eq_true rfl) ⟨Nat.le_of_ble_eq_true rfl, Nat.le_of_ble_eq_true rfl⟩ ⟨Nat.le_of_ble_eq_true rfl, Nat.le_of_ble_eq_true rfl⟩ d_law_227 (fun r21 σ22 h11 => ?_)
      refine g_aload_n F d_law_230 2 rfl ?_
      refine g_aload_n F d_law_231 0 rfl ?_
      refine g_iload_n F d_law_232 3 rfl ?_
      refine g_iconst F (v := 1) d_law_233 (by decide) ?_
      refine g_iadd F d_law_234 ?_
      refine g_sld F hX hbl hbA d_law_235 ?_
      refine g_ltI (fun v23 _ => ?_)
      refine g_aload_n F d_law_236 0 rfl ?_
      refine g_iload_n F d_law_237 3 rfl ?_
      refine g_iconst F (v := 2) d_law_238 (by decide) ?_
      refine g_iadd F d_law_239 ?_
      refine g_sld F hX hbl hbA d_law_240 ?_
      refine g_ltI (fun v24 _ => ?_)
      refine g_aload_n F d_law_241 0 rfl ?_
      refine g_iload_n F d_law_242 3 rfl ?_
      refine g_iconst F (v := 3) d_law_243 (by decide) ?_
      refine g_iadd F d_law_244 ?_
      refine g_sld F hX hbl hbA d_law_245 ?_
      refine g_ltI (fun v25 _ => ?_)
      refine g_callV F (dp := 2) (ci := 8) (As := [.int v23, .int v24, .int v25]) (c_M_addDerived l _ _ _ _ hr2 _) cv_L_22 hr2.1 rfl rfl rfl (Nat.le_of_ble_eq_true rfl) ⟨Nat.le_of_ble_eq_true rfl, Nat.le_of_ble_eq_true rfl⟩ ⟨Nat.le_of_ble_eq_true rfl, Nat.le_of_ble_eq_true rfl⟩ d_law_246 (fun r26 σ27 h12 => ?_)
      refine g_icmp_eq F (tgt := 764) d_law_249 (by decide) (fun h13 => ?_) (fun h14 => ?_)
      · refine g_iinc F (v := 7) (ls' := [(3, .int (x3 + 7)), (0, .ref b), (1, .ref (xa X r1)), (2, .ref (xa X r2))]) d_law_764 3 rfl (by decide) (by decide) rfl ?_
        refine g_goto F (tgt := 18) d_law_767 (by decide) ?_
        exact g_sub [1, 2, 3, 0] rfl (ih _ _)
      refine g_iconst F (v := 0) d_law_252 (by decide) ?_
      exact g_no
    refine g_if (fun h15 => ?_) (fun h16 => ?_)
    · refine g_tsIn F (tgt := 254) d_law_33 2 h15 (by decide) (by decide) rfl (by decide) ?_
      refine g_aload_n F d_law_254 1 rfl ?_
      refine g_aload_n F d_law_255 0 rfl ?_
      refine g_iload_n F d_law_256 3 rfl ?_
      refine g_iconst F (v := 1) d_law_257 (by decide) ?_
      refine g_iadd F d_law_258 ?_
      refine g_sld F hX hbl hbA d_law_259 ?_
      refine g_ltI (fun v28 _ => ?_)
      refine g_aload_n F d_law_260 0 rfl ?_
      refine g_iload_n F d_law_261 3 rfl ?_
      refine g_iconst F (v := 2) d_law_262 (by decide) ?_
      refine g_iadd F d_law_263 ?_
      refine g_sld F hX hbl hbA d_law_264 ?_
      refine g_ltI (fun v29 _ => ?_)
      refine g_aload_n F d_law_265 0 rfl ?_
      refine g_iload_n F d_law_266 3 rfl ?_
      refine g_iconst F (v := 3) d_law_267 (by decide) ?_
      refine g_iadd F d_law_268 ?_
      refine g_sld F hX hbl hbA d_law_269 ?_
      refine g_ltI (fun v30 _ => ?_)
      refine g_callV F (dp := 4) (ci := 7) (As := [.int v28, .int v29, .int v30]) (c_X_addOutage l _ _ _ _ hr1 _) cv_L_23 hr1.1 rfl rfl rfl (Nat.le_of_ble_eq_true rfl) ⟨Nat.le_of_ble_eq_true rfl, Nat.le_of_ble_eq_true rfl⟩ ⟨Nat.le_of_ble_eq_true rfl, Nat.le_of_ble_eq_true rfl⟩ d_law_270 (fun r31 σ32 h17 => ?_)
      refine g_aload_n F d_law_273 2 rfl ?_
      refine g_aload_n F d_law_274 0 rfl ?_
      refine g_iload_n F d_law_275 3 rfl ?_
      refine g_iconst F (v := 1) d_law_276 (by decide) ?_
      refine g_iadd F d_law_277 ?_
      refine g_sld F hX hbl hbA d_law_278 ?_
      refine g_ltI (fun v33 _ => ?_)
      refine g_aload_n F d_law_279 0 rfl ?_
      refine g_iload_n F d_law_280 3 rfl ?_
      refine g_iconst F (v := 2) d_law_281 (by decide) ?_
      refine g_iadd F d_law_282 ?_
      refine g_sld F hX hbl hbA d_law_283 ?_
      refine g_ltI (fun v34 _ => ?_)
      refine g_aload_n F d_law_284 0 rfl ?_
      refine g_iload_n F d_law_285 3 rfl ?_
      refine g_iconst F (v := 3) d_law_286 (by decide) ?_
      refine g_iadd F d_law_287 ?_
      refine g_sld F hX hbl hbA d_law_288 ?_
      refine g_ltI (fun v35 _ => ?_)
      refine g_callV F (dp := 3) (ci := 8) (As := [.int v33, .int v34, .int v35]) (c_M_addOutage l _ _ _ _ hr2 _) cv_L_26 hr2.1 rfl rfl rfl (Nat.le_of_ble_eq_true rfl) ⟨Nat.le_of_ble_eq_true rfl, Nat.le_of_ble_eq_true rfl⟩ ⟨Nat.le_of_ble_eq_true rfl, Nat.le_of_ble_eq_true rfl⟩ d_law_289 (fun r36 σ37 h18 => ?_)
      refine g_icmp_eq F (tgt := 764) d_law_292 (by decide) (fun h19 => ?_) (fun h20 => ?_)
      · refine g_iinc F (v := 7) (ls' := [(3, .int (x3 + 7)), (0, .ref b), (1, .ref (xa X r1)), (2, .ref (xa X r2))]) d_law_764 3 rfl (by decide) (by decide) rfl ?_
        refine g_goto F (tgt := 18) d_law_767 (by decide) ?_
        exact g_sub [1, 2, 3, 0] rfl (ih _ _)
      refine g_iconst F (v := 0) d_law_295 (by decide) ?_
      exact g_no
    refine g_if (fun h21 => ?_) (fun h22 => ?_)
    · refine g_tsIn F (tgt := 297) d_law_33 3 h21 (by decide) (by decide) rfl (by decide) ?_
      refine g_aload_n F d_law_297 1 rfl ?_
      refine g_aload_n F d_law_298 0 rfl ?_
      refine g_iload_n F d_law_299 3 rfl ?_
      refine g_iconst F (v := 1) d_law_300 (by decide) ?_
      refine g_iadd F d_law_301 ?_
      refine g_sld F hX hbl hbA d_law_302 ?_
      refine g_ltI (fun v38 _ => ?_)
      refine g_aload_n F d_law_303 0 rfl ?_
      refine g_iload_n F d_law_304 3 rfl ?_
      refine g_iconst F (v := 2) d_law_305 (by decide) ?_
      refine g_iadd F d_law_306 ?_
      refine g_sld F hX hbl hbA d_law_307 ?_
      refine g_ltI (fun v39 _ => ?_)
      refine g_aload_n F d_law_308 0 rfl ?_
      refine g_iload_n F d_law_309 3 rfl ?_
      refine g_iconst F (v := 3) d_law_310 (by decide) ?_
      refine g_iadd F d_law_311 ?_
      refine g_sld F hX hbl hbA d_law_312 ?_
      refine g_ltI (fun v40 _ => ?_)
      refine g_callV F (dp := 5) (ci := 7) (As := [.int v38, .int v39, .int v40]) (c_X_subscribe l _ _ _ _ hr1 _) cv_L_27 hr1.1 rfl rfl rfl (Nat.le_of_ble_eq_true rfl) ⟨Nat.le_of_ble_eq_true rfl, Nat.le_of_ble_eq_true rfl⟩ ⟨Nat.le_of_ble_eq_true rfl, Nat.le_of_ble_eq_true rfl⟩ d_law_313 (fun r41 σ42 h23 => ?_)
      refine g_aload_n F d_law_316 2 rfl ?_
      refine g_aload_n F d_law_317 0 rfl ?_
      refine g_iload_n F d_law_318 3 rfl ?_
      refine g_iconst F (v := 1) d_law_319 (by decide) ?_
      refine g_iadd F d_law_320 ?_
      refine g_sld F hX hbl hbA d_law_321 ?_
      refine g_ltI (fun v43 _ => ?_)
      refine g_aload_n F d_law_322 0 rfl ?_
      refine g_iload_n F d_law_323 3 rfl ?_
      refine g_iconst F (v := 2) d_law_324 (by decide) ?_
      refine g_iadd F d_law_325 ?_
      refine g_sld F hX hbl hbA d_law_326 ?_
      refine g_ltI (fun v44 _ => ?_)
      refine g_aload_n F d_law_327 0 rfl ?_
      refine g_iload_n F d_law_328 3 rfl ?_
      refine g_iconst F (v := 3) d_law_329 (by decide) ?_
      refine g_iadd F d_law_330 ?_
      refine g_sld F hX hbl hbA d_law_331 ?_
      refine g_ltI (fun v45 _ => ?_)
      refine g_callV F (dp := 4) (ci := 8) (As := [.int v43, .int v44, .int v45]) (c_M_subscribe l _ _ _ _ hr2 _) cv_L_30 hr2.1 rfl rfl rfl (Nat.le_of_ble_eq_true rfl) ⟨Nat.le_of_ble_eq_true rfl, Nat.le_of_ble_eq_true rfl⟩ ⟨Nat.le_of_ble_eq_true rfl, Nat.le_of_ble_eq_true rfl⟩ d_law_332 (fun r46 σ47 h24 => ?_)
      refine g_icmp_eq F (tgt := 764) d_law_335 (by decide) (fun h25 => ?_) (fun h26 => ?_)
      · refine g_iinc F (v := 7) (ls' := [(3, .int (x3 + 7)), (0, .ref b), (1, .ref (xa X r1)), (2, .ref (xa X r2))]) d_law_764 3 rfl (by decide) (by decide) rfl ?_
        refine g_goto F (tgt := 18) d_law_767 (by decide) ?_
        exact g_sub [1, 2, 3, 0] rfl (ih _ _)
      refine g_iconst F (v := 0) d_law_338 (by decide) ?_
      exact g_no
    refine g_if (fun h27 => ?_) (fun h28 => ?_)
    · refine g_tsIn F (tgt := 340) d_law_33 4 h27 (by decide) (by decide) rfl (by decide) ?_
      refine g_aload_n F d_law_340 1 rfl ?_
      refine g_aload_n F d_law_341 0 rfl ?_
      refine g_iload_n F d_law_342 3 rfl ?_
      refine g_iconst F (v := 1) d_law_343 (by decide) ?_
      refine g_iadd F d_law_344 ?_
      refine g_sld F hX hbl hbA d_law_345 ?_
      refine g_ltI (fun v48 _ => ?_)
      refine g_callV F (dp := 5) (ci := 7) (As := [.int v48]) (c_X_unsubscribe l _ _ hr1 _) cv_L_31 hr1.1 rfl rfl rfl (Nat.le_of_ble_eq_true rfl) ⟨Nat.le_of_ble_eq_true rfl, Nat.le_of_ble_eq_true rfl⟩ ⟨Nat.le_of_ble_eq_true rfl, Nat.le_of_ble_eq_true rfl⟩ d_law_346 (fun r49 σ50 h29 => ?_)
      refine g_aload_n F d_law_349 2 rfl ?_
      refine g_aload_n F d_law_350 0 rfl ?_
      refine g_iload_n F d_law_351 3 rfl ?_
      refine g_iconst F (v := 1) d_law_352 (by decide) ?_
      refine g_iadd F d_law_353 ?_
      refine g_sld F hX hbl hbA d_law_354 ?_
      refine g_ltI (fun v51 _ => ?_)
      refine g_callV F (dp := 4) (ci := 8) (As := [.int v51]) (c_M_unsubscribe l _ _ hr2 _) cv_L_35 hr2.1 rfl rfl rfl (Nat.le_of_ble_eq_true rfl) ⟨Nat.le_of_ble_eq_true rfl, Nat.le_of_ble_eq_true rfl⟩ ⟨Nat.le_of_ble_eq_true rfl, Nat.le_of_ble_eq_true rfl⟩ d_law_355 (fun r52 σ53 h30 => ?_)
      refine g_icmp_eq F (tgt := 764) d_law_358 (by decide) (fun h31 => ?_) (fun h32 => ?_)
      · refine g_iinc F (v := 7) (ls' := [(3, .int (x3 + 7)), (0, .ref b), (1, .ref (xa X r1)), (2, .ref (xa X r2))]) d_law_764 3 rfl (by decide) (by decide) rfl ?_
        refine g_goto F (tgt := 18) d_law_767 (by decide) ?_
        exact g_sub [1, 2, 3, 0] rfl (ih _ _)
      refine g_iconst F (v := 0) d_law_361 (by decide) ?_
      exact g_no
    refine g_if (fun h33 => ?_) (fun h34 => ?_)
    · refine g_tsIn F (tgt := 363) d_law_33 5 h33 (by decide) (by decide) rfl (by decide) ?_
      refine g_aload_n F d_law_363 1 rfl ?_
      refine g_aload_n F d_law_364 0 rfl ?_
      refine g_iload_n F d_law_365 3 rfl ?_
      refine g_iconst F (v := 1) d_law_366 (by decide) ?_
      refine g_iadd F d_law_367 ?_
      refine g_sld F hX hbl hbA d_law_368 ?_
      refine g_ltI (fun v54 _ => ?_)
      refine g_callV F (dp := 4) (ci := 7) (As := [.int v54]) (c_X_setCapacity l _ _ hr1 _) cv_L_36 hr1.1 rfl rfl rfl (Nat.le_of_ble_eq_true rfl) ⟨Nat.le_of_ble_eq_true rfl, Nat.le_of_ble_eq_true rfl⟩ ⟨Nat.le_of_ble_eq_true rfl, Nat.le_of_ble_eq_true rfl⟩ d_law_369 (fun r55 σ56 h35 => ?_)
      refine g_aload_n F d_law_372 2 rfl ?_
      refine g_aload_n F d_law_373 0 rfl ?_
      refine g_iload_n F d_law_374 3 rfl ?_
      refine g_iconst F (v := 1) d_law_375 (by decide) ?_
      refine g_iadd F d_law_376 ?_
      refine g_sld F hX hbl hbA d_law_377 ?_
      refine g_ltI (fun v57 _ => ?_)
      refine g_callV F (dp := 3) (ci := 8) (As := [.int v57]) (c_M_setCapacity l _ _ hr2 _) cv_L_39 hr2.1 rfl rfl rfl (Nat.le_of_ble_eq_true rfl) ⟨Nat.le_of_ble_eq_true rfl, Nat.le_of_ble_eq_true rfl⟩ ⟨Nat.le_of_ble_eq_true rfl, Nat.le_of_ble_eq_true rfl⟩ d_law_378 (fun r58 σ59 h36 => ?_)
      refine g_icmp_eq F (tgt := 764) d_law_381 (by decide) (fun h37 => ?_) (fun h38 => ?_)
      · refine g_iinc F (v := 7) (ls' := [(3, .int (x3 + 7)), (0, .ref b), (1, .ref (xa X r1)), (2, .ref (xa X r2))]) d_law_764 3 rfl (by decide) (by decide) rfl ?_
        refine g_goto F (tgt := 18) d_law_767 (by decide) ?_
        exact g_sub [1, 2, 3, 0] rfl (ih _ _)
      refine g_iconst F (v := 0) d_law_384 (by decide) ?_
      exact g_no
    refine g_if (fun h39 => ?_) (fun h40 => ?_)
    · refine g_tsIn F (tgt := 386) d_law_33 6 h39 (by decide) (by decide) rfl (by decide) ?_
      refine g_aload_n F d_law_386 1 rfl ?_
      refine g_aload_n F d_law_387 0 rfl ?_
      refine g_iload_n F d_law_388 3 rfl ?_
      refine g_iconst F (v := 1) d_law_389 (by decide) ?_
      refine g_iadd F d_law_390 ?_
      refine g_sld F hX hbl hbA d_law_391 ?_
      refine g_ltI (fun v60 _ => ?_)
      refine g_callV F (dp := 2) (ci := 7) (As := [.int v60]) (c_X_append l _ _ hr1 _) cv_L_40 hr1.1 rfl rfl rfl (Nat.le_of_ble_eq_true rfl) ⟨Nat.le_of_ble_eq_true rfl, Nat.le_of_ble_eq_true rfl⟩ ⟨Nat.le_of_ble_eq_true rfl, Nat.le_of_ble_eq_true rfl⟩ d_law_392 (fun r61 σ62 h41 => ?_)
      refine g_aload_n F d_law_395 2 rfl ?_
      refine g_aload_n F d_law_396 0 rfl ?_
      refine g_iload_n F d_law_397 3 rfl ?_
      refine g_iconst F (v := 1) d_law_398 (by decide) ?_
      refine g_iadd F d_law_399 ?_
      refine g_sld F hX hbl hbA d_law_400 ?_
      refine g_ltI (fun v63 _ => ?_)
      refine g_callV F (dp := 1) (ci := 8) (As := [.int v63]) (c_M_append l _ _ hr2 _) cv_L_43 hr2.1 rfl rfl rfl (Nat.le_of_ble_eq_true rfl) ⟨Nat.le_of_ble_eq_true rfl, Nat.le_of_ble_eq_true rfl⟩ ⟨Nat.le_of_ble_eq_true rfl, Nat.le_of_ble_eq_true rfl⟩ d_law_401 (fun r64 σ65 h42 => ?_)
      refine g_icmp_eq F (tgt := 764) d_law_404 (by decide) (fun h43 => ?_) (fun h44 => ?_)
      · refine g_iinc F (v := 7) (ls' := [(3, .int (x3 + 7)), (0, .ref b), (1, .ref (xa X r1)), (2, .ref (xa X r2))]) d_law_764 3 rfl (by decide) (by decide) rfl ?_
        refine g_goto F (tgt := 18) d_law_767 (by decide) ?_
        exact g_sub [1, 2, 3, 0] rfl (ih _ _)
      refine g_iconst F (v := 0) d_law_407 (by decide) ?_
      exact g_no
    refine g_if (fun h45 => ?_) (fun h46 => ?_)
    · refine g_tsIn F (tgt := 409) d_law_33 7 h45 (by decide) (by decide) rfl (by decide) ?_
      refine g_aload_n F d_law_409 1 rfl ?_
      refine g_callV F (dp := 1) (ci := 7) (As := []) (c_X_clearText l _ hr1 _) cv_L_44 hr1.1 rfl rfl rfl (Nat.le_of_ble_eq_true rfl) ⟨Nat.le_of_ble_eq_true rfl, Nat.le_of_ble_eq_true rfl⟩ ⟨Nat.le_of_ble_eq_true rfl, Nat.le_of_ble_eq_true rfl⟩ d_law_410 (fun r66 σ67 h47 => ?_)
      refine g_aload_n F d_law_413 2 rfl ?_
      refine g_callV F (dp := 0) (ci := 8) (As := []) (c_M_clearText l _ hr2 _) cv_L_48 hr2.1 rfl rfl rfl (Nat.le_of_ble_eq_true rfl) ⟨Nat.le_of_ble_eq_true rfl, Nat.le_of_ble_eq_true rfl⟩ ⟨Nat.le_of_ble_eq_true rfl, Nat.le_of_ble_eq_true rfl⟩ d_law_414 (fun r68 σ69 h48 => ?_)
      refine g_icmp_eq F (tgt := 764) d_law_417 (by decide) (fun h49 => ?_) (fun h50 => ?_)
      · refine g_iinc F (v := 7) (ls' := [(3, .int (x3 + 7)), (0, .ref b), (1, .ref (xa X r1)), (2, .ref (xa X r2))]) d_law_764 3 rfl (by decide) (by decide) rfl ?_
        refine g_goto F (tgt := 18) d_law_767 (by decide) ?_
        exact g_sub [1, 2, 3, 0] rfl (ih _ _)
      refine g_iconst F (v := 0) d_law_420 (by decide) ?_
      exact g_no
    refine g_if (fun h51 => ?_) (fun h52 => ?_)
    · refine g_tsIn F (tgt := 422) d_law_33 8 h51 (by decide) (by decide) rfl (by decide) ?_
      refine g_aload_n F d_law_422 1 rfl ?_
      refine g_callV F (dp := 8) (ci := 7) (As := []) (c_X_load l _ hr1 _) cv_L_49 hr1.1 rfl rfl rfl (Nat.le_of_ble_eq_true rfl) ⟨Nat.le_of_ble_eq_true rfl, Nat.le_of_ble_eq_true rfl⟩ ⟨Nat.le_of_ble_eq_true rfl, Nat.le_of_ble_eq_true rfl⟩ d_law_423 (fun r70 σ71 h53 => ?_)
      refine g_aload_n F d_law_426 2 rfl ?_
      refine g_callV F (dp := 5) (ci := 8) (As := []) (c_M_load l _ hr2 _) cv_L_52 hr2.1 rfl rfl rfl (Nat.le_of_ble_eq_true rfl) ⟨Nat.le_of_ble_eq_true rfl, Nat.le_of_ble_eq_true rfl⟩ ⟨Nat.le_of_ble_eq_true rfl, Nat.le_of_ble_eq_true rfl⟩ d_law_427 (fun r72 σ73 h54 => ?_)
      refine g_icmp_eq F (tgt := 764) d_law_430 (by decide) (fun h55 => ?_) (fun h56 => ?_)
      · refine g_iinc F (v := 7) (ls' := [(3, .int (x3 + 7)), (0, .ref b), (1, .ref (xa X r1)), (2, .ref (xa X r2))]) d_law_764 3 rfl (by decide) (by decide) rfl ?_
        refine g_goto F (tgt := 18) d_law_767 (by decide) ?_
        exact g_sub [1, 2, 3, 0] rfl (ih _ _)
      refine g_iconst F (v := 0) d_law_433 (by decide) ?_
      exact g_no
    refine g_if (fun h57 => ?_) (fun h58 => ?_)
    · refine g_tsIn F (tgt := 435) d_law_33 9 h57 (by decide) (by decide) rfl (by decide) ?_
      refine g_aload_n F d_law_435 1 rfl ?_
      refine g_aload_n F d_law_436 0 rfl ?_
      refine g_iload_n F d_law_437 3 rfl ?_
      refine g_iconst F (v := 1) d_law_438 (by decide) ?_
      refine g_iadd F d_law_439 ?_
      refine g_sld F hX hbl hbA d_law_440 ?_
      refine g_ltI (fun v74 _ => ?_)
      refine g_callV F (dp := 6) (ci := 7) (As := [.int v74]) (c_X_advance l _ _ hr1 _) cv_L_53 hr1.1 rfl rfl rfl (Nat.le_of_ble_eq_true rfl) ⟨Nat.le_of_ble_eq_true rfl, Nat.le_of_ble_eq_true rfl⟩ ⟨Nat.le_of_ble_eq_true rfl, Nat.le_of_ble_eq_true rfl⟩ d_law_441 (fun r75 σ76 h59 => ?_)
      refine g_aload_n F d_law_444 2 rfl ?_
      refine g_aload_n F d_law_445 0 rfl ?_
      refine g_iload_n F d_law_446 3 rfl ?_
      refine g_iconst F (v := 1) d_law_447 (by decide) ?_
      refine g_iadd F d_law_448 ?_
      refine g_sld F hX hbl hbA d_law_449 ?_
      refine g_ltI (fun v77 _ => ?_)
      refine g_callV F (dp := 6) (ci := 8) (As := [.int v77]) (c_M_advance l _ _ hr2 _) cv_L_56 hr2.1 rfl rfl rfl (Nat.le_of_ble_eq_true rfl) ⟨Nat.le_of_ble_eq_true rfl, Nat.le_of_ble_eq_true rfl⟩ ⟨Nat.le_of_ble_eq_true rfl, Nat.le_of_ble_eq_true rfl⟩ d_law_450 (fun r78 σ79 h60 => ?_)
      refine g_icmp_eq F (tgt := 764) d_law_453 (by decide) (fun h61 => ?_) (fun h62 => ?_)
      · refine g_iinc F (v := 7) (ls' := [(3, .int (x3 + 7)), (0, .ref b), (1, .ref (xa X r1)), (2, .ref (xa X r2))]) d_law_764 3 rfl (by decide) (by decide) rfl ?_
        refine g_goto F (tgt := 18) d_law_767 (by decide) ?_
        exact g_sub [1, 2, 3, 0] rfl (ih _ _)
      refine g_iconst F (v := 0) d_law_456 (by decide) ?_
      exact g_no
    refine g_if (fun h63 => ?_) (fun h64 => ?_)
    · refine g_tsIn F (tgt := 458) d_law_33 10 h63 (by decide) (by decide) rfl (by decide) ?_
      refine g_aload_n F d_law_458 1 rfl ?_
      refine g_callV F (dp := 4) (ci := 7) (As := []) (c_X_flush l _ hr1 _) cv_L_57 hr1.1 rfl rfl rfl (Nat.le_of_ble_eq_true rfl) ⟨Nat.le_of_ble_eq_true rfl, Nat.le_of_ble_eq_true rfl⟩ ⟨Nat.le_of_ble_eq_true rfl, Nat.le_of_ble_eq_true rfl⟩ d_law_459 (fun r80 σ81 h65 => ?_)
      refine g_aload_n F d_law_462 2 rfl ?_
      refine g_callV F (dp := 3) (ci := 8) (As := []) (c_M_flush l _ hr2 _) cv_L_60 hr2.1 rfl rfl rfl (Nat.le_of_ble_eq_true rfl) ⟨Nat.le_of_ble_eq_true rfl, Nat.le_of_ble_eq_true rfl⟩ ⟨Nat.le_of_ble_eq_true rfl, Nat.le_of_ble_eq_true rfl⟩ d_law_463 (fun r82 σ83 h66 => ?_)
      refine g_icmp_eq F (tgt := 764) d_law_466 (by decide) (fun h67 => ?_) (fun h68 => ?_)
      · refine g_iinc F (v := 7) (ls' := [(3, .int (x3 + 7)), (0, .ref b), (1, .ref (xa X r1)), (2, .ref (xa X r2))]) d_law_764 3 rfl (by decide) (by decide) rfl ?_
        refine g_goto F (tgt := 18) d_law_767 (by decide) ?_
        exact g_sub [1, 2, 3, 0] rfl (ih _ _)
      refine g_iconst F (v := 0) d_law_469 (by decide) ?_
      exact g_no
    refine g_if (fun h69 => ?_) (fun h70 => ?_)
    · refine g_tsIn F (tgt := 471) d_law_33 11 h69 (by decide) (by decide) rfl (by decide) ?_
      refine g_aload_n F d_law_471 1 rfl ?_
      refine g_callV F (dp := 4) (ci := 7) (As := []) (c_X_undo l _ hr1 _) cv_L_61 hr1.1 rfl rfl rfl (Nat.le_of_ble_eq_true rfl) ⟨Nat.le_of_ble_eq_true rfl, Nat.le_of_ble_eq_true rfl⟩ ⟨Nat.le_of_ble_eq_true rfl, Nat.le_of_ble_eq_true rfl⟩ d_law_472 (fun r84 σ85 h71 => ?_)
      refine g_aload_n F d_law_475 2 rfl ?_
      refine g_callV F (dp := 0) (ci := 8) (As := []) (c_M_undo l _ hr2 _) cv_L_64 hr2.1 rfl rfl rfl (Nat.le_of_ble_eq_true rfl) ⟨Nat.le_of_ble_eq_true rfl, Nat.le_of_ble_eq_true rfl⟩ ⟨Nat.le_of_ble_eq_true rfl, Nat.le_of_ble_eq_true rfl⟩ d_law_476 (fun r86 σ87 h72 => ?_)
      refine g_icmp_eq F (tgt := 764) d_law_479 (by decide) (fun h73 => ?_) (fun h74 => ?_)
      · refine g_iinc F (v := 7) (ls' := [(3, .int (x3 + 7)), (0, .ref b), (1, .ref (xa X r1)), (2, .ref (xa X r2))]) d_law_764 3 rfl (by decide) (by decide) rfl ?_
        refine g_goto F (tgt := 18) d_law_767 (by decide) ?_
        exact g_sub [1, 2, 3, 0] rfl (ih _ _)
      refine g_iconst F (v := 0) d_law_482 (by decide) ?_
      exact g_no
    refine g_if (fun h75 => ?_) (fun h76 => ?_)
    · refine g_tsIn F (tgt := 484) d_law_33 12 h75 (by decide) (by decide) rfl (by decide) ?_
      refine g_aload_n F d_law_484 1 rfl ?_
      refine g_aload_n F d_law_485 0 rfl ?_
      refine g_iload_n F d_law_486 3 rfl ?_
      refine g_iconst F (v := 1) d_law_487 (by decide) ?_
      refine g_iadd F d_law_488 ?_
      refine g_sld F hX hbl hbA d_law_489 ?_
      refine g_ltI (fun v88 _ => ?_)
      refine g_callV F (dp := 2) (ci := 7) (As := [.int v88]) (c_X_count l _ _ hr1 _) cv_L_65 hr1.1 rfl rfl rfl (Nat.le_of_ble_eq_true rfl) ⟨Nat.le_of_ble_eq_true rfl, Nat.le_of_ble_eq_true rfl⟩ ⟨Nat.le_of_ble_eq_true rfl, Nat.le_of_ble_eq_true rfl⟩ d_law_490 (fun r89 σ90 h77 => ?_)
      refine g_aload_n F d_law_493 2 rfl ?_
      refine g_aload_n F d_law_494 0 rfl ?_
      refine g_iload_n F d_law_495 3 rfl ?_
      refine g_iconst F (v := 1) d_law_496 (by decide) ?_
      refine g_iadd F d_law_497 ?_
      refine g_sld F hX hbl hbA d_law_498 ?_
      refine g_ltI (fun v91 _ => ?_)
      refine g_callV F (dp := 2) (ci := 8) (As := [.int v91]) (c_M_count l _ _ hr2 _) cv_L_68 hr2.1 rfl rfl rfl (Nat.le_of_ble_eq_true rfl) ⟨Nat.le_of_ble_eq_true rfl, Nat.le_of_ble_eq_true rfl⟩ ⟨Nat.le_of_ble_eq_true rfl, Nat.le_of_ble_eq_true rfl⟩ d_law_499 (fun r92 σ93 h78 => ?_)
      refine g_icmp_eq F (tgt := 764) d_law_502 (by decide) (fun h79 => ?_) (fun h80 => ?_)
      · refine g_iinc F (v := 7) (ls' := [(3, .int (x3 + 7)), (0, .ref b), (1, .ref (xa X r1)), (2, .ref (xa X r2))]) d_law_764 3 rfl (by decide) (by decide) rfl ?_
        refine g_goto F (tgt := 18) d_law_767 (by decide) ?_
        exact g_sub [1, 2, 3, 0] rfl (ih _ _)
      refine g_iconst F (v := 0) d_law_505 (by decide) ?_
      exact g_no
    refine g_if (fun h81 => ?_) (fun h82 => ?_)
    · refine g_tsIn F (tgt := 507) d_law_33 13 h81 (by decide) (by decide) rfl (by decide) ?_
      refine g_aload_n F d_law_507 1 rfl ?_
      refine g_aload_n F d_law_508 0 rfl ?_
      refine g_iload_n F d_law_509 3 rfl ?_
      refine g_iconst F (v := 1) d_law_510 (by decide) ?_
      refine g_iadd F d_law_511 ?_
      refine g_sld F hX hbl hbA d_law_512 ?_
      refine g_ltI (fun v94 _ => ?_)
      refine g_callV F (dp := 2) (ci := 7) (As := [.int v94]) (c_X_wakes l _ _ hr1 _) cv_L_69 hr1.1 rfl rfl rfl (Nat.le_of_ble_eq_true rfl) ⟨Nat.le_of_ble_eq_true rfl, Nat.le_of_ble_eq_true rfl⟩ ⟨Nat.le_of_ble_eq_true rfl, Nat.le_of_ble_eq_true rfl⟩ d_law_513 (fun r95 σ96 h83 => ?_)
      refine g_aload_n F d_law_516 2 rfl ?_
      refine g_aload_n F d_law_517 0 rfl ?_
      refine g_iload_n F d_law_518 3 rfl ?_
      refine g_iconst F (v := 1) d_law_519 (by decide) ?_
      refine g_iadd F d_law_520 ?_
      refine g_sld F hX hbl hbA d_law_521 ?_
      refine g_ltI (fun v97 _ => ?_)
      refine g_callV F (dp := 1) (ci := 8) (As := [.int v97]) (c_M_wakes l _ _ hr2 _) cv_L_72 hr2.1 rfl rfl rfl (Nat.le_of_ble_eq_true rfl) ⟨Nat.le_of_ble_eq_true rfl, Nat.le_of_ble_eq_true rfl⟩ ⟨Nat.le_of_ble_eq_true rfl, Nat.le_of_ble_eq_true rfl⟩ d_law_522 (fun r98 σ99 h84 => ?_)
      refine g_icmp_eq F (tgt := 764) d_law_525 (by decide) (fun h85 => ?_) (fun h86 => ?_)
      · refine g_iinc F (v := 7) (ls' := [(3, .int (x3 + 7)), (0, .ref b), (1, .ref (xa X r1)), (2, .ref (xa X r2))]) d_law_764 3 rfl (by decide) (by decide) rfl ?_
        refine g_goto F (tgt := 18) d_law_767 (by decide) ?_
        exact g_sub [1, 2, 3, 0] rfl (ih _ _)
      refine g_iconst F (v := 0) d_law_528 (by decide) ?_
      exact g_no
    refine g_if (fun h87 => ?_) (fun h88 => ?_)
    · refine g_tsIn F (tgt := 530) d_law_33 14 h87 (by decide) (by decide) rfl (by decide) ?_
      refine g_aload_n F d_law_530 1 rfl ?_
      refine g_aload_n F d_law_531 0 rfl ?_
      refine g_iload_n F d_law_532 3 rfl ?_
      refine g_iconst F (v := 1) d_law_533 (by decide) ?_
      refine g_iadd F d_law_534 ?_
      refine g_sld F hX hbl hbA d_law_535 ?_
      refine g_ltI (fun v100 _ => ?_)
      refine g_aload_n F d_law_536 0 rfl ?_
      refine g_iload_n F d_law_537 3 rfl ?_
      refine g_iconst F (v := 2) d_law_538 (by decide) ?_
      refine g_iadd F d_law_539 ?_
      refine g_sld F hX hbl hbA d_law_540 ?_
      refine g_ltI (fun v101 _ => ?_)
      refine g_callV F (dp := 1) (ci := 7) (As := [.int v100, .int v101]) (c_X_sensor l _ _ _ hr1 _) cv_L_73 hr1.1 rfl rfl rfl (Nat.le_of_ble_eq_true rfl) ⟨Nat.le_of_ble_eq_true rfl, Nat.le_of_ble_eq_true rfl⟩ ⟨Nat.le_of_ble_eq_true rfl, Nat.le_of_ble_eq_true rfl⟩ d_law_541 (fun r102 σ103 h89 => ?_)
      refine g_aload_n F d_law_544 2 rfl ?_
      refine g_aload_n F d_law_545 0 rfl ?_
      refine g_iload_n F d_law_546 3 rfl ?_
      refine g_iconst F (v := 1) d_law_547 (by decide) ?_
      refine g_iadd F d_law_548 ?_
      refine g_sld F hX hbl hbA d_law_549 ?_
      refine g_ltI (fun v104 _ => ?_)
      refine g_aload_n F d_law_550 0 rfl ?_
      refine g_iload_n F d_law_551 3 rfl ?_
      refine g_iconst F (v := 2) d_law_552 (by decide) ?_
      refine g_iadd F d_law_553 ?_
      refine g_sld F hX hbl hbA d_law_554 ?_
      refine g_ltI (fun v105 _ => ?_)
      refine g_callV F (dp := 3) (ci := 8) (As := [.int v104, .int v105]) (c_M_sensor l _ _ _ hr2 _) cv_L_77 hr2.1 rfl rfl rfl (Nat.le_of_ble_eq_true rfl) ⟨Nat.le_of_ble_eq_true rfl, Nat.le_of_ble_eq_true rfl⟩ ⟨Nat.le_of_ble_eq_true rfl, Nat.le_of_ble_eq_true rfl⟩ d_law_555 (fun r106 σ107 h90 => ?_)
      refine g_icmp_eq F (tgt := 764) d_law_558 (by decide) (fun h91 => ?_) (fun h92 => ?_)
      · refine g_iinc F (v := 7) (ls' := [(3, .int (x3 + 7)), (0, .ref b), (1, .ref (xa X r1)), (2, .ref (xa X r2))]) d_law_764 3 rfl (by decide) (by decide) rfl ?_
        refine g_goto F (tgt := 18) d_law_767 (by decide) ?_
        exact g_sub [1, 2, 3, 0] rfl (ih _ _)
      refine g_iconst F (v := 0) d_law_561 (by decide) ?_
      exact g_no
    refine g_if (fun h93 => ?_) (fun h94 => ?_)
    · refine g_tsIn F (tgt := 563) d_law_33 15 h93 (by decide) (by decide) rfl (by decide) ?_
      refine g_aload_n F d_law_563 1 rfl ?_
      refine g_aload_n F d_law_564 0 rfl ?_
      refine g_iload_n F d_law_565 3 rfl ?_
      refine g_iconst F (v := 1) d_law_566 (by decide) ?_
      refine g_iadd F d_law_567 ?_
      refine g_sld F hX hbl hbA d_law_568 ?_
      refine g_ltI (fun v108 _ => ?_)
      refine g_aload_n F d_law_569 0 rfl ?_
      refine g_iload_n F d_law_570 3 rfl ?_
      refine g_iconst F (v := 2) d_law_571 (by decide) ?_
      refine g_iadd F d_law_572 ?_
      refine g_sld F hX hbl hbA d_law_573 ?_
      refine g_ltI (fun v109 _ => ?_)
      refine g_callV F (dp := 3) (ci := 7) (As := [.int v108, .int v109]) (c_X_client l _ _ _ hr1 _) cv_L_78 hr1.1 rfl rfl rfl (Nat.le_of_ble_eq_true rfl) ⟨Nat.le_of_ble_eq_true rfl, Nat.le_of_ble_eq_true rfl⟩ ⟨Nat.le_of_ble_eq_true rfl, Nat.le_of_ble_eq_true rfl⟩ d_law_574 (fun r110 σ111 h95 => ?_)
      refine g_aload_n F d_law_577 2 rfl ?_
      refine g_aload_n F d_law_578 0 rfl ?_
      refine g_iload_n F d_law_579 3 rfl ?_
      refine g_iconst F (v := 1) d_law_580 (by decide) ?_
      refine g_iadd F d_law_581 ?_
      refine g_sld F hX hbl hbA d_law_582 ?_
      refine g_ltI (fun v112 _ => ?_)
      refine g_aload_n F d_law_583 0 rfl ?_
      refine g_iload_n F d_law_584 3 rfl ?_
      refine g_iconst F (v := 2) d_law_585 (by decide) ?_
      refine g_iadd F d_law_586 ?_
      refine g_sld F hX hbl hbA d_law_587 ?_
      refine g_ltI (fun v113 _ => ?_)
      refine g_callV F (dp := 3) (ci := 8) (As := [.int v112, .int v113]) (c_M_client l _ _ _ hr2 _) cv_L_81 hr2.1 rfl rfl rfl (Nat.le_of_ble_eq_true rfl) ⟨Nat.le_of_ble_eq_true rfl, Nat.le_of_ble_eq_true rfl⟩ ⟨Nat.le_of_ble_eq_true rfl, Nat.le_of_ble_eq_true rfl⟩ d_law_588 (fun r114 σ115 h96 => ?_)
      refine g_icmp_eq F (tgt := 764) d_law_591 (by decide) (fun h97 => ?_) (fun h98 => ?_)
      · refine g_iinc F (v := 7) (ls' := [(3, .int (x3 + 7)), (0, .ref b), (1, .ref (xa X r1)), (2, .ref (xa X r2))]) d_law_764 3 rfl (by decide) (by decide) rfl ?_
        refine g_goto F (tgt := 18) d_law_767 (by decide) ?_
        exact g_sub [1, 2, 3, 0] rfl (ih _ _)
      refine g_iconst F (v := 0) d_law_594 (by decide) ?_
      exact g_no
    refine g_if (fun h99 => ?_) (fun h100 => ?_)
    · refine g_tsIn F (tgt := 596) d_law_33 16 h99 (by decide) (by decide) rfl (by decide) ?_
      refine g_aload_n F d_law_596 1 rfl ?_
      refine g_aload_n F d_law_597 0 rfl ?_
      refine g_iload_n F d_law_598 3 rfl ?_
      refine g_iconst F (v := 1) d_law_599 (by decide) ?_
      refine g_iadd F d_law_600 ?_
      refine g_sld F hX hbl hbA d_law_601 ?_
      refine g_ltI (fun v116 _ => ?_)
      refine g_aload_n F d_law_602 0 rfl ?_
      refine g_iload_n F d_law_603 3 rfl ?_
      refine g_iconst F (v := 2) d_law_604 (by decide) ?_
      refine g_iadd F d_law_605 ?_
      refine g_sld F hX hbl hbA d_law_606 ?_
      refine g_ltI (fun v117 _ => ?_)
      refine g_callV F (dp := 2) (ci := 7) (As := [.int v116, .int v117]) (c_X_entry l _ _ _ hr1 _) cv_L_82 hr1.1 rfl rfl rfl (Nat.le_of_ble_eq_true rfl) ⟨Nat.le_of_ble_eq_true rfl, Nat.le_of_ble_eq_true rfl⟩ ⟨Nat.le_of_ble_eq_true rfl, Nat.le_of_ble_eq_true rfl⟩ d_law_607 (fun r118 σ119 h101 => ?_)
      refine g_aload_n F d_law_610 2 rfl ?_
      refine g_aload_n F d_law_611 0 rfl ?_
      refine g_iload_n F d_law_612 3 rfl ?_
      refine g_iconst F (v := 1) d_law_613 (by decide) ?_
      refine g_iadd F d_law_614 ?_
      refine g_sld F hX hbl hbA d_law_615 ?_
      refine g_ltI (fun v120 _ => ?_)
      refine g_aload_n F d_law_616 0 rfl ?_
      refine g_iload_n F d_law_617 3 rfl ?_
      refine g_iconst F (v := 2) d_law_618 (by decide) ?_
      refine g_iadd F d_law_619 ?_
      refine g_sld F hX hbl hbA d_law_620 ?_
      refine g_ltI (fun v121 _ => ?_)
      refine g_callV F (dp := 1) (ci := 8) (As := [.int v120, .int v121]) (c_M_entry l _ _ _ hr2 _) cv_L_85 hr2.1 rfl rfl rfl (Nat.le_of_ble_eq_true rfl) ⟨Nat.le_of_ble_eq_true rfl, Nat.le_of_ble_eq_true rfl⟩ ⟨Nat.le_of_ble_eq_true rfl, Nat.le_of_ble_eq_true rfl⟩ d_law_621 (fun r122 σ123 h102 => ?_)
      refine g_icmp_eq F (tgt := 764) d_law_624 (by decide) (fun h103 => ?_) (fun h104 => ?_)
      · refine g_iinc F (v := 7) (ls' := [(3, .int (x3 + 7)), (0, .ref b), (1, .ref (xa X r1)), (2, .ref (xa X r2))]) d_law_764 3 rfl (by decide) (by decide) rfl ?_
        refine g_goto F (tgt := 18) d_law_767 (by decide) ?_
        exact g_sub [1, 2, 3, 0] rfl (ih _ _)
      refine g_iconst F (v := 0) d_law_627 (by decide) ?_
      exact g_no
    refine g_if (fun h105 => ?_) (fun h106 => ?_)
    · refine g_tsIn F (tgt := 629) d_law_33 17 h105 (by decide) (by decide) rfl (by decide) ?_
      refine g_aload_n F d_law_629 1 rfl ?_
      refine g_aload_n F d_law_630 0 rfl ?_
      refine g_iload_n F d_law_631 3 rfl ?_
      refine g_iconst F (v := 1) d_law_632 (by decide) ?_
      refine g_iadd F d_law_633 ?_
      refine g_sld F hX hbl hbA d_law_634 ?_
      refine g_ltI (fun v124 _ => ?_)
      refine g_aload_n F d_law_635 0 rfl ?_
      refine g_iload_n F d_law_636 3 rfl ?_
      refine g_iconst F (v := 2) d_law_637 (by decide) ?_
      refine g_iadd F d_law_638 ?_
      refine g_sld F hX hbl hbA d_law_639 ?_
      refine g_ltI (fun v125 _ => ?_)
      refine g_aload_n F d_law_640 0 rfl ?_
      refine g_iload_n F d_law_641 3 rfl ?_
      refine g_iconst F (v := 3) d_law_642 (by decide) ?_
      refine g_iadd F d_law_643 ?_
      refine g_sld F hX hbl hbA d_law_644 ?_
      refine g_ltI (fun v126 _ => ?_)
      refine g_callV F (dp := 2) (ci := 7) (As := [.int v124, .int v125, .int v126]) (c_X_delivered l _ _ _ _ hr1 _) cv_L_86 hr1.1 rfl rfl rfl (Nat.le_of_ble_eq_true rfl) ⟨Nat.le_of_ble_eq_true rfl, Nat.le_of_ble_eq_true rfl⟩ ⟨Nat.le_of_ble_eq_true rfl, Nat.le_of_ble_eq_true rfl⟩ d_law_645 (fun r127 σ128 h107 => ?_)
      refine g_aload_n F d_law_648 2 rfl ?_
      refine g_aload_n F d_law_649 0 rfl ?_
      refine g_iload_n F d_law_650 3 rfl ?_
      refine g_iconst F (v := 1) d_law_651 (by decide) ?_
      refine g_iadd F d_law_652 ?_
      refine g_sld F hX hbl hbA d_law_653 ?_
      refine g_ltI (fun v129 _ => ?_)
      refine g_aload_n F d_law_654 0 rfl ?_
      refine g_iload_n F d_law_655 3 rfl ?_
      refine g_iconst F (v := 2) d_law_656 (by decide) ?_
      refine g_iadd F d_law_657 ?_
      refine g_sld F hX hbl hbA d_law_658 ?_
      refine g_ltI (fun v130 _ => ?_)
      refine g_aload_n F d_law_659 0 rfl ?_
      refine g_iload_n F d_law_660 3 rfl ?_
      refine g_iconst F (v := 3) d_law_661 (by decide) ?_
      refine g_iadd F d_law_662 ?_
      refine g_sld F hX hbl hbA d_law_663 ?_
      refine g_ltI (fun v131 _ => ?_)
      refine g_callV F (dp := 2) (ci := 8) (As := [.int v129, .int v130, .int v131]) (c_M_delivered l _ _ _ _ hr2 _) cv_L_89 hr2.1 rfl rfl rfl (Nat.le_of_ble_eq_true rfl) ⟨Nat.le_of_ble_eq_true rfl, Nat.le_of_ble_eq_true rfl⟩ ⟨Nat.le_of_ble_eq_true rfl, Nat.le_of_ble_eq_true rfl⟩ d_law_664 (fun r132 σ133 h108 => ?_)
      refine g_icmp_eq F (tgt := 764) d_law_667 (by decide) (fun h109 => ?_) (fun h110 => ?_)
      · refine g_iinc F (v := 7) (ls' := [(3, .int (x3 + 7)), (0, .ref b), (1, .ref (xa X r1)), (2, .ref (xa X r2))]) d_law_764 3 rfl (by decide) (by decide) rfl ?_
        refine g_goto F (tgt := 18) d_law_767 (by decide) ?_
        exact g_sub [1, 2, 3, 0] rfl (ih _ _)
      refine g_iconst F (v := 0) d_law_670 (by decide) ?_
      exact g_no
    refine g_if (fun h111 => ?_) (fun h112 => ?_)
    · refine g_tsIn F (tgt := 672) d_law_33 18 h111 (by decide) (by decide) rfl (by decide) ?_
      refine g_aload_n F d_law_672 1 rfl ?_
      refine g_callV F (dp := 4) (ci := 7) (As := []) (c_X_nextDeadline l _ hr1 _) cv_L_90 hr1.1 rfl rfl rfl (Nat.le_of_ble_eq_true rfl) ⟨Nat.le_of_ble_eq_true rfl, Nat.le_of_ble_eq_true rfl⟩ ⟨Nat.le_of_ble_eq_true rfl, Nat.le_of_ble_eq_true rfl⟩ d_law_673 (fun r134 σ135 h113 => ?_)
      refine g_aload_n F d_law_676 2 rfl ?_
      refine g_callV F (dp := 1) (ci := 8) (As := []) (c_M_nextDeadline l _ hr2 _) cv_L_93 hr2.1 rfl rfl rfl (Nat.le_of_ble_eq_true rfl) ⟨Nat.le_of_ble_eq_true rfl, Nat.le_of_ble_eq_true rfl⟩ ⟨Nat.le_of_ble_eq_true rfl, Nat.le_of_ble_eq_true rfl⟩ d_law_677 (fun r136 σ137 h114 => ?_)
      refine g_icmp_eq F (tgt := 764) d_law_680 (by decide) (fun h115 => ?_) (fun h116 => ?_)
      · refine g_iinc F (v := 7) (ls' := [(3, .int (x3 + 7)), (0, .ref b), (1, .ref (xa X r1)), (2, .ref (xa X r2))]) d_law_764 3 rfl (by decide) (by decide) rfl ?_
        refine g_goto F (tgt := 18) d_law_767 (by decide) ?_
        exact g_sub [1, 2, 3, 0] rfl (ih _ _)
      refine g_iconst F (v := 0) d_law_683 (by decide) ?_
      exact g_no
    refine g_if (fun h117 => ?_) (fun h118 => ?_)
    · refine g_tsIn F (tgt := 685) d_law_33 19 h117 (by decide) (by decide) rfl (by decide) ?_
      refine g_aload_n F d_law_685 1 rfl ?_
      refine g_aload_n F d_law_686 0 rfl ?_
      refine g_iload_n F d_law_687 3 rfl ?_
      refine g_iconst F (v := 1) d_law_688 (by decide) ?_
      refine g_iadd F d_law_689 ?_
      refine g_sld F hX hbl hbA d_law_690 ?_
      refine g_ltI (fun v138 _ => ?_)
      refine g_aload_n F d_law_691 0 rfl ?_
      refine g_iload_n F d_law_692 3 rfl ?_
      refine g_iconst F (v := 2) d_law_693 (by decide) ?_
      refine g_iadd F d_law_694 ?_
      refine g_sld F hX hbl hbA d_law_695 ?_
      refine g_ltI (fun v139 _ => ?_)
      refine g_callV F (dp := 6) (ci := 7) (As := [.int v138, .int v139]) (c_X_forecastWakes l _ _ _ hr1 _) cv_L_94 hr1.1 rfl rfl rfl (Nat.le_of_ble_eq_true rfl) ⟨Nat.le_of_ble_eq_true rfl, Nat.le_of_ble_eq_true rfl⟩ ⟨Nat.le_of_ble_eq_true rfl, Nat.le_of_ble_eq_true rfl⟩ d_law_696 (fun r140 σ141 h119 => ?_)
      refine g_aload_n F d_law_699 2 rfl ?_
      refine g_aload_n F d_law_700 0 rfl ?_
      refine g_iload_n F d_law_701 3 rfl ?_
      refine g_iconst F (v := 1) d_law_702 (by decide) ?_
      refine g_iadd F d_law_703 ?_
      refine g_sld F hX hbl hbA d_law_704 ?_
      refine g_ltI (fun v142 _ => ?_)
      refine g_aload_n F d_law_705 0 rfl ?_
      refine g_iload_n F d_law_706 3 rfl ?_
      refine g_iconst F (v := 2) d_law_707 (by decide) ?_
      refine g_iadd F d_law_708 ?_
      refine g_sld F hX hbl hbA d_law_709 ?_
      refine g_ltI (fun v143 _ => ?_)
      refine g_callV F (dp := 6) (ci := 8) (As := [.int v142, .int v143]) (c_M_forecastWakes l _ _ _ hr2 _) cv_L_97 hr2.1 rfl rfl rfl (Nat.le_of_ble_eq_true rfl) ⟨Nat.le_of_ble_eq_true rfl, Nat.le_of_ble_eq_true rfl⟩ ⟨Nat.le_of_ble_eq_true rfl, Nat.le_of_ble_eq_true rfl⟩ d_law_710 (fun r144 σ145 h120 => ?_)
      refine g_icmp_eq F (tgt := 764) d_law_713 (by decide) (fun h121 => ?_) (fun h122 => ?_)
      · refine g_iinc F (v := 7) (ls' := [(3, .int (x3 + 7)), (0, .ref b), (1, .ref (xa X r1)), (2, .ref (xa X r2))]) d_law_764 3 rfl (by decide) (by decide) rfl ?_
        refine g_goto F (tgt := 18) d_law_767 (by decide) ?_
        exact g_sub [1, 2, 3, 0] rfl (ih _ _)
      refine g_iconst F (v := 0) d_law_716 (by decide) ?_
      exact g_no
    refine g_if (fun h123 => ?_) (fun h124 => ?_)
    · refine g_tsIn F (tgt := 718) d_law_33 20 h123 (by decide) (by decide) rfl (by decide) ?_
      refine g_aload_n F d_law_718 1 rfl ?_
      refine g_aload_n F d_law_719 0 rfl ?_
      refine g_iload_n F d_law_720 3 rfl ?_
      refine g_iconst F (v := 1) d_law_721 (by decide) ?_
      refine g_iadd F d_law_722 ?_
      refine g_sld F hX hbl hbA d_law_723 ?_
      refine g_ltI (fun v146 _ => ?_)
      refine g_callV F (dp := 6) (ci := 7) (As := [.int v146]) (c_X_smallestCapacity l _ _ hr1 _) cv_L_98 hr1.1 rfl rfl rfl (Nat.le_of_ble_eq_true rfl) ⟨Nat.le_of_ble_eq_true rfl, Nat.le_of_ble_eq_true rfl⟩ ⟨Nat.le_of_ble_eq_true rfl, Nat.le_of_ble_eq_true rfl⟩ d_law_724 (fun r147 σ148 h125 => ?_)
      refine g_aload_n F d_law_727 2 rfl ?_
      refine g_aload_n F d_law_728 0 rfl ?_
      refine g_iload_n F d_law_729 3 rfl ?_
      refine g_iconst F (v := 1) d_law_730 (by decide) ?_
      refine g_iadd F d_law_731 ?_
      refine g_sld F hX hbl hbA d_law_732 ?_
      refine g_ltI (fun v149 _ => ?_)
      refine g_callV F (dp := 6) (ci := 8) (As := [.int v149]) (c_M_smallestCapacity l _ _ hr2 _) cv_L_101 hr2.1 rfl rfl rfl (Nat.le_of_ble_eq_true rfl) ⟨Nat.le_of_ble_eq_true rfl, Nat.le_of_ble_eq_true rfl⟩ ⟨Nat.le_of_ble_eq_true rfl, Nat.le_of_ble_eq_true rfl⟩ d_law_733 (fun r150 σ151 h126 => ?_)
      refine g_icmp_eq F (tgt := 764) d_law_736 (by decide) (fun h127 => ?_) (fun h128 => ?_)
      · refine g_iinc F (v := 7) (ls' := [(3, .int (x3 + 7)), (0, .ref b), (1, .ref (xa X r1)), (2, .ref (xa X r2))]) d_law_764 3 rfl (by decide) (by decide) rfl ?_
        refine g_goto F (tgt := 18) d_law_767 (by decide) ?_
        exact g_sub [1, 2, 3, 0] rfl (ih _ _)
      refine g_iconst F (v := 0) d_law_739 (by decide) ?_
      exact g_no
    refine g_if (fun h129 => ?_) (fun h130 => ?_)
    · refine g_tsIn F (tgt := 741) d_law_33 21 h129 (by decide) (by decide) rfl (by decide) ?_
      refine g_aload_n F d_law_741 1 rfl ?_
      refine g_aload_n F d_law_742 0 rfl ?_
      refine g_iload_n F d_law_743 3 rfl ?_
      refine g_iconst F (v := 1) d_law_744 (by decide) ?_
      refine g_iadd F d_law_745 ?_
      refine g_sld F hX hbl hbA d_law_746 ?_
      refine g_ltI (fun v152 _ => ?_)
      refine g_callV F (dp := 6) (ci := 7) (As := [.int v152]) (c_X_tightestClient l _ _ hr1 _) cv_L_102 hr1.1 rfl rfl rfl (Nat.le_of_ble_eq_true rfl) ⟨Nat.le_of_ble_eq_true rfl, Nat.le_of_ble_eq_true rfl⟩ ⟨Nat.le_of_ble_eq_true rfl, Nat.le_of_ble_eq_true rfl⟩ d_law_747 (fun r153 σ154 h131 => ?_)
      refine g_aload_n F d_law_750 2 rfl ?_
      refine g_aload_n F d_law_751 0 rfl ?_
      refine g_iload_n F d_law_752 3 rfl ?_
      refine g_iconst F (v := 1) d_law_753 (by decide) ?_
      refine g_iadd F d_law_754 ?_
      refine g_sld F hX hbl hbA d_law_755 ?_
      refine g_ltI (fun v155 _ => ?_)
      refine g_callV F (dp := 6) (ci := 8) (As := [.int v155]) (c_M_tightestClient l _ _ hr2 _) cv_L_105 hr2.1 rfl rfl rfl (Nat.le_of_ble_eq_true rfl) ⟨Nat.le_of_ble_eq_true rfl, Nat.le_of_ble_eq_true rfl⟩ ⟨Nat.le_of_ble_eq_true rfl, Nat.le_of_ble_eq_true rfl⟩ d_law_756 (fun r156 σ157 h132 => ?_)
      refine g_icmp_eq F (tgt := 764) d_law_759 (by decide) (fun h133 => ?_) (fun h134 => ?_)
      · refine g_iinc F (v := 7) (ls' := [(3, .int (x3 + 7)), (0, .ref b), (1, .ref (xa X r1)), (2, .ref (xa X r2))]) d_law_764 3 rfl (by decide) (by decide) rfl ?_
        refine g_goto F (tgt := 18) d_law_767 (by decide) ?_
        exact g_sub [1, 2, 3, 0] rfl (ih _ _)
      refine g_iconst F (v := 0) d_law_762 (by decide) ?_
      exact g_no
    refine g_tsOut F (tgt := 764) d_law_33 (by have e0 := ts_ne 0 (by decide) h4; have e1 := ts_ne 1 (by decide) h10; have e2 := ts_ne 2 (by decide) h16; have e3 := ts_ne 3 (by decide) h22; have e4 := ts_ne 4 (by decide) h28; have e5 := ts_ne 5 (by decide) h34; have e6 := ts_ne 6 (by decide) h40; have e7 := ts_ne 7 (by decide) h46; have e8 := ts_ne 8 (by decide) h52; have e9 := ts_ne 9 (by decide) h58; have e10 := ts_ne 10 (by decide) h64; have e11 := ts_ne 11 (by decide) h70; have e12 := ts_ne 12 (by decide) h76; have e13 := ts_ne 13 (by decide) h82; have e14 := ts_ne 14 (by decide) h88; have e15 := ts_ne 15 (by decide) h94; have e16 := ts_ne 16 (by decide) h100; have e17 := ts_ne 17 (by decide) h106; have e18 := ts_ne 18 (by decide) h112; have e19 := ts_ne 19 (by decide) h118; have e20 := ts_ne 20 (by decide) h124; have e21 := ts_ne 21 (by decide) h130; omega) (by decide) ?_
    refine g_iinc F (v := 7) (ls' := [(3, .int (x3 + 7)), (0, .ref b), (1, .ref (xa X r1)), (2, .ref (xa X r2))]) d_law_764 3 rfl (by decide) (by decide) rfl ?_
    refine g_goto F (tgt := 18) d_law_767 (by decide) ?_
    exact g_sub [1, 2, 3, 0] rfl (ih _ _)
set_option maxRecDepth 100000 in
set_option maxHeartbeats 4000000 in
theorem c_law {X : CX} {p : Program} {l : Launch} {e : Env} {s : State} {m : MethodId} {b : Nat} {below : List Frame} {meth : Method} {c : Code} (F : FR p s m #[Value.ref b] c code 4 "SensorHubLaw" X) (hlk : meth.locks = false) (hr : meth.sig.returnType = ret) (hA2 : ∀ q, xA X q → s.heap.size ≤ q) (L : Nat) (xs : Nat → Int32) (hX : va_X b L xs s s.heap) (hbl : b < s.heap.size) (hbA : ¬ xA X b) (hT : TopOK X 0) (hM : ModelOK X 299) (σ : Mem) : G X p l e room_1 s m #[Value.ref b] below meth c 4 308 7806 (fun (_ : Unit) (_ : Mem) => lw_Z below #[Value.ref b] s) 16 [(0, .ref b), (1, .ref (xa X 0)), (2, .ref (xa X 299))] [] σ (f_law L xs σ) := by
  unfold f_law
  refine g_iconst F (v := 0) d_law_16 (by decide) ?_
  refine g_istore_n F (ls' := [(3, .int (0 : Int32)), (0, .ref b), (1, .ref (xa X 0)), (2, .ref (xa X 299))]) d_law_17 (by decide) rfl ?_
  refine g_sub [1, 2, 3, 0] rfl (l_L_law_18 F hlk hr hA2 _ _ _ _ hX hbl hbA hT hM _ (fun σ158 => ?_) FU _ _)
  refine g_iconst F (v := 1) d_law_770 (by decide) ?_
  exact g_lawend F hlk hr hA2 (by decide) (by decide) d_law_771
