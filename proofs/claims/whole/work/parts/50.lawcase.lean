/-! the law: its loop -/
def lvL (i : Int32) : am_LV := [(3, am_I i), (0, am_R 23 0), (1, am_R 0 0), (2, am_R 32 0)]
theorem am_s1 {PR : Nat → Nat → am_O} {d : Nat} {P : Nat → am_O} {pc pc' : Nat} {op : am_O} {a a' : am_S} {r : am_Q} (hP : P pc = op) (h : op a = some (.inl (pc', a'))) (K : am_At PR d P pc' a' r) : am_At PR d P pc a r := am_go 1 (by unfold am_run; rw [hP, h]; rfl) K
theorem am_g1 {PR : Nat → Nat → am_O} {d : Nat} {P : Nat → am_O} {pc pc' : Nat} {op : am_O} {a a' : am_S} {r : am_Q} {c : Prop} [Decidable c] (hP : P pc = op) (hc : c) (h : op a = if c then some (.inl (pc', a')) else none) (K : am_At PR d P pc' a' r) : am_At PR d P pc a r := am_go 1 (by unfold am_run; rw [hP, h, if_pos hc]; rfl) K
theorem am_c1 {PR : Nat → Nat → am_O} {d : Nat} {P : Nat → am_O} {pc pc' j : Nat} {op : am_O} {a : am_S} {r : am_Q} {as : List am_V} {lv : am_LV} {st : List am_V} {M : am_W} (hP : P pc = op) (h : op a = some (.inr (.inl (j, (as, (pc', (lv, (st, M)))))))) {q : am_Q} (hq : am_Ev PR d j as M q) (K : am_At PR d P pc' (lv, (am_push q.1 st, q.2)) r) : am_At PR d P pc a r := am_cl 1 (by unfold am_run; rw [hP, h]) hq K
theorem op_si_at {xs : Nat → Int32} {L nx : Nat} {lv : am_LV} {j : Int32} {st : List am_V} {M : am_W} : op_si xs L nx (lv, (am_I j :: am_R 23 0 :: st, M)) = if am_inB j L = true then some (.inl (nx, (lv, (am_I (xs j.toNatClampNeg) :: st, M)))) else none := rfl
theorem op_ic_eq {tg nx : Nat} {lv : am_LV} {v : Int32} {st : List am_V} {M : am_W} : op_ic (fun x y => x = y) tg nx (lv, (am_I v :: am_I v :: st, M)) = some (.inl (tg, (lv, (st, M)))) := by
  show (some (Sum.inl ((if v = v then tg else nx), (lv, (st, M)))) : Option am_Z) = _
  rw [if_pos rfl]
theorem op_if_0 {tg nx : Nat} {lv : am_LV} {v : Int32} {st : List am_V} {M : am_W} (h : v = 0) : op_if (fun x => x = 0) tg nx (lv, (am_I v :: st, M)) = some (.inl (tg, (lv, (st, M)))) := by
  show (some (Sum.inl ((if v = 0 then tg else nx), (lv, (st, M)))) : Option am_Z) = _
  rw [if_pos h]
section LC
variable {xs : Nat → Int32} {L tm : Nat} {i : Int32} {x z : am_X}
set_option maxRecDepth 20000 in
theorem pr_18 : pL xs L 18 = op_li 3 19 := rfl
set_option maxRecDepth 20000 in
theorem pr_19 : pL xs L 19 = op_lr 0 20 := rfl
set_option maxRecDepth 20000 in
theorem pr_20 : pL xs L 20 = op_tl 23 L 21 := rfl
set_option maxRecDepth 20000 in
theorem pr_21 : pL xs L 21 = op_c (4) 22 := rfl
set_option maxRecDepth 20000 in
theorem pr_22 : pL xs L 22 = op_ii (fun x y => x - y) 23 := rfl
set_option maxRecDepth 20000 in
theorem pr_23 : pL xs L 23 = op_ic (fun x y => y < x) 787 26 := rfl
set_option maxRecDepth 20000 in
theorem pr_26 : pL xs L 26 = op_lr 0 27 := rfl
set_option maxRecDepth 20000 in
theorem pr_27 : pL xs L 27 = op_li 3 28 := rfl
set_option maxRecDepth 20000 in
theorem pr_28 : pL xs L 28 = op_si xs L 29 := rfl
set_option maxRecDepth 20000 in
theorem pr_29 : pL xs L 29 = op_c (31) 31 := rfl
set_option maxRecDepth 20000 in
theorem pr_31 : pL xs L 31 = op_ii (fun x y => x &&& y) 32 := rfl
set_option maxRecDepth 20000 in
theorem pr_32 : pL xs L 32 = op_sw (0) [152, 175, 188, 201, 214, 247, 270, 303, 336, 369, 402, 415, 458, 491, 504, 547, 580, 603, 626, 649, 662, 675, 718, 731, 744, 767] 781 := rfl
set_option maxRecDepth 20000 in
theorem pr_152 : pL xs L 152 = op_lr 1 153 := rfl
set_option maxRecDepth 20000 in
theorem pr_153 : pL xs L 153 = op_lr 0 154 := rfl
set_option maxRecDepth 20000 in
theorem pr_154 : pL xs L 154 = op_li 3 155 := rfl
set_option maxRecDepth 20000 in
theorem pr_155 : pL xs L 155 = op_c (1) 156 := rfl
set_option maxRecDepth 20000 in
theorem pr_156 : pL xs L 156 = op_ii (fun x y => x + y) 157 := rfl
set_option maxRecDepth 20000 in
theorem pr_157 : pL xs L 157 = op_si xs L 158 := rfl
set_option maxRecDepth 20000 in
theorem pr_158 : pL xs L 158 = op_cv 0 72 2 2 161 := rfl
set_option maxRecDepth 20000 in
theorem pr_161 : pL xs L 161 = op_lr 2 162 := rfl
set_option maxRecDepth 20000 in
theorem pr_162 : pL xs L 162 = op_lr 0 163 := rfl
set_option maxRecDepth 20000 in
theorem pr_163 : pL xs L 163 = op_li 3 164 := rfl
set_option maxRecDepth 20000 in
theorem pr_164 : pL xs L 164 = op_c (1) 165 := rfl
set_option maxRecDepth 20000 in
theorem pr_165 : pL xs L 165 = op_ii (fun x y => x + y) 166 := rfl
set_option maxRecDepth 20000 in
theorem pr_166 : pL xs L 166 = op_si xs L 167 := rfl
set_option maxRecDepth 20000 in
theorem pr_167 : pL xs L 167 = op_cv 32 110 2 2 170 := rfl
set_option maxRecDepth 20000 in
theorem pr_170 : pL xs L 170 = op_ic (fun x y => x = y) 781 173 := rfl
set_option maxRecDepth 20000 in
theorem pr_173 : pL xs L 173 = op_c (0) 174 := rfl
set_option maxRecDepth 20000 in
theorem pr_175 : pL xs L 175 = op_lr 1 176 := rfl
set_option maxRecDepth 20000 in
theorem pr_176 : pL xs L 176 = op_cv 0 73 1 2 179 := rfl
set_option maxRecDepth 20000 in
theorem pr_179 : pL xs L 179 = op_lr 2 180 := rfl
set_option maxRecDepth 20000 in
theorem pr_180 : pL xs L 180 = op_cv 32 111 1 2 183 := rfl
set_option maxRecDepth 20000 in
theorem pr_183 : pL xs L 183 = op_ic (fun x y => x = y) 781 186 := rfl
set_option maxRecDepth 20000 in
theorem pr_186 : pL xs L 186 = op_c (0) 187 := rfl
set_option maxRecDepth 20000 in
theorem pr_188 : pL xs L 188 = op_lr 1 189 := rfl
set_option maxRecDepth 20000 in
theorem pr_189 : pL xs L 189 = op_cv 0 74 1 1 192 := rfl
set_option maxRecDepth 20000 in
theorem pr_192 : pL xs L 192 = op_lr 2 193 := rfl
set_option maxRecDepth 20000 in
theorem pr_193 : pL xs L 193 = op_cv 32 115 1 1 196 := rfl
set_option maxRecDepth 20000 in
theorem pr_196 : pL xs L 196 = op_ic (fun x y => x = y) 781 199 := rfl
set_option maxRecDepth 20000 in
theorem pr_199 : pL xs L 199 = op_c (0) 200 := rfl
set_option maxRecDepth 20000 in
theorem pr_201 : pL xs L 201 = op_lr 1 202 := rfl
set_option maxRecDepth 20000 in
theorem pr_202 : pL xs L 202 = op_cv 0 75 1 1 205 := rfl
set_option maxRecDepth 20000 in
theorem pr_205 : pL xs L 205 = op_lr 2 206 := rfl
set_option maxRecDepth 20000 in
theorem pr_206 : pL xs L 206 = op_cv 32 116 1 3 209 := rfl
set_option maxRecDepth 20000 in
theorem pr_209 : pL xs L 209 = op_ic (fun x y => x = y) 781 212 := rfl
set_option maxRecDepth 20000 in
theorem pr_212 : pL xs L 212 = op_c (0) 213 := rfl
set_option maxRecDepth 20000 in
theorem pr_214 : pL xs L 214 = op_lr 1 215 := rfl
set_option maxRecDepth 20000 in
theorem pr_215 : pL xs L 215 = op_lr 0 216 := rfl
set_option maxRecDepth 20000 in
theorem pr_216 : pL xs L 216 = op_li 3 217 := rfl
set_option maxRecDepth 20000 in
theorem pr_217 : pL xs L 217 = op_c (1) 218 := rfl
set_option maxRecDepth 20000 in
theorem pr_218 : pL xs L 218 = op_ii (fun x y => x + y) 219 := rfl
set_option maxRecDepth 20000 in
theorem pr_219 : pL xs L 219 = op_si xs L 220 := rfl
set_option maxRecDepth 20000 in
theorem pr_220 : pL xs L 220 = op_lr 0 221 := rfl
set_option maxRecDepth 20000 in
theorem pr_221 : pL xs L 221 = op_li 3 222 := rfl
set_option maxRecDepth 20000 in
theorem pr_222 : pL xs L 222 = op_c (2) 223 := rfl
set_option maxRecDepth 20000 in
theorem pr_223 : pL xs L 223 = op_ii (fun x y => x + y) 224 := rfl
set_option maxRecDepth 20000 in
theorem pr_224 : pL xs L 224 = op_si xs L 225 := rfl
set_option maxRecDepth 20000 in
theorem pr_225 : pL xs L 225 = op_cv 0 76 3 3 228 := rfl
set_option maxRecDepth 20000 in
theorem pr_228 : pL xs L 228 = op_lr 2 229 := rfl
set_option maxRecDepth 20000 in
theorem pr_229 : pL xs L 229 = op_lr 0 230 := rfl
set_option maxRecDepth 20000 in
theorem pr_230 : pL xs L 230 = op_li 3 231 := rfl
set_option maxRecDepth 20000 in
theorem pr_231 : pL xs L 231 = op_c (1) 232 := rfl
set_option maxRecDepth 20000 in
theorem pr_232 : pL xs L 232 = op_ii (fun x y => x + y) 233 := rfl
set_option maxRecDepth 20000 in
theorem pr_233 : pL xs L 233 = op_si xs L 234 := rfl
set_option maxRecDepth 20000 in
theorem pr_234 : pL xs L 234 = op_lr 0 235 := rfl
set_option maxRecDepth 20000 in
theorem pr_235 : pL xs L 235 = op_li 3 236 := rfl
set_option maxRecDepth 20000 in
theorem pr_236 : pL xs L 236 = op_c (2) 237 := rfl
set_option maxRecDepth 20000 in
theorem pr_237 : pL xs L 237 = op_ii (fun x y => x + y) 238 := rfl
set_option maxRecDepth 20000 in
theorem pr_238 : pL xs L 238 = op_si xs L 239 := rfl
set_option maxRecDepth 20000 in
theorem pr_239 : pL xs L 239 = op_cv 32 119 3 3 242 := rfl
set_option maxRecDepth 20000 in
theorem pr_242 : pL xs L 242 = op_ic (fun x y => x = y) 781 245 := rfl
set_option maxRecDepth 20000 in
theorem pr_245 : pL xs L 245 = op_c (0) 246 := rfl
set_option maxRecDepth 20000 in
theorem pr_247 : pL xs L 247 = op_lr 1 248 := rfl
set_option maxRecDepth 20000 in
theorem pr_248 : pL xs L 248 = op_lr 0 249 := rfl
set_option maxRecDepth 20000 in
theorem pr_249 : pL xs L 249 = op_li 3 250 := rfl
set_option maxRecDepth 20000 in
theorem pr_250 : pL xs L 250 = op_c (1) 251 := rfl
set_option maxRecDepth 20000 in
theorem pr_251 : pL xs L 251 = op_ii (fun x y => x + y) 252 := rfl
set_option maxRecDepth 20000 in
theorem pr_252 : pL xs L 252 = op_si xs L 253 := rfl
set_option maxRecDepth 20000 in
theorem pr_253 : pL xs L 253 = op_cv 0 77 2 2 256 := rfl
set_option maxRecDepth 20000 in
theorem pr_256 : pL xs L 256 = op_lr 2 257 := rfl
set_option maxRecDepth 20000 in
theorem pr_257 : pL xs L 257 = op_lr 0 258 := rfl
set_option maxRecDepth 20000 in
theorem pr_258 : pL xs L 258 = op_li 3 259 := rfl
set_option maxRecDepth 20000 in
theorem pr_259 : pL xs L 259 = op_c (1) 260 := rfl
set_option maxRecDepth 20000 in
theorem pr_260 : pL xs L 260 = op_ii (fun x y => x + y) 261 := rfl
set_option maxRecDepth 20000 in
theorem pr_261 : pL xs L 261 = op_si xs L 262 := rfl
set_option maxRecDepth 20000 in
theorem pr_262 : pL xs L 262 = op_cv 32 127 2 2 265 := rfl
set_option maxRecDepth 20000 in
theorem pr_265 : pL xs L 265 = op_ic (fun x y => x = y) 781 268 := rfl
set_option maxRecDepth 20000 in
theorem pr_268 : pL xs L 268 = op_c (0) 269 := rfl
set_option maxRecDepth 20000 in
theorem pr_270 : pL xs L 270 = op_lr 1 271 := rfl
set_option maxRecDepth 20000 in
theorem pr_271 : pL xs L 271 = op_lr 0 272 := rfl
set_option maxRecDepth 20000 in
theorem pr_272 : pL xs L 272 = op_li 3 273 := rfl
set_option maxRecDepth 20000 in
theorem pr_273 : pL xs L 273 = op_c (1) 274 := rfl
set_option maxRecDepth 20000 in
theorem pr_274 : pL xs L 274 = op_ii (fun x y => x + y) 275 := rfl
set_option maxRecDepth 20000 in
theorem pr_275 : pL xs L 275 = op_si xs L 276 := rfl
set_option maxRecDepth 20000 in
theorem pr_276 : pL xs L 276 = op_lr 0 277 := rfl
set_option maxRecDepth 20000 in
theorem pr_277 : pL xs L 277 = op_li 3 278 := rfl
set_option maxRecDepth 20000 in
theorem pr_278 : pL xs L 278 = op_c (2) 279 := rfl
set_option maxRecDepth 20000 in
theorem pr_279 : pL xs L 279 = op_ii (fun x y => x + y) 280 := rfl
set_option maxRecDepth 20000 in
theorem pr_280 : pL xs L 280 = op_si xs L 281 := rfl
set_option maxRecDepth 20000 in
theorem pr_281 : pL xs L 281 = op_cv 0 78 3 3 284 := rfl
set_option maxRecDepth 20000 in
theorem pr_284 : pL xs L 284 = op_lr 2 285 := rfl
set_option maxRecDepth 20000 in
theorem pr_285 : pL xs L 285 = op_lr 0 286 := rfl
set_option maxRecDepth 20000 in
theorem pr_286 : pL xs L 286 = op_li 3 287 := rfl
set_option maxRecDepth 20000 in
theorem pr_287 : pL xs L 287 = op_c (1) 288 := rfl
set_option maxRecDepth 20000 in
theorem pr_288 : pL xs L 288 = op_ii (fun x y => x + y) 289 := rfl
set_option maxRecDepth 20000 in
theorem pr_289 : pL xs L 289 = op_si xs L 290 := rfl
set_option maxRecDepth 20000 in
theorem pr_290 : pL xs L 290 = op_lr 0 291 := rfl
set_option maxRecDepth 20000 in
theorem pr_291 : pL xs L 291 = op_li 3 292 := rfl
set_option maxRecDepth 20000 in
theorem pr_292 : pL xs L 292 = op_c (2) 293 := rfl
set_option maxRecDepth 20000 in
theorem pr_293 : pL xs L 293 = op_ii (fun x y => x + y) 294 := rfl
set_option maxRecDepth 20000 in
theorem pr_294 : pL xs L 294 = op_si xs L 295 := rfl
set_option maxRecDepth 20000 in
theorem pr_295 : pL xs L 295 = op_cv 32 129 3 3 298 := rfl
set_option maxRecDepth 20000 in
theorem pr_298 : pL xs L 298 = op_ic (fun x y => x = y) 781 301 := rfl
set_option maxRecDepth 20000 in
theorem pr_301 : pL xs L 301 = op_c (0) 302 := rfl
set_option maxRecDepth 20000 in
theorem pr_303 : pL xs L 303 = op_lr 1 304 := rfl
set_option maxRecDepth 20000 in
theorem pr_304 : pL xs L 304 = op_lr 0 305 := rfl
set_option maxRecDepth 20000 in
theorem pr_305 : pL xs L 305 = op_li 3 306 := rfl
set_option maxRecDepth 20000 in
theorem pr_306 : pL xs L 306 = op_c (1) 307 := rfl
set_option maxRecDepth 20000 in
theorem pr_307 : pL xs L 307 = op_ii (fun x y => x + y) 308 := rfl
set_option maxRecDepth 20000 in
theorem pr_308 : pL xs L 308 = op_si xs L 309 := rfl
set_option maxRecDepth 20000 in
theorem pr_309 : pL xs L 309 = op_lr 0 310 := rfl
set_option maxRecDepth 20000 in
theorem pr_310 : pL xs L 310 = op_li 3 311 := rfl
set_option maxRecDepth 20000 in
theorem pr_311 : pL xs L 311 = op_c (2) 312 := rfl
set_option maxRecDepth 20000 in
theorem pr_312 : pL xs L 312 = op_ii (fun x y => x + y) 313 := rfl
set_option maxRecDepth 20000 in
theorem pr_313 : pL xs L 313 = op_si xs L 314 := rfl
set_option maxRecDepth 20000 in
theorem pr_314 : pL xs L 314 = op_cv 0 79 3 3 317 := rfl
set_option maxRecDepth 20000 in
theorem pr_317 : pL xs L 317 = op_lr 2 318 := rfl
set_option maxRecDepth 20000 in
theorem pr_318 : pL xs L 318 = op_lr 0 319 := rfl
set_option maxRecDepth 20000 in
theorem pr_319 : pL xs L 319 = op_li 3 320 := rfl
set_option maxRecDepth 20000 in
theorem pr_320 : pL xs L 320 = op_c (1) 321 := rfl
set_option maxRecDepth 20000 in
theorem pr_321 : pL xs L 321 = op_ii (fun x y => x + y) 322 := rfl
set_option maxRecDepth 20000 in
theorem pr_322 : pL xs L 322 = op_si xs L 323 := rfl
set_option maxRecDepth 20000 in
theorem pr_323 : pL xs L 323 = op_lr 0 324 := rfl
set_option maxRecDepth 20000 in
theorem pr_324 : pL xs L 324 = op_li 3 325 := rfl
set_option maxRecDepth 20000 in
theorem pr_325 : pL xs L 325 = op_c (2) 326 := rfl
set_option maxRecDepth 20000 in
theorem pr_326 : pL xs L 326 = op_ii (fun x y => x + y) 327 := rfl
set_option maxRecDepth 20000 in
theorem pr_327 : pL xs L 327 = op_si xs L 328 := rfl
set_option maxRecDepth 20000 in
theorem pr_328 : pL xs L 328 = op_cv 32 130 3 4 331 := rfl
set_option maxRecDepth 20000 in
theorem pr_331 : pL xs L 331 = op_ic (fun x y => x = y) 781 334 := rfl
set_option maxRecDepth 20000 in
theorem pr_334 : pL xs L 334 = op_c (0) 335 := rfl
set_option maxRecDepth 20000 in
theorem pr_336 : pL xs L 336 = op_lr 1 337 := rfl
set_option maxRecDepth 20000 in
theorem pr_337 : pL xs L 337 = op_lr 0 338 := rfl
set_option maxRecDepth 20000 in
theorem pr_338 : pL xs L 338 = op_li 3 339 := rfl
set_option maxRecDepth 20000 in
theorem pr_339 : pL xs L 339 = op_c (1) 340 := rfl
set_option maxRecDepth 20000 in
theorem pr_340 : pL xs L 340 = op_ii (fun x y => x + y) 341 := rfl
set_option maxRecDepth 20000 in
theorem pr_341 : pL xs L 341 = op_si xs L 342 := rfl
set_option maxRecDepth 20000 in
theorem pr_342 : pL xs L 342 = op_lr 0 343 := rfl
set_option maxRecDepth 20000 in
theorem pr_343 : pL xs L 343 = op_li 3 344 := rfl
set_option maxRecDepth 20000 in
theorem pr_344 : pL xs L 344 = op_c (2) 345 := rfl
set_option maxRecDepth 20000 in
theorem pr_345 : pL xs L 345 = op_ii (fun x y => x + y) 346 := rfl
set_option maxRecDepth 20000 in
theorem pr_346 : pL xs L 346 = op_si xs L 347 := rfl
set_option maxRecDepth 20000 in
theorem pr_347 : pL xs L 347 = op_cv 0 80 3 3 350 := rfl
set_option maxRecDepth 20000 in
theorem pr_350 : pL xs L 350 = op_lr 2 351 := rfl
set_option maxRecDepth 20000 in
theorem pr_351 : pL xs L 351 = op_lr 0 352 := rfl
set_option maxRecDepth 20000 in
theorem pr_352 : pL xs L 352 = op_li 3 353 := rfl
set_option maxRecDepth 20000 in
theorem pr_353 : pL xs L 353 = op_c (1) 354 := rfl
set_option maxRecDepth 20000 in
theorem pr_354 : pL xs L 354 = op_ii (fun x y => x + y) 355 := rfl
set_option maxRecDepth 20000 in
theorem pr_355 : pL xs L 355 = op_si xs L 356 := rfl
set_option maxRecDepth 20000 in
theorem pr_356 : pL xs L 356 = op_lr 0 357 := rfl
set_option maxRecDepth 20000 in
theorem pr_357 : pL xs L 357 = op_li 3 358 := rfl
set_option maxRecDepth 20000 in
theorem pr_358 : pL xs L 358 = op_c (2) 359 := rfl
set_option maxRecDepth 20000 in
theorem pr_359 : pL xs L 359 = op_ii (fun x y => x + y) 360 := rfl
set_option maxRecDepth 20000 in
theorem pr_360 : pL xs L 360 = op_si xs L 361 := rfl
set_option maxRecDepth 20000 in
theorem pr_361 : pL xs L 361 = op_cv 32 139 3 3 364 := rfl
set_option maxRecDepth 20000 in
theorem pr_364 : pL xs L 364 = op_ic (fun x y => x = y) 781 367 := rfl
set_option maxRecDepth 20000 in
theorem pr_367 : pL xs L 367 = op_c (0) 368 := rfl
set_option maxRecDepth 20000 in
theorem pr_369 : pL xs L 369 = op_lr 1 370 := rfl
set_option maxRecDepth 20000 in
theorem pr_370 : pL xs L 370 = op_lr 0 371 := rfl
set_option maxRecDepth 20000 in
theorem pr_371 : pL xs L 371 = op_li 3 372 := rfl
set_option maxRecDepth 20000 in
theorem pr_372 : pL xs L 372 = op_c (1) 373 := rfl
set_option maxRecDepth 20000 in
theorem pr_373 : pL xs L 373 = op_ii (fun x y => x + y) 374 := rfl
set_option maxRecDepth 20000 in
theorem pr_374 : pL xs L 374 = op_si xs L 375 := rfl
set_option maxRecDepth 20000 in
theorem pr_375 : pL xs L 375 = op_lr 0 376 := rfl
set_option maxRecDepth 20000 in
theorem pr_376 : pL xs L 376 = op_li 3 377 := rfl
set_option maxRecDepth 20000 in
theorem pr_377 : pL xs L 377 = op_c (2) 378 := rfl
set_option maxRecDepth 20000 in
theorem pr_378 : pL xs L 378 = op_ii (fun x y => x + y) 379 := rfl
set_option maxRecDepth 20000 in
theorem pr_379 : pL xs L 379 = op_si xs L 380 := rfl
set_option maxRecDepth 20000 in
theorem pr_380 : pL xs L 380 = op_cv 0 81 3 4 383 := rfl
set_option maxRecDepth 20000 in
theorem pr_383 : pL xs L 383 = op_lr 2 384 := rfl
set_option maxRecDepth 20000 in
theorem pr_384 : pL xs L 384 = op_lr 0 385 := rfl
set_option maxRecDepth 20000 in
theorem pr_385 : pL xs L 385 = op_li 3 386 := rfl
set_option maxRecDepth 20000 in
theorem pr_386 : pL xs L 386 = op_c (1) 387 := rfl
set_option maxRecDepth 20000 in
theorem pr_387 : pL xs L 387 = op_ii (fun x y => x + y) 388 := rfl
set_option maxRecDepth 20000 in
theorem pr_388 : pL xs L 388 = op_si xs L 389 := rfl
set_option maxRecDepth 20000 in
theorem pr_389 : pL xs L 389 = op_lr 0 390 := rfl
set_option maxRecDepth 20000 in
theorem pr_390 : pL xs L 390 = op_li 3 391 := rfl
set_option maxRecDepth 20000 in
theorem pr_391 : pL xs L 391 = op_c (2) 392 := rfl
set_option maxRecDepth 20000 in
theorem pr_392 : pL xs L 392 = op_ii (fun x y => x + y) 393 := rfl
set_option maxRecDepth 20000 in
theorem pr_393 : pL xs L 393 = op_si xs L 394 := rfl
set_option maxRecDepth 20000 in
theorem pr_394 : pL xs L 394 = op_cv 32 140 3 3 397 := rfl
set_option maxRecDepth 20000 in
theorem pr_397 : pL xs L 397 = op_ic (fun x y => x = y) 781 400 := rfl
set_option maxRecDepth 20000 in
theorem pr_400 : pL xs L 400 = op_c (0) 401 := rfl
set_option maxRecDepth 20000 in
theorem pr_402 : pL xs L 402 = op_lr 1 403 := rfl
set_option maxRecDepth 20000 in
theorem pr_403 : pL xs L 403 = op_cv 0 82 1 1 406 := rfl
set_option maxRecDepth 20000 in
theorem pr_406 : pL xs L 406 = op_lr 2 407 := rfl
set_option maxRecDepth 20000 in
theorem pr_407 : pL xs L 407 = op_cv 32 142 1 1 410 := rfl
set_option maxRecDepth 20000 in
theorem pr_410 : pL xs L 410 = op_ic (fun x y => x = y) 781 413 := rfl
set_option maxRecDepth 20000 in
theorem pr_413 : pL xs L 413 = op_c (0) 414 := rfl
set_option maxRecDepth 20000 in
theorem pr_415 : pL xs L 415 = op_lr 1 416 := rfl
set_option maxRecDepth 20000 in
theorem pr_416 : pL xs L 416 = op_lr 0 417 := rfl
set_option maxRecDepth 20000 in
theorem pr_417 : pL xs L 417 = op_li 3 418 := rfl
set_option maxRecDepth 20000 in
theorem pr_418 : pL xs L 418 = op_c (1) 419 := rfl
set_option maxRecDepth 20000 in
theorem pr_419 : pL xs L 419 = op_ii (fun x y => x + y) 420 := rfl
set_option maxRecDepth 20000 in
theorem pr_420 : pL xs L 420 = op_si xs L 421 := rfl
set_option maxRecDepth 20000 in
theorem pr_421 : pL xs L 421 = op_lr 0 422 := rfl
set_option maxRecDepth 20000 in
theorem pr_422 : pL xs L 422 = op_li 3 423 := rfl
set_option maxRecDepth 20000 in
theorem pr_423 : pL xs L 423 = op_c (2) 424 := rfl
set_option maxRecDepth 20000 in
theorem pr_424 : pL xs L 424 = op_ii (fun x y => x + y) 425 := rfl
set_option maxRecDepth 20000 in
theorem pr_425 : pL xs L 425 = op_si xs L 426 := rfl
set_option maxRecDepth 20000 in
theorem pr_426 : pL xs L 426 = op_lr 0 427 := rfl
set_option maxRecDepth 20000 in
theorem pr_427 : pL xs L 427 = op_li 3 428 := rfl
set_option maxRecDepth 20000 in
theorem pr_428 : pL xs L 428 = op_c (3) 429 := rfl
set_option maxRecDepth 20000 in
theorem pr_429 : pL xs L 429 = op_ii (fun x y => x + y) 430 := rfl
set_option maxRecDepth 20000 in
theorem pr_430 : pL xs L 430 = op_si xs L 431 := rfl
set_option maxRecDepth 20000 in
theorem pr_431 : pL xs L 431 = op_cv 0 83 4 7 434 := rfl
set_option maxRecDepth 20000 in
theorem pr_434 : pL xs L 434 = op_lr 2 435 := rfl
set_option maxRecDepth 20000 in
theorem pr_435 : pL xs L 435 = op_lr 0 436 := rfl
set_option maxRecDepth 20000 in
theorem pr_436 : pL xs L 436 = op_li 3 437 := rfl
set_option maxRecDepth 20000 in
theorem pr_437 : pL xs L 437 = op_c (1) 438 := rfl
set_option maxRecDepth 20000 in
theorem pr_438 : pL xs L 438 = op_ii (fun x y => x + y) 439 := rfl
set_option maxRecDepth 20000 in
theorem pr_439 : pL xs L 439 = op_si xs L 440 := rfl
set_option maxRecDepth 20000 in
theorem pr_440 : pL xs L 440 = op_lr 0 441 := rfl
set_option maxRecDepth 20000 in
theorem pr_441 : pL xs L 441 = op_li 3 442 := rfl
set_option maxRecDepth 20000 in
theorem pr_442 : pL xs L 442 = op_c (2) 443 := rfl
set_option maxRecDepth 20000 in
theorem pr_443 : pL xs L 443 = op_ii (fun x y => x + y) 444 := rfl
set_option maxRecDepth 20000 in
theorem pr_444 : pL xs L 444 = op_si xs L 445 := rfl
set_option maxRecDepth 20000 in
theorem pr_445 : pL xs L 445 = op_lr 0 446 := rfl
set_option maxRecDepth 20000 in
theorem pr_446 : pL xs L 446 = op_li 3 447 := rfl
set_option maxRecDepth 20000 in
theorem pr_447 : pL xs L 447 = op_c (3) 448 := rfl
set_option maxRecDepth 20000 in
theorem pr_448 : pL xs L 448 = op_ii (fun x y => x + y) 449 := rfl
set_option maxRecDepth 20000 in
theorem pr_449 : pL xs L 449 = op_si xs L 450 := rfl
set_option maxRecDepth 20000 in
theorem pr_450 : pL xs L 450 = op_cv 32 143 4 5 453 := rfl
set_option maxRecDepth 20000 in
theorem pr_453 : pL xs L 453 = op_ic (fun x y => x = y) 781 456 := rfl
set_option maxRecDepth 20000 in
theorem pr_456 : pL xs L 456 = op_c (0) 457 := rfl
set_option maxRecDepth 20000 in
theorem pr_458 : pL xs L 458 = op_lr 1 459 := rfl
set_option maxRecDepth 20000 in
theorem pr_459 : pL xs L 459 = op_lr 0 460 := rfl
set_option maxRecDepth 20000 in
theorem pr_460 : pL xs L 460 = op_li 3 461 := rfl
set_option maxRecDepth 20000 in
theorem pr_461 : pL xs L 461 = op_c (1) 462 := rfl
set_option maxRecDepth 20000 in
theorem pr_462 : pL xs L 462 = op_ii (fun x y => x + y) 463 := rfl
set_option maxRecDepth 20000 in
theorem pr_463 : pL xs L 463 = op_si xs L 464 := rfl
set_option maxRecDepth 20000 in
theorem pr_464 : pL xs L 464 = op_lr 0 465 := rfl
set_option maxRecDepth 20000 in
theorem pr_465 : pL xs L 465 = op_li 3 466 := rfl
set_option maxRecDepth 20000 in
theorem pr_466 : pL xs L 466 = op_c (2) 467 := rfl
set_option maxRecDepth 20000 in
theorem pr_467 : pL xs L 467 = op_ii (fun x y => x + y) 468 := rfl
set_option maxRecDepth 20000 in
theorem pr_468 : pL xs L 468 = op_si xs L 469 := rfl
set_option maxRecDepth 20000 in
theorem pr_469 : pL xs L 469 = op_cv 0 84 3 4 472 := rfl
set_option maxRecDepth 20000 in
theorem pr_472 : pL xs L 472 = op_lr 2 473 := rfl
set_option maxRecDepth 20000 in
theorem pr_473 : pL xs L 473 = op_lr 0 474 := rfl
set_option maxRecDepth 20000 in
theorem pr_474 : pL xs L 474 = op_li 3 475 := rfl
set_option maxRecDepth 20000 in
theorem pr_475 : pL xs L 475 = op_c (1) 476 := rfl
set_option maxRecDepth 20000 in
theorem pr_476 : pL xs L 476 = op_ii (fun x y => x + y) 477 := rfl
set_option maxRecDepth 20000 in
theorem pr_477 : pL xs L 477 = op_si xs L 478 := rfl
set_option maxRecDepth 20000 in
theorem pr_478 : pL xs L 478 = op_lr 0 479 := rfl
set_option maxRecDepth 20000 in
theorem pr_479 : pL xs L 479 = op_li 3 480 := rfl
set_option maxRecDepth 20000 in
theorem pr_480 : pL xs L 480 = op_c (2) 481 := rfl
set_option maxRecDepth 20000 in
theorem pr_481 : pL xs L 481 = op_ii (fun x y => x + y) 482 := rfl
set_option maxRecDepth 20000 in
theorem pr_482 : pL xs L 482 = op_si xs L 483 := rfl
set_option maxRecDepth 20000 in
theorem pr_483 : pL xs L 483 = op_cv 32 144 3 5 486 := rfl
set_option maxRecDepth 20000 in
theorem pr_486 : pL xs L 486 = op_ic (fun x y => x = y) 781 489 := rfl
set_option maxRecDepth 20000 in
theorem pr_489 : pL xs L 489 = op_c (0) 490 := rfl
set_option maxRecDepth 20000 in
theorem pr_491 : pL xs L 491 = op_lr 1 492 := rfl
set_option maxRecDepth 20000 in
theorem pr_492 : pL xs L 492 = op_cv 0 85 1 1 495 := rfl
set_option maxRecDepth 20000 in
theorem pr_495 : pL xs L 495 = op_lr 2 496 := rfl
set_option maxRecDepth 20000 in
theorem pr_496 : pL xs L 496 = op_cv 32 146 1 3 499 := rfl
set_option maxRecDepth 20000 in
theorem pr_499 : pL xs L 499 = op_ic (fun x y => x = y) 781 502 := rfl
set_option maxRecDepth 20000 in
theorem pr_502 : pL xs L 502 = op_c (0) 503 := rfl
set_option maxRecDepth 20000 in
theorem pr_504 : pL xs L 504 = op_lr 1 505 := rfl
set_option maxRecDepth 20000 in
theorem pr_505 : pL xs L 505 = op_lr 0 506 := rfl
set_option maxRecDepth 20000 in
theorem pr_506 : pL xs L 506 = op_li 3 507 := rfl
set_option maxRecDepth 20000 in
theorem pr_507 : pL xs L 507 = op_c (1) 508 := rfl
set_option maxRecDepth 20000 in
theorem pr_508 : pL xs L 508 = op_ii (fun x y => x + y) 509 := rfl
set_option maxRecDepth 20000 in
theorem pr_509 : pL xs L 509 = op_si xs L 510 := rfl
set_option maxRecDepth 20000 in
theorem pr_510 : pL xs L 510 = op_lr 0 511 := rfl
set_option maxRecDepth 20000 in
theorem pr_511 : pL xs L 511 = op_li 3 512 := rfl
set_option maxRecDepth 20000 in
theorem pr_512 : pL xs L 512 = op_c (2) 513 := rfl
set_option maxRecDepth 20000 in
theorem pr_513 : pL xs L 513 = op_ii (fun x y => x + y) 514 := rfl
set_option maxRecDepth 20000 in
theorem pr_514 : pL xs L 514 = op_si xs L 515 := rfl
set_option maxRecDepth 20000 in
theorem pr_515 : pL xs L 515 = op_lr 0 516 := rfl
set_option maxRecDepth 20000 in
theorem pr_516 : pL xs L 516 = op_li 3 517 := rfl
set_option maxRecDepth 20000 in
theorem pr_517 : pL xs L 517 = op_c (3) 518 := rfl
set_option maxRecDepth 20000 in
theorem pr_518 : pL xs L 518 = op_ii (fun x y => x + y) 519 := rfl
set_option maxRecDepth 20000 in
theorem pr_519 : pL xs L 519 = op_si xs L 520 := rfl
set_option maxRecDepth 20000 in
theorem pr_520 : pL xs L 520 = op_cv 0 86 4 4 523 := rfl
set_option maxRecDepth 20000 in
theorem pr_523 : pL xs L 523 = op_lr 2 524 := rfl
set_option maxRecDepth 20000 in
theorem pr_524 : pL xs L 524 = op_lr 0 525 := rfl
set_option maxRecDepth 20000 in
theorem pr_525 : pL xs L 525 = op_li 3 526 := rfl
set_option maxRecDepth 20000 in
theorem pr_526 : pL xs L 526 = op_c (1) 527 := rfl
set_option maxRecDepth 20000 in
theorem pr_527 : pL xs L 527 = op_ii (fun x y => x + y) 528 := rfl
set_option maxRecDepth 20000 in
theorem pr_528 : pL xs L 528 = op_si xs L 529 := rfl
set_option maxRecDepth 20000 in
theorem pr_529 : pL xs L 529 = op_lr 0 530 := rfl
set_option maxRecDepth 20000 in
theorem pr_530 : pL xs L 530 = op_li 3 531 := rfl
set_option maxRecDepth 20000 in
theorem pr_531 : pL xs L 531 = op_c (2) 532 := rfl
set_option maxRecDepth 20000 in
theorem pr_532 : pL xs L 532 = op_ii (fun x y => x + y) 533 := rfl
set_option maxRecDepth 20000 in
theorem pr_533 : pL xs L 533 = op_si xs L 534 := rfl
set_option maxRecDepth 20000 in
theorem pr_534 : pL xs L 534 = op_lr 0 535 := rfl
set_option maxRecDepth 20000 in
theorem pr_535 : pL xs L 535 = op_li 3 536 := rfl
set_option maxRecDepth 20000 in
theorem pr_536 : pL xs L 536 = op_c (3) 537 := rfl
set_option maxRecDepth 20000 in
theorem pr_537 : pL xs L 537 = op_ii (fun x y => x + y) 538 := rfl
set_option maxRecDepth 20000 in
theorem pr_538 : pL xs L 538 = op_si xs L 539 := rfl
set_option maxRecDepth 20000 in
theorem pr_539 : pL xs L 539 = op_cv 32 153 4 4 542 := rfl
set_option maxRecDepth 20000 in
theorem pr_542 : pL xs L 542 = op_ic (fun x y => x = y) 781 545 := rfl
set_option maxRecDepth 20000 in
theorem pr_545 : pL xs L 545 = op_c (0) 546 := rfl
set_option maxRecDepth 20000 in
theorem pr_547 : pL xs L 547 = op_lr 1 548 := rfl
set_option maxRecDepth 20000 in
theorem pr_548 : pL xs L 548 = op_lr 0 549 := rfl
set_option maxRecDepth 20000 in
theorem pr_549 : pL xs L 549 = op_li 3 550 := rfl
set_option maxRecDepth 20000 in
theorem pr_550 : pL xs L 550 = op_c (1) 551 := rfl
set_option maxRecDepth 20000 in
theorem pr_551 : pL xs L 551 = op_ii (fun x y => x + y) 552 := rfl
set_option maxRecDepth 20000 in
theorem pr_552 : pL xs L 552 = op_si xs L 553 := rfl
set_option maxRecDepth 20000 in
theorem pr_553 : pL xs L 553 = op_lr 0 554 := rfl
set_option maxRecDepth 20000 in
theorem pr_554 : pL xs L 554 = op_li 3 555 := rfl
set_option maxRecDepth 20000 in
theorem pr_555 : pL xs L 555 = op_c (2) 556 := rfl
set_option maxRecDepth 20000 in
theorem pr_556 : pL xs L 556 = op_ii (fun x y => x + y) 557 := rfl
set_option maxRecDepth 20000 in
theorem pr_557 : pL xs L 557 = op_si xs L 558 := rfl
set_option maxRecDepth 20000 in
theorem pr_558 : pL xs L 558 = op_cv 0 87 3 6 561 := rfl
set_option maxRecDepth 20000 in
theorem pr_561 : pL xs L 561 = op_lr 2 562 := rfl
set_option maxRecDepth 20000 in
theorem pr_562 : pL xs L 562 = op_lr 0 563 := rfl
set_option maxRecDepth 20000 in
theorem pr_563 : pL xs L 563 = op_li 3 564 := rfl
set_option maxRecDepth 20000 in
theorem pr_564 : pL xs L 564 = op_c (1) 565 := rfl
set_option maxRecDepth 20000 in
theorem pr_565 : pL xs L 565 = op_ii (fun x y => x + y) 566 := rfl
set_option maxRecDepth 20000 in
theorem pr_566 : pL xs L 566 = op_si xs L 567 := rfl
set_option maxRecDepth 20000 in
theorem pr_567 : pL xs L 567 = op_lr 0 568 := rfl
set_option maxRecDepth 20000 in
theorem pr_568 : pL xs L 568 = op_li 3 569 := rfl
set_option maxRecDepth 20000 in
theorem pr_569 : pL xs L 569 = op_c (2) 570 := rfl
set_option maxRecDepth 20000 in
theorem pr_570 : pL xs L 570 = op_ii (fun x y => x + y) 571 := rfl
set_option maxRecDepth 20000 in
theorem pr_571 : pL xs L 571 = op_si xs L 572 := rfl
set_option maxRecDepth 20000 in
theorem pr_572 : pL xs L 572 = op_cv 32 157 3 3 575 := rfl
set_option maxRecDepth 20000 in
theorem pr_575 : pL xs L 575 = op_ic (fun x y => x = y) 781 578 := rfl
set_option maxRecDepth 20000 in
theorem pr_578 : pL xs L 578 = op_c (0) 579 := rfl
set_option maxRecDepth 20000 in
theorem pr_580 : pL xs L 580 = op_lr 1 581 := rfl
set_option maxRecDepth 20000 in
theorem pr_581 : pL xs L 581 = op_lr 0 582 := rfl
set_option maxRecDepth 20000 in
theorem pr_582 : pL xs L 582 = op_li 3 583 := rfl
set_option maxRecDepth 20000 in
theorem pr_583 : pL xs L 583 = op_c (1) 584 := rfl
set_option maxRecDepth 20000 in
theorem pr_584 : pL xs L 584 = op_ii (fun x y => x + y) 585 := rfl
set_option maxRecDepth 20000 in
theorem pr_585 : pL xs L 585 = op_si xs L 586 := rfl
set_option maxRecDepth 20000 in
theorem pr_586 : pL xs L 586 = op_cv 0 88 2 3 589 := rfl
set_option maxRecDepth 20000 in
theorem pr_589 : pL xs L 589 = op_lr 2 590 := rfl
set_option maxRecDepth 20000 in
theorem pr_590 : pL xs L 590 = op_lr 0 591 := rfl
set_option maxRecDepth 20000 in
theorem pr_591 : pL xs L 591 = op_li 3 592 := rfl
set_option maxRecDepth 20000 in
theorem pr_592 : pL xs L 592 = op_c (1) 593 := rfl
set_option maxRecDepth 20000 in
theorem pr_593 : pL xs L 593 = op_ii (fun x y => x + y) 594 := rfl
set_option maxRecDepth 20000 in
theorem pr_594 : pL xs L 594 = op_si xs L 595 := rfl
set_option maxRecDepth 20000 in
theorem pr_595 : pL xs L 595 = op_cv 32 160 2 2 598 := rfl
set_option maxRecDepth 20000 in
theorem pr_598 : pL xs L 598 = op_ic (fun x y => x = y) 781 601 := rfl
set_option maxRecDepth 20000 in
theorem pr_601 : pL xs L 601 = op_c (0) 602 := rfl
set_option maxRecDepth 20000 in
theorem pr_603 : pL xs L 603 = op_lr 1 604 := rfl
set_option maxRecDepth 20000 in
theorem pr_604 : pL xs L 604 = op_lr 0 605 := rfl
set_option maxRecDepth 20000 in
theorem pr_605 : pL xs L 605 = op_li 3 606 := rfl
set_option maxRecDepth 20000 in
theorem pr_606 : pL xs L 606 = op_c (1) 607 := rfl
set_option maxRecDepth 20000 in
theorem pr_607 : pL xs L 607 = op_ii (fun x y => x + y) 608 := rfl
set_option maxRecDepth 20000 in
theorem pr_608 : pL xs L 608 = op_si xs L 609 := rfl
set_option maxRecDepth 20000 in
theorem pr_609 : pL xs L 609 = op_cv 0 89 2 3 612 := rfl
set_option maxRecDepth 20000 in
theorem pr_612 : pL xs L 612 = op_lr 2 613 := rfl
set_option maxRecDepth 20000 in
theorem pr_613 : pL xs L 613 = op_lr 0 614 := rfl
set_option maxRecDepth 20000 in
theorem pr_614 : pL xs L 614 = op_li 3 615 := rfl
set_option maxRecDepth 20000 in
theorem pr_615 : pL xs L 615 = op_c (1) 616 := rfl
set_option maxRecDepth 20000 in
theorem pr_616 : pL xs L 616 = op_ii (fun x y => x + y) 617 := rfl
set_option maxRecDepth 20000 in
theorem pr_617 : pL xs L 617 = op_si xs L 618 := rfl
set_option maxRecDepth 20000 in
theorem pr_618 : pL xs L 618 = op_cv 32 161 2 4 621 := rfl
set_option maxRecDepth 20000 in
theorem pr_621 : pL xs L 621 = op_ic (fun x y => x = y) 781 624 := rfl
set_option maxRecDepth 20000 in
theorem pr_624 : pL xs L 624 = op_c (0) 625 := rfl
set_option maxRecDepth 20000 in
theorem pr_626 : pL xs L 626 = op_lr 1 627 := rfl
set_option maxRecDepth 20000 in
theorem pr_627 : pL xs L 627 = op_lr 0 628 := rfl
set_option maxRecDepth 20000 in
theorem pr_628 : pL xs L 628 = op_li 3 629 := rfl
set_option maxRecDepth 20000 in
theorem pr_629 : pL xs L 629 = op_c (1) 630 := rfl
set_option maxRecDepth 20000 in
theorem pr_630 : pL xs L 630 = op_ii (fun x y => x + y) 631 := rfl
set_option maxRecDepth 20000 in
theorem pr_631 : pL xs L 631 = op_si xs L 632 := rfl
set_option maxRecDepth 20000 in
theorem pr_632 : pL xs L 632 = op_cv 0 90 2 2 635 := rfl
set_option maxRecDepth 20000 in
theorem pr_635 : pL xs L 635 = op_lr 2 636 := rfl
set_option maxRecDepth 20000 in
theorem pr_636 : pL xs L 636 = op_lr 0 637 := rfl
set_option maxRecDepth 20000 in
theorem pr_637 : pL xs L 637 = op_li 3 638 := rfl
set_option maxRecDepth 20000 in
theorem pr_638 : pL xs L 638 = op_c (1) 639 := rfl
set_option maxRecDepth 20000 in
theorem pr_639 : pL xs L 639 = op_ii (fun x y => x + y) 640 := rfl
set_option maxRecDepth 20000 in
theorem pr_640 : pL xs L 640 = op_si xs L 641 := rfl
set_option maxRecDepth 20000 in
theorem pr_641 : pL xs L 641 = op_cv 32 162 2 2 644 := rfl
set_option maxRecDepth 20000 in
theorem pr_644 : pL xs L 644 = op_ic (fun x y => x = y) 781 647 := rfl
set_option maxRecDepth 20000 in
theorem pr_647 : pL xs L 647 = op_c (0) 648 := rfl
set_option maxRecDepth 20000 in
theorem pr_649 : pL xs L 649 = op_lr 1 650 := rfl
set_option maxRecDepth 20000 in
theorem pr_650 : pL xs L 650 = op_cv 0 91 1 1 653 := rfl
set_option maxRecDepth 20000 in
theorem pr_653 : pL xs L 653 = op_lr 2 654 := rfl
set_option maxRecDepth 20000 in
theorem pr_654 : pL xs L 654 = op_cv 32 166 1 1 657 := rfl
set_option maxRecDepth 20000 in
theorem pr_657 : pL xs L 657 = op_ic (fun x y => x = y) 781 660 := rfl
set_option maxRecDepth 20000 in
theorem pr_660 : pL xs L 660 = op_c (0) 661 := rfl
set_option maxRecDepth 20000 in
theorem pr_662 : pL xs L 662 = op_lr 1 663 := rfl
set_option maxRecDepth 20000 in
theorem pr_663 : pL xs L 663 = op_cv 0 92 1 1 666 := rfl
set_option maxRecDepth 20000 in
theorem pr_666 : pL xs L 666 = op_lr 2 667 := rfl
set_option maxRecDepth 20000 in
theorem pr_667 : pL xs L 667 = op_cv 32 167 1 1 670 := rfl
set_option maxRecDepth 20000 in
theorem pr_670 : pL xs L 670 = op_ic (fun x y => x = y) 781 673 := rfl
set_option maxRecDepth 20000 in
theorem pr_673 : pL xs L 673 = op_c (0) 674 := rfl
set_option maxRecDepth 20000 in
theorem pr_675 : pL xs L 675 = op_lr 1 676 := rfl
set_option maxRecDepth 20000 in
theorem pr_676 : pL xs L 676 = op_lr 0 677 := rfl
set_option maxRecDepth 20000 in
theorem pr_677 : pL xs L 677 = op_li 3 678 := rfl
set_option maxRecDepth 20000 in
theorem pr_678 : pL xs L 678 = op_c (1) 679 := rfl
set_option maxRecDepth 20000 in
theorem pr_679 : pL xs L 679 = op_ii (fun x y => x + y) 680 := rfl
set_option maxRecDepth 20000 in
theorem pr_680 : pL xs L 680 = op_si xs L 681 := rfl
set_option maxRecDepth 20000 in
theorem pr_681 : pL xs L 681 = op_lr 0 682 := rfl
set_option maxRecDepth 20000 in
theorem pr_682 : pL xs L 682 = op_li 3 683 := rfl
set_option maxRecDepth 20000 in
theorem pr_683 : pL xs L 683 = op_c (2) 684 := rfl
set_option maxRecDepth 20000 in
theorem pr_684 : pL xs L 684 = op_ii (fun x y => x + y) 685 := rfl
set_option maxRecDepth 20000 in
theorem pr_685 : pL xs L 685 = op_si xs L 686 := rfl
set_option maxRecDepth 20000 in
theorem pr_686 : pL xs L 686 = op_lr 0 687 := rfl
set_option maxRecDepth 20000 in
theorem pr_687 : pL xs L 687 = op_li 3 688 := rfl
set_option maxRecDepth 20000 in
theorem pr_688 : pL xs L 688 = op_c (3) 689 := rfl
set_option maxRecDepth 20000 in
theorem pr_689 : pL xs L 689 = op_ii (fun x y => x + y) 690 := rfl
set_option maxRecDepth 20000 in
theorem pr_690 : pL xs L 690 = op_si xs L 691 := rfl
set_option maxRecDepth 20000 in
theorem pr_691 : pL xs L 691 = op_cv 0 93 4 4 694 := rfl
set_option maxRecDepth 20000 in
theorem pr_694 : pL xs L 694 = op_lr 2 695 := rfl
set_option maxRecDepth 20000 in
theorem pr_695 : pL xs L 695 = op_lr 0 696 := rfl
set_option maxRecDepth 20000 in
theorem pr_696 : pL xs L 696 = op_li 3 697 := rfl
set_option maxRecDepth 20000 in
theorem pr_697 : pL xs L 697 = op_c (1) 698 := rfl
set_option maxRecDepth 20000 in
theorem pr_698 : pL xs L 698 = op_ii (fun x y => x + y) 699 := rfl
set_option maxRecDepth 20000 in
theorem pr_699 : pL xs L 699 = op_si xs L 700 := rfl
set_option maxRecDepth 20000 in
theorem pr_700 : pL xs L 700 = op_lr 0 701 := rfl
set_option maxRecDepth 20000 in
theorem pr_701 : pL xs L 701 = op_li 3 702 := rfl
set_option maxRecDepth 20000 in
theorem pr_702 : pL xs L 702 = op_c (2) 703 := rfl
set_option maxRecDepth 20000 in
theorem pr_703 : pL xs L 703 = op_ii (fun x y => x + y) 704 := rfl
set_option maxRecDepth 20000 in
theorem pr_704 : pL xs L 704 = op_si xs L 705 := rfl
set_option maxRecDepth 20000 in
theorem pr_705 : pL xs L 705 = op_lr 0 706 := rfl
set_option maxRecDepth 20000 in
theorem pr_706 : pL xs L 706 = op_li 3 707 := rfl
set_option maxRecDepth 20000 in
theorem pr_707 : pL xs L 707 = op_c (3) 708 := rfl
set_option maxRecDepth 20000 in
theorem pr_708 : pL xs L 708 = op_ii (fun x y => x + y) 709 := rfl
set_option maxRecDepth 20000 in
theorem pr_709 : pL xs L 709 = op_si xs L 710 := rfl
set_option maxRecDepth 20000 in
theorem pr_710 : pL xs L 710 = op_cv 32 173 4 4 713 := rfl
set_option maxRecDepth 20000 in
theorem pr_713 : pL xs L 713 = op_ic (fun x y => x = y) 781 716 := rfl
set_option maxRecDepth 20000 in
theorem pr_716 : pL xs L 716 = op_c (0) 717 := rfl
set_option maxRecDepth 20000 in
theorem pr_718 : pL xs L 718 = op_lr 1 719 := rfl
set_option maxRecDepth 20000 in
theorem pr_719 : pL xs L 719 = op_cv 0 94 1 1 722 := rfl
set_option maxRecDepth 20000 in
theorem pr_722 : pL xs L 722 = op_lr 2 723 := rfl
set_option maxRecDepth 20000 in
theorem pr_723 : pL xs L 723 = op_cv 32 174 1 2 726 := rfl
set_option maxRecDepth 20000 in
theorem pr_726 : pL xs L 726 = op_ic (fun x y => x = y) 781 729 := rfl
set_option maxRecDepth 20000 in
theorem pr_729 : pL xs L 729 = op_c (0) 730 := rfl
set_option maxRecDepth 20000 in
theorem pr_731 : pL xs L 731 = op_lr 1 732 := rfl
set_option maxRecDepth 20000 in
theorem pr_732 : pL xs L 732 = op_cv 0 95 1 1 735 := rfl
set_option maxRecDepth 20000 in
theorem pr_735 : pL xs L 735 = op_lr 2 736 := rfl
set_option maxRecDepth 20000 in
theorem pr_736 : pL xs L 736 = op_cv 32 175 1 2 739 := rfl
set_option maxRecDepth 20000 in
theorem pr_739 : pL xs L 739 = op_ic (fun x y => x = y) 781 742 := rfl
set_option maxRecDepth 20000 in
theorem pr_742 : pL xs L 742 = op_c (0) 743 := rfl
set_option maxRecDepth 20000 in
theorem pr_744 : pL xs L 744 = op_lr 1 745 := rfl
set_option maxRecDepth 20000 in
theorem pr_745 : pL xs L 745 = op_lr 0 746 := rfl
set_option maxRecDepth 20000 in
theorem pr_746 : pL xs L 746 = op_li 3 747 := rfl
set_option maxRecDepth 20000 in
theorem pr_747 : pL xs L 747 = op_c (1) 748 := rfl
set_option maxRecDepth 20000 in
theorem pr_748 : pL xs L 748 = op_ii (fun x y => x + y) 749 := rfl
set_option maxRecDepth 20000 in
theorem pr_749 : pL xs L 749 = op_si xs L 750 := rfl
set_option maxRecDepth 20000 in
theorem pr_750 : pL xs L 750 = op_cv 0 96 2 2 753 := rfl
set_option maxRecDepth 20000 in
theorem pr_753 : pL xs L 753 = op_lr 2 754 := rfl
set_option maxRecDepth 20000 in
theorem pr_754 : pL xs L 754 = op_lr 0 755 := rfl
set_option maxRecDepth 20000 in
theorem pr_755 : pL xs L 755 = op_li 3 756 := rfl
set_option maxRecDepth 20000 in
theorem pr_756 : pL xs L 756 = op_c (1) 757 := rfl
set_option maxRecDepth 20000 in
theorem pr_757 : pL xs L 757 = op_ii (fun x y => x + y) 758 := rfl
set_option maxRecDepth 20000 in
theorem pr_758 : pL xs L 758 = op_si xs L 759 := rfl
set_option maxRecDepth 20000 in
theorem pr_759 : pL xs L 759 = op_cv 32 179 2 2 762 := rfl
set_option maxRecDepth 20000 in
theorem pr_762 : pL xs L 762 = op_ic (fun x y => x = y) 781 765 := rfl
set_option maxRecDepth 20000 in
theorem pr_765 : pL xs L 765 = op_c (0) 766 := rfl
set_option maxRecDepth 20000 in
theorem pr_767 : pL xs L 767 = op_lr 1 768 := rfl
set_option maxRecDepth 20000 in
theorem pr_768 : pL xs L 768 = op_cv 0 97 1 4 771 := rfl
set_option maxRecDepth 20000 in
theorem pr_771 : pL xs L 771 = op_lr 2 772 := rfl
set_option maxRecDepth 20000 in
theorem pr_772 : pL xs L 772 = op_cv 32 181 1 3 775 := rfl
set_option maxRecDepth 20000 in
theorem pr_775 : pL xs L 775 = op_jji lg_cmp 776 := rfl
set_option maxRecDepth 20000 in
theorem pr_776 : pL xs L 776 = op_if (fun x => x = 0) 781 779 := rfl
set_option maxRecDepth 20000 in
theorem pr_779 : pL xs L 779 = op_c (0) 780 := rfl
set_option maxRecDepth 20000 in
theorem pr_781 : pL xs L 781 = op_iinc 3 (4) 784 := rfl
set_option maxRecDepth 20000 in
theorem pr_784 : pL xs L 784 = op_go 18 := rfl
set_option maxRecDepth 20000 in
theorem pr_787 : pL xs L 787 = op_c (1) 788 := rfl
set_option maxRecDepth 20000 in
theorem pr_788 : pL xs L 788 = op_iret := rfl
theorem lc_0 {n : Nat} (hn : 1000000 ≤ n) (h1 : am_inB (i + (1 : Int32)) L = true) (ht : tm < 1000) (hk : ∀ i, xK x i < 5) (h : Rel tm x z) : ∃ x' z', Rel (tm + 1) x' z' ∧ (∀ i, xK x' i < 5) ∧ (∀ r : am_Q, am_At am_PR 40 (pL xs L) 781 (lvL i, ([], (x', z'))) r → am_At am_PR 40 (pL xs L) 152 (lvL i, ([], (x, z))) r) := by
  obtain ⟨v, x', z', e1, e2, R1, k1⟩ := O_letter (n := n) ht hk h (xs (i + (1 : Int32)).toNatClampNeg)
  refine ⟨x', z', R1, k1, fun r K => ?_⟩
  refine am_s1 pr_152 rfl ?_
  refine am_s1 pr_153 rfl ?_
  refine am_s1 pr_154 rfl ?_
  refine am_s1 pr_155 rfl ?_
  refine am_s1 pr_156 rfl ?_
  refine am_g1 pr_157 h1 op_si_at ?_
  refine am_c1 pr_158 rfl (t_X8_letter (z := z) (by decide) e1) ?_
  refine am_s1 pr_161 rfl ?_
  refine am_s1 pr_162 rfl ?_
  refine am_s1 pr_163 rfl ?_
  refine am_s1 pr_164 rfl ?_
  refine am_s1 pr_165 rfl ?_
  refine am_g1 pr_166 h1 op_si_at ?_
  refine am_c1 pr_167 rfl (t_X9_letter (z := x') (by decide) e2) ?_
  show am_At am_PR 40 (pL xs L) 170 (lvL i, ([am_I v, am_I v], (x', z'))) r
  exact am_s1 pr_170 op_ic_eq K
theorem lc_1 {n : Nat} (hn : 1000000 ≤ n) (ht : tm < 1000) (hk : ∀ i, xK x i < 5) (h : Rel tm x z) : ∃ x' z', Rel (tm + 1) x' z' ∧ (∀ i, xK x' i < 5) ∧ (∀ r : am_Q, am_At am_PR 40 (pL xs L) 781 (lvL i, ([], (x', z'))) r → am_At am_PR 40 (pL xs L) 175 (lvL i, ([], (x, z))) r) := by
  obtain ⟨v, x', z', e1, e2, R1, k1⟩ := O_blank (n := n) ht hk h
  refine ⟨x', z', R1, k1, fun r K => ?_⟩
  refine am_s1 pr_175 rfl ?_
  refine am_c1 pr_176 rfl (t_X8_blank (z := z) (by decide) e1) ?_
  refine am_s1 pr_179 rfl ?_
  refine am_c1 pr_180 rfl (t_X9_blank (z := x') (by decide) e2) ?_
  show am_At am_PR 40 (pL xs L) 183 (lvL i, ([am_I v, am_I v], (x', z'))) r
  exact am_s1 pr_183 op_ic_eq K
theorem lc_2 {n : Nat} (hn : 1000000 ≤ n) (ht : tm < 1000) (hk : ∀ i, xK x i < 5) (h : Rel tm x z) : ∃ x' z', Rel (tm + 1) x' z' ∧ (∀ i, xK x' i < 5) ∧ (∀ r : am_Q, am_At am_PR 40 (pL xs L) 781 (lvL i, ([], (x', z'))) r → am_At am_PR 40 (pL xs L) 188 (lvL i, ([], (x, z))) r) := by
  obtain ⟨v, x', z', e1, e2, R1, k1⟩ := O_fault (n := n) (Nat.le_trans (by decide) hn) ht hk h
  refine ⟨x', z', R1, k1, fun r K => ?_⟩
  refine am_s1 pr_188 rfl ?_
  refine am_c1 pr_189 rfl (t_X8_fault (z := z) (by decide) e1) ?_
  refine am_s1 pr_192 rfl ?_
  refine am_c1 pr_193 rfl (t_X9_fault (z := x') (by decide) e2) ?_
  show am_At am_PR 40 (pL xs L) 196 (lvL i, ([am_I v, am_I v], (x', z'))) r
  exact am_s1 pr_196 op_ic_eq K
theorem lc_3 {n : Nat} (hn : 1000000 ≤ n) (ht : tm < 1000) (hk : ∀ i, xK x i < 5) (h : Rel tm x z) : ∃ x' z', Rel (tm + 1) x' z' ∧ (∀ i, xK x' i < 5) ∧ (∀ r : am_Q, am_At am_PR 40 (pL xs L) 781 (lvL i, ([], (x', z'))) r → am_At am_PR 40 (pL xs L) 201 (lvL i, ([], (x, z))) r) := by
  obtain ⟨v, x', z', e1, e2, R1, k1⟩ := O_law (n := n) (Nat.le_trans (by decide) hn) ht hk h
  refine ⟨x', z', R1, k1, fun r K => ?_⟩
  refine am_s1 pr_201 rfl ?_
  refine am_c1 pr_202 rfl (t_X8_law (z := z) (by decide) e1) ?_
  refine am_s1 pr_205 rfl ?_
  refine am_c1 pr_206 rfl (t_X9_law (z := x') (by decide) e2) ?_
  show am_At am_PR 40 (pL xs L) 209 (lvL i, ([am_I v, am_I v], (x', z'))) r
  exact am_s1 pr_209 op_ic_eq K
theorem lc_4 {n : Nat} (hn : 1000000 ≤ n) (h1 : am_inB (i + (1 : Int32)) L = true) (h2 : am_inB (i + (2 : Int32)) L = true) (ht : tm < 1000) (hk : ∀ i, xK x i < 5) (h : Rel tm x z) : ∃ x' z', Rel (tm + 1) x' z' ∧ (∀ i, xK x' i < 5) ∧ (∀ r : am_Q, am_At am_PR 40 (pL xs L) 781 (lvL i, ([], (x', z'))) r → am_At am_PR 40 (pL xs L) 214 (lvL i, ([], (x, z))) r) := by
  obtain ⟨v, x', z', e1, e2, R1, k1⟩ := O_deed (n := n) ht hk h (xs (i + (1 : Int32)).toNatClampNeg) (xs (i + (2 : Int32)).toNatClampNeg)
  refine ⟨x', z', R1, k1, fun r K => ?_⟩
  refine am_s1 pr_214 rfl ?_
  refine am_s1 pr_215 rfl ?_
  refine am_s1 pr_216 rfl ?_
  refine am_s1 pr_217 rfl ?_
  refine am_s1 pr_218 rfl ?_
  refine am_g1 pr_219 h1 op_si_at ?_
  refine am_s1 pr_220 rfl ?_
  refine am_s1 pr_221 rfl ?_
  refine am_s1 pr_222 rfl ?_
  refine am_s1 pr_223 rfl ?_
  refine am_g1 pr_224 h2 op_si_at ?_
  refine am_c1 pr_225 rfl (t_X8_deed (z := z) (by decide) e1) ?_
  refine am_s1 pr_228 rfl ?_
  refine am_s1 pr_229 rfl ?_
  refine am_s1 pr_230 rfl ?_
  refine am_s1 pr_231 rfl ?_
  refine am_s1 pr_232 rfl ?_
  refine am_g1 pr_233 h1 op_si_at ?_
  refine am_s1 pr_234 rfl ?_
  refine am_s1 pr_235 rfl ?_
  refine am_s1 pr_236 rfl ?_
  refine am_s1 pr_237 rfl ?_
  refine am_g1 pr_238 h2 op_si_at ?_
  refine am_c1 pr_239 rfl (t_X9_deed (z := x') (by decide) e2) ?_
  show am_At am_PR 40 (pL xs L) 242 (lvL i, ([am_I v, am_I v], (x', z'))) r
  exact am_s1 pr_242 op_ic_eq K
theorem lc_5 {n : Nat} (hn : 1000000 ≤ n) (h1 : am_inB (i + (1 : Int32)) L = true) (ht : tm < 1000) (hk : ∀ i, xK x i < 5) (h : Rel tm x z) : ∃ x' z', Rel (tm + 1) x' z' ∧ (∀ i, xK x' i < 5) ∧ (∀ r : am_Q, am_At am_PR 40 (pL xs L) 781 (lvL i, ([], (x', z'))) r → am_At am_PR 40 (pL xs L) 247 (lvL i, ([], (x, z))) r) := by
  obtain ⟨v, x', z', e1, e2, R1, k1⟩ := O_person (n := n) ht hk h (xs (i + (1 : Int32)).toNatClampNeg)
  refine ⟨x', z', R1, k1, fun r K => ?_⟩
  refine am_s1 pr_247 rfl ?_
  refine am_s1 pr_248 rfl ?_
  refine am_s1 pr_249 rfl ?_
  refine am_s1 pr_250 rfl ?_
  refine am_s1 pr_251 rfl ?_
  refine am_g1 pr_252 h1 op_si_at ?_
  refine am_c1 pr_253 rfl (t_X8_person (z := z) (by decide) e1) ?_
  refine am_s1 pr_256 rfl ?_
  refine am_s1 pr_257 rfl ?_
  refine am_s1 pr_258 rfl ?_
  refine am_s1 pr_259 rfl ?_
  refine am_s1 pr_260 rfl ?_
  refine am_g1 pr_261 h1 op_si_at ?_
  refine am_c1 pr_262 rfl (t_X9_person (z := x') (by decide) e2) ?_
  show am_At am_PR 40 (pL xs L) 265 (lvL i, ([am_I v, am_I v], (x', z'))) r
  exact am_s1 pr_265 op_ic_eq K
theorem lc_6 {n : Nat} (hn : 1000000 ≤ n) (h1 : am_inB (i + (1 : Int32)) L = true) (h2 : am_inB (i + (2 : Int32)) L = true) (ht : tm < 1000) (hk : ∀ i, xK x i < 5) (h : Rel tm x z) : ∃ x' z', Rel (tm + 1) x' z' ∧ (∀ i, xK x' i < 5) ∧ (∀ r : am_Q, am_At am_PR 40 (pL xs L) 781 (lvL i, ([], (x', z'))) r → am_At am_PR 40 (pL xs L) 270 (lvL i, ([], (x, z))) r) := by
  obtain ⟨v, x', z', e1, e2, R1, k1⟩ := O_about (n := n) (Nat.le_trans (by decide) hn) ht hk h (xs (i + (1 : Int32)).toNatClampNeg) (xs (i + (2 : Int32)).toNatClampNeg)
  refine ⟨x', z', R1, k1, fun r K => ?_⟩
  refine am_s1 pr_270 rfl ?_
  refine am_s1 pr_271 rfl ?_
  refine am_s1 pr_272 rfl ?_
  refine am_s1 pr_273 rfl ?_
  refine am_s1 pr_274 rfl ?_
  refine am_g1 pr_275 h1 op_si_at ?_
  refine am_s1 pr_276 rfl ?_
  refine am_s1 pr_277 rfl ?_
  refine am_s1 pr_278 rfl ?_
  refine am_s1 pr_279 rfl ?_
  refine am_g1 pr_280 h2 op_si_at ?_
  refine am_c1 pr_281 rfl (t_X8_about (z := z) (by decide) e1) ?_
  refine am_s1 pr_284 rfl ?_
  refine am_s1 pr_285 rfl ?_
  refine am_s1 pr_286 rfl ?_
  refine am_s1 pr_287 rfl ?_
  refine am_s1 pr_288 rfl ?_
  refine am_g1 pr_289 h1 op_si_at ?_
  refine am_s1 pr_290 rfl ?_
  refine am_s1 pr_291 rfl ?_
  refine am_s1 pr_292 rfl ?_
  refine am_s1 pr_293 rfl ?_
  refine am_g1 pr_294 h2 op_si_at ?_
  refine am_c1 pr_295 rfl (t_X9_about (z := x') (by decide) e2) ?_
  show am_At am_PR 40 (pL xs L) 298 (lvL i, ([am_I v, am_I v], (x', z'))) r
  exact am_s1 pr_298 op_ic_eq K
theorem lc_7 {n : Nat} (hn : 1000000 ≤ n) (h1 : am_inB (i + (1 : Int32)) L = true) (h2 : am_inB (i + (2 : Int32)) L = true) (ht : tm < 1000) (hk : ∀ i, xK x i < 5) (h : Rel tm x z) : ∃ x' z', Rel (tm + 1) x' z' ∧ (∀ i, xK x' i < 5) ∧ (∀ r : am_Q, am_At am_PR 40 (pL xs L) 781 (lvL i, ([], (x', z'))) r → am_At am_PR 40 (pL xs L) 303 (lvL i, ([], (x, z))) r) := by
  obtain ⟨v, x', z', e1, e2, R1, k1⟩ := O_as (n := n) ht hk h (xs (i + (1 : Int32)).toNatClampNeg) (xs (i + (2 : Int32)).toNatClampNeg)
  refine ⟨x', z', R1, k1, fun r K => ?_⟩
  refine am_s1 pr_303 rfl ?_
  refine am_s1 pr_304 rfl ?_
  refine am_s1 pr_305 rfl ?_
  refine am_s1 pr_306 rfl ?_
  refine am_s1 pr_307 rfl ?_
  refine am_g1 pr_308 h1 op_si_at ?_
  refine am_s1 pr_309 rfl ?_
  refine am_s1 pr_310 rfl ?_
  refine am_s1 pr_311 rfl ?_
  refine am_s1 pr_312 rfl ?_
  refine am_g1 pr_313 h2 op_si_at ?_
  refine am_c1 pr_314 rfl (t_X8_as (z := z) (by decide) e1) ?_
  refine am_s1 pr_317 rfl ?_
  refine am_s1 pr_318 rfl ?_
  refine am_s1 pr_319 rfl ?_
  refine am_s1 pr_320 rfl ?_
  refine am_s1 pr_321 rfl ?_
  refine am_g1 pr_322 h1 op_si_at ?_
  refine am_s1 pr_323 rfl ?_
  refine am_s1 pr_324 rfl ?_
  refine am_s1 pr_325 rfl ?_
  refine am_s1 pr_326 rfl ?_
  refine am_g1 pr_327 h2 op_si_at ?_
  refine am_c1 pr_328 rfl (t_X9_as (z := x') (by decide) e2) ?_
  show am_At am_PR 40 (pL xs L) 331 (lvL i, ([am_I v, am_I v], (x', z'))) r
  exact am_s1 pr_331 op_ic_eq K
theorem lc_8 {n : Nat} (hn : 1000000 ≤ n) (h1 : am_inB (i + (1 : Int32)) L = true) (h2 : am_inB (i + (2 : Int32)) L = true) (ht : tm < 1000) (hk : ∀ i, xK x i < 5) (h : Rel tm x z) : ∃ x' z', Rel (tm + 1) x' z' ∧ (∀ i, xK x' i < 5) ∧ (∀ r : am_Q, am_At am_PR 40 (pL xs L) 781 (lvL i, ([], (x', z'))) r → am_At am_PR 40 (pL xs L) 336 (lvL i, ([], (x, z))) r) := by
  obtain ⟨v, x', z', e1, e2, R1, k1⟩ := O_may (n := n) (Nat.le_trans (by decide) hn) ht hk h (xs (i + (1 : Int32)).toNatClampNeg) (xs (i + (2 : Int32)).toNatClampNeg)
  refine ⟨x', z', R1, k1, fun r K => ?_⟩
  refine am_s1 pr_336 rfl ?_
  refine am_s1 pr_337 rfl ?_
  refine am_s1 pr_338 rfl ?_
  refine am_s1 pr_339 rfl ?_
  refine am_s1 pr_340 rfl ?_
  refine am_g1 pr_341 h1 op_si_at ?_
  refine am_s1 pr_342 rfl ?_
  refine am_s1 pr_343 rfl ?_
  refine am_s1 pr_344 rfl ?_
  refine am_s1 pr_345 rfl ?_
  refine am_g1 pr_346 h2 op_si_at ?_
  refine am_c1 pr_347 rfl (t_X8_may (z := z) (by decide) e1) ?_
  refine am_s1 pr_350 rfl ?_
  refine am_s1 pr_351 rfl ?_
  refine am_s1 pr_352 rfl ?_
  refine am_s1 pr_353 rfl ?_
  refine am_s1 pr_354 rfl ?_
  refine am_g1 pr_355 h1 op_si_at ?_
  refine am_s1 pr_356 rfl ?_
  refine am_s1 pr_357 rfl ?_
  refine am_s1 pr_358 rfl ?_
  refine am_s1 pr_359 rfl ?_
  refine am_g1 pr_360 h2 op_si_at ?_
  refine am_c1 pr_361 rfl (t_X9_may (z := x') (by decide) e2) ?_
  show am_At am_PR 40 (pL xs L) 364 (lvL i, ([am_I v, am_I v], (x', z'))) r
  exact am_s1 pr_364 op_ic_eq K
theorem lc_9 {n : Nat} (hn : 1000000 ≤ n) (h1 : am_inB (i + (1 : Int32)) L = true) (h2 : am_inB (i + (2 : Int32)) L = true) (ht : tm < 1000) (hk : ∀ i, xK x i < 5) (h : Rel tm x z) : ∃ x' z', Rel (tm + 1) x' z' ∧ (∀ i, xK x' i < 5) ∧ (∀ r : am_Q, am_At am_PR 40 (pL xs L) 781 (lvL i, ([], (x', z'))) r → am_At am_PR 40 (pL xs L) 369 (lvL i, ([], (x, z))) r) := by
  obtain ⟨v, x', z', e1, e2, R1, k1⟩ := O_act (n := n) (Nat.le_trans (by decide) hn) ht hk h (xs (i + (1 : Int32)).toNatClampNeg) (xs (i + (2 : Int32)).toNatClampNeg)
  refine ⟨x', z', R1, k1, fun r K => ?_⟩
  refine am_s1 pr_369 rfl ?_
  refine am_s1 pr_370 rfl ?_
  refine am_s1 pr_371 rfl ?_
  refine am_s1 pr_372 rfl ?_
  refine am_s1 pr_373 rfl ?_
  refine am_g1 pr_374 h1 op_si_at ?_
  refine am_s1 pr_375 rfl ?_
  refine am_s1 pr_376 rfl ?_
  refine am_s1 pr_377 rfl ?_
  refine am_s1 pr_378 rfl ?_
  refine am_g1 pr_379 h2 op_si_at ?_
  refine am_c1 pr_380 rfl (t_X8_act (z := z) (by decide) e1) ?_
  refine am_s1 pr_383 rfl ?_
  refine am_s1 pr_384 rfl ?_
  refine am_s1 pr_385 rfl ?_
  refine am_s1 pr_386 rfl ?_
  refine am_s1 pr_387 rfl ?_
  refine am_g1 pr_388 h1 op_si_at ?_
  refine am_s1 pr_389 rfl ?_
  refine am_s1 pr_390 rfl ?_
  refine am_s1 pr_391 rfl ?_
  refine am_s1 pr_392 rfl ?_
  refine am_g1 pr_393 h2 op_si_at ?_
  refine am_c1 pr_394 rfl (t_X9_act (z := x') (by decide) e2) ?_
  show am_At am_PR 40 (pL xs L) 397 (lvL i, ([am_I v, am_I v], (x', z'))) r
  exact am_s1 pr_397 op_ic_eq K
theorem lc_10 {n : Nat} (hn : 1000000 ≤ n) (ht : tm < 1000) (hk : ∀ i, xK x i < 5) (h : Rel tm x z) : ∃ x' z', Rel (tm + 1) x' z' ∧ (∀ i, xK x' i < 5) ∧ (∀ r : am_Q, am_At am_PR 40 (pL xs L) 781 (lvL i, ([], (x', z'))) r → am_At am_PR 40 (pL xs L) 402 (lvL i, ([], (x, z))) r) := by
  obtain ⟨v, x', z', e1, e2, R1, k1⟩ := O_week (n := n) (Nat.le_trans (by decide) hn) ht hk h
  refine ⟨x', z', R1, k1, fun r K => ?_⟩
  refine am_s1 pr_402 rfl ?_
  refine am_c1 pr_403 rfl (t_X8_week (z := z) (by decide) e1) ?_
  refine am_s1 pr_406 rfl ?_
  refine am_c1 pr_407 rfl (t_X9_week (z := x') (by decide) e2) ?_
  show am_At am_PR 40 (pL xs L) 410 (lvL i, ([am_I v, am_I v], (x', z'))) r
  exact am_s1 pr_410 op_ic_eq K
theorem lc_11 {n : Nat} (hn : 1000000 ≤ n) (h1 : am_inB (i + (1 : Int32)) L = true) (h2 : am_inB (i + (2 : Int32)) L = true) (h3 : am_inB (i + (3 : Int32)) L = true) (ht : tm < 1000) (hk : ∀ i, xK x i < 5) (h : Rel tm x z) : ∃ x' z', Rel (tm + 1) x' z' ∧ (∀ i, xK x' i < 5) ∧ (∀ r : am_Q, am_At am_PR 40 (pL xs L) 781 (lvL i, ([], (x', z'))) r → am_At am_PR 40 (pL xs L) 415 (lvL i, ([], (x, z))) r) := by
  obtain ⟨v, x', z', e1, e2, R1, k1⟩ := O_sell (n := n) (Nat.le_trans (by decide) hn) ht hk h (xs (i + (1 : Int32)).toNatClampNeg) (xs (i + (2 : Int32)).toNatClampNeg) (xs (i + (3 : Int32)).toNatClampNeg)
  refine ⟨x', z', R1, k1, fun r K => ?_⟩
  refine am_s1 pr_415 rfl ?_
  refine am_s1 pr_416 rfl ?_
  refine am_s1 pr_417 rfl ?_
  refine am_s1 pr_418 rfl ?_
  refine am_s1 pr_419 rfl ?_
  refine am_g1 pr_420 h1 op_si_at ?_
  refine am_s1 pr_421 rfl ?_
  refine am_s1 pr_422 rfl ?_
  refine am_s1 pr_423 rfl ?_
  refine am_s1 pr_424 rfl ?_
  refine am_g1 pr_425 h2 op_si_at ?_
  refine am_s1 pr_426 rfl ?_
  refine am_s1 pr_427 rfl ?_
  refine am_s1 pr_428 rfl ?_
  refine am_s1 pr_429 rfl ?_
  refine am_g1 pr_430 h3 op_si_at ?_
  refine am_c1 pr_431 rfl (t_X8_sell (z := z) (by decide) e1) ?_
  refine am_s1 pr_434 rfl ?_
  refine am_s1 pr_435 rfl ?_
  refine am_s1 pr_436 rfl ?_
  refine am_s1 pr_437 rfl ?_
  refine am_s1 pr_438 rfl ?_
  refine am_g1 pr_439 h1 op_si_at ?_
  refine am_s1 pr_440 rfl ?_
  refine am_s1 pr_441 rfl ?_
  refine am_s1 pr_442 rfl ?_
  refine am_s1 pr_443 rfl ?_
  refine am_g1 pr_444 h2 op_si_at ?_
  refine am_s1 pr_445 rfl ?_
  refine am_s1 pr_446 rfl ?_
  refine am_s1 pr_447 rfl ?_
  refine am_s1 pr_448 rfl ?_
  refine am_g1 pr_449 h3 op_si_at ?_
  refine am_c1 pr_450 rfl (t_X9_sell (z := x') (by decide) e2) ?_
  show am_At am_PR 40 (pL xs L) 453 (lvL i, ([am_I v, am_I v], (x', z'))) r
  exact am_s1 pr_453 op_ic_eq K
theorem lc_12 {n : Nat} (hn : 1000000 ≤ n) (h1 : am_inB (i + (1 : Int32)) L = true) (h2 : am_inB (i + (2 : Int32)) L = true) (ht : tm < 1000) (hk : ∀ i, xK x i < 5) (h : Rel tm x z) : ∃ x' z', Rel (tm + 1) x' z' ∧ (∀ i, xK x' i < 5) ∧ (∀ r : am_Q, am_At am_PR 40 (pL xs L) 781 (lvL i, ([], (x', z'))) r → am_At am_PR 40 (pL xs L) 458 (lvL i, ([], (x, z))) r) := by
  obtain ⟨v, x', z', e1, e2, R1, k1⟩ := O_leave (n := n) (Nat.le_trans (by decide) hn) ht hk h (xs (i + (1 : Int32)).toNatClampNeg) (xs (i + (2 : Int32)).toNatClampNeg)
  refine ⟨x', z', R1, k1, fun r K => ?_⟩
  refine am_s1 pr_458 rfl ?_
  refine am_s1 pr_459 rfl ?_
  refine am_s1 pr_460 rfl ?_
  refine am_s1 pr_461 rfl ?_
  refine am_s1 pr_462 rfl ?_
  refine am_g1 pr_463 h1 op_si_at ?_
  refine am_s1 pr_464 rfl ?_
  refine am_s1 pr_465 rfl ?_
  refine am_s1 pr_466 rfl ?_
  refine am_s1 pr_467 rfl ?_
  refine am_g1 pr_468 h2 op_si_at ?_
  refine am_c1 pr_469 rfl (t_X8_leave (z := z) (by decide) e1) ?_
  refine am_s1 pr_472 rfl ?_
  refine am_s1 pr_473 rfl ?_
  refine am_s1 pr_474 rfl ?_
  refine am_s1 pr_475 rfl ?_
  refine am_s1 pr_476 rfl ?_
  refine am_g1 pr_477 h1 op_si_at ?_
  refine am_s1 pr_478 rfl ?_
  refine am_s1 pr_479 rfl ?_
  refine am_s1 pr_480 rfl ?_
  refine am_s1 pr_481 rfl ?_
  refine am_g1 pr_482 h2 op_si_at ?_
  refine am_c1 pr_483 rfl (t_X9_leave (z := x') (by decide) e2) ?_
  show am_At am_PR 40 (pL xs L) 486 (lvL i, ([am_I v, am_I v], (x', z'))) r
  exact am_s1 pr_486 op_ic_eq K
theorem lc_13 {n : Nat} (hn : 1000000 ≤ n) (ht : tm < 1000) (hk : ∀ i, xK x i < 5) (h : Rel tm x z) : ∃ x' z', Rel (tm + 1) x' z' ∧ (∀ i, xK x' i < 5) ∧ (∀ r : am_Q, am_At am_PR 40 (pL xs L) 781 (lvL i, ([], (x', z'))) r → am_At am_PR 40 (pL xs L) 491 (lvL i, ([], (x, z))) r) := by
  obtain ⟨v, x', z', e1, e2, R1, k1⟩ := O_amnesty (n := n) (Nat.le_trans (by decide) hn) ht hk h
  refine ⟨x', z', R1, k1, fun r K => ?_⟩
  refine am_s1 pr_491 rfl ?_
  refine am_c1 pr_492 rfl (t_X8_amnesty (z := z) (by decide) e1) ?_
  refine am_s1 pr_495 rfl ?_
  refine am_c1 pr_496 rfl (t_X9_amnesty (z := x') (by decide) e2) ?_
  show am_At am_PR 40 (pL xs L) 499 (lvL i, ([am_I v, am_I v], (x', z'))) r
  exact am_s1 pr_499 op_ic_eq K
theorem lc_14 {n : Nat} (hn : 1000000 ≤ n) (h1 : am_inB (i + (1 : Int32)) L = true) (h2 : am_inB (i + (2 : Int32)) L = true) (h3 : am_inB (i + (3 : Int32)) L = true) (ht : tm < 1000) (hk : ∀ i, xK x i < 5) (h : Rel tm x z) : ∃ x' z', Rel (tm + 1) x' z' ∧ (∀ i, xK x' i < 5) ∧ (∀ r : am_Q, am_At am_PR 40 (pL xs L) 781 (lvL i, ([], (x', z'))) r → am_At am_PR 40 (pL xs L) 504 (lvL i, ([], (x, z))) r) := by
  obtain ⟨v, x', z', e1, e2, R1, k1⟩ := O_gain (n := n) hn ht hk h (xs (i + (1 : Int32)).toNatClampNeg) (xs (i + (2 : Int32)).toNatClampNeg) (xs (i + (3 : Int32)).toNatClampNeg)
  refine ⟨x', z', R1, k1, fun r K => ?_⟩
  refine am_s1 pr_504 rfl ?_
  refine am_s1 pr_505 rfl ?_
  refine am_s1 pr_506 rfl ?_
  refine am_s1 pr_507 rfl ?_
  refine am_s1 pr_508 rfl ?_
  refine am_g1 pr_509 h1 op_si_at ?_
  refine am_s1 pr_510 rfl ?_
  refine am_s1 pr_511 rfl ?_
  refine am_s1 pr_512 rfl ?_
  refine am_s1 pr_513 rfl ?_
  refine am_g1 pr_514 h2 op_si_at ?_
  refine am_s1 pr_515 rfl ?_
  refine am_s1 pr_516 rfl ?_
  refine am_s1 pr_517 rfl ?_
  refine am_s1 pr_518 rfl ?_
  refine am_g1 pr_519 h3 op_si_at ?_
  refine am_c1 pr_520 rfl (t_X8_gain (z := z) (by decide) e1) ?_
  refine am_s1 pr_523 rfl ?_
  refine am_s1 pr_524 rfl ?_
  refine am_s1 pr_525 rfl ?_
  refine am_s1 pr_526 rfl ?_
  refine am_s1 pr_527 rfl ?_
  refine am_g1 pr_528 h1 op_si_at ?_
  refine am_s1 pr_529 rfl ?_
  refine am_s1 pr_530 rfl ?_
  refine am_s1 pr_531 rfl ?_
  refine am_s1 pr_532 rfl ?_
  refine am_g1 pr_533 h2 op_si_at ?_
  refine am_s1 pr_534 rfl ?_
  refine am_s1 pr_535 rfl ?_
  refine am_s1 pr_536 rfl ?_
  refine am_s1 pr_537 rfl ?_
  refine am_g1 pr_538 h3 op_si_at ?_
  refine am_c1 pr_539 rfl (t_X9_gain (z := x') (by decide) e2) ?_
  show am_At am_PR 40 (pL xs L) 542 (lvL i, ([am_I v, am_I v], (x', z'))) r
  exact am_s1 pr_542 op_ic_eq K
theorem lc_15 {n : Nat} (hn : 1000000 ≤ n) (h1 : am_inB (i + (1 : Int32)) L = true) (h2 : am_inB (i + (2 : Int32)) L = true) (ht : tm < 1000) (hk : ∀ i, xK x i < 5) (h : Rel tm x z) : ∃ x' z', Rel (tm + 1) x' z' ∧ (∀ i, xK x' i < 5) ∧ (∀ r : am_Q, am_At am_PR 40 (pL xs L) 781 (lvL i, ([], (x', z'))) r → am_At am_PR 40 (pL xs L) 547 (lvL i, ([], (x, z))) r) := by
  obtain ⟨v, x', z', e1, e2, R1, k1⟩ := O_soon (n := n) (Nat.le_trans (by decide) hn) ht hk h (xs (i + (1 : Int32)).toNatClampNeg) (xs (i + (2 : Int32)).toNatClampNeg)
  refine ⟨x', z', R1, k1, fun r K => ?_⟩
  refine am_s1 pr_547 rfl ?_
  refine am_s1 pr_548 rfl ?_
  refine am_s1 pr_549 rfl ?_
  refine am_s1 pr_550 rfl ?_
  refine am_s1 pr_551 rfl ?_
  refine am_g1 pr_552 h1 op_si_at ?_
  refine am_s1 pr_553 rfl ?_
  refine am_s1 pr_554 rfl ?_
  refine am_s1 pr_555 rfl ?_
  refine am_s1 pr_556 rfl ?_
  refine am_g1 pr_557 h2 op_si_at ?_
  refine am_c1 pr_558 rfl (t_X8_soon (z := z) (by decide) e1) ?_
  refine am_s1 pr_561 rfl ?_
  refine am_s1 pr_562 rfl ?_
  refine am_s1 pr_563 rfl ?_
  refine am_s1 pr_564 rfl ?_
  refine am_s1 pr_565 rfl ?_
  refine am_g1 pr_566 h1 op_si_at ?_
  refine am_s1 pr_567 rfl ?_
  refine am_s1 pr_568 rfl ?_
  refine am_s1 pr_569 rfl ?_
  refine am_s1 pr_570 rfl ?_
  refine am_g1 pr_571 h2 op_si_at ?_
  refine am_c1 pr_572 rfl (t_X9_soon (z := x') (by decide) e2) ?_
  show am_At am_PR 40 (pL xs L) 575 (lvL i, ([am_I v, am_I v], (x', z'))) r
  exact am_s1 pr_575 op_ic_eq K
theorem lc_16 {n : Nat} (hn : 1000000 ≤ n) (h1 : am_inB (i + (1 : Int32)) L = true) (ht : tm < 1000) (hk : ∀ i, xK x i < 5) (h : Rel tm x z) : ∃ x' z', Rel (tm + 1) x' z' ∧ (∀ i, xK x' i < 5) ∧ (∀ r : am_Q, am_At am_PR 40 (pL xs L) 781 (lvL i, ([], (x', z'))) r → am_At am_PR 40 (pL xs L) 580 (lvL i, ([], (x, z))) r) := by
  obtain ⟨v, x', z', e1, e2, R1, k1⟩ := O_kept (n := n) (Nat.le_trans (by decide) hn) ht hk h (xs (i + (1 : Int32)).toNatClampNeg)
  refine ⟨x', z', R1, k1, fun r K => ?_⟩
  refine am_s1 pr_580 rfl ?_
  refine am_s1 pr_581 rfl ?_
  refine am_s1 pr_582 rfl ?_
  refine am_s1 pr_583 rfl ?_
  refine am_s1 pr_584 rfl ?_
  refine am_g1 pr_585 h1 op_si_at ?_
  refine am_c1 pr_586 rfl (t_X8_kept (z := z) (by decide) e1) ?_
  refine am_s1 pr_589 rfl ?_
  refine am_s1 pr_590 rfl ?_
  refine am_s1 pr_591 rfl ?_
  refine am_s1 pr_592 rfl ?_
  refine am_s1 pr_593 rfl ?_
  refine am_g1 pr_594 h1 op_si_at ?_
  refine am_c1 pr_595 rfl (t_X9_kept (z := x') (by decide) e2) ?_
  show am_At am_PR 40 (pL xs L) 598 (lvL i, ([am_I v, am_I v], (x', z'))) r
  exact am_s1 pr_598 op_ic_eq K
theorem lc_17 {n : Nat} (hn : 1000000 ≤ n) (h1 : am_inB (i + (1 : Int32)) L = true) (ht : tm < 1000) (hk : ∀ i, xK x i < 5) (h : Rel tm x z) : ∃ x' z', Rel (tm + 1) x' z' ∧ (∀ i, xK x' i < 5) ∧ (∀ r : am_Q, am_At am_PR 40 (pL xs L) 781 (lvL i, ([], (x', z'))) r → am_At am_PR 40 (pL xs L) 603 (lvL i, ([], (x, z))) r) := by
  obtain ⟨v, x', z', e1, e2, R1, k1⟩ := O_book (n := n) (Nat.le_trans (by decide) hn) ht hk h (xs (i + (1 : Int32)).toNatClampNeg)
  refine ⟨x', z', R1, k1, fun r K => ?_⟩
  refine am_s1 pr_603 rfl ?_
  refine am_s1 pr_604 rfl ?_
  refine am_s1 pr_605 rfl ?_
  refine am_s1 pr_606 rfl ?_
  refine am_s1 pr_607 rfl ?_
  refine am_g1 pr_608 h1 op_si_at ?_
  refine am_c1 pr_609 rfl (t_X8_book (z := z) (by decide) e1) ?_
  refine am_s1 pr_612 rfl ?_
  refine am_s1 pr_613 rfl ?_
  refine am_s1 pr_614 rfl ?_
  refine am_s1 pr_615 rfl ?_
  refine am_s1 pr_616 rfl ?_
  refine am_g1 pr_617 h1 op_si_at ?_
  refine am_c1 pr_618 rfl (t_X9_book (z := x') (by decide) e2) ?_
  show am_At am_PR 40 (pL xs L) 621 (lvL i, ([am_I v, am_I v], (x', z'))) r
  exact am_s1 pr_621 op_ic_eq K
theorem lc_18 {n : Nat} (hn : 1000000 ≤ n) (h1 : am_inB (i + (1 : Int32)) L = true) (ht : tm < 1000) (hk : ∀ i, xK x i < 5) (h : Rel tm x z) : ∃ x' z', Rel (tm + 1) x' z' ∧ (∀ i, xK x' i < 5) ∧ (∀ r : am_Q, am_At am_PR 40 (pL xs L) 781 (lvL i, ([], (x', z'))) r → am_At am_PR 40 (pL xs L) 626 (lvL i, ([], (x, z))) r) := by
  obtain ⟨v, x', z', e1, e2, R1, k1⟩ := O_next (n := n) ht hk h (xs (i + (1 : Int32)).toNatClampNeg)
  refine ⟨x', z', R1, k1, fun r K => ?_⟩
  refine am_s1 pr_626 rfl ?_
  refine am_s1 pr_627 rfl ?_
  refine am_s1 pr_628 rfl ?_
  refine am_s1 pr_629 rfl ?_
  refine am_s1 pr_630 rfl ?_
  refine am_g1 pr_631 h1 op_si_at ?_
  refine am_c1 pr_632 rfl (t_X8_next (z := z) (by decide) e1) ?_
  refine am_s1 pr_635 rfl ?_
  refine am_s1 pr_636 rfl ?_
  refine am_s1 pr_637 rfl ?_
  refine am_s1 pr_638 rfl ?_
  refine am_s1 pr_639 rfl ?_
  refine am_g1 pr_640 h1 op_si_at ?_
  refine am_c1 pr_641 rfl (t_X9_next (z := x') (by decide) e2) ?_
  show am_At am_PR 40 (pL xs L) 644 (lvL i, ([am_I v, am_I v], (x', z'))) r
  exact am_s1 pr_644 op_ic_eq K
theorem lc_19 {n : Nat} (hn : 1000000 ≤ n) (ht : tm < 1000) (hk : ∀ i, xK x i < 5) (h : Rel tm x z) : ∃ x' z', Rel (tm + 1) x' z' ∧ (∀ i, xK x' i < 5) ∧ (∀ r : am_Q, am_At am_PR 40 (pL xs L) 781 (lvL i, ([], (x', z'))) r → am_At am_PR 40 (pL xs L) 649 (lvL i, ([], (x, z))) r) := by
  obtain ⟨v, x', z', e1, e2, R1, k1⟩ := O_ways (n := n) hn ht hk h
  refine ⟨x', z', R1, k1, fun r K => ?_⟩
  refine am_s1 pr_649 rfl ?_
  refine am_c1 pr_650 rfl (t_X8_ways (z := z) (by decide) e1) ?_
  refine am_s1 pr_653 rfl ?_
  refine am_c1 pr_654 rfl (t_X9_ways (z := x') (by decide) e2) ?_
  show am_At am_PR 40 (pL xs L) 657 (lvL i, ([am_I v, am_I v], (x', z'))) r
  exact am_s1 pr_657 op_ic_eq K
theorem lc_20 {n : Nat} (hn : 1000000 ≤ n) (ht : tm < 1000) (hk : ∀ i, xK x i < 5) (h : Rel tm x z) : ∃ x' z', Rel (tm + 1) x' z' ∧ (∀ i, xK x' i < 5) ∧ (∀ r : am_Q, am_At am_PR 40 (pL xs L) 781 (lvL i, ([], (x', z'))) r → am_At am_PR 40 (pL xs L) 662 (lvL i, ([], (x, z))) r) := by
  obtain ⟨v, x', z', e1, e2, R1, k1⟩ := O_owed (n := n) hn ht hk h
  refine ⟨x', z', R1, k1, fun r K => ?_⟩
  refine am_s1 pr_662 rfl ?_
  refine am_c1 pr_663 rfl (t_X8_owed (z := z) (by decide) e1) ?_
  refine am_s1 pr_666 rfl ?_
  refine am_c1 pr_667 rfl (t_X9_owed (z := x') (by decide) e2) ?_
  show am_At am_PR 40 (pL xs L) 670 (lvL i, ([am_I v, am_I v], (x', z'))) r
  exact am_s1 pr_670 op_ic_eq K
theorem lc_21 {n : Nat} (hn : 1000000 ≤ n) (h1 : am_inB (i + (1 : Int32)) L = true) (h2 : am_inB (i + (2 : Int32)) L = true) (h3 : am_inB (i + (3 : Int32)) L = true) (ht : tm < 1000) (hk : ∀ i, xK x i < 5) (h : Rel tm x z) : ∃ x' z', Rel (tm + 1) x' z' ∧ (∀ i, xK x' i < 5) ∧ (∀ r : am_Q, am_At am_PR 40 (pL xs L) 781 (lvL i, ([], (x', z'))) r → am_At am_PR 40 (pL xs L) 675 (lvL i, ([], (x, z))) r) := by
  obtain ⟨v, x', z', e1, e2, R1, k1⟩ := O_years (n := n) (Nat.le_trans (by decide) hn) ht hk h (xs (i + (1 : Int32)).toNatClampNeg) (xs (i + (2 : Int32)).toNatClampNeg) (xs (i + (3 : Int32)).toNatClampNeg)
  refine ⟨x', z', R1, k1, fun r K => ?_⟩
  refine am_s1 pr_675 rfl ?_
  refine am_s1 pr_676 rfl ?_
  refine am_s1 pr_677 rfl ?_
  refine am_s1 pr_678 rfl ?_
  refine am_s1 pr_679 rfl ?_
  refine am_g1 pr_680 h1 op_si_at ?_
  refine am_s1 pr_681 rfl ?_
  refine am_s1 pr_682 rfl ?_
  refine am_s1 pr_683 rfl ?_
  refine am_s1 pr_684 rfl ?_
  refine am_g1 pr_685 h2 op_si_at ?_
  refine am_s1 pr_686 rfl ?_
  refine am_s1 pr_687 rfl ?_
  refine am_s1 pr_688 rfl ?_
  refine am_s1 pr_689 rfl ?_
  refine am_g1 pr_690 h3 op_si_at ?_
  refine am_c1 pr_691 rfl (t_X8_years (z := z) (by decide) e1) ?_
  refine am_s1 pr_694 rfl ?_
  refine am_s1 pr_695 rfl ?_
  refine am_s1 pr_696 rfl ?_
  refine am_s1 pr_697 rfl ?_
  refine am_s1 pr_698 rfl ?_
  refine am_g1 pr_699 h1 op_si_at ?_
  refine am_s1 pr_700 rfl ?_
  refine am_s1 pr_701 rfl ?_
  refine am_s1 pr_702 rfl ?_
  refine am_s1 pr_703 rfl ?_
  refine am_g1 pr_704 h2 op_si_at ?_
  refine am_s1 pr_705 rfl ?_
  refine am_s1 pr_706 rfl ?_
  refine am_s1 pr_707 rfl ?_
  refine am_s1 pr_708 rfl ?_
  refine am_g1 pr_709 h3 op_si_at ?_
  refine am_c1 pr_710 rfl (t_X9_years (z := x') (by decide) e2) ?_
  show am_At am_PR 40 (pL xs L) 713 (lvL i, ([am_I v, am_I v], (x', z'))) r
  exact am_s1 pr_713 op_ic_eq K
theorem lc_22 {n : Nat} (hn : 1000000 ≤ n) (ht : tm < 1000) (hk : ∀ i, xK x i < 5) (h : Rel tm x z) : ∃ x' z', Rel (tm + 1) x' z' ∧ (∀ i, xK x' i < 5) ∧ (∀ r : am_Q, am_At am_PR 40 (pL xs L) 781 (lvL i, ([], (x', z'))) r → am_At am_PR 40 (pL xs L) 718 (lvL i, ([], (x, z))) r) := by
  obtain ⟨v, x', z', e1, e2, R1, k1⟩ := O_image (n := n) (Nat.le_trans (by decide) hn) ht hk h
  refine ⟨x', z', R1, k1, fun r K => ?_⟩
  refine am_s1 pr_718 rfl ?_
  refine am_c1 pr_719 rfl (t_X8_image (z := z) (by decide) e1) ?_
  refine am_s1 pr_722 rfl ?_
  refine am_c1 pr_723 rfl (t_X9_image (z := x') (by decide) e2) ?_
  show am_At am_PR 40 (pL xs L) 726 (lvL i, ([am_I v, am_I v], (x', z'))) r
  exact am_s1 pr_726 op_ic_eq K
theorem lc_23 {n : Nat} (hn : 1000000 ≤ n) (ht : tm < 1000) (hk : ∀ i, xK x i < 5) (h : Rel tm x z) : ∃ x' z', Rel (tm + 1) x' z' ∧ (∀ i, xK x' i < 5) ∧ (∀ r : am_Q, am_At am_PR 40 (pL xs L) 781 (lvL i, ([], (x', z'))) r → am_At am_PR 40 (pL xs L) 731 (lvL i, ([], (x, z))) r) := by
  obtain ⟨v, x', z', e1, e2, R1, k1⟩ := O_restore (n := n) (Nat.le_trans (by decide) hn) ht hk h
  refine ⟨x', z', R1, k1, fun r K => ?_⟩
  refine am_s1 pr_731 rfl ?_
  refine am_c1 pr_732 rfl (t_X8_restore (z := z) (by decide) e1) ?_
  refine am_s1 pr_735 rfl ?_
  refine am_c1 pr_736 rfl (t_X9_restore (z := x') (by decide) e2) ?_
  show am_At am_PR 40 (pL xs L) 739 (lvL i, ([am_I v, am_I v], (x', z'))) r
  exact am_s1 pr_739 op_ic_eq K
theorem lc_24 {n : Nat} (hn : 1000000 ≤ n) (h1 : am_inB (i + (1 : Int32)) L = true) (ht : tm < 1000) (hk : ∀ i, xK x i < 5) (h : Rel tm x z) : ∃ x' z', Rel (tm + 1) x' z' ∧ (∀ i, xK x' i < 5) ∧ (∀ r : am_Q, am_At am_PR 40 (pL xs L) 781 (lvL i, ([], (x', z'))) r → am_At am_PR 40 (pL xs L) 744 (lvL i, ([], (x, z))) r) := by
  obtain ⟨v, x', z', e1, e2, R1, k1⟩ := O_count (n := n) (Nat.le_trans (by decide) hn) ht hk h (xs (i + (1 : Int32)).toNatClampNeg)
  refine ⟨x', z', R1, k1, fun r K => ?_⟩
  refine am_s1 pr_744 rfl ?_
  refine am_s1 pr_745 rfl ?_
  refine am_s1 pr_746 rfl ?_
  refine am_s1 pr_747 rfl ?_
  refine am_s1 pr_748 rfl ?_
  refine am_g1 pr_749 h1 op_si_at ?_
  refine am_c1 pr_750 rfl (t_X8_count (z := z) (by decide) e1) ?_
  refine am_s1 pr_753 rfl ?_
  refine am_s1 pr_754 rfl ?_
  refine am_s1 pr_755 rfl ?_
  refine am_s1 pr_756 rfl ?_
  refine am_s1 pr_757 rfl ?_
  refine am_g1 pr_758 h1 op_si_at ?_
  refine am_c1 pr_759 rfl (t_X9_count (z := x') (by decide) e2) ?_
  show am_At am_PR 40 (pL xs L) 762 (lvL i, ([am_I v, am_I v], (x', z'))) r
  exact am_s1 pr_762 op_ic_eq K
theorem lc_25 {n : Nat} (hn : 1000000 ≤ n) (ht : tm < 1000) (hk : ∀ i, xK x i < 5) (h : Rel tm x z) : ∃ x' z', Rel (tm + 1) x' z' ∧ (∀ i, xK x' i < 5) ∧ (∀ r : am_Q, am_At am_PR 40 (pL xs L) 781 (lvL i, ([], (x', z'))) r → am_At am_PR 40 (pL xs L) 767 (lvL i, ([], (x, z))) r) := by
  obtain ⟨v, x', z', e1, e2, R1, k1⟩ := O_digest (n := n) (Nat.le_trans (by decide) hn) ht hk h
  refine ⟨x', z', R1, k1, fun r K => ?_⟩
  refine am_s1 pr_767 rfl ?_
  refine am_c1 pr_768 rfl (t_X8_digest (z := z) (by decide) e1) ?_
  refine am_s1 pr_771 rfl ?_
  refine am_c1 pr_772 rfl (t_X9_digest (z := x') (by decide) e2) ?_
  refine am_s1 pr_775 rfl ?_
  show am_At am_PR 40 (pL xs L) 776 (lvL i, ([am_I (lg_cmp v v)], (x', z'))) r
  exact am_s1 pr_776 (op_if_0 (lg_cmp_self v)) K
end LC
