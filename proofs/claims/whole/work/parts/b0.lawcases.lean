/-! the law: its cases -/
variable {l : Launch} {p : Program} {en : Env} {s : State} {m : MethodId} {args : Array Value} {below : List Frame} {meth : Method} {c : Code} {D : va_G} {T : CT} {ad : AD} {A : Nat → Prop} {Cn Sn : Nat} {Q : State → Prop} {s0 : SS} {rt : Option FieldType}
abbrev LWL (iv : Int32) : List Value := [.ref 1003, .ref 0, .ref 56, .int iv]
theorem rv_11 : RV wF 0 "NineLaws" := rv_of w_0 cl_11
theorem rv_12 : RV wF 56 "NineLawsModel" := rv_of w_56 cl_12
theorem cs_0 {Lx : Nat} {xs : Nat → Int32} {iv : Int32} {N : Nat} (C : CX "NineLawsLaw" code 4 rt p s m args meth c D T ad A) (hX : va_X (ad 1003) Lx xs s s.heap) (hbl : ad 1003 < s.heap.size) (hbA : ¬ A (ad 1003)) (h1 : vp_in (iv + 1) Lx) (h2 : vp_in (iv + 2) Lx) (h3 : vp_in (iv + 3) Lx) (h4 : vp_in (iv + 4) Lx) (h5 : vp_in (iv + 5) Lx) (hC : Cn ≤ room_1.cells ∧ Sn ≤ room_1.slots) (hN : N < 1000000) (hJ : JJ N s0) (k : ∀ s2, JJ (N + 1) s2 → LCW l p en s m args below meth c D T ad A Cn Sn Q 1045 (LWL iv) [] s2) : LCW l p en s m args below meth c D T ad A Cn Sn Q 172 (LWL iv) [] s0 := by
  obtain ⟨v, t, u, e1, e2, hJ2⟩ := jj_law (xs (Int32.toNatClampNeg (iv + 1))) (xs (Int32.toNatClampNeg (iv + 2))) (xs (Int32.toNatClampNeg (iv + 3))) (xs (Int32.toNatClampNeg (iv + 4))) hN hJ
  refine k_aload_n (i := 1) C dL_172 rfl rfl ?_
  refine k_aload_n (i := 0) C dL_173 rfl rfl ?_
  refine k_iload_n (i := 3) C dL_174 rfl rfl ?_
  refine k_iconst (v := 1) C dL_175 rfl ?_
  refine k_iadd C dL_176 ?_
  refine k_sld C hX hbl hbA (h1) dL_177 ?_
  refine k_aload_n (i := 0) C dL_178 rfl rfl ?_
  refine k_iload_n (i := 3) C dL_179 rfl rfl ?_
  refine k_iconst (v := 2) C dL_180 rfl ?_
  refine k_iadd C dL_181 ?_
  refine k_sld C hX hbl hbA (h2) dL_182 ?_
  refine k_aload_n (i := 0) C dL_183 rfl rfl ?_
  refine k_iload_n (i := 3) C dL_184 rfl rfl ?_
  refine k_iconst (v := 3) C dL_185 rfl ?_
  refine k_iadd C dL_186 ?_
  refine k_sld C hX hbl hbA (h3) dL_187 ?_
  refine k_aload_n (i := 0) C dL_188 rfl rfl ?_
  refine k_iload_n (i := 3) C dL_189 rfl rfl ?_
  refine k_iconst (v := 4) C dL_190 rfl ?_
  refine k_iadd C dL_191 ?_
  refine k_sld C hX hbl hbA (h4) dL_192 ?_
  refine k_callVi (As := [.int (xs (Int32.toNatClampNeg (iv + 1))), .int (xs (Int32.toNatClampNeg (iv + 2))), .int (xs (Int32.toNatClampNeg (iv + 3))), .int (xs (Int32.toNatClampNeg (iv + 4)))]) (st := []) C rv_11 lwl_X11_law (c_X11_law (xs (Int32.toNatClampNeg (iv + 1))) (xs (Int32.toNatClampNeg (iv + 2))) (xs (Int32.toNatClampNeg (iv + 3))) (xs (Int32.toNatClampNeg (iv + 4))) _) (e1) rfl rfl (by decide) (Nat.le_of_ble_eq_true rfl) hC dL_193 ?_
  refine k_aload_n (i := 2) C dL_196 rfl rfl ?_
  refine k_aload_n (i := 0) C dL_197 rfl rfl ?_
  refine k_iload_n (i := 3) C dL_198 rfl rfl ?_
  refine k_iconst (v := 1) C dL_199 rfl ?_
  refine k_iadd C dL_200 ?_
  refine k_sld C hX hbl hbA (h1) dL_201 ?_
  refine k_aload_n (i := 0) C dL_202 rfl rfl ?_
  refine k_iload_n (i := 3) C dL_203 rfl rfl ?_
  refine k_iconst (v := 2) C dL_204 rfl ?_
  refine k_iadd C dL_205 ?_
  refine k_sld C hX hbl hbA (h2) dL_206 ?_
  refine k_aload_n (i := 0) C dL_207 rfl rfl ?_
  refine k_iload_n (i := 3) C dL_208 rfl rfl ?_
  refine k_iconst (v := 3) C dL_209 rfl ?_
  refine k_iadd C dL_210 ?_
  refine k_sld C hX hbl hbA (h3) dL_211 ?_
  refine k_aload_n (i := 0) C dL_212 rfl rfl ?_
  refine k_iload_n (i := 3) C dL_213 rfl rfl ?_
  refine k_iconst (v := 4) C dL_214 rfl ?_
  refine k_iadd C dL_215 ?_
  refine k_sld C hX hbl hbA (h4) dL_216 ?_
  refine k_callVi (As := [.int (xs (Int32.toNatClampNeg (iv + 1))), .int (xs (Int32.toNatClampNeg (iv + 2))), .int (xs (Int32.toNatClampNeg (iv + 3))), .int (xs (Int32.toNatClampNeg (iv + 4)))]) (st := [.int v]) C rv_12 lwl_X12_law (c_X12_law (xs (Int32.toNatClampNeg (iv + 1))) (xs (Int32.toNatClampNeg (iv + 2))) (xs (Int32.toNatClampNeg (iv + 3))) (xs (Int32.toNatClampNeg (iv + 4))) _) (e2) rfl rfl (by decide) (Nat.le_of_ble_eq_true rfl) hC dL_217 ?_
  exact k_icmp_same (tgt := 1045) C dL_220 rfl (k _ hJ2)
theorem cs_1 {Lx : Nat} {xs : Nat → Int32} {iv : Int32} {N : Nat} (C : CX "NineLawsLaw" code 4 rt p s m args meth c D T ad A) (hX : va_X (ad 1003) Lx xs s s.heap) (hbl : ad 1003 < s.heap.size) (hbA : ¬ A (ad 1003)) (h1 : vp_in (iv + 1) Lx) (h2 : vp_in (iv + 2) Lx) (h3 : vp_in (iv + 3) Lx) (h4 : vp_in (iv + 4) Lx) (h5 : vp_in (iv + 5) Lx) (hC : Cn ≤ room_1.cells ∧ Sn ≤ room_1.slots) (hN : N < 1000000) (hJ : JJ N s0) (k : ∀ s2, JJ (N + 1) s2 → LCW l p en s m args below meth c D T ad A Cn Sn Q 1045 (LWL iv) [] s2) : LCW l p en s m args below meth c D T ad A Cn Sn Q 225 (LWL iv) [] s0 := by
  obtain ⟨v, t, u, e1, e2, hJ2⟩ := jj_length (xs (Int32.toNatClampNeg (iv + 1))) hN hJ
  refine k_aload_n (i := 1) C dL_225 rfl rfl ?_
  refine k_aload_n (i := 0) C dL_226 rfl rfl ?_
  refine k_iload_n (i := 3) C dL_227 rfl rfl ?_
  refine k_iconst (v := 1) C dL_228 rfl ?_
  refine k_iadd C dL_229 ?_
  refine k_sld C hX hbl hbA (h1) dL_230 ?_
  refine k_callVi (As := [.int (xs (Int32.toNatClampNeg (iv + 1)))]) (st := []) C rv_11 lwl_X11_length (c_X11_length (xs (Int32.toNatClampNeg (iv + 1))) _) (e1) rfl rfl (by decide) (Nat.le_of_ble_eq_true rfl) hC dL_231 ?_
  refine k_aload_n (i := 2) C dL_234 rfl rfl ?_
  refine k_aload_n (i := 0) C dL_235 rfl rfl ?_
  refine k_iload_n (i := 3) C dL_236 rfl rfl ?_
  refine k_iconst (v := 1) C dL_237 rfl ?_
  refine k_iadd C dL_238 ?_
  refine k_sld C hX hbl hbA (h1) dL_239 ?_
  refine k_callVi (As := [.int (xs (Int32.toNatClampNeg (iv + 1)))]) (st := [.int v]) C rv_12 lwl_X12_length (c_X12_length (xs (Int32.toNatClampNeg (iv + 1))) _) (e2) rfl rfl (by decide) (Nat.le_of_ble_eq_true rfl) hC dL_240 ?_
  exact k_icmp_same (tgt := 1045) C dL_243 rfl (k _ hJ2)
theorem cs_2 {Lx : Nat} {xs : Nat → Int32} {iv : Int32} {N : Nat} (C : CX "NineLawsLaw" code 4 rt p s m args meth c D T ad A) (hX : va_X (ad 1003) Lx xs s s.heap) (hbl : ad 1003 < s.heap.size) (hbA : ¬ A (ad 1003)) (h1 : vp_in (iv + 1) Lx) (h2 : vp_in (iv + 2) Lx) (h3 : vp_in (iv + 3) Lx) (h4 : vp_in (iv + 4) Lx) (h5 : vp_in (iv + 5) Lx) (hC : Cn ≤ room_1.cells ∧ Sn ≤ room_1.slots) (hN : N < 1000000) (hJ : JJ N s0) (k : ∀ s2, JJ (N + 1) s2 → LCW l p en s m args below meth c D T ad A Cn Sn Q 1045 (LWL iv) [] s2) : LCW l p en s m args below meth c D T ad A Cn Sn Q 248 (LWL iv) [] s0 := by
  obtain ⟨v, t, u, e1, e2, hJ2⟩ := jj_rota (xs (Int32.toNatClampNeg (iv + 1))) hN hJ
  refine k_aload_n (i := 1) C dL_248 rfl rfl ?_
  refine k_aload_n (i := 0) C dL_249 rfl rfl ?_
  refine k_iload_n (i := 3) C dL_250 rfl rfl ?_
  refine k_iconst (v := 1) C dL_251 rfl ?_
  refine k_iadd C dL_252 ?_
  refine k_sld C hX hbl hbA (h1) dL_253 ?_
  refine k_callVi (As := [.int (xs (Int32.toNatClampNeg (iv + 1)))]) (st := []) C rv_11 lwl_X11_rota (c_X11_rota (xs (Int32.toNatClampNeg (iv + 1))) _) (e1) rfl rfl (by decide) (Nat.le_of_ble_eq_true rfl) hC dL_254 ?_
  refine k_aload_n (i := 2) C dL_257 rfl rfl ?_
  refine k_aload_n (i := 0) C dL_258 rfl rfl ?_
  refine k_iload_n (i := 3) C dL_259 rfl rfl ?_
  refine k_iconst (v := 1) C dL_260 rfl ?_
  refine k_iadd C dL_261 ?_
  refine k_sld C hX hbl hbA (h1) dL_262 ?_
  refine k_callVi (As := [.int (xs (Int32.toNatClampNeg (iv + 1)))]) (st := [.int v]) C rv_12 lwl_X12_rota (c_X12_rota (xs (Int32.toNatClampNeg (iv + 1))) _) (e2) rfl rfl (by decide) (Nat.le_of_ble_eq_true rfl) hC dL_263 ?_
  exact k_icmp_same (tgt := 1045) C dL_266 rfl (k _ hJ2)
theorem cs_3 {Lx : Nat} {xs : Nat → Int32} {iv : Int32} {N : Nat} (C : CX "NineLawsLaw" code 4 rt p s m args meth c D T ad A) (hX : va_X (ad 1003) Lx xs s s.heap) (hbl : ad 1003 < s.heap.size) (hbA : ¬ A (ad 1003)) (h1 : vp_in (iv + 1) Lx) (h2 : vp_in (iv + 2) Lx) (h3 : vp_in (iv + 3) Lx) (h4 : vp_in (iv + 4) Lx) (h5 : vp_in (iv + 5) Lx) (hC : Cn ≤ room_1.cells ∧ Sn ≤ room_1.slots) (hN : N < 1000000) (hJ : JJ N s0) (k : ∀ s2, JJ (N + 1) s2 → LCW l p en s m args below meth c D T ad A Cn Sn Q 1045 (LWL iv) [] s2) : LCW l p en s m args below meth c D T ad A Cn Sn Q 271 (LWL iv) [] s0 := by
  obtain ⟨v, t, u, e1, e2, hJ2⟩ := jj_kind (xs (Int32.toNatClampNeg (iv + 1))) (xs (Int32.toNatClampNeg (iv + 2))) (xs (Int32.toNatClampNeg (iv + 3))) hN hJ
  refine k_aload_n (i := 1) C dL_271 rfl rfl ?_
  refine k_aload_n (i := 0) C dL_272 rfl rfl ?_
  refine k_iload_n (i := 3) C dL_273 rfl rfl ?_
  refine k_iconst (v := 1) C dL_274 rfl ?_
  refine k_iadd C dL_275 ?_
  refine k_sld C hX hbl hbA (h1) dL_276 ?_
  refine k_aload_n (i := 0) C dL_277 rfl rfl ?_
  refine k_iload_n (i := 3) C dL_278 rfl rfl ?_
  refine k_iconst (v := 2) C dL_279 rfl ?_
  refine k_iadd C dL_280 ?_
  refine k_sld C hX hbl hbA (h2) dL_281 ?_
  refine k_aload_n (i := 0) C dL_282 rfl rfl ?_
  refine k_iload_n (i := 3) C dL_283 rfl rfl ?_
  refine k_iconst (v := 3) C dL_284 rfl ?_
  refine k_iadd C dL_285 ?_
  refine k_sld C hX hbl hbA (h3) dL_286 ?_
  refine k_callVi (As := [.int (xs (Int32.toNatClampNeg (iv + 1))), .int (xs (Int32.toNatClampNeg (iv + 2))), .int (xs (Int32.toNatClampNeg (iv + 3)))]) (st := []) C rv_11 lwl_X11_kind (c_X11_kind (xs (Int32.toNatClampNeg (iv + 1))) (xs (Int32.toNatClampNeg (iv + 2))) (xs (Int32.toNatClampNeg (iv + 3))) _) (e1) rfl rfl (by decide) (Nat.le_of_ble_eq_true rfl) hC dL_287 ?_
  refine k_aload_n (i := 2) C dL_290 rfl rfl ?_
  refine k_aload_n (i := 0) C dL_291 rfl rfl ?_
  refine k_iload_n (i := 3) C dL_292 rfl rfl ?_
  refine k_iconst (v := 1) C dL_293 rfl ?_
  refine k_iadd C dL_294 ?_
  refine k_sld C hX hbl hbA (h1) dL_295 ?_
  refine k_aload_n (i := 0) C dL_296 rfl rfl ?_
  refine k_iload_n (i := 3) C dL_297 rfl rfl ?_
  refine k_iconst (v := 2) C dL_298 rfl ?_
  refine k_iadd C dL_299 ?_
  refine k_sld C hX hbl hbA (h2) dL_300 ?_
  refine k_aload_n (i := 0) C dL_301 rfl rfl ?_
  refine k_iload_n (i := 3) C dL_302 rfl rfl ?_
  refine k_iconst (v := 3) C dL_303 rfl ?_
  refine k_iadd C dL_304 ?_
  refine k_sld C hX hbl hbA (h3) dL_305 ?_
  refine k_callVi (As := [.int (xs (Int32.toNatClampNeg (iv + 1))), .int (xs (Int32.toNatClampNeg (iv + 2))), .int (xs (Int32.toNatClampNeg (iv + 3)))]) (st := [.int v]) C rv_12 lwl_X12_kind (c_X12_kind (xs (Int32.toNatClampNeg (iv + 1))) (xs (Int32.toNatClampNeg (iv + 2))) (xs (Int32.toNatClampNeg (iv + 3))) _) (e2) rfl rfl (by decide) (Nat.le_of_ble_eq_true rfl) hC dL_306 ?_
  exact k_icmp_same (tgt := 1045) C dL_309 rfl (k _ hJ2)
theorem cs_4 {Lx : Nat} {xs : Nat → Int32} {iv : Int32} {N : Nat} (C : CX "NineLawsLaw" code 4 rt p s m args meth c D T ad A) (hX : va_X (ad 1003) Lx xs s s.heap) (hbl : ad 1003 < s.heap.size) (hbA : ¬ A (ad 1003)) (h1 : vp_in (iv + 1) Lx) (h2 : vp_in (iv + 2) Lx) (h3 : vp_in (iv + 3) Lx) (h4 : vp_in (iv + 4) Lx) (h5 : vp_in (iv + 5) Lx) (hC : Cn ≤ room_1.cells ∧ Sn ≤ room_1.slots) (hN : N < 1000000) (hJ : JJ N s0) (k : ∀ s2, JJ (N + 1) s2 → LCW l p en s m args below meth c D T ad A Cn Sn Q 1045 (LWL iv) [] s2) : LCW l p en s m args below meth c D T ad A Cn Sn Q 314 (LWL iv) [] s0 := by
  obtain ⟨v, t, u, e1, e2, hJ2⟩ := jj_feed (xs (Int32.toNatClampNeg (iv + 1))) (xs (Int32.toNatClampNeg (iv + 2))) (xs (Int32.toNatClampNeg (iv + 3))) (xs (Int32.toNatClampNeg (iv + 4))) (xs (Int32.toNatClampNeg (iv + 5))) hN hJ
  refine k_aload_n (i := 1) C dL_314 rfl rfl ?_
  refine k_aload_n (i := 0) C dL_315 rfl rfl ?_
  refine k_iload_n (i := 3) C dL_316 rfl rfl ?_
  refine k_iconst (v := 1) C dL_317 rfl ?_
  refine k_iadd C dL_318 ?_
  refine k_sld C hX hbl hbA (h1) dL_319 ?_
  refine k_aload_n (i := 0) C dL_320 rfl rfl ?_
  refine k_iload_n (i := 3) C dL_321 rfl rfl ?_
  refine k_iconst (v := 2) C dL_322 rfl ?_
  refine k_iadd C dL_323 ?_
  refine k_sld C hX hbl hbA (h2) dL_324 ?_
  refine k_aload_n (i := 0) C dL_325 rfl rfl ?_
  refine k_iload_n (i := 3) C dL_326 rfl rfl ?_
  refine k_iconst (v := 3) C dL_327 rfl ?_
  refine k_iadd C dL_328 ?_
  refine k_sld C hX hbl hbA (h3) dL_329 ?_
  refine k_aload_n (i := 0) C dL_330 rfl rfl ?_
  refine k_iload_n (i := 3) C dL_331 rfl rfl ?_
  refine k_iconst (v := 4) C dL_332 rfl ?_
  refine k_iadd C dL_333 ?_
  refine k_sld C hX hbl hbA (h4) dL_334 ?_
  refine k_aload_n (i := 0) C dL_335 rfl rfl ?_
  refine k_iload_n (i := 3) C dL_336 rfl rfl ?_
  refine k_iconst (v := 5) C dL_337 rfl ?_
  refine k_iadd C dL_338 ?_
  refine k_sld C hX hbl hbA (h5) dL_339 ?_
  refine k_callVi (As := [.int (xs (Int32.toNatClampNeg (iv + 1))), .int (xs (Int32.toNatClampNeg (iv + 2))), .int (xs (Int32.toNatClampNeg (iv + 3))), .int (xs (Int32.toNatClampNeg (iv + 4))), .int (xs (Int32.toNatClampNeg (iv + 5)))]) (st := []) C rv_11 lwl_X11_feed (c_X11_feed (xs (Int32.toNatClampNeg (iv + 1))) (xs (Int32.toNatClampNeg (iv + 2))) (xs (Int32.toNatClampNeg (iv + 3))) (xs (Int32.toNatClampNeg (iv + 4))) (xs (Int32.toNatClampNeg (iv + 5))) _) (e1) rfl rfl (by decide) (Nat.le_of_ble_eq_true rfl) hC dL_340 ?_
  refine k_aload_n (i := 2) C dL_343 rfl rfl ?_
  refine k_aload_n (i := 0) C dL_344 rfl rfl ?_
  refine k_iload_n (i := 3) C dL_345 rfl rfl ?_
  refine k_iconst (v := 1) C dL_346 rfl ?_
  refine k_iadd C dL_347 ?_
  refine k_sld C hX hbl hbA (h1) dL_348 ?_
  refine k_aload_n (i := 0) C dL_349 rfl rfl ?_
  refine k_iload_n (i := 3) C dL_350 rfl rfl ?_
  refine k_iconst (v := 2) C dL_351 rfl ?_
  refine k_iadd C dL_352 ?_
  refine k_sld C hX hbl hbA (h2) dL_353 ?_
  refine k_aload_n (i := 0) C dL_354 rfl rfl ?_
  refine k_iload_n (i := 3) C dL_355 rfl rfl ?_
  refine k_iconst (v := 3) C dL_356 rfl ?_
  refine k_iadd C dL_357 ?_
  refine k_sld C hX hbl hbA (h3) dL_358 ?_
  refine k_aload_n (i := 0) C dL_359 rfl rfl ?_
  refine k_iload_n (i := 3) C dL_360 rfl rfl ?_
  refine k_iconst (v := 4) C dL_361 rfl ?_
  refine k_iadd C dL_362 ?_
  refine k_sld C hX hbl hbA (h4) dL_363 ?_
  refine k_aload_n (i := 0) C dL_364 rfl rfl ?_
  refine k_iload_n (i := 3) C dL_365 rfl rfl ?_
  refine k_iconst (v := 5) C dL_366 rfl ?_
  refine k_iadd C dL_367 ?_
  refine k_sld C hX hbl hbA (h5) dL_368 ?_
  refine k_callVi (As := [.int (xs (Int32.toNatClampNeg (iv + 1))), .int (xs (Int32.toNatClampNeg (iv + 2))), .int (xs (Int32.toNatClampNeg (iv + 3))), .int (xs (Int32.toNatClampNeg (iv + 4))), .int (xs (Int32.toNatClampNeg (iv + 5)))]) (st := [.int v]) C rv_12 lwl_X12_feed (c_X12_feed (xs (Int32.toNatClampNeg (iv + 1))) (xs (Int32.toNatClampNeg (iv + 2))) (xs (Int32.toNatClampNeg (iv + 3))) (xs (Int32.toNatClampNeg (iv + 4))) (xs (Int32.toNatClampNeg (iv + 5))) _) (e2) rfl rfl (by decide) (Nat.le_of_ble_eq_true rfl) hC dL_369 ?_
  exact k_icmp_same (tgt := 1045) C dL_372 rfl (k _ hJ2)
theorem cs_5 {Lx : Nat} {xs : Nat → Int32} {iv : Int32} {N : Nat} (C : CX "NineLawsLaw" code 4 rt p s m args meth c D T ad A) (hX : va_X (ad 1003) Lx xs s s.heap) (hbl : ad 1003 < s.heap.size) (hbA : ¬ A (ad 1003)) (h1 : vp_in (iv + 1) Lx) (h2 : vp_in (iv + 2) Lx) (h3 : vp_in (iv + 3) Lx) (h4 : vp_in (iv + 4) Lx) (h5 : vp_in (iv + 5) Lx) (hC : Cn ≤ room_1.cells ∧ Sn ≤ room_1.slots) (hN : N < 1000000) (hJ : JJ N s0) (k : ∀ s2, JJ (N + 1) s2 → LCW l p en s m args below meth c D T ad A Cn Sn Q 1045 (LWL iv) [] s2) : LCW l p en s m args below meth c D T ad A Cn Sn Q 377 (LWL iv) [] s0 := by
  obtain ⟨v, t, u, e1, e2, hJ2⟩ := jj_text (xs (Int32.toNatClampNeg (iv + 1))) hN hJ
  refine k_aload_n (i := 1) C dL_377 rfl rfl ?_
  refine k_aload_n (i := 0) C dL_378 rfl rfl ?_
  refine k_iload_n (i := 3) C dL_379 rfl rfl ?_
  refine k_iconst (v := 1) C dL_380 rfl ?_
  refine k_iadd C dL_381 ?_
  refine k_sld C hX hbl hbA (h1) dL_382 ?_
  refine k_callVi (As := [.int (xs (Int32.toNatClampNeg (iv + 1)))]) (st := []) C rv_11 lwl_X11_text (c_X11_text (xs (Int32.toNatClampNeg (iv + 1))) _) (e1) rfl rfl (by decide) (Nat.le_of_ble_eq_true rfl) hC dL_383 ?_
  refine k_aload_n (i := 2) C dL_386 rfl rfl ?_
  refine k_aload_n (i := 0) C dL_387 rfl rfl ?_
  refine k_iload_n (i := 3) C dL_388 rfl rfl ?_
  refine k_iconst (v := 1) C dL_389 rfl ?_
  refine k_iadd C dL_390 ?_
  refine k_sld C hX hbl hbA (h1) dL_391 ?_
  refine k_callVi (As := [.int (xs (Int32.toNatClampNeg (iv + 1)))]) (st := [.int v]) C rv_12 lwl_X12_text (c_X12_text (xs (Int32.toNatClampNeg (iv + 1))) _) (e2) rfl rfl (by decide) (Nat.le_of_ble_eq_true rfl) hC dL_392 ?_
  exact k_icmp_same (tgt := 1045) C dL_395 rfl (k _ hJ2)
theorem cs_6 {Lx : Nat} {xs : Nat → Int32} {iv : Int32} {N : Nat} (C : CX "NineLawsLaw" code 4 rt p s m args meth c D T ad A) (hX : va_X (ad 1003) Lx xs s s.heap) (hbl : ad 1003 < s.heap.size) (hbA : ¬ A (ad 1003)) (h1 : vp_in (iv + 1) Lx) (h2 : vp_in (iv + 2) Lx) (h3 : vp_in (iv + 3) Lx) (h4 : vp_in (iv + 4) Lx) (h5 : vp_in (iv + 5) Lx) (hC : Cn ≤ room_1.cells ∧ Sn ≤ room_1.slots) (hN : N < 1000000) (hJ : JJ N s0) (k : ∀ s2, JJ (N + 1) s2 → LCW l p en s m args below meth c D T ad A Cn Sn Q 1045 (LWL iv) [] s2) : LCW l p en s m args below meth c D T ad A Cn Sn Q 400 (LWL iv) [] s0 := by
  obtain ⟨v, t, u, e1, e2, hJ2⟩ := jj_may (xs (Int32.toNatClampNeg (iv + 1))) hN hJ
  refine k_aload_n (i := 1) C dL_400 rfl rfl ?_
  refine k_aload_n (i := 0) C dL_401 rfl rfl ?_
  refine k_iload_n (i := 3) C dL_402 rfl rfl ?_
  refine k_iconst (v := 1) C dL_403 rfl ?_
  refine k_iadd C dL_404 ?_
  refine k_sld C hX hbl hbA (h1) dL_405 ?_
  refine k_callVi (As := [.int (xs (Int32.toNatClampNeg (iv + 1)))]) (st := []) C rv_11 lwl_X11_may (c_X11_may (xs (Int32.toNatClampNeg (iv + 1))) _) (e1) rfl rfl (by decide) (Nat.le_of_ble_eq_true rfl) hC dL_406 ?_
  refine k_aload_n (i := 2) C dL_409 rfl rfl ?_
  refine k_aload_n (i := 0) C dL_410 rfl rfl ?_
  refine k_iload_n (i := 3) C dL_411 rfl rfl ?_
  refine k_iconst (v := 1) C dL_412 rfl ?_
  refine k_iadd C dL_413 ?_
  refine k_sld C hX hbl hbA (h1) dL_414 ?_
  refine k_callVi (As := [.int (xs (Int32.toNatClampNeg (iv + 1)))]) (st := [.int v]) C rv_12 lwl_X12_may (c_X12_may (xs (Int32.toNatClampNeg (iv + 1))) _) (e2) rfl rfl (by decide) (Nat.le_of_ble_eq_true rfl) hC dL_415 ?_
  exact k_icmp_same (tgt := 1045) C dL_418 rfl (k _ hJ2)
theorem cs_7 {Lx : Nat} {xs : Nat → Int32} {iv : Int32} {N : Nat} (C : CX "NineLawsLaw" code 4 rt p s m args meth c D T ad A) (hX : va_X (ad 1003) Lx xs s s.heap) (hbl : ad 1003 < s.heap.size) (hbA : ¬ A (ad 1003)) (h1 : vp_in (iv + 1) Lx) (h2 : vp_in (iv + 2) Lx) (h3 : vp_in (iv + 3) Lx) (h4 : vp_in (iv + 4) Lx) (h5 : vp_in (iv + 5) Lx) (hC : Cn ≤ room_1.cells ∧ Sn ≤ room_1.slots) (hN : N < 1000000) (hJ : JJ N s0) (k : ∀ s2, JJ (N + 1) s2 → LCW l p en s m args below meth c D T ad A Cn Sn Q 1045 (LWL iv) [] s2) : LCW l p en s m args below meth c D T ad A Cn Sn Q 423 (LWL iv) [] s0 := by
  obtain ⟨v, t, u, e1, e2, hJ2⟩ := jj_make (xs (Int32.toNatClampNeg (iv + 1))) hN hJ
  refine k_aload_n (i := 1) C dL_423 rfl rfl ?_
  refine k_aload_n (i := 0) C dL_424 rfl rfl ?_
  refine k_iload_n (i := 3) C dL_425 rfl rfl ?_
  refine k_iconst (v := 1) C dL_426 rfl ?_
  refine k_iadd C dL_427 ?_
  refine k_sld C hX hbl hbA (h1) dL_428 ?_
  refine k_callVi (As := [.int (xs (Int32.toNatClampNeg (iv + 1)))]) (st := []) C rv_11 lwl_X11_make (c_X11_make (xs (Int32.toNatClampNeg (iv + 1))) _) (e1) rfl rfl (by decide) (Nat.le_of_ble_eq_true rfl) hC dL_429 ?_
  refine k_aload_n (i := 2) C dL_432 rfl rfl ?_
  refine k_aload_n (i := 0) C dL_433 rfl rfl ?_
  refine k_iload_n (i := 3) C dL_434 rfl rfl ?_
  refine k_iconst (v := 1) C dL_435 rfl ?_
  refine k_iadd C dL_436 ?_
  refine k_sld C hX hbl hbA (h1) dL_437 ?_
  refine k_callVi (As := [.int (xs (Int32.toNatClampNeg (iv + 1)))]) (st := [.int v]) C rv_12 lwl_X12_make (c_X12_make (xs (Int32.toNatClampNeg (iv + 1))) _) (e2) rfl rfl (by decide) (Nat.le_of_ble_eq_true rfl) hC dL_438 ?_
  exact k_icmp_same (tgt := 1045) C dL_441 rfl (k _ hJ2)
theorem cs_8 {Lx : Nat} {xs : Nat → Int32} {iv : Int32} {N : Nat} (C : CX "NineLawsLaw" code 4 rt p s m args meth c D T ad A) (hX : va_X (ad 1003) Lx xs s s.heap) (hbl : ad 1003 < s.heap.size) (hbA : ¬ A (ad 1003)) (h1 : vp_in (iv + 1) Lx) (h2 : vp_in (iv + 2) Lx) (h3 : vp_in (iv + 3) Lx) (h4 : vp_in (iv + 4) Lx) (h5 : vp_in (iv + 5) Lx) (hC : Cn ≤ room_1.cells ∧ Sn ≤ room_1.slots) (hN : N < 1000000) (hJ : JJ N s0) (k : ∀ s2, JJ (N + 1) s2 → LCW l p en s m args below meth c D T ad A Cn Sn Q 1045 (LWL iv) [] s2) : LCW l p en s m args below meth c D T ad A Cn Sn Q 446 (LWL iv) [] s0 := by
  obtain ⟨v, t, u, e1, e2, hJ2⟩ := jj_at (xs (Int32.toNatClampNeg (iv + 1))) hN hJ
  refine k_aload_n (i := 1) C dL_446 rfl rfl ?_
  refine k_aload_n (i := 0) C dL_447 rfl rfl ?_
  refine k_iload_n (i := 3) C dL_448 rfl rfl ?_
  refine k_iconst (v := 1) C dL_449 rfl ?_
  refine k_iadd C dL_450 ?_
  refine k_sld C hX hbl hbA (h1) dL_451 ?_
  refine k_callVi (As := [.int (xs (Int32.toNatClampNeg (iv + 1)))]) (st := []) C rv_11 lwl_X11_at (c_X11_at (xs (Int32.toNatClampNeg (iv + 1))) _) (e1) rfl rfl (by decide) (Nat.le_of_ble_eq_true rfl) hC dL_452 ?_
  refine k_aload_n (i := 2) C dL_455 rfl rfl ?_
  refine k_aload_n (i := 0) C dL_456 rfl rfl ?_
  refine k_iload_n (i := 3) C dL_457 rfl rfl ?_
  refine k_iconst (v := 1) C dL_458 rfl ?_
  refine k_iadd C dL_459 ?_
  refine k_sld C hX hbl hbA (h1) dL_460 ?_
  refine k_callVi (As := [.int (xs (Int32.toNatClampNeg (iv + 1)))]) (st := [.int v]) C rv_12 lwl_X12_at (c_X12_at (xs (Int32.toNatClampNeg (iv + 1))) _) (e2) rfl rfl (by decide) (Nat.le_of_ble_eq_true rfl) hC dL_461 ?_
  exact k_icmp_same (tgt := 1045) C dL_464 rfl (k _ hJ2)
theorem cs_9 {Lx : Nat} {xs : Nat → Int32} {iv : Int32} {N : Nat} (C : CX "NineLawsLaw" code 4 rt p s m args meth c D T ad A) (hX : va_X (ad 1003) Lx xs s s.heap) (hbl : ad 1003 < s.heap.size) (hbA : ¬ A (ad 1003)) (h1 : vp_in (iv + 1) Lx) (h2 : vp_in (iv + 2) Lx) (h3 : vp_in (iv + 3) Lx) (h4 : vp_in (iv + 4) Lx) (h5 : vp_in (iv + 5) Lx) (hC : Cn ≤ room_1.cells ∧ Sn ≤ room_1.slots) (hN : N < 1000000) (hJ : JJ N s0) (k : ∀ s2, JJ (N + 1) s2 → LCW l p en s m args below meth c D T ad A Cn Sn Q 1045 (LWL iv) [] s2) : LCW l p en s m args below meth c D T ad A Cn Sn Q 469 (LWL iv) [] s0 := by
  obtain ⟨v, t, u, e1, e2, hJ2⟩ := jj_holding  hN hJ
  refine k_aload_n (i := 1) C dL_469 rfl rfl ?_
  refine k_callVi (As := []) (st := []) C rv_11 lwl_X11_holding (c_X11_holding  _) (e1) rfl rfl (by decide) (Nat.le_of_ble_eq_true rfl) hC dL_470 ?_
  refine k_aload_n (i := 2) C dL_473 rfl rfl ?_
  refine k_callVi (As := []) (st := [.int v]) C rv_12 lwl_X12_holding (c_X12_holding  _) (e2) rfl rfl (by decide) (Nat.le_of_ble_eq_true rfl) hC dL_474 ?_
  exact k_icmp_same (tgt := 1045) C dL_477 rfl (k _ hJ2)
theorem cs_10 {Lx : Nat} {xs : Nat → Int32} {iv : Int32} {N : Nat} (C : CX "NineLawsLaw" code 4 rt p s m args meth c D T ad A) (hX : va_X (ad 1003) Lx xs s s.heap) (hbl : ad 1003 < s.heap.size) (hbA : ¬ A (ad 1003)) (h1 : vp_in (iv + 1) Lx) (h2 : vp_in (iv + 2) Lx) (h3 : vp_in (iv + 3) Lx) (h4 : vp_in (iv + 4) Lx) (h5 : vp_in (iv + 5) Lx) (hC : Cn ≤ room_1.cells ∧ Sn ≤ room_1.slots) (hN : N < 1000000) (hJ : JJ N s0) (k : ∀ s2, JJ (N + 1) s2 → LCW l p en s m args below meth c D T ad A Cn Sn Q 1045 (LWL iv) [] s2) : LCW l p en s m args below meth c D T ad A Cn Sn Q 482 (LWL iv) [] s0 := by
  obtain ⟨v, t, u, e1, e2, hJ2⟩ := jj_worth (xs (Int32.toNatClampNeg (iv + 1))) hN hJ
  refine k_aload_n (i := 1) C dL_482 rfl rfl ?_
  refine k_aload_n (i := 0) C dL_483 rfl rfl ?_
  refine k_iload_n (i := 3) C dL_484 rfl rfl ?_
  refine k_iconst (v := 1) C dL_485 rfl ?_
  refine k_iadd C dL_486 ?_
  refine k_sld C hX hbl hbA (h1) dL_487 ?_
  refine k_callVi (As := [.int (xs (Int32.toNatClampNeg (iv + 1)))]) (st := []) C rv_11 lwl_X11_worth (c_X11_worth (xs (Int32.toNatClampNeg (iv + 1))) _) (e1) rfl rfl (by decide) (Nat.le_of_ble_eq_true rfl) hC dL_488 ?_
  refine k_aload_n (i := 2) C dL_491 rfl rfl ?_
  refine k_aload_n (i := 0) C dL_492 rfl rfl ?_
  refine k_iload_n (i := 3) C dL_493 rfl rfl ?_
  refine k_iconst (v := 1) C dL_494 rfl ?_
  refine k_iadd C dL_495 ?_
  refine k_sld C hX hbl hbA (h1) dL_496 ?_
  refine k_callVi (As := [.int (xs (Int32.toNatClampNeg (iv + 1)))]) (st := [.int v]) C rv_12 lwl_X12_worth (c_X12_worth (xs (Int32.toNatClampNeg (iv + 1))) _) (e2) rfl rfl (by decide) (Nat.le_of_ble_eq_true rfl) hC dL_497 ?_
  exact k_icmp_same (tgt := 1045) C dL_500 rfl (k _ hJ2)
theorem cs_11 {Lx : Nat} {xs : Nat → Int32} {iv : Int32} {N : Nat} (C : CX "NineLawsLaw" code 4 rt p s m args meth c D T ad A) (hX : va_X (ad 1003) Lx xs s s.heap) (hbl : ad 1003 < s.heap.size) (hbA : ¬ A (ad 1003)) (h1 : vp_in (iv + 1) Lx) (h2 : vp_in (iv + 2) Lx) (h3 : vp_in (iv + 3) Lx) (h4 : vp_in (iv + 4) Lx) (h5 : vp_in (iv + 5) Lx) (hC : Cn ≤ room_1.cells ∧ Sn ≤ room_1.slots) (hN : N < 1000000) (hJ : JJ N s0) (k : ∀ s2, JJ (N + 1) s2 → LCW l p en s m args below meth c D T ad A Cn Sn Q 1045 (LWL iv) [] s2) : LCW l p en s m args below meth c D T ad A Cn Sn Q 505 (LWL iv) [] s0 := by
  obtain ⟨v, t, u, e1, e2, hJ2⟩ := jj_would (xs (Int32.toNatClampNeg (iv + 1))) hN hJ
  refine k_aload_n (i := 1) C dL_505 rfl rfl ?_
  refine k_aload_n (i := 0) C dL_506 rfl rfl ?_
  refine k_iload_n (i := 3) C dL_507 rfl rfl ?_
  refine k_iconst (v := 1) C dL_508 rfl ?_
  refine k_iadd C dL_509 ?_
  refine k_sld C hX hbl hbA (h1) dL_510 ?_
  refine k_callVi (As := [.int (xs (Int32.toNatClampNeg (iv + 1)))]) (st := []) C rv_11 lwl_X11_would (c_X11_would (xs (Int32.toNatClampNeg (iv + 1))) _) (e1) rfl rfl (by decide) (Nat.le_of_ble_eq_true rfl) hC dL_511 ?_
  refine k_aload_n (i := 2) C dL_514 rfl rfl ?_
  refine k_aload_n (i := 0) C dL_515 rfl rfl ?_
  refine k_iload_n (i := 3) C dL_516 rfl rfl ?_
  refine k_iconst (v := 1) C dL_517 rfl ?_
  refine k_iadd C dL_518 ?_
  refine k_sld C hX hbl hbA (h1) dL_519 ?_
  refine k_callVi (As := [.int (xs (Int32.toNatClampNeg (iv + 1)))]) (st := [.int v]) C rv_12 lwl_X12_would (c_X12_would (xs (Int32.toNatClampNeg (iv + 1))) _) (e2) rfl rfl (by decide) (Nat.le_of_ble_eq_true rfl) hC dL_520 ?_
  exact k_icmp_same (tgt := 1045) C dL_523 rfl (k _ hJ2)
theorem cs_12 {Lx : Nat} {xs : Nat → Int32} {iv : Int32} {N : Nat} (C : CX "NineLawsLaw" code 4 rt p s m args meth c D T ad A) (hX : va_X (ad 1003) Lx xs s s.heap) (hbl : ad 1003 < s.heap.size) (hbA : ¬ A (ad 1003)) (h1 : vp_in (iv + 1) Lx) (h2 : vp_in (iv + 2) Lx) (h3 : vp_in (iv + 3) Lx) (h4 : vp_in (iv + 4) Lx) (h5 : vp_in (iv + 5) Lx) (hC : Cn ≤ room_1.cells ∧ Sn ≤ room_1.slots) (hN : N < 1000000) (hJ : JJ N s0) (k : ∀ s2, JJ (N + 1) s2 → LCW l p en s m args below meth c D T ad A Cn Sn Q 1045 (LWL iv) [] s2) : LCW l p en s m args below meth c D T ad A Cn Sn Q 528 (LWL iv) [] s0 := by
  obtain ⟨v, t, u, e1, e2, hJ2⟩ := jj_run (xs (Int32.toNatClampNeg (iv + 1))) (xs (Int32.toNatClampNeg (iv + 2))) hN hJ
  refine k_aload_n (i := 1) C dL_528 rfl rfl ?_
  refine k_aload_n (i := 0) C dL_529 rfl rfl ?_
  refine k_iload_n (i := 3) C dL_530 rfl rfl ?_
  refine k_iconst (v := 1) C dL_531 rfl ?_
  refine k_iadd C dL_532 ?_
  refine k_sld C hX hbl hbA (h1) dL_533 ?_
  refine k_aload_n (i := 0) C dL_534 rfl rfl ?_
  refine k_iload_n (i := 3) C dL_535 rfl rfl ?_
  refine k_iconst (v := 2) C dL_536 rfl ?_
  refine k_iadd C dL_537 ?_
  refine k_sld C hX hbl hbA (h2) dL_538 ?_
  refine k_callVi (As := [.int (xs (Int32.toNatClampNeg (iv + 1))), .int (xs (Int32.toNatClampNeg (iv + 2)))]) (st := []) C rv_11 lwl_X11_run (c_X11_run (xs (Int32.toNatClampNeg (iv + 1))) (xs (Int32.toNatClampNeg (iv + 2))) _) (e1) rfl rfl (by decide) (Nat.le_of_ble_eq_true rfl) hC dL_539 ?_
  refine k_aload_n (i := 2) C dL_542 rfl rfl ?_
  refine k_aload_n (i := 0) C dL_543 rfl rfl ?_
  refine k_iload_n (i := 3) C dL_544 rfl rfl ?_
  refine k_iconst (v := 1) C dL_545 rfl ?_
  refine k_iadd C dL_546 ?_
  refine k_sld C hX hbl hbA (h1) dL_547 ?_
  refine k_aload_n (i := 0) C dL_548 rfl rfl ?_
  refine k_iload_n (i := 3) C dL_549 rfl rfl ?_
  refine k_iconst (v := 2) C dL_550 rfl ?_
  refine k_iadd C dL_551 ?_
  refine k_sld C hX hbl hbA (h2) dL_552 ?_
  refine k_callVi (As := [.int (xs (Int32.toNatClampNeg (iv + 1))), .int (xs (Int32.toNatClampNeg (iv + 2)))]) (st := [.int v]) C rv_12 lwl_X12_run (c_X12_run (xs (Int32.toNatClampNeg (iv + 1))) (xs (Int32.toNatClampNeg (iv + 2))) _) (e2) rfl rfl (by decide) (Nat.le_of_ble_eq_true rfl) hC dL_553 ?_
  exact k_icmp_same (tgt := 1045) C dL_556 rfl (k _ hJ2)
theorem cs_13 {Lx : Nat} {xs : Nat → Int32} {iv : Int32} {N : Nat} (C : CX "NineLawsLaw" code 4 rt p s m args meth c D T ad A) (hX : va_X (ad 1003) Lx xs s s.heap) (hbl : ad 1003 < s.heap.size) (hbA : ¬ A (ad 1003)) (h1 : vp_in (iv + 1) Lx) (h2 : vp_in (iv + 2) Lx) (h3 : vp_in (iv + 3) Lx) (h4 : vp_in (iv + 4) Lx) (h5 : vp_in (iv + 5) Lx) (hC : Cn ≤ room_1.cells ∧ Sn ≤ room_1.slots) (hN : N < 1000000) (hJ : JJ N s0) (k : ∀ s2, JJ (N + 1) s2 → LCW l p en s m args below meth c D T ad A Cn Sn Q 1045 (LWL iv) [] s2) : LCW l p en s m args below meth c D T ad A Cn Sn Q 561 (LWL iv) [] s0 := by
  obtain ⟨v, t, u, e1, e2, hJ2⟩ := jj_mean (xs (Int32.toNatClampNeg (iv + 1))) hN hJ
  refine k_aload_n (i := 1) C dL_561 rfl rfl ?_
  refine k_aload_n (i := 0) C dL_562 rfl rfl ?_
  refine k_iload_n (i := 3) C dL_563 rfl rfl ?_
  refine k_iconst (v := 1) C dL_564 rfl ?_
  refine k_iadd C dL_565 ?_
  refine k_sld C hX hbl hbA (h1) dL_566 ?_
  refine k_callVi (As := [.int (xs (Int32.toNatClampNeg (iv + 1)))]) (st := []) C rv_11 lwl_X11_mean (c_X11_mean (xs (Int32.toNatClampNeg (iv + 1))) _) (e1) rfl rfl (by decide) (Nat.le_of_ble_eq_true rfl) hC dL_567 ?_
  refine k_aload_n (i := 2) C dL_570 rfl rfl ?_
  refine k_aload_n (i := 0) C dL_571 rfl rfl ?_
  refine k_iload_n (i := 3) C dL_572 rfl rfl ?_
  refine k_iconst (v := 1) C dL_573 rfl ?_
  refine k_iadd C dL_574 ?_
  refine k_sld C hX hbl hbA (h1) dL_575 ?_
  refine k_callVi (As := [.int (xs (Int32.toNatClampNeg (iv + 1)))]) (st := [.int v]) C rv_12 lwl_X12_mean (c_X12_mean (xs (Int32.toNatClampNeg (iv + 1))) _) (e2) rfl rfl (by decide) (Nat.le_of_ble_eq_true rfl) hC dL_576 ?_
  exact k_icmp_same (tgt := 1045) C dL_579 rfl (k _ hJ2)
theorem cs_14 {Lx : Nat} {xs : Nat → Int32} {iv : Int32} {N : Nat} (C : CX "NineLawsLaw" code 4 rt p s m args meth c D T ad A) (hX : va_X (ad 1003) Lx xs s s.heap) (hbl : ad 1003 < s.heap.size) (hbA : ¬ A (ad 1003)) (h1 : vp_in (iv + 1) Lx) (h2 : vp_in (iv + 2) Lx) (h3 : vp_in (iv + 3) Lx) (h4 : vp_in (iv + 4) Lx) (h5 : vp_in (iv + 5) Lx) (hC : Cn ≤ room_1.cells ∧ Sn ≤ room_1.slots) (hN : N < 1000000) (hJ : JJ N s0) (k : ∀ s2, JJ (N + 1) s2 → LCW l p en s m args below meth c D T ad A Cn Sn Q 1045 (LWL iv) [] s2) : LCW l p en s m args below meth c D T ad A Cn Sn Q 584 (LWL iv) [] s0 := by
  obtain ⟨v, t, u, e1, e2, hJ2⟩ := jj_best (xs (Int32.toNatClampNeg (iv + 1))) (xs (Int32.toNatClampNeg (iv + 2))) (xs (Int32.toNatClampNeg (iv + 3))) hN hJ
  refine k_aload_n (i := 1) C dL_584 rfl rfl ?_
  refine k_aload_n (i := 0) C dL_585 rfl rfl ?_
  refine k_iload_n (i := 3) C dL_586 rfl rfl ?_
  refine k_iconst (v := 1) C dL_587 rfl ?_
  refine k_iadd C dL_588 ?_
  refine k_sld C hX hbl hbA (h1) dL_589 ?_
  refine k_aload_n (i := 0) C dL_590 rfl rfl ?_
  refine k_iload_n (i := 3) C dL_591 rfl rfl ?_
  refine k_iconst (v := 2) C dL_592 rfl ?_
  refine k_iadd C dL_593 ?_
  refine k_sld C hX hbl hbA (h2) dL_594 ?_
  refine k_aload_n (i := 0) C dL_595 rfl rfl ?_
  refine k_iload_n (i := 3) C dL_596 rfl rfl ?_
  refine k_iconst (v := 3) C dL_597 rfl ?_
  refine k_iadd C dL_598 ?_
  refine k_sld C hX hbl hbA (h3) dL_599 ?_
  refine k_callVi (As := [.int (xs (Int32.toNatClampNeg (iv + 1))), .int (xs (Int32.toNatClampNeg (iv + 2))), .int (xs (Int32.toNatClampNeg (iv + 3)))]) (st := []) C rv_11 lwl_X11_best (c_X11_best (xs (Int32.toNatClampNeg (iv + 1))) (xs (Int32.toNatClampNeg (iv + 2))) (xs (Int32.toNatClampNeg (iv + 3))) _) (e1) rfl rfl (by decide) (Nat.le_of_ble_eq_true rfl) hC dL_600 ?_
  refine k_aload_n (i := 2) C dL_603 rfl rfl ?_
  refine k_aload_n (i := 0) C dL_604 rfl rfl ?_
  refine k_iload_n (i := 3) C dL_605 rfl rfl ?_
  refine k_iconst (v := 1) C dL_606 rfl ?_
  refine k_iadd C dL_607 ?_
  refine k_sld C hX hbl hbA (h1) dL_608 ?_
  refine k_aload_n (i := 0) C dL_609 rfl rfl ?_
  refine k_iload_n (i := 3) C dL_610 rfl rfl ?_
  refine k_iconst (v := 2) C dL_611 rfl ?_
  refine k_iadd C dL_612 ?_
  refine k_sld C hX hbl hbA (h2) dL_613 ?_
  refine k_aload_n (i := 0) C dL_614 rfl rfl ?_
  refine k_iload_n (i := 3) C dL_615 rfl rfl ?_
  refine k_iconst (v := 3) C dL_616 rfl ?_
  refine k_iadd C dL_617 ?_
  refine k_sld C hX hbl hbA (h3) dL_618 ?_
  refine k_callVi (As := [.int (xs (Int32.toNatClampNeg (iv + 1))), .int (xs (Int32.toNatClampNeg (iv + 2))), .int (xs (Int32.toNatClampNeg (iv + 3)))]) (st := [.int v]) C rv_12 lwl_X12_best (c_X12_best (xs (Int32.toNatClampNeg (iv + 1))) (xs (Int32.toNatClampNeg (iv + 2))) (xs (Int32.toNatClampNeg (iv + 3))) _) (e2) rfl rfl (by decide) (Nat.le_of_ble_eq_true rfl) hC dL_619 ?_
  exact k_icmp_same (tgt := 1045) C dL_622 rfl (k _ hJ2)
theorem cs_15 {Lx : Nat} {xs : Nat → Int32} {iv : Int32} {N : Nat} (C : CX "NineLawsLaw" code 4 rt p s m args meth c D T ad A) (hX : va_X (ad 1003) Lx xs s s.heap) (hbl : ad 1003 < s.heap.size) (hbA : ¬ A (ad 1003)) (h1 : vp_in (iv + 1) Lx) (h2 : vp_in (iv + 2) Lx) (h3 : vp_in (iv + 3) Lx) (h4 : vp_in (iv + 4) Lx) (h5 : vp_in (iv + 5) Lx) (hC : Cn ≤ room_1.cells ∧ Sn ≤ room_1.slots) (hN : N < 1000000) (hJ : JJ N s0) (k : ∀ s2, JJ (N + 1) s2 → LCW l p en s m args below meth c D T ad A Cn Sn Q 1045 (LWL iv) [] s2) : LCW l p en s m args below meth c D T ad A Cn Sn Q 627 (LWL iv) [] s0 := by
  obtain ⟨v, t, u, e1, e2, hJ2⟩ := jj_all (xs (Int32.toNatClampNeg (iv + 1))) (xs (Int32.toNatClampNeg (iv + 2))) hN hJ
  refine k_aload_n (i := 1) C dL_627 rfl rfl ?_
  refine k_aload_n (i := 0) C dL_628 rfl rfl ?_
  refine k_iload_n (i := 3) C dL_629 rfl rfl ?_
  refine k_iconst (v := 1) C dL_630 rfl ?_
  refine k_iadd C dL_631 ?_
  refine k_sld C hX hbl hbA (h1) dL_632 ?_
  refine k_aload_n (i := 0) C dL_633 rfl rfl ?_
  refine k_iload_n (i := 3) C dL_634 rfl rfl ?_
  refine k_iconst (v := 2) C dL_635 rfl ?_
  refine k_iadd C dL_636 ?_
  refine k_sld C hX hbl hbA (h2) dL_637 ?_
  refine k_callVi (As := [.int (xs (Int32.toNatClampNeg (iv + 1))), .int (xs (Int32.toNatClampNeg (iv + 2)))]) (st := []) C rv_11 lwl_X11_all (c_X11_all (xs (Int32.toNatClampNeg (iv + 1))) (xs (Int32.toNatClampNeg (iv + 2))) _) (e1) rfl rfl (by decide) (Nat.le_of_ble_eq_true rfl) hC dL_638 ?_
  refine k_aload_n (i := 2) C dL_641 rfl rfl ?_
  refine k_aload_n (i := 0) C dL_642 rfl rfl ?_
  refine k_iload_n (i := 3) C dL_643 rfl rfl ?_
  refine k_iconst (v := 1) C dL_644 rfl ?_
  refine k_iadd C dL_645 ?_
  refine k_sld C hX hbl hbA (h1) dL_646 ?_
  refine k_aload_n (i := 0) C dL_647 rfl rfl ?_
  refine k_iload_n (i := 3) C dL_648 rfl rfl ?_
  refine k_iconst (v := 2) C dL_649 rfl ?_
  refine k_iadd C dL_650 ?_
  refine k_sld C hX hbl hbA (h2) dL_651 ?_
  refine k_callVi (As := [.int (xs (Int32.toNatClampNeg (iv + 1))), .int (xs (Int32.toNatClampNeg (iv + 2)))]) (st := [.int v]) C rv_12 lwl_X12_all (c_X12_all (xs (Int32.toNatClampNeg (iv + 1))) (xs (Int32.toNatClampNeg (iv + 2))) _) (e2) rfl rfl (by decide) (Nat.le_of_ble_eq_true rfl) hC dL_652 ?_
  exact k_icmp_same (tgt := 1045) C dL_655 rfl (k _ hJ2)
theorem cs_16 {Lx : Nat} {xs : Nat → Int32} {iv : Int32} {N : Nat} (C : CX "NineLawsLaw" code 4 rt p s m args meth c D T ad A) (hX : va_X (ad 1003) Lx xs s s.heap) (hbl : ad 1003 < s.heap.size) (hbA : ¬ A (ad 1003)) (h1 : vp_in (iv + 1) Lx) (h2 : vp_in (iv + 2) Lx) (h3 : vp_in (iv + 3) Lx) (h4 : vp_in (iv + 4) Lx) (h5 : vp_in (iv + 5) Lx) (hC : Cn ≤ room_1.cells ∧ Sn ≤ room_1.slots) (hN : N < 1000000) (hJ : JJ N s0) (k : ∀ s2, JJ (N + 1) s2 → LCW l p en s m args below meth c D T ad A Cn Sn Q 1045 (LWL iv) [] s2) : LCW l p en s m args below meth c D T ad A Cn Sn Q 660 (LWL iv) [] s0 := by
  obtain ⟨v, t, u, e1, e2, hJ2⟩ := jj_bestRow (xs (Int32.toNatClampNeg (iv + 1))) (xs (Int32.toNatClampNeg (iv + 2))) hN hJ
  refine k_aload_n (i := 1) C dL_660 rfl rfl ?_
  refine k_aload_n (i := 0) C dL_661 rfl rfl ?_
  refine k_iload_n (i := 3) C dL_662 rfl rfl ?_
  refine k_iconst (v := 1) C dL_663 rfl ?_
  refine k_iadd C dL_664 ?_
  refine k_sld C hX hbl hbA (h1) dL_665 ?_
  refine k_aload_n (i := 0) C dL_666 rfl rfl ?_
  refine k_iload_n (i := 3) C dL_667 rfl rfl ?_
  refine k_iconst (v := 2) C dL_668 rfl ?_
  refine k_iadd C dL_669 ?_
  refine k_sld C hX hbl hbA (h2) dL_670 ?_
  refine k_callVi (As := [.int (xs (Int32.toNatClampNeg (iv + 1))), .int (xs (Int32.toNatClampNeg (iv + 2)))]) (st := []) C rv_11 lwl_X11_bestRow (c_X11_bestRow (xs (Int32.toNatClampNeg (iv + 1))) (xs (Int32.toNatClampNeg (iv + 2))) _) (e1) rfl rfl (by decide) (Nat.le_of_ble_eq_true rfl) hC dL_671 ?_
  refine k_aload_n (i := 2) C dL_674 rfl rfl ?_
  refine k_aload_n (i := 0) C dL_675 rfl rfl ?_
  refine k_iload_n (i := 3) C dL_676 rfl rfl ?_
  refine k_iconst (v := 1) C dL_677 rfl ?_
  refine k_iadd C dL_678 ?_
  refine k_sld C hX hbl hbA (h1) dL_679 ?_
  refine k_aload_n (i := 0) C dL_680 rfl rfl ?_
  refine k_iload_n (i := 3) C dL_681 rfl rfl ?_
  refine k_iconst (v := 2) C dL_682 rfl ?_
  refine k_iadd C dL_683 ?_
  refine k_sld C hX hbl hbA (h2) dL_684 ?_
  refine k_callVi (As := [.int (xs (Int32.toNatClampNeg (iv + 1))), .int (xs (Int32.toNatClampNeg (iv + 2)))]) (st := [.int v]) C rv_12 lwl_X12_bestRow (c_X12_bestRow (xs (Int32.toNatClampNeg (iv + 1))) (xs (Int32.toNatClampNeg (iv + 2))) _) (e2) rfl rfl (by decide) (Nat.le_of_ble_eq_true rfl) hC dL_685 ?_
  exact k_icmp_same (tgt := 1045) C dL_688 rfl (k _ hJ2)
theorem cs_17 {Lx : Nat} {xs : Nat → Int32} {iv : Int32} {N : Nat} (C : CX "NineLawsLaw" code 4 rt p s m args meth c D T ad A) (hX : va_X (ad 1003) Lx xs s s.heap) (hbl : ad 1003 < s.heap.size) (hbA : ¬ A (ad 1003)) (h1 : vp_in (iv + 1) Lx) (h2 : vp_in (iv + 2) Lx) (h3 : vp_in (iv + 3) Lx) (h4 : vp_in (iv + 4) Lx) (h5 : vp_in (iv + 5) Lx) (hC : Cn ≤ room_1.cells ∧ Sn ≤ room_1.slots) (hN : N < 1000000) (hJ : JJ N s0) (k : ∀ s2, JJ (N + 1) s2 → LCW l p en s m args below meth c D T ad A Cn Sn Q 1045 (LWL iv) [] s2) : LCW l p en s m args below meth c D T ad A Cn Sn Q 693 (LWL iv) [] s0 := by
  obtain ⟨v, t, u, e1, e2, hJ2⟩ := jj_quiet  hN hJ
  refine k_aload_n (i := 1) C dL_693 rfl rfl ?_
  refine k_callVi (As := []) (st := []) C rv_11 lwl_X11_quiet (c_X11_quiet  _) (e1) rfl rfl (by decide) (Nat.le_of_ble_eq_true rfl) hC dL_694 ?_
  refine k_aload_n (i := 2) C dL_697 rfl rfl ?_
  refine k_callVi (As := []) (st := [.int v]) C rv_12 lwl_X12_quiet (c_X12_quiet  _) (e2) rfl rfl (by decide) (Nat.le_of_ble_eq_true rfl) hC dL_698 ?_
  exact k_icmp_same (tgt := 1045) C dL_701 rfl (k _ hJ2)
theorem cs_18 {Lx : Nat} {xs : Nat → Int32} {iv : Int32} {N : Nat} (C : CX "NineLawsLaw" code 4 rt p s m args meth c D T ad A) (hX : va_X (ad 1003) Lx xs s s.heap) (hbl : ad 1003 < s.heap.size) (hbA : ¬ A (ad 1003)) (h1 : vp_in (iv + 1) Lx) (h2 : vp_in (iv + 2) Lx) (h3 : vp_in (iv + 3) Lx) (h4 : vp_in (iv + 4) Lx) (h5 : vp_in (iv + 5) Lx) (hC : Cn ≤ room_1.cells ∧ Sn ≤ room_1.slots) (hN : N < 1000000) (hJ : JJ N s0) (k : ∀ s2, JJ (N + 1) s2 → LCW l p en s m args below meth c D T ad A Cn Sn Q 1045 (LWL iv) [] s2) : LCW l p en s m args below meth c D T ad A Cn Sn Q 706 (LWL iv) [] s0 := by
  obtain ⟨v, t, u, e1, e2, hJ2⟩ := jj_soon (xs (Int32.toNatClampNeg (iv + 1))) hN hJ
  refine k_aload_n (i := 1) C dL_706 rfl rfl ?_
  refine k_aload_n (i := 0) C dL_707 rfl rfl ?_
  refine k_iload_n (i := 3) C dL_708 rfl rfl ?_
  refine k_iconst (v := 1) C dL_709 rfl ?_
  refine k_iadd C dL_710 ?_
  refine k_sld C hX hbl hbA (h1) dL_711 ?_
  refine k_callVi (As := [.int (xs (Int32.toNatClampNeg (iv + 1)))]) (st := []) C rv_11 lwl_X11_soon (c_X11_soon (xs (Int32.toNatClampNeg (iv + 1))) _) (e1) rfl rfl (by decide) (Nat.le_of_ble_eq_true rfl) hC dL_712 ?_
  refine k_aload_n (i := 2) C dL_715 rfl rfl ?_
  refine k_aload_n (i := 0) C dL_716 rfl rfl ?_
  refine k_iload_n (i := 3) C dL_717 rfl rfl ?_
  refine k_iconst (v := 1) C dL_718 rfl ?_
  refine k_iadd C dL_719 ?_
  refine k_sld C hX hbl hbA (h1) dL_720 ?_
  refine k_callVi (As := [.int (xs (Int32.toNatClampNeg (iv + 1)))]) (st := [.int v]) C rv_12 lwl_X12_soon (c_X12_soon (xs (Int32.toNatClampNeg (iv + 1))) _) (e2) rfl rfl (by decide) (Nat.le_of_ble_eq_true rfl) hC dL_721 ?_
  exact k_icmp_same (tgt := 1045) C dL_724 rfl (k _ hJ2)
theorem cs_19 {Lx : Nat} {xs : Nat → Int32} {iv : Int32} {N : Nat} (C : CX "NineLawsLaw" code 4 rt p s m args meth c D T ad A) (hX : va_X (ad 1003) Lx xs s s.heap) (hbl : ad 1003 < s.heap.size) (hbA : ¬ A (ad 1003)) (h1 : vp_in (iv + 1) Lx) (h2 : vp_in (iv + 2) Lx) (h3 : vp_in (iv + 3) Lx) (h4 : vp_in (iv + 4) Lx) (h5 : vp_in (iv + 5) Lx) (hC : Cn ≤ room_1.cells ∧ Sn ≤ room_1.slots) (hN : N < 1000000) (hJ : JJ N s0) (k : ∀ s2, JJ (N + 1) s2 → LCW l p en s m args below meth c D T ad A Cn Sn Q 1045 (LWL iv) [] s2) : LCW l p en s m args below meth c D T ad A Cn Sn Q 729 (LWL iv) [] s0 := by
  obtain ⟨v, t, u, e1, e2, hJ2⟩ := jj_held (xs (Int32.toNatClampNeg (iv + 1))) (xs (Int32.toNatClampNeg (iv + 2))) (xs (Int32.toNatClampNeg (iv + 3))) hN hJ
  refine k_aload_n (i := 1) C dL_729 rfl rfl ?_
  refine k_aload_n (i := 0) C dL_730 rfl rfl ?_
  refine k_iload_n (i := 3) C dL_731 rfl rfl ?_
  refine k_iconst (v := 1) C dL_732 rfl ?_
  refine k_iadd C dL_733 ?_
  refine k_sld C hX hbl hbA (h1) dL_734 ?_
  refine k_aload_n (i := 0) C dL_735 rfl rfl ?_
  refine k_iload_n (i := 3) C dL_736 rfl rfl ?_
  refine k_iconst (v := 2) C dL_737 rfl ?_
  refine k_iadd C dL_738 ?_
  refine k_sld C hX hbl hbA (h2) dL_739 ?_
  refine k_aload_n (i := 0) C dL_740 rfl rfl ?_
  refine k_iload_n (i := 3) C dL_741 rfl rfl ?_
  refine k_iconst (v := 3) C dL_742 rfl ?_
  refine k_iadd C dL_743 ?_
  refine k_sld C hX hbl hbA (h3) dL_744 ?_
  refine k_callVi (As := [.int (xs (Int32.toNatClampNeg (iv + 1))), .int (xs (Int32.toNatClampNeg (iv + 2))), .int (xs (Int32.toNatClampNeg (iv + 3)))]) (st := []) C rv_11 lwl_X11_held (c_X11_held (xs (Int32.toNatClampNeg (iv + 1))) (xs (Int32.toNatClampNeg (iv + 2))) (xs (Int32.toNatClampNeg (iv + 3))) _) (e1) rfl rfl (by decide) (Nat.le_of_ble_eq_true rfl) hC dL_745 ?_
  refine k_aload_n (i := 2) C dL_748 rfl rfl ?_
  refine k_aload_n (i := 0) C dL_749 rfl rfl ?_
  refine k_iload_n (i := 3) C dL_750 rfl rfl ?_
  refine k_iconst (v := 1) C dL_751 rfl ?_
  refine k_iadd C dL_752 ?_
  refine k_sld C hX hbl hbA (h1) dL_753 ?_
  refine k_aload_n (i := 0) C dL_754 rfl rfl ?_
  refine k_iload_n (i := 3) C dL_755 rfl rfl ?_
  refine k_iconst (v := 2) C dL_756 rfl ?_
  refine k_iadd C dL_757 ?_
  refine k_sld C hX hbl hbA (h2) dL_758 ?_
  refine k_aload_n (i := 0) C dL_759 rfl rfl ?_
  refine k_iload_n (i := 3) C dL_760 rfl rfl ?_
  refine k_iconst (v := 3) C dL_761 rfl ?_
  refine k_iadd C dL_762 ?_
  refine k_sld C hX hbl hbA (h3) dL_763 ?_
  refine k_callVi (As := [.int (xs (Int32.toNatClampNeg (iv + 1))), .int (xs (Int32.toNatClampNeg (iv + 2))), .int (xs (Int32.toNatClampNeg (iv + 3)))]) (st := [.int v]) C rv_12 lwl_X12_held (c_X12_held (xs (Int32.toNatClampNeg (iv + 1))) (xs (Int32.toNatClampNeg (iv + 2))) (xs (Int32.toNatClampNeg (iv + 3))) _) (e2) rfl rfl (by decide) (Nat.le_of_ble_eq_true rfl) hC dL_764 ?_
  exact k_icmp_same (tgt := 1045) C dL_767 rfl (k _ hJ2)
theorem cs_20 {Lx : Nat} {xs : Nat → Int32} {iv : Int32} {N : Nat} (C : CX "NineLawsLaw" code 4 rt p s m args meth c D T ad A) (hX : va_X (ad 1003) Lx xs s s.heap) (hbl : ad 1003 < s.heap.size) (hbA : ¬ A (ad 1003)) (h1 : vp_in (iv + 1) Lx) (h2 : vp_in (iv + 2) Lx) (h3 : vp_in (iv + 3) Lx) (h4 : vp_in (iv + 4) Lx) (h5 : vp_in (iv + 5) Lx) (hC : Cn ≤ room_1.cells ∧ Sn ≤ room_1.slots) (hN : N < 1000000) (hJ : JJ N s0) (k : ∀ s2, JJ (N + 1) s2 → LCW l p en s m args below meth c D T ad A Cn Sn Q 1045 (LWL iv) [] s2) : LCW l p en s m args below meth c D T ad A Cn Sn Q 772 (LWL iv) [] s0 := by
  obtain ⟨v, t, u, e1, e2, hJ2⟩ := jj_number (xs (Int32.toNatClampNeg (iv + 1))) (xs (Int32.toNatClampNeg (iv + 2))) hN hJ
  refine k_aload_n (i := 1) C dL_772 rfl rfl ?_
  refine k_aload_n (i := 0) C dL_773 rfl rfl ?_
  refine k_iload_n (i := 3) C dL_774 rfl rfl ?_
  refine k_iconst (v := 1) C dL_775 rfl ?_
  refine k_iadd C dL_776 ?_
  refine k_sld C hX hbl hbA (h1) dL_777 ?_
  refine k_aload_n (i := 0) C dL_778 rfl rfl ?_
  refine k_iload_n (i := 3) C dL_779 rfl rfl ?_
  refine k_iconst (v := 2) C dL_780 rfl ?_
  refine k_iadd C dL_781 ?_
  refine k_sld C hX hbl hbA (h2) dL_782 ?_
  refine k_callVi (As := [.int (xs (Int32.toNatClampNeg (iv + 1))), .int (xs (Int32.toNatClampNeg (iv + 2)))]) (st := []) C rv_11 lwl_X11_number (c_X11_number (xs (Int32.toNatClampNeg (iv + 1))) (xs (Int32.toNatClampNeg (iv + 2))) _) (e1) rfl rfl (by decide) (Nat.le_of_ble_eq_true rfl) hC dL_783 ?_
  refine k_aload_n (i := 2) C dL_786 rfl rfl ?_
  refine k_aload_n (i := 0) C dL_787 rfl rfl ?_
  refine k_iload_n (i := 3) C dL_788 rfl rfl ?_
  refine k_iconst (v := 1) C dL_789 rfl ?_
  refine k_iadd C dL_790 ?_
  refine k_sld C hX hbl hbA (h1) dL_791 ?_
  refine k_aload_n (i := 0) C dL_792 rfl rfl ?_
  refine k_iload_n (i := 3) C dL_793 rfl rfl ?_
  refine k_iconst (v := 2) C dL_794 rfl ?_
  refine k_iadd C dL_795 ?_
  refine k_sld C hX hbl hbA (h2) dL_796 ?_
  refine k_callVi (As := [.int (xs (Int32.toNatClampNeg (iv + 1))), .int (xs (Int32.toNatClampNeg (iv + 2)))]) (st := [.int v]) C rv_12 lwl_X12_number (c_X12_number (xs (Int32.toNatClampNeg (iv + 1))) (xs (Int32.toNatClampNeg (iv + 2))) _) (e2) rfl rfl (by decide) (Nat.le_of_ble_eq_true rfl) hC dL_797 ?_
  exact k_icmp_same (tgt := 1045) C dL_800 rfl (k _ hJ2)
theorem cs_21 {Lx : Nat} {xs : Nat → Int32} {iv : Int32} {N : Nat} (C : CX "NineLawsLaw" code 4 rt p s m args meth c D T ad A) (hX : va_X (ad 1003) Lx xs s s.heap) (hbl : ad 1003 < s.heap.size) (hbA : ¬ A (ad 1003)) (h1 : vp_in (iv + 1) Lx) (h2 : vp_in (iv + 2) Lx) (h3 : vp_in (iv + 3) Lx) (h4 : vp_in (iv + 4) Lx) (h5 : vp_in (iv + 5) Lx) (hC : Cn ≤ room_1.cells ∧ Sn ≤ room_1.slots) (hN : N < 1000000) (hJ : JJ N s0) (k : ∀ s2, JJ (N + 1) s2 → LCW l p en s m args below meth c D T ad A Cn Sn Q 1045 (LWL iv) [] s2) : LCW l p en s m args below meth c D T ad A Cn Sn Q 805 (LWL iv) [] s0 := by
  obtain ⟨v, t, u, e1, e2, hJ2⟩ := jj_deed (xs (Int32.toNatClampNeg (iv + 1))) (xs (Int32.toNatClampNeg (iv + 2))) hN hJ
  refine k_aload_n (i := 1) C dL_805 rfl rfl ?_
  refine k_aload_n (i := 0) C dL_806 rfl rfl ?_
  refine k_iload_n (i := 3) C dL_807 rfl rfl ?_
  refine k_iconst (v := 1) C dL_808 rfl ?_
  refine k_iadd C dL_809 ?_
  refine k_sld C hX hbl hbA (h1) dL_810 ?_
  refine k_aload_n (i := 0) C dL_811 rfl rfl ?_
  refine k_iload_n (i := 3) C dL_812 rfl rfl ?_
  refine k_iconst (v := 2) C dL_813 rfl ?_
  refine k_iadd C dL_814 ?_
  refine k_sld C hX hbl hbA (h2) dL_815 ?_
  refine k_callVi (As := [.int (xs (Int32.toNatClampNeg (iv + 1))), .int (xs (Int32.toNatClampNeg (iv + 2)))]) (st := []) C rv_11 lwl_X11_deed (c_X11_deed (xs (Int32.toNatClampNeg (iv + 1))) (xs (Int32.toNatClampNeg (iv + 2))) _) (e1) rfl rfl (by decide) (Nat.le_of_ble_eq_true rfl) hC dL_816 ?_
  refine k_aload_n (i := 2) C dL_819 rfl rfl ?_
  refine k_aload_n (i := 0) C dL_820 rfl rfl ?_
  refine k_iload_n (i := 3) C dL_821 rfl rfl ?_
  refine k_iconst (v := 1) C dL_822 rfl ?_
  refine k_iadd C dL_823 ?_
  refine k_sld C hX hbl hbA (h1) dL_824 ?_
  refine k_aload_n (i := 0) C dL_825 rfl rfl ?_
  refine k_iload_n (i := 3) C dL_826 rfl rfl ?_
  refine k_iconst (v := 2) C dL_827 rfl ?_
  refine k_iadd C dL_828 ?_
  refine k_sld C hX hbl hbA (h2) dL_829 ?_
  refine k_callVi (As := [.int (xs (Int32.toNatClampNeg (iv + 1))), .int (xs (Int32.toNatClampNeg (iv + 2)))]) (st := [.int v]) C rv_12 lwl_X12_deed (c_X12_deed (xs (Int32.toNatClampNeg (iv + 1))) (xs (Int32.toNatClampNeg (iv + 2))) _) (e2) rfl rfl (by decide) (Nat.le_of_ble_eq_true rfl) hC dL_830 ?_
  exact k_icmp_same (tgt := 1045) C dL_833 rfl (k _ hJ2)
theorem cs_22 {Lx : Nat} {xs : Nat → Int32} {iv : Int32} {N : Nat} (C : CX "NineLawsLaw" code 4 rt p s m args meth c D T ad A) (hX : va_X (ad 1003) Lx xs s s.heap) (hbl : ad 1003 < s.heap.size) (hbA : ¬ A (ad 1003)) (h1 : vp_in (iv + 1) Lx) (h2 : vp_in (iv + 2) Lx) (h3 : vp_in (iv + 3) Lx) (h4 : vp_in (iv + 4) Lx) (h5 : vp_in (iv + 5) Lx) (hC : Cn ≤ room_1.cells ∧ Sn ≤ room_1.slots) (hN : N < 1000000) (hJ : JJ N s0) (k : ∀ s2, JJ (N + 1) s2 → LCW l p en s m args below meth c D T ad A Cn Sn Q 1045 (LWL iv) [] s2) : LCW l p en s m args below meth c D T ad A Cn Sn Q 838 (LWL iv) [] s0 := by
  obtain ⟨v, t, u, e1, e2, hJ2⟩ := jj_lawful (xs (Int32.toNatClampNeg (iv + 1))) hN hJ
  refine k_aload_n (i := 1) C dL_838 rfl rfl ?_
  refine k_aload_n (i := 0) C dL_839 rfl rfl ?_
  refine k_iload_n (i := 3) C dL_840 rfl rfl ?_
  refine k_iconst (v := 1) C dL_841 rfl ?_
  refine k_iadd C dL_842 ?_
  refine k_sld C hX hbl hbA (h1) dL_843 ?_
  refine k_callVi (As := [.int (xs (Int32.toNatClampNeg (iv + 1)))]) (st := []) C rv_11 lwl_X11_lawful (c_X11_lawful (xs (Int32.toNatClampNeg (iv + 1))) _) (e1) rfl rfl (by decide) (Nat.le_of_ble_eq_true rfl) hC dL_844 ?_
  refine k_aload_n (i := 2) C dL_847 rfl rfl ?_
  refine k_aload_n (i := 0) C dL_848 rfl rfl ?_
  refine k_iload_n (i := 3) C dL_849 rfl rfl ?_
  refine k_iconst (v := 1) C dL_850 rfl ?_
  refine k_iadd C dL_851 ?_
  refine k_sld C hX hbl hbA (h1) dL_852 ?_
  refine k_callVi (As := [.int (xs (Int32.toNatClampNeg (iv + 1)))]) (st := [.int v]) C rv_12 lwl_X12_lawful (c_X12_lawful (xs (Int32.toNatClampNeg (iv + 1))) _) (e2) rfl rfl (by decide) (Nat.le_of_ble_eq_true rfl) hC dL_853 ?_
  exact k_icmp_same (tgt := 1045) C dL_856 rfl (k _ hJ2)
theorem cs_23 {Lx : Nat} {xs : Nat → Int32} {iv : Int32} {N : Nat} (C : CX "NineLawsLaw" code 4 rt p s m args meth c D T ad A) (hX : va_X (ad 1003) Lx xs s s.heap) (hbl : ad 1003 < s.heap.size) (hbA : ¬ A (ad 1003)) (h1 : vp_in (iv + 1) Lx) (h2 : vp_in (iv + 2) Lx) (h3 : vp_in (iv + 3) Lx) (h4 : vp_in (iv + 4) Lx) (h5 : vp_in (iv + 5) Lx) (hC : Cn ≤ room_1.cells ∧ Sn ≤ room_1.slots) (hN : N < 1000000) (hJ : JJ N s0) (k : ∀ s2, JJ (N + 1) s2 → LCW l p en s m args below meth c D T ad A Cn Sn Q 1045 (LWL iv) [] s2) : LCW l p en s m args below meth c D T ad A Cn Sn Q 861 (LWL iv) [] s0 := by
  obtain ⟨v, t, u, e1, e2, hJ2⟩ := jj_fits (xs (Int32.toNatClampNeg (iv + 1))) (xs (Int32.toNatClampNeg (iv + 2))) hN hJ
  refine k_aload_n (i := 1) C dL_861 rfl rfl ?_
  refine k_aload_n (i := 0) C dL_862 rfl rfl ?_
  refine k_iload_n (i := 3) C dL_863 rfl rfl ?_
  refine k_iconst (v := 1) C dL_864 rfl ?_
  refine k_iadd C dL_865 ?_
  refine k_sld C hX hbl hbA (h1) dL_866 ?_
  refine k_aload_n (i := 0) C dL_867 rfl rfl ?_
  refine k_iload_n (i := 3) C dL_868 rfl rfl ?_
  refine k_iconst (v := 2) C dL_869 rfl ?_
  refine k_iadd C dL_870 ?_
  refine k_sld C hX hbl hbA (h2) dL_871 ?_
  refine k_callVi (As := [.int (xs (Int32.toNatClampNeg (iv + 1))), .int (xs (Int32.toNatClampNeg (iv + 2)))]) (st := []) C rv_11 lwl_X11_fits (c_X11_fits (xs (Int32.toNatClampNeg (iv + 1))) (xs (Int32.toNatClampNeg (iv + 2))) _) (e1) rfl rfl (by decide) (Nat.le_of_ble_eq_true rfl) hC dL_872 ?_
  refine k_aload_n (i := 2) C dL_875 rfl rfl ?_
  refine k_aload_n (i := 0) C dL_876 rfl rfl ?_
  refine k_iload_n (i := 3) C dL_877 rfl rfl ?_
  refine k_iconst (v := 1) C dL_878 rfl ?_
  refine k_iadd C dL_879 ?_
  refine k_sld C hX hbl hbA (h1) dL_880 ?_
  refine k_aload_n (i := 0) C dL_881 rfl rfl ?_
  refine k_iload_n (i := 3) C dL_882 rfl rfl ?_
  refine k_iconst (v := 2) C dL_883 rfl ?_
  refine k_iadd C dL_884 ?_
  refine k_sld C hX hbl hbA (h2) dL_885 ?_
  refine k_callVi (As := [.int (xs (Int32.toNatClampNeg (iv + 1))), .int (xs (Int32.toNatClampNeg (iv + 2)))]) (st := [.int v]) C rv_12 lwl_X12_fits (c_X12_fits (xs (Int32.toNatClampNeg (iv + 1))) (xs (Int32.toNatClampNeg (iv + 2))) _) (e2) rfl rfl (by decide) (Nat.le_of_ble_eq_true rfl) hC dL_886 ?_
  exact k_icmp_same (tgt := 1045) C dL_889 rfl (k _ hJ2)
theorem cs_24 {Lx : Nat} {xs : Nat → Int32} {iv : Int32} {N : Nat} (C : CX "NineLawsLaw" code 4 rt p s m args meth c D T ad A) (hX : va_X (ad 1003) Lx xs s s.heap) (hbl : ad 1003 < s.heap.size) (hbA : ¬ A (ad 1003)) (h1 : vp_in (iv + 1) Lx) (h2 : vp_in (iv + 2) Lx) (h3 : vp_in (iv + 3) Lx) (h4 : vp_in (iv + 4) Lx) (h5 : vp_in (iv + 5) Lx) (hC : Cn ≤ room_1.cells ∧ Sn ≤ room_1.slots) (hN : N < 1000000) (hJ : JJ N s0) (k : ∀ s2, JJ (N + 1) s2 → LCW l p en s m args below meth c D T ad A Cn Sn Q 1045 (LWL iv) [] s2) : LCW l p en s m args below meth c D T ad A Cn Sn Q 894 (LWL iv) [] s0 := by
  obtain ⟨v, t, u, e1, e2, hJ2⟩ := jj_seed (xs (Int32.toNatClampNeg (iv + 1))) hN hJ
  refine k_aload_n (i := 1) C dL_894 rfl rfl ?_
  refine k_aload_n (i := 0) C dL_895 rfl rfl ?_
  refine k_iload_n (i := 3) C dL_896 rfl rfl ?_
  refine k_iconst (v := 1) C dL_897 rfl ?_
  refine k_iadd C dL_898 ?_
  refine k_sld C hX hbl hbA (h1) dL_899 ?_
  refine k_callVi (As := [.int (xs (Int32.toNatClampNeg (iv + 1)))]) (st := []) C rv_11 lwl_X11_seed (c_X11_seed (xs (Int32.toNatClampNeg (iv + 1))) _) (e1) rfl rfl (by decide) (Nat.le_of_ble_eq_true rfl) hC dL_900 ?_
  refine k_aload_n (i := 2) C dL_903 rfl rfl ?_
  refine k_aload_n (i := 0) C dL_904 rfl rfl ?_
  refine k_iload_n (i := 3) C dL_905 rfl rfl ?_
  refine k_iconst (v := 1) C dL_906 rfl ?_
  refine k_iadd C dL_907 ?_
  refine k_sld C hX hbl hbA (h1) dL_908 ?_
  refine k_callVi (As := [.int (xs (Int32.toNatClampNeg (iv + 1)))]) (st := [.int v]) C rv_12 lwl_X12_seed (c_X12_seed (xs (Int32.toNatClampNeg (iv + 1))) _) (e2) rfl rfl (by decide) (Nat.le_of_ble_eq_true rfl) hC dL_909 ?_
  exact k_icmp_same (tgt := 1045) C dL_912 rfl (k _ hJ2)
theorem cs_25 {Lx : Nat} {xs : Nat → Int32} {iv : Int32} {N : Nat} (C : CX "NineLawsLaw" code 4 rt p s m args meth c D T ad A) (hX : va_X (ad 1003) Lx xs s s.heap) (hbl : ad 1003 < s.heap.size) (hbA : ¬ A (ad 1003)) (h1 : vp_in (iv + 1) Lx) (h2 : vp_in (iv + 2) Lx) (h3 : vp_in (iv + 3) Lx) (h4 : vp_in (iv + 4) Lx) (h5 : vp_in (iv + 5) Lx) (hC : Cn ≤ room_1.cells ∧ Sn ≤ room_1.slots) (hN : N < 1000000) (hJ : JJ N s0) (k : ∀ s2, JJ (N + 1) s2 → LCW l p en s m args below meth c D T ad A Cn Sn Q 1045 (LWL iv) [] s2) : LCW l p en s m args below meth c D T ad A Cn Sn Q 917 (LWL iv) [] s0 := by
  obtain ⟨v, t, u, e1, e2, hJ2⟩ := jj_draw (xs (Int32.toNatClampNeg (iv + 1))) hN hJ
  refine k_aload_n (i := 1) C dL_917 rfl rfl ?_
  refine k_aload_n (i := 0) C dL_918 rfl rfl ?_
  refine k_iload_n (i := 3) C dL_919 rfl rfl ?_
  refine k_iconst (v := 1) C dL_920 rfl ?_
  refine k_iadd C dL_921 ?_
  refine k_sld C hX hbl hbA (h1) dL_922 ?_
  refine k_callVi (As := [.int (xs (Int32.toNatClampNeg (iv + 1)))]) (st := []) C rv_11 lwl_X11_draw (c_X11_draw (xs (Int32.toNatClampNeg (iv + 1))) _) (e1) rfl rfl (by decide) (Nat.le_of_ble_eq_true rfl) hC dL_923 ?_
  refine k_aload_n (i := 2) C dL_926 rfl rfl ?_
  refine k_aload_n (i := 0) C dL_927 rfl rfl ?_
  refine k_iload_n (i := 3) C dL_928 rfl rfl ?_
  refine k_iconst (v := 1) C dL_929 rfl ?_
  refine k_iadd C dL_930 ?_
  refine k_sld C hX hbl hbA (h1) dL_931 ?_
  refine k_callVi (As := [.int (xs (Int32.toNatClampNeg (iv + 1)))]) (st := [.int v]) C rv_12 lwl_X12_draw (c_X12_draw (xs (Int32.toNatClampNeg (iv + 1))) _) (e2) rfl rfl (by decide) (Nat.le_of_ble_eq_true rfl) hC dL_932 ?_
  exact k_icmp_same (tgt := 1045) C dL_935 rfl (k _ hJ2)
theorem cs_26 {Lx : Nat} {xs : Nat → Int32} {iv : Int32} {N : Nat} (C : CX "NineLawsLaw" code 4 rt p s m args meth c D T ad A) (hX : va_X (ad 1003) Lx xs s s.heap) (hbl : ad 1003 < s.heap.size) (hbA : ¬ A (ad 1003)) (h1 : vp_in (iv + 1) Lx) (h2 : vp_in (iv + 2) Lx) (h3 : vp_in (iv + 3) Lx) (h4 : vp_in (iv + 4) Lx) (h5 : vp_in (iv + 5) Lx) (hC : Cn ≤ room_1.cells ∧ Sn ≤ room_1.slots) (hN : N < 1000000) (hJ : JJ N s0) (k : ∀ s2, JJ (N + 1) s2 → LCW l p en s m args below meth c D T ad A Cn Sn Q 1045 (LWL iv) [] s2) : LCW l p en s m args below meth c D T ad A Cn Sn Q 940 (LWL iv) [] s0 := by
  obtain ⟨v, t, u, e1, e2, hJ2⟩ := jj_book (xs (Int32.toNatClampNeg (iv + 1))) (xs (Int32.toNatClampNeg (iv + 2))) hN hJ
  refine k_aload_n (i := 1) C dL_940 rfl rfl ?_
  refine k_aload_n (i := 0) C dL_941 rfl rfl ?_
  refine k_iload_n (i := 3) C dL_942 rfl rfl ?_
  refine k_iconst (v := 1) C dL_943 rfl ?_
  refine k_iadd C dL_944 ?_
  refine k_sld C hX hbl hbA (h1) dL_945 ?_
  refine k_aload_n (i := 0) C dL_946 rfl rfl ?_
  refine k_iload_n (i := 3) C dL_947 rfl rfl ?_
  refine k_iconst (v := 2) C dL_948 rfl ?_
  refine k_iadd C dL_949 ?_
  refine k_sld C hX hbl hbA (h2) dL_950 ?_
  refine k_callVi (As := [.int (xs (Int32.toNatClampNeg (iv + 1))), .int (xs (Int32.toNatClampNeg (iv + 2)))]) (st := []) C rv_11 lwl_X11_book (c_X11_book (xs (Int32.toNatClampNeg (iv + 1))) (xs (Int32.toNatClampNeg (iv + 2))) _) (e1) rfl rfl (by decide) (Nat.le_of_ble_eq_true rfl) hC dL_951 ?_
  refine k_aload_n (i := 2) C dL_954 rfl rfl ?_
  refine k_aload_n (i := 0) C dL_955 rfl rfl ?_
  refine k_iload_n (i := 3) C dL_956 rfl rfl ?_
  refine k_iconst (v := 1) C dL_957 rfl ?_
  refine k_iadd C dL_958 ?_
  refine k_sld C hX hbl hbA (h1) dL_959 ?_
  refine k_aload_n (i := 0) C dL_960 rfl rfl ?_
  refine k_iload_n (i := 3) C dL_961 rfl rfl ?_
  refine k_iconst (v := 2) C dL_962 rfl ?_
  refine k_iadd C dL_963 ?_
  refine k_sld C hX hbl hbA (h2) dL_964 ?_
  refine k_callVi (As := [.int (xs (Int32.toNatClampNeg (iv + 1))), .int (xs (Int32.toNatClampNeg (iv + 2)))]) (st := [.int v]) C rv_12 lwl_X12_book (c_X12_book (xs (Int32.toNatClampNeg (iv + 1))) (xs (Int32.toNatClampNeg (iv + 2))) _) (e2) rfl rfl (by decide) (Nat.le_of_ble_eq_true rfl) hC dL_965 ?_
  exact k_icmp_same (tgt := 1045) C dL_968 rfl (k _ hJ2)
theorem cs_27 {Lx : Nat} {xs : Nat → Int32} {iv : Int32} {N : Nat} (C : CX "NineLawsLaw" code 4 rt p s m args meth c D T ad A) (hX : va_X (ad 1003) Lx xs s s.heap) (hbl : ad 1003 < s.heap.size) (hbA : ¬ A (ad 1003)) (h1 : vp_in (iv + 1) Lx) (h2 : vp_in (iv + 2) Lx) (h3 : vp_in (iv + 3) Lx) (h4 : vp_in (iv + 4) Lx) (h5 : vp_in (iv + 5) Lx) (hC : Cn ≤ room_1.cells ∧ Sn ≤ room_1.slots) (hN : N < 1000000) (hJ : JJ N s0) (k : ∀ s2, JJ (N + 1) s2 → LCW l p en s m args below meth c D T ad A Cn Sn Q 1045 (LWL iv) [] s2) : LCW l p en s m args below meth c D T ad A Cn Sn Q 973 (LWL iv) [] s0 := by
  obtain ⟨v, t, u, e1, e2, hJ2⟩ := jj_keep  hN hJ
  refine k_aload_n (i := 1) C dL_973 rfl rfl ?_
  refine k_callVi (As := []) (st := []) C rv_11 lwl_X11_keep (c_X11_keep  _) (e1) rfl rfl (by decide) (Nat.le_of_ble_eq_true rfl) hC dL_974 ?_
  refine k_aload_n (i := 2) C dL_977 rfl rfl ?_
  refine k_callVi (As := []) (st := [.int v]) C rv_12 lwl_X12_keep (c_X12_keep  _) (e2) rfl rfl (by decide) (Nat.le_of_ble_eq_true rfl) hC dL_978 ?_
  exact k_icmp_same (tgt := 1045) C dL_981 rfl (k _ hJ2)
theorem cs_28 {Lx : Nat} {xs : Nat → Int32} {iv : Int32} {N : Nat} (C : CX "NineLawsLaw" code 4 rt p s m args meth c D T ad A) (hX : va_X (ad 1003) Lx xs s s.heap) (hbl : ad 1003 < s.heap.size) (hbA : ¬ A (ad 1003)) (h1 : vp_in (iv + 1) Lx) (h2 : vp_in (iv + 2) Lx) (h3 : vp_in (iv + 3) Lx) (h4 : vp_in (iv + 4) Lx) (h5 : vp_in (iv + 5) Lx) (hC : Cn ≤ room_1.cells ∧ Sn ≤ room_1.slots) (hN : N < 1000000) (hJ : JJ N s0) (k : ∀ s2, JJ (N + 1) s2 → LCW l p en s m args below meth c D T ad A Cn Sn Q 1045 (LWL iv) [] s2) : LCW l p en s m args below meth c D T ad A Cn Sn Q 986 (LWL iv) [] s0 := by
  obtain ⟨v, t, u, e1, e2, hJ2⟩ := jj_undo  hN hJ
  refine k_aload_n (i := 1) C dL_986 rfl rfl ?_
  refine k_callVi (As := []) (st := []) C rv_11 lwl_X11_undo (c_X11_undo  _) (e1) rfl rfl (by decide) (Nat.le_of_ble_eq_true rfl) hC dL_987 ?_
  refine k_aload_n (i := 2) C dL_990 rfl rfl ?_
  refine k_callVi (As := []) (st := [.int v]) C rv_12 lwl_X12_undo (c_X12_undo  _) (e2) rfl rfl (by decide) (Nat.le_of_ble_eq_true rfl) hC dL_991 ?_
  exact k_icmp_same (tgt := 1045) C dL_994 rfl (k _ hJ2)
theorem cs_29 {Lx : Nat} {xs : Nat → Int32} {iv : Int32} {N : Nat} (C : CX "NineLawsLaw" code 4 rt p s m args meth c D T ad A) (hX : va_X (ad 1003) Lx xs s s.heap) (hbl : ad 1003 < s.heap.size) (hbA : ¬ A (ad 1003)) (h1 : vp_in (iv + 1) Lx) (h2 : vp_in (iv + 2) Lx) (h3 : vp_in (iv + 3) Lx) (h4 : vp_in (iv + 4) Lx) (h5 : vp_in (iv + 5) Lx) (hC : Cn ≤ room_1.cells ∧ Sn ≤ room_1.slots) (hN : N < 1000000) (hJ : JJ N s0) (k : ∀ s2, JJ (N + 1) s2 → LCW l p en s m args below meth c D T ad A Cn Sn Q 1045 (LWL iv) [] s2) : LCW l p en s m args below meth c D T ad A Cn Sn Q 999 (LWL iv) [] s0 := by
  obtain ⟨v, t, u, e1, e2, hJ2⟩ := jj_check (xs (Int32.toNatClampNeg (iv + 1))) hN hJ
  refine k_aload_n (i := 1) C dL_999 rfl rfl ?_
  refine k_aload_n (i := 0) C dL_1000 rfl rfl ?_
  refine k_iload_n (i := 3) C dL_1001 rfl rfl ?_
  refine k_iconst (v := 1) C dL_1002 rfl ?_
  refine k_iadd C dL_1003 ?_
  refine k_sld C hX hbl hbA (h1) dL_1004 ?_
  refine k_callVi (As := [.int (xs (Int32.toNatClampNeg (iv + 1)))]) (st := []) C rv_11 lwl_X11_check (c_X11_check (xs (Int32.toNatClampNeg (iv + 1))) _) (e1) rfl rfl (by decide) (Nat.le_of_ble_eq_true rfl) hC dL_1005 ?_
  refine k_aload_n (i := 2) C dL_1008 rfl rfl ?_
  refine k_aload_n (i := 0) C dL_1009 rfl rfl ?_
  refine k_iload_n (i := 3) C dL_1010 rfl rfl ?_
  refine k_iconst (v := 1) C dL_1011 rfl ?_
  refine k_iadd C dL_1012 ?_
  refine k_sld C hX hbl hbA (h1) dL_1013 ?_
  refine k_callVi (As := [.int (xs (Int32.toNatClampNeg (iv + 1)))]) (st := [.int v]) C rv_12 lwl_X12_check (c_X12_check (xs (Int32.toNatClampNeg (iv + 1))) _) (e2) rfl rfl (by decide) (Nat.le_of_ble_eq_true rfl) hC dL_1014 ?_
  exact k_icmp_same (tgt := 1045) C dL_1017 rfl (k _ hJ2)
theorem cs_30 {Lx : Nat} {xs : Nat → Int32} {iv : Int32} {N : Nat} (C : CX "NineLawsLaw" code 4 rt p s m args meth c D T ad A) (hX : va_X (ad 1003) Lx xs s s.heap) (hbl : ad 1003 < s.heap.size) (hbA : ¬ A (ad 1003)) (h1 : vp_in (iv + 1) Lx) (h2 : vp_in (iv + 2) Lx) (h3 : vp_in (iv + 3) Lx) (h4 : vp_in (iv + 4) Lx) (h5 : vp_in (iv + 5) Lx) (hC : Cn ≤ room_1.cells ∧ Sn ≤ room_1.slots) (hN : N < 1000000) (hJ : JJ N s0) (k : ∀ s2, JJ (N + 1) s2 → LCW l p en s m args below meth c D T ad A Cn Sn Q 1045 (LWL iv) [] s2) : LCW l p en s m args below meth c D T ad A Cn Sn Q 1022 (LWL iv) [] s0 := by
  obtain ⟨v, t, u, e1, e2, hJ2⟩ := jj_count (xs (Int32.toNatClampNeg (iv + 1))) hN hJ
  refine k_aload_n (i := 1) C dL_1022 rfl rfl ?_
  refine k_aload_n (i := 0) C dL_1023 rfl rfl ?_
  refine k_iload_n (i := 3) C dL_1024 rfl rfl ?_
  refine k_iconst (v := 1) C dL_1025 rfl ?_
  refine k_iadd C dL_1026 ?_
  refine k_sld C hX hbl hbA (h1) dL_1027 ?_
  refine k_callVi (As := [.int (xs (Int32.toNatClampNeg (iv + 1)))]) (st := []) C rv_11 lwl_X11_count (c_X11_count (xs (Int32.toNatClampNeg (iv + 1))) _) (e1) rfl rfl (by decide) (Nat.le_of_ble_eq_true rfl) hC dL_1028 ?_
  refine k_aload_n (i := 2) C dL_1031 rfl rfl ?_
  refine k_aload_n (i := 0) C dL_1032 rfl rfl ?_
  refine k_iload_n (i := 3) C dL_1033 rfl rfl ?_
  refine k_iconst (v := 1) C dL_1034 rfl ?_
  refine k_iadd C dL_1035 ?_
  refine k_sld C hX hbl hbA (h1) dL_1036 ?_
  refine k_callVi (As := [.int (xs (Int32.toNatClampNeg (iv + 1)))]) (st := [.int v]) C rv_12 lwl_X12_count (c_X12_count (xs (Int32.toNatClampNeg (iv + 1))) _) (e2) rfl rfl (by decide) (Nat.le_of_ble_eq_true rfl) hC dL_1037 ?_
  exact k_icmp_same (tgt := 1045) C dL_1040 rfl (k _ hJ2)
