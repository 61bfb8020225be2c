theorem l_zz {G : GG} {b Ln pc p1 p2 t0 t1 : Nat} {xs : Nat → Int32} {i x : Int32} {st : List Value} {h : PH} (hd : db tLaw pc (.ifCond .eq) t0 p1) (h1 : dn tLaw p1 (.iconst 1) 1 p2) (h2 : db tLaw p2 .goto t1 t0) (h3 : dn tLaw t0 (.iconst 0) 1 t1) (k : Lx G b Ln xs t1 i (.int (if x = 0 then 0 else 1) :: st) h) : Lx G b Ln xs pc i (.int x :: st) h := by
  refine l_ifeq hd (fun hc => ?_) (fun hc => ?_)
  · rw [if_pos hc] at k
    exact l_iconst (x := 0) h3 rfl k
  · rw [if_neg hc] at k
    exact l_iconst (x := 1) h1 rfl (l_goto h2 k)
def pc_state (a1 : Int32) (h : PH) : Option PH := bd2 (mX_state a1 h) fun _ h1 => bd2 (mm_state a1 h1) fun _ h2 => some h2
def pc_house (a1 a2 a3 : Int32) (h : PH) : Option PH := bd2 (mX_house a1 a2 a3 h) fun _ h1 => bd2 (mm_house a1 a2 a3 h1) fun _ h2 => some h2
def pc_set (a1 a2 a3 : Int32) (h : PH) : Option PH := bd2 (mX_set a1 a2 a3 h) fun _ h1 => bd2 (mm_set a1 a2 a3 h1) fun _ h2 => some h2
def pc_act (a1 a2 a3 : Int32) (h : PH) : Option PH := bd2 (mX_act a1 a2 a3 h) fun _ h1 => bd2 (mm_act a1 a2 a3 h1) fun _ h2 => some h2
def pc_quarters (a1 : Int32) (h : PH) : Option PH := bd2 (mX_quarters a1 h) fun _ h1 => bd2 (mm_quarters a1 h1) fun _ h2 => some h2
def pc_feed (a1 a2 a3 a4 a5 : Int32) (h : PH) : Option PH := bd2 (mX_feed a1 a2 a3 a4 a5 h) fun _ h1 => bd2 (mm_feed a1 a2 a3 a4 a5 h1) fun _ h2 => some h2
def pc_end (a1 : Int32) (h : PH) : Option PH := bd2 (mX_end a1 h) fun _ h1 => bd2 (mm_end a1 h1) fun _ h2 => some h2
def pc_text (a1 : Int32) (h : PH) : Option PH := bd2 (mX_text a1 h) fun _ h1 => bd2 (mm_text a1 h1) fun _ h2 => some h2
def pc_fault (a1 : Int32) (h : PH) : Option PH := bd (mX_fault a1 h) fun _ => bd2 (mm_fault a1 h) fun _ h2 => some h2
def pc_of (a1 a2 : Int32) (h : PH) : Option PH := bd2 (mX_of a1 a2 h) fun _ h1 => bd2 (mm_of a1 a2 h1) fun _ h2 => some h2
def pc_book (a1 a2 : Int32) (h : PH) : Option PH := bd (mX_book a1 a2 h) fun _ => bd2 (mm_book a1 a2 h) fun _ h2 => some h2
def pc_goes (a1 a2 : Int32) (h : PH) : Option PH := bd2 (mX_goes a1 a2 h) fun _ h1 => bd2 (mm_goes a1 a2 h1) fun _ h2 => some h2
def pc_stands (a1 : Int32) (h : PH) : Option PH := bd2 (mX_stands a1 h) fun _ h1 => bd2 (mm_stands a1 h1) fun _ h2 => some h2
def pc_hears (a1 a2 : Int32) (h : PH) : Option PH := bd2 (mX_hears a1 a2 h) fun _ h1 => bd2 (mm_hears a1 a2 h1) fun _ h2 => some h2
def pc_heard (a1 a2 : Int32) (h : PH) : Option PH := bd2 (mX_heard a1 a2 h) fun _ h1 => bd2 (mm_heard a1 a2 h1) fun _ h2 => some h2
def pc_ants (a1 a2 : Int32) (h : PH) : Option PH := bd2 (mX_ants a1 a2 h) fun r1 h1 => bd2 (mm_ants a1 a2 h1) fun r2 h2 => if r1 = r2 then some h2 else none
def pc_piece (a1 : Int32) (h : PH) : Option PH := bd2 (mX_piece a1 h) fun _ h1 => bd2 (mm_piece a1 h1) fun _ h2 => some h2
def pc_plate (a1 a2 : Int32) (h : PH) : Option PH := bd (mX_plate a1 a2 h) fun _ => bd2 (mm_plate a1 a2 h) fun _ h2 => some h2
def pc_dough (a1 : Int32) (h : PH) : Option PH := bd2 (mX_dough a1 h) fun _ h1 => bd2 (mm_dough a1 h1) fun _ h2 => some h2
def pc_pans (a1 a2 : Int32) (h : PH) : Option PH := bd2 (mX_pans a1 a2 h) fun _ h1 => bd2 (mm_pans a1 a2 h1) fun _ h2 => some h2
def pc_mortgage (a1 a2 a3 a4 : Int32) (h : PH) : Option PH := bd (mX_mortgage a1 a2 a3 a4 h) fun _ => bd2 (mm_mortgage a1 a2 a3 a4 h) fun _ h2 => some h2
def pc_mark (a1 : Int32) (h : PH) : Option PH := bd2 (mX_mark a1 h) fun _ h1 => bd2 (mm_mark a1 h1) fun _ h2 => some h2
def pc_measures (a1 : Int32) (h : PH) : Option PH := bd (mX_measures a1 h) fun _ => bd2 (mm_measures a1 h) fun _ h2 => some h2
def pc_bite (a1 a2 : Int32) (h : PH) : Option PH := bd2 (mX_bite a1 a2 h) fun _ h1 => bd2 (mm_bite a1 a2 h1) fun _ h2 => some h2
def pc_whose (a1 a2 : Int32) (h : PH) : Option PH := bd (mX_whose a1 a2 h) fun _ => bd2 (mm_whose a1 a2 h) fun _ h2 => some h2
def pc_crumb (a1 : Int32) (h : PH) : Option PH := bd2 (mX_crumb a1 h) fun _ h1 => bd2 (mm_crumb a1 h1) fun _ h2 => some h2
def pc_crumbs (a1 : Int32) (h : PH) : Option PH := bd2 (mX_crumbs a1 h) fun _ h1 => bd2 (mm_crumbs a1 h1) fun _ h2 => some h2
def pc_loaf (a1 a2 : Int32) (h : PH) : Option PH := bd2 (mX_loaf a1 a2 h) fun _ h1 => bd2 (mm_loaf a1 a2 h1) fun _ h2 => some h2
def pc_ovens (a1 : Int32) (h : PH) : Option PH := bd (mX_ovens a1 h) fun _ => bd2 (mm_ovens a1 h) fun _ h2 => some h2
def pc_alone (a1 : Int32) (h : PH) : Option PH := bd2 (mX_alone a1 h) fun _ h1 => bd2 (mm_alone a1 h1) fun _ h2 => some h2
def pc_heir (a1 a2 : Int32) (h : PH) : Option PH := bd2 (mX_heir a1 a2 h) fun _ h1 => bd2 (mm_heir a1 a2 h1) fun _ h2 => some h2
def pc_line (a1 a2 : Int32) (h : PH) : Option PH := bd (mX_line a1 a2 h) fun _ => bd2 (mm_line a1 a2 h) fun _ h2 => some h2
def pc_window (a1 : Int32) (h : PH) : Option PH := bd (mX_window a1 h) fun _ => bd2 (mm_window a1 h) fun _ h2 => some h2
def pc_member (a1 a2 : Int32) (h : PH) : Option PH := bd2 (mX_member a1 a2 h) fun _ h1 => bd2 (mm_member a1 a2 h1) fun _ h2 => some h2
def pc_council (a1 : Int32) (h : PH) : Option PH := bd (mX_council a1 h) fun _ => bd2 (mm_council a1 h) fun _ h2 => some h2
def pc_game (a1 a2 : Int32) (h : PH) : Option PH := bd2 (mX_game a1 a2 h) fun _ h1 => bd2 (mm_game a1 a2 h1) fun _ h2 => some h2
def pc_undo (h : PH) : Option PH := bd2 (mX_undo h) fun _ h1 => bd2 (mm_undo h1) fun _ h2 => some h2
def pc_image (a1 : Int32) (h : PH) : Option PH := bd2 (mX_image (if a1 = 0 then 0 else 1) h) fun _ h1 => bd2 (mm_image (if a1 = 0 then 0 else 1) h1) fun _ h2 => some h2
def pc_look (a1 : Int32) (h : PH) : Option PH := bd (mX_look a1 h) fun _ => bd2 (mm_look a1 h) fun _ h2 => some h2
theorem lc_state {G : GG} {b Ln : Nat} {xs : Nat → Int32} {i : Int32} {h h2 : PH} (n1 : vp_in (i + 1) Ln) (hm : pc_state (xs (ix (i + 1))) h = some h2) (k : Lx G b Ln xs 1387 i [] h2) : Lx G b Ln xs 204 i [] h := by
  unfold pc_state at hm
  refine l_a1 dLaw_204 ?_
  refine l_a0 dLaw_205 ?_
  refine l_i3 dLaw_206 ?_
  refine l_iconst (x := 1) dLaw_207 rfl ?_
  refine l_iadd dLaw_208 ?_
  refine l_sld dLaw_209 n1 ?_
  obtain ⟨r1, h1, he, hm⟩ := bd2_s hm
  refine l_cv1 (M' := tX_state) dLaw_210 mlLaw_13 okX_state sh_0 hc_0 (Nat.le_of_ble_eq_true rfl) (by decide) (ctX_state G 0 _ _ _ he) ?_
  refine l_pop dLaw_213 ?_
  refine l_a2 dLaw_214 ?_
  refine l_a0 dLaw_215 ?_
  refine l_i3 dLaw_216 ?_
  refine l_iconst (x := 1) dLaw_217 rfl ?_
  refine l_iadd dLaw_218 ?_
  refine l_sld dLaw_219 n1 ?_
  obtain ⟨r2, h3, he, hm⟩ := bd2_s hm
  refine l_cv1 (M' := tm_state) dLaw_220 mlLaw_17 okm_state sh_104 hc_12 (Nat.le_of_ble_eq_true rfl) (by decide) (ctm_state G 0 _ _ _ he) ?_
  refine l_pop dLaw_223 ?_
  cases hm
  exact l_goto dLaw_224 k
theorem lc_house {G : GG} {b Ln : Nat} {xs : Nat → Int32} {i : Int32} {h h2 : PH} (n1 : vp_in (i + 1) Ln) (n2 : vp_in (i + 2) Ln) (n3 : vp_in (i + 3) Ln) (hm : pc_house (xs (ix (i + 1))) (xs (ix (i + 2))) (xs (ix (i + 3))) h = some h2) (k : Lx G b Ln xs 1387 i [] h2) : Lx G b Ln xs 227 i [] h := by
  unfold pc_house at hm
  refine l_a1 dLaw_227 ?_
  refine l_a0 dLaw_228 ?_
  refine l_i3 dLaw_229 ?_
  refine l_iconst (x := 1) dLaw_230 rfl ?_
  refine l_iadd dLaw_231 ?_
  refine l_sld dLaw_232 n1 ?_
  refine l_a0 dLaw_233 ?_
  refine l_i3 dLaw_234 ?_
  refine l_iconst (x := 2) dLaw_235 rfl ?_
  refine l_iadd dLaw_236 ?_
  refine l_sld dLaw_237 n2 ?_
  refine l_a0 dLaw_238 ?_
  refine l_i3 dLaw_239 ?_
  refine l_iconst (x := 3) dLaw_240 rfl ?_
  refine l_iadd dLaw_241 ?_
  refine l_sld dLaw_242 n3 ?_
  obtain ⟨r1, h1, he, hm⟩ := bd2_s hm
  refine l_cv3 (M' := tX_house) dLaw_243 mlLaw_18 okX_house sh_0 hc_0 (Nat.le_of_ble_eq_true rfl) (by decide) (ctX_house G 0 _ _ _ _ _ he) ?_
  refine l_pop dLaw_246 ?_
  refine l_a2 dLaw_247 ?_
  refine l_a0 dLaw_248 ?_
  refine l_i3 dLaw_249 ?_
  refine l_iconst (x := 1) dLaw_250 rfl ?_
  refine l_iadd dLaw_251 ?_
  refine l_sld dLaw_252 n1 ?_
  refine l_a0 dLaw_253 ?_
  refine l_i3 dLaw_254 ?_
  refine l_iconst (x := 2) dLaw_255 rfl ?_
  refine l_iadd dLaw_256 ?_
  refine l_sld dLaw_257 n2 ?_
  refine l_a0 dLaw_258 ?_
  refine l_i3 dLaw_259 ?_
  refine l_iconst (x := 3) dLaw_260 rfl ?_
  refine l_iadd dLaw_261 ?_
  refine l_sld dLaw_262 n3 ?_
  obtain ⟨r2, h3, he, hm⟩ := bd2_s hm
  refine l_cv3 (M' := tm_house) dLaw_263 mlLaw_22 okm_house sh_104 hc_12 (Nat.le_of_ble_eq_true rfl) (by decide) (ctm_house G 0 _ _ _ _ _ he) ?_
  refine l_pop dLaw_266 ?_
  cases hm
  exact l_goto dLaw_267 k
theorem lc_set {G : GG} {b Ln : Nat} {xs : Nat → Int32} {i : Int32} {h h2 : PH} (n1 : vp_in (i + 1) Ln) (n2 : vp_in (i + 2) Ln) (n3 : vp_in (i + 3) Ln) (hm : pc_set (xs (ix (i + 1))) (xs (ix (i + 2))) (xs (ix (i + 3))) h = some h2) (k : Lx G b Ln xs 1387 i [] h2) : Lx G b Ln xs 270 i [] h := by
  unfold pc_set at hm
  refine l_a1 dLaw_270 ?_
  refine l_a0 dLaw_271 ?_
  refine l_i3 dLaw_272 ?_
  refine l_iconst (x := 1) dLaw_273 rfl ?_
  refine l_iadd dLaw_274 ?_
  refine l_sld dLaw_275 n1 ?_
  refine l_a0 dLaw_276 ?_
  refine l_i3 dLaw_277 ?_
  refine l_iconst (x := 2) dLaw_278 rfl ?_
  refine l_iadd dLaw_279 ?_
  refine l_sld dLaw_280 n2 ?_
  refine l_a0 dLaw_281 ?_
  refine l_i3 dLaw_282 ?_
  refine l_iconst (x := 3) dLaw_283 rfl ?_
  refine l_iadd dLaw_284 ?_
  refine l_sld dLaw_285 n3 ?_
  obtain ⟨r1, h1, he, hm⟩ := bd2_s hm
  refine l_cv3 (M' := tX_set) dLaw_286 mlLaw_23 okX_set sh_0 hc_0 (Nat.le_of_ble_eq_true rfl) (by decide) (ctX_set G 0 _ _ _ _ _ he) ?_
  refine l_pop dLaw_289 ?_
  refine l_a2 dLaw_290 ?_
  refine l_a0 dLaw_291 ?_
  refine l_i3 dLaw_292 ?_
  refine l_iconst (x := 1) dLaw_293 rfl ?_
  refine l_iadd dLaw_294 ?_
  refine l_sld dLaw_295 n1 ?_
  refine l_a0 dLaw_296 ?_
  refine l_i3 dLaw_297 ?_
  refine l_iconst (x := 2) dLaw_298 rfl ?_
  refine l_iadd dLaw_299 ?_
  refine l_sld dLaw_300 n2 ?_
  refine l_a0 dLaw_301 ?_
  refine l_i3 dLaw_302 ?_
  refine l_iconst (x := 3) dLaw_303 rfl ?_
  refine l_iadd dLaw_304 ?_
  refine l_sld dLaw_305 n3 ?_
  obtain ⟨r2, h3, he, hm⟩ := bd2_s hm
  refine l_cv3 (M' := tm_set) dLaw_306 mlLaw_27 okm_set sh_104 hc_12 (Nat.le_of_ble_eq_true rfl) (by decide) (ctm_set G 0 _ _ _ _ _ he) ?_
  refine l_pop dLaw_309 ?_
  cases hm
  exact l_goto dLaw_310 k
theorem lc_act {G : GG} {b Ln : Nat} {xs : Nat → Int32} {i : Int32} {h h2 : PH} (n1 : vp_in (i + 1) Ln) (n2 : vp_in (i + 2) Ln) (n3 : vp_in (i + 3) Ln) (hm : pc_act (xs (ix (i + 1))) (xs (ix (i + 2))) (xs (ix (i + 3))) h = some h2) (k : Lx G b Ln xs 1387 i [] h2) : Lx G b Ln xs 313 i [] h := by
  unfold pc_act at hm
  refine l_a1 dLaw_313 ?_
  refine l_a0 dLaw_314 ?_
  refine l_i3 dLaw_315 ?_
  refine l_iconst (x := 1) dLaw_316 rfl ?_
  refine l_iadd dLaw_317 ?_
  refine l_sld dLaw_318 n1 ?_
  refine l_a0 dLaw_319 ?_
  refine l_i3 dLaw_320 ?_
  refine l_iconst (x := 2) dLaw_321 rfl ?_
  refine l_iadd dLaw_322 ?_
  refine l_sld dLaw_323 n2 ?_
  refine l_a0 dLaw_324 ?_
  refine l_i3 dLaw_325 ?_
  refine l_iconst (x := 3) dLaw_326 rfl ?_
  refine l_iadd dLaw_327 ?_
  refine l_sld dLaw_328 n3 ?_
  obtain ⟨r1, h1, he, hm⟩ := bd2_s hm
  refine l_cv3 (M' := tX_act) dLaw_329 mlLaw_28 okX_act sh_0 hc_0 (Nat.le_of_ble_eq_true rfl) (by decide) (ctX_act G 0 _ _ _ _ _ he) ?_
  refine l_pop dLaw_332 ?_
  refine l_a2 dLaw_333 ?_
  refine l_a0 dLaw_334 ?_
  refine l_i3 dLaw_335 ?_
  refine l_iconst (x := 1) dLaw_336 rfl ?_
  refine l_iadd dLaw_337 ?_
  refine l_sld dLaw_338 n1 ?_
  refine l_a0 dLaw_339 ?_
  refine l_i3 dLaw_340 ?_
  refine l_iconst (x := 2) dLaw_341 rfl ?_
  refine l_iadd dLaw_342 ?_
  refine l_sld dLaw_343 n2 ?_
  refine l_a0 dLaw_344 ?_
  refine l_i3 dLaw_345 ?_
  refine l_iconst (x := 3) dLaw_346 rfl ?_
  refine l_iadd dLaw_347 ?_
  refine l_sld dLaw_348 n3 ?_
  obtain ⟨r2, h3, he, hm⟩ := bd2_s hm
  refine l_cv3 (M' := tm_act) dLaw_349 mlLaw_31 okm_act sh_104 hc_12 (Nat.le_of_ble_eq_true rfl) (by decide) (ctm_act G 0 _ _ _ _ _ he) ?_
  refine l_pop dLaw_352 ?_
  cases hm
  exact l_goto dLaw_353 k
theorem lc_quarters {G : GG} {b Ln : Nat} {xs : Nat → Int32} {i : Int32} {h h2 : PH} (n1 : vp_in (i + 1) Ln) (hm : pc_quarters (xs (ix (i + 1))) h = some h2) (k : Lx G b Ln xs 1387 i [] h2) : Lx G b Ln xs 356 i [] h := by
  unfold pc_quarters at hm
  refine l_a1 dLaw_356 ?_
  refine l_a0 dLaw_357 ?_
  refine l_i3 dLaw_358 ?_
  refine l_iconst (x := 1) dLaw_359 rfl ?_
  refine l_iadd dLaw_360 ?_
  refine l_sld dLaw_361 n1 ?_
  obtain ⟨r1, h1, he, hm⟩ := bd2_s hm
  refine l_cv1 (M' := tX_quarters) dLaw_362 mlLaw_32 okX_quarters sh_0 hc_0 (Nat.le_of_ble_eq_true rfl) (by decide) (ctX_quarters G 0 _ _ _ he) ?_
  refine l_pop dLaw_365 ?_
  refine l_a2 dLaw_366 ?_
  refine l_a0 dLaw_367 ?_
  refine l_i3 dLaw_368 ?_
  refine l_iconst (x := 1) dLaw_369 rfl ?_
  refine l_iadd dLaw_370 ?_
  refine l_sld dLaw_371 n1 ?_
  obtain ⟨r2, h3, he, hm⟩ := bd2_s hm
  refine l_cv1 (M' := tm_quarters) dLaw_372 mlLaw_35 okm_quarters sh_104 hc_12 (Nat.le_of_ble_eq_true rfl) (by decide) (ctm_quarters G 0 _ _ _ he) ?_
  refine l_pop dLaw_375 ?_
  cases hm
  exact l_goto dLaw_376 k
theorem lc_feed {G : GG} {b Ln : Nat} {xs : Nat → Int32} {i : Int32} {h h2 : PH} (n1 : vp_in (i + 1) Ln) (n2 : vp_in (i + 2) Ln) (n3 : vp_in (i + 3) Ln) (n4 : vp_in (i + 4) Ln) (n5 : vp_in (i + 5) Ln) (hm : pc_feed (xs (ix (i + 1))) (xs (ix (i + 2))) (xs (ix (i + 3))) (xs (ix (i + 4))) (xs (ix (i + 5))) h = some h2) (k : Lx G b Ln xs 1387 i [] h2) : Lx G b Ln xs 379 i [] h := by
  unfold pc_feed at hm
  refine l_a1 dLaw_379 ?_
  refine l_a0 dLaw_380 ?_
  refine l_i3 dLaw_381 ?_
  refine l_iconst (x := 1) dLaw_382 rfl ?_
  refine l_iadd dLaw_383 ?_
  refine l_sld dLaw_384 n1 ?_
  refine l_a0 dLaw_385 ?_
  refine l_i3 dLaw_386 ?_
  refine l_iconst (x := 2) dLaw_387 rfl ?_
  refine l_iadd dLaw_388 ?_
  refine l_sld dLaw_389 n2 ?_
  refine l_a0 dLaw_390 ?_
  refine l_i3 dLaw_391 ?_
  refine l_iconst (x := 3) dLaw_392 rfl ?_
  refine l_iadd dLaw_393 ?_
  refine l_sld dLaw_394 n3 ?_
  refine l_a0 dLaw_395 ?_
  refine l_i3 dLaw_396 ?_
  refine l_iconst (x := 4) dLaw_397 rfl ?_
  refine l_iadd dLaw_398 ?_
  refine l_sld dLaw_399 n4 ?_
  refine l_a0 dLaw_400 ?_
  refine l_i3 dLaw_401 ?_
  refine l_iconst (x := 5) dLaw_402 rfl ?_
  refine l_iadd dLaw_403 ?_
  refine l_sld dLaw_404 n5 ?_
  obtain ⟨r1, h1, he, hm⟩ := bd2_s hm
  refine l_cv5 (M' := tX_feed) dLaw_405 mlLaw_36 okX_feed sh_0 hc_0 (Nat.le_of_ble_eq_true rfl) (by decide) (ctX_feed G 0 _ _ _ _ _ _ _ he) ?_
  refine l_pop dLaw_408 ?_
  refine l_a2 dLaw_409 ?_
  refine l_a0 dLaw_410 ?_
  refine l_i3 dLaw_411 ?_
  refine l_iconst (x := 1) dLaw_412 rfl ?_
  refine l_iadd dLaw_413 ?_
  refine l_sld dLaw_414 n1 ?_
  refine l_a0 dLaw_415 ?_
  refine l_i3 dLaw_416 ?_
  refine l_iconst (x := 2) dLaw_417 rfl ?_
  refine l_iadd dLaw_418 ?_
  refine l_sld dLaw_419 n2 ?_
  refine l_a0 dLaw_420 ?_
  refine l_i3 dLaw_421 ?_
  refine l_iconst (x := 3) dLaw_422 rfl ?_
  refine l_iadd dLaw_423 ?_
  refine l_sld dLaw_424 n3 ?_
  refine l_a0 dLaw_425 ?_
  refine l_i3 dLaw_426 ?_
  refine l_iconst (x := 4) dLaw_427 rfl ?_
  refine l_iadd dLaw_428 ?_
  refine l_sld dLaw_429 n4 ?_
  refine l_a0 dLaw_430 ?_
  refine l_i3 dLaw_431 ?_
  refine l_iconst (x := 5) dLaw_432 rfl ?_
  refine l_iadd dLaw_433 ?_
  refine l_sld dLaw_434 n5 ?_
  obtain ⟨r2, h3, he, hm⟩ := bd2_s hm
  refine l_cv5 (M' := tm_feed) dLaw_435 mlLaw_40 okm_feed sh_104 hc_12 (Nat.le_of_ble_eq_true rfl) (by decide) (ctm_feed G 0 _ _ _ _ _ _ _ he) ?_
  refine l_pop dLaw_438 ?_
  cases hm
  exact l_goto dLaw_439 k
theorem lc_end {G : GG} {b Ln : Nat} {xs : Nat → Int32} {i : Int32} {h h2 : PH} (n1 : vp_in (i + 1) Ln) (hm : pc_end (xs (ix (i + 1))) h = some h2) (k : Lx G b Ln xs 1387 i [] h2) : Lx G b Ln xs 442 i [] h := by
  unfold pc_end at hm
  refine l_a1 dLaw_442 ?_
  refine l_a0 dLaw_443 ?_
  refine l_i3 dLaw_444 ?_
  refine l_iconst (x := 1) dLaw_445 rfl ?_
  refine l_iadd dLaw_446 ?_
  refine l_sld dLaw_447 n1 ?_
  obtain ⟨r1, h1, he, hm⟩ := bd2_s hm
  refine l_cv1 (M' := tX_end) dLaw_448 mlLaw_41 okX_end sh_0 hc_0 (Nat.le_of_ble_eq_true rfl) (by decide) (ctX_end G 0 _ _ _ he) ?_
  refine l_pop dLaw_451 ?_
  refine l_a2 dLaw_452 ?_
  refine l_a0 dLaw_453 ?_
  refine l_i3 dLaw_454 ?_
  refine l_iconst (x := 1) dLaw_455 rfl ?_
  refine l_iadd dLaw_456 ?_
  refine l_sld dLaw_457 n1 ?_
  obtain ⟨r2, h3, he, hm⟩ := bd2_s hm
  refine l_cv1 (M' := tm_end) dLaw_458 mlLaw_45 okm_end sh_104 hc_12 (Nat.le_of_ble_eq_true rfl) (by decide) (ctm_end G 0 _ _ _ he) ?_
  refine l_pop dLaw_461 ?_
  cases hm
  exact l_goto dLaw_462 k
theorem lc_text {G : GG} {b Ln : Nat} {xs : Nat → Int32} {i : Int32} {h h2 : PH} (n1 : vp_in (i + 1) Ln) (hm : pc_text (xs (ix (i + 1))) h = some h2) (k : Lx G b Ln xs 1387 i [] h2) : Lx G b Ln xs 465 i [] h := by
  unfold pc_text at hm
  refine l_a1 dLaw_465 ?_
  refine l_a0 dLaw_466 ?_
  refine l_i3 dLaw_467 ?_
  refine l_iconst (x := 1) dLaw_468 rfl ?_
  refine l_iadd dLaw_469 ?_
  refine l_sld dLaw_470 n1 ?_
  obtain ⟨r1, h1, he, hm⟩ := bd2_s hm
  refine l_cv1 (M' := tX_text) dLaw_471 mlLaw_46 okX_text sh_0 hc_0 (Nat.le_of_ble_eq_true rfl) (by decide) (ctX_text G 0 _ _ _ he) ?_
  refine l_pop dLaw_474 ?_
  refine l_a2 dLaw_475 ?_
  refine l_a0 dLaw_476 ?_
  refine l_i3 dLaw_477 ?_
  refine l_iconst (x := 1) dLaw_478 rfl ?_
  refine l_iadd dLaw_479 ?_
  refine l_sld dLaw_480 n1 ?_
  obtain ⟨r2, h3, he, hm⟩ := bd2_s hm
  refine l_cv1 (M' := tm_text) dLaw_481 mlLaw_49 okm_text sh_104 hc_12 (Nat.le_of_ble_eq_true rfl) (by decide) (ctm_text G 0 _ _ _ he) ?_
  refine l_pop dLaw_484 ?_
  cases hm
  exact l_goto dLaw_485 k
theorem lc_fault {G : GG} {b Ln : Nat} {xs : Nat → Int32} {i : Int32} {h h2 : PH} (n1 : vp_in (i + 1) Ln) (hm : pc_fault (xs (ix (i + 1))) h = some h2) (k : Lx G b Ln xs 1387 i [] h2) : Lx G b Ln xs 488 i [] h := by
  unfold pc_fault at hm
  refine l_a1 dLaw_488 ?_
  refine l_a0 dLaw_489 ?_
  refine l_i3 dLaw_490 ?_
  refine l_iconst (x := 1) dLaw_491 rfl ?_
  refine l_iadd dLaw_492 ?_
  refine l_sld dLaw_493 n1 ?_
  obtain ⟨r1, he, hm⟩ := bd_s hm
  refine l_cv1 (M' := tX_fault) dLaw_494 mlLaw_50 okX_fault sh_0 hc_0 (Nat.le_of_ble_eq_true rfl) (by decide) (ctX_fault G 0 _ _ _ he) ?_
  refine l_pop dLaw_497 ?_
  refine l_a2 dLaw_498 ?_
  refine l_a0 dLaw_499 ?_
  refine l_i3 dLaw_500 ?_
  refine l_iconst (x := 1) dLaw_501 rfl ?_
  refine l_iadd dLaw_502 ?_
  refine l_sld dLaw_503 n1 ?_
  obtain ⟨r2, h3, he, hm⟩ := bd2_s hm
  refine l_cv1 (M' := tm_fault) dLaw_504 mlLaw_53 okm_fault sh_104 hc_12 (Nat.le_of_ble_eq_true rfl) (by decide) (ctm_fault G 0 _ _ _ he) ?_
  refine l_pop dLaw_507 ?_
  cases hm
  exact l_goto dLaw_508 k
theorem lc_of {G : GG} {b Ln : Nat} {xs : Nat → Int32} {i : Int32} {h h2 : PH} (n1 : vp_in (i + 1) Ln) (n2 : vp_in (i + 2) Ln) (hm : pc_of (xs (ix (i + 1))) (xs (ix (i + 2))) h = some h2) (k : Lx G b Ln xs 1387 i [] h2) : Lx G b Ln xs 511 i [] h := by
  unfold pc_of at hm
  refine l_a1 dLaw_511 ?_
  refine l_a0 dLaw_512 ?_
  refine l_i3 dLaw_513 ?_
  refine l_iconst (x := 1) dLaw_514 rfl ?_
  refine l_iadd dLaw_515 ?_
  refine l_sld dLaw_516 n1 ?_
  refine l_a0 dLaw_517 ?_
  refine l_i3 dLaw_518 ?_
  refine l_iconst (x := 2) dLaw_519 rfl ?_
  refine l_iadd dLaw_520 ?_
  refine l_sld dLaw_521 n2 ?_
  obtain ⟨r1, h1, he, hm⟩ := bd2_s hm
  refine l_cv2 (M' := tX_of) dLaw_522 mlLaw_54 okX_of sh_0 hc_0 (Nat.le_of_ble_eq_true rfl) (by decide) (ctX_of G 0 _ _ _ _ he) ?_
  refine l_pop dLaw_525 ?_
  refine l_a2 dLaw_526 ?_
  refine l_a0 dLaw_527 ?_
  refine l_i3 dLaw_528 ?_
  refine l_iconst (x := 1) dLaw_529 rfl ?_
  refine l_iadd dLaw_530 ?_
  refine l_sld dLaw_531 n1 ?_
  refine l_a0 dLaw_532 ?_
  refine l_i3 dLaw_533 ?_
  refine l_iconst (x := 2) dLaw_534 rfl ?_
  refine l_iadd dLaw_535 ?_
  refine l_sld dLaw_536 n2 ?_
  obtain ⟨r2, h3, he, hm⟩ := bd2_s hm
  refine l_cv2 (M' := tm_of) dLaw_537 mlLaw_58 okm_of sh_104 hc_12 (Nat.le_of_ble_eq_true rfl) (by decide) (ctm_of G 0 _ _ _ _ he) ?_
  refine l_pop dLaw_540 ?_
  cases hm
  exact l_goto dLaw_541 k
theorem lc_book {G : GG} {b Ln : Nat} {xs : Nat → Int32} {i : Int32} {h h2 : PH} (n1 : vp_in (i + 1) Ln) (n2 : vp_in (i + 2) Ln) (hm : pc_book (xs (ix (i + 1))) (xs (ix (i + 2))) h = some h2) (k : Lx G b Ln xs 1387 i [] h2) : Lx G b Ln xs 544 i [] h := by
  unfold pc_book at hm
  refine l_a1 dLaw_544 ?_
  refine l_a0 dLaw_545 ?_
  refine l_i3 dLaw_546 ?_
  refine l_iconst (x := 1) dLaw_547 rfl ?_
  refine l_iadd dLaw_548 ?_
  refine l_sld dLaw_549 n1 ?_
  refine l_a0 dLaw_550 ?_
  refine l_i3 dLaw_551 ?_
  refine l_iconst (x := 2) dLaw_552 rfl ?_
  refine l_iadd dLaw_553 ?_
  refine l_sld dLaw_554 n2 ?_
  obtain ⟨r1, he, hm⟩ := bd_s hm
  refine l_cv2 (M' := tX_book) dLaw_555 mlLaw_59 okX_book sh_0 hc_0 (Nat.le_of_ble_eq_true rfl) (by decide) (ctX_book G 0 _ _ _ _ he) ?_
  refine l_pop dLaw_558 ?_
  refine l_a2 dLaw_559 ?_
  refine l_a0 dLaw_560 ?_
  refine l_i3 dLaw_561 ?_
  refine l_iconst (x := 1) dLaw_562 rfl ?_
  refine l_iadd dLaw_563 ?_
  refine l_sld dLaw_564 n1 ?_
  refine l_a0 dLaw_565 ?_
  refine l_i3 dLaw_566 ?_
  refine l_iconst (x := 2) dLaw_567 rfl ?_
  refine l_iadd dLaw_568 ?_
  refine l_sld dLaw_569 n2 ?_
  obtain ⟨r2, h3, he, hm⟩ := bd2_s hm
  refine l_cv2 (M' := tm_book) dLaw_570 mlLaw_62 okm_book sh_104 hc_12 (Nat.le_of_ble_eq_true rfl) (by decide) (ctm_book G 0 _ _ _ _ he) ?_
  refine l_pop dLaw_573 ?_
  cases hm
  exact l_goto dLaw_574 k
theorem lc_goes {G : GG} {b Ln : Nat} {xs : Nat → Int32} {i : Int32} {h h2 : PH} (n1 : vp_in (i + 1) Ln) (n2 : vp_in (i + 2) Ln) (hm : pc_goes (xs (ix (i + 1))) (xs (ix (i + 2))) h = some h2) (k : Lx G b Ln xs 1387 i [] h2) : Lx G b Ln xs 577 i [] h := by
  unfold pc_goes at hm
  refine l_a1 dLaw_577 ?_
  refine l_a0 dLaw_578 ?_
  refine l_i3 dLaw_579 ?_
  refine l_iconst (x := 1) dLaw_580 rfl ?_
  refine l_iadd dLaw_581 ?_
  refine l_sld dLaw_582 n1 ?_
  refine l_a0 dLaw_583 ?_
  refine l_i3 dLaw_584 ?_
  refine l_iconst (x := 2) dLaw_585 rfl ?_
  refine l_iadd dLaw_586 ?_
  refine l_sld dLaw_587 n2 ?_
  obtain ⟨r1, h1, he, hm⟩ := bd2_s hm
  refine l_cv2 (M' := tX_goes) dLaw_588 mlLaw_63 okX_goes sh_0 hc_0 (Nat.le_of_ble_eq_true rfl) (by decide) (ctX_goes G 0 _ _ _ _ he) ?_
  refine l_pop dLaw_591 ?_
  refine l_a2 dLaw_592 ?_
  refine l_a0 dLaw_593 ?_
  refine l_i3 dLaw_594 ?_
  refine l_iconst (x := 1) dLaw_595 rfl ?_
  refine l_iadd dLaw_596 ?_
  refine l_sld dLaw_597 n1 ?_
  refine l_a0 dLaw_598 ?_
  refine l_i3 dLaw_599 ?_
  refine l_iconst (x := 2) dLaw_600 rfl ?_
  refine l_iadd dLaw_601 ?_
  refine l_sld dLaw_602 n2 ?_
  obtain ⟨r2, h3, he, hm⟩ := bd2_s hm
  refine l_cv2 (M' := tm_goes) dLaw_603 mlLaw_66 okm_goes sh_104 hc_12 (Nat.le_of_ble_eq_true rfl) (by decide) (ctm_goes G 0 _ _ _ _ he) ?_
  refine l_pop dLaw_606 ?_
  cases hm
  exact l_goto dLaw_607 k
theorem lc_stands {G : GG} {b Ln : Nat} {xs : Nat → Int32} {i : Int32} {h h2 : PH} (n1 : vp_in (i + 1) Ln) (hm : pc_stands (xs (ix (i + 1))) h = some h2) (k : Lx G b Ln xs 1387 i [] h2) : Lx G b Ln xs 610 i [] h := by
  unfold pc_stands at hm
  refine l_a1 dLaw_610 ?_
  refine l_a0 dLaw_611 ?_
  refine l_i3 dLaw_612 ?_
  refine l_iconst (x := 1) dLaw_613 rfl ?_
  refine l_iadd dLaw_614 ?_
  refine l_sld dLaw_615 n1 ?_
  obtain ⟨r1, h1, he, hm⟩ := bd2_s hm
  refine l_cv1 (M' := tX_stands) dLaw_616 mlLaw_67 okX_stands sh_0 hc_0 (Nat.le_of_ble_eq_true rfl) (by decide) (ctX_stands G 0 _ _ _ he) ?_
  refine l_pop dLaw_619 ?_
  refine l_a2 dLaw_620 ?_
  refine l_a0 dLaw_621 ?_
  refine l_i3 dLaw_622 ?_
  refine l_iconst (x := 1) dLaw_623 rfl ?_
  refine l_iadd dLaw_624 ?_
  refine l_sld dLaw_625 n1 ?_
  obtain ⟨r2, h3, he, hm⟩ := bd2_s hm
  refine l_cv1 (M' := tm_stands) dLaw_626 mlLaw_70 okm_stands sh_104 hc_12 (Nat.le_of_ble_eq_true rfl) (by decide) (ctm_stands G 0 _ _ _ he) ?_
  refine l_pop dLaw_629 ?_
  cases hm
  exact l_goto dLaw_630 k
theorem lc_hears {G : GG} {b Ln : Nat} {xs : Nat → Int32} {i : Int32} {h h2 : PH} (n1 : vp_in (i + 1) Ln) (n2 : vp_in (i + 2) Ln) (hm : pc_hears (xs (ix (i + 1))) (xs (ix (i + 2))) h = some h2) (k : Lx G b Ln xs 1387 i [] h2) : Lx G b Ln xs 633 i [] h := by
  unfold pc_hears at hm
  refine l_a1 dLaw_633 ?_
  refine l_a0 dLaw_634 ?_
  refine l_i3 dLaw_635 ?_
  refine l_iconst (x := 1) dLaw_636 rfl ?_
  refine l_iadd dLaw_637 ?_
  refine l_sld dLaw_638 n1 ?_
  refine l_a0 dLaw_639 ?_
  refine l_i3 dLaw_640 ?_
  refine l_iconst (x := 2) dLaw_641 rfl ?_
  refine l_iadd dLaw_642 ?_
  refine l_sld dLaw_643 n2 ?_
  obtain ⟨r1, h1, he, hm⟩ := bd2_s hm
  refine l_cv2 (M' := tX_hears) dLaw_644 mlLaw_71 okX_hears sh_0 hc_0 (Nat.le_of_ble_eq_true rfl) (by decide) (ctX_hears G 0 _ _ _ _ he) ?_
  refine l_pop dLaw_647 ?_
  refine l_a2 dLaw_648 ?_
  refine l_a0 dLaw_649 ?_
  refine l_i3 dLaw_650 ?_
  refine l_iconst (x := 1) dLaw_651 rfl ?_
  refine l_iadd dLaw_652 ?_
  refine l_sld dLaw_653 n1 ?_
  refine l_a0 dLaw_654 ?_
  refine l_i3 dLaw_655 ?_
  refine l_iconst (x := 2) dLaw_656 rfl ?_
  refine l_iadd dLaw_657 ?_
  refine l_sld dLaw_658 n2 ?_
  obtain ⟨r2, h3, he, hm⟩ := bd2_s hm
  refine l_cv2 (M' := tm_hears) dLaw_659 mlLaw_74 okm_hears sh_104 hc_12 (Nat.le_of_ble_eq_true rfl) (by decide) (ctm_hears G 0 _ _ _ _ he) ?_
  refine l_pop dLaw_662 ?_
  cases hm
  exact l_goto dLaw_663 k
theorem lc_heard {G : GG} {b Ln : Nat} {xs : Nat → Int32} {i : Int32} {h h2 : PH} (n1 : vp_in (i + 1) Ln) (n2 : vp_in (i + 2) Ln) (hm : pc_heard (xs (ix (i + 1))) (xs (ix (i + 2))) h = some h2) (k : Lx G b Ln xs 1387 i [] h2) : Lx G b Ln xs 666 i [] h := by
  unfold pc_heard at hm
  refine l_a1 dLaw_666 ?_
  refine l_a0 dLaw_667 ?_
  refine l_i3 dLaw_668 ?_
  refine l_iconst (x := 1) dLaw_669 rfl ?_
  refine l_iadd dLaw_670 ?_
  refine l_sld dLaw_671 n1 ?_
  refine l_a0 dLaw_672 ?_
  refine l_i3 dLaw_673 ?_
  refine l_iconst (x := 2) dLaw_674 rfl ?_
  refine l_iadd dLaw_675 ?_
  refine l_sld dLaw_676 n2 ?_
  obtain ⟨r1, h1, he, hm⟩ := bd2_s hm
  refine l_cv2 (M' := tX_heard) dLaw_677 mlLaw_75 okX_heard sh_0 hc_0 (Nat.le_of_ble_eq_true rfl) (by decide) (ctX_heard G 0 _ _ _ _ he) ?_
  refine l_pop dLaw_680 ?_
  refine l_a2 dLaw_681 ?_
  refine l_a0 dLaw_682 ?_
  refine l_i3 dLaw_683 ?_
  refine l_iconst (x := 1) dLaw_684 rfl ?_
  refine l_iadd dLaw_685 ?_
  refine l_sld dLaw_686 n1 ?_
  refine l_a0 dLaw_687 ?_
  refine l_i3 dLaw_688 ?_
  refine l_iconst (x := 2) dLaw_689 rfl ?_
  refine l_iadd dLaw_690 ?_
  refine l_sld dLaw_691 n2 ?_
  obtain ⟨r2, h3, he, hm⟩ := bd2_s hm
  refine l_cv2 (M' := tm_heard) dLaw_692 mlLaw_78 okm_heard sh_104 hc_12 (Nat.le_of_ble_eq_true rfl) (by decide) (ctm_heard G 0 _ _ _ _ he) ?_
  refine l_pop dLaw_695 ?_
  cases hm
  exact l_goto dLaw_696 k
theorem lc_ants {G : GG} {b Ln : Nat} {xs : Nat → Int32} {i : Int32} {h h2 : PH} (n1 : vp_in (i + 1) Ln) (n2 : vp_in (i + 2) Ln) (hm : pc_ants (xs (ix (i + 1))) (xs (ix (i + 2))) h = some h2) (k : Lx G b Ln xs 1387 i [] h2) : Lx G b Ln xs 699 i [] h := by
  unfold pc_ants at hm
  refine l_a1 dLaw_699 ?_
  refine l_a0 dLaw_700 ?_
  refine l_i3 dLaw_701 ?_
  refine l_iconst (x := 1) dLaw_702 rfl ?_
  refine l_iadd dLaw_703 ?_
  refine l_sld dLaw_704 n1 ?_
  refine l_a0 dLaw_705 ?_
  refine l_i3 dLaw_706 ?_
  refine l_iconst (x := 2) dLaw_707 rfl ?_
  refine l_iadd dLaw_708 ?_
  refine l_sld dLaw_709 n2 ?_
  obtain ⟨r1, h1, he, hm⟩ := bd2_s hm
  refine l_cv2 (M' := tX_ants) dLaw_710 mlLaw_79 okX_ants sh_0 hc_0 (Nat.le_of_ble_eq_true rfl) (by decide) (ctX_ants G 0 _ _ _ _ he) ?_
  refine l_a2 dLaw_713 ?_
  refine l_a0 dLaw_714 ?_
  refine l_i3 dLaw_715 ?_
  refine l_iconst (x := 1) dLaw_716 rfl ?_
  refine l_iadd dLaw_717 ?_
  refine l_sld dLaw_718 n1 ?_
  refine l_a0 dLaw_719 ?_
  refine l_i3 dLaw_720 ?_
  refine l_iconst (x := 2) dLaw_721 rfl ?_
  refine l_iadd dLaw_722 ?_
  refine l_sld dLaw_723 n2 ?_
  obtain ⟨r2, h3, he, hm⟩ := bd2_s hm
  refine l_cv2 (M' := tm_ants) dLaw_724 mlLaw_82 okm_ants sh_104 hc_12 (Nat.le_of_ble_eq_true rfl) (by decide) (ctm_ants G 0 _ _ _ _ he) ?_
  split at hm
  · rename_i hq
    subst hq
    cases hm
    exact l_cmpeq dLaw_727 k
  · cases hm
theorem lc_piece {G : GG} {b Ln : Nat} {xs : Nat → Int32} {i : Int32} {h h2 : PH} (n1 : vp_in (i + 1) Ln) (hm : pc_piece (xs (ix (i + 1))) h = some h2) (k : Lx G b Ln xs 1387 i [] h2) : Lx G b Ln xs 732 i [] h := by
  unfold pc_piece at hm
  refine l_a1 dLaw_732 ?_
  refine l_a0 dLaw_733 ?_
  refine l_i3 dLaw_734 ?_
  refine l_iconst (x := 1) dLaw_735 rfl ?_
  refine l_iadd dLaw_736 ?_
  refine l_sld dLaw_737 n1 ?_
  obtain ⟨r1, h1, he, hm⟩ := bd2_s hm
  refine l_cv1 (M' := tX_piece) dLaw_738 mlLaw_83 okX_piece sh_0 hc_0 (Nat.le_of_ble_eq_true rfl) (by decide) (ctX_piece G 0 _ _ _ he) ?_
  refine l_pop dLaw_741 ?_
  refine l_a2 dLaw_742 ?_
  refine l_a0 dLaw_743 ?_
  refine l_i3 dLaw_744 ?_
  refine l_iconst (x := 1) dLaw_745 rfl ?_
  refine l_iadd dLaw_746 ?_
  refine l_sld dLaw_747 n1 ?_
  obtain ⟨r2, h3, he, hm⟩ := bd2_s hm
  refine l_cv1 (M' := tm_piece) dLaw_748 mlLaw_86 okm_piece sh_104 hc_12 (Nat.le_of_ble_eq_true rfl) (by decide) (ctm_piece G 0 _ _ _ he) ?_
  refine l_pop dLaw_751 ?_
  cases hm
  exact l_goto dLaw_752 k
theorem lc_plate {G : GG} {b Ln : Nat} {xs : Nat → Int32} {i : Int32} {h h2 : PH} (n1 : vp_in (i + 1) Ln) (n2 : vp_in (i + 2) Ln) (hm : pc_plate (xs (ix (i + 1))) (xs (ix (i + 2))) h = some h2) (k : Lx G b Ln xs 1387 i [] h2) : Lx G b Ln xs 755 i [] h := by
  unfold pc_plate at hm
  refine l_a1 dLaw_755 ?_
  refine l_a0 dLaw_756 ?_
  refine l_i3 dLaw_757 ?_
  refine l_iconst (x := 1) dLaw_758 rfl ?_
  refine l_iadd dLaw_759 ?_
  refine l_sld dLaw_760 n1 ?_
  refine l_a0 dLaw_761 ?_
  refine l_i3 dLaw_762 ?_
  refine l_iconst (x := 2) dLaw_763 rfl ?_
  refine l_iadd dLaw_764 ?_
  refine l_sld dLaw_765 n2 ?_
  obtain ⟨r1, he, hm⟩ := bd_s hm
  refine l_cv2 (M' := tX_plate) dLaw_766 mlLaw_87 okX_plate sh_0 hc_0 (Nat.le_of_ble_eq_true rfl) (by decide) (ctX_plate G 0 _ _ _ _ he) ?_
  refine l_pop dLaw_769 ?_
  refine l_a2 dLaw_770 ?_
  refine l_a0 dLaw_771 ?_
  refine l_i3 dLaw_772 ?_
  refine l_iconst (x := 1) dLaw_773 rfl ?_
  refine l_iadd dLaw_774 ?_
  refine l_sld dLaw_775 n1 ?_
  refine l_a0 dLaw_776 ?_
  refine l_i3 dLaw_777 ?_
  refine l_iconst (x := 2) dLaw_778 rfl ?_
  refine l_iadd dLaw_779 ?_
  refine l_sld dLaw_780 n2 ?_
  obtain ⟨r2, h3, he, hm⟩ := bd2_s hm
  refine l_cv2 (M' := tm_plate) dLaw_781 mlLaw_90 okm_plate sh_104 hc_12 (Nat.le_of_ble_eq_true rfl) (by decide) (ctm_plate G 0 _ _ _ _ he) ?_
  refine l_pop dLaw_784 ?_
  cases hm
  exact l_goto dLaw_785 k
theorem lc_dough {G : GG} {b Ln : Nat} {xs : Nat → Int32} {i : Int32} {h h2 : PH} (n1 : vp_in (i + 1) Ln) (hm : pc_dough (xs (ix (i + 1))) h = some h2) (k : Lx G b Ln xs 1387 i [] h2) : Lx G b Ln xs 788 i [] h := by
  unfold pc_dough at hm
  refine l_a1 dLaw_788 ?_
  refine l_a0 dLaw_789 ?_
  refine l_i3 dLaw_790 ?_
  refine l_iconst (x := 1) dLaw_791 rfl ?_
  refine l_iadd dLaw_792 ?_
  refine l_sld dLaw_793 n1 ?_
  obtain ⟨r1, h1, he, hm⟩ := bd2_s hm
  refine l_cv1 (M' := tX_dough) dLaw_794 mlLaw_91 okX_dough sh_0 hc_0 (Nat.le_of_ble_eq_true rfl) (by decide) (ctX_dough G 0 _ _ _ he) ?_
  refine l_pop dLaw_797 ?_
  refine l_a2 dLaw_798 ?_
  refine l_a0 dLaw_799 ?_
  refine l_i3 dLaw_800 ?_
  refine l_iconst (x := 1) dLaw_801 rfl ?_
  refine l_iadd dLaw_802 ?_
  refine l_sld dLaw_803 n1 ?_
  obtain ⟨r2, h3, he, hm⟩ := bd2_s hm
  refine l_cv1 (M' := tm_dough) dLaw_804 mlLaw_94 okm_dough sh_104 hc_12 (Nat.le_of_ble_eq_true rfl) (by decide) (ctm_dough G 0 _ _ _ he) ?_
  refine l_pop dLaw_807 ?_
  cases hm
  exact l_goto dLaw_808 k
theorem lc_pans {G : GG} {b Ln : Nat} {xs : Nat → Int32} {i : Int32} {h h2 : PH} (n1 : vp_in (i + 1) Ln) (n2 : vp_in (i + 2) Ln) (hm : pc_pans (xs (ix (i + 1))) (xs (ix (i + 2))) h = some h2) (k : Lx G b Ln xs 1387 i [] h2) : Lx G b Ln xs 811 i [] h := by
  unfold pc_pans at hm
  refine l_a1 dLaw_811 ?_
  refine l_a0 dLaw_812 ?_
  refine l_i3 dLaw_813 ?_
  refine l_iconst (x := 1) dLaw_814 rfl ?_
  refine l_iadd dLaw_815 ?_
  refine l_sld dLaw_816 n1 ?_
  refine l_a0 dLaw_817 ?_
  refine l_i3 dLaw_818 ?_
  refine l_iconst (x := 2) dLaw_819 rfl ?_
  refine l_iadd dLaw_820 ?_
  refine l_sld dLaw_821 n2 ?_
  obtain ⟨r1, h1, he, hm⟩ := bd2_s hm
  refine l_cv2 (M' := tX_pans) dLaw_822 mlLaw_95 okX_pans sh_0 hc_0 (Nat.le_of_ble_eq_true rfl) (by decide) (ctX_pans G 0 _ _ _ _ he) ?_
  refine l_pop dLaw_825 ?_
  refine l_a2 dLaw_826 ?_
  refine l_a0 dLaw_827 ?_
  refine l_i3 dLaw_828 ?_
  refine l_iconst (x := 1) dLaw_829 rfl ?_
  refine l_iadd dLaw_830 ?_
  refine l_sld dLaw_831 n1 ?_
  refine l_a0 dLaw_832 ?_
  refine l_i3 dLaw_833 ?_
  refine l_iconst (x := 2) dLaw_834 rfl ?_
  refine l_iadd dLaw_835 ?_
  refine l_sld dLaw_836 n2 ?_
  obtain ⟨r2, h3, he, hm⟩ := bd2_s hm
  refine l_cv2 (M' := tm_pans) dLaw_837 mlLaw_98 okm_pans sh_104 hc_12 (Nat.le_of_ble_eq_true rfl) (by decide) (ctm_pans G 0 _ _ _ _ he) ?_
  refine l_pop dLaw_840 ?_
  cases hm
  exact l_goto dLaw_841 k
theorem lc_mortgage {G : GG} {b Ln : Nat} {xs : Nat → Int32} {i : Int32} {h h2 : PH} (n1 : vp_in (i + 1) Ln) (n2 : vp_in (i + 2) Ln) (n3 : vp_in (i + 3) Ln) (n4 : vp_in (i + 4) Ln) (hm : pc_mortgage (xs (ix (i + 1))) (xs (ix (i + 2))) (xs (ix (i + 3))) (xs (ix (i + 4))) h = some h2) (k : Lx G b Ln xs 1387 i [] h2) : Lx G b Ln xs 844 i [] h := by
  unfold pc_mortgage at hm
  refine l_a1 dLaw_844 ?_
  refine l_a0 dLaw_845 ?_
  refine l_i3 dLaw_846 ?_
  refine l_iconst (x := 1) dLaw_847 rfl ?_
  refine l_iadd dLaw_848 ?_
  refine l_sld dLaw_849 n1 ?_
  refine l_a0 dLaw_850 ?_
  refine l_i3 dLaw_851 ?_
  refine l_iconst (x := 2) dLaw_852 rfl ?_
  refine l_iadd dLaw_853 ?_
  refine l_sld dLaw_854 n2 ?_
  refine l_a0 dLaw_855 ?_
  refine l_i3 dLaw_856 ?_
  refine l_iconst (x := 3) dLaw_857 rfl ?_
  refine l_iadd dLaw_858 ?_
  refine l_sld dLaw_859 n3 ?_
  refine l_a0 dLaw_860 ?_
  refine l_i3 dLaw_861 ?_
  refine l_iconst (x := 4) dLaw_862 rfl ?_
  refine l_iadd dLaw_863 ?_
  refine l_sld dLaw_864 n4 ?_
  obtain ⟨r1, he, hm⟩ := bd_s hm
  refine l_cv4 (M' := tX_mortgage) dLaw_865 mlLaw_99 okX_mortgage sh_0 hc_0 (Nat.le_of_ble_eq_true rfl) (by decide) (ctX_mortgage G 0 _ _ _ _ _ _ he) ?_
  refine l_pop dLaw_868 ?_
  refine l_a2 dLaw_869 ?_
  refine l_a0 dLaw_870 ?_
  refine l_i3 dLaw_871 ?_
  refine l_iconst (x := 1) dLaw_872 rfl ?_
  refine l_iadd dLaw_873 ?_
  refine l_sld dLaw_874 n1 ?_
  refine l_a0 dLaw_875 ?_
  refine l_i3 dLaw_876 ?_
  refine l_iconst (x := 2) dLaw_877 rfl ?_
  refine l_iadd dLaw_878 ?_
  refine l_sld dLaw_879 n2 ?_
  refine l_a0 dLaw_880 ?_
  refine l_i3 dLaw_881 ?_
  refine l_iconst (x := 3) dLaw_882 rfl ?_
  refine l_iadd dLaw_883 ?_
  refine l_sld dLaw_884 n3 ?_
  refine l_a0 dLaw_885 ?_
  refine l_i3 dLaw_886 ?_
  refine l_iconst (x := 4) dLaw_887 rfl ?_
  refine l_iadd dLaw_888 ?_
  refine l_sld dLaw_889 n4 ?_
  obtain ⟨r2, h3, he, hm⟩ := bd2_s hm
  refine l_cv4 (M' := tm_mortgage) dLaw_890 mlLaw_103 okm_mortgage sh_104 hc_12 (Nat.le_of_ble_eq_true rfl) (by decide) (ctm_mortgage G 0 _ _ _ _ _ _ he) ?_
  refine l_pop dLaw_893 ?_
  cases hm
  exact l_goto dLaw_894 k
theorem lc_mark {G : GG} {b Ln : Nat} {xs : Nat → Int32} {i : Int32} {h h2 : PH} (n1 : vp_in (i + 1) Ln) (hm : pc_mark (xs (ix (i + 1))) h = some h2) (k : Lx G b Ln xs 1387 i [] h2) : Lx G b Ln xs 897 i [] h := by
  unfold pc_mark at hm
  refine l_a1 dLaw_897 ?_
  refine l_a0 dLaw_898 ?_
  refine l_i3 dLaw_899 ?_
  refine l_iconst (x := 1) dLaw_900 rfl ?_
  refine l_iadd dLaw_901 ?_
  refine l_sld dLaw_902 n1 ?_
  obtain ⟨r1, h1, he, hm⟩ := bd2_s hm
  refine l_cv1 (M' := tX_mark) dLaw_903 mlLaw_104 okX_mark sh_0 hc_0 (Nat.le_of_ble_eq_true rfl) (by decide) (ctX_mark G 0 _ _ _ he) ?_
  refine l_pop dLaw_906 ?_
  refine l_a2 dLaw_907 ?_
  refine l_a0 dLaw_908 ?_
  refine l_i3 dLaw_909 ?_
  refine l_iconst (x := 1) dLaw_910 rfl ?_
  refine l_iadd dLaw_911 ?_
  refine l_sld dLaw_912 n1 ?_
  obtain ⟨r2, h3, he, hm⟩ := bd2_s hm
  refine l_cv1 (M' := tm_mark) dLaw_913 mlLaw_107 okm_mark sh_104 hc_12 (Nat.le_of_ble_eq_true rfl) (by decide) (ctm_mark G 0 _ _ _ he) ?_
  refine l_pop dLaw_916 ?_
  cases hm
  exact l_goto dLaw_917 k
theorem lc_measures {G : GG} {b Ln : Nat} {xs : Nat → Int32} {i : Int32} {h h2 : PH} (n1 : vp_in (i + 1) Ln) (hm : pc_measures (xs (ix (i + 1))) h = some h2) (k : Lx G b Ln xs 1387 i [] h2) : Lx G b Ln xs 920 i [] h := by
  unfold pc_measures at hm
  refine l_a1 dLaw_920 ?_
  refine l_a0 dLaw_921 ?_
  refine l_i3 dLaw_922 ?_
  refine l_iconst (x := 1) dLaw_923 rfl ?_
  refine l_iadd dLaw_924 ?_
  refine l_sld dLaw_925 n1 ?_
  obtain ⟨r1, he, hm⟩ := bd_s hm
  refine l_cv1 (M' := tX_measures) dLaw_926 mlLaw_108 okX_measures sh_0 hc_0 (Nat.le_of_ble_eq_true rfl) (by decide) (ctX_measures G 0 _ _ _ he) ?_
  refine l_pop dLaw_929 ?_
  refine l_a2 dLaw_930 ?_
  refine l_a0 dLaw_931 ?_
  refine l_i3 dLaw_932 ?_
  refine l_iconst (x := 1) dLaw_933 rfl ?_
  refine l_iadd dLaw_934 ?_
  refine l_sld dLaw_935 n1 ?_
  obtain ⟨r2, h3, he, hm⟩ := bd2_s hm
  refine l_cv1 (M' := tm_measures) dLaw_936 mlLaw_111 okm_measures sh_104 hc_12 (Nat.le_of_ble_eq_true rfl) (by decide) (ctm_measures G 0 _ _ _ he) ?_
  refine l_pop dLaw_939 ?_
  cases hm
  exact l_goto dLaw_940 k
theorem lc_bite {G : GG} {b Ln : Nat} {xs : Nat → Int32} {i : Int32} {h h2 : PH} (n1 : vp_in (i + 1) Ln) (n2 : vp_in (i + 2) Ln) (hm : pc_bite (xs (ix (i + 1))) (xs (ix (i + 2))) h = some h2) (k : Lx G b Ln xs 1387 i [] h2) : Lx G b Ln xs 943 i [] h := by
  unfold pc_bite at hm
  refine l_a1 dLaw_943 ?_
  refine l_a0 dLaw_944 ?_
  refine l_i3 dLaw_945 ?_
  refine l_iconst (x := 1) dLaw_946 rfl ?_
  refine l_iadd dLaw_947 ?_
  refine l_sld dLaw_948 n1 ?_
  refine l_a0 dLaw_949 ?_
  refine l_i3 dLaw_950 ?_
  refine l_iconst (x := 2) dLaw_951 rfl ?_
  refine l_iadd dLaw_952 ?_
  refine l_sld dLaw_953 n2 ?_
  obtain ⟨r1, h1, he, hm⟩ := bd2_s hm
  refine l_cv2 (M' := tX_bite) dLaw_954 mlLaw_112 okX_bite sh_0 hc_0 (Nat.le_of_ble_eq_true rfl) (by decide) (ctX_bite G 0 _ _ _ _ he) ?_
  refine l_pop dLaw_957 ?_
  refine l_a2 dLaw_958 ?_
  refine l_a0 dLaw_959 ?_
  refine l_i3 dLaw_960 ?_
  refine l_iconst (x := 1) dLaw_961 rfl ?_
  refine l_iadd dLaw_962 ?_
  refine l_sld dLaw_963 n1 ?_
  refine l_a0 dLaw_964 ?_
  refine l_i3 dLaw_965 ?_
  refine l_iconst (x := 2) dLaw_966 rfl ?_
  refine l_iadd dLaw_967 ?_
  refine l_sld dLaw_968 n2 ?_
  obtain ⟨r2, h3, he, hm⟩ := bd2_s hm
  refine l_cv2 (M' := tm_bite) dLaw_969 mlLaw_115 okm_bite sh_104 hc_12 (Nat.le_of_ble_eq_true rfl) (by decide) (ctm_bite G 0 _ _ _ _ he) ?_
  refine l_pop dLaw_972 ?_
  cases hm
  exact l_goto dLaw_973 k
theorem lc_whose {G : GG} {b Ln : Nat} {xs : Nat → Int32} {i : Int32} {h h2 : PH} (n1 : vp_in (i + 1) Ln) (n2 : vp_in (i + 2) Ln) (hm : pc_whose (xs (ix (i + 1))) (xs (ix (i + 2))) h = some h2) (k : Lx G b Ln xs 1387 i [] h2) : Lx G b Ln xs 976 i [] h := by
  unfold pc_whose at hm
  refine l_a1 dLaw_976 ?_
  refine l_a0 dLaw_977 ?_
  refine l_i3 dLaw_978 ?_
  refine l_iconst (x := 1) dLaw_979 rfl ?_
  refine l_iadd dLaw_980 ?_
  refine l_sld dLaw_981 n1 ?_
  refine l_a0 dLaw_982 ?_
  refine l_i3 dLaw_983 ?_
  refine l_iconst (x := 2) dLaw_984 rfl ?_
  refine l_iadd dLaw_985 ?_
  refine l_sld dLaw_986 n2 ?_
  obtain ⟨r1, he, hm⟩ := bd_s hm
  refine l_cv2 (M' := tX_whose) dLaw_987 mlLaw_116 okX_whose sh_0 hc_0 (Nat.le_of_ble_eq_true rfl) (by decide) (ctX_whose G 0 _ _ _ _ he) ?_
  refine l_pop dLaw_990 ?_
  refine l_a2 dLaw_991 ?_
  refine l_a0 dLaw_992 ?_
  refine l_i3 dLaw_993 ?_
  refine l_iconst (x := 1) dLaw_994 rfl ?_
  refine l_iadd dLaw_995 ?_
  refine l_sld dLaw_996 n1 ?_
  refine l_a0 dLaw_997 ?_
  refine l_i3 dLaw_998 ?_
  refine l_iconst (x := 2) dLaw_999 rfl ?_
  refine l_iadd dLaw_1000 ?_
  refine l_sld dLaw_1001 n2 ?_
  obtain ⟨r2, h3, he, hm⟩ := bd2_s hm
  refine l_cv2 (M' := tm_whose) dLaw_1002 mlLaw_119 okm_whose sh_104 hc_12 (Nat.le_of_ble_eq_true rfl) (by decide) (ctm_whose G 0 _ _ _ _ he) ?_
  refine l_pop dLaw_1005 ?_
  cases hm
  exact l_goto dLaw_1006 k
theorem lc_crumb {G : GG} {b Ln : Nat} {xs : Nat → Int32} {i : Int32} {h h2 : PH} (n1 : vp_in (i + 1) Ln) (hm : pc_crumb (xs (ix (i + 1))) h = some h2) (k : Lx G b Ln xs 1387 i [] h2) : Lx G b Ln xs 1009 i [] h := by
  unfold pc_crumb at hm
  refine l_a1 dLaw_1009 ?_
  refine l_a0 dLaw_1010 ?_
  refine l_i3 dLaw_1011 ?_
  refine l_iconst (x := 1) dLaw_1012 rfl ?_
  refine l_iadd dLaw_1013 ?_
  refine l_sld dLaw_1014 n1 ?_
  obtain ⟨r1, h1, he, hm⟩ := bd2_s hm
  refine l_cv1 (M' := tX_crumb) dLaw_1015 mlLaw_120 okX_crumb sh_0 hc_0 (Nat.le_of_ble_eq_true rfl) (by decide) (ctX_crumb G 0 _ _ _ he) ?_
  refine l_pop dLaw_1018 ?_
  refine l_a2 dLaw_1019 ?_
  refine l_a0 dLaw_1020 ?_
  refine l_i3 dLaw_1021 ?_
  refine l_iconst (x := 1) dLaw_1022 rfl ?_
  refine l_iadd dLaw_1023 ?_
  refine l_sld dLaw_1024 n1 ?_
  obtain ⟨r2, h3, he, hm⟩ := bd2_s hm
  refine l_cv1 (M' := tm_crumb) dLaw_1025 mlLaw_123 okm_crumb sh_104 hc_12 (Nat.le_of_ble_eq_true rfl) (by decide) (ctm_crumb G 0 _ _ _ he) ?_
  refine l_pop dLaw_1028 ?_
  cases hm
  exact l_goto dLaw_1029 k
theorem lc_crumbs {G : GG} {b Ln : Nat} {xs : Nat → Int32} {i : Int32} {h h2 : PH} (n1 : vp_in (i + 1) Ln) (hm : pc_crumbs (xs (ix (i + 1))) h = some h2) (k : Lx G b Ln xs 1387 i [] h2) : Lx G b Ln xs 1032 i [] h := by
  unfold pc_crumbs at hm
  refine l_a1 dLaw_1032 ?_
  refine l_a0 dLaw_1033 ?_
  refine l_i3 dLaw_1034 ?_
  refine l_iconst (x := 1) dLaw_1035 rfl ?_
  refine l_iadd dLaw_1036 ?_
  refine l_sld dLaw_1037 n1 ?_
  obtain ⟨r1, h1, he, hm⟩ := bd2_s hm
  refine l_cv1 (M' := tX_crumbs) dLaw_1038 mlLaw_124 okX_crumbs sh_0 hc_0 (Nat.le_of_ble_eq_true rfl) (by decide) (ctX_crumbs G 0 _ _ _ he) ?_
  refine l_pop dLaw_1041 ?_
  refine l_a2 dLaw_1042 ?_
  refine l_a0 dLaw_1043 ?_
  refine l_i3 dLaw_1044 ?_
  refine l_iconst (x := 1) dLaw_1045 rfl ?_
  refine l_iadd dLaw_1046 ?_
  refine l_sld dLaw_1047 n1 ?_
  obtain ⟨r2, h3, he, hm⟩ := bd2_s hm
  refine l_cv1 (M' := tm_crumbs) dLaw_1048 mlLaw_127 okm_crumbs sh_104 hc_12 (Nat.le_of_ble_eq_true rfl) (by decide) (ctm_crumbs G 0 _ _ _ he) ?_
  refine l_pop dLaw_1051 ?_
  cases hm
  exact l_goto dLaw_1052 k
theorem lc_loaf {G : GG} {b Ln : Nat} {xs : Nat → Int32} {i : Int32} {h h2 : PH} (n1 : vp_in (i + 1) Ln) (n2 : vp_in (i + 2) Ln) (hm : pc_loaf (xs (ix (i + 1))) (xs (ix (i + 2))) h = some h2) (k : Lx G b Ln xs 1387 i [] h2) : Lx G b Ln xs 1055 i [] h := by
  unfold pc_loaf at hm
  refine l_a1 dLaw_1055 ?_
  refine l_a0 dLaw_1056 ?_
  refine l_i3 dLaw_1057 ?_
  refine l_iconst (x := 1) dLaw_1058 rfl ?_
  refine l_iadd dLaw_1059 ?_
  refine l_sld dLaw_1060 n1 ?_
  refine l_a0 dLaw_1061 ?_
  refine l_i3 dLaw_1062 ?_
  refine l_iconst (x := 2) dLaw_1063 rfl ?_
  refine l_iadd dLaw_1064 ?_
  refine l_sld dLaw_1065 n2 ?_
  obtain ⟨r1, h1, he, hm⟩ := bd2_s hm
  refine l_cv2 (M' := tX_loaf) dLaw_1066 mlLaw_128 okX_loaf sh_0 hc_0 (Nat.le_of_ble_eq_true rfl) (by decide) (ctX_loaf G 0 _ _ _ _ he) ?_
  refine l_pop dLaw_1069 ?_
  refine l_a2 dLaw_1070 ?_
  refine l_a0 dLaw_1071 ?_
  refine l_i3 dLaw_1072 ?_
  refine l_iconst (x := 1) dLaw_1073 rfl ?_
  refine l_iadd dLaw_1074 ?_
  refine l_sld dLaw_1075 n1 ?_
  refine l_a0 dLaw_1076 ?_
  refine l_i3 dLaw_1077 ?_
  refine l_iconst (x := 2) dLaw_1078 rfl ?_
  refine l_iadd dLaw_1079 ?_
  refine l_sld dLaw_1080 n2 ?_
  obtain ⟨r2, h3, he, hm⟩ := bd2_s hm
  refine l_cv2 (M' := tm_loaf) dLaw_1081 mlLaw_131 okm_loaf sh_104 hc_12 (Nat.le_of_ble_eq_true rfl) (by decide) (ctm_loaf G 0 _ _ _ _ he) ?_
  refine l_pop dLaw_1084 ?_
  cases hm
  exact l_goto dLaw_1085 k
theorem lc_ovens {G : GG} {b Ln : Nat} {xs : Nat → Int32} {i : Int32} {h h2 : PH} (n1 : vp_in (i + 1) Ln) (hm : pc_ovens (xs (ix (i + 1))) h = some h2) (k : Lx G b Ln xs 1387 i [] h2) : Lx G b Ln xs 1088 i [] h := by
  unfold pc_ovens at hm
  refine l_a1 dLaw_1088 ?_
  refine l_a0 dLaw_1089 ?_
  refine l_i3 dLaw_1090 ?_
  refine l_iconst (x := 1) dLaw_1091 rfl ?_
  refine l_iadd dLaw_1092 ?_
  refine l_sld dLaw_1093 n1 ?_
  obtain ⟨r1, he, hm⟩ := bd_s hm
  refine l_cv1 (M' := tX_ovens) dLaw_1094 mlLaw_132 okX_ovens sh_0 hc_0 (Nat.le_of_ble_eq_true rfl) (by decide) (ctX_ovens G 0 _ _ _ he) ?_
  refine l_pop dLaw_1097 ?_
  refine l_a2 dLaw_1098 ?_
  refine l_a0 dLaw_1099 ?_
  refine l_i3 dLaw_1100 ?_
  refine l_iconst (x := 1) dLaw_1101 rfl ?_
  refine l_iadd dLaw_1102 ?_
  refine l_sld dLaw_1103 n1 ?_
  obtain ⟨r2, h3, he, hm⟩ := bd2_s hm
  refine l_cv1 (M' := tm_ovens) dLaw_1104 mlLaw_135 okm_ovens sh_104 hc_12 (Nat.le_of_ble_eq_true rfl) (by decide) (ctm_ovens G 0 _ _ _ he) ?_
  refine l_pop dLaw_1107 ?_
  cases hm
  exact l_goto dLaw_1108 k
theorem lc_alone {G : GG} {b Ln : Nat} {xs : Nat → Int32} {i : Int32} {h h2 : PH} (n1 : vp_in (i + 1) Ln) (hm : pc_alone (xs (ix (i + 1))) h = some h2) (k : Lx G b Ln xs 1387 i [] h2) : Lx G b Ln xs 1111 i [] h := by
  unfold pc_alone at hm
  refine l_a1 dLaw_1111 ?_
  refine l_a0 dLaw_1112 ?_
  refine l_i3 dLaw_1113 ?_
  refine l_iconst (x := 1) dLaw_1114 rfl ?_
  refine l_iadd dLaw_1115 ?_
  refine l_sld dLaw_1116 n1 ?_
  obtain ⟨r1, h1, he, hm⟩ := bd2_s hm
  refine l_cv1 (M' := tX_alone) dLaw_1117 mlLaw_136 okX_alone sh_0 hc_0 (Nat.le_of_ble_eq_true rfl) (by decide) (ctX_alone G 0 _ _ _ he) ?_
  refine l_pop dLaw_1120 ?_
  refine l_a2 dLaw_1121 ?_
  refine l_a0 dLaw_1122 ?_
  refine l_i3 dLaw_1123 ?_
  refine l_iconst (x := 1) dLaw_1124 rfl ?_
  refine l_iadd dLaw_1125 ?_
  refine l_sld dLaw_1126 n1 ?_
  obtain ⟨r2, h3, he, hm⟩ := bd2_s hm
  refine l_cv1 (M' := tm_alone) dLaw_1127 mlLaw_139 okm_alone sh_104 hc_12 (Nat.le_of_ble_eq_true rfl) (by decide) (ctm_alone G 0 _ _ _ he) ?_
  refine l_pop dLaw_1130 ?_
  cases hm
  exact l_goto dLaw_1131 k
theorem lc_heir {G : GG} {b Ln : Nat} {xs : Nat → Int32} {i : Int32} {h h2 : PH} (n1 : vp_in (i + 1) Ln) (n2 : vp_in (i + 2) Ln) (hm : pc_heir (xs (ix (i + 1))) (xs (ix (i + 2))) h = some h2) (k : Lx G b Ln xs 1387 i [] h2) : Lx G b Ln xs 1134 i [] h := by
  unfold pc_heir at hm
  refine l_a1 dLaw_1134 ?_
  refine l_a0 dLaw_1135 ?_
  refine l_i3 dLaw_1136 ?_
  refine l_iconst (x := 1) dLaw_1137 rfl ?_
  refine l_iadd dLaw_1138 ?_
  refine l_sld dLaw_1139 n1 ?_
  refine l_a0 dLaw_1140 ?_
  refine l_i3 dLaw_1141 ?_
  refine l_iconst (x := 2) dLaw_1142 rfl ?_
  refine l_iadd dLaw_1143 ?_
  refine l_sld dLaw_1144 n2 ?_
  obtain ⟨r1, h1, he, hm⟩ := bd2_s hm
  refine l_cv2 (M' := tX_heir) dLaw_1145 mlLaw_140 okX_heir sh_0 hc_0 (Nat.le_of_ble_eq_true rfl) (by decide) (ctX_heir G 0 _ _ _ _ he) ?_
  refine l_pop dLaw_1148 ?_
  refine l_a2 dLaw_1149 ?_
  refine l_a0 dLaw_1150 ?_
  refine l_i3 dLaw_1151 ?_
  refine l_iconst (x := 1) dLaw_1152 rfl ?_
  refine l_iadd dLaw_1153 ?_
  refine l_sld dLaw_1154 n1 ?_
  refine l_a0 dLaw_1155 ?_
  refine l_i3 dLaw_1156 ?_
  refine l_iconst (x := 2) dLaw_1157 rfl ?_
  refine l_iadd dLaw_1158 ?_
  refine l_sld dLaw_1159 n2 ?_
  obtain ⟨r2, h3, he, hm⟩ := bd2_s hm
  refine l_cv2 (M' := tm_heir) dLaw_1160 mlLaw_143 okm_heir sh_104 hc_12 (Nat.le_of_ble_eq_true rfl) (by decide) (ctm_heir G 0 _ _ _ _ he) ?_
  refine l_pop dLaw_1163 ?_
  cases hm
  exact l_goto dLaw_1164 k
theorem lc_line {G : GG} {b Ln : Nat} {xs : Nat → Int32} {i : Int32} {h h2 : PH} (n1 : vp_in (i + 1) Ln) (n2 : vp_in (i + 2) Ln) (hm : pc_line (xs (ix (i + 1))) (xs (ix (i + 2))) h = some h2) (k : Lx G b Ln xs 1387 i [] h2) : Lx G b Ln xs 1167 i [] h := by
  unfold pc_line at hm
  refine l_a1 dLaw_1167 ?_
  refine l_a0 dLaw_1168 ?_
  refine l_i3 dLaw_1169 ?_
  refine l_iconst (x := 1) dLaw_1170 rfl ?_
  refine l_iadd dLaw_1171 ?_
  refine l_sld dLaw_1172 n1 ?_
  refine l_a0 dLaw_1173 ?_
  refine l_i3 dLaw_1174 ?_
  refine l_iconst (x := 2) dLaw_1175 rfl ?_
  refine l_iadd dLaw_1176 ?_
  refine l_sld dLaw_1177 n2 ?_
  obtain ⟨r1, he, hm⟩ := bd_s hm
  refine l_cv2 (M' := tX_line) dLaw_1178 mlLaw_144 okX_line sh_0 hc_0 (Nat.le_of_ble_eq_true rfl) (by decide) (ctX_line G 0 _ _ _ _ he) ?_
  refine l_pop dLaw_1181 ?_
  refine l_a2 dLaw_1182 ?_
  refine l_a0 dLaw_1183 ?_
  refine l_i3 dLaw_1184 ?_
  refine l_iconst (x := 1) dLaw_1185 rfl ?_
  refine l_iadd dLaw_1186 ?_
  refine l_sld dLaw_1187 n1 ?_
  refine l_a0 dLaw_1188 ?_
  refine l_i3 dLaw_1189 ?_
  refine l_iconst (x := 2) dLaw_1190 rfl ?_
  refine l_iadd dLaw_1191 ?_
  refine l_sld dLaw_1192 n2 ?_
  obtain ⟨r2, h3, he, hm⟩ := bd2_s hm
  refine l_cv2 (M' := tm_line) dLaw_1193 mlLaw_147 okm_line sh_104 hc_12 (Nat.le_of_ble_eq_true rfl) (by decide) (ctm_line G 0 _ _ _ _ he) ?_
  refine l_pop dLaw_1196 ?_
  cases hm
  exact l_goto dLaw_1197 k
theorem lc_window {G : GG} {b Ln : Nat} {xs : Nat → Int32} {i : Int32} {h h2 : PH} (n1 : vp_in (i + 1) Ln) (hm : pc_window (xs (ix (i + 1))) h = some h2) (k : Lx G b Ln xs 1387 i [] h2) : Lx G b Ln xs 1200 i [] h := by
  unfold pc_window at hm
  refine l_a1 dLaw_1200 ?_
  refine l_a0 dLaw_1201 ?_
  refine l_i3 dLaw_1202 ?_
  refine l_iconst (x := 1) dLaw_1203 rfl ?_
  refine l_iadd dLaw_1204 ?_
  refine l_sld dLaw_1205 n1 ?_
  obtain ⟨r1, he, hm⟩ := bd_s hm
  refine l_cv1 (M' := tX_window) dLaw_1206 mlLaw_148 okX_window sh_0 hc_0 (Nat.le_of_ble_eq_true rfl) (by decide) (ctX_window G 0 _ _ _ he) ?_
  refine l_pop dLaw_1209 ?_
  refine l_a2 dLaw_1210 ?_
  refine l_a0 dLaw_1211 ?_
  refine l_i3 dLaw_1212 ?_
  refine l_iconst (x := 1) dLaw_1213 rfl ?_
  refine l_iadd dLaw_1214 ?_
  refine l_sld dLaw_1215 n1 ?_
  obtain ⟨r2, h3, he, hm⟩ := bd2_s hm
  refine l_cv1 (M' := tm_window) dLaw_1216 mlLaw_151 okm_window sh_104 hc_12 (Nat.le_of_ble_eq_true rfl) (by decide) (ctm_window G 0 _ _ _ he) ?_
  refine l_pop dLaw_1219 ?_
  cases hm
  exact l_goto dLaw_1220 k
theorem lc_member {G : GG} {b Ln : Nat} {xs : Nat → Int32} {i : Int32} {h h2 : PH} (n1 : vp_in (i + 1) Ln) (n2 : vp_in (i + 2) Ln) (hm : pc_member (xs (ix (i + 1))) (xs (ix (i + 2))) h = some h2) (k : Lx G b Ln xs 1387 i [] h2) : Lx G b Ln xs 1223 i [] h := by
  unfold pc_member at hm
  refine l_a1 dLaw_1223 ?_
  refine l_a0 dLaw_1224 ?_
  refine l_i3 dLaw_1225 ?_
  refine l_iconst (x := 1) dLaw_1226 rfl ?_
  refine l_iadd dLaw_1227 ?_
  refine l_sld dLaw_1228 n1 ?_
  refine l_a0 dLaw_1229 ?_
  refine l_i3 dLaw_1230 ?_
  refine l_iconst (x := 2) dLaw_1231 rfl ?_
  refine l_iadd dLaw_1232 ?_
  refine l_sld dLaw_1233 n2 ?_
  obtain ⟨r1, h1, he, hm⟩ := bd2_s hm
  refine l_cv2 (M' := tX_member) dLaw_1234 mlLaw_152 okX_member sh_0 hc_0 (Nat.le_of_ble_eq_true rfl) (by decide) (ctX_member G 0 _ _ _ _ he) ?_
  refine l_pop dLaw_1237 ?_
  refine l_a2 dLaw_1238 ?_
  refine l_a0 dLaw_1239 ?_
  refine l_i3 dLaw_1240 ?_
  refine l_iconst (x := 1) dLaw_1241 rfl ?_
  refine l_iadd dLaw_1242 ?_
  refine l_sld dLaw_1243 n1 ?_
  refine l_a0 dLaw_1244 ?_
  refine l_i3 dLaw_1245 ?_
  refine l_iconst (x := 2) dLaw_1246 rfl ?_
  refine l_iadd dLaw_1247 ?_
  refine l_sld dLaw_1248 n2 ?_
  obtain ⟨r2, h3, he, hm⟩ := bd2_s hm
  refine l_cv2 (M' := tm_member) dLaw_1249 mlLaw_155 okm_member sh_104 hc_12 (Nat.le_of_ble_eq_true rfl) (by decide) (ctm_member G 0 _ _ _ _ he) ?_
  refine l_pop dLaw_1252 ?_
  cases hm
  exact l_goto dLaw_1253 k
theorem lc_council {G : GG} {b Ln : Nat} {xs : Nat → Int32} {i : Int32} {h h2 : PH} (n1 : vp_in (i + 1) Ln) (hm : pc_council (xs (ix (i + 1))) h = some h2) (k : Lx G b Ln xs 1387 i [] h2) : Lx G b Ln xs 1256 i [] h := by
  unfold pc_council at hm
  refine l_a1 dLaw_1256 ?_
  refine l_a0 dLaw_1257 ?_
  refine l_i3 dLaw_1258 ?_
  refine l_iconst (x := 1) dLaw_1259 rfl ?_
  refine l_iadd dLaw_1260 ?_
  refine l_sld dLaw_1261 n1 ?_
  obtain ⟨r1, he, hm⟩ := bd_s hm
  refine l_cv1 (M' := tX_council) dLaw_1262 mlLaw_156 okX_council sh_0 hc_0 (Nat.le_of_ble_eq_true rfl) (by decide) (ctX_council G 0 _ _ _ he) ?_
  refine l_pop dLaw_1265 ?_
  refine l_a2 dLaw_1266 ?_
  refine l_a0 dLaw_1267 ?_
  refine l_i3 dLaw_1268 ?_
  refine l_iconst (x := 1) dLaw_1269 rfl ?_
  refine l_iadd dLaw_1270 ?_
  refine l_sld dLaw_1271 n1 ?_
  obtain ⟨r2, h3, he, hm⟩ := bd2_s hm
  refine l_cv1 (M' := tm_council) dLaw_1272 mlLaw_159 okm_council sh_104 hc_12 (Nat.le_of_ble_eq_true rfl) (by decide) (ctm_council G 0 _ _ _ he) ?_
  refine l_pop dLaw_1275 ?_
  cases hm
  exact l_goto dLaw_1276 k
theorem lc_game {G : GG} {b Ln : Nat} {xs : Nat → Int32} {i : Int32} {h h2 : PH} (n1 : vp_in (i + 1) Ln) (n2 : vp_in (i + 2) Ln) (hm : pc_game (xs (ix (i + 1))) (xs (ix (i + 2))) h = some h2) (k : Lx G b Ln xs 1387 i [] h2) : Lx G b Ln xs 1279 i [] h := by
  unfold pc_game at hm
  refine l_a1 dLaw_1279 ?_
  refine l_a0 dLaw_1280 ?_
  refine l_i3 dLaw_1281 ?_
  refine l_iconst (x := 1) dLaw_1282 rfl ?_
  refine l_iadd dLaw_1283 ?_
  refine l_sld dLaw_1284 n1 ?_
  refine l_a0 dLaw_1285 ?_
  refine l_i3 dLaw_1286 ?_
  refine l_iconst (x := 2) dLaw_1287 rfl ?_
  refine l_iadd dLaw_1288 ?_
  refine l_sld dLaw_1289 n2 ?_
  obtain ⟨r1, h1, he, hm⟩ := bd2_s hm
  refine l_cv2 (M' := tX_game) dLaw_1290 mlLaw_160 okX_game sh_0 hc_0 (Nat.le_of_ble_eq_true rfl) (by decide) (ctX_game G 0 _ _ _ _ he) ?_
  refine l_pop dLaw_1293 ?_
  refine l_a2 dLaw_1294 ?_
  refine l_a0 dLaw_1295 ?_
  refine l_i3 dLaw_1296 ?_
  refine l_iconst (x := 1) dLaw_1297 rfl ?_
  refine l_iadd dLaw_1298 ?_
  refine l_sld dLaw_1299 n1 ?_
  refine l_a0 dLaw_1300 ?_
  refine l_i3 dLaw_1301 ?_
  refine l_iconst (x := 2) dLaw_1302 rfl ?_
  refine l_iadd dLaw_1303 ?_
  refine l_sld dLaw_1304 n2 ?_
  obtain ⟨r2, h3, he, hm⟩ := bd2_s hm
  refine l_cv2 (M' := tm_game) dLaw_1305 mlLaw_163 okm_game sh_104 hc_12 (Nat.le_of_ble_eq_true rfl) (by decide) (ctm_game G 0 _ _ _ _ he) ?_
  refine l_pop dLaw_1308 ?_
  cases hm
  exact l_goto dLaw_1309 k
theorem lc_undo {G : GG} {b Ln : Nat} {xs : Nat → Int32} {i : Int32} {h h2 : PH} (hm : pc_undo h = some h2) (k : Lx G b Ln xs 1387 i [] h2) : Lx G b Ln xs 1312 i [] h := by
  unfold pc_undo at hm
  refine l_a1 dLaw_1312 ?_
  obtain ⟨r1, h1, he, hm⟩ := bd2_s hm
  refine l_cv0 (M' := tX_undo) dLaw_1313 mlLaw_164 okX_undo sh_0 hc_0 (Nat.le_of_ble_eq_true rfl) (by decide) (ctX_undo G 0 _ _ he) ?_
  refine l_pop dLaw_1316 ?_
  refine l_a2 dLaw_1317 ?_
  obtain ⟨r2, h3, he, hm⟩ := bd2_s hm
  refine l_cv0 (M' := tm_undo) dLaw_1318 mlLaw_168 okm_undo sh_104 hc_12 (Nat.le_of_ble_eq_true rfl) (by decide) (ctm_undo G 0 _ _ he) ?_
  refine l_pop dLaw_1321 ?_
  cases hm
  exact l_goto dLaw_1322 k
theorem lc_image {G : GG} {b Ln : Nat} {xs : Nat → Int32} {i : Int32} {h h2 : PH} (n1 : vp_in (i + 1) Ln) (hm : pc_image (xs (ix (i + 1))) h = some h2) (k : Lx G b Ln xs 1387 i [] h2) : Lx G b Ln xs 1325 i [] h := by
  unfold pc_image at hm
  refine l_a1 dLaw_1325 ?_
  refine l_a0 dLaw_1326 ?_
  refine l_i3 dLaw_1327 ?_
  refine l_iconst (x := 1) dLaw_1328 rfl ?_
  refine l_iadd dLaw_1329 ?_
  refine l_sld dLaw_1330 n1 ?_
  refine l_zz dLaw_1331 dLaw_1334 dLaw_1335 dLaw_1338 ?_
  obtain ⟨r1, h1, he, hm⟩ := bd2_s hm
  refine l_cv1 (M' := tX_image) dLaw_1339 mlLaw_169 okX_image sh_0 hc_0 (Nat.le_of_ble_eq_true rfl) (by decide) (ctX_image G 0 _ _ _ he) ?_
  refine l_pop dLaw_1342 ?_
  refine l_a2 dLaw_1343 ?_
  refine l_a0 dLaw_1344 ?_
  refine l_i3 dLaw_1345 ?_
  refine l_iconst (x := 1) dLaw_1346 rfl ?_
  refine l_iadd dLaw_1347 ?_
  refine l_sld dLaw_1348 n1 ?_
  refine l_zz dLaw_1349 dLaw_1352 dLaw_1353 dLaw_1356 ?_
  obtain ⟨r2, h3, he, hm⟩ := bd2_s hm
  refine l_cv1 (M' := tm_image) dLaw_1357 mlLaw_173 okm_image sh_104 hc_12 (Nat.le_of_ble_eq_true rfl) (by decide) (ctm_image G 0 _ _ _ he) ?_
  refine l_pop dLaw_1360 ?_
  cases hm
  exact l_goto dLaw_1361 k
theorem lc_look {G : GG} {b Ln : Nat} {xs : Nat → Int32} {i : Int32} {h h2 : PH} (n1 : vp_in (i + 1) Ln) (hm : pc_look (xs (ix (i + 1))) h = some h2) (k : Lx G b Ln xs 1387 i [] h2) : Lx G b Ln xs 1364 i [] h := by
  unfold pc_look at hm
  refine l_a1 dLaw_1364 ?_
  refine l_a0 dLaw_1365 ?_
  refine l_i3 dLaw_1366 ?_
  refine l_iconst (x := 1) dLaw_1367 rfl ?_
  refine l_iadd dLaw_1368 ?_
  refine l_sld dLaw_1369 n1 ?_
  obtain ⟨r1, he, hm⟩ := bd_s hm
  refine l_cv1 (M' := tX_look) dLaw_1370 mlLaw_174 okX_look sh_0 hc_0 (Nat.le_of_ble_eq_true rfl) (by decide) (ctX_look G 0 _ _ _ he) ?_
  refine l_pop dLaw_1373 ?_
  refine l_a2 dLaw_1374 ?_
  refine l_a0 dLaw_1375 ?_
  refine l_i3 dLaw_1376 ?_
  refine l_iconst (x := 1) dLaw_1377 rfl ?_
  refine l_iadd dLaw_1378 ?_
  refine l_sld dLaw_1379 n1 ?_
  obtain ⟨r2, h3, he, hm⟩ := bd2_s hm
  refine l_cv1 (M' := tm_look) dLaw_1380 mlLaw_177 okm_look sh_104 hc_12 (Nat.le_of_ble_eq_true rfl) (by decide) (ctm_look G 0 _ _ _ he) ?_
  refine l_pop dLaw_1383 ?_
  cases hm
  exact l_goto dLaw_1384 k
def stp (o a1 a2 a3 a4 a5 : Int32) (h : PH) : Option PH :=
  if o = 0 then pc_state a1 h else
  if o = 1 then pc_house a1 a2 a3 h else
  if o = 2 then pc_set a1 a2 a3 h else
  if o = 3 then pc_act a1 a2 a3 h else
  if o = 4 then pc_quarters a1 h else
  if o = 5 then pc_feed a1 a2 a3 a4 a5 h else
  if o = 6 then pc_end a1 h else
  if o = 7 then pc_text a1 h else
  if o = 8 then pc_fault a1 h else
  if o = 9 then pc_of a1 a2 h else
  if o = 10 then pc_book a1 a2 h else
  if o = 11 then pc_goes a1 a2 h else
  if o = 12 then pc_stands a1 h else
  if o = 13 then pc_hears a1 a2 h else
  if o = 14 then pc_heard a1 a2 h else
  if o = 15 then pc_ants a1 a2 h else
  if o = 16 then pc_piece a1 h else
  if o = 17 then pc_plate a1 a2 h else
  if o = 18 then pc_dough a1 h else
  if o = 19 then pc_pans a1 a2 h else
  if o = 20 then pc_mortgage a1 a2 a3 a4 h else
  if o = 21 then pc_mark a1 h else
  if o = 22 then pc_measures a1 h else
  if o = 23 then pc_bite a1 a2 h else
  if o = 24 then pc_whose a1 a2 h else
  if o = 25 then pc_crumb a1 h else
  if o = 26 then pc_crumbs a1 h else
  if o = 27 then pc_loaf a1 a2 h else
  if o = 28 then pc_ovens a1 h else
  if o = 29 then pc_alone a1 h else
  if o = 30 then pc_heir a1 a2 h else
  if o = 31 then pc_line a1 a2 h else
  if o = 32 then pc_window a1 h else
  if o = 33 then pc_member a1 a2 h else
  if o = 34 then pc_council a1 h else
  if o = 35 then pc_game a1 a2 h else
  if o = 36 then pc_undo h else
  if o = 37 then pc_image a1 h else
  if o = 38 then pc_look a1 h else
  some h
theorem l_turn {G : GG} {b Ln : Nat} {xs : Nat → Int32} {i : Int32} {h h2 : PH} (n0 : vp_in i Ln) (n1 : vp_in (i + 1) Ln) (n2 : vp_in (i + 2) Ln) (n3 : vp_in (i + 3) Ln) (n4 : vp_in (i + 4) Ln) (n5 : vp_in (i + 5) Ln) (hm : stp (xs (ix i) &&& 63) (xs (ix (i + 1))) (xs (ix (i + 2))) (xs (ix (i + 3))) (xs (ix (i + 4))) (xs (ix (i + 5))) h = some h2) (k : Lx G b Ln xs 18 (i + 6) [] h2) : Lx G b Ln xs 27 i [] h := by
  have k2 : Lx G b Ln xs 1387 i [] h2 := l_inc dLaw_1387 rfl (l_goto dLaw_1390 k)
  refine l_a0 dLaw_27 ?_
  refine l_i3 dLaw_28 ?_
  refine l_sld dLaw_29 n0 ?_
  refine l_bipush (x := 63) dLaw_30 rfl ?_
  refine l_iand dLaw_32 ?_
  refine l_sw dLaw_33 ?_
  unfold stp at hm
  generalize xs (ix i) &&& 63 = o at hm ⊢
  by_cases c0 : o = 0
  · rw [if_pos c0] at hm
    subst c0
    exact lc_state n1 hm k2
  rw [if_neg c0] at hm
  by_cases c1 : o = 1
  · rw [if_pos c1] at hm
    subst c1
    exact lc_house n1 n2 n3 hm k2
  rw [if_neg c1] at hm
  by_cases c2 : o = 2
  · rw [if_pos c2] at hm
    subst c2
    exact lc_set n1 n2 n3 hm k2
  rw [if_neg c2] at hm
  by_cases c3 : o = 3
  · rw [if_pos c3] at hm
    subst c3
    exact lc_act n1 n2 n3 hm k2
  rw [if_neg c3] at hm
  by_cases c4 : o = 4
  · rw [if_pos c4] at hm
    subst c4
    exact lc_quarters n1 hm k2
  rw [if_neg c4] at hm
  by_cases c5 : o = 5
  · rw [if_pos c5] at hm
    subst c5
    exact lc_feed n1 n2 n3 n4 n5 hm k2
  rw [if_neg c5] at hm
  by_cases c6 : o = 6
  · rw [if_pos c6] at hm
    subst c6
    exact lc_end n1 hm k2
  rw [if_neg c6] at hm
  by_cases c7 : o = 7
  · rw [if_pos c7] at hm
    subst c7
    exact lc_text n1 hm k2
  rw [if_neg c7] at hm
  by_cases c8 : o = 8
  · rw [if_pos c8] at hm
    subst c8
    exact lc_fault n1 hm k2
  rw [if_neg c8] at hm
  by_cases c9 : o = 9
  · rw [if_pos c9] at hm
    subst c9
    exact lc_of n1 n2 hm k2
  rw [if_neg c9] at hm
  by_cases c10 : o = 10
  · rw [if_pos c10] at hm
    subst c10
    exact lc_book n1 n2 hm k2
  rw [if_neg c10] at hm
  by_cases c11 : o = 11
  · rw [if_pos c11] at hm
    subst c11
    exact lc_goes n1 n2 hm k2
  rw [if_neg c11] at hm
  by_cases c12 : o = 12
  · rw [if_pos c12] at hm
    subst c12
    exact lc_stands n1 hm k2
  rw [if_neg c12] at hm
  by_cases c13 : o = 13
  · rw [if_pos c13] at hm
    subst c13
    exact lc_hears n1 n2 hm k2
  rw [if_neg c13] at hm
  by_cases c14 : o = 14
  · rw [if_pos c14] at hm
    subst c14
    exact lc_heard n1 n2 hm k2
  rw [if_neg c14] at hm
  by_cases c15 : o = 15
  · rw [if_pos c15] at hm
    subst c15
    exact lc_ants n1 n2 hm k2
  rw [if_neg c15] at hm
  by_cases c16 : o = 16
  · rw [if_pos c16] at hm
    subst c16
    exact lc_piece n1 hm k2
  rw [if_neg c16] at hm
  by_cases c17 : o = 17
  · rw [if_pos c17] at hm
    subst c17
    exact lc_plate n1 n2 hm k2
  rw [if_neg c17] at hm
  by_cases c18 : o = 18
  · rw [if_pos c18] at hm
    subst c18
    exact lc_dough n1 hm k2
  rw [if_neg c18] at hm
  by_cases c19 : o = 19
  · rw [if_pos c19] at hm
    subst c19
    exact lc_pans n1 n2 hm k2
  rw [if_neg c19] at hm
  by_cases c20 : o = 20
  · rw [if_pos c20] at hm
    subst c20
    exact lc_mortgage n1 n2 n3 n4 hm k2
  rw [if_neg c20] at hm
  by_cases c21 : o = 21
  · rw [if_pos c21] at hm
    subst c21
    exact lc_mark n1 hm k2
  rw [if_neg c21] at hm
  by_cases c22 : o = 22
  · rw [if_pos c22] at hm
    subst c22
    exact lc_measures n1 hm k2
  rw [if_neg c22] at hm
  by_cases c23 : o = 23
  · rw [if_pos c23] at hm
    subst c23
    exact lc_bite n1 n2 hm k2
  rw [if_neg c23] at hm
  by_cases c24 : o = 24
  · rw [if_pos c24] at hm
    subst c24
    exact lc_whose n1 n2 hm k2
  rw [if_neg c24] at hm
  by_cases c25 : o = 25
  · rw [if_pos c25] at hm
    subst c25
    exact lc_crumb n1 hm k2
  rw [if_neg c25] at hm
  by_cases c26 : o = 26
  · rw [if_pos c26] at hm
    subst c26
    exact lc_crumbs n1 hm k2
  rw [if_neg c26] at hm
  by_cases c27 : o = 27
  · rw [if_pos c27] at hm
    subst c27
    exact lc_loaf n1 n2 hm k2
  rw [if_neg c27] at hm
  by_cases c28 : o = 28
  · rw [if_pos c28] at hm
    subst c28
    exact lc_ovens n1 hm k2
  rw [if_neg c28] at hm
  by_cases c29 : o = 29
  · rw [if_pos c29] at hm
    subst c29
    exact lc_alone n1 hm k2
  rw [if_neg c29] at hm
  by_cases c30 : o = 30
  · rw [if_pos c30] at hm
    subst c30
    exact lc_heir n1 n2 hm k2
  rw [if_neg c30] at hm
  by_cases c31 : o = 31
  · rw [if_pos c31] at hm
    subst c31
    exact lc_line n1 n2 hm k2
  rw [if_neg c31] at hm
  by_cases c32 : o = 32
  · rw [if_pos c32] at hm
    subst c32
    exact lc_window n1 hm k2
  rw [if_neg c32] at hm
  by_cases c33 : o = 33
  · rw [if_pos c33] at hm
    subst c33
    exact lc_member n1 n2 hm k2
  rw [if_neg c33] at hm
  by_cases c34 : o = 34
  · rw [if_pos c34] at hm
    subst c34
    exact lc_council n1 hm k2
  rw [if_neg c34] at hm
  by_cases c35 : o = 35
  · rw [if_pos c35] at hm
    subst c35
    exact lc_game n1 n2 hm k2
  rw [if_neg c35] at hm
  by_cases c36 : o = 36
  · rw [if_pos c36] at hm
    subst c36
    exact lc_undo hm k2
  rw [if_neg c36] at hm
  by_cases c37 : o = 37
  · rw [if_pos c37] at hm
    subst c37
    exact lc_image n1 hm k2
  rw [if_neg c37] at hm
  by_cases c38 : o = 38
  · rw [if_pos c38] at hm
    subst c38
    exact lc_look n1 hm k2
  rw [if_neg c38] at hm
  cases hm
  simp only [sel, c0, c1, c2, c3, c4, c5, c6, c7, c8, c9, c10, c11, c12, c13, c14, c15, c16, c17, c18, c19, c20, c21, c22, c23, c24, c25, c26, c27, c28, c29, c30, c31, c32, c33, c34, c35, c36, c37, c38, if_false]
  exact k2
theorem ni_pl (a c : Nat) : nI a + nI c = nI (a + c) := by simp [nI, Int32.ofNat_add]
theorem l_loop {G : GG} {b Ln : Nat} {xs : Nat → Int32} (hL : Ln ≤ 3072) (I : Nat → PH → Prop)
    (hI : ∀ (k : Nat) (h : PH), I k h → 6 * k + 6 ≤ Ln → ∃ h2, stp (xs (6 * k) &&& 63) (xs (6 * k + 1)) (xs (6 * k + 2)) (xs (6 * k + 3)) (xs (6 * k + 4)) (xs (6 * k + 5)) h = some h2 ∧ I (k + 1) h2) :
    ∀ (n k : Nat) (h : PH), Ln ≤ 6 * k + 6 * n → 6 * k ≤ Ln → I k h → Lx G b Ln xs 18 (nI (6 * k)) [] h := by
  have hin : ∀ j : Nat, j < Ln → vp_in (nI j) Ln := fun j hj => vp_in_nI hj (by omega)
  have hix : ∀ j : Nat, j < Ln → ix (nI j) = j := fun j hj => nI_clamp (by omega)
  have fin : ∀ (k : Nat) (h : PH), 6 * k ≤ Ln → Ln < 6 * k + 6 → Lx G b Ln xs 18 (nI (6 * k)) [] h := by
    intro k h h1 h2
    refine l_i3 dLaw_18 ?_
    refine l_a0 dLaw_19 ?_
    refine l_slen dLaw_20 ?_
    refine l_bipush (x := 6) dLaw_21 rfl ?_
    refine l_isub dLaw_23 ?_
    refine l_cmpgt dLaw_24 (fun _ => ?_) (fun hc => ?_)
    · exact l_iconst (x := 1) dLaw_1393 rfl (l_ret dLaw_1394)
    · exfalso
      apply hc
      rw [Int32.lt_iff_toInt_lt]
      have e1 : (nI (6 * k)).toInt = (6 * k : Int) := by simp only [nI]; rw [Int32.toInt_ofNat_of_lt (by omega)]; omega
      have e2 : (Int32.ofNat Ln - 6).toInt = (Ln : Int) - 6 := by
        rw [Int32.toInt_sub, Int32.toInt_ofNat_of_lt (by omega)]
        simp only [show (6 : Int32).toInt = 6 from rfl]
        rw [Int.bmod_eq_of_le_mul_two (by omega) (by omega)]
      rw [e1, e2]
      omega
  intro n
  induction n with
  | zero => intro k h h1 h2 _; exact fin k h h2 (by omega)
  | succ n ih =>
    intro k h h1 h2 hk
    by_cases hlt : 6 * k + 6 ≤ Ln
    · obtain ⟨h2', hm, hk2⟩ := hI k h hk hlt
      refine l_i3 dLaw_18 ?_
      refine l_a0 dLaw_19 ?_
      refine l_slen dLaw_20 ?_
      refine l_bipush (x := 6) dLaw_21 rfl ?_
      refine l_isub dLaw_23 ?_
      refine l_cmpgt dLaw_24 (fun hc => ?_) (fun _ => ?_)
      · exfalso
        rw [Int32.lt_iff_toInt_lt] at hc
        have e1 : (nI (6 * k)).toInt = (6 * k : Int) := by simp only [nI]; rw [Int32.toInt_ofNat_of_lt (by omega)]; omega
        have e2 : (Int32.ofNat Ln - 6).toInt = (Ln : Int) - 6 := by
          rw [Int32.toInt_sub, Int32.toInt_ofNat_of_lt (by omega)]
          simp only [show (6 : Int32).toInt = 6 from rfl]
          rw [Int.bmod_eq_of_le_mul_two (by omega) (by omega)]
        rw [e1, e2] at hc
        omega
      · have a1 : nI (6 * k) + 1 = nI (6 * k + 1) := ni_pl _ 1
        have a2 : nI (6 * k) + 2 = nI (6 * k + 2) := ni_pl _ 2
        have a3 : nI (6 * k) + 3 = nI (6 * k + 3) := ni_pl _ 3
        have a4 : nI (6 * k) + 4 = nI (6 * k + 4) := ni_pl _ 4
        have a5 : nI (6 * k) + 5 = nI (6 * k + 5) := ni_pl _ 5
        have a6 : nI (6 * k) + 6 = nI (6 * (k + 1)) := ni_pl _ 6
        refine l_turn (h2 := h2') (hin _ (by omega)) (by rw [a1]; exact hin _ (by omega)) (by rw [a2]; exact hin _ (by omega)) (by rw [a3]; exact hin _ (by omega)) (by rw [a4]; exact hin _ (by omega)) (by rw [a5]; exact hin _ (by omega)) ?_ ?_
        · rw [a1, a2, a3, a4, a5, hix _ (by omega), hix _ (by omega), hix _ (by omega), hix _ (by omega), hix _ (by omega), hix _ (by omega)]
          exact hm
        · rw [a6]
          exact ih (k + 1) h2' (by omega) (by omega) hk2
    · exact fin k h h2 (by omega)
