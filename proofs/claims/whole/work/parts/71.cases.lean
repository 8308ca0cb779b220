/-! the cases of the law -/
section Cases
variable {b L : Nat} {xs : Nat → Int32} {Γc Γm : GT} {k n : Nat} {σ τ : St} {i : Nat}
theorem lc_0 (hL : L ≤ 3072) (hi : i + 6 ≤ L) (hk : k ≤ 600000 ∧ n ≤ 7302250) (hr : Rel σ τ) (hq : ∀ σ' τ', Rel σ' τ' → EL b L xs Γc Γm k n 1337 [(3, .int (nI i)), (2, .ref (Γm.2.1 0)), (1, .ref (Γc.2.1 0)), (0, .ref b)] [] σ' τ') : EL b L xs Γc Γm k n 192 [(3, .int (nI i)), (2, .ref (Γm.2.1 0)), (1, .ref (Γc.2.1 0)), (0, .ref b)] [] σ τ := by
  obtain ⟨r, σ', τ', e1, e2, hr'⟩ := o_questions (xs (nI i + nI 1).toNatClampNeg) σ τ hr
  refine EL_aload_n 2 dL_law_192 rfl rfl ?_
  refine EL_aload_n 3 dL_law_193 rfl rfl ?_
  refine EL_iload_n 0 dL_law_194 rfl rfl ?_
  refine EL_iconst (v := nI 1) dL_law_195 (by decide) ?_
  refine EL_iadd dL_law_196 ?_
  refine EL_iald dL_law_197 (sc_in hi (by decide) hL) ?_
  refine EL_callC [.int (xs (nI i + nI 1).toNatClampNeg)] [] [.int r] dL_law_198 rfl kw_353 kw_354 kw_355 kw_1 ko_X11_questions rfl hy_X11_questions rfl ⟨Nat.le_of_ble_eq_true rfl, Nat.le_of_ble_eq_true rfl⟩ (Nat.le_of_ble_eq_true rfl) hk (fun l => c_X11_questions Γc (xs (nI i + nI 1).toNatClampNeg) σ (r, σ') e1 l) rfl ?_
  refine EL_aload_n 1 dL_law_201 rfl rfl ?_
  refine EL_aload_n 3 dL_law_202 rfl rfl ?_
  refine EL_iload_n 0 dL_law_203 rfl rfl ?_
  refine EL_iconst (v := nI 1) dL_law_204 (by decide) ?_
  refine EL_iadd dL_law_205 ?_
  refine EL_iald dL_law_206 (sc_in hi (by decide) hL) ?_
  refine EL_callM [.int (xs (nI i + nI 1).toNatClampNeg)] [.int r] [.int r, .int r] dL_law_207 rfl kw_966 kw_967 kw_968 kw_13 ko_X12_questions rfl hy_X12_questions rfl ⟨Nat.le_of_ble_eq_true rfl, Nat.le_of_ble_eq_true rfl⟩ (Nat.le_of_ble_eq_true rfl) hk (fun l => c_X12_questions Γm (xs (nI i + nI 1).toNatClampNeg) τ (r, τ') e2 l) rfl ?_
  refine EL_eq 1337 dL_law_210 (by decide) ?_
  exact hq σ' τ' hr'
theorem lc_1 (hL : L ≤ 3072) (hi : i + 6 ≤ L) (hk : k ≤ 600000 ∧ n ≤ 7302250) (hr : Rel σ τ) (hq : ∀ σ' τ', Rel σ' τ' → EL b L xs Γc Γm k n 1337 [(3, .int (nI i)), (2, .ref (Γm.2.1 0)), (1, .ref (Γc.2.1 0)), (0, .ref b)] [] σ' τ') : EL b L xs Γc Γm k n 215 [(3, .int (nI i)), (2, .ref (Γm.2.1 0)), (1, .ref (Γc.2.1 0)), (0, .ref b)] [] σ τ := by
  obtain ⟨r, σ', τ', e1, e2, hr'⟩ := o_type (xs (nI i + nI 1).toNatClampNeg) σ τ hr
  refine EL_aload_n 2 dL_law_215 rfl rfl ?_
  refine EL_aload_n 3 dL_law_216 rfl rfl ?_
  refine EL_iload_n 0 dL_law_217 rfl rfl ?_
  refine EL_iconst (v := nI 1) dL_law_218 (by decide) ?_
  refine EL_iadd dL_law_219 ?_
  refine EL_iald dL_law_220 (sc_in hi (by decide) hL) ?_
  refine EL_callC [.int (xs (nI i + nI 1).toNatClampNeg)] [] [.int r] dL_law_221 rfl kw_376 kw_377 kw_378 kw_1 ko_X11_type rfl hy_X11_type rfl ⟨Nat.le_of_ble_eq_true rfl, Nat.le_of_ble_eq_true rfl⟩ (Nat.le_of_ble_eq_true rfl) hk (fun l => c_X11_type Γc (xs (nI i + nI 1).toNatClampNeg) σ (r, σ') e1 l) rfl ?_
  refine EL_aload_n 1 dL_law_224 rfl rfl ?_
  refine EL_aload_n 3 dL_law_225 rfl rfl ?_
  refine EL_iload_n 0 dL_law_226 rfl rfl ?_
  refine EL_iconst (v := nI 1) dL_law_227 (by decide) ?_
  refine EL_iadd dL_law_228 ?_
  refine EL_iald dL_law_229 (sc_in hi (by decide) hL) ?_
  refine EL_callM [.int (xs (nI i + nI 1).toNatClampNeg)] [.int r] [.int r, .int r] dL_law_230 rfl kw_973 kw_974 kw_975 kw_13 ko_X12_type rfl hy_X12_type rfl ⟨Nat.le_of_ble_eq_true rfl, Nat.le_of_ble_eq_true rfl⟩ (Nat.le_of_ble_eq_true rfl) hk (fun l => c_X12_type Γm (xs (nI i + nI 1).toNatClampNeg) τ (r, τ') e2 l) rfl ?_
  refine EL_eq 1337 dL_law_233 (by decide) ?_
  exact hq σ' τ' hr'
theorem lc_2 (hL : L ≤ 3072) (hi : i + 6 ≤ L) (hk : k ≤ 600000 ∧ n ≤ 7302250) (hr : Rel σ τ) (hq : ∀ σ' τ', Rel σ' τ' → EL b L xs Γc Γm k n 1337 [(3, .int (nI i)), (2, .ref (Γm.2.1 0)), (1, .ref (Γc.2.1 0)), (0, .ref b)] [] σ' τ') : EL b L xs Γc Γm k n 238 [(3, .int (nI i)), (2, .ref (Γm.2.1 0)), (1, .ref (Γc.2.1 0)), (0, .ref b)] [] σ τ := by
  obtain ⟨r, σ', τ', e1, e2, hr'⟩ := o_wipe σ τ hr
  refine EL_aload_n 2 dL_law_238 rfl rfl ?_
  refine EL_callC [] [] [.int r] dL_law_239 rfl kw_384 kw_385 kw_386 kw_1 ko_X11_wipe rfl hy_X11_wipe rfl ⟨Nat.le_of_ble_eq_true rfl, Nat.le_of_ble_eq_true rfl⟩ (Nat.le_of_ble_eq_true rfl) hk (fun l => c_X11_wipe Γc σ (r, σ') e1 l) rfl ?_
  refine EL_aload_n 1 dL_law_242 rfl rfl ?_
  refine EL_callM [] [.int r] [.int r, .int r] dL_law_243 rfl kw_977 kw_978 kw_979 kw_13 ko_X12_wipe rfl hy_X12_wipe rfl ⟨Nat.le_of_ble_eq_true rfl, Nat.le_of_ble_eq_true rfl⟩ (Nat.le_of_ble_eq_true rfl) hk (fun l => c_X12_wipe Γm τ (r, τ') e2 l) rfl ?_
  refine EL_eq 1337 dL_law_246 (by decide) ?_
  exact hq σ' τ' hr'
theorem lc_3 (hL : L ≤ 3072) (hi : i + 6 ≤ L) (hk : k ≤ 600000 ∧ n ≤ 7302250) (hr : Rel σ τ) (hq : ∀ σ' τ', Rel σ' τ' → EL b L xs Γc Γm k n 1337 [(3, .int (nI i)), (2, .ref (Γm.2.1 0)), (1, .ref (Γc.2.1 0)), (0, .ref b)] [] σ' τ') : EL b L xs Γc Γm k n 251 [(3, .int (nI i)), (2, .ref (Γm.2.1 0)), (1, .ref (Γc.2.1 0)), (0, .ref b)] [] σ τ := by
  obtain ⟨r, τ', e1, e2, hr'⟩ := o_fault σ τ hr
  refine EL_aload_n 2 dL_law_251 rfl rfl ?_
  refine EL_callC [] [] [.int r] dL_law_252 rfl kw_392 kw_393 kw_394 kw_1 ko_X11_fault rfl hy_X11_fault rfl ⟨Nat.le_of_ble_eq_true rfl, Nat.le_of_ble_eq_true rfl⟩ (Nat.le_of_ble_eq_true rfl) hk (fun l => c_X11_fault Γc σ r e1 l) rfl ?_
  refine EL_aload_n 1 dL_law_255 rfl rfl ?_
  refine EL_callM [] [.int r] [.int r, .int r] dL_law_256 rfl kw_981 kw_982 kw_983 kw_13 ko_X12_fault rfl hy_X12_fault rfl ⟨Nat.le_of_ble_eq_true rfl, Nat.le_of_ble_eq_true rfl⟩ (Nat.le_of_ble_eq_true rfl) hk (fun l => c_X12_fault Γm τ (r, τ') e2 l) rfl ?_
  refine EL_eq 1337 dL_law_259 (by decide) ?_
  exact hq σ τ' hr'
theorem lc_4 (hL : L ≤ 3072) (hi : i + 6 ≤ L) (hk : k ≤ 600000 ∧ n ≤ 7302250) (hr : Rel σ τ) (hq : ∀ σ' τ', Rel σ' τ' → EL b L xs Γc Γm k n 1337 [(3, .int (nI i)), (2, .ref (Γm.2.1 0)), (1, .ref (Γc.2.1 0)), (0, .ref b)] [] σ' τ') : EL b L xs Γc Γm k n 264 [(3, .int (nI i)), (2, .ref (Γm.2.1 0)), (1, .ref (Γc.2.1 0)), (0, .ref b)] [] σ τ := by
  obtain ⟨r, τ', e1, e2, hr'⟩ := o_key (xs (nI i + nI 1).toNatClampNeg) σ τ hr
  refine EL_aload_n 2 dL_law_264 rfl rfl ?_
  refine EL_aload_n 3 dL_law_265 rfl rfl ?_
  refine EL_iload_n 0 dL_law_266 rfl rfl ?_
  refine EL_iconst (v := nI 1) dL_law_267 (by decide) ?_
  refine EL_iadd dL_law_268 ?_
  refine EL_iald dL_law_269 (sc_in hi (by decide) hL) ?_
  refine EL_callC [.int (xs (nI i + nI 1).toNatClampNeg)] [] [.int r] dL_law_270 rfl kw_396 kw_397 kw_398 kw_1 ko_X11_key rfl hy_X11_key rfl ⟨Nat.le_of_ble_eq_true rfl, Nat.le_of_ble_eq_true rfl⟩ (Nat.le_of_ble_eq_true rfl) hk (fun l => c_X11_key Γc (xs (nI i + nI 1).toNatClampNeg) σ r e1 l) rfl ?_
  refine EL_aload_n 1 dL_law_273 rfl rfl ?_
  refine EL_aload_n 3 dL_law_274 rfl rfl ?_
  refine EL_iload_n 0 dL_law_275 rfl rfl ?_
  refine EL_iconst (v := nI 1) dL_law_276 (by decide) ?_
  refine EL_iadd dL_law_277 ?_
  refine EL_iald dL_law_278 (sc_in hi (by decide) hL) ?_
  refine EL_callM [.int (xs (nI i + nI 1).toNatClampNeg)] [.int r] [.int r, .int r] dL_law_279 rfl kw_989 kw_990 kw_991 kw_13 ko_X12_key rfl hy_X12_key rfl ⟨Nat.le_of_ble_eq_true rfl, Nat.le_of_ble_eq_true rfl⟩ (Nat.le_of_ble_eq_true rfl) hk (fun l => c_X12_key Γm (xs (nI i + nI 1).toNatClampNeg) τ (r, τ') e2 l) rfl ?_
  refine EL_eq 1337 dL_law_282 (by decide) ?_
  exact hq σ τ' hr'
theorem lc_5 (hL : L ≤ 3072) (hi : i + 6 ≤ L) (hk : k ≤ 600000 ∧ n ≤ 7302250) (hr : Rel σ τ) (hq : ∀ σ' τ', Rel σ' τ' → EL b L xs Γc Γm k n 1337 [(3, .int (nI i)), (2, .ref (Γm.2.1 0)), (1, .ref (Γc.2.1 0)), (0, .ref b)] [] σ' τ') : EL b L xs Γc Γm k n 287 [(3, .int (nI i)), (2, .ref (Γm.2.1 0)), (1, .ref (Γc.2.1 0)), (0, .ref b)] [] σ τ := by
  obtain ⟨r, σ', τ', e1, e2, hr'⟩ := o_set (xs (nI i + nI 1).toNatClampNeg) (xs (nI i + nI 2).toNatClampNeg) σ τ hr
  refine EL_aload_n 2 dL_law_287 rfl rfl ?_
  refine EL_aload_n 3 dL_law_288 rfl rfl ?_
  refine EL_iload_n 0 dL_law_289 rfl rfl ?_
  refine EL_iconst (v := nI 1) dL_law_290 (by decide) ?_
  refine EL_iadd dL_law_291 ?_
  refine EL_iald dL_law_292 (sc_in hi (by decide) hL) ?_
  refine EL_aload_n 3 dL_law_293 rfl rfl ?_
  refine EL_iload_n 0 dL_law_294 rfl rfl ?_
  refine EL_iconst (v := nI 2) dL_law_295 (by decide) ?_
  refine EL_iadd dL_law_296 ?_
  refine EL_iald dL_law_297 (sc_in hi (by decide) hL) ?_
  refine EL_callC [.int (xs (nI i + nI 1).toNatClampNeg), .int (xs (nI i + nI 2).toNatClampNeg)] [] [.int r] dL_law_298 rfl kw_404 kw_405 kw_406 kw_1 ko_X11_set rfl hy_X11_set rfl ⟨Nat.le_of_ble_eq_true rfl, Nat.le_of_ble_eq_true rfl⟩ (Nat.le_of_ble_eq_true rfl) hk (fun l => c_X11_set Γc (xs (nI i + nI 1).toNatClampNeg) (xs (nI i + nI 2).toNatClampNeg) σ (r, σ') e1 l) rfl ?_
  refine EL_aload_n 1 dL_law_301 rfl rfl ?_
  refine EL_aload_n 3 dL_law_302 rfl rfl ?_
  refine EL_iload_n 0 dL_law_303 rfl rfl ?_
  refine EL_iconst (v := nI 1) dL_law_304 (by decide) ?_
  refine EL_iadd dL_law_305 ?_
  refine EL_iald dL_law_306 (sc_in hi (by decide) hL) ?_
  refine EL_aload_n 3 dL_law_307 rfl rfl ?_
  refine EL_iload_n 0 dL_law_308 rfl rfl ?_
  refine EL_iconst (v := nI 2) dL_law_309 (by decide) ?_
  refine EL_iadd dL_law_310 ?_
  refine EL_iald dL_law_311 (sc_in hi (by decide) hL) ?_
  refine EL_callM [.int (xs (nI i + nI 1).toNatClampNeg), .int (xs (nI i + nI 2).toNatClampNeg)] [.int r] [.int r, .int r] dL_law_312 rfl kw_1005 kw_1006 kw_1007 kw_13 ko_X12_set rfl hy_X12_set rfl ⟨Nat.le_of_ble_eq_true rfl, Nat.le_of_ble_eq_true rfl⟩ (Nat.le_of_ble_eq_true rfl) hk (fun l => c_X12_set Γm (xs (nI i + nI 1).toNatClampNeg) (xs (nI i + nI 2).toNatClampNeg) τ (r, τ') e2 l) rfl ?_
  refine EL_eq 1337 dL_law_315 (by decide) ?_
  exact hq σ' τ' hr'
theorem lc_6 (hL : L ≤ 3072) (hi : i + 6 ≤ L) (hk : k ≤ 600000 ∧ n ≤ 7302250) (hr : Rel σ τ) (hq : ∀ σ' τ', Rel σ' τ' → EL b L xs Γc Γm k n 1337 [(3, .int (nI i)), (2, .ref (Γm.2.1 0)), (1, .ref (Γc.2.1 0)), (0, .ref b)] [] σ' τ') : EL b L xs Γc Γm k n 320 [(3, .int (nI i)), (2, .ref (Γm.2.1 0)), (1, .ref (Γc.2.1 0)), (0, .ref b)] [] σ τ := by
  obtain ⟨r, σ', τ', e1, e2, hr'⟩ := o_pupil (xs (nI i + nI 1).toNatClampNeg) (xs (nI i + nI 2).toNatClampNeg) σ τ hr
  refine EL_aload_n 2 dL_law_320 rfl rfl ?_
  refine EL_aload_n 3 dL_law_321 rfl rfl ?_
  refine EL_iload_n 0 dL_law_322 rfl rfl ?_
  refine EL_iconst (v := nI 1) dL_law_323 (by decide) ?_
  refine EL_iadd dL_law_324 ?_
  refine EL_iald dL_law_325 (sc_in hi (by decide) hL) ?_
  refine EL_aload_n 3 dL_law_326 rfl rfl ?_
  refine EL_iload_n 0 dL_law_327 rfl rfl ?_
  refine EL_iconst (v := nI 2) dL_law_328 (by decide) ?_
  refine EL_iadd dL_law_329 ?_
  refine EL_iald dL_law_330 (sc_in hi (by decide) hL) ?_
  refine EL_callC [.int (xs (nI i + nI 1).toNatClampNeg), .int (xs (nI i + nI 2).toNatClampNeg)] [] [.int r] dL_law_331 rfl kw_419 kw_420 kw_421 kw_1 ko_X11_pupil rfl hy_X11_pupil rfl ⟨Nat.le_of_ble_eq_true rfl, Nat.le_of_ble_eq_true rfl⟩ (Nat.le_of_ble_eq_true rfl) hk (fun l => c_X11_pupil Γc (xs (nI i + nI 1).toNatClampNeg) (xs (nI i + nI 2).toNatClampNeg) σ (r, σ') e1 l) rfl ?_
  refine EL_aload_n 1 dL_law_334 rfl rfl ?_
  refine EL_aload_n 3 dL_law_335 rfl rfl ?_
  refine EL_iload_n 0 dL_law_336 rfl rfl ?_
  refine EL_iconst (v := nI 1) dL_law_337 (by decide) ?_
  refine EL_iadd dL_law_338 ?_
  refine EL_iald dL_law_339 (sc_in hi (by decide) hL) ?_
  refine EL_aload_n 3 dL_law_340 rfl rfl ?_
  refine EL_iload_n 0 dL_law_341 rfl rfl ?_
  refine EL_iconst (v := nI 2) dL_law_342 (by decide) ?_
  refine EL_iadd dL_law_343 ?_
  refine EL_iald dL_law_344 (sc_in hi (by decide) hL) ?_
  refine EL_callM [.int (xs (nI i + nI 1).toNatClampNeg), .int (xs (nI i + nI 2).toNatClampNeg)] [.int r] [.int r, .int r] dL_law_345 rfl kw_1009 kw_1010 kw_1011 kw_13 ko_X12_pupil rfl hy_X12_pupil rfl ⟨Nat.le_of_ble_eq_true rfl, Nat.le_of_ble_eq_true rfl⟩ (Nat.le_of_ble_eq_true rfl) hk (fun l => c_X12_pupil Γm (xs (nI i + nI 1).toNatClampNeg) (xs (nI i + nI 2).toNatClampNeg) τ (r, τ') e2 l) rfl ?_
  refine EL_eq 1337 dL_law_348 (by decide) ?_
  exact hq σ' τ' hr'
theorem lc_7 (hL : L ≤ 3072) (hi : i + 6 ≤ L) (hk : k ≤ 600000 ∧ n ≤ 7302250) (hr : Rel σ τ) (hq : ∀ σ' τ', Rel σ' τ' → EL b L xs Γc Γm k n 1337 [(3, .int (nI i)), (2, .ref (Γm.2.1 0)), (1, .ref (Γc.2.1 0)), (0, .ref b)] [] σ' τ') : EL b L xs Γc Γm k n 353 [(3, .int (nI i)), (2, .ref (Γm.2.1 0)), (1, .ref (Γc.2.1 0)), (0, .ref b)] [] σ τ := by
  obtain ⟨r, σ', τ', e1, e2, hr'⟩ := o_answer (xs (nI i + nI 1).toNatClampNeg) (xs (nI i + nI 2).toNatClampNeg) (xs (nI i + nI 3).toNatClampNeg) (xs (nI i + nI 4).toNatClampNeg) σ τ hr
  refine EL_aload_n 2 dL_law_353 rfl rfl ?_
  refine EL_aload_n 3 dL_law_354 rfl rfl ?_
  refine EL_iload_n 0 dL_law_355 rfl rfl ?_
  refine EL_iconst (v := nI 1) dL_law_356 (by decide) ?_
  refine EL_iadd dL_law_357 ?_
  refine EL_iald dL_law_358 (sc_in hi (by decide) hL) ?_
  refine EL_aload_n 3 dL_law_359 rfl rfl ?_
  refine EL_iload_n 0 dL_law_360 rfl rfl ?_
  refine EL_iconst (v := nI 2) dL_law_361 (by decide) ?_
  refine EL_iadd dL_law_362 ?_
  refine EL_iald dL_law_363 (sc_in hi (by decide) hL) ?_
  refine EL_aload_n 3 dL_law_364 rfl rfl ?_
  refine EL_iload_n 0 dL_law_365 rfl rfl ?_
  refine EL_iconst (v := nI 3) dL_law_366 (by decide) ?_
  refine EL_iadd dL_law_367 ?_
  refine EL_iald dL_law_368 (sc_in hi (by decide) hL) ?_
  refine EL_aload_n 3 dL_law_369 rfl rfl ?_
  refine EL_iload_n 0 dL_law_370 rfl rfl ?_
  refine EL_iconst (v := nI 4) dL_law_371 (by decide) ?_
  refine EL_iadd dL_law_372 ?_
  refine EL_iald dL_law_373 (sc_in hi (by decide) hL) ?_
  refine EL_callC [.int (xs (nI i + nI 1).toNatClampNeg), .int (xs (nI i + nI 2).toNatClampNeg), .int (xs (nI i + nI 3).toNatClampNeg), .int (xs (nI i + nI 4).toNatClampNeg)] [] [.int r] dL_law_374 rfl kw_431 kw_432 kw_433 kw_1 ko_X11_answer rfl hy_X11_answer rfl ⟨Nat.le_of_ble_eq_true rfl, Nat.le_of_ble_eq_true rfl⟩ (Nat.le_of_ble_eq_true rfl) hk (fun l => c_X11_answer Γc (xs (nI i + nI 1).toNatClampNeg) (xs (nI i + nI 2).toNatClampNeg) (xs (nI i + nI 3).toNatClampNeg) (xs (nI i + nI 4).toNatClampNeg) σ (r, σ') e1 l) rfl ?_
  refine EL_aload_n 1 dL_law_377 rfl rfl ?_
  refine EL_aload_n 3 dL_law_378 rfl rfl ?_
  refine EL_iload_n 0 dL_law_379 rfl rfl ?_
  refine EL_iconst (v := nI 1) dL_law_380 (by decide) ?_
  refine EL_iadd dL_law_381 ?_
  refine EL_iald dL_law_382 (sc_in hi (by decide) hL) ?_
  refine EL_aload_n 3 dL_law_383 rfl rfl ?_
  refine EL_iload_n 0 dL_law_384 rfl rfl ?_
  refine EL_iconst (v := nI 2) dL_law_385 (by decide) ?_
  refine EL_iadd dL_law_386 ?_
  refine EL_iald dL_law_387 (sc_in hi (by decide) hL) ?_
  refine EL_aload_n 3 dL_law_388 rfl rfl ?_
  refine EL_iload_n 0 dL_law_389 rfl rfl ?_
  refine EL_iconst (v := nI 3) dL_law_390 (by decide) ?_
  refine EL_iadd dL_law_391 ?_
  refine EL_iald dL_law_392 (sc_in hi (by decide) hL) ?_
  refine EL_aload_n 3 dL_law_393 rfl rfl ?_
  refine EL_iload_n 0 dL_law_394 rfl rfl ?_
  refine EL_iconst (v := nI 4) dL_law_395 (by decide) ?_
  refine EL_iadd dL_law_396 ?_
  refine EL_iald dL_law_397 (sc_in hi (by decide) hL) ?_
  refine EL_callM [.int (xs (nI i + nI 1).toNatClampNeg), .int (xs (nI i + nI 2).toNatClampNeg), .int (xs (nI i + nI 3).toNatClampNeg), .int (xs (nI i + nI 4).toNatClampNeg)] [.int r] [.int r, .int r] dL_law_398 rfl kw_1013 kw_1014 kw_1015 kw_13 ko_X12_answer rfl hy_X12_answer rfl ⟨Nat.le_of_ble_eq_true rfl, Nat.le_of_ble_eq_true rfl⟩ (Nat.le_of_ble_eq_true rfl) hk (fun l => c_X12_answer Γm (xs (nI i + nI 1).toNatClampNeg) (xs (nI i + nI 2).toNatClampNeg) (xs (nI i + nI 3).toNatClampNeg) (xs (nI i + nI 4).toNatClampNeg) τ (r, τ') e2 l) rfl ?_
  refine EL_eq 1337 dL_law_401 (by decide) ?_
  exact hq σ' τ' hr'
theorem lc_8 (hL : L ≤ 3072) (hi : i + 6 ≤ L) (hk : k ≤ 600000 ∧ n ≤ 7302250) (hr : Rel σ τ) (hq : ∀ σ' τ', Rel σ' τ' → EL b L xs Γc Γm k n 1337 [(3, .int (nI i)), (2, .ref (Γm.2.1 0)), (1, .ref (Γc.2.1 0)), (0, .ref b)] [] σ' τ') : EL b L xs Γc Γm k n 406 [(3, .int (nI i)), (2, .ref (Γm.2.1 0)), (1, .ref (Γc.2.1 0)), (0, .ref b)] [] σ τ := by
  obtain ⟨r, σ', τ', e1, e2, hr'⟩ := o_read (xs (nI i + nI 1).toNatClampNeg) (xs (nI i + nI 2).toNatClampNeg) (xs (nI i + nI 3).toNatClampNeg) σ τ hr
  refine EL_aload_n 2 dL_law_406 rfl rfl ?_
  refine EL_aload_n 3 dL_law_407 rfl rfl ?_
  refine EL_iload_n 0 dL_law_408 rfl rfl ?_
  refine EL_iconst (v := nI 1) dL_law_409 (by decide) ?_
  refine EL_iadd dL_law_410 ?_
  refine EL_iald dL_law_411 (sc_in hi (by decide) hL) ?_
  refine EL_aload_n 3 dL_law_412 rfl rfl ?_
  refine EL_iload_n 0 dL_law_413 rfl rfl ?_
  refine EL_iconst (v := nI 2) dL_law_414 (by decide) ?_
  refine EL_iadd dL_law_415 ?_
  refine EL_iald dL_law_416 (sc_in hi (by decide) hL) ?_
  refine EL_aload_n 3 dL_law_417 rfl rfl ?_
  refine EL_iload_n 0 dL_law_418 rfl rfl ?_
  refine EL_iconst (v := nI 3) dL_law_419 (by decide) ?_
  refine EL_iadd dL_law_420 ?_
  refine EL_iald dL_law_421 (sc_in hi (by decide) hL) ?_
  refine EL_callC [.int (xs (nI i + nI 1).toNatClampNeg), .int (xs (nI i + nI 2).toNatClampNeg), .int (xs (nI i + nI 3).toNatClampNeg)] [] [.int r] dL_law_422 rfl kw_451 kw_452 kw_453 kw_1 ko_X11_read rfl hy_X11_read rfl ⟨Nat.le_of_ble_eq_true rfl, Nat.le_of_ble_eq_true rfl⟩ (Nat.le_of_ble_eq_true rfl) hk (fun l => c_X11_read Γc (xs (nI i + nI 1).toNatClampNeg) (xs (nI i + nI 2).toNatClampNeg) (xs (nI i + nI 3).toNatClampNeg) σ (r, σ') e1 l) rfl ?_
  refine EL_aload_n 1 dL_law_425 rfl rfl ?_
  refine EL_aload_n 3 dL_law_426 rfl rfl ?_
  refine EL_iload_n 0 dL_law_427 rfl rfl ?_
  refine EL_iconst (v := nI 1) dL_law_428 (by decide) ?_
  refine EL_iadd dL_law_429 ?_
  refine EL_iald dL_law_430 (sc_in hi (by decide) hL) ?_
  refine EL_aload_n 3 dL_law_431 rfl rfl ?_
  refine EL_iload_n 0 dL_law_432 rfl rfl ?_
  refine EL_iconst (v := nI 2) dL_law_433 (by decide) ?_
  refine EL_iadd dL_law_434 ?_
  refine EL_iald dL_law_435 (sc_in hi (by decide) hL) ?_
  refine EL_aload_n 3 dL_law_436 rfl rfl ?_
  refine EL_iload_n 0 dL_law_437 rfl rfl ?_
  refine EL_iconst (v := nI 3) dL_law_438 (by decide) ?_
  refine EL_iadd dL_law_439 ?_
  refine EL_iald dL_law_440 (sc_in hi (by decide) hL) ?_
  refine EL_callM [.int (xs (nI i + nI 1).toNatClampNeg), .int (xs (nI i + nI 2).toNatClampNeg), .int (xs (nI i + nI 3).toNatClampNeg)] [.int r] [.int r, .int r] dL_law_441 rfl kw_1029 kw_1030 kw_1031 kw_13 ko_X12_read rfl hy_X12_read rfl ⟨Nat.le_of_ble_eq_true rfl, Nat.le_of_ble_eq_true rfl⟩ (Nat.le_of_ble_eq_true rfl) hk (fun l => c_X12_read Γm (xs (nI i + nI 1).toNatClampNeg) (xs (nI i + nI 2).toNatClampNeg) (xs (nI i + nI 3).toNatClampNeg) τ (r, τ') e2 l) rfl ?_
  refine EL_eq 1337 dL_law_444 (by decide) ?_
  exact hq σ' τ' hr'
theorem lc_9 (hL : L ≤ 3072) (hi : i + 6 ≤ L) (hk : k ≤ 600000 ∧ n ≤ 7302250) (hr : Rel σ τ) (hq : ∀ σ' τ', Rel σ' τ' → EL b L xs Γc Γm k n 1337 [(3, .int (nI i)), (2, .ref (Γm.2.1 0)), (1, .ref (Γc.2.1 0)), (0, .ref b)] [] σ' τ') : EL b L xs Γc Γm k n 449 [(3, .int (nI i)), (2, .ref (Γm.2.1 0)), (1, .ref (Γc.2.1 0)), (0, .ref b)] [] σ τ := by
  obtain ⟨r, τ', e1, e2, hr'⟩ := o_said (xs (nI i + nI 1).toNatClampNeg) (xs (nI i + nI 2).toNatClampNeg) σ τ hr
  refine EL_aload_n 2 dL_law_449 rfl rfl ?_
  refine EL_aload_n 3 dL_law_450 rfl rfl ?_
  refine EL_iload_n 0 dL_law_451 rfl rfl ?_
  refine EL_iconst (v := nI 1) dL_law_452 (by decide) ?_
  refine EL_iadd dL_law_453 ?_
  refine EL_iald dL_law_454 (sc_in hi (by decide) hL) ?_
  refine EL_aload_n 3 dL_law_455 rfl rfl ?_
  refine EL_iload_n 0 dL_law_456 rfl rfl ?_
  refine EL_iconst (v := nI 2) dL_law_457 (by decide) ?_
  refine EL_iadd dL_law_458 ?_
  refine EL_iald dL_law_459 (sc_in hi (by decide) hL) ?_
  refine EL_callC [.int (xs (nI i + nI 1).toNatClampNeg), .int (xs (nI i + nI 2).toNatClampNeg)] [] [.int r] dL_law_460 rfl kw_463 kw_464 kw_465 kw_1 ko_X11_said rfl hy_X11_said rfl ⟨Nat.le_of_ble_eq_true rfl, Nat.le_of_ble_eq_true rfl⟩ (Nat.le_of_ble_eq_true rfl) hk (fun l => c_X11_said Γc (xs (nI i + nI 1).toNatClampNeg) (xs (nI i + nI 2).toNatClampNeg) σ r e1 l) rfl ?_
  refine EL_aload_n 1 dL_law_463 rfl rfl ?_
  refine EL_aload_n 3 dL_law_464 rfl rfl ?_
  refine EL_iload_n 0 dL_law_465 rfl rfl ?_
  refine EL_iconst (v := nI 1) dL_law_466 (by decide) ?_
  refine EL_iadd dL_law_467 ?_
  refine EL_iald dL_law_468 (sc_in hi (by decide) hL) ?_
  refine EL_aload_n 3 dL_law_469 rfl rfl ?_
  refine EL_iload_n 0 dL_law_470 rfl rfl ?_
  refine EL_iconst (v := nI 2) dL_law_471 (by decide) ?_
  refine EL_iadd dL_law_472 ?_
  refine EL_iald dL_law_473 (sc_in hi (by decide) hL) ?_
  refine EL_callM [.int (xs (nI i + nI 1).toNatClampNeg), .int (xs (nI i + nI 2).toNatClampNeg)] [.int r] [.int r, .int r] dL_law_474 rfl kw_1040 kw_1041 kw_1042 kw_13 ko_X12_said rfl hy_X12_said rfl ⟨Nat.le_of_ble_eq_true rfl, Nat.le_of_ble_eq_true rfl⟩ (Nat.le_of_ble_eq_true rfl) hk (fun l => c_X12_said Γm (xs (nI i + nI 1).toNatClampNeg) (xs (nI i + nI 2).toNatClampNeg) τ (r, τ') e2 l) rfl ?_
  refine EL_eq 1337 dL_law_477 (by decide) ?_
  exact hq σ τ' hr'
theorem lc_10 (hL : L ≤ 3072) (hi : i + 6 ≤ L) (hk : k ≤ 600000 ∧ n ≤ 7302250) (hr : Rel σ τ) (hq : ∀ σ' τ', Rel σ' τ' → EL b L xs Γc Γm k n 1337 [(3, .int (nI i)), (2, .ref (Γm.2.1 0)), (1, .ref (Γc.2.1 0)), (0, .ref b)] [] σ' τ') : EL b L xs Γc Γm k n 482 [(3, .int (nI i)), (2, .ref (Γm.2.1 0)), (1, .ref (Γc.2.1 0)), (0, .ref b)] [] σ τ := by
  obtain ⟨r, e1, e2⟩ := o_beside (xs (nI i + nI 1).toNatClampNeg) (xs (nI i + nI 2).toNatClampNeg) σ τ hr
  refine EL_aload_n 2 dL_law_482 rfl rfl ?_
  refine EL_aload_n 3 dL_law_483 rfl rfl ?_
  refine EL_iload_n 0 dL_law_484 rfl rfl ?_
  refine EL_iconst (v := nI 1) dL_law_485 (by decide) ?_
  refine EL_iadd dL_law_486 ?_
  refine EL_iald dL_law_487 (sc_in hi (by decide) hL) ?_
  refine EL_aload_n 3 dL_law_488 rfl rfl ?_
  refine EL_iload_n 0 dL_law_489 rfl rfl ?_
  refine EL_iconst (v := nI 2) dL_law_490 (by decide) ?_
  refine EL_iadd dL_law_491 ?_
  refine EL_iald dL_law_492 (sc_in hi (by decide) hL) ?_
  refine EL_callC [.int (xs (nI i + nI 1).toNatClampNeg), .int (xs (nI i + nI 2).toNatClampNeg)] [] [.int r] dL_law_493 rfl kw_467 kw_468 kw_469 kw_1 ko_X11_beside rfl hy_X11_beside rfl ⟨Nat.le_of_ble_eq_true rfl, Nat.le_of_ble_eq_true rfl⟩ (Nat.le_of_ble_eq_true rfl) hk (fun l => c_X11_beside Γc (xs (nI i + nI 1).toNatClampNeg) (xs (nI i + nI 2).toNatClampNeg) σ r e1 l) rfl ?_
  refine EL_aload_n 1 dL_law_496 rfl rfl ?_
  refine EL_aload_n 3 dL_law_497 rfl rfl ?_
  refine EL_iload_n 0 dL_law_498 rfl rfl ?_
  refine EL_iconst (v := nI 1) dL_law_499 (by decide) ?_
  refine EL_iadd dL_law_500 ?_
  refine EL_iald dL_law_501 (sc_in hi (by decide) hL) ?_
  refine EL_aload_n 3 dL_law_502 rfl rfl ?_
  refine EL_iload_n 0 dL_law_503 rfl rfl ?_
  refine EL_iconst (v := nI 2) dL_law_504 (by decide) ?_
  refine EL_iadd dL_law_505 ?_
  refine EL_iald dL_law_506 (sc_in hi (by decide) hL) ?_
  refine EL_callM [.int (xs (nI i + nI 1).toNatClampNeg), .int (xs (nI i + nI 2).toNatClampNeg)] [.int r] [.int r, .int r] dL_law_507 rfl kw_1048 kw_1049 kw_1050 kw_13 ko_X12_beside rfl hy_X12_beside rfl ⟨Nat.le_of_ble_eq_true rfl, Nat.le_of_ble_eq_true rfl⟩ (Nat.le_of_ble_eq_true rfl) hk (fun l => c_X12_beside Γm (xs (nI i + nI 1).toNatClampNeg) (xs (nI i + nI 2).toNatClampNeg) τ r e2 l) rfl ?_
  refine EL_eq 1337 dL_law_510 (by decide) ?_
  exact hq σ τ hr
theorem lc_11 (hL : L ≤ 3072) (hi : i + 6 ≤ L) (hk : k ≤ 600000 ∧ n ≤ 7302250) (hr : Rel σ τ) (hq : ∀ σ' τ', Rel σ' τ' → EL b L xs Γc Γm k n 1337 [(3, .int (nI i)), (2, .ref (Γm.2.1 0)), (1, .ref (Γc.2.1 0)), (0, .ref b)] [] σ' τ') : EL b L xs Γc Γm k n 515 [(3, .int (nI i)), (2, .ref (Γm.2.1 0)), (1, .ref (Γc.2.1 0)), (0, .ref b)] [] σ τ := by
  obtain ⟨r, σ', τ', e1, e2, hr'⟩ := o_mark (xs (nI i + nI 1).toNatClampNeg) (xs (nI i + nI 2).toNatClampNeg) σ τ hr
  refine EL_aload_n 2 dL_law_515 rfl rfl ?_
  refine EL_aload_n 3 dL_law_516 rfl rfl ?_
  refine EL_iload_n 0 dL_law_517 rfl rfl ?_
  refine EL_iconst (v := nI 1) dL_law_518 (by decide) ?_
  refine EL_iadd dL_law_519 ?_
  refine EL_iald dL_law_520 (sc_in hi (by decide) hL) ?_
  refine EL_aload_n 3 dL_law_521 rfl rfl ?_
  refine EL_iload_n 0 dL_law_522 rfl rfl ?_
  refine EL_iconst (v := nI 2) dL_law_523 (by decide) ?_
  refine EL_iadd dL_law_524 ?_
  refine EL_iald dL_law_525 (sc_in hi (by decide) hL) ?_
  refine EL_callC [.int (xs (nI i + nI 1).toNatClampNeg), .int (xs (nI i + nI 2).toNatClampNeg)] [] [.int r] dL_law_526 rfl kw_482 kw_483 kw_484 kw_1 ko_X11_mark rfl hy_X11_mark rfl ⟨Nat.le_of_ble_eq_true rfl, Nat.le_of_ble_eq_true rfl⟩ (Nat.le_of_ble_eq_true rfl) hk (fun l => c_X11_mark Γc (xs (nI i + nI 1).toNatClampNeg) (xs (nI i + nI 2).toNatClampNeg) σ (r, σ') e1 l) rfl ?_
  refine EL_aload_n 1 dL_law_529 rfl rfl ?_
  refine EL_aload_n 3 dL_law_530 rfl rfl ?_
  refine EL_iload_n 0 dL_law_531 rfl rfl ?_
  refine EL_iconst (v := nI 1) dL_law_532 (by decide) ?_
  refine EL_iadd dL_law_533 ?_
  refine EL_iald dL_law_534 (sc_in hi (by decide) hL) ?_
  refine EL_aload_n 3 dL_law_535 rfl rfl ?_
  refine EL_iload_n 0 dL_law_536 rfl rfl ?_
  refine EL_iconst (v := nI 2) dL_law_537 (by decide) ?_
  refine EL_iadd dL_law_538 ?_
  refine EL_iald dL_law_539 (sc_in hi (by decide) hL) ?_
  refine EL_callM [.int (xs (nI i + nI 1).toNatClampNeg), .int (xs (nI i + nI 2).toNatClampNeg)] [.int r] [.int r, .int r] dL_law_540 rfl kw_1063 kw_1064 kw_1065 kw_13 ko_X12_mark rfl hy_X12_mark rfl ⟨Nat.le_of_ble_eq_true rfl, Nat.le_of_ble_eq_true rfl⟩ (Nat.le_of_ble_eq_true rfl) hk (fun l => c_X12_mark Γm (xs (nI i + nI 1).toNatClampNeg) (xs (nI i + nI 2).toNatClampNeg) τ (r, τ') e2 l) rfl ?_
  refine EL_eq 1337 dL_law_543 (by decide) ?_
  exact hq σ' τ' hr'
theorem lc_12 (hL : L ≤ 3072) (hi : i + 6 ≤ L) (hk : k ≤ 600000 ∧ n ≤ 7302250) (hr : Rel σ τ) (hq : ∀ σ' τ', Rel σ' τ' → EL b L xs Γc Γm k n 1337 [(3, .int (nI i)), (2, .ref (Γm.2.1 0)), (1, .ref (Γc.2.1 0)), (0, .ref b)] [] σ' τ') : EL b L xs Γc Γm k n 548 [(3, .int (nI i)), (2, .ref (Γm.2.1 0)), (1, .ref (Γc.2.1 0)), (0, .ref b)] [] σ τ := by
  obtain ⟨r, σ', τ', e1, e2, hr'⟩ := o_shared (xs (nI i + nI 1).toNatClampNeg) (xs (nI i + nI 2).toNatClampNeg) (xs (nI i + nI 3).toNatClampNeg) σ τ hr
  refine EL_aload_n 2 dL_law_548 rfl rfl ?_
  refine EL_aload_n 3 dL_law_549 rfl rfl ?_
  refine EL_iload_n 0 dL_law_550 rfl rfl ?_
  refine EL_iconst (v := nI 1) dL_law_551 (by decide) ?_
  refine EL_iadd dL_law_552 ?_
  refine EL_iald dL_law_553 (sc_in hi (by decide) hL) ?_
  refine EL_aload_n 3 dL_law_554 rfl rfl ?_
  refine EL_iload_n 0 dL_law_555 rfl rfl ?_
  refine EL_iconst (v := nI 2) dL_law_556 (by decide) ?_
  refine EL_iadd dL_law_557 ?_
  refine EL_iald dL_law_558 (sc_in hi (by decide) hL) ?_
  refine EL_aload_n 3 dL_law_559 rfl rfl ?_
  refine EL_iload_n 0 dL_law_560 rfl rfl ?_
  refine EL_iconst (v := nI 3) dL_law_561 (by decide) ?_
  refine EL_iadd dL_law_562 ?_
  refine EL_iald dL_law_563 (sc_in hi (by decide) hL) ?_
  refine EL_callC [.int (xs (nI i + nI 1).toNatClampNeg), .int (xs (nI i + nI 2).toNatClampNeg), .int (xs (nI i + nI 3).toNatClampNeg)] [] [.int r] dL_law_564 rfl kw_518 kw_519 kw_520 kw_1 ko_X11_shared rfl hy_X11_shared rfl ⟨Nat.le_of_ble_eq_true rfl, Nat.le_of_ble_eq_true rfl⟩ (Nat.le_of_ble_eq_true rfl) hk (fun l => c_X11_shared Γc (xs (nI i + nI 1).toNatClampNeg) (xs (nI i + nI 2).toNatClampNeg) (xs (nI i + nI 3).toNatClampNeg) σ (r, σ') e1 l) rfl ?_
  refine EL_aload_n 1 dL_law_567 rfl rfl ?_
  refine EL_aload_n 3 dL_law_568 rfl rfl ?_
  refine EL_iload_n 0 dL_law_569 rfl rfl ?_
  refine EL_iconst (v := nI 1) dL_law_570 (by decide) ?_
  refine EL_iadd dL_law_571 ?_
  refine EL_iald dL_law_572 (sc_in hi (by decide) hL) ?_
  refine EL_aload_n 3 dL_law_573 rfl rfl ?_
  refine EL_iload_n 0 dL_law_574 rfl rfl ?_
  refine EL_iconst (v := nI 2) dL_law_575 (by decide) ?_
  refine EL_iadd dL_law_576 ?_
  refine EL_iald dL_law_577 (sc_in hi (by decide) hL) ?_
  refine EL_aload_n 3 dL_law_578 rfl rfl ?_
  refine EL_iload_n 0 dL_law_579 rfl rfl ?_
  refine EL_iconst (v := nI 3) dL_law_580 (by decide) ?_
  refine EL_iadd dL_law_581 ?_
  refine EL_iald dL_law_582 (sc_in hi (by decide) hL) ?_
  refine EL_callM [.int (xs (nI i + nI 1).toNatClampNeg), .int (xs (nI i + nI 2).toNatClampNeg), .int (xs (nI i + nI 3).toNatClampNeg)] [.int r] [.int r, .int r] dL_law_583 rfl kw_1099 kw_1100 kw_1101 kw_13 ko_X12_shared rfl hy_X12_shared rfl ⟨Nat.le_of_ble_eq_true rfl, Nat.le_of_ble_eq_true rfl⟩ (Nat.le_of_ble_eq_true rfl) hk (fun l => c_X12_shared Γm (xs (nI i + nI 1).toNatClampNeg) (xs (nI i + nI 2).toNatClampNeg) (xs (nI i + nI 3).toNatClampNeg) τ (r, τ') e2 l) rfl ?_
  refine EL_eq 1337 dL_law_586 (by decide) ?_
  exact hq σ' τ' hr'
theorem lc_13 (hL : L ≤ 3072) (hi : i + 6 ≤ L) (hk : k ≤ 600000 ∧ n ≤ 7302250) (hr : Rel σ τ) (hq : ∀ σ' τ', Rel σ' τ' → EL b L xs Γc Γm k n 1337 [(3, .int (nI i)), (2, .ref (Γm.2.1 0)), (1, .ref (Γc.2.1 0)), (0, .ref b)] [] σ' τ') : EL b L xs Γc Γm k n 591 [(3, .int (nI i)), (2, .ref (Γm.2.1 0)), (1, .ref (Γc.2.1 0)), (0, .ref b)] [] σ τ := by
  obtain ⟨r, σ', τ', e1, e2, hr'⟩ := o_chance (xs (nI i + nI 1).toNatClampNeg) (xs (nI i + nI 2).toNatClampNeg) (xs (nI i + nI 3).toNatClampNeg) σ τ hr
  refine EL_aload_n 2 dL_law_591 rfl rfl ?_
  refine EL_aload_n 3 dL_law_592 rfl rfl ?_
  refine EL_iload_n 0 dL_law_593 rfl rfl ?_
  refine EL_iconst (v := nI 1) dL_law_594 (by decide) ?_
  refine EL_iadd dL_law_595 ?_
  refine EL_iald dL_law_596 (sc_in hi (by decide) hL) ?_
  refine EL_aload_n 3 dL_law_597 rfl rfl ?_
  refine EL_iload_n 0 dL_law_598 rfl rfl ?_
  refine EL_iconst (v := nI 2) dL_law_599 (by decide) ?_
  refine EL_iadd dL_law_600 ?_
  refine EL_iald dL_law_601 (sc_in hi (by decide) hL) ?_
  refine EL_aload_n 3 dL_law_602 rfl rfl ?_
  refine EL_iload_n 0 dL_law_603 rfl rfl ?_
  refine EL_iconst (v := nI 3) dL_law_604 (by decide) ?_
  refine EL_iadd dL_law_605 ?_
  refine EL_iald dL_law_606 (sc_in hi (by decide) hL) ?_
  refine EL_callC [.int (xs (nI i + nI 1).toNatClampNeg), .int (xs (nI i + nI 2).toNatClampNeg), .int (xs (nI i + nI 3).toNatClampNeg)] [] [.long r] dL_law_607 rfl kw_568 kw_569 kw_570 kw_1 ko_X11_chance rfl hy_X11_chance rfl ⟨Nat.le_of_ble_eq_true rfl, Nat.le_of_ble_eq_true rfl⟩ (Nat.le_of_ble_eq_true rfl) hk (fun l => c_X11_chance Γc (xs (nI i + nI 1).toNatClampNeg) (xs (nI i + nI 2).toNatClampNeg) (xs (nI i + nI 3).toNatClampNeg) σ (r, σ') e1 l) rfl ?_
  refine EL_aload_n 1 dL_law_610 rfl rfl ?_
  refine EL_aload_n 3 dL_law_611 rfl rfl ?_
  refine EL_iload_n 0 dL_law_612 rfl rfl ?_
  refine EL_iconst (v := nI 1) dL_law_613 (by decide) ?_
  refine EL_iadd dL_law_614 ?_
  refine EL_iald dL_law_615 (sc_in hi (by decide) hL) ?_
  refine EL_aload_n 3 dL_law_616 rfl rfl ?_
  refine EL_iload_n 0 dL_law_617 rfl rfl ?_
  refine EL_iconst (v := nI 2) dL_law_618 (by decide) ?_
  refine EL_iadd dL_law_619 ?_
  refine EL_iald dL_law_620 (sc_in hi (by decide) hL) ?_
  refine EL_aload_n 3 dL_law_621 rfl rfl ?_
  refine EL_iload_n 0 dL_law_622 rfl rfl ?_
  refine EL_iconst (v := nI 3) dL_law_623 (by decide) ?_
  refine EL_iadd dL_law_624 ?_
  refine EL_iald dL_law_625 (sc_in hi (by decide) hL) ?_
  refine EL_callM [.int (xs (nI i + nI 1).toNatClampNeg), .int (xs (nI i + nI 2).toNatClampNeg), .int (xs (nI i + nI 3).toNatClampNeg)] [.long r] [.long r, .long r] dL_law_626 rfl kw_1121 kw_1122 kw_1123 kw_13 ko_X12_chance rfl hy_X12_chance rfl ⟨Nat.le_of_ble_eq_true rfl, Nat.le_of_ble_eq_true rfl⟩ (Nat.le_of_ble_eq_true rfl) hk (fun l => c_X12_chance Γm (xs (nI i + nI 1).toNatClampNeg) (xs (nI i + nI 2).toNatClampNeg) (xs (nI i + nI 3).toNatClampNeg) τ (r, τ') e2 l) rfl ?_
  refine EL_lcmp dL_law_629 ?_
  refine EL_ifeq 1337 dL_law_630 (by decide) ?_
  exact hq σ' τ' hr'
theorem lc_14 (hL : L ≤ 3072) (hi : i + 6 ≤ L) (hk : k ≤ 600000 ∧ n ≤ 7302250) (hr : Rel σ τ) (hq : ∀ σ' τ', Rel σ' τ' → EL b L xs Γc Γm k n 1337 [(3, .int (nI i)), (2, .ref (Γm.2.1 0)), (1, .ref (Γc.2.1 0)), (0, .ref b)] [] σ' τ') : EL b L xs Γc Γm k n 635 [(3, .int (nI i)), (2, .ref (Γm.2.1 0)), (1, .ref (Γc.2.1 0)), (0, .ref b)] [] σ τ := by
  obtain ⟨r, σ', τ', e1, e2, hr'⟩ := o_seats (xs (nI i + nI 1).toNatClampNeg) σ τ hr
  refine EL_aload_n 2 dL_law_635 rfl rfl ?_
  refine EL_aload_n 3 dL_law_636 rfl rfl ?_
  refine EL_iload_n 0 dL_law_637 rfl rfl ?_
  refine EL_iconst (v := nI 1) dL_law_638 (by decide) ?_
  refine EL_iadd dL_law_639 ?_
  refine EL_iald dL_law_640 (sc_in hi (by decide) hL) ?_
  refine EL_callC [.int (xs (nI i + nI 1).toNatClampNeg)] [] [.int r] dL_law_641 rfl kw_584 kw_585 kw_586 kw_1 ko_X11_seats rfl hy_X11_seats rfl ⟨Nat.le_of_ble_eq_true rfl, Nat.le_of_ble_eq_true rfl⟩ (Nat.le_of_ble_eq_true rfl) hk (fun l => c_X11_seats Γc (xs (nI i + nI 1).toNatClampNeg) σ (r, σ') e1 l) rfl ?_
  refine EL_aload_n 1 dL_law_644 rfl rfl ?_
  refine EL_aload_n 3 dL_law_645 rfl rfl ?_
  refine EL_iload_n 0 dL_law_646 rfl rfl ?_
  refine EL_iconst (v := nI 1) dL_law_647 (by decide) ?_
  refine EL_iadd dL_law_648 ?_
  refine EL_iald dL_law_649 (sc_in hi (by decide) hL) ?_
  refine EL_callM [.int (xs (nI i + nI 1).toNatClampNeg)] [.int r] [.int r, .int r] dL_law_650 rfl kw_1132 kw_1133 kw_1134 kw_13 ko_X12_seats rfl hy_X12_seats rfl ⟨Nat.le_of_ble_eq_true rfl, Nat.le_of_ble_eq_true rfl⟩ (Nat.le_of_ble_eq_true rfl) hk (fun l => c_X12_seats Γm (xs (nI i + nI 1).toNatClampNeg) τ (r, τ') e2 l) rfl ?_
  refine EL_eq 1337 dL_law_653 (by decide) ?_
  exact hq σ' τ' hr'
theorem lc_15 (hL : L ≤ 3072) (hi : i + 6 ≤ L) (hk : k ≤ 600000 ∧ n ≤ 7302250) (hr : Rel σ τ) (hq : ∀ σ' τ', Rel σ' τ' → EL b L xs Γc Γm k n 1337 [(3, .int (nI i)), (2, .ref (Γm.2.1 0)), (1, .ref (Γc.2.1 0)), (0, .ref b)] [] σ' τ') : EL b L xs Γc Γm k n 658 [(3, .int (nI i)), (2, .ref (Γm.2.1 0)), (1, .ref (Γc.2.1 0)), (0, .ref b)] [] σ τ := by
  obtain ⟨r, σ', τ', e1, e2, hr'⟩ := o_sources σ τ hr
  refine EL_aload_n 2 dL_law_658 rfl rfl ?_
  refine EL_callC [] [] [.int r] dL_law_659 rfl kw_612 kw_613 kw_614 kw_1 ko_X11_sources rfl hy_X11_sources rfl ⟨Nat.le_of_ble_eq_true rfl, Nat.le_of_ble_eq_true rfl⟩ (Nat.le_of_ble_eq_true rfl) hk (fun l => c_X11_sources Γc σ (r, σ') e1 l) rfl ?_
  refine EL_aload_n 1 dL_law_662 rfl rfl ?_
  refine EL_callM [] [.int r] [.int r, .int r] dL_law_663 rfl kw_1149 kw_1150 kw_1151 kw_13 ko_X12_sources rfl hy_X12_sources rfl ⟨Nat.le_of_ble_eq_true rfl, Nat.le_of_ble_eq_true rfl⟩ (Nat.le_of_ble_eq_true rfl) hk (fun l => c_X12_sources Γm τ (r, τ') e2 l) rfl ?_
  refine EL_eq 1337 dL_law_666 (by decide) ?_
  exact hq σ' τ' hr'
theorem lc_16 (hL : L ≤ 3072) (hi : i + 6 ≤ L) (hk : k ≤ 600000 ∧ n ≤ 7302250) (hr : Rel σ τ) (hq : ∀ σ' τ', Rel σ' τ' → EL b L xs Γc Γm k n 1337 [(3, .int (nI i)), (2, .ref (Γm.2.1 0)), (1, .ref (Γc.2.1 0)), (0, .ref b)] [] σ' τ') : EL b L xs Γc Γm k n 671 [(3, .int (nI i)), (2, .ref (Γm.2.1 0)), (1, .ref (Γc.2.1 0)), (0, .ref b)] [] σ τ := by
  obtain ⟨r, σ', τ', e1, e2, hr'⟩ := o_from (xs (nI i + nI 1).toNatClampNeg) (xs (nI i + nI 2).toNatClampNeg) σ τ hr
  refine EL_aload_n 2 dL_law_671 rfl rfl ?_
  refine EL_aload_n 3 dL_law_672 rfl rfl ?_
  refine EL_iload_n 0 dL_law_673 rfl rfl ?_
  refine EL_iconst (v := nI 1) dL_law_674 (by decide) ?_
  refine EL_iadd dL_law_675 ?_
  refine EL_iald dL_law_676 (sc_in hi (by decide) hL) ?_
  refine EL_aload_n 3 dL_law_677 rfl rfl ?_
  refine EL_iload_n 0 dL_law_678 rfl rfl ?_
  refine EL_iconst (v := nI 2) dL_law_679 (by decide) ?_
  refine EL_iadd dL_law_680 ?_
  refine EL_iald dL_law_681 (sc_in hi (by decide) hL) ?_
  refine EL_callC [.int (xs (nI i + nI 1).toNatClampNeg), .int (xs (nI i + nI 2).toNatClampNeg)] [] [.int r] dL_law_682 rfl kw_641 kw_642 kw_643 kw_1 ko_X11_from rfl hy_X11_from rfl ⟨Nat.le_of_ble_eq_true rfl, Nat.le_of_ble_eq_true rfl⟩ (Nat.le_of_ble_eq_true rfl) hk (fun l => c_X11_from Γc (xs (nI i + nI 1).toNatClampNeg) (xs (nI i + nI 2).toNatClampNeg) σ (r, σ') e1 l) rfl ?_
  refine EL_aload_n 1 dL_law_685 rfl rfl ?_
  refine EL_aload_n 3 dL_law_686 rfl rfl ?_
  refine EL_iload_n 0 dL_law_687 rfl rfl ?_
  refine EL_iconst (v := nI 1) dL_law_688 (by decide) ?_
  refine EL_iadd dL_law_689 ?_
  refine EL_iald dL_law_690 (sc_in hi (by decide) hL) ?_
  refine EL_aload_n 3 dL_law_691 rfl rfl ?_
  refine EL_iload_n 0 dL_law_692 rfl rfl ?_
  refine EL_iconst (v := nI 2) dL_law_693 (by decide) ?_
  refine EL_iadd dL_law_694 ?_
  refine EL_iald dL_law_695 (sc_in hi (by decide) hL) ?_
  refine EL_callM [.int (xs (nI i + nI 1).toNatClampNeg), .int (xs (nI i + nI 2).toNatClampNeg)] [.int r] [.int r, .int r] dL_law_696 rfl kw_1171 kw_1172 kw_1173 kw_13 ko_X12_from rfl hy_X12_from rfl ⟨Nat.le_of_ble_eq_true rfl, Nat.le_of_ble_eq_true rfl⟩ (Nat.le_of_ble_eq_true rfl) hk (fun l => c_X12_from Γm (xs (nI i + nI 1).toNatClampNeg) (xs (nI i + nI 2).toNatClampNeg) τ (r, τ') e2 l) rfl ?_
  refine EL_eq 1337 dL_law_699 (by decide) ?_
  exact hq σ' τ' hr'
theorem lc_17 (hL : L ≤ 3072) (hi : i + 6 ≤ L) (hk : k ≤ 600000 ∧ n ≤ 7302250) (hr : Rel σ τ) (hq : ∀ σ' τ', Rel σ' τ' → EL b L xs Γc Γm k n 1337 [(3, .int (nI i)), (2, .ref (Γm.2.1 0)), (1, .ref (Γc.2.1 0)), (0, .ref b)] [] σ' τ') : EL b L xs Γc Γm k n 704 [(3, .int (nI i)), (2, .ref (Γm.2.1 0)), (1, .ref (Γc.2.1 0)), (0, .ref b)] [] σ τ := by
  obtain ⟨r, σ', τ', e1, e2, hr'⟩ := o_chain σ τ hr
  refine EL_aload_n 2 dL_law_704 rfl rfl ?_
  refine EL_callC [] [] [.int r] dL_law_705 rfl kw_666 kw_667 kw_668 kw_1 ko_X11_chain rfl hy_X11_chain rfl ⟨Nat.le_of_ble_eq_true rfl, Nat.le_of_ble_eq_true rfl⟩ (Nat.le_of_ble_eq_true rfl) hk (fun l => c_X11_chain Γc σ (r, σ') e1 l) rfl ?_
  refine EL_aload_n 1 dL_law_708 rfl rfl ?_
  refine EL_callM [] [.int r] [.int r, .int r] dL_law_709 rfl kw_1179 kw_1180 kw_1181 kw_13 ko_X12_chain rfl hy_X12_chain rfl ⟨Nat.le_of_ble_eq_true rfl, Nat.le_of_ble_eq_true rfl⟩ (Nat.le_of_ble_eq_true rfl) hk (fun l => c_X12_chain Γm τ (r, τ') e2 l) rfl ?_
  refine EL_eq 1337 dL_law_712 (by decide) ?_
  exact hq σ' τ' hr'
theorem lc_18 (hL : L ≤ 3072) (hi : i + 6 ≤ L) (hk : k ≤ 600000 ∧ n ≤ 7302250) (hr : Rel σ τ) (hq : ∀ σ' τ', Rel σ' τ' → EL b L xs Γc Γm k n 1337 [(3, .int (nI i)), (2, .ref (Γm.2.1 0)), (1, .ref (Γc.2.1 0)), (0, .ref b)] [] σ' τ') : EL b L xs Γc Γm k n 717 [(3, .int (nI i)), (2, .ref (Γm.2.1 0)), (1, .ref (Γc.2.1 0)), (0, .ref b)] [] σ τ := by
  obtain ⟨r, τ', e1, e2, hr'⟩ := o_rubbed (xs (nI i + nI 1).toNatClampNeg) (xs (nI i + nI 2).toNatClampNeg) σ τ hr
  refine EL_aload_n 2 dL_law_717 rfl rfl ?_
  refine EL_aload_n 3 dL_law_718 rfl rfl ?_
  refine EL_iload_n 0 dL_law_719 rfl rfl ?_
  refine EL_iconst (v := nI 1) dL_law_720 (by decide) ?_
  refine EL_iadd dL_law_721 ?_
  refine EL_iald dL_law_722 (sc_in hi (by decide) hL) ?_
  refine EL_aload_n 3 dL_law_723 rfl rfl ?_
  refine EL_iload_n 0 dL_law_724 rfl rfl ?_
  refine EL_iconst (v := nI 2) dL_law_725 (by decide) ?_
  refine EL_iadd dL_law_726 ?_
  refine EL_iald dL_law_727 (sc_in hi (by decide) hL) ?_
  refine EL_callC [.int (xs (nI i + nI 1).toNatClampNeg), .int (xs (nI i + nI 2).toNatClampNeg)] [] [.int r] dL_law_728 rfl kw_683 kw_684 kw_685 kw_1 ko_X11_rubbed rfl hy_X11_rubbed rfl ⟨Nat.le_of_ble_eq_true rfl, Nat.le_of_ble_eq_true rfl⟩ (Nat.le_of_ble_eq_true rfl) hk (fun l => c_X11_rubbed Γc (xs (nI i + nI 1).toNatClampNeg) (xs (nI i + nI 2).toNatClampNeg) σ r e1 l) rfl ?_
  refine EL_aload_n 1 dL_law_731 rfl rfl ?_
  refine EL_aload_n 3 dL_law_732 rfl rfl ?_
  refine EL_iload_n 0 dL_law_733 rfl rfl ?_
  refine EL_iconst (v := nI 1) dL_law_734 (by decide) ?_
  refine EL_iadd dL_law_735 ?_
  refine EL_iald dL_law_736 (sc_in hi (by decide) hL) ?_
  refine EL_aload_n 3 dL_law_737 rfl rfl ?_
  refine EL_iload_n 0 dL_law_738 rfl rfl ?_
  refine EL_iconst (v := nI 2) dL_law_739 (by decide) ?_
  refine EL_iadd dL_law_740 ?_
  refine EL_iald dL_law_741 (sc_in hi (by decide) hL) ?_
  refine EL_callM [.int (xs (nI i + nI 1).toNatClampNeg), .int (xs (nI i + nI 2).toNatClampNeg)] [.int r] [.int r, .int r] dL_law_742 rfl kw_1187 kw_1188 kw_1189 kw_13 ko_X12_rubbed rfl hy_X12_rubbed rfl ⟨Nat.le_of_ble_eq_true rfl, Nat.le_of_ble_eq_true rfl⟩ (Nat.le_of_ble_eq_true rfl) hk (fun l => c_X12_rubbed Γm (xs (nI i + nI 1).toNatClampNeg) (xs (nI i + nI 2).toNatClampNeg) τ (r, τ') e2 l) rfl ?_
  refine EL_eq 1337 dL_law_745 (by decide) ?_
  exact hq σ τ' hr'
theorem lc_19 (hL : L ≤ 3072) (hi : i + 6 ≤ L) (hk : k ≤ 600000 ∧ n ≤ 7302250) (hr : Rel σ τ) (hq : ∀ σ' τ', Rel σ' τ' → EL b L xs Γc Γm k n 1337 [(3, .int (nI i)), (2, .ref (Γm.2.1 0)), (1, .ref (Γc.2.1 0)), (0, .ref b)] [] σ' τ') : EL b L xs Γc Γm k n 750 [(3, .int (nI i)), (2, .ref (Γm.2.1 0)), (1, .ref (Γc.2.1 0)), (0, .ref b)] [] σ τ := by
  obtain ⟨r, σ', τ', e1, e2, hr'⟩ := o_gains (xs (nI i + nI 1).toNatClampNeg) (xs (nI i + nI 2).toNatClampNeg) σ τ hr
  refine EL_aload_n 2 dL_law_750 rfl rfl ?_
  refine EL_aload_n 3 dL_law_751 rfl rfl ?_
  refine EL_iload_n 0 dL_law_752 rfl rfl ?_
  refine EL_iconst (v := nI 1) dL_law_753 (by decide) ?_
  refine EL_iadd dL_law_754 ?_
  refine EL_iald dL_law_755 (sc_in hi (by decide) hL) ?_
  refine EL_aload_n 3 dL_law_756 rfl rfl ?_
  refine EL_iload_n 0 dL_law_757 rfl rfl ?_
  refine EL_iconst (v := nI 2) dL_law_758 (by decide) ?_
  refine EL_iadd dL_law_759 ?_
  refine EL_iald dL_law_760 (sc_in hi (by decide) hL) ?_
  refine EL_callC [.int (xs (nI i + nI 1).toNatClampNeg), .int (xs (nI i + nI 2).toNatClampNeg)] [] [.long r] dL_law_761 rfl kw_688 kw_689 kw_690 kw_1 ko_X11_gains rfl hy_X11_gains rfl ⟨Nat.le_of_ble_eq_true rfl, Nat.le_of_ble_eq_true rfl⟩ (Nat.le_of_ble_eq_true rfl) hk (fun l => c_X11_gains Γc (xs (nI i + nI 1).toNatClampNeg) (xs (nI i + nI 2).toNatClampNeg) σ (r, σ') e1 l) rfl ?_
  refine EL_aload_n 1 dL_law_764 rfl rfl ?_
  refine EL_aload_n 3 dL_law_765 rfl rfl ?_
  refine EL_iload_n 0 dL_law_766 rfl rfl ?_
  refine EL_iconst (v := nI 1) dL_law_767 (by decide) ?_
  refine EL_iadd dL_law_768 ?_
  refine EL_iald dL_law_769 (sc_in hi (by decide) hL) ?_
  refine EL_aload_n 3 dL_law_770 rfl rfl ?_
  refine EL_iload_n 0 dL_law_771 rfl rfl ?_
  refine EL_iconst (v := nI 2) dL_law_772 (by decide) ?_
  refine EL_iadd dL_law_773 ?_
  refine EL_iald dL_law_774 (sc_in hi (by decide) hL) ?_
  refine EL_callM [.int (xs (nI i + nI 1).toNatClampNeg), .int (xs (nI i + nI 2).toNatClampNeg)] [.long r] [.long r, .long r] dL_law_775 rfl kw_1195 kw_1196 kw_1197 kw_13 ko_X12_gains rfl hy_X12_gains rfl ⟨Nat.le_of_ble_eq_true rfl, Nat.le_of_ble_eq_true rfl⟩ (Nat.le_of_ble_eq_true rfl) hk (fun l => c_X12_gains Γm (xs (nI i + nI 1).toNatClampNeg) (xs (nI i + nI 2).toNatClampNeg) τ (r, τ') e2 l) rfl ?_
  refine EL_lcmp dL_law_778 ?_
  refine EL_ifeq 1337 dL_law_779 (by decide) ?_
  exact hq σ' τ' hr'
theorem lc_20 (hL : L ≤ 3072) (hi : i + 6 ≤ L) (hk : k ≤ 600000 ∧ n ≤ 7302250) (hr : Rel σ τ) (hq : ∀ σ' τ', Rel σ' τ' → EL b L xs Γc Γm k n 1337 [(3, .int (nI i)), (2, .ref (Γm.2.1 0)), (1, .ref (Γc.2.1 0)), (0, .ref b)] [] σ' τ') : EL b L xs Γc Γm k n 784 [(3, .int (nI i)), (2, .ref (Γm.2.1 0)), (1, .ref (Γc.2.1 0)), (0, .ref b)] [] σ τ := by
  obtain ⟨r, τ', e1, e2, hr'⟩ := o_known (xs (nI i + nI 1).toNatClampNeg) (xs (nI i + nI 2).toNatClampNeg) σ τ hr
  refine EL_aload_n 2 dL_law_784 rfl rfl ?_
  refine EL_aload_n 3 dL_law_785 rfl rfl ?_
  refine EL_iload_n 0 dL_law_786 rfl rfl ?_
  refine EL_iconst (v := nI 1) dL_law_787 (by decide) ?_
  refine EL_iadd dL_law_788 ?_
  refine EL_iald dL_law_789 (sc_in hi (by decide) hL) ?_
  refine EL_aload_n 3 dL_law_790 rfl rfl ?_
  refine EL_iload_n 0 dL_law_791 rfl rfl ?_
  refine EL_iconst (v := nI 2) dL_law_792 (by decide) ?_
  refine EL_iadd dL_law_793 ?_
  refine EL_iald dL_law_794 (sc_in hi (by decide) hL) ?_
  refine EL_callC [.int (xs (nI i + nI 1).toNatClampNeg), .int (xs (nI i + nI 2).toNatClampNeg)] [] [.int r] dL_law_795 rfl kw_702 kw_703 kw_704 kw_1 ko_X11_known rfl hy_X11_known rfl ⟨Nat.le_of_ble_eq_true rfl, Nat.le_of_ble_eq_true rfl⟩ (Nat.le_of_ble_eq_true rfl) hk (fun l => c_X11_known Γc (xs (nI i + nI 1).toNatClampNeg) (xs (nI i + nI 2).toNatClampNeg) σ r e1 l) rfl ?_
  refine EL_aload_n 1 dL_law_798 rfl rfl ?_
  refine EL_aload_n 3 dL_law_799 rfl rfl ?_
  refine EL_iload_n 0 dL_law_800 rfl rfl ?_
  refine EL_iconst (v := nI 1) dL_law_801 (by decide) ?_
  refine EL_iadd dL_law_802 ?_
  refine EL_iald dL_law_803 (sc_in hi (by decide) hL) ?_
  refine EL_aload_n 3 dL_law_804 rfl rfl ?_
  refine EL_iload_n 0 dL_law_805 rfl rfl ?_
  refine EL_iconst (v := nI 2) dL_law_806 (by decide) ?_
  refine EL_iadd dL_law_807 ?_
  refine EL_iald dL_law_808 (sc_in hi (by decide) hL) ?_
  refine EL_callM [.int (xs (nI i + nI 1).toNatClampNeg), .int (xs (nI i + nI 2).toNatClampNeg)] [.int r] [.int r, .int r] dL_law_809 rfl kw_1206 kw_1207 kw_1208 kw_13 ko_X12_known rfl hy_X12_known rfl ⟨Nat.le_of_ble_eq_true rfl, Nat.le_of_ble_eq_true rfl⟩ (Nat.le_of_ble_eq_true rfl) hk (fun l => c_X12_known Γm (xs (nI i + nI 1).toNatClampNeg) (xs (nI i + nI 2).toNatClampNeg) τ (r, τ') e2 l) rfl ?_
  refine EL_eq 1337 dL_law_812 (by decide) ?_
  exact hq σ τ' hr'
theorem lc_21 (hL : L ≤ 3072) (hi : i + 6 ≤ L) (hk : k ≤ 600000 ∧ n ≤ 7302250) (hr : Rel σ τ) (hq : ∀ σ' τ', Rel σ' τ' → EL b L xs Γc Γm k n 1337 [(3, .int (nI i)), (2, .ref (Γm.2.1 0)), (1, .ref (Γc.2.1 0)), (0, .ref b)] [] σ' τ') : EL b L xs Γc Γm k n 817 [(3, .int (nI i)), (2, .ref (Γm.2.1 0)), (1, .ref (Γc.2.1 0)), (0, .ref b)] [] σ τ := by
  obtain ⟨r, σ', τ', e1, e2, hr'⟩ := o_lead (xs (nI i + nI 1).toNatClampNeg) (xs (nI i + nI 2).toNatClampNeg) (xs (nI i + nI 3).toNatClampNeg) σ τ hr
  refine EL_aload_n 2 dL_law_817 rfl rfl ?_
  refine EL_aload_n 3 dL_law_818 rfl rfl ?_
  refine EL_iload_n 0 dL_law_819 rfl rfl ?_
  refine EL_iconst (v := nI 1) dL_law_820 (by decide) ?_
  refine EL_iadd dL_law_821 ?_
  refine EL_iald dL_law_822 (sc_in hi (by decide) hL) ?_
  refine EL_aload_n 3 dL_law_823 rfl rfl ?_
  refine EL_iload_n 0 dL_law_824 rfl rfl ?_
  refine EL_iconst (v := nI 2) dL_law_825 (by decide) ?_
  refine EL_iadd dL_law_826 ?_
  refine EL_iald dL_law_827 (sc_in hi (by decide) hL) ?_
  refine EL_aload_n 3 dL_law_828 rfl rfl ?_
  refine EL_iload_n 0 dL_law_829 rfl rfl ?_
  refine EL_iconst (v := nI 3) dL_law_830 (by decide) ?_
  refine EL_iadd dL_law_831 ?_
  refine EL_iald dL_law_832 (sc_in hi (by decide) hL) ?_
  refine EL_callC [.int (xs (nI i + nI 1).toNatClampNeg), .int (xs (nI i + nI 2).toNatClampNeg), .int (xs (nI i + nI 3).toNatClampNeg)] [] [.long r] dL_law_833 rfl kw_712 kw_713 kw_714 kw_1 ko_X11_lead rfl hy_X11_lead rfl ⟨Nat.le_of_ble_eq_true rfl, Nat.le_of_ble_eq_true rfl⟩ (Nat.le_of_ble_eq_true rfl) hk (fun l => c_X11_lead Γc (xs (nI i + nI 1).toNatClampNeg) (xs (nI i + nI 2).toNatClampNeg) (xs (nI i + nI 3).toNatClampNeg) σ (r, σ') e1 l) rfl ?_
  refine EL_aload_n 1 dL_law_836 rfl rfl ?_
  refine EL_aload_n 3 dL_law_837 rfl rfl ?_
  refine EL_iload_n 0 dL_law_838 rfl rfl ?_
  refine EL_iconst (v := nI 1) dL_law_839 (by decide) ?_
  refine EL_iadd dL_law_840 ?_
  refine EL_iald dL_law_841 (sc_in hi (by decide) hL) ?_
  refine EL_aload_n 3 dL_law_842 rfl rfl ?_
  refine EL_iload_n 0 dL_law_843 rfl rfl ?_
  refine EL_iconst (v := nI 2) dL_law_844 (by decide) ?_
  refine EL_iadd dL_law_845 ?_
  refine EL_iald dL_law_846 (sc_in hi (by decide) hL) ?_
  refine EL_aload_n 3 dL_law_847 rfl rfl ?_
  refine EL_iload_n 0 dL_law_848 rfl rfl ?_
  refine EL_iconst (v := nI 3) dL_law_849 (by decide) ?_
  refine EL_iadd dL_law_850 ?_
  refine EL_iald dL_law_851 (sc_in hi (by decide) hL) ?_
  refine EL_callM [.int (xs (nI i + nI 1).toNatClampNeg), .int (xs (nI i + nI 2).toNatClampNeg), .int (xs (nI i + nI 3).toNatClampNeg)] [.long r] [.long r, .long r] dL_law_852 rfl kw_1214 kw_1215 kw_1216 kw_13 ko_X12_lead rfl hy_X12_lead rfl ⟨Nat.le_of_ble_eq_true rfl, Nat.le_of_ble_eq_true rfl⟩ (Nat.le_of_ble_eq_true rfl) hk (fun l => c_X12_lead Γm (xs (nI i + nI 1).toNatClampNeg) (xs (nI i + nI 2).toNatClampNeg) (xs (nI i + nI 3).toNatClampNeg) τ (r, τ') e2 l) rfl ?_
  refine EL_lcmp dL_law_855 ?_
  refine EL_ifeq 1337 dL_law_856 (by decide) ?_
  exact hq σ' τ' hr'
theorem lc_22 (hL : L ≤ 3072) (hi : i + 6 ≤ L) (hk : k ≤ 600000 ∧ n ≤ 7302250) (hr : Rel σ τ) (hq : ∀ σ' τ', Rel σ' τ' → EL b L xs Γc Γm k n 1337 [(3, .int (nI i)), (2, .ref (Γm.2.1 0)), (1, .ref (Γc.2.1 0)), (0, .ref b)] [] σ' τ') : EL b L xs Γc Γm k n 861 [(3, .int (nI i)), (2, .ref (Γm.2.1 0)), (1, .ref (Γc.2.1 0)), (0, .ref b)] [] σ τ := by
  obtain ⟨r, σ', τ', e1, e2, hr'⟩ := o_rest (xs (nI i + nI 1).toNatClampNeg) (xs (nI i + nI 2).toNatClampNeg) (xs (nI i + nI 3).toNatClampNeg) σ τ hr
  refine EL_aload_n 2 dL_law_861 rfl rfl ?_
  refine EL_aload_n 3 dL_law_862 rfl rfl ?_
  refine EL_iload_n 0 dL_law_863 rfl rfl ?_
  refine EL_iconst (v := nI 1) dL_law_864 (by decide) ?_
  refine EL_iadd dL_law_865 ?_
  refine EL_iald dL_law_866 (sc_in hi (by decide) hL) ?_
  refine EL_aload_n 3 dL_law_867 rfl rfl ?_
  refine EL_iload_n 0 dL_law_868 rfl rfl ?_
  refine EL_iconst (v := nI 2) dL_law_869 (by decide) ?_
  refine EL_iadd dL_law_870 ?_
  refine EL_iald dL_law_871 (sc_in hi (by decide) hL) ?_
  refine EL_aload_n 3 dL_law_872 rfl rfl ?_
  refine EL_iload_n 0 dL_law_873 rfl rfl ?_
  refine EL_iconst (v := nI 3) dL_law_874 (by decide) ?_
  refine EL_iadd dL_law_875 ?_
  refine EL_iald dL_law_876 (sc_in hi (by decide) hL) ?_
  refine EL_callC [.int (xs (nI i + nI 1).toNatClampNeg), .int (xs (nI i + nI 2).toNatClampNeg), .int (xs (nI i + nI 3).toNatClampNeg)] [] [.long r] dL_law_877 rfl kw_717 kw_718 kw_719 kw_1 ko_X11_rest rfl hy_X11_rest rfl ⟨Nat.le_of_ble_eq_true rfl, Nat.le_of_ble_eq_true rfl⟩ (Nat.le_of_ble_eq_true rfl) hk (fun l => c_X11_rest Γc (xs (nI i + nI 1).toNatClampNeg) (xs (nI i + nI 2).toNatClampNeg) (xs (nI i + nI 3).toNatClampNeg) σ (r, σ') e1 l) rfl ?_
  refine EL_aload_n 1 dL_law_880 rfl rfl ?_
  refine EL_aload_n 3 dL_law_881 rfl rfl ?_
  refine EL_iload_n 0 dL_law_882 rfl rfl ?_
  refine EL_iconst (v := nI 1) dL_law_883 (by decide) ?_
  refine EL_iadd dL_law_884 ?_
  refine EL_iald dL_law_885 (sc_in hi (by decide) hL) ?_
  refine EL_aload_n 3 dL_law_886 rfl rfl ?_
  refine EL_iload_n 0 dL_law_887 rfl rfl ?_
  refine EL_iconst (v := nI 2) dL_law_888 (by decide) ?_
  refine EL_iadd dL_law_889 ?_
  refine EL_iald dL_law_890 (sc_in hi (by decide) hL) ?_
  refine EL_aload_n 3 dL_law_891 rfl rfl ?_
  refine EL_iload_n 0 dL_law_892 rfl rfl ?_
  refine EL_iconst (v := nI 3) dL_law_893 (by decide) ?_
  refine EL_iadd dL_law_894 ?_
  refine EL_iald dL_law_895 (sc_in hi (by decide) hL) ?_
  refine EL_callM [.int (xs (nI i + nI 1).toNatClampNeg), .int (xs (nI i + nI 2).toNatClampNeg), .int (xs (nI i + nI 3).toNatClampNeg)] [.long r] [.long r, .long r] dL_law_896 rfl kw_1218 kw_1219 kw_1220 kw_13 ko_X12_rest rfl hy_X12_rest rfl ⟨Nat.le_of_ble_eq_true rfl, Nat.le_of_ble_eq_true rfl⟩ (Nat.le_of_ble_eq_true rfl) hk (fun l => c_X12_rest Γm (xs (nI i + nI 1).toNatClampNeg) (xs (nI i + nI 2).toNatClampNeg) (xs (nI i + nI 3).toNatClampNeg) τ (r, τ') e2 l) rfl ?_
  refine EL_lcmp dL_law_899 ?_
  refine EL_ifeq 1337 dL_law_900 (by decide) ?_
  exact hq σ' τ' hr'
theorem lc_23 (hL : L ≤ 3072) (hi : i + 6 ≤ L) (hk : k ≤ 600000 ∧ n ≤ 7302250) (hr : Rel σ τ) (hq : ∀ σ' τ', Rel σ' τ' → EL b L xs Γc Γm k n 1337 [(3, .int (nI i)), (2, .ref (Γm.2.1 0)), (1, .ref (Γc.2.1 0)), (0, .ref b)] [] σ' τ') : EL b L xs Γc Γm k n 905 [(3, .int (nI i)), (2, .ref (Γm.2.1 0)), (1, .ref (Γc.2.1 0)), (0, .ref b)] [] σ τ := by
  obtain ⟨r, τ', e1, e2, hr'⟩ := o_should (xs (nI i + nI 1).toNatClampNeg) σ τ hr
  refine EL_aload_n 2 dL_law_905 rfl rfl ?_
  refine EL_aload_n 3 dL_law_906 rfl rfl ?_
  refine EL_iload_n 0 dL_law_907 rfl rfl ?_
  refine EL_iconst (v := nI 1) dL_law_908 (by decide) ?_
  refine EL_iadd dL_law_909 ?_
  refine EL_iald dL_law_910 (sc_in hi (by decide) hL) ?_
  refine EL_callC [.int (xs (nI i + nI 1).toNatClampNeg)] [] [.int r] dL_law_911 rfl kw_730 kw_731 kw_732 kw_1 ko_X11_should rfl hy_X11_should rfl ⟨Nat.le_of_ble_eq_true rfl, Nat.le_of_ble_eq_true rfl⟩ (Nat.le_of_ble_eq_true rfl) hk (fun l => c_X11_should Γc (xs (nI i + nI 1).toNatClampNeg) σ r e1 l) rfl ?_
  refine EL_aload_n 1 dL_law_914 rfl rfl ?_
  refine EL_aload_n 3 dL_law_915 rfl rfl ?_
  refine EL_iload_n 0 dL_law_916 rfl rfl ?_
  refine EL_iconst (v := nI 1) dL_law_917 (by decide) ?_
  refine EL_iadd dL_law_918 ?_
  refine EL_iald dL_law_919 (sc_in hi (by decide) hL) ?_
  refine EL_callM [.int (xs (nI i + nI 1).toNatClampNeg)] [.int r] [.int r, .int r] dL_law_920 rfl kw_1230 kw_1231 kw_1232 kw_13 ko_X12_should rfl hy_X12_should rfl ⟨Nat.le_of_ble_eq_true rfl, Nat.le_of_ble_eq_true rfl⟩ (Nat.le_of_ble_eq_true rfl) hk (fun l => c_X12_should Γm (xs (nI i + nI 1).toNatClampNeg) τ (r, τ') e2 l) rfl ?_
  refine EL_eq 1337 dL_law_923 (by decide) ?_
  exact hq σ τ' hr'
theorem lc_24 (hL : L ≤ 3072) (hi : i + 6 ≤ L) (hk : k ≤ 600000 ∧ n ≤ 7302250) (hr : Rel σ τ) (hq : ∀ σ' τ', Rel σ' τ' → EL b L xs Γc Γm k n 1337 [(3, .int (nI i)), (2, .ref (Γm.2.1 0)), (1, .ref (Γc.2.1 0)), (0, .ref b)] [] σ' τ') : EL b L xs Γc Γm k n 928 [(3, .int (nI i)), (2, .ref (Γm.2.1 0)), (1, .ref (Γc.2.1 0)), (0, .ref b)] [] σ τ := by
  obtain ⟨r, τ', e1, e2, hr'⟩ := o_badly σ τ hr
  refine EL_aload_n 2 dL_law_928 rfl rfl ?_
  refine EL_callC [] [] [.int r] dL_law_929 rfl kw_740 kw_741 kw_742 kw_1 ko_X11_badly rfl hy_X11_badly rfl ⟨Nat.le_of_ble_eq_true rfl, Nat.le_of_ble_eq_true rfl⟩ (Nat.le_of_ble_eq_true rfl) hk (fun l => c_X11_badly Γc σ r e1 l) rfl ?_
  refine EL_aload_n 1 dL_law_932 rfl rfl ?_
  refine EL_callM [] [.int r] [.int r, .int r] dL_law_933 rfl kw_1238 kw_1239 kw_1240 kw_13 ko_X12_badly rfl hy_X12_badly rfl ⟨Nat.le_of_ble_eq_true rfl, Nat.le_of_ble_eq_true rfl⟩ (Nat.le_of_ble_eq_true rfl) hk (fun l => c_X12_badly Γm τ (r, τ') e2 l) rfl ?_
  refine EL_eq 1337 dL_law_936 (by decide) ?_
  exact hq σ τ' hr'
theorem lc_25 (hL : L ≤ 3072) (hi : i + 6 ≤ L) (hk : k ≤ 600000 ∧ n ≤ 7302250) (hr : Rel σ τ) (hq : ∀ σ' τ', Rel σ' τ' → EL b L xs Γc Γm k n 1337 [(3, .int (nI i)), (2, .ref (Γm.2.1 0)), (1, .ref (Γc.2.1 0)), (0, .ref b)] [] σ' τ') : EL b L xs Γc Γm k n 941 [(3, .int (nI i)), (2, .ref (Γm.2.1 0)), (1, .ref (Γc.2.1 0)), (0, .ref b)] [] σ τ := by
  obtain ⟨r, σ', τ', e1, e2, hr'⟩ := o_without (xs (nI i + nI 1).toNatClampNeg) (xs (nI i + nI 2).toNatClampNeg) σ τ hr
  refine EL_aload_n 2 dL_law_941 rfl rfl ?_
  refine EL_aload_n 3 dL_law_942 rfl rfl ?_
  refine EL_iload_n 0 dL_law_943 rfl rfl ?_
  refine EL_iconst (v := nI 1) dL_law_944 (by decide) ?_
  refine EL_iadd dL_law_945 ?_
  refine EL_iald dL_law_946 (sc_in hi (by decide) hL) ?_
  refine EL_aload_n 3 dL_law_947 rfl rfl ?_
  refine EL_iload_n 0 dL_law_948 rfl rfl ?_
  refine EL_iconst (v := nI 2) dL_law_949 (by decide) ?_
  refine EL_iadd dL_law_950 ?_
  refine EL_iald dL_law_951 (sc_in hi (by decide) hL) ?_
  refine EL_callC [.int (xs (nI i + nI 1).toNatClampNeg), .int (xs (nI i + nI 2).toNatClampNeg)] [] [.int r] dL_law_952 rfl kw_744 kw_745 kw_746 kw_1 ko_X11_without rfl hy_X11_without rfl ⟨Nat.le_of_ble_eq_true rfl, Nat.le_of_ble_eq_true rfl⟩ (Nat.le_of_ble_eq_true rfl) hk (fun l => c_X11_without Γc (xs (nI i + nI 1).toNatClampNeg) (xs (nI i + nI 2).toNatClampNeg) σ (r, σ') e1 l) rfl ?_
  refine EL_aload_n 1 dL_law_955 rfl rfl ?_
  refine EL_aload_n 3 dL_law_956 rfl rfl ?_
  refine EL_iload_n 0 dL_law_957 rfl rfl ?_
  refine EL_iconst (v := nI 1) dL_law_958 (by decide) ?_
  refine EL_iadd dL_law_959 ?_
  refine EL_iald dL_law_960 (sc_in hi (by decide) hL) ?_
  refine EL_aload_n 3 dL_law_961 rfl rfl ?_
  refine EL_iload_n 0 dL_law_962 rfl rfl ?_
  refine EL_iconst (v := nI 2) dL_law_963 (by decide) ?_
  refine EL_iadd dL_law_964 ?_
  refine EL_iald dL_law_965 (sc_in hi (by decide) hL) ?_
  refine EL_callM [.int (xs (nI i + nI 1).toNatClampNeg), .int (xs (nI i + nI 2).toNatClampNeg)] [.int r] [.int r, .int r] dL_law_966 rfl kw_1246 kw_1247 kw_1248 kw_13 ko_X12_without rfl hy_X12_without rfl ⟨Nat.le_of_ble_eq_true rfl, Nat.le_of_ble_eq_true rfl⟩ (Nat.le_of_ble_eq_true rfl) hk (fun l => c_X12_without Γm (xs (nI i + nI 1).toNatClampNeg) (xs (nI i + nI 2).toNatClampNeg) τ (r, τ') e2 l) rfl ?_
  refine EL_eq 1337 dL_law_969 (by decide) ?_
  exact hq σ' τ' hr'
theorem lc_26 (hL : L ≤ 3072) (hi : i + 6 ≤ L) (hk : k ≤ 600000 ∧ n ≤ 7302250) (hr : Rel σ τ) (hq : ∀ σ' τ', Rel σ' τ' → EL b L xs Γc Γm k n 1337 [(3, .int (nI i)), (2, .ref (Γm.2.1 0)), (1, .ref (Γc.2.1 0)), (0, .ref b)] [] σ' τ') : EL b L xs Γc Γm k n 974 [(3, .int (nI i)), (2, .ref (Γm.2.1 0)), (1, .ref (Γc.2.1 0)), (0, .ref b)] [] σ τ := by
  obtain ⟨r, σ', τ', e1, e2, hr'⟩ := o_hard (xs (nI i + nI 1).toNatClampNeg) (xs (nI i + nI 2).toNatClampNeg) σ τ hr
  refine EL_aload_n 2 dL_law_974 rfl rfl ?_
  refine EL_aload_n 3 dL_law_975 rfl rfl ?_
  refine EL_iload_n 0 dL_law_976 rfl rfl ?_
  refine EL_iconst (v := nI 1) dL_law_977 (by decide) ?_
  refine EL_iadd dL_law_978 ?_
  refine EL_iald dL_law_979 (sc_in hi (by decide) hL) ?_
  refine EL_aload_n 3 dL_law_980 rfl rfl ?_
  refine EL_iload_n 0 dL_law_981 rfl rfl ?_
  refine EL_iconst (v := nI 2) dL_law_982 (by decide) ?_
  refine EL_iadd dL_law_983 ?_
  refine EL_iald dL_law_984 (sc_in hi (by decide) hL) ?_
  refine EL_callC [.int (xs (nI i + nI 1).toNatClampNeg), .int (xs (nI i + nI 2).toNatClampNeg)] [] [.long r] dL_law_985 rfl kw_758 kw_759 kw_760 kw_1 ko_X11_hard rfl hy_X11_hard rfl ⟨Nat.le_of_ble_eq_true rfl, Nat.le_of_ble_eq_true rfl⟩ (Nat.le_of_ble_eq_true rfl) hk (fun l => c_X11_hard Γc (xs (nI i + nI 1).toNatClampNeg) (xs (nI i + nI 2).toNatClampNeg) σ (r, σ') e1 l) rfl ?_
  refine EL_aload_n 1 dL_law_988 rfl rfl ?_
  refine EL_aload_n 3 dL_law_989 rfl rfl ?_
  refine EL_iload_n 0 dL_law_990 rfl rfl ?_
  refine EL_iconst (v := nI 1) dL_law_991 (by decide) ?_
  refine EL_iadd dL_law_992 ?_
  refine EL_iald dL_law_993 (sc_in hi (by decide) hL) ?_
  refine EL_aload_n 3 dL_law_994 rfl rfl ?_
  refine EL_iload_n 0 dL_law_995 rfl rfl ?_
  refine EL_iconst (v := nI 2) dL_law_996 (by decide) ?_
  refine EL_iadd dL_law_997 ?_
  refine EL_iald dL_law_998 (sc_in hi (by decide) hL) ?_
  refine EL_callM [.int (xs (nI i + nI 1).toNatClampNeg), .int (xs (nI i + nI 2).toNatClampNeg)] [.long r] [.long r, .long r] dL_law_999 rfl kw_1254 kw_1255 kw_1256 kw_13 ko_X12_hard rfl hy_X12_hard rfl ⟨Nat.le_of_ble_eq_true rfl, Nat.le_of_ble_eq_true rfl⟩ (Nat.le_of_ble_eq_true rfl) hk (fun l => c_X12_hard Γm (xs (nI i + nI 1).toNatClampNeg) (xs (nI i + nI 2).toNatClampNeg) τ (r, τ') e2 l) rfl ?_
  refine EL_lcmp dL_law_1002 ?_
  refine EL_ifeq 1337 dL_law_1003 (by decide) ?_
  exact hq σ' τ' hr'
theorem lc_27 (hL : L ≤ 3072) (hi : i + 6 ≤ L) (hk : k ≤ 600000 ∧ n ≤ 7302250) (hr : Rel σ τ) (hq : ∀ σ' τ', Rel σ' τ' → EL b L xs Γc Γm k n 1337 [(3, .int (nI i)), (2, .ref (Γm.2.1 0)), (1, .ref (Γc.2.1 0)), (0, .ref b)] [] σ' τ') : EL b L xs Γc Γm k n 1008 [(3, .int (nI i)), (2, .ref (Γm.2.1 0)), (1, .ref (Γc.2.1 0)), (0, .ref b)] [] σ τ := by
  obtain ⟨r, σ', τ', e1, e2, hr'⟩ := o_parts (xs (nI i + nI 1).toNatClampNeg) (xs (nI i + nI 2).toNatClampNeg) σ τ hr
  refine EL_aload_n 2 dL_law_1008 rfl rfl ?_
  refine EL_aload_n 3 dL_law_1009 rfl rfl ?_
  refine EL_iload_n 0 dL_law_1010 rfl rfl ?_
  refine EL_iconst (v := nI 1) dL_law_1011 (by decide) ?_
  refine EL_iadd dL_law_1012 ?_
  refine EL_iald dL_law_1013 (sc_in hi (by decide) hL) ?_
  refine EL_aload_n 3 dL_law_1014 rfl rfl ?_
  refine EL_iload_n 0 dL_law_1015 rfl rfl ?_
  refine EL_iconst (v := nI 2) dL_law_1016 (by decide) ?_
  refine EL_iadd dL_law_1017 ?_
  refine EL_iald dL_law_1018 (sc_in hi (by decide) hL) ?_
  refine EL_callC [.int (xs (nI i + nI 1).toNatClampNeg), .int (xs (nI i + nI 2).toNatClampNeg)] [] [.long r] dL_law_1019 rfl kw_762 kw_763 kw_764 kw_1 ko_X11_parts rfl hy_X11_parts rfl ⟨Nat.le_of_ble_eq_true rfl, Nat.le_of_ble_eq_true rfl⟩ (Nat.le_of_ble_eq_true rfl) hk (fun l => c_X11_parts Γc (xs (nI i + nI 1).toNatClampNeg) (xs (nI i + nI 2).toNatClampNeg) σ (r, σ') e1 l) rfl ?_
  refine EL_aload_n 1 dL_law_1022 rfl rfl ?_
  refine EL_aload_n 3 dL_law_1023 rfl rfl ?_
  refine EL_iload_n 0 dL_law_1024 rfl rfl ?_
  refine EL_iconst (v := nI 1) dL_law_1025 (by decide) ?_
  refine EL_iadd dL_law_1026 ?_
  refine EL_iald dL_law_1027 (sc_in hi (by decide) hL) ?_
  refine EL_aload_n 3 dL_law_1028 rfl rfl ?_
  refine EL_iload_n 0 dL_law_1029 rfl rfl ?_
  refine EL_iconst (v := nI 2) dL_law_1030 (by decide) ?_
  refine EL_iadd dL_law_1031 ?_
  refine EL_iald dL_law_1032 (sc_in hi (by decide) hL) ?_
  refine EL_callM [.int (xs (nI i + nI 1).toNatClampNeg), .int (xs (nI i + nI 2).toNatClampNeg)] [.long r] [.long r, .long r] dL_law_1033 rfl kw_1262 kw_1263 kw_1264 kw_13 ko_X12_parts rfl hy_X12_parts rfl ⟨Nat.le_of_ble_eq_true rfl, Nat.le_of_ble_eq_true rfl⟩ (Nat.le_of_ble_eq_true rfl) hk (fun l => c_X12_parts Γm (xs (nI i + nI 1).toNatClampNeg) (xs (nI i + nI 2).toNatClampNeg) τ (r, τ') e2 l) rfl ?_
  refine EL_lcmp dL_law_1036 ?_
  refine EL_ifeq 1337 dL_law_1037 (by decide) ?_
  exact hq σ' τ' hr'
theorem lc_28 (hL : L ≤ 3072) (hi : i + 6 ≤ L) (hk : k ≤ 600000 ∧ n ≤ 7302250) (hr : Rel σ τ) (hq : ∀ σ' τ', Rel σ' τ' → EL b L xs Γc Γm k n 1337 [(3, .int (nI i)), (2, .ref (Γm.2.1 0)), (1, .ref (Γc.2.1 0)), (0, .ref b)] [] σ' τ') : EL b L xs Γc Γm k n 1042 [(3, .int (nI i)), (2, .ref (Γm.2.1 0)), (1, .ref (Γc.2.1 0)), (0, .ref b)] [] σ τ := by
  obtain ⟨r, σ', τ', e1, e2, hr'⟩ := o_sheet (xs (nI i + nI 1).toNatClampNeg) (xs (nI i + nI 2).toNatClampNeg) (xs (nI i + nI 3).toNatClampNeg) σ τ hr
  refine EL_aload_n 2 dL_law_1042 rfl rfl ?_
  refine EL_aload_n 3 dL_law_1043 rfl rfl ?_
  refine EL_iload_n 0 dL_law_1044 rfl rfl ?_
  refine EL_iconst (v := nI 1) dL_law_1045 (by decide) ?_
  refine EL_iadd dL_law_1046 ?_
  refine EL_iald dL_law_1047 (sc_in hi (by decide) hL) ?_
  refine EL_aload_n 3 dL_law_1048 rfl rfl ?_
  refine EL_iload_n 0 dL_law_1049 rfl rfl ?_
  refine EL_iconst (v := nI 2) dL_law_1050 (by decide) ?_
  refine EL_iadd dL_law_1051 ?_
  refine EL_iald dL_law_1052 (sc_in hi (by decide) hL) ?_
  refine EL_aload_n 3 dL_law_1053 rfl rfl ?_
  refine EL_iload_n 0 dL_law_1054 rfl rfl ?_
  refine EL_iconst (v := nI 3) dL_law_1055 (by decide) ?_
  refine EL_iadd dL_law_1056 ?_
  refine EL_iald dL_law_1057 (sc_in hi (by decide) hL) ?_
  refine EL_callC [.int (xs (nI i + nI 1).toNatClampNeg), .int (xs (nI i + nI 2).toNatClampNeg), .int (xs (nI i + nI 3).toNatClampNeg)] [] [.int r] dL_law_1058 rfl kw_775 kw_776 kw_777 kw_1 ko_X11_sheet rfl hy_X11_sheet rfl ⟨Nat.le_of_ble_eq_true rfl, Nat.le_of_ble_eq_true rfl⟩ (Nat.le_of_ble_eq_true rfl) hk (fun l => c_X11_sheet Γc (xs (nI i + nI 1).toNatClampNeg) (xs (nI i + nI 2).toNatClampNeg) (xs (nI i + nI 3).toNatClampNeg) σ (r, σ') e1 l) rfl ?_
  refine EL_aload_n 1 dL_law_1061 rfl rfl ?_
  refine EL_aload_n 3 dL_law_1062 rfl rfl ?_
  refine EL_iload_n 0 dL_law_1063 rfl rfl ?_
  refine EL_iconst (v := nI 1) dL_law_1064 (by decide) ?_
  refine EL_iadd dL_law_1065 ?_
  refine EL_iald dL_law_1066 (sc_in hi (by decide) hL) ?_
  refine EL_aload_n 3 dL_law_1067 rfl rfl ?_
  refine EL_iload_n 0 dL_law_1068 rfl rfl ?_
  refine EL_iconst (v := nI 2) dL_law_1069 (by decide) ?_
  refine EL_iadd dL_law_1070 ?_
  refine EL_iald dL_law_1071 (sc_in hi (by decide) hL) ?_
  refine EL_aload_n 3 dL_law_1072 rfl rfl ?_
  refine EL_iload_n 0 dL_law_1073 rfl rfl ?_
  refine EL_iconst (v := nI 3) dL_law_1074 (by decide) ?_
  refine EL_iadd dL_law_1075 ?_
  refine EL_iald dL_law_1076 (sc_in hi (by decide) hL) ?_
  refine EL_callM [.int (xs (nI i + nI 1).toNatClampNeg), .int (xs (nI i + nI 2).toNatClampNeg), .int (xs (nI i + nI 3).toNatClampNeg)] [.int r] [.int r, .int r] dL_law_1077 rfl kw_1270 kw_1271 kw_1272 kw_13 ko_X12_sheet rfl hy_X12_sheet rfl ⟨Nat.le_of_ble_eq_true rfl, Nat.le_of_ble_eq_true rfl⟩ (Nat.le_of_ble_eq_true rfl) hk (fun l => c_X12_sheet Γm (xs (nI i + nI 1).toNatClampNeg) (xs (nI i + nI 2).toNatClampNeg) (xs (nI i + nI 3).toNatClampNeg) τ (r, τ') e2 l) rfl ?_
  refine EL_eq 1337 dL_law_1080 (by decide) ?_
  exact hq σ' τ' hr'
theorem lc_29 (hL : L ≤ 3072) (hi : i + 6 ≤ L) (hk : k ≤ 600000 ∧ n ≤ 7302250) (hr : Rel σ τ) (hq : ∀ σ' τ', Rel σ' τ' → EL b L xs Γc Γm k n 1337 [(3, .int (nI i)), (2, .ref (Γm.2.1 0)), (1, .ref (Γc.2.1 0)), (0, .ref b)] [] σ' τ') : EL b L xs Γc Γm k n 1085 [(3, .int (nI i)), (2, .ref (Γm.2.1 0)), (1, .ref (Γc.2.1 0)), (0, .ref b)] [] σ τ := by
  obtain ⟨r, σ', τ', e1, e2, hr'⟩ := o_lose (xs (nI i + nI 1).toNatClampNeg) σ τ hr
  refine EL_aload_n 2 dL_law_1085 rfl rfl ?_
  refine EL_aload_n 3 dL_law_1086 rfl rfl ?_
  refine EL_iload_n 0 dL_law_1087 rfl rfl ?_
  refine EL_iconst (v := nI 1) dL_law_1088 (by decide) ?_
  refine EL_iadd dL_law_1089 ?_
  refine EL_iald dL_law_1090 (sc_in hi (by decide) hL) ?_
  refine EL_callC [.int (xs (nI i + nI 1).toNatClampNeg)] [] [.int r] dL_law_1091 rfl kw_785 kw_786 kw_787 kw_1 ko_X11_lose rfl hy_X11_lose rfl ⟨Nat.le_of_ble_eq_true rfl, Nat.le_of_ble_eq_true rfl⟩ (Nat.le_of_ble_eq_true rfl) hk (fun l => c_X11_lose Γc (xs (nI i + nI 1).toNatClampNeg) σ (r, σ') e1 l) rfl ?_
  refine EL_aload_n 1 dL_law_1094 rfl rfl ?_
  refine EL_aload_n 3 dL_law_1095 rfl rfl ?_
  refine EL_iload_n 0 dL_law_1096 rfl rfl ?_
  refine EL_iconst (v := nI 1) dL_law_1097 (by decide) ?_
  refine EL_iadd dL_law_1098 ?_
  refine EL_iald dL_law_1099 (sc_in hi (by decide) hL) ?_
  refine EL_callM [.int (xs (nI i + nI 1).toNatClampNeg)] [.int r] [.int r, .int r] dL_law_1100 rfl kw_1274 kw_1275 kw_1276 kw_13 ko_X12_lose rfl hy_X12_lose rfl ⟨Nat.le_of_ble_eq_true rfl, Nat.le_of_ble_eq_true rfl⟩ (Nat.le_of_ble_eq_true rfl) hk (fun l => c_X12_lose Γm (xs (nI i + nI 1).toNatClampNeg) τ (r, τ') e2 l) rfl ?_
  refine EL_eq 1337 dL_law_1103 (by decide) ?_
  exact hq σ' τ' hr'
theorem lc_30 (hL : L ≤ 3072) (hi : i + 6 ≤ L) (hk : k ≤ 600000 ∧ n ≤ 7302250) (hr : Rel σ τ) (hq : ∀ σ' τ', Rel σ' τ' → EL b L xs Γc Γm k n 1337 [(3, .int (nI i)), (2, .ref (Γm.2.1 0)), (1, .ref (Γc.2.1 0)), (0, .ref b)] [] σ' τ') : EL b L xs Γc Γm k n 1108 [(3, .int (nI i)), (2, .ref (Γm.2.1 0)), (1, .ref (Γc.2.1 0)), (0, .ref b)] [] σ τ := by
  obtain ⟨r, σ', τ', e1, e2, hr'⟩ := o_put (xs (nI i + nI 1).toNatClampNeg) (xs (nI i + nI 2).toNatClampNeg) (xs (nI i + nI 3).toNatClampNeg) (xs (nI i + nI 4).toNatClampNeg) σ τ hr
  refine EL_aload_n 2 dL_law_1108 rfl rfl ?_
  refine EL_aload_n 3 dL_law_1109 rfl rfl ?_
  refine EL_iload_n 0 dL_law_1110 rfl rfl ?_
  refine EL_iconst (v := nI 1) dL_law_1111 (by decide) ?_
  refine EL_iadd dL_law_1112 ?_
  refine EL_iald dL_law_1113 (sc_in hi (by decide) hL) ?_
  refine EL_aload_n 3 dL_law_1114 rfl rfl ?_
  refine EL_iload_n 0 dL_law_1115 rfl rfl ?_
  refine EL_iconst (v := nI 2) dL_law_1116 (by decide) ?_
  refine EL_iadd dL_law_1117 ?_
  refine EL_iald dL_law_1118 (sc_in hi (by decide) hL) ?_
  refine EL_aload_n 3 dL_law_1119 rfl rfl ?_
  refine EL_iload_n 0 dL_law_1120 rfl rfl ?_
  refine EL_iconst (v := nI 3) dL_law_1121 (by decide) ?_
  refine EL_iadd dL_law_1122 ?_
  refine EL_iald dL_law_1123 (sc_in hi (by decide) hL) ?_
  refine EL_aload_n 3 dL_law_1124 rfl rfl ?_
  refine EL_iload_n 0 dL_law_1125 rfl rfl ?_
  refine EL_iconst (v := nI 4) dL_law_1126 (by decide) ?_
  refine EL_iadd dL_law_1127 ?_
  refine EL_iald dL_law_1128 (sc_in hi (by decide) hL) ?_
  refine EL_callC [.int (xs (nI i + nI 1).toNatClampNeg), .int (xs (nI i + nI 2).toNatClampNeg), .int (xs (nI i + nI 3).toNatClampNeg), .int (xs (nI i + nI 4).toNatClampNeg)] [] [.int r] dL_law_1129 rfl kw_789 kw_790 kw_791 kw_1 ko_X11_put rfl hy_X11_put rfl ⟨Nat.le_of_ble_eq_true rfl, Nat.le_of_ble_eq_true rfl⟩ (Nat.le_of_ble_eq_true rfl) hk (fun l => c_X11_put Γc (xs (nI i + nI 1).toNatClampNeg) (xs (nI i + nI 2).toNatClampNeg) (xs (nI i + nI 3).toNatClampNeg) (xs (nI i + nI 4).toNatClampNeg) σ (r, σ') e1 l) rfl ?_
  refine EL_aload_n 1 dL_law_1132 rfl rfl ?_
  refine EL_aload_n 3 dL_law_1133 rfl rfl ?_
  refine EL_iload_n 0 dL_law_1134 rfl rfl ?_
  refine EL_iconst (v := nI 1) dL_law_1135 (by decide) ?_
  refine EL_iadd dL_law_1136 ?_
  refine EL_iald dL_law_1137 (sc_in hi (by decide) hL) ?_
  refine EL_aload_n 3 dL_law_1138 rfl rfl ?_
  refine EL_iload_n 0 dL_law_1139 rfl rfl ?_
  refine EL_iconst (v := nI 2) dL_law_1140 (by decide) ?_
  refine EL_iadd dL_law_1141 ?_
  refine EL_iald dL_law_1142 (sc_in hi (by decide) hL) ?_
  refine EL_aload_n 3 dL_law_1143 rfl rfl ?_
  refine EL_iload_n 0 dL_law_1144 rfl rfl ?_
  refine EL_iconst (v := nI 3) dL_law_1145 (by decide) ?_
  refine EL_iadd dL_law_1146 ?_
  refine EL_iald dL_law_1147 (sc_in hi (by decide) hL) ?_
  refine EL_aload_n 3 dL_law_1148 rfl rfl ?_
  refine EL_iload_n 0 dL_law_1149 rfl rfl ?_
  refine EL_iconst (v := nI 4) dL_law_1150 (by decide) ?_
  refine EL_iadd dL_law_1151 ?_
  refine EL_iald dL_law_1152 (sc_in hi (by decide) hL) ?_
  refine EL_callM [.int (xs (nI i + nI 1).toNatClampNeg), .int (xs (nI i + nI 2).toNatClampNeg), .int (xs (nI i + nI 3).toNatClampNeg), .int (xs (nI i + nI 4).toNatClampNeg)] [.int r] [.int r, .int r] dL_law_1153 rfl kw_1278 kw_1279 kw_1280 kw_13 ko_X12_put rfl hy_X12_put rfl ⟨Nat.le_of_ble_eq_true rfl, Nat.le_of_ble_eq_true rfl⟩ (Nat.le_of_ble_eq_true rfl) hk (fun l => c_X12_put Γm (xs (nI i + nI 1).toNatClampNeg) (xs (nI i + nI 2).toNatClampNeg) (xs (nI i + nI 3).toNatClampNeg) (xs (nI i + nI 4).toNatClampNeg) τ (r, τ') e2 l) rfl ?_
  refine EL_eq 1337 dL_law_1156 (by decide) ?_
  exact hq σ' τ' hr'
theorem lc_31 (hL : L ≤ 3072) (hi : i + 6 ≤ L) (hk : k ≤ 600000 ∧ n ≤ 7302250) (hr : Rel σ τ) (hq : ∀ σ' τ', Rel σ' τ' → EL b L xs Γc Γm k n 1337 [(3, .int (nI i)), (2, .ref (Γm.2.1 0)), (1, .ref (Γc.2.1 0)), (0, .ref b)] [] σ' τ') : EL b L xs Γc Γm k n 1161 [(3, .int (nI i)), (2, .ref (Γm.2.1 0)), (1, .ref (Γc.2.1 0)), (0, .ref b)] [] σ τ := by
  obtain ⟨r, σ', τ', e1, e2, hr'⟩ := o_get (xs (nI i + nI 1).toNatClampNeg) (xs (nI i + nI 2).toNatClampNeg) (xs (nI i + nI 3).toNatClampNeg) σ τ hr
  refine EL_aload_n 2 dL_law_1161 rfl rfl ?_
  refine EL_aload_n 3 dL_law_1162 rfl rfl ?_
  refine EL_iload_n 0 dL_law_1163 rfl rfl ?_
  refine EL_iconst (v := nI 1) dL_law_1164 (by decide) ?_
  refine EL_iadd dL_law_1165 ?_
  refine EL_iald dL_law_1166 (sc_in hi (by decide) hL) ?_
  refine EL_aload_n 3 dL_law_1167 rfl rfl ?_
  refine EL_iload_n 0 dL_law_1168 rfl rfl ?_
  refine EL_iconst (v := nI 2) dL_law_1169 (by decide) ?_
  refine EL_iadd dL_law_1170 ?_
  refine EL_iald dL_law_1171 (sc_in hi (by decide) hL) ?_
  refine EL_aload_n 3 dL_law_1172 rfl rfl ?_
  refine EL_iload_n 0 dL_law_1173 rfl rfl ?_
  refine EL_iconst (v := nI 3) dL_law_1174 (by decide) ?_
  refine EL_iadd dL_law_1175 ?_
  refine EL_iald dL_law_1176 (sc_in hi (by decide) hL) ?_
  refine EL_callC [.int (xs (nI i + nI 1).toNatClampNeg), .int (xs (nI i + nI 2).toNatClampNeg), .int (xs (nI i + nI 3).toNatClampNeg)] [] [.int r] dL_law_1177 rfl kw_802 kw_803 kw_804 kw_1 ko_X11_get rfl hy_X11_get rfl ⟨Nat.le_of_ble_eq_true rfl, Nat.le_of_ble_eq_true rfl⟩ (Nat.le_of_ble_eq_true rfl) hk (fun l => c_X11_get Γc (xs (nI i + nI 1).toNatClampNeg) (xs (nI i + nI 2).toNatClampNeg) (xs (nI i + nI 3).toNatClampNeg) σ (r, σ') e1 l) rfl ?_
  refine EL_aload_n 1 dL_law_1180 rfl rfl ?_
  refine EL_aload_n 3 dL_law_1181 rfl rfl ?_
  refine EL_iload_n 0 dL_law_1182 rfl rfl ?_
  refine EL_iconst (v := nI 1) dL_law_1183 (by decide) ?_
  refine EL_iadd dL_law_1184 ?_
  refine EL_iald dL_law_1185 (sc_in hi (by decide) hL) ?_
  refine EL_aload_n 3 dL_law_1186 rfl rfl ?_
  refine EL_iload_n 0 dL_law_1187 rfl rfl ?_
  refine EL_iconst (v := nI 2) dL_law_1188 (by decide) ?_
  refine EL_iadd dL_law_1189 ?_
  refine EL_iald dL_law_1190 (sc_in hi (by decide) hL) ?_
  refine EL_aload_n 3 dL_law_1191 rfl rfl ?_
  refine EL_iload_n 0 dL_law_1192 rfl rfl ?_
  refine EL_iconst (v := nI 3) dL_law_1193 (by decide) ?_
  refine EL_iadd dL_law_1194 ?_
  refine EL_iald dL_law_1195 (sc_in hi (by decide) hL) ?_
  refine EL_callM [.int (xs (nI i + nI 1).toNatClampNeg), .int (xs (nI i + nI 2).toNatClampNeg), .int (xs (nI i + nI 3).toNatClampNeg)] [.int r] [.int r, .int r] dL_law_1196 rfl kw_1290 kw_1291 kw_1292 kw_13 ko_X12_get rfl hy_X12_get rfl ⟨Nat.le_of_ble_eq_true rfl, Nat.le_of_ble_eq_true rfl⟩ (Nat.le_of_ble_eq_true rfl) hk (fun l => c_X12_get Γm (xs (nI i + nI 1).toNatClampNeg) (xs (nI i + nI 2).toNatClampNeg) (xs (nI i + nI 3).toNatClampNeg) τ (r, τ') e2 l) rfl ?_
  refine EL_eq 1337 dL_law_1199 (by decide) ?_
  exact hq σ' τ' hr'
theorem lc_32 (hL : L ≤ 3072) (hi : i + 6 ≤ L) (hk : k ≤ 600000 ∧ n ≤ 7302250) (hr : Rel σ τ) (hq : ∀ σ' τ', Rel σ' τ' → EL b L xs Γc Γm k n 1337 [(3, .int (nI i)), (2, .ref (Γm.2.1 0)), (1, .ref (Γc.2.1 0)), (0, .ref b)] [] σ' τ') : EL b L xs Γc Γm k n 1204 [(3, .int (nI i)), (2, .ref (Γm.2.1 0)), (1, .ref (Γc.2.1 0)), (0, .ref b)] [] σ τ := by
  obtain ⟨r, σ', τ', e1, e2, hr'⟩ := o_copy (xs (nI i + nI 1).toNatClampNeg) (xs (nI i + nI 2).toNatClampNeg) (xs (nI i + nI 3).toNatClampNeg) (xs (nI i + nI 4).toNatClampNeg) (xs (nI i + nI 5).toNatClampNeg) σ τ hr
  refine EL_aload_n 2 dL_law_1204 rfl rfl ?_
  refine EL_aload_n 3 dL_law_1205 rfl rfl ?_
  refine EL_iload_n 0 dL_law_1206 rfl rfl ?_
  refine EL_iconst (v := nI 1) dL_law_1207 (by decide) ?_
  refine EL_iadd dL_law_1208 ?_
  refine EL_iald dL_law_1209 (sc_in hi (by decide) hL) ?_
  refine EL_aload_n 3 dL_law_1210 rfl rfl ?_
  refine EL_iload_n 0 dL_law_1211 rfl rfl ?_
  refine EL_iconst (v := nI 2) dL_law_1212 (by decide) ?_
  refine EL_iadd dL_law_1213 ?_
  refine EL_iald dL_law_1214 (sc_in hi (by decide) hL) ?_
  refine EL_aload_n 3 dL_law_1215 rfl rfl ?_
  refine EL_iload_n 0 dL_law_1216 rfl rfl ?_
  refine EL_iconst (v := nI 3) dL_law_1217 (by decide) ?_
  refine EL_iadd dL_law_1218 ?_
  refine EL_iald dL_law_1219 (sc_in hi (by decide) hL) ?_
  refine EL_aload_n 3 dL_law_1220 rfl rfl ?_
  refine EL_iload_n 0 dL_law_1221 rfl rfl ?_
  refine EL_iconst (v := nI 4) dL_law_1222 (by decide) ?_
  refine EL_iadd dL_law_1223 ?_
  refine EL_iald dL_law_1224 (sc_in hi (by decide) hL) ?_
  refine EL_aload_n 3 dL_law_1225 rfl rfl ?_
  refine EL_iload_n 0 dL_law_1226 rfl rfl ?_
  refine EL_iconst (v := nI 5) dL_law_1227 (by decide) ?_
  refine EL_iadd dL_law_1228 ?_
  refine EL_iald dL_law_1229 (sc_in hi (by decide) hL) ?_
  refine EL_callC [.int (xs (nI i + nI 1).toNatClampNeg), .int (xs (nI i + nI 2).toNatClampNeg), .int (xs (nI i + nI 3).toNatClampNeg), .int (xs (nI i + nI 4).toNatClampNeg), .int (xs (nI i + nI 5).toNatClampNeg)] [] [.int r] dL_law_1230 rfl kw_807 kw_808 kw_809 kw_1 ko_X11_copy rfl hy_X11_copy rfl ⟨Nat.le_of_ble_eq_true rfl, Nat.le_of_ble_eq_true rfl⟩ (Nat.le_of_ble_eq_true rfl) hk (fun l => c_X11_copy Γc (xs (nI i + nI 1).toNatClampNeg) (xs (nI i + nI 2).toNatClampNeg) (xs (nI i + nI 3).toNatClampNeg) (xs (nI i + nI 4).toNatClampNeg) (xs (nI i + nI 5).toNatClampNeg) σ (r, σ') e1 l) rfl ?_
  refine EL_aload_n 1 dL_law_1233 rfl rfl ?_
  refine EL_aload_n 3 dL_law_1234 rfl rfl ?_
  refine EL_iload_n 0 dL_law_1235 rfl rfl ?_
  refine EL_iconst (v := nI 1) dL_law_1236 (by decide) ?_
  refine EL_iadd dL_law_1237 ?_
  refine EL_iald dL_law_1238 (sc_in hi (by decide) hL) ?_
  refine EL_aload_n 3 dL_law_1239 rfl rfl ?_
  refine EL_iload_n 0 dL_law_1240 rfl rfl ?_
  refine EL_iconst (v := nI 2) dL_law_1241 (by decide) ?_
  refine EL_iadd dL_law_1242 ?_
  refine EL_iald dL_law_1243 (sc_in hi (by decide) hL) ?_
  refine EL_aload_n 3 dL_law_1244 rfl rfl ?_
  refine EL_iload_n 0 dL_law_1245 rfl rfl ?_
  refine EL_iconst (v := nI 3) dL_law_1246 (by decide) ?_
  refine EL_iadd dL_law_1247 ?_
  refine EL_iald dL_law_1248 (sc_in hi (by decide) hL) ?_
  refine EL_aload_n 3 dL_law_1249 rfl rfl ?_
  refine EL_iload_n 0 dL_law_1250 rfl rfl ?_
  refine EL_iconst (v := nI 4) dL_law_1251 (by decide) ?_
  refine EL_iadd dL_law_1252 ?_
  refine EL_iald dL_law_1253 (sc_in hi (by decide) hL) ?_
  refine EL_aload_n 3 dL_law_1254 rfl rfl ?_
  refine EL_iload_n 0 dL_law_1255 rfl rfl ?_
  refine EL_iconst (v := nI 5) dL_law_1256 (by decide) ?_
  refine EL_iadd dL_law_1257 ?_
  refine EL_iald dL_law_1258 (sc_in hi (by decide) hL) ?_
  refine EL_callM [.int (xs (nI i + nI 1).toNatClampNeg), .int (xs (nI i + nI 2).toNatClampNeg), .int (xs (nI i + nI 3).toNatClampNeg), .int (xs (nI i + nI 4).toNatClampNeg), .int (xs (nI i + nI 5).toNatClampNeg)] [.int r] [.int r, .int r] dL_law_1259 rfl kw_1295 kw_1296 kw_1297 kw_13 ko_X12_copy rfl hy_X12_copy rfl ⟨Nat.le_of_ble_eq_true rfl, Nat.le_of_ble_eq_true rfl⟩ (Nat.le_of_ble_eq_true rfl) hk (fun l => c_X12_copy Γm (xs (nI i + nI 1).toNatClampNeg) (xs (nI i + nI 2).toNatClampNeg) (xs (nI i + nI 3).toNatClampNeg) (xs (nI i + nI 4).toNatClampNeg) (xs (nI i + nI 5).toNatClampNeg) τ (r, τ') e2 l) rfl ?_
  refine EL_eq 1337 dL_law_1262 (by decide) ?_
  exact hq σ' τ' hr'
theorem lc_33 (hL : L ≤ 3072) (hi : i + 6 ≤ L) (hk : k ≤ 600000 ∧ n ≤ 7302250) (hr : Rel σ τ) (hq : ∀ σ' τ', Rel σ' τ' → EL b L xs Γc Γm k n 1337 [(3, .int (nI i)), (2, .ref (Γm.2.1 0)), (1, .ref (Γc.2.1 0)), (0, .ref b)] [] σ' τ') : EL b L xs Γc Γm k n 1267 [(3, .int (nI i)), (2, .ref (Γm.2.1 0)), (1, .ref (Γc.2.1 0)), (0, .ref b)] [] σ τ := by
  obtain ⟨r, σ', τ', e1, e2, hr'⟩ := o_write (xs (nI i + nI 1).toNatClampNeg) (xs (nI i + nI 2).toNatClampNeg) σ τ hr
  refine EL_aload_n 2 dL_law_1267 rfl rfl ?_
  refine EL_aload_n 3 dL_law_1268 rfl rfl ?_
  refine EL_iload_n 0 dL_law_1269 rfl rfl ?_
  refine EL_iconst (v := nI 1) dL_law_1270 (by decide) ?_
  refine EL_iadd dL_law_1271 ?_
  refine EL_iald dL_law_1272 (sc_in hi (by decide) hL) ?_
  refine EL_aload_n 3 dL_law_1273 rfl rfl ?_
  refine EL_iload_n 0 dL_law_1274 rfl rfl ?_
  refine EL_iconst (v := nI 2) dL_law_1275 (by decide) ?_
  refine EL_iadd dL_law_1276 ?_
  refine EL_iald dL_law_1277 (sc_in hi (by decide) hL) ?_
  refine EL_callC [.int (xs (nI i + nI 1).toNatClampNeg), .int (xs (nI i + nI 2).toNatClampNeg)] [] [.int r] dL_law_1278 rfl kw_818 kw_819 kw_820 kw_1 ko_X11_write rfl hy_X11_write rfl ⟨Nat.le_of_ble_eq_true rfl, Nat.le_of_ble_eq_true rfl⟩ (Nat.le_of_ble_eq_true rfl) hk (fun l => c_X11_write Γc (xs (nI i + nI 1).toNatClampNeg) (xs (nI i + nI 2).toNatClampNeg) σ (r, σ') e1 l) rfl ?_
  refine EL_aload_n 1 dL_law_1281 rfl rfl ?_
  refine EL_aload_n 3 dL_law_1282 rfl rfl ?_
  refine EL_iload_n 0 dL_law_1283 rfl rfl ?_
  refine EL_iconst (v := nI 1) dL_law_1284 (by decide) ?_
  refine EL_iadd dL_law_1285 ?_
  refine EL_iald dL_law_1286 (sc_in hi (by decide) hL) ?_
  refine EL_aload_n 3 dL_law_1287 rfl rfl ?_
  refine EL_iload_n 0 dL_law_1288 rfl rfl ?_
  refine EL_iconst (v := nI 2) dL_law_1289 (by decide) ?_
  refine EL_iadd dL_law_1290 ?_
  refine EL_iald dL_law_1291 (sc_in hi (by decide) hL) ?_
  refine EL_callM [.int (xs (nI i + nI 1).toNatClampNeg), .int (xs (nI i + nI 2).toNatClampNeg)] [.int r] [.int r, .int r] dL_law_1292 rfl kw_1299 kw_1300 kw_1301 kw_13 ko_X12_write rfl hy_X12_write rfl ⟨Nat.le_of_ble_eq_true rfl, Nat.le_of_ble_eq_true rfl⟩ (Nat.le_of_ble_eq_true rfl) hk (fun l => c_X12_write Γm (xs (nI i + nI 1).toNatClampNeg) (xs (nI i + nI 2).toNatClampNeg) τ (r, τ') e2 l) rfl ?_
  refine EL_eq 1337 dL_law_1295 (by decide) ?_
  exact hq σ' τ' hr'
theorem lc_34 (hL : L ≤ 3072) (hi : i + 6 ≤ L) (hk : k ≤ 600000 ∧ n ≤ 7302250) (hr : Rel σ τ) (hq : ∀ σ' τ', Rel σ' τ' → EL b L xs Γc Γm k n 1337 [(3, .int (nI i)), (2, .ref (Γm.2.1 0)), (1, .ref (Γc.2.1 0)), (0, .ref b)] [] σ' τ') : EL b L xs Γc Γm k n 1300 [(3, .int (nI i)), (2, .ref (Γm.2.1 0)), (1, .ref (Γc.2.1 0)), (0, .ref b)] [] σ τ := by
  obtain ⟨r, σ', τ', e1, e2, hr'⟩ := o_count (xs (nI i + nI 1).toNatClampNeg) σ τ hr
  refine EL_aload_n 2 dL_law_1300 rfl rfl ?_
  refine EL_aload_n 3 dL_law_1301 rfl rfl ?_
  refine EL_iload_n 0 dL_law_1302 rfl rfl ?_
  refine EL_iconst (v := nI 1) dL_law_1303 (by decide) ?_
  refine EL_iadd dL_law_1304 ?_
  refine EL_iald dL_law_1305 (sc_in hi (by decide) hL) ?_
  refine EL_callC [.int (xs (nI i + nI 1).toNatClampNeg)] [] [.int r] dL_law_1306 rfl kw_823 kw_824 kw_825 kw_1 ko_X11_count rfl hy_X11_count rfl ⟨Nat.le_of_ble_eq_true rfl, Nat.le_of_ble_eq_true rfl⟩ (Nat.le_of_ble_eq_true rfl) hk (fun l => c_X11_count Γc (xs (nI i + nI 1).toNatClampNeg) σ (r, σ') e1 l) rfl ?_
  refine EL_aload_n 1 dL_law_1309 rfl rfl ?_
  refine EL_aload_n 3 dL_law_1310 rfl rfl ?_
  refine EL_iload_n 0 dL_law_1311 rfl rfl ?_
  refine EL_iconst (v := nI 1) dL_law_1312 (by decide) ?_
  refine EL_iadd dL_law_1313 ?_
  refine EL_iald dL_law_1314 (sc_in hi (by decide) hL) ?_
  refine EL_callM [.int (xs (nI i + nI 1).toNatClampNeg)] [.int r] [.int r, .int r] dL_law_1315 rfl kw_1303 kw_1304 kw_1305 kw_13 ko_X12_count rfl hy_X12_count rfl ⟨Nat.le_of_ble_eq_true rfl, Nat.le_of_ble_eq_true rfl⟩ (Nat.le_of_ble_eq_true rfl) hk (fun l => c_X12_count Γm (xs (nI i + nI 1).toNatClampNeg) τ (r, τ') e2 l) rfl ?_
  refine EL_eq 1337 dL_law_1318 (by decide) ?_
  exact hq σ' τ' hr'
theorem lc_35 (hL : L ≤ 3072) (hi : i + 6 ≤ L) (hk : k ≤ 600000 ∧ n ≤ 7302250) (hr : Rel σ τ) (hq : ∀ σ' τ', Rel σ' τ' → EL b L xs Γc Γm k n 1337 [(3, .int (nI i)), (2, .ref (Γm.2.1 0)), (1, .ref (Γc.2.1 0)), (0, .ref b)] [] σ' τ') : EL b L xs Γc Γm k n 1323 [(3, .int (nI i)), (2, .ref (Γm.2.1 0)), (1, .ref (Γc.2.1 0)), (0, .ref b)] [] σ τ := by
  obtain ⟨r, σ', τ', e1, e2, hr'⟩ := o_digest σ τ hr
  refine EL_aload_n 2 dL_law_1323 rfl rfl ?_
  refine EL_callC [] [] [.long r] dL_law_1324 rfl kw_840 kw_841 kw_842 kw_1 ko_X11_digest rfl hy_X11_digest rfl ⟨Nat.le_of_ble_eq_true rfl, Nat.le_of_ble_eq_true rfl⟩ (Nat.le_of_ble_eq_true rfl) hk (fun l => c_X11_digest Γc σ (r, σ') e1 l) rfl ?_
  refine EL_aload_n 1 dL_law_1327 rfl rfl ?_
  refine EL_callM [] [.long r] [.long r, .long r] dL_law_1328 rfl kw_1311 kw_1312 kw_1313 kw_13 ko_X12_digest rfl hy_X12_digest rfl ⟨Nat.le_of_ble_eq_true rfl, Nat.le_of_ble_eq_true rfl⟩ (Nat.le_of_ble_eq_true rfl) hk (fun l => c_X12_digest Γm τ (r, τ') e2 l) rfl ?_
  refine EL_lcmp dL_law_1331 ?_
  refine EL_ifeq 1337 dL_law_1332 (by decide) ?_
  exact hq σ' τ' hr'
end Cases
