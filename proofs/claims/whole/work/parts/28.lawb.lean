/-! the law's cases (written by wip/whole/law.py) -/
section LWC
variable {p : Program} {l : Launch} {e : Env} {s : State} {m : MethodId} {args : Array Value} {below : List Frame} {meth : Method} {c : Code} {H : Heap} {locs : List Loc} {cells slots : Nat} {Q : State → Prop} {Z : um_Z} {R : Nat → um_S → um_S → Prop} {n b L : Nat} {αx αm : Nat → Nat} {σx σm : um_S} {xs : Nat → Int32} {A : Nat → Prop} {ls : Array Slot} {v3 : Int32}
/-- what holds of the law's own frame -/
def lw_F (p : Program) (s : State) (m : MethodId) (meth : Method) (c : Code) (args : Array Value) (Z : um_Z) (b L : Nat) (xs : Nat → Int32) (A : Nat → Prop) : Prop := um_C p s m meth c args code 4 ret RL Z ∧ va_X b L xs s s.heap ∧ b < s.heap.size ∧ ¬ A b ∧ (∀ q, A q → um_old Z q) ∧ ∀ q, um_old Z q → A q
def lw_ix (v3 : Int32) (L : Nat) : Prop := vp_in (v3 + 1) L ∧ vp_in (v3 + 2) L ∧ vp_in (v3 + 3) L ∧ vp_in (v3 + 4) L ∧ vp_in (v3 + 5) L
/-- where a case goes on -/
abbrev lw_K (p : Program) (l : Launch) (e : Env) (s : State) (m : MethodId) (args : Array Value) (below : List Frame) (meth : Method) (c : Code) (Q : State → Prop) (Z : um_Z) (R : Nat → um_S → um_S → Prop) (αx αm : Nat → Nat) (A : Nat → Prop) (ls : Array Slot) (cells slots : Nat) : Prop :=
  ∀ (n' : Nat) (αx' : Nat → Nat) (σx' σm' : um_S) (H' : Heap) (locs' : List Loc), R n' σx' σm' → lw_I Z n' αx' αm σx' σm' H' → αx' 0 = αx 0 → va_S A s.heap H' locs' → W p l e room_1 s m args below meth c H' locs' (cells + 3) (slots + 197) Q (F0 m 2016 ls [])
set_option maxHeartbeats 4000000 in
theorem lw_c0 (F0' : lw_F p s m meth c args Z b L xs A) (hSim : sim_ship R) (hi : lw_ix v3 L) (hR : R n σx σm) (hI : lw_I Z n αx αm σx σm H) (hS : va_S A s.heap H locs) (hl : lv_has ls 4 [(0, .ref b), (1, .ref (αx 0)), (2, .ref (αm 0)), (3, .int v3)]) (hcs : cells + 3 ≤ 600000) (hss : slots + 197 ≤ 7302250) (kk : lw_K p l e s m args below meth c Q Z R αx αm A ls cells slots) : W p l e room_1 s m args below meth c H locs cells slots Q (F0 m 264 ls []) := by
  obtain ⟨Cx, hX, hbl, hbA, hAo, hAn⟩ := F0'
  have hx := Cx.1
  have hb := Cx.2.1
  obtain ⟨r, σx', σm', hfx, hfm, hR'⟩ := hSim n σx σm (xs (v3 + 1).toNatClampNeg) (xs (v3 + 2).toNatClampNeg) hR
  refine lv_aload_n (pc := 264) hx hb dL_law_264 rfl (lv_at hl 1 rfl) ?_
  refine lv_aload_n (pc := 265) hx hb dL_law_265 rfl (lv_at hl 0 rfl) ?_
  refine lv_iload_n (pc := 266) hx hb dL_law_266 rfl (lv_at hl 3 rfl) ?_
  refine lv_iconst (pc := 267) (v := (1 : Int32)) hx hb dL_law_267 (by decide) ?_
  refine lv_iadd (pc := 268) hx hb dL_law_268 ?_
  refine va_sld (pc := 269) hx hb hX hbl hbA hS hi.1 dL_law_269 ?_
  refine lv_aload_n (pc := 270) hx hb dL_law_270 rfl (lv_at hl 0 rfl) ?_
  refine lv_iload_n (pc := 271) hx hb dL_law_271 rfl (lv_at hl 3 rfl) ?_
  refine lv_iconst (pc := 272) (v := (2 : Int32)) hx hb dL_law_272 (by decide) ?_
  refine lv_iadd (pc := 273) hx hb dL_law_273 ?_
  refine va_sld (pc := 274) hx hb hX hbl hbA hS hi.2.1 dL_law_274 ?_
  refine um_cVM (pc := 275) (k := 0) (As := [.int (xs (v3 + 1).toNatClampNeg), .int (xs (v3 + 2).toNatClampNeg)]) (rest := []) Cx (c_X8_ship (xs (v3 + 1).toNatClampNeg) (xs (v3 + 2).toNatClampNeg) (xshn_X n) hfx) kV_X8_ship (Or.inl qM_L_13) hI.1 hS hAo (fun q h => hAn q (hI.1.old q h)) (xshn_X n 0 _ rfl) rfl rfl hl rfl (Nat.le_of_ble_eq_true rfl) (Nat.le_of_ble_eq_true rfl) (Nat.le_of_ble_eq_true rfl) dL_law_275 (by show cells ≤ 600000; omega) (by show slots ≤ 7302250; omega) (fun H1 locs1 hW1 z1 o1 hS1 => ?_)
  replace hI := hI.sx hW1 o1
  have e0 : αx 0 = αx 0 := rfl
  clear o1 hW1
  clear hS
  have hS := hS1
  clear hS1
  refine lv_aload_n (pc := 278) hx hb dL_law_278 rfl (lv_at hl 2 rfl) ?_
  refine lv_aload_n (pc := 279) hx hb dL_law_279 rfl (lv_at hl 0 rfl) ?_
  refine lv_iload_n (pc := 280) hx hb dL_law_280 rfl (lv_at hl 3 rfl) ?_
  refine lv_iconst (pc := 281) (v := (1 : Int32)) hx hb dL_law_281 (by decide) ?_
  refine lv_iadd (pc := 282) hx hb dL_law_282 ?_
  refine va_sld (pc := 283) hx hb hX hbl hbA hS hi.1 dL_law_283 ?_
  refine lv_aload_n (pc := 284) hx hb dL_law_284 rfl (lv_at hl 0 rfl) ?_
  refine lv_iload_n (pc := 285) hx hb dL_law_285 rfl (lv_at hl 3 rfl) ?_
  refine lv_iconst (pc := 286) (v := (2 : Int32)) hx hb dL_law_286 (by decide) ?_
  refine lv_iadd (pc := 287) hx hb dL_law_287 ?_
  refine va_sld (pc := 288) hx hb hX hbl hbA hS hi.2.1 dL_law_288 ?_
  refine um_cVM (pc := 289) (k := 0) (As := [.int (xs (v3 + 1).toNatClampNeg), .int (xs (v3 + 2).toNatClampNeg)]) (rest := [.int r]) Cx (c_X9_ship (xs (v3 + 1).toNatClampNeg) (xs (v3 + 2).toNatClampNeg) hfm) kV_X9_ship (Or.inl qM_L_17) hI.2.1 hS hAo (fun q h => hAn q (hI.2.1.old q h)) rfl rfl rfl hl rfl (Nat.le_of_ble_eq_true rfl) (Nat.le_of_ble_eq_true rfl) (Nat.le_of_ble_eq_true rfl) dL_law_289 (by show cells ≤ 600000; omega) (by show slots ≤ 7302250; omega) (fun H2 locs2 hW2 z2 o2 hS2 => ?_)
  replace hI := hI.sm hW2 o2
  refine lv_icmp_eq (pc := 292) (tgt := 2016) hx hb dL_law_292 (by decide) (fun _ => ?_) (fun h => absurd rfl h)
  refine W.widen (k := cells + 3) (n := slots + 197) (by omega) (by omega) ?_
  exact kk _ _ _ _ _ _ hR' hI e0 hS2
set_option maxHeartbeats 4000000 in
theorem lw_c1 (F0' : lw_F p s m meth c args Z b L xs A) (hSim : sim_man R) (hi : lw_ix v3 L) (hR : R n σx σm) (hI : lw_I Z n αx αm σx σm H) (hS : va_S A s.heap H locs) (hl : lv_has ls 4 [(0, .ref b), (1, .ref (αx 0)), (2, .ref (αm 0)), (3, .int v3)]) (hcs : cells + 3 ≤ 600000) (hss : slots + 197 ≤ 7302250) (kk : lw_K p l e s m args below meth c Q Z R αx αm A ls cells slots) : W p l e room_1 s m args below meth c H locs cells slots Q (F0 m 297 ls []) := by
  obtain ⟨Cx, hX, hbl, hbA, hAo, hAn⟩ := F0'
  have hx := Cx.1
  have hb := Cx.2.1
  obtain ⟨r, σx', σm', hfx, hfm, hR'⟩ := hSim n σx σm (xs (v3 + 1).toNatClampNeg) (xs (v3 + 2).toNatClampNeg) (xs (v3 + 3).toNatClampNeg) (xs (v3 + 4).toNatClampNeg) (xs (v3 + 5).toNatClampNeg) hR
  refine lv_aload_n (pc := 297) hx hb dL_law_297 rfl (lv_at hl 1 rfl) ?_
  refine lv_aload_n (pc := 298) hx hb dL_law_298 rfl (lv_at hl 0 rfl) ?_
  refine lv_iload_n (pc := 299) hx hb dL_law_299 rfl (lv_at hl 3 rfl) ?_
  refine lv_iconst (pc := 300) (v := (1 : Int32)) hx hb dL_law_300 (by decide) ?_
  refine lv_iadd (pc := 301) hx hb dL_law_301 ?_
  refine va_sld (pc := 302) hx hb hX hbl hbA hS hi.1 dL_law_302 ?_
  refine lv_aload_n (pc := 303) hx hb dL_law_303 rfl (lv_at hl 0 rfl) ?_
  refine lv_iload_n (pc := 304) hx hb dL_law_304 rfl (lv_at hl 3 rfl) ?_
  refine lv_iconst (pc := 305) (v := (2 : Int32)) hx hb dL_law_305 (by decide) ?_
  refine lv_iadd (pc := 306) hx hb dL_law_306 ?_
  refine va_sld (pc := 307) hx hb hX hbl hbA hS hi.2.1 dL_law_307 ?_
  refine lv_aload_n (pc := 308) hx hb dL_law_308 rfl (lv_at hl 0 rfl) ?_
  refine lv_iload_n (pc := 309) hx hb dL_law_309 rfl (lv_at hl 3 rfl) ?_
  refine lv_iconst (pc := 310) (v := (3 : Int32)) hx hb dL_law_310 (by decide) ?_
  refine lv_iadd (pc := 311) hx hb dL_law_311 ?_
  refine va_sld (pc := 312) hx hb hX hbl hbA hS hi.2.2.1 dL_law_312 ?_
  refine lv_aload_n (pc := 313) hx hb dL_law_313 rfl (lv_at hl 0 rfl) ?_
  refine lv_iload_n (pc := 314) hx hb dL_law_314 rfl (lv_at hl 3 rfl) ?_
  refine lv_iconst (pc := 315) (v := (4 : Int32)) hx hb dL_law_315 (by decide) ?_
  refine lv_iadd (pc := 316) hx hb dL_law_316 ?_
  refine va_sld (pc := 317) hx hb hX hbl hbA hS hi.2.2.2.1 dL_law_317 ?_
  refine lv_aload_n (pc := 318) hx hb dL_law_318 rfl (lv_at hl 0 rfl) ?_
  refine lv_iload_n (pc := 319) hx hb dL_law_319 rfl (lv_at hl 3 rfl) ?_
  refine lv_iconst (pc := 320) (v := (5 : Int32)) hx hb dL_law_320 (by decide) ?_
  refine lv_iadd (pc := 321) hx hb dL_law_321 ?_
  refine va_sld (pc := 322) hx hb hX hbl hbA hS hi.2.2.2.2 dL_law_322 ?_
  refine um_cVM (pc := 323) (k := 0) (As := [.int (xs (v3 + 1).toNatClampNeg), .int (xs (v3 + 2).toNatClampNeg), .int (xs (v3 + 3).toNatClampNeg), .int (xs (v3 + 4).toNatClampNeg), .int (xs (v3 + 5).toNatClampNeg)]) (rest := []) Cx (c_X8_man (xs (v3 + 1).toNatClampNeg) (xs (v3 + 2).toNatClampNeg) (xs (v3 + 3).toNatClampNeg) (xs (v3 + 4).toNatClampNeg) (xs (v3 + 5).toNatClampNeg) (xshn_X n) hfx) kV_X8_man (Or.inl qM_L_18) hI.1 hS hAo (fun q h => hAn q (hI.1.old q h)) (xshn_X n 0 _ rfl) rfl rfl hl rfl (Nat.le_of_ble_eq_true rfl) (Nat.le_of_ble_eq_true rfl) (Nat.le_of_ble_eq_true rfl) dL_law_323 (by show cells ≤ 600000; omega) (by show slots ≤ 7302250; omega) (fun H1 locs1 hW1 z1 o1 hS1 => ?_)
  replace hI := hI.sx hW1 o1
  have e0 : αx 0 = αx 0 := rfl
  clear o1 hW1
  clear hS
  have hS := hS1
  clear hS1
  refine lv_aload_n (pc := 326) hx hb dL_law_326 rfl (lv_at hl 2 rfl) ?_
  refine lv_aload_n (pc := 327) hx hb dL_law_327 rfl (lv_at hl 0 rfl) ?_
  refine lv_iload_n (pc := 328) hx hb dL_law_328 rfl (lv_at hl 3 rfl) ?_
  refine lv_iconst (pc := 329) (v := (1 : Int32)) hx hb dL_law_329 (by decide) ?_
  refine lv_iadd (pc := 330) hx hb dL_law_330 ?_
  refine va_sld (pc := 331) hx hb hX hbl hbA hS hi.1 dL_law_331 ?_
  refine lv_aload_n (pc := 332) hx hb dL_law_332 rfl (lv_at hl 0 rfl) ?_
  refine lv_iload_n (pc := 333) hx hb dL_law_333 rfl (lv_at hl 3 rfl) ?_
  refine lv_iconst (pc := 334) (v := (2 : Int32)) hx hb dL_law_334 (by decide) ?_
  refine lv_iadd (pc := 335) hx hb dL_law_335 ?_
  refine va_sld (pc := 336) hx hb hX hbl hbA hS hi.2.1 dL_law_336 ?_
  refine lv_aload_n (pc := 337) hx hb dL_law_337 rfl (lv_at hl 0 rfl) ?_
  refine lv_iload_n (pc := 338) hx hb dL_law_338 rfl (lv_at hl 3 rfl) ?_
  refine lv_iconst (pc := 339) (v := (3 : Int32)) hx hb dL_law_339 (by decide) ?_
  refine lv_iadd (pc := 340) hx hb dL_law_340 ?_
  refine va_sld (pc := 341) hx hb hX hbl hbA hS hi.2.2.1 dL_law_341 ?_
  refine lv_aload_n (pc := 342) hx hb dL_law_342 rfl (lv_at hl 0 rfl) ?_
  refine lv_iload_n (pc := 343) hx hb dL_law_343 rfl (lv_at hl 3 rfl) ?_
  refine lv_iconst (pc := 344) (v := (4 : Int32)) hx hb dL_law_344 (by decide) ?_
  refine lv_iadd (pc := 345) hx hb dL_law_345 ?_
  refine va_sld (pc := 346) hx hb hX hbl hbA hS hi.2.2.2.1 dL_law_346 ?_
  refine lv_aload_n (pc := 347) hx hb dL_law_347 rfl (lv_at hl 0 rfl) ?_
  refine lv_iload_n (pc := 348) hx hb dL_law_348 rfl (lv_at hl 3 rfl) ?_
  refine lv_iconst (pc := 349) (v := (5 : Int32)) hx hb dL_law_349 (by decide) ?_
  refine lv_iadd (pc := 350) hx hb dL_law_350 ?_
  refine va_sld (pc := 351) hx hb hX hbl hbA hS hi.2.2.2.2 dL_law_351 ?_
  refine um_cVM (pc := 352) (k := 0) (As := [.int (xs (v3 + 1).toNatClampNeg), .int (xs (v3 + 2).toNatClampNeg), .int (xs (v3 + 3).toNatClampNeg), .int (xs (v3 + 4).toNatClampNeg), .int (xs (v3 + 5).toNatClampNeg)]) (rest := [.int r]) Cx (c_X9_man (xs (v3 + 1).toNatClampNeg) (xs (v3 + 2).toNatClampNeg) (xs (v3 + 3).toNatClampNeg) (xs (v3 + 4).toNatClampNeg) (xs (v3 + 5).toNatClampNeg) hfm) kV_X9_man (Or.inl qM_L_22) hI.2.1 hS hAo (fun q h => hAn q (hI.2.1.old q h)) rfl rfl rfl hl rfl (Nat.le_of_ble_eq_true rfl) (Nat.le_of_ble_eq_true rfl) (Nat.le_of_ble_eq_true rfl) dL_law_352 (by show cells ≤ 600000; omega) (by show slots ≤ 7302250; omega) (fun H2 locs2 hW2 z2 o2 hS2 => ?_)
  replace hI := hI.sm hW2 o2
  refine lv_icmp_eq (pc := 355) (tgt := 2016) hx hb dL_law_355 (by decide) (fun _ => ?_) (fun h => absurd rfl h)
  refine W.widen (k := cells + 3) (n := slots + 197) (by omega) (by omega) ?_
  exact kk _ _ _ _ _ _ hR' hI e0 hS2
set_option maxHeartbeats 4000000 in
theorem lw_c2 (F0' : lw_F p s m meth c args Z b L xs A) (hSim : sim_term R) (hi : lw_ix v3 L) (hR : R n σx σm) (hI : lw_I Z n αx αm σx σm H) (hS : va_S A s.heap H locs) (hl : lv_has ls 4 [(0, .ref b), (1, .ref (αx 0)), (2, .ref (αm 0)), (3, .int v3)]) (hcs : cells + 3 ≤ 600000) (hss : slots + 197 ≤ 7302250) (kk : lw_K p l e s m args below meth c Q Z R αx αm A ls cells slots) : W p l e room_1 s m args below meth c H locs cells slots Q (F0 m 360 ls []) := by
  obtain ⟨Cx, hX, hbl, hbA, hAo, hAn⟩ := F0'
  have hx := Cx.1
  have hb := Cx.2.1
  obtain ⟨r, σx', σm', hfx, hfm, hR'⟩ := hSim n σx σm (xs (v3 + 1).toNatClampNeg) (xs (v3 + 2).toNatClampNeg) hR
  refine lv_aload_n (pc := 360) hx hb dL_law_360 rfl (lv_at hl 1 rfl) ?_
  refine lv_aload_n (pc := 361) hx hb dL_law_361 rfl (lv_at hl 0 rfl) ?_
  refine lv_iload_n (pc := 362) hx hb dL_law_362 rfl (lv_at hl 3 rfl) ?_
  refine lv_iconst (pc := 363) (v := (1 : Int32)) hx hb dL_law_363 (by decide) ?_
  refine lv_iadd (pc := 364) hx hb dL_law_364 ?_
  refine va_sld (pc := 365) hx hb hX hbl hbA hS hi.1 dL_law_365 ?_
  refine lv_aload_n (pc := 366) hx hb dL_law_366 rfl (lv_at hl 0 rfl) ?_
  refine lv_iload_n (pc := 367) hx hb dL_law_367 rfl (lv_at hl 3 rfl) ?_
  refine lv_iconst (pc := 368) (v := (2 : Int32)) hx hb dL_law_368 (by decide) ?_
  refine lv_iadd (pc := 369) hx hb dL_law_369 ?_
  refine va_sld (pc := 370) hx hb hX hbl hbA hS hi.2.1 dL_law_370 ?_
  refine um_cVM (pc := 371) (k := 0) (As := [.int (xs (v3 + 1).toNatClampNeg), .int (xs (v3 + 2).toNatClampNeg)]) (rest := []) Cx (c_X8_term (xs (v3 + 1).toNatClampNeg) (xs (v3 + 2).toNatClampNeg) (xshn_X n) hfx) kV_X8_term (Or.inl qM_L_23) hI.1 hS hAo (fun q h => hAn q (hI.1.old q h)) (xshn_X n 0 _ rfl) rfl rfl hl rfl (Nat.le_of_ble_eq_true rfl) (Nat.le_of_ble_eq_true rfl) (Nat.le_of_ble_eq_true rfl) dL_law_371 (by show cells ≤ 600000; omega) (by show slots ≤ 7302250; omega) (fun H1 locs1 hW1 z1 o1 hS1 => ?_)
  replace hI := hI.sx hW1 o1
  have e0 : αx 0 = αx 0 := rfl
  clear o1 hW1
  clear hS
  have hS := hS1
  clear hS1
  refine lv_aload_n (pc := 374) hx hb dL_law_374 rfl (lv_at hl 2 rfl) ?_
  refine lv_aload_n (pc := 375) hx hb dL_law_375 rfl (lv_at hl 0 rfl) ?_
  refine lv_iload_n (pc := 376) hx hb dL_law_376 rfl (lv_at hl 3 rfl) ?_
  refine lv_iconst (pc := 377) (v := (1 : Int32)) hx hb dL_law_377 (by decide) ?_
  refine lv_iadd (pc := 378) hx hb dL_law_378 ?_
  refine va_sld (pc := 379) hx hb hX hbl hbA hS hi.1 dL_law_379 ?_
  refine lv_aload_n (pc := 380) hx hb dL_law_380 rfl (lv_at hl 0 rfl) ?_
  refine lv_iload_n (pc := 381) hx hb dL_law_381 rfl (lv_at hl 3 rfl) ?_
  refine lv_iconst (pc := 382) (v := (2 : Int32)) hx hb dL_law_382 (by decide) ?_
  refine lv_iadd (pc := 383) hx hb dL_law_383 ?_
  refine va_sld (pc := 384) hx hb hX hbl hbA hS hi.2.1 dL_law_384 ?_
  refine um_cVM (pc := 385) (k := 0) (As := [.int (xs (v3 + 1).toNatClampNeg), .int (xs (v3 + 2).toNatClampNeg)]) (rest := [.int r]) Cx (c_X9_term (xs (v3 + 1).toNatClampNeg) (xs (v3 + 2).toNatClampNeg) hfm) kV_X9_term (Or.inl qM_L_26) hI.2.1 hS hAo (fun q h => hAn q (hI.2.1.old q h)) rfl rfl rfl hl rfl (Nat.le_of_ble_eq_true rfl) (Nat.le_of_ble_eq_true rfl) (Nat.le_of_ble_eq_true rfl) dL_law_385 (by show cells ≤ 600000; omega) (by show slots ≤ 7302250; omega) (fun H2 locs2 hW2 z2 o2 hS2 => ?_)
  replace hI := hI.sm hW2 o2
  refine lv_icmp_eq (pc := 388) (tgt := 2016) hx hb dL_law_388 (by decide) (fun _ => ?_) (fun h => absurd rfl h)
  refine W.widen (k := cells + 3) (n := slots + 197) (by omega) (by omega) ?_
  exact kk _ _ _ _ _ _ hR' hI e0 hS2
set_option maxHeartbeats 4000000 in
theorem lw_c3 (F0' : lw_F p s m meth c args Z b L xs A) (hSim : sim_told R) (hi : lw_ix v3 L) (hR : R n σx σm) (hI : lw_I Z n αx αm σx σm H) (hS : va_S A s.heap H locs) (hl : lv_has ls 4 [(0, .ref b), (1, .ref (αx 0)), (2, .ref (αm 0)), (3, .int v3)]) (hcs : cells + 3 ≤ 600000) (hss : slots + 197 ≤ 7302250) (kk : lw_K p l e s m args below meth c Q Z R αx αm A ls cells slots) : W p l e room_1 s m args below meth c H locs cells slots Q (F0 m 393 ls []) := by
  obtain ⟨Cx, hX, hbl, hbA, hAo, hAn⟩ := F0'
  have hx := Cx.1
  have hb := Cx.2.1
  obtain ⟨r, hfx, hfm, hR'⟩ := hSim n σx σm (xs (v3 + 1).toNatClampNeg) (xs (v3 + 2).toNatClampNeg) hR
  refine lv_aload_n (pc := 393) hx hb dL_law_393 rfl (lv_at hl 1 rfl) ?_
  refine lv_aload_n (pc := 394) hx hb dL_law_394 rfl (lv_at hl 0 rfl) ?_
  refine lv_iload_n (pc := 395) hx hb dL_law_395 rfl (lv_at hl 3 rfl) ?_
  refine lv_iconst (pc := 396) (v := (1 : Int32)) hx hb dL_law_396 (by decide) ?_
  refine lv_iadd (pc := 397) hx hb dL_law_397 ?_
  refine va_sld (pc := 398) hx hb hX hbl hbA hS hi.1 dL_law_398 ?_
  refine lv_aload_n (pc := 399) hx hb dL_law_399 rfl (lv_at hl 0 rfl) ?_
  refine lv_iload_n (pc := 400) hx hb dL_law_400 rfl (lv_at hl 3 rfl) ?_
  refine lv_iconst (pc := 401) (v := (2 : Int32)) hx hb dL_law_401 (by decide) ?_
  refine lv_iadd (pc := 402) hx hb dL_law_402 ?_
  refine va_sld (pc := 403) hx hb hX hbl hbA hS hi.2.1 dL_law_403 ?_
  refine um_cVM (pc := 404) (k := 0) (As := [.int (xs (v3 + 1).toNatClampNeg), .int (xs (v3 + 2).toNatClampNeg)]) (rest := []) Cx (c_X8_told (xs (v3 + 1).toNatClampNeg) (xs (v3 + 2).toNatClampNeg) (xshn_X n) hfx) kV_X8_told (Or.inl qM_L_27) hI.1 hS hAo (fun q h => hAn q (hI.1.old q h)) (xshn_X n 0 _ rfl) rfl rfl hl rfl (Nat.le_of_ble_eq_true rfl) (Nat.le_of_ble_eq_true rfl) (Nat.le_of_ble_eq_true rfl) dL_law_404 (by show cells ≤ 600000; omega) (by show slots ≤ 7302250; omega) (fun H1 locs1 hW1 z1 o1 hS1 => ?_)
  replace hI := hI.sx hW1 o1
  have e0 : αx 0 = αx 0 := rfl
  clear o1 hW1
  clear hS
  have hS := hS1
  clear hS1
  refine lv_aload_n (pc := 407) hx hb dL_law_407 rfl (lv_at hl 2 rfl) ?_
  refine lv_aload_n (pc := 408) hx hb dL_law_408 rfl (lv_at hl 0 rfl) ?_
  refine lv_iload_n (pc := 409) hx hb dL_law_409 rfl (lv_at hl 3 rfl) ?_
  refine lv_iconst (pc := 410) (v := (1 : Int32)) hx hb dL_law_410 (by decide) ?_
  refine lv_iadd (pc := 411) hx hb dL_law_411 ?_
  refine va_sld (pc := 412) hx hb hX hbl hbA hS hi.1 dL_law_412 ?_
  refine lv_aload_n (pc := 413) hx hb dL_law_413 rfl (lv_at hl 0 rfl) ?_
  refine lv_iload_n (pc := 414) hx hb dL_law_414 rfl (lv_at hl 3 rfl) ?_
  refine lv_iconst (pc := 415) (v := (2 : Int32)) hx hb dL_law_415 (by decide) ?_
  refine lv_iadd (pc := 416) hx hb dL_law_416 ?_
  refine va_sld (pc := 417) hx hb hX hbl hbA hS hi.2.1 dL_law_417 ?_
  refine um_cVM (pc := 418) (k := 0) (As := [.int (xs (v3 + 1).toNatClampNeg), .int (xs (v3 + 2).toNatClampNeg)]) (rest := [.int r]) Cx (c_X9_told (xs (v3 + 1).toNatClampNeg) (xs (v3 + 2).toNatClampNeg) hfm) kV_X9_told (Or.inl qM_L_30) hI.2.1 hS hAo (fun q h => hAn q (hI.2.1.old q h)) rfl rfl rfl hl rfl (Nat.le_of_ble_eq_true rfl) (Nat.le_of_ble_eq_true rfl) (Nat.le_of_ble_eq_true rfl) dL_law_418 (by show cells ≤ 600000; omega) (by show slots ≤ 7302250; omega) (fun H2 locs2 hW2 z2 o2 hS2 => ?_)
  replace hI := hI.sm hW2 o2
  refine lv_icmp_eq (pc := 421) (tgt := 2016) hx hb dL_law_421 (by decide) (fun _ => ?_) (fun h => absurd rfl h)
  refine W.widen (k := cells + 3) (n := slots + 197) (by omega) (by omega) ?_
  exact kk _ _ _ _ _ _ hR' hI e0 hS2
set_option maxHeartbeats 4000000 in
theorem lw_c4 (F0' : lw_F p s m meth c args Z b L xs A) (hSim : sim_as R) (hi : lw_ix v3 L) (hR : R n σx σm) (hI : lw_I Z n αx αm σx σm H) (hS : va_S A s.heap H locs) (hl : lv_has ls 4 [(0, .ref b), (1, .ref (αx 0)), (2, .ref (αm 0)), (3, .int v3)]) (hcs : cells + 3 ≤ 600000) (hss : slots + 197 ≤ 7302250) (kk : lw_K p l e s m args below meth c Q Z R αx αm A ls cells slots) : W p l e room_1 s m args below meth c H locs cells slots Q (F0 m 426 ls []) := by
  obtain ⟨Cx, hX, hbl, hbA, hAo, hAn⟩ := F0'
  have hx := Cx.1
  have hb := Cx.2.1
  obtain ⟨r, hfx, hfm, hR'⟩ := hSim n σx σm (xs (v3 + 1).toNatClampNeg) (xs (v3 + 2).toNatClampNeg) hR
  refine lv_aload_n (pc := 426) hx hb dL_law_426 rfl (lv_at hl 1 rfl) ?_
  refine lv_aload_n (pc := 427) hx hb dL_law_427 rfl (lv_at hl 0 rfl) ?_
  refine lv_iload_n (pc := 428) hx hb dL_law_428 rfl (lv_at hl 3 rfl) ?_
  refine lv_iconst (pc := 429) (v := (1 : Int32)) hx hb dL_law_429 (by decide) ?_
  refine lv_iadd (pc := 430) hx hb dL_law_430 ?_
  refine va_sld (pc := 431) hx hb hX hbl hbA hS hi.1 dL_law_431 ?_
  refine lv_aload_n (pc := 432) hx hb dL_law_432 rfl (lv_at hl 0 rfl) ?_
  refine lv_iload_n (pc := 433) hx hb dL_law_433 rfl (lv_at hl 3 rfl) ?_
  refine lv_iconst (pc := 434) (v := (2 : Int32)) hx hb dL_law_434 (by decide) ?_
  refine lv_iadd (pc := 435) hx hb dL_law_435 ?_
  refine va_sld (pc := 436) hx hb hX hbl hbA hS hi.2.1 dL_law_436 ?_
  refine um_cVM (pc := 437) (k := 0) (As := [.int (xs (v3 + 1).toNatClampNeg), .int (xs (v3 + 2).toNatClampNeg)]) (rest := []) Cx (c_X8_as (xs (v3 + 1).toNatClampNeg) (xs (v3 + 2).toNatClampNeg) (xshn_X n) hfx) kV_X8_as (Or.inl qM_L_31) hI.1 hS hAo (fun q h => hAn q (hI.1.old q h)) (xshn_X n 0 _ rfl) rfl rfl hl rfl (Nat.le_of_ble_eq_true rfl) (Nat.le_of_ble_eq_true rfl) (Nat.le_of_ble_eq_true rfl) dL_law_437 (by show cells ≤ 600000; omega) (by show slots ≤ 7302250; omega) (fun H1 locs1 hW1 z1 o1 hS1 => ?_)
  replace hI := hI.sx hW1 o1
  have e0 : αx 0 = αx 0 := rfl
  clear o1 hW1
  clear hS
  have hS := hS1
  clear hS1
  refine lv_aload_n (pc := 440) hx hb dL_law_440 rfl (lv_at hl 2 rfl) ?_
  refine lv_aload_n (pc := 441) hx hb dL_law_441 rfl (lv_at hl 0 rfl) ?_
  refine lv_iload_n (pc := 442) hx hb dL_law_442 rfl (lv_at hl 3 rfl) ?_
  refine lv_iconst (pc := 443) (v := (1 : Int32)) hx hb dL_law_443 (by decide) ?_
  refine lv_iadd (pc := 444) hx hb dL_law_444 ?_
  refine va_sld (pc := 445) hx hb hX hbl hbA hS hi.1 dL_law_445 ?_
  refine lv_aload_n (pc := 446) hx hb dL_law_446 rfl (lv_at hl 0 rfl) ?_
  refine lv_iload_n (pc := 447) hx hb dL_law_447 rfl (lv_at hl 3 rfl) ?_
  refine lv_iconst (pc := 448) (v := (2 : Int32)) hx hb dL_law_448 (by decide) ?_
  refine lv_iadd (pc := 449) hx hb dL_law_449 ?_
  refine va_sld (pc := 450) hx hb hX hbl hbA hS hi.2.1 dL_law_450 ?_
  refine um_cVM (pc := 451) (k := 0) (As := [.int (xs (v3 + 1).toNatClampNeg), .int (xs (v3 + 2).toNatClampNeg)]) (rest := [.int r]) Cx (c_X9_as (xs (v3 + 1).toNatClampNeg) (xs (v3 + 2).toNatClampNeg) hfm) kV_X9_as (Or.inl qM_L_34) hI.2.1 hS hAo (fun q h => hAn q (hI.2.1.old q h)) rfl rfl rfl hl rfl (Nat.le_of_ble_eq_true rfl) (Nat.le_of_ble_eq_true rfl) (Nat.le_of_ble_eq_true rfl) dL_law_451 (by show cells ≤ 600000; omega) (by show slots ≤ 7302250; omega) (fun H2 locs2 hW2 z2 o2 hS2 => ?_)
  replace hI := hI.sm hW2 o2
  refine lv_icmp_eq (pc := 454) (tgt := 2016) hx hb dL_law_454 (by decide) (fun _ => ?_) (fun h => absurd rfl h)
  refine W.widen (k := cells + 3) (n := slots + 197) (by omega) (by omega) ?_
  exact kk _ _ _ _ _ _ hR' hI e0 hS2
set_option maxHeartbeats 4000000 in
theorem lw_c5 (F0' : lw_F p s m meth c args Z b L xs A) (hSim : sim_dies R) (hi : lw_ix v3 L) (hR : R n σx σm) (hI : lw_I Z n αx αm σx σm H) (hS : va_S A s.heap H locs) (hl : lv_has ls 4 [(0, .ref b), (1, .ref (αx 0)), (2, .ref (αm 0)), (3, .int v3)]) (hcs : cells + 3 ≤ 600000) (hss : slots + 197 ≤ 7302250) (kk : lw_K p l e s m args below meth c Q Z R αx αm A ls cells slots) : W p l e room_1 s m args below meth c H locs cells slots Q (F0 m 459 ls []) := by
  obtain ⟨Cx, hX, hbl, hbA, hAo, hAn⟩ := F0'
  have hx := Cx.1
  have hb := Cx.2.1
  obtain ⟨r, σx', σm', hfx, hfm, hR'⟩ := hSim n σx σm (xs (v3 + 1).toNatClampNeg) hR
  refine lv_aload_n (pc := 459) hx hb dL_law_459 rfl (lv_at hl 1 rfl) ?_
  refine lv_aload_n (pc := 460) hx hb dL_law_460 rfl (lv_at hl 0 rfl) ?_
  refine lv_iload_n (pc := 461) hx hb dL_law_461 rfl (lv_at hl 3 rfl) ?_
  refine lv_iconst (pc := 462) (v := (1 : Int32)) hx hb dL_law_462 (by decide) ?_
  refine lv_iadd (pc := 463) hx hb dL_law_463 ?_
  refine va_sld (pc := 464) hx hb hX hbl hbA hS hi.1 dL_law_464 ?_
  refine um_cVM (pc := 465) (k := 0) (As := [.int (xs (v3 + 1).toNatClampNeg)]) (rest := []) Cx (c_X8_dies (xs (v3 + 1).toNatClampNeg) (xshn_X n) hfx) kV_X8_dies (Or.inl qM_L_35) hI.1 hS hAo (fun q h => hAn q (hI.1.old q h)) (xshn_X n 0 _ rfl) rfl rfl hl rfl (Nat.le_of_ble_eq_true rfl) (Nat.le_of_ble_eq_true rfl) (Nat.le_of_ble_eq_true rfl) dL_law_465 (by show cells ≤ 600000; omega) (by show slots ≤ 7302250; omega) (fun H1 locs1 hW1 z1 o1 hS1 => ?_)
  replace hI := hI.sx hW1 o1
  have e0 : αx 0 = αx 0 := rfl
  clear o1 hW1
  clear hS
  have hS := hS1
  clear hS1
  refine lv_aload_n (pc := 468) hx hb dL_law_468 rfl (lv_at hl 2 rfl) ?_
  refine lv_aload_n (pc := 469) hx hb dL_law_469 rfl (lv_at hl 0 rfl) ?_
  refine lv_iload_n (pc := 470) hx hb dL_law_470 rfl (lv_at hl 3 rfl) ?_
  refine lv_iconst (pc := 471) (v := (1 : Int32)) hx hb dL_law_471 (by decide) ?_
  refine lv_iadd (pc := 472) hx hb dL_law_472 ?_
  refine va_sld (pc := 473) hx hb hX hbl hbA hS hi.1 dL_law_473 ?_
  refine um_cVM (pc := 474) (k := 0) (As := [.int (xs (v3 + 1).toNatClampNeg)]) (rest := [.int r]) Cx (c_X9_dies (xs (v3 + 1).toNatClampNeg) hfm) kV_X9_dies (Or.inl qM_L_39) hI.2.1 hS hAo (fun q h => hAn q (hI.2.1.old q h)) rfl rfl rfl hl rfl (Nat.le_of_ble_eq_true rfl) (Nat.le_of_ble_eq_true rfl) (Nat.le_of_ble_eq_true rfl) dL_law_474 (by show cells ≤ 600000; omega) (by show slots ≤ 7302250; omega) (fun H2 locs2 hW2 z2 o2 hS2 => ?_)
  replace hI := hI.sm hW2 o2
  refine lv_icmp_eq (pc := 477) (tgt := 2016) hx hb dL_law_477 (by decide) (fun _ => ?_) (fun h => absurd rfl h)
  refine W.widen (k := cells + 3) (n := slots + 197) (by omega) (by omega) ?_
  exact kk _ _ _ _ _ _ hR' hI e0 hS2
set_option maxHeartbeats 4000000 in
theorem lw_c6 (F0' : lw_F p s m meth c args Z b L xs A) (hSim : sim_master R) (hi : lw_ix v3 L) (hR : R n σx σm) (hI : lw_I Z n αx αm σx σm H) (hS : va_S A s.heap H locs) (hl : lv_has ls 4 [(0, .ref b), (1, .ref (αx 0)), (2, .ref (αm 0)), (3, .int v3)]) (hcs : cells + 3 ≤ 600000) (hss : slots + 197 ≤ 7302250) (kk : lw_K p l e s m args below meth c Q Z R αx αm A ls cells slots) : W p l e room_1 s m args below meth c H locs cells slots Q (F0 m 482 ls []) := by
  obtain ⟨Cx, hX, hbl, hbA, hAo, hAn⟩ := F0'
  have hx := Cx.1
  have hb := Cx.2.1
  obtain ⟨r, σx', σm', hfx, hfm, hR'⟩ := hSim n σx σm (xs (v3 + 1).toNatClampNeg) (xs (v3 + 2).toNatClampNeg) (xs (v3 + 3).toNatClampNeg) (xs (v3 + 4).toNatClampNeg) hR
  refine lv_aload_n (pc := 482) hx hb dL_law_482 rfl (lv_at hl 1 rfl) ?_
  refine lv_aload_n (pc := 483) hx hb dL_law_483 rfl (lv_at hl 0 rfl) ?_
  refine lv_iload_n (pc := 484) hx hb dL_law_484 rfl (lv_at hl 3 rfl) ?_
  refine lv_iconst (pc := 485) (v := (1 : Int32)) hx hb dL_law_485 (by decide) ?_
  refine lv_iadd (pc := 486) hx hb dL_law_486 ?_
  refine va_sld (pc := 487) hx hb hX hbl hbA hS hi.1 dL_law_487 ?_
  refine lv_aload_n (pc := 488) hx hb dL_law_488 rfl (lv_at hl 0 rfl) ?_
  refine lv_iload_n (pc := 489) hx hb dL_law_489 rfl (lv_at hl 3 rfl) ?_
  refine lv_iconst (pc := 490) (v := (2 : Int32)) hx hb dL_law_490 (by decide) ?_
  refine lv_iadd (pc := 491) hx hb dL_law_491 ?_
  refine va_sld (pc := 492) hx hb hX hbl hbA hS hi.2.1 dL_law_492 ?_
  refine lv_aload_n (pc := 493) hx hb dL_law_493 rfl (lv_at hl 0 rfl) ?_
  refine lv_iload_n (pc := 494) hx hb dL_law_494 rfl (lv_at hl 3 rfl) ?_
  refine lv_iconst (pc := 495) (v := (3 : Int32)) hx hb dL_law_495 (by decide) ?_
  refine lv_iadd (pc := 496) hx hb dL_law_496 ?_
  refine va_sld (pc := 497) hx hb hX hbl hbA hS hi.2.2.1 dL_law_497 ?_
  refine lv_aload_n (pc := 498) hx hb dL_law_498 rfl (lv_at hl 0 rfl) ?_
  refine lv_iload_n (pc := 499) hx hb dL_law_499 rfl (lv_at hl 3 rfl) ?_
  refine lv_iconst (pc := 500) (v := (4 : Int32)) hx hb dL_law_500 (by decide) ?_
  refine lv_iadd (pc := 501) hx hb dL_law_501 ?_
  refine va_sld (pc := 502) hx hb hX hbl hbA hS hi.2.2.2.1 dL_law_502 ?_
  refine um_cVM (pc := 503) (k := 0) (As := [.int (xs (v3 + 1).toNatClampNeg), .int (xs (v3 + 2).toNatClampNeg), .int (xs (v3 + 3).toNatClampNeg), .int (xs (v3 + 4).toNatClampNeg)]) (rest := []) Cx (c_X8_master (xs (v3 + 1).toNatClampNeg) (xs (v3 + 2).toNatClampNeg) (xs (v3 + 3).toNatClampNeg) (xs (v3 + 4).toNatClampNeg) (xshn_X n) hfx) kV_X8_master (Or.inl qM_L_40) hI.1 hS hAo (fun q h => hAn q (hI.1.old q h)) (xshn_X n 0 _ rfl) rfl rfl hl rfl (Nat.le_of_ble_eq_true rfl) (Nat.le_of_ble_eq_true rfl) (Nat.le_of_ble_eq_true rfl) dL_law_503 (by show cells ≤ 600000; omega) (by show slots ≤ 7302250; omega) (fun H1 locs1 hW1 z1 o1 hS1 => ?_)
  replace hI := hI.sx hW1 o1
  have e0 : αx 0 = αx 0 := rfl
  clear o1 hW1
  clear hS
  have hS := hS1
  clear hS1
  refine lv_aload_n (pc := 506) hx hb dL_law_506 rfl (lv_at hl 2 rfl) ?_
  refine lv_aload_n (pc := 507) hx hb dL_law_507 rfl (lv_at hl 0 rfl) ?_
  refine lv_iload_n (pc := 508) hx hb dL_law_508 rfl (lv_at hl 3 rfl) ?_
  refine lv_iconst (pc := 509) (v := (1 : Int32)) hx hb dL_law_509 (by decide) ?_
  refine lv_iadd (pc := 510) hx hb dL_law_510 ?_
  refine va_sld (pc := 511) hx hb hX hbl hbA hS hi.1 dL_law_511 ?_
  refine lv_aload_n (pc := 512) hx hb dL_law_512 rfl (lv_at hl 0 rfl) ?_
  refine lv_iload_n (pc := 513) hx hb dL_law_513 rfl (lv_at hl 3 rfl) ?_
  refine lv_iconst (pc := 514) (v := (2 : Int32)) hx hb dL_law_514 (by decide) ?_
  refine lv_iadd (pc := 515) hx hb dL_law_515 ?_
  refine va_sld (pc := 516) hx hb hX hbl hbA hS hi.2.1 dL_law_516 ?_
  refine lv_aload_n (pc := 517) hx hb dL_law_517 rfl (lv_at hl 0 rfl) ?_
  refine lv_iload_n (pc := 518) hx hb dL_law_518 rfl (lv_at hl 3 rfl) ?_
  refine lv_iconst (pc := 519) (v := (3 : Int32)) hx hb dL_law_519 (by decide) ?_
  refine lv_iadd (pc := 520) hx hb dL_law_520 ?_
  refine va_sld (pc := 521) hx hb hX hbl hbA hS hi.2.2.1 dL_law_521 ?_
  refine lv_aload_n (pc := 522) hx hb dL_law_522 rfl (lv_at hl 0 rfl) ?_
  refine lv_iload_n (pc := 523) hx hb dL_law_523 rfl (lv_at hl 3 rfl) ?_
  refine lv_iconst (pc := 524) (v := (4 : Int32)) hx hb dL_law_524 (by decide) ?_
  refine lv_iadd (pc := 525) hx hb dL_law_525 ?_
  refine va_sld (pc := 526) hx hb hX hbl hbA hS hi.2.2.2.1 dL_law_526 ?_
  refine um_cVM (pc := 527) (k := 0) (As := [.int (xs (v3 + 1).toNatClampNeg), .int (xs (v3 + 2).toNatClampNeg), .int (xs (v3 + 3).toNatClampNeg), .int (xs (v3 + 4).toNatClampNeg)]) (rest := [.int r]) Cx (c_X9_master (xs (v3 + 1).toNatClampNeg) (xs (v3 + 2).toNatClampNeg) (xs (v3 + 3).toNatClampNeg) (xs (v3 + 4).toNatClampNeg) hfm) kV_X9_master (Or.inl qM_L_44) hI.2.1 hS hAo (fun q h => hAn q (hI.2.1.old q h)) rfl rfl rfl hl rfl (Nat.le_of_ble_eq_true rfl) (Nat.le_of_ble_eq_true rfl) (Nat.le_of_ble_eq_true rfl) dL_law_527 (by show cells ≤ 600000; omega) (by show slots ≤ 7302250; omega) (fun H2 locs2 hW2 z2 o2 hS2 => ?_)
  replace hI := hI.sm hW2 o2
  refine lv_icmp_eq (pc := 530) (tgt := 2016) hx hb dL_law_530 (by decide) (fun _ => ?_) (fun h => absurd rfl h)
  refine W.widen (k := cells + 3) (n := slots + 197) (by omega) (by omega) ?_
  exact kk _ _ _ _ _ _ hR' hI e0 hS2
set_option maxHeartbeats 4000000 in
theorem lw_c7 (F0' : lw_F p s m meth c args Z b L xs A) (hSim : sim_has R) (hi : lw_ix v3 L) (hR : R n σx σm) (hI : lw_I Z n αx αm σx σm H) (hS : va_S A s.heap H locs) (hl : lv_has ls 4 [(0, .ref b), (1, .ref (αx 0)), (2, .ref (αm 0)), (3, .int v3)]) (hcs : cells + 3 ≤ 600000) (hss : slots + 197 ≤ 7302250) (kk : lw_K p l e s m args below meth c Q Z R αx αm A ls cells slots) : W p l e room_1 s m args below meth c H locs cells slots Q (F0 m 535 ls []) := by
  obtain ⟨Cx, hX, hbl, hbA, hAo, hAn⟩ := F0'
  have hx := Cx.1
  have hb := Cx.2.1
  obtain ⟨r, hfx, hfm, hR'⟩ := hSim n σx σm (xs (v3 + 1).toNatClampNeg) (xs (v3 + 2).toNatClampNeg) hR
  refine lv_aload_n (pc := 535) hx hb dL_law_535 rfl (lv_at hl 1 rfl) ?_
  refine lv_aload_n (pc := 536) hx hb dL_law_536 rfl (lv_at hl 0 rfl) ?_
  refine lv_iload_n (pc := 537) hx hb dL_law_537 rfl (lv_at hl 3 rfl) ?_
  refine lv_iconst (pc := 538) (v := (1 : Int32)) hx hb dL_law_538 (by decide) ?_
  refine lv_iadd (pc := 539) hx hb dL_law_539 ?_
  refine va_sld (pc := 540) hx hb hX hbl hbA hS hi.1 dL_law_540 ?_
  refine lv_aload_n (pc := 541) hx hb dL_law_541 rfl (lv_at hl 0 rfl) ?_
  refine lv_iload_n (pc := 542) hx hb dL_law_542 rfl (lv_at hl 3 rfl) ?_
  refine lv_iconst (pc := 543) (v := (2 : Int32)) hx hb dL_law_543 (by decide) ?_
  refine lv_iadd (pc := 544) hx hb dL_law_544 ?_
  refine va_sld (pc := 545) hx hb hX hbl hbA hS hi.2.1 dL_law_545 ?_
  refine um_cVM (pc := 546) (k := 0) (As := [.int (xs (v3 + 1).toNatClampNeg), .int (xs (v3 + 2).toNatClampNeg)]) (rest := []) Cx (c_X8_has (xs (v3 + 1).toNatClampNeg) (xs (v3 + 2).toNatClampNeg) (xshn_X n) hfx) kV_X8_has (Or.inl qM_L_45) hI.1 hS hAo (fun q h => hAn q (hI.1.old q h)) (xshn_X n 0 _ rfl) rfl rfl hl rfl (Nat.le_of_ble_eq_true rfl) (Nat.le_of_ble_eq_true rfl) (Nat.le_of_ble_eq_true rfl) dL_law_546 (by show cells ≤ 600000; omega) (by show slots ≤ 7302250; omega) (fun H1 locs1 hW1 z1 o1 hS1 => ?_)
  replace hI := hI.sx hW1 o1
  have e0 : αx 0 = αx 0 := rfl
  clear o1 hW1
  clear hS
  have hS := hS1
  clear hS1
  refine lv_aload_n (pc := 549) hx hb dL_law_549 rfl (lv_at hl 2 rfl) ?_
  refine lv_aload_n (pc := 550) hx hb dL_law_550 rfl (lv_at hl 0 rfl) ?_
  refine lv_iload_n (pc := 551) hx hb dL_law_551 rfl (lv_at hl 3 rfl) ?_
  refine lv_iconst (pc := 552) (v := (1 : Int32)) hx hb dL_law_552 (by decide) ?_
  refine lv_iadd (pc := 553) hx hb dL_law_553 ?_
  refine va_sld (pc := 554) hx hb hX hbl hbA hS hi.1 dL_law_554 ?_
  refine lv_aload_n (pc := 555) hx hb dL_law_555 rfl (lv_at hl 0 rfl) ?_
  refine lv_iload_n (pc := 556) hx hb dL_law_556 rfl (lv_at hl 3 rfl) ?_
  refine lv_iconst (pc := 557) (v := (2 : Int32)) hx hb dL_law_557 (by decide) ?_
  refine lv_iadd (pc := 558) hx hb dL_law_558 ?_
  refine va_sld (pc := 559) hx hb hX hbl hbA hS hi.2.1 dL_law_559 ?_
  refine um_cVM (pc := 560) (k := 0) (As := [.int (xs (v3 + 1).toNatClampNeg), .int (xs (v3 + 2).toNatClampNeg)]) (rest := [.int r]) Cx (c_X9_has (xs (v3 + 1).toNatClampNeg) (xs (v3 + 2).toNatClampNeg) hfm) kV_X9_has (Or.inl qM_L_48) hI.2.1 hS hAo (fun q h => hAn q (hI.2.1.old q h)) rfl rfl rfl hl rfl (Nat.le_of_ble_eq_true rfl) (Nat.le_of_ble_eq_true rfl) (Nat.le_of_ble_eq_true rfl) dL_law_560 (by show cells ≤ 600000; omega) (by show slots ≤ 7302250; omega) (fun H2 locs2 hW2 z2 o2 hS2 => ?_)
  replace hI := hI.sm hW2 o2
  refine lv_icmp_eq (pc := 563) (tgt := 2016) hx hb dL_law_563 (by decide) (fun _ => ?_) (fun h => absurd rfl h)
  refine W.widen (k := cells + 3) (n := slots + 197) (by omega) (by omega) ?_
  exact kk _ _ _ _ _ _ hR' hI e0 hS2
set_option maxHeartbeats 4000000 in
theorem lw_c8 (F0' : lw_F p s m meth c args Z b L xs A) (hSim : sim_store R) (hi : lw_ix v3 L) (hR : R n σx σm) (hI : lw_I Z n αx αm σx σm H) (hS : va_S A s.heap H locs) (hl : lv_has ls 4 [(0, .ref b), (1, .ref (αx 0)), (2, .ref (αm 0)), (3, .int v3)]) (hcs : cells + 3 ≤ 600000) (hss : slots + 197 ≤ 7302250) (kk : lw_K p l e s m args below meth c Q Z R αx αm A ls cells slots) : W p l e room_1 s m args below meth c H locs cells slots Q (F0 m 568 ls []) := by
  obtain ⟨Cx, hX, hbl, hbA, hAo, hAn⟩ := F0'
  have hx := Cx.1
  have hb := Cx.2.1
  obtain ⟨r, σx', σm', hfx, hfm, hR'⟩ := hSim n σx σm (xs (v3 + 1).toNatClampNeg) (xs (v3 + 2).toNatClampNeg) hR
  refine lv_aload_n (pc := 568) hx hb dL_law_568 rfl (lv_at hl 1 rfl) ?_
  refine lv_aload_n (pc := 569) hx hb dL_law_569 rfl (lv_at hl 0 rfl) ?_
  refine lv_iload_n (pc := 570) hx hb dL_law_570 rfl (lv_at hl 3 rfl) ?_
  refine lv_iconst (pc := 571) (v := (1 : Int32)) hx hb dL_law_571 (by decide) ?_
  refine lv_iadd (pc := 572) hx hb dL_law_572 ?_
  refine va_sld (pc := 573) hx hb hX hbl hbA hS hi.1 dL_law_573 ?_
  refine lv_aload_n (pc := 574) hx hb dL_law_574 rfl (lv_at hl 0 rfl) ?_
  refine lv_iload_n (pc := 575) hx hb dL_law_575 rfl (lv_at hl 3 rfl) ?_
  refine lv_iconst (pc := 576) (v := (2 : Int32)) hx hb dL_law_576 (by decide) ?_
  refine lv_iadd (pc := 577) hx hb dL_law_577 ?_
  refine va_sld (pc := 578) hx hb hX hbl hbA hS hi.2.1 dL_law_578 ?_
  refine um_cVM (pc := 579) (k := 0) (As := [.int (xs (v3 + 1).toNatClampNeg), .int (xs (v3 + 2).toNatClampNeg)]) (rest := []) Cx (c_X8_store (xs (v3 + 1).toNatClampNeg) (xs (v3 + 2).toNatClampNeg) (xshn_X n) hfx) kV_X8_store (Or.inl qM_L_49) hI.1 hS hAo (fun q h => hAn q (hI.1.old q h)) (xshn_X n 0 _ rfl) rfl rfl hl rfl (Nat.le_of_ble_eq_true rfl) (Nat.le_of_ble_eq_true rfl) (Nat.le_of_ble_eq_true rfl) dL_law_579 (by show cells ≤ 600000; omega) (by show slots ≤ 7302250; omega) (fun H1 locs1 hW1 z1 o1 hS1 => ?_)
  replace hI := hI.sx hW1 o1
  have e0 : αx 0 = αx 0 := rfl
  clear o1 hW1
  clear hS
  have hS := hS1
  clear hS1
  refine lv_aload_n (pc := 582) hx hb dL_law_582 rfl (lv_at hl 2 rfl) ?_
  refine lv_aload_n (pc := 583) hx hb dL_law_583 rfl (lv_at hl 0 rfl) ?_
  refine lv_iload_n (pc := 584) hx hb dL_law_584 rfl (lv_at hl 3 rfl) ?_
  refine lv_iconst (pc := 585) (v := (1 : Int32)) hx hb dL_law_585 (by decide) ?_
  refine lv_iadd (pc := 586) hx hb dL_law_586 ?_
  refine va_sld (pc := 587) hx hb hX hbl hbA hS hi.1 dL_law_587 ?_
  refine lv_aload_n (pc := 588) hx hb dL_law_588 rfl (lv_at hl 0 rfl) ?_
  refine lv_iload_n (pc := 589) hx hb dL_law_589 rfl (lv_at hl 3 rfl) ?_
  refine lv_iconst (pc := 590) (v := (2 : Int32)) hx hb dL_law_590 (by decide) ?_
  refine lv_iadd (pc := 591) hx hb dL_law_591 ?_
  refine va_sld (pc := 592) hx hb hX hbl hbA hS hi.2.1 dL_law_592 ?_
  refine um_cVM (pc := 593) (k := 0) (As := [.int (xs (v3 + 1).toNatClampNeg), .int (xs (v3 + 2).toNatClampNeg)]) (rest := [.int r]) Cx (c_X9_store (xs (v3 + 1).toNatClampNeg) (xs (v3 + 2).toNatClampNeg) hfm) kV_X9_store (Or.inl qM_L_52) hI.2.1 hS hAo (fun q h => hAn q (hI.2.1.old q h)) rfl rfl rfl hl rfl (Nat.le_of_ble_eq_true rfl) (Nat.le_of_ble_eq_true rfl) (Nat.le_of_ble_eq_true rfl) dL_law_593 (by show cells ≤ 600000; omega) (by show slots ≤ 7302250; omega) (fun H2 locs2 hW2 z2 o2 hS2 => ?_)
  replace hI := hI.sm hW2 o2
  refine lv_icmp_eq (pc := 596) (tgt := 2016) hx hb dL_law_596 (by decide) (fun _ => ?_) (fun h => absurd rfl h)
  refine W.widen (k := cells + 3) (n := slots + 197) (by omega) (by omega) ?_
  exact kk _ _ _ _ _ _ hR' hI e0 hS2
set_option maxHeartbeats 4000000 in
theorem lw_c9 (F0' : lw_F p s m meth c args Z b L xs A) (hSim : sim_hungry R) (hi : lw_ix v3 L) (hR : R n σx σm) (hI : lw_I Z n αx αm σx σm H) (hS : va_S A s.heap H locs) (hl : lv_has ls 4 [(0, .ref b), (1, .ref (αx 0)), (2, .ref (αm 0)), (3, .int v3)]) (hcs : cells + 3 ≤ 600000) (hss : slots + 197 ≤ 7302250) (kk : lw_K p l e s m args below meth c Q Z R αx αm A ls cells slots) : W p l e room_1 s m args below meth c H locs cells slots Q (F0 m 601 ls []) := by
  obtain ⟨Cx, hX, hbl, hbA, hAo, hAn⟩ := F0'
  have hx := Cx.1
  have hb := Cx.2.1
  obtain ⟨r, hfx, hfm, hR'⟩ := hSim n σx σm (xs (v3 + 1).toNatClampNeg) hR
  refine lv_aload_n (pc := 601) hx hb dL_law_601 rfl (lv_at hl 1 rfl) ?_
  refine lv_aload_n (pc := 602) hx hb dL_law_602 rfl (lv_at hl 0 rfl) ?_
  refine lv_iload_n (pc := 603) hx hb dL_law_603 rfl (lv_at hl 3 rfl) ?_
  refine lv_iconst (pc := 604) (v := (1 : Int32)) hx hb dL_law_604 (by decide) ?_
  refine lv_iadd (pc := 605) hx hb dL_law_605 ?_
  refine va_sld (pc := 606) hx hb hX hbl hbA hS hi.1 dL_law_606 ?_
  refine um_cVM (pc := 607) (k := 0) (As := [.int (xs (v3 + 1).toNatClampNeg)]) (rest := []) Cx (c_X8_hungry (xs (v3 + 1).toNatClampNeg) (xshn_X n) hfx) kV_X8_hungry (Or.inl qM_L_53) hI.1 hS hAo (fun q h => hAn q (hI.1.old q h)) (xshn_X n 0 _ rfl) rfl rfl hl rfl (Nat.le_of_ble_eq_true rfl) (Nat.le_of_ble_eq_true rfl) (Nat.le_of_ble_eq_true rfl) dL_law_607 (by show cells ≤ 600000; omega) (by show slots ≤ 7302250; omega) (fun H1 locs1 hW1 z1 o1 hS1 => ?_)
  replace hI := hI.sx hW1 o1
  have e0 : αx 0 = αx 0 := rfl
  clear o1 hW1
  clear hS
  have hS := hS1
  clear hS1
  refine lv_aload_n (pc := 610) hx hb dL_law_610 rfl (lv_at hl 2 rfl) ?_
  refine lv_aload_n (pc := 611) hx hb dL_law_611 rfl (lv_at hl 0 rfl) ?_
  refine lv_iload_n (pc := 612) hx hb dL_law_612 rfl (lv_at hl 3 rfl) ?_
  refine lv_iconst (pc := 613) (v := (1 : Int32)) hx hb dL_law_613 (by decide) ?_
  refine lv_iadd (pc := 614) hx hb dL_law_614 ?_
  refine va_sld (pc := 615) hx hb hX hbl hbA hS hi.1 dL_law_615 ?_
  refine um_cVM (pc := 616) (k := 0) (As := [.int (xs (v3 + 1).toNatClampNeg)]) (rest := [.int r]) Cx (c_X9_hungry (xs (v3 + 1).toNatClampNeg) hfm) kV_X9_hungry (Or.inl qM_L_56) hI.2.1 hS hAo (fun q h => hAn q (hI.2.1.old q h)) rfl rfl rfl hl rfl (Nat.le_of_ble_eq_true rfl) (Nat.le_of_ble_eq_true rfl) (Nat.le_of_ble_eq_true rfl) dL_law_616 (by show cells ≤ 600000; omega) (by show slots ≤ 7302250; omega) (fun H2 locs2 hW2 z2 o2 hS2 => ?_)
  replace hI := hI.sm hW2 o2
  refine lv_icmp_eq (pc := 619) (tgt := 2016) hx hb dL_law_619 (by decide) (fun _ => ?_) (fun h => absurd rfl h)
  refine W.widen (k := cells + 3) (n := slots + 197) (by omega) (by omega) ?_
  exact kk _ _ _ _ _ _ hR' hI e0 hS2
set_option maxHeartbeats 4000000 in
theorem lw_c10 (F0' : lw_F p s m meth c args Z b L xs A) (hSim : sim_feed R) (hi : lw_ix v3 L) (hR : R n σx σm) (hI : lw_I Z n αx αm σx σm H) (hS : va_S A s.heap H locs) (hl : lv_has ls 4 [(0, .ref b), (1, .ref (αx 0)), (2, .ref (αm 0)), (3, .int v3)]) (hcs : cells + 3 ≤ 600000) (hss : slots + 197 ≤ 7302250) (kk : lw_K p l e s m args below meth c Q Z R αx αm A ls cells slots) : W p l e room_1 s m args below meth c H locs cells slots Q (F0 m 624 ls []) := by
  obtain ⟨Cx, hX, hbl, hbA, hAo, hAn⟩ := F0'
  have hx := Cx.1
  have hb := Cx.2.1
  obtain ⟨r, σx', σm', hfx, hfm, hR'⟩ := hSim n σx σm (xs (v3 + 1).toNatClampNeg) (xs (v3 + 2).toNatClampNeg) (xs (v3 + 3).toNatClampNeg) hR
  refine lv_aload_n (pc := 624) hx hb dL_law_624 rfl (lv_at hl 1 rfl) ?_
  refine lv_aload_n (pc := 625) hx hb dL_law_625 rfl (lv_at hl 0 rfl) ?_
  refine lv_iload_n (pc := 626) hx hb dL_law_626 rfl (lv_at hl 3 rfl) ?_
  refine lv_iconst (pc := 627) (v := (1 : Int32)) hx hb dL_law_627 (by decide) ?_
  refine lv_iadd (pc := 628) hx hb dL_law_628 ?_
  refine va_sld (pc := 629) hx hb hX hbl hbA hS hi.1 dL_law_629 ?_
  refine lv_aload_n (pc := 630) hx hb dL_law_630 rfl (lv_at hl 0 rfl) ?_
  refine lv_iload_n (pc := 631) hx hb dL_law_631 rfl (lv_at hl 3 rfl) ?_
  refine lv_iconst (pc := 632) (v := (2 : Int32)) hx hb dL_law_632 (by decide) ?_
  refine lv_iadd (pc := 633) hx hb dL_law_633 ?_
  refine va_sld (pc := 634) hx hb hX hbl hbA hS hi.2.1 dL_law_634 ?_
  refine lv_aload_n (pc := 635) hx hb dL_law_635 rfl (lv_at hl 0 rfl) ?_
  refine lv_iload_n (pc := 636) hx hb dL_law_636 rfl (lv_at hl 3 rfl) ?_
  refine lv_iconst (pc := 637) (v := (3 : Int32)) hx hb dL_law_637 (by decide) ?_
  refine lv_iadd (pc := 638) hx hb dL_law_638 ?_
  refine va_sld (pc := 639) hx hb hX hbl hbA hS hi.2.2.1 dL_law_639 ?_
  refine um_cVM (pc := 640) (k := 0) (As := [.int (xs (v3 + 1).toNatClampNeg), .int (xs (v3 + 2).toNatClampNeg), .int (xs (v3 + 3).toNatClampNeg)]) (rest := []) Cx (c_X8_feed (xs (v3 + 1).toNatClampNeg) (xs (v3 + 2).toNatClampNeg) (xs (v3 + 3).toNatClampNeg) (xshn_X n) hfx) kV_X8_feed (Or.inl qM_L_57) hI.1 hS hAo (fun q h => hAn q (hI.1.old q h)) (xshn_X n 0 _ rfl) rfl rfl hl rfl (Nat.le_of_ble_eq_true rfl) (Nat.le_of_ble_eq_true rfl) (Nat.le_of_ble_eq_true rfl) dL_law_640 (by show cells ≤ 600000; omega) (by show slots ≤ 7302250; omega) (fun H1 locs1 hW1 z1 o1 hS1 => ?_)
  replace hI := hI.sx hW1 o1
  have e0 : αx 0 = αx 0 := rfl
  clear o1 hW1
  clear hS
  have hS := hS1
  clear hS1
  refine lv_aload_n (pc := 643) hx hb dL_law_643 rfl (lv_at hl 2 rfl) ?_
  refine lv_aload_n (pc := 644) hx hb dL_law_644 rfl (lv_at hl 0 rfl) ?_
  refine lv_iload_n (pc := 645) hx hb dL_law_645 rfl (lv_at hl 3 rfl) ?_
  refine lv_iconst (pc := 646) (v := (1 : Int32)) hx hb dL_law_646 (by decide) ?_
  refine lv_iadd (pc := 647) hx hb dL_law_647 ?_
  refine va_sld (pc := 648) hx hb hX hbl hbA hS hi.1 dL_law_648 ?_
  refine lv_aload_n (pc := 649) hx hb dL_law_649 rfl (lv_at hl 0 rfl) ?_
  refine lv_iload_n (pc := 650) hx hb dL_law_650 rfl (lv_at hl 3 rfl) ?_
  refine lv_iconst (pc := 651) (v := (2 : Int32)) hx hb dL_law_651 (by decide) ?_
  refine lv_iadd (pc := 652) hx hb dL_law_652 ?_
  refine va_sld (pc := 653) hx hb hX hbl hbA hS hi.2.1 dL_law_653 ?_
  refine lv_aload_n (pc := 654) hx hb dL_law_654 rfl (lv_at hl 0 rfl) ?_
  refine lv_iload_n (pc := 655) hx hb dL_law_655 rfl (lv_at hl 3 rfl) ?_
  refine lv_iconst (pc := 656) (v := (3 : Int32)) hx hb dL_law_656 (by decide) ?_
  refine lv_iadd (pc := 657) hx hb dL_law_657 ?_
  refine va_sld (pc := 658) hx hb hX hbl hbA hS hi.2.2.1 dL_law_658 ?_
  refine um_cVM (pc := 659) (k := 0) (As := [.int (xs (v3 + 1).toNatClampNeg), .int (xs (v3 + 2).toNatClampNeg), .int (xs (v3 + 3).toNatClampNeg)]) (rest := [.int r]) Cx (c_X9_feed (xs (v3 + 1).toNatClampNeg) (xs (v3 + 2).toNatClampNeg) (xs (v3 + 3).toNatClampNeg) hfm) kV_X9_feed (Or.inl qM_L_61) hI.2.1 hS hAo (fun q h => hAn q (hI.2.1.old q h)) rfl rfl rfl hl rfl (Nat.le_of_ble_eq_true rfl) (Nat.le_of_ble_eq_true rfl) (Nat.le_of_ble_eq_true rfl) dL_law_659 (by show cells ≤ 600000; omega) (by show slots ≤ 7302250; omega) (fun H2 locs2 hW2 z2 o2 hS2 => ?_)
  replace hI := hI.sm hW2 o2
  refine lv_icmp_eq (pc := 662) (tgt := 2016) hx hb dL_law_662 (by decide) (fun _ => ?_) (fun h => absurd rfl h)
  refine W.widen (k := cells + 3) (n := slots + 197) (by omega) (by omega) ?_
  exact kk _ _ _ _ _ _ hR' hI e0 hS2
set_option maxHeartbeats 4000000 in
theorem lw_c11 (F0' : lw_F p s m meth c args Z b L xs A) (hSim : sim_trim R) (hi : lw_ix v3 L) (hR : R n σx σm) (hI : lw_I Z n αx αm σx σm H) (hS : va_S A s.heap H locs) (hl : lv_has ls 4 [(0, .ref b), (1, .ref (αx 0)), (2, .ref (αm 0)), (3, .int v3)]) (hcs : cells + 3 ≤ 600000) (hss : slots + 197 ≤ 7302250) (kk : lw_K p l e s m args below meth c Q Z R αx αm A ls cells slots) : W p l e room_1 s m args below meth c H locs cells slots Q (F0 m 667 ls []) := by
  obtain ⟨Cx, hX, hbl, hbA, hAo, hAn⟩ := F0'
  have hx := Cx.1
  have hb := Cx.2.1
  obtain ⟨r, σx', σm', hfx, hfm, hR'⟩ := hSim n σx σm (xs (v3 + 1).toNatClampNeg) hR
  refine lv_aload_n (pc := 667) hx hb dL_law_667 rfl (lv_at hl 1 rfl) ?_
  refine lv_aload_n (pc := 668) hx hb dL_law_668 rfl (lv_at hl 0 rfl) ?_
  refine lv_iload_n (pc := 669) hx hb dL_law_669 rfl (lv_at hl 3 rfl) ?_
  refine lv_iconst (pc := 670) (v := (1 : Int32)) hx hb dL_law_670 (by decide) ?_
  refine lv_iadd (pc := 671) hx hb dL_law_671 ?_
  refine va_sld (pc := 672) hx hb hX hbl hbA hS hi.1 dL_law_672 ?_
  refine um_cVM (pc := 673) (k := 0) (As := [.int (xs (v3 + 1).toNatClampNeg)]) (rest := []) Cx (c_X8_trim (xs (v3 + 1).toNatClampNeg) (xshn_X n) hfx) kV_X8_trim (Or.inl qM_L_62) hI.1 hS hAo (fun q h => hAn q (hI.1.old q h)) (xshn_X n 0 _ rfl) rfl rfl hl rfl (Nat.le_of_ble_eq_true rfl) (Nat.le_of_ble_eq_true rfl) (Nat.le_of_ble_eq_true rfl) dL_law_673 (by show cells ≤ 600000; omega) (by show slots ≤ 7302250; omega) (fun H1 locs1 hW1 z1 o1 hS1 => ?_)
  replace hI := hI.sx hW1 o1
  have e0 : αx 0 = αx 0 := rfl
  clear o1 hW1
  clear hS
  have hS := hS1
  clear hS1
  refine lv_aload_n (pc := 676) hx hb dL_law_676 rfl (lv_at hl 2 rfl) ?_
  refine lv_aload_n (pc := 677) hx hb dL_law_677 rfl (lv_at hl 0 rfl) ?_
  refine lv_iload_n (pc := 678) hx hb dL_law_678 rfl (lv_at hl 3 rfl) ?_
  refine lv_iconst (pc := 679) (v := (1 : Int32)) hx hb dL_law_679 (by decide) ?_
  refine lv_iadd (pc := 680) hx hb dL_law_680 ?_
  refine va_sld (pc := 681) hx hb hX hbl hbA hS hi.1 dL_law_681 ?_
  refine um_cVM (pc := 682) (k := 0) (As := [.int (xs (v3 + 1).toNatClampNeg)]) (rest := [.int r]) Cx (c_X9_trim (xs (v3 + 1).toNatClampNeg) hfm) kV_X9_trim (Or.inl qM_L_65) hI.2.1 hS hAo (fun q h => hAn q (hI.2.1.old q h)) rfl rfl rfl hl rfl (Nat.le_of_ble_eq_true rfl) (Nat.le_of_ble_eq_true rfl) (Nat.le_of_ble_eq_true rfl) dL_law_682 (by show cells ≤ 600000; omega) (by show slots ≤ 7302250; omega) (fun H2 locs2 hW2 z2 o2 hS2 => ?_)
  replace hI := hI.sm hW2 o2
  refine lv_icmp_eq (pc := 685) (tgt := 2016) hx hb dL_law_685 (by decide) (fun _ => ?_) (fun h => absurd rfl h)
  refine W.widen (k := cells + 3) (n := slots + 197) (by omega) (by omega) ?_
  exact kk _ _ _ _ _ _ hR' hI e0 hS2
set_option maxHeartbeats 4000000 in
theorem lw_c12 (F0' : lw_F p s m meth c args Z b L xs A) (hSim : sim_text R) (hi : lw_ix v3 L) (hR : R n σx σm) (hI : lw_I Z n αx αm σx σm H) (hS : va_S A s.heap H locs) (hl : lv_has ls 4 [(0, .ref b), (1, .ref (αx 0)), (2, .ref (αm 0)), (3, .int v3)]) (hcs : cells + 3 ≤ 600000) (hss : slots + 197 ≤ 7302250) (kk : lw_K p l e s m args below meth c Q Z R αx αm A ls cells slots) : W p l e room_1 s m args below meth c H locs cells slots Q (F0 m 690 ls []) := by
  obtain ⟨Cx, hX, hbl, hbA, hAo, hAn⟩ := F0'
  have hx := Cx.1
  have hb := Cx.2.1
  obtain ⟨r, σx', σm', bb, hfx, hfm, hR'⟩ := hSim n σx σm (xs (v3 + 1).toNatClampNeg) hR
  refine lv_aload_n (pc := 690) hx hb dL_law_690 rfl (lv_at hl 1 rfl) ?_
  refine lv_aload_n (pc := 691) hx hb dL_law_691 rfl (lv_at hl 0 rfl) ?_
  refine lv_iload_n (pc := 692) hx hb dL_law_692 rfl (lv_at hl 3 rfl) ?_
  refine lv_iconst (pc := 693) (v := (1 : Int32)) hx hb dL_law_693 (by decide) ?_
  refine lv_iadd (pc := 694) hx hb dL_law_694 ?_
  refine va_sld (pc := 695) hx hb hX hbl hbA hS hi.1 dL_law_695 ?_
  have hfr : ∀ q, um_DA (xshn n) αx H.size q → A q := fun q h => h.elim (fun h => hAn q (hI.1.old q h)) (fun h => hAn q (Nat.le_trans (Nat.le_trans (hI.1.2.2.1 0 _ (xshn_X n 0 _ rfl)) (Nat.le_of_lt (hI.1.lt (xshn_X n 0 _ rfl)))) h))
  refine um_cVX (pc := 696) (a := αx 0) (As := [.int (xs (v3 + 1).toNatClampNeg)]) (rest := []) (mc := 3) (ms := 197) (C := fun v H2 => ∃ α' : Nat → Nat, (∀ i u, xshn n i = some u → α' i = αx i) ∧ (∀ i u, (if bb then um_sq (xshn n) (300 + 3 * n) else xshn n) i = some u → xshn n i = none → H.size ≤ α' i) ∧ v = some (.int r) ∧ um_W Z (if bb then um_sq (xshn n) (300 + 3 * n) else xshn n) α' σx' H2) (fr := um_DA (xshn n) αx H.size) Cx (c_X8_text (300 + 3 * n) _ (xshn_X n) (xshn_cl n) (xshn_fr n) hfx) kV_X8_text (Or.inl qM_L_66) (um_pvA (k := 0) Cx hI.1 (xshn_X n 0 _ rfl) rfl rfl (Nat.le_trans (hI.1.2.2.1 0 _ (xshn_X n 0 _ rfl)) (Nat.le_of_lt (hI.1.lt (xshn_X n 0 _ rfl)))) hS hAo) hS hfr rfl hl rfl (Nat.le_of_ble_eq_true rfl) (Nat.le_of_ble_eq_true rfl) (Nat.le_of_ble_eq_true rfl) dL_law_696 hcs hss (fun st₀ t v _ h => by
    obtain ⟨α', g1, g2, g3, g4, g5⟩ := h
    cases g3
    exact ⟨⟨α', g1, g2, rfl, g4⟩, g5⟩) (fun v H1 locs1 hv z1 o1 hS1 => ?_)
  obtain ⟨αx', g1, g2, rfl, hW1⟩ := hv
  have es : (if bb then um_sq (xshn n) (300 + 3 * n) else xshn n) = xshn (if bb then n + 1 else n) := by cases bb <;> rfl
  rw [es] at g2 hW1
  have e0 : αx' 0 = αx 0 := g1 0 _ (xshn_X n 0 _ rfl)
  replace hI := hI.gx hW1 o1 g1 g2
  clear o1 g1 g2 es hW1 hfr
  clear hS
  have hS := hS1
  clear hS1
  refine lv_aload_n (pc := 699) hx hb dL_law_699 rfl (lv_at hl 2 rfl) ?_
  refine lv_aload_n (pc := 700) hx hb dL_law_700 rfl (lv_at hl 0 rfl) ?_
  refine lv_iload_n (pc := 701) hx hb dL_law_701 rfl (lv_at hl 3 rfl) ?_
  refine lv_iconst (pc := 702) (v := (1 : Int32)) hx hb dL_law_702 (by decide) ?_
  refine lv_iadd (pc := 703) hx hb dL_law_703 ?_
  refine va_sld (pc := 704) hx hb hX hbl hbA hS hi.1 dL_law_704 ?_
  refine um_cVM (pc := 705) (k := 0) (As := [.int (xs (v3 + 1).toNatClampNeg)]) (rest := [.int r]) Cx (c_X9_text (xs (v3 + 1).toNatClampNeg) hfm) kV_X9_text (Or.inl qM_L_69) hI.2.1 hS hAo (fun q h => hAn q (hI.2.1.old q h)) rfl rfl rfl hl rfl (Nat.le_of_ble_eq_true rfl) (Nat.le_of_ble_eq_true rfl) (Nat.le_of_ble_eq_true rfl) dL_law_705 hcs hss (fun H2 locs2 hW2 z2 o2 hS2 => ?_)
  replace hI := hI.sm hW2 o2
  refine lv_icmp_eq (pc := 708) (tgt := 2016) hx hb dL_law_708 (by decide) (fun _ => ?_) (fun h => absurd rfl h)
  exact kk _ _ _ _ _ _ hR' hI e0 hS2
set_option maxHeartbeats 4000000 in
theorem lw_c13 (F0' : lw_F p s m meth c args Z b L xs A) (hSim : sim_of R) (hi : lw_ix v3 L) (hR : R n σx σm) (hI : lw_I Z n αx αm σx σm H) (hS : va_S A s.heap H locs) (hl : lv_has ls 4 [(0, .ref b), (1, .ref (αx 0)), (2, .ref (αm 0)), (3, .int v3)]) (hcs : cells + 3 ≤ 600000) (hss : slots + 197 ≤ 7302250) (kk : lw_K p l e s m args below meth c Q Z R αx αm A ls cells slots) : W p l e room_1 s m args below meth c H locs cells slots Q (F0 m 713 ls []) := by
  obtain ⟨Cx, hX, hbl, hbA, hAo, hAn⟩ := F0'
  have hx := Cx.1
  have hb := Cx.2.1
  obtain ⟨r, hfx, hfm, hR'⟩ := hSim n σx σm (xs (v3 + 1).toNatClampNeg) (xs (v3 + 2).toNatClampNeg) hR
  refine lv_aload_n (pc := 713) hx hb dL_law_713 rfl (lv_at hl 1 rfl) ?_
  refine lv_aload_n (pc := 714) hx hb dL_law_714 rfl (lv_at hl 0 rfl) ?_
  refine lv_iload_n (pc := 715) hx hb dL_law_715 rfl (lv_at hl 3 rfl) ?_
  refine lv_iconst (pc := 716) (v := (1 : Int32)) hx hb dL_law_716 (by decide) ?_
  refine lv_iadd (pc := 717) hx hb dL_law_717 ?_
  refine va_sld (pc := 718) hx hb hX hbl hbA hS hi.1 dL_law_718 ?_
  refine lv_aload_n (pc := 719) hx hb dL_law_719 rfl (lv_at hl 0 rfl) ?_
  refine lv_iload_n (pc := 720) hx hb dL_law_720 rfl (lv_at hl 3 rfl) ?_
  refine lv_iconst (pc := 721) (v := (2 : Int32)) hx hb dL_law_721 (by decide) ?_
  refine lv_iadd (pc := 722) hx hb dL_law_722 ?_
  refine va_sld (pc := 723) hx hb hX hbl hbA hS hi.2.1 dL_law_723 ?_
  refine um_cVM (pc := 724) (k := 0) (As := [.int (xs (v3 + 1).toNatClampNeg), .int (xs (v3 + 2).toNatClampNeg)]) (rest := []) Cx (c_X8_of (xs (v3 + 1).toNatClampNeg) (xs (v3 + 2).toNatClampNeg) (xshn_X n) hfx) kV_X8_of (Or.inl qM_L_70) hI.1 hS hAo (fun q h => hAn q (hI.1.old q h)) (xshn_X n 0 _ rfl) rfl rfl hl rfl (Nat.le_of_ble_eq_true rfl) (Nat.le_of_ble_eq_true rfl) (Nat.le_of_ble_eq_true rfl) dL_law_724 (by show cells ≤ 600000; omega) (by show slots ≤ 7302250; omega) (fun H1 locs1 hW1 z1 o1 hS1 => ?_)
  replace hI := hI.sx hW1 o1
  have e0 : αx 0 = αx 0 := rfl
  clear o1 hW1
  clear hS
  have hS := hS1
  clear hS1
  refine lv_aload_n (pc := 727) hx hb dL_law_727 rfl (lv_at hl 2 rfl) ?_
  refine lv_aload_n (pc := 728) hx hb dL_law_728 rfl (lv_at hl 0 rfl) ?_
  refine lv_iload_n (pc := 729) hx hb dL_law_729 rfl (lv_at hl 3 rfl) ?_
  refine lv_iconst (pc := 730) (v := (1 : Int32)) hx hb dL_law_730 (by decide) ?_
  refine lv_iadd (pc := 731) hx hb dL_law_731 ?_
  refine va_sld (pc := 732) hx hb hX hbl hbA hS hi.1 dL_law_732 ?_
  refine lv_aload_n (pc := 733) hx hb dL_law_733 rfl (lv_at hl 0 rfl) ?_
  refine lv_iload_n (pc := 734) hx hb dL_law_734 rfl (lv_at hl 3 rfl) ?_
  refine lv_iconst (pc := 735) (v := (2 : Int32)) hx hb dL_law_735 (by decide) ?_
  refine lv_iadd (pc := 736) hx hb dL_law_736 ?_
  refine va_sld (pc := 737) hx hb hX hbl hbA hS hi.2.1 dL_law_737 ?_
  refine um_cVM (pc := 738) (k := 0) (As := [.int (xs (v3 + 1).toNatClampNeg), .int (xs (v3 + 2).toNatClampNeg)]) (rest := [.int r]) Cx (c_X9_of (xs (v3 + 1).toNatClampNeg) (xs (v3 + 2).toNatClampNeg) hfm) kV_X9_of (Or.inl qM_L_73) hI.2.1 hS hAo (fun q h => hAn q (hI.2.1.old q h)) rfl rfl rfl hl rfl (Nat.le_of_ble_eq_true rfl) (Nat.le_of_ble_eq_true rfl) (Nat.le_of_ble_eq_true rfl) dL_law_738 (by show cells ≤ 600000; omega) (by show slots ≤ 7302250; omega) (fun H2 locs2 hW2 z2 o2 hS2 => ?_)
  replace hI := hI.sm hW2 o2
  refine lv_icmp_eq (pc := 741) (tgt := 2016) hx hb dL_law_741 (by decide) (fun _ => ?_) (fun h => absurd rfl h)
  refine W.widen (k := cells + 3) (n := slots + 197) (by omega) (by omega) ?_
  exact kk _ _ _ _ _ _ hR' hI e0 hS2
set_option maxHeartbeats 4000000 in
theorem lw_c14 (F0' : lw_F p s m meth c args Z b L xs A) (hSim : sim_why R) (hi : lw_ix v3 L) (hR : R n σx σm) (hI : lw_I Z n αx αm σx σm H) (hS : va_S A s.heap H locs) (hl : lv_has ls 4 [(0, .ref b), (1, .ref (αx 0)), (2, .ref (αm 0)), (3, .int v3)]) (hcs : cells + 3 ≤ 600000) (hss : slots + 197 ≤ 7302250) (kk : lw_K p l e s m args below meth c Q Z R αx αm A ls cells slots) : W p l e room_1 s m args below meth c H locs cells slots Q (F0 m 746 ls []) := by
  obtain ⟨Cx, hX, hbl, hbA, hAo, hAn⟩ := F0'
  have hx := Cx.1
  have hb := Cx.2.1
  obtain ⟨r, hfx, hfm, hR'⟩ := hSim n σx σm (xs (v3 + 1).toNatClampNeg) hR
  refine lv_aload_n (pc := 746) hx hb dL_law_746 rfl (lv_at hl 1 rfl) ?_
  refine lv_aload_n (pc := 747) hx hb dL_law_747 rfl (lv_at hl 0 rfl) ?_
  refine lv_iload_n (pc := 748) hx hb dL_law_748 rfl (lv_at hl 3 rfl) ?_
  refine lv_iconst (pc := 749) (v := (1 : Int32)) hx hb dL_law_749 (by decide) ?_
  refine lv_iadd (pc := 750) hx hb dL_law_750 ?_
  refine va_sld (pc := 751) hx hb hX hbl hbA hS hi.1 dL_law_751 ?_
  refine um_cVM (pc := 752) (k := 0) (As := [.int (xs (v3 + 1).toNatClampNeg)]) (rest := []) Cx (c_X8_why (xs (v3 + 1).toNatClampNeg) (xshn_X n) hfx) kV_X8_why (Or.inl qM_L_74) hI.1 hS hAo (fun q h => hAn q (hI.1.old q h)) (xshn_X n 0 _ rfl) rfl rfl hl rfl (Nat.le_of_ble_eq_true rfl) (Nat.le_of_ble_eq_true rfl) (Nat.le_of_ble_eq_true rfl) dL_law_752 (by show cells ≤ 600000; omega) (by show slots ≤ 7302250; omega) (fun H1 locs1 hW1 z1 o1 hS1 => ?_)
  replace hI := hI.sx hW1 o1
  have e0 : αx 0 = αx 0 := rfl
  clear o1 hW1
  clear hS
  have hS := hS1
  clear hS1
  refine lv_aload_n (pc := 755) hx hb dL_law_755 rfl (lv_at hl 2 rfl) ?_
  refine lv_aload_n (pc := 756) hx hb dL_law_756 rfl (lv_at hl 0 rfl) ?_
  refine lv_iload_n (pc := 757) hx hb dL_law_757 rfl (lv_at hl 3 rfl) ?_
  refine lv_iconst (pc := 758) (v := (1 : Int32)) hx hb dL_law_758 (by decide) ?_
  refine lv_iadd (pc := 759) hx hb dL_law_759 ?_
  refine va_sld (pc := 760) hx hb hX hbl hbA hS hi.1 dL_law_760 ?_
  refine um_cVM (pc := 761) (k := 0) (As := [.int (xs (v3 + 1).toNatClampNeg)]) (rest := [.int r]) Cx (c_X9_why (xs (v3 + 1).toNatClampNeg) hfm) kV_X9_why (Or.inl qM_L_77) hI.2.1 hS hAo (fun q h => hAn q (hI.2.1.old q h)) rfl rfl rfl hl rfl (Nat.le_of_ble_eq_true rfl) (Nat.le_of_ble_eq_true rfl) (Nat.le_of_ble_eq_true rfl) dL_law_761 (by show cells ≤ 600000; omega) (by show slots ≤ 7302250; omega) (fun H2 locs2 hW2 z2 o2 hS2 => ?_)
  replace hI := hI.sm hW2 o2
  refine lv_icmp_eq (pc := 764) (tgt := 2016) hx hb dL_law_764 (by decide) (fun _ => ?_) (fun h => absurd rfl h)
  refine W.widen (k := cells + 3) (n := slots + 197) (by omega) (by omega) ?_
  exact kk _ _ _ _ _ _ hR' hI e0 hS2
set_option maxHeartbeats 4000000 in
theorem lw_c15 (F0' : lw_F p s m meth c args Z b L xs A) (hSim : sim_rules R) (hi : lw_ix v3 L) (hR : R n σx σm) (hI : lw_I Z n αx αm σx σm H) (hS : va_S A s.heap H locs) (hl : lv_has ls 4 [(0, .ref b), (1, .ref (αx 0)), (2, .ref (αm 0)), (3, .int v3)]) (hcs : cells + 3 ≤ 600000) (hss : slots + 197 ≤ 7302250) (kk : lw_K p l e s m args below meth c Q Z R αx αm A ls cells slots) : W p l e room_1 s m args below meth c H locs cells slots Q (F0 m 769 ls []) := by
  obtain ⟨Cx, hX, hbl, hbA, hAo, hAn⟩ := F0'
  have hx := Cx.1
  have hb := Cx.2.1
  obtain ⟨r, σx', σm', hfx, hfm, hR'⟩ := hSim n σx σm (xs (v3 + 1).toNatClampNeg) (xs (v3 + 2).toNatClampNeg) (xs (v3 + 3).toNatClampNeg) (xs (v3 + 4).toNatClampNeg) hR
  refine lv_aload_n (pc := 769) hx hb dL_law_769 rfl (lv_at hl 1 rfl) ?_
  refine lv_aload_n (pc := 770) hx hb dL_law_770 rfl (lv_at hl 0 rfl) ?_
  refine lv_iload_n (pc := 771) hx hb dL_law_771 rfl (lv_at hl 3 rfl) ?_
  refine lv_iconst (pc := 772) (v := (1 : Int32)) hx hb dL_law_772 (by decide) ?_
  refine lv_iadd (pc := 773) hx hb dL_law_773 ?_
  refine va_sld (pc := 774) hx hb hX hbl hbA hS hi.1 dL_law_774 ?_
  refine lv_aload_n (pc := 775) hx hb dL_law_775 rfl (lv_at hl 0 rfl) ?_
  refine lv_iload_n (pc := 776) hx hb dL_law_776 rfl (lv_at hl 3 rfl) ?_
  refine lv_iconst (pc := 777) (v := (2 : Int32)) hx hb dL_law_777 (by decide) ?_
  refine lv_iadd (pc := 778) hx hb dL_law_778 ?_
  refine va_sld (pc := 779) hx hb hX hbl hbA hS hi.2.1 dL_law_779 ?_
  refine lv_aload_n (pc := 780) hx hb dL_law_780 rfl (lv_at hl 0 rfl) ?_
  refine lv_iload_n (pc := 781) hx hb dL_law_781 rfl (lv_at hl 3 rfl) ?_
  refine lv_iconst (pc := 782) (v := (3 : Int32)) hx hb dL_law_782 (by decide) ?_
  refine lv_iadd (pc := 783) hx hb dL_law_783 ?_
  refine va_sld (pc := 784) hx hb hX hbl hbA hS hi.2.2.1 dL_law_784 ?_
  refine lv_aload_n (pc := 785) hx hb dL_law_785 rfl (lv_at hl 0 rfl) ?_
  refine lv_iload_n (pc := 786) hx hb dL_law_786 rfl (lv_at hl 3 rfl) ?_
  refine lv_iconst (pc := 787) (v := (4 : Int32)) hx hb dL_law_787 (by decide) ?_
  refine lv_iadd (pc := 788) hx hb dL_law_788 ?_
  refine va_sld (pc := 789) hx hb hX hbl hbA hS hi.2.2.2.1 dL_law_789 ?_
  refine um_cVM (pc := 790) (k := 0) (As := [.int (xs (v3 + 1).toNatClampNeg), .int (xs (v3 + 2).toNatClampNeg), .int (xs (v3 + 3).toNatClampNeg), .int (xs (v3 + 4).toNatClampNeg)]) (rest := []) Cx (c_X8_rules (xs (v3 + 1).toNatClampNeg) (xs (v3 + 2).toNatClampNeg) (xs (v3 + 3).toNatClampNeg) (xs (v3 + 4).toNatClampNeg) (xshn_X n) hfx) kV_X8_rules (Or.inl qM_L_78) hI.1 hS hAo (fun q h => hAn q (hI.1.old q h)) (xshn_X n 0 _ rfl) rfl rfl hl rfl (Nat.le_of_ble_eq_true rfl) (Nat.le_of_ble_eq_true rfl) (Nat.le_of_ble_eq_true rfl) dL_law_790 (by show cells ≤ 600000; omega) (by show slots ≤ 7302250; omega) (fun H1 locs1 hW1 z1 o1 hS1 => ?_)
  replace hI := hI.sx hW1 o1
  have e0 : αx 0 = αx 0 := rfl
  clear o1 hW1
  clear hS
  have hS := hS1
  clear hS1
  refine lv_aload_n (pc := 793) hx hb dL_law_793 rfl (lv_at hl 2 rfl) ?_
  refine lv_aload_n (pc := 794) hx hb dL_law_794 rfl (lv_at hl 0 rfl) ?_
  refine lv_iload_n (pc := 795) hx hb dL_law_795 rfl (lv_at hl 3 rfl) ?_
  refine lv_iconst (pc := 796) (v := (1 : Int32)) hx hb dL_law_796 (by decide) ?_
  refine lv_iadd (pc := 797) hx hb dL_law_797 ?_
  refine va_sld (pc := 798) hx hb hX hbl hbA hS hi.1 dL_law_798 ?_
  refine lv_aload_n (pc := 799) hx hb dL_law_799 rfl (lv_at hl 0 rfl) ?_
  refine lv_iload_n (pc := 800) hx hb dL_law_800 rfl (lv_at hl 3 rfl) ?_
  refine lv_iconst (pc := 801) (v := (2 : Int32)) hx hb dL_law_801 (by decide) ?_
  refine lv_iadd (pc := 802) hx hb dL_law_802 ?_
  refine va_sld (pc := 803) hx hb hX hbl hbA hS hi.2.1 dL_law_803 ?_
  refine lv_aload_n (pc := 804) hx hb dL_law_804 rfl (lv_at hl 0 rfl) ?_
  refine lv_iload_n (pc := 805) hx hb dL_law_805 rfl (lv_at hl 3 rfl) ?_
  refine lv_iconst (pc := 806) (v := (3 : Int32)) hx hb dL_law_806 (by decide) ?_
  refine lv_iadd (pc := 807) hx hb dL_law_807 ?_
  refine va_sld (pc := 808) hx hb hX hbl hbA hS hi.2.2.1 dL_law_808 ?_
  refine lv_aload_n (pc := 809) hx hb dL_law_809 rfl (lv_at hl 0 rfl) ?_
  refine lv_iload_n (pc := 810) hx hb dL_law_810 rfl (lv_at hl 3 rfl) ?_
  refine lv_iconst (pc := 811) (v := (4 : Int32)) hx hb dL_law_811 (by decide) ?_
  refine lv_iadd (pc := 812) hx hb dL_law_812 ?_
  refine va_sld (pc := 813) hx hb hX hbl hbA hS hi.2.2.2.1 dL_law_813 ?_
  refine um_cVM (pc := 814) (k := 0) (As := [.int (xs (v3 + 1).toNatClampNeg), .int (xs (v3 + 2).toNatClampNeg), .int (xs (v3 + 3).toNatClampNeg), .int (xs (v3 + 4).toNatClampNeg)]) (rest := [.int r]) Cx (c_X9_rules (xs (v3 + 1).toNatClampNeg) (xs (v3 + 2).toNatClampNeg) (xs (v3 + 3).toNatClampNeg) (xs (v3 + 4).toNatClampNeg) hfm) kV_X9_rules (Or.inl qM_L_81) hI.2.1 hS hAo (fun q h => hAn q (hI.2.1.old q h)) rfl rfl rfl hl rfl (Nat.le_of_ble_eq_true rfl) (Nat.le_of_ble_eq_true rfl) (Nat.le_of_ble_eq_true rfl) dL_law_814 (by show cells ≤ 600000; omega) (by show slots ≤ 7302250; omega) (fun H2 locs2 hW2 z2 o2 hS2 => ?_)
  replace hI := hI.sm hW2 o2
  refine lv_icmp_eq (pc := 817) (tgt := 2016) hx hb dL_law_817 (by decide) (fun _ => ?_) (fun h => absurd rfl h)
  refine W.widen (k := cells + 3) (n := slots + 197) (by omega) (by omega) ?_
  exact kk _ _ _ _ _ _ hR' hI e0 hS2
set_option maxHeartbeats 4000000 in
theorem lw_c16 (F0' : lw_F p s m meth c args Z b L xs A) (hSim : sim_mark R) (hi : lw_ix v3 L) (hR : R n σx σm) (hI : lw_I Z n αx αm σx σm H) (hS : va_S A s.heap H locs) (hl : lv_has ls 4 [(0, .ref b), (1, .ref (αx 0)), (2, .ref (αm 0)), (3, .int v3)]) (hcs : cells + 3 ≤ 600000) (hss : slots + 197 ≤ 7302250) (kk : lw_K p l e s m args below meth c Q Z R αx αm A ls cells slots) : W p l e room_1 s m args below meth c H locs cells slots Q (F0 m 822 ls []) := by
  obtain ⟨Cx, hX, hbl, hbA, hAo, hAn⟩ := F0'
  have hx := Cx.1
  have hb := Cx.2.1
  obtain ⟨r, σx', σm', hfx, hfm, hR'⟩ := hSim n σx σm (xs (v3 + 1).toNatClampNeg) (xs (v3 + 2).toNatClampNeg) hR
  refine lv_aload_n (pc := 822) hx hb dL_law_822 rfl (lv_at hl 1 rfl) ?_
  refine lv_aload_n (pc := 823) hx hb dL_law_823 rfl (lv_at hl 0 rfl) ?_
  refine lv_iload_n (pc := 824) hx hb dL_law_824 rfl (lv_at hl 3 rfl) ?_
  refine lv_iconst (pc := 825) (v := (1 : Int32)) hx hb dL_law_825 (by decide) ?_
  refine lv_iadd (pc := 826) hx hb dL_law_826 ?_
  refine va_sld (pc := 827) hx hb hX hbl hbA hS hi.1 dL_law_827 ?_
  refine lv_aload_n (pc := 828) hx hb dL_law_828 rfl (lv_at hl 0 rfl) ?_
  refine lv_iload_n (pc := 829) hx hb dL_law_829 rfl (lv_at hl 3 rfl) ?_
  refine lv_iconst (pc := 830) (v := (2 : Int32)) hx hb dL_law_830 (by decide) ?_
  refine lv_iadd (pc := 831) hx hb dL_law_831 ?_
  refine va_sld (pc := 832) hx hb hX hbl hbA hS hi.2.1 dL_law_832 ?_
  refine um_cVM (pc := 833) (k := 0) (As := [.int (xs (v3 + 1).toNatClampNeg), .int (xs (v3 + 2).toNatClampNeg)]) (rest := []) Cx (c_X8_mark (xs (v3 + 1).toNatClampNeg) (xs (v3 + 2).toNatClampNeg) (xshn_X n) hfx) kV_X8_mark (Or.inl qM_L_82) hI.1 hS hAo (fun q h => hAn q (hI.1.old q h)) (xshn_X n 0 _ rfl) rfl rfl hl rfl (Nat.le_of_ble_eq_true rfl) (Nat.le_of_ble_eq_true rfl) (Nat.le_of_ble_eq_true rfl) dL_law_833 (by show cells ≤ 600000; omega) (by show slots ≤ 7302250; omega) (fun H1 locs1 hW1 z1 o1 hS1 => ?_)
  replace hI := hI.sx hW1 o1
  have e0 : αx 0 = αx 0 := rfl
  clear o1 hW1
  clear hS
  have hS := hS1
  clear hS1
  refine lv_aload_n (pc := 836) hx hb dL_law_836 rfl (lv_at hl 2 rfl) ?_
  refine lv_aload_n (pc := 837) hx hb dL_law_837 rfl (lv_at hl 0 rfl) ?_
  refine lv_iload_n (pc := 838) hx hb dL_law_838 rfl (lv_at hl 3 rfl) ?_
  refine lv_iconst (pc := 839) (v := (1 : Int32)) hx hb dL_law_839 (by decide) ?_
  refine lv_iadd (pc := 840) hx hb dL_law_840 ?_
  refine va_sld (pc := 841) hx hb hX hbl hbA hS hi.1 dL_law_841 ?_
  refine lv_aload_n (pc := 842) hx hb dL_law_842 rfl (lv_at hl 0 rfl) ?_
  refine lv_iload_n (pc := 843) hx hb dL_law_843 rfl (lv_at hl 3 rfl) ?_
  refine lv_iconst (pc := 844) (v := (2 : Int32)) hx hb dL_law_844 (by decide) ?_
  refine lv_iadd (pc := 845) hx hb dL_law_845 ?_
  refine va_sld (pc := 846) hx hb hX hbl hbA hS hi.2.1 dL_law_846 ?_
  refine um_cVM (pc := 847) (k := 0) (As := [.int (xs (v3 + 1).toNatClampNeg), .int (xs (v3 + 2).toNatClampNeg)]) (rest := [.int r]) Cx (c_X9_mark (xs (v3 + 1).toNatClampNeg) (xs (v3 + 2).toNatClampNeg) hfm) kV_X9_mark (Or.inl qM_L_85) hI.2.1 hS hAo (fun q h => hAn q (hI.2.1.old q h)) rfl rfl rfl hl rfl (Nat.le_of_ble_eq_true rfl) (Nat.le_of_ble_eq_true rfl) (Nat.le_of_ble_eq_true rfl) dL_law_847 (by show cells ≤ 600000; omega) (by show slots ≤ 7302250; omega) (fun H2 locs2 hW2 z2 o2 hS2 => ?_)
  replace hI := hI.sm hW2 o2
  refine lv_icmp_eq (pc := 850) (tgt := 2016) hx hb dL_law_850 (by decide) (fun _ => ?_) (fun h => absurd rfl h)
  refine W.widen (k := cells + 3) (n := slots + 197) (by omega) (by omega) ?_
  exact kk _ _ _ _ _ _ hR' hI e0 hS2
set_option maxHeartbeats 4000000 in
theorem lw_c17 (F0' : lw_F p s m meth c args Z b L xs A) (hSim : sim_voids R) (hi : lw_ix v3 L) (hR : R n σx σm) (hI : lw_I Z n αx αm σx σm H) (hS : va_S A s.heap H locs) (hl : lv_has ls 4 [(0, .ref b), (1, .ref (αx 0)), (2, .ref (αm 0)), (3, .int v3)]) (hcs : cells + 3 ≤ 600000) (hss : slots + 197 ≤ 7302250) (kk : lw_K p l e s m args below meth c Q Z R αx αm A ls cells slots) : W p l e room_1 s m args below meth c H locs cells slots Q (F0 m 855 ls []) := by
  obtain ⟨Cx, hX, hbl, hbA, hAo, hAn⟩ := F0'
  have hx := Cx.1
  have hb := Cx.2.1
  obtain ⟨r, σx', σm', hfx, hfm, hR'⟩ := hSim n σx σm (xs (v3 + 1).toNatClampNeg) (xs (v3 + 2).toNatClampNeg) hR
  refine lv_aload_n (pc := 855) hx hb dL_law_855 rfl (lv_at hl 1 rfl) ?_
  refine lv_aload_n (pc := 856) hx hb dL_law_856 rfl (lv_at hl 0 rfl) ?_
  refine lv_iload_n (pc := 857) hx hb dL_law_857 rfl (lv_at hl 3 rfl) ?_
  refine lv_iconst (pc := 858) (v := (1 : Int32)) hx hb dL_law_858 (by decide) ?_
  refine lv_iadd (pc := 859) hx hb dL_law_859 ?_
  refine va_sld (pc := 860) hx hb hX hbl hbA hS hi.1 dL_law_860 ?_
  refine lv_aload_n (pc := 861) hx hb dL_law_861 rfl (lv_at hl 0 rfl) ?_
  refine lv_iload_n (pc := 862) hx hb dL_law_862 rfl (lv_at hl 3 rfl) ?_
  refine lv_iconst (pc := 863) (v := (2 : Int32)) hx hb dL_law_863 (by decide) ?_
  refine lv_iadd (pc := 864) hx hb dL_law_864 ?_
  refine va_sld (pc := 865) hx hb hX hbl hbA hS hi.2.1 dL_law_865 ?_
  refine um_cVM (pc := 866) (k := 0) (As := [.int (xs (v3 + 1).toNatClampNeg), .int (xs (v3 + 2).toNatClampNeg)]) (rest := []) Cx (c_X8_voids (xs (v3 + 1).toNatClampNeg) (xs (v3 + 2).toNatClampNeg) (xshn_X n) hfx) kV_X8_voids (Or.inl qM_L_86) hI.1 hS hAo (fun q h => hAn q (hI.1.old q h)) (xshn_X n 0 _ rfl) rfl rfl hl rfl (Nat.le_of_ble_eq_true rfl) (Nat.le_of_ble_eq_true rfl) (Nat.le_of_ble_eq_true rfl) dL_law_866 (by show cells ≤ 600000; omega) (by show slots ≤ 7302250; omega) (fun H1 locs1 hW1 z1 o1 hS1 => ?_)
  replace hI := hI.sx hW1 o1
  have e0 : αx 0 = αx 0 := rfl
  clear o1 hW1
  clear hS
  have hS := hS1
  clear hS1
  refine lv_aload_n (pc := 869) hx hb dL_law_869 rfl (lv_at hl 2 rfl) ?_
  refine lv_aload_n (pc := 870) hx hb dL_law_870 rfl (lv_at hl 0 rfl) ?_
  refine lv_iload_n (pc := 871) hx hb dL_law_871 rfl (lv_at hl 3 rfl) ?_
  refine lv_iconst (pc := 872) (v := (1 : Int32)) hx hb dL_law_872 (by decide) ?_
  refine lv_iadd (pc := 873) hx hb dL_law_873 ?_
  refine va_sld (pc := 874) hx hb hX hbl hbA hS hi.1 dL_law_874 ?_
  refine lv_aload_n (pc := 875) hx hb dL_law_875 rfl (lv_at hl 0 rfl) ?_
  refine lv_iload_n (pc := 876) hx hb dL_law_876 rfl (lv_at hl 3 rfl) ?_
  refine lv_iconst (pc := 877) (v := (2 : Int32)) hx hb dL_law_877 (by decide) ?_
  refine lv_iadd (pc := 878) hx hb dL_law_878 ?_
  refine va_sld (pc := 879) hx hb hX hbl hbA hS hi.2.1 dL_law_879 ?_
  refine um_cVM (pc := 880) (k := 0) (As := [.int (xs (v3 + 1).toNatClampNeg), .int (xs (v3 + 2).toNatClampNeg)]) (rest := [.int r]) Cx (c_X9_voids (xs (v3 + 1).toNatClampNeg) (xs (v3 + 2).toNatClampNeg) hfm) kV_X9_voids (Or.inl qM_L_89) hI.2.1 hS hAo (fun q h => hAn q (hI.2.1.old q h)) rfl rfl rfl hl rfl (Nat.le_of_ble_eq_true rfl) (Nat.le_of_ble_eq_true rfl) (Nat.le_of_ble_eq_true rfl) dL_law_880 (by show cells ≤ 600000; omega) (by show slots ≤ 7302250; omega) (fun H2 locs2 hW2 z2 o2 hS2 => ?_)
  replace hI := hI.sm hW2 o2
  refine lv_icmp_eq (pc := 883) (tgt := 2016) hx hb dL_law_883 (by decide) (fun _ => ?_) (fun h => absurd rfl h)
  refine W.widen (k := cells + 3) (n := slots + 197) (by omega) (by omega) ?_
  exact kk _ _ _ _ _ _ hR' hI e0 hS2
set_option maxHeartbeats 4000000 in
theorem lw_c18 (F0' : lw_F p s m meth c args Z b L xs A) (hSim : sim_markTold R) (hi : lw_ix v3 L) (hR : R n σx σm) (hI : lw_I Z n αx αm σx σm H) (hS : va_S A s.heap H locs) (hl : lv_has ls 4 [(0, .ref b), (1, .ref (αx 0)), (2, .ref (αm 0)), (3, .int v3)]) (hcs : cells + 3 ≤ 600000) (hss : slots + 197 ≤ 7302250) (kk : lw_K p l e s m args below meth c Q Z R αx αm A ls cells slots) : W p l e room_1 s m args below meth c H locs cells slots Q (F0 m 888 ls []) := by
  obtain ⟨Cx, hX, hbl, hbA, hAo, hAn⟩ := F0'
  have hx := Cx.1
  have hb := Cx.2.1
  obtain ⟨r, hfx, hfm, hR'⟩ := hSim n σx σm (xs (v3 + 1).toNatClampNeg) (xs (v3 + 2).toNatClampNeg) hR
  refine lv_aload_n (pc := 888) hx hb dL_law_888 rfl (lv_at hl 1 rfl) ?_
  refine lv_aload_n (pc := 889) hx hb dL_law_889 rfl (lv_at hl 0 rfl) ?_
  refine lv_iload_n (pc := 890) hx hb dL_law_890 rfl (lv_at hl 3 rfl) ?_
  refine lv_iconst (pc := 891) (v := (1 : Int32)) hx hb dL_law_891 (by decide) ?_
  refine lv_iadd (pc := 892) hx hb dL_law_892 ?_
  refine va_sld (pc := 893) hx hb hX hbl hbA hS hi.1 dL_law_893 ?_
  refine lv_aload_n (pc := 894) hx hb dL_law_894 rfl (lv_at hl 0 rfl) ?_
  refine lv_iload_n (pc := 895) hx hb dL_law_895 rfl (lv_at hl 3 rfl) ?_
  refine lv_iconst (pc := 896) (v := (2 : Int32)) hx hb dL_law_896 (by decide) ?_
  refine lv_iadd (pc := 897) hx hb dL_law_897 ?_
  refine va_sld (pc := 898) hx hb hX hbl hbA hS hi.2.1 dL_law_898 ?_
  refine um_cVM (pc := 899) (k := 0) (As := [.int (xs (v3 + 1).toNatClampNeg), .int (xs (v3 + 2).toNatClampNeg)]) (rest := []) Cx (c_X8_markTold (xs (v3 + 1).toNatClampNeg) (xs (v3 + 2).toNatClampNeg) (xshn_X n) hfx) kV_X8_markTold (Or.inl qM_L_90) hI.1 hS hAo (fun q h => hAn q (hI.1.old q h)) (xshn_X n 0 _ rfl) rfl rfl hl rfl (Nat.le_of_ble_eq_true rfl) (Nat.le_of_ble_eq_true rfl) (Nat.le_of_ble_eq_true rfl) dL_law_899 (by show cells ≤ 600000; omega) (by show slots ≤ 7302250; omega) (fun H1 locs1 hW1 z1 o1 hS1 => ?_)
  replace hI := hI.sx hW1 o1
  have e0 : αx 0 = αx 0 := rfl
  clear o1 hW1
  clear hS
  have hS := hS1
  clear hS1
  refine lv_aload_n (pc := 902) hx hb dL_law_902 rfl (lv_at hl 2 rfl) ?_
  refine lv_aload_n (pc := 903) hx hb dL_law_903 rfl (lv_at hl 0 rfl) ?_
  refine lv_iload_n (pc := 904) hx hb dL_law_904 rfl (lv_at hl 3 rfl) ?_
  refine lv_iconst (pc := 905) (v := (1 : Int32)) hx hb dL_law_905 (by decide) ?_
  refine lv_iadd (pc := 906) hx hb dL_law_906 ?_
  refine va_sld (pc := 907) hx hb hX hbl hbA hS hi.1 dL_law_907 ?_
  refine lv_aload_n (pc := 908) hx hb dL_law_908 rfl (lv_at hl 0 rfl) ?_
  refine lv_iload_n (pc := 909) hx hb dL_law_909 rfl (lv_at hl 3 rfl) ?_
  refine lv_iconst (pc := 910) (v := (2 : Int32)) hx hb dL_law_910 (by decide) ?_
  refine lv_iadd (pc := 911) hx hb dL_law_911 ?_
  refine va_sld (pc := 912) hx hb hX hbl hbA hS hi.2.1 dL_law_912 ?_
  refine um_cVM (pc := 913) (k := 0) (As := [.int (xs (v3 + 1).toNatClampNeg), .int (xs (v3 + 2).toNatClampNeg)]) (rest := [.int r]) Cx (c_X9_markTold (xs (v3 + 1).toNatClampNeg) (xs (v3 + 2).toNatClampNeg) hfm) kV_X9_markTold (Or.inl qM_L_93) hI.2.1 hS hAo (fun q h => hAn q (hI.2.1.old q h)) rfl rfl rfl hl rfl (Nat.le_of_ble_eq_true rfl) (Nat.le_of_ble_eq_true rfl) (Nat.le_of_ble_eq_true rfl) dL_law_913 (by show cells ≤ 600000; omega) (by show slots ≤ 7302250; omega) (fun H2 locs2 hW2 z2 o2 hS2 => ?_)
  replace hI := hI.sm hW2 o2
  refine lv_icmp_eq (pc := 916) (tgt := 2016) hx hb dL_law_916 (by decide) (fun _ => ?_) (fun h => absurd rfl h)
  refine W.widen (k := cells + 3) (n := slots + 197) (by omega) (by omega) ?_
  exact kk _ _ _ _ _ _ hR' hI e0 hS2
set_option maxHeartbeats 4000000 in
theorem lw_c19 (F0' : lw_F p s m meth c args Z b L xs A) (hSim : sim_due R) (hi : lw_ix v3 L) (hR : R n σx σm) (hI : lw_I Z n αx αm σx σm H) (hS : va_S A s.heap H locs) (hl : lv_has ls 4 [(0, .ref b), (1, .ref (αx 0)), (2, .ref (αm 0)), (3, .int v3)]) (hcs : cells + 3 ≤ 600000) (hss : slots + 197 ≤ 7302250) (kk : lw_K p l e s m args below meth c Q Z R αx αm A ls cells slots) : W p l e room_1 s m args below meth c H locs cells slots Q (F0 m 921 ls []) := by
  obtain ⟨Cx, hX, hbl, hbA, hAo, hAn⟩ := F0'
  have hx := Cx.1
  have hb := Cx.2.1
  obtain ⟨r, σx', σm', hfx, hfm, hR'⟩ := hSim n σx σm (xs (v3 + 1).toNatClampNeg) hR
  refine lv_aload_n (pc := 921) hx hb dL_law_921 rfl (lv_at hl 1 rfl) ?_
  refine lv_aload_n (pc := 922) hx hb dL_law_922 rfl (lv_at hl 0 rfl) ?_
  refine lv_iload_n (pc := 923) hx hb dL_law_923 rfl (lv_at hl 3 rfl) ?_
  refine lv_iconst (pc := 924) (v := (1 : Int32)) hx hb dL_law_924 (by decide) ?_
  refine lv_iadd (pc := 925) hx hb dL_law_925 ?_
  refine va_sld (pc := 926) hx hb hX hbl hbA hS hi.1 dL_law_926 ?_
  refine um_cVM (pc := 927) (k := 0) (As := [.int (xs (v3 + 1).toNatClampNeg)]) (rest := []) Cx (c_X8_due (xs (v3 + 1).toNatClampNeg) (xshn_X n) hfx) kV_X8_due (Or.inl qM_L_94) hI.1 hS hAo (fun q h => hAn q (hI.1.old q h)) (xshn_X n 0 _ rfl) rfl rfl hl rfl (Nat.le_of_ble_eq_true rfl) (Nat.le_of_ble_eq_true rfl) (Nat.le_of_ble_eq_true rfl) dL_law_927 (by show cells ≤ 600000; omega) (by show slots ≤ 7302250; omega) (fun H1 locs1 hW1 z1 o1 hS1 => ?_)
  replace hI := hI.sx hW1 o1
  have e0 : αx 0 = αx 0 := rfl
  clear o1 hW1
  clear hS
  have hS := hS1
  clear hS1
  refine lv_aload_n (pc := 930) hx hb dL_law_930 rfl (lv_at hl 2 rfl) ?_
  refine lv_aload_n (pc := 931) hx hb dL_law_931 rfl (lv_at hl 0 rfl) ?_
  refine lv_iload_n (pc := 932) hx hb dL_law_932 rfl (lv_at hl 3 rfl) ?_
  refine lv_iconst (pc := 933) (v := (1 : Int32)) hx hb dL_law_933 (by decide) ?_
  refine lv_iadd (pc := 934) hx hb dL_law_934 ?_
  refine va_sld (pc := 935) hx hb hX hbl hbA hS hi.1 dL_law_935 ?_
  refine um_cVM (pc := 936) (k := 0) (As := [.int (xs (v3 + 1).toNatClampNeg)]) (rest := [.int r]) Cx (c_X9_due (xs (v3 + 1).toNatClampNeg) hfm) kV_X9_due (Or.inl qM_L_97) hI.2.1 hS hAo (fun q h => hAn q (hI.2.1.old q h)) rfl rfl rfl hl rfl (Nat.le_of_ble_eq_true rfl) (Nat.le_of_ble_eq_true rfl) (Nat.le_of_ble_eq_true rfl) dL_law_936 (by show cells ≤ 600000; omega) (by show slots ≤ 7302250; omega) (fun H2 locs2 hW2 z2 o2 hS2 => ?_)
  replace hI := hI.sm hW2 o2
  refine lv_icmp_eq (pc := 939) (tgt := 2016) hx hb dL_law_939 (by decide) (fun _ => ?_) (fun h => absurd rfl h)
  refine W.widen (k := cells + 3) (n := slots + 197) (by omega) (by omega) ?_
  exact kk _ _ _ _ _ _ hR' hI e0 hS2
set_option maxHeartbeats 4000000 in
theorem lw_c20 (F0' : lw_F p s m meth c args Z b L xs A) (hSim : sim_moves R) (hi : lw_ix v3 L) (hR : R n σx σm) (hI : lw_I Z n αx αm σx σm H) (hS : va_S A s.heap H locs) (hl : lv_has ls 4 [(0, .ref b), (1, .ref (αx 0)), (2, .ref (αm 0)), (3, .int v3)]) (hcs : cells + 3 ≤ 600000) (hss : slots + 197 ≤ 7302250) (kk : lw_K p l e s m args below meth c Q Z R αx αm A ls cells slots) : W p l e room_1 s m args below meth c H locs cells slots Q (F0 m 944 ls []) := by
  obtain ⟨Cx, hX, hbl, hbA, hAo, hAn⟩ := F0'
  have hx := Cx.1
  have hb := Cx.2.1
  obtain ⟨r, σx', σm', hfx, hfm, hR'⟩ := hSim n σx σm (xs (v3 + 1).toNatClampNeg) hR
  refine lv_aload_n (pc := 944) hx hb dL_law_944 rfl (lv_at hl 1 rfl) ?_
  refine lv_aload_n (pc := 945) hx hb dL_law_945 rfl (lv_at hl 0 rfl) ?_
  refine lv_iload_n (pc := 946) hx hb dL_law_946 rfl (lv_at hl 3 rfl) ?_
  refine lv_iconst (pc := 947) (v := (1 : Int32)) hx hb dL_law_947 (by decide) ?_
  refine lv_iadd (pc := 948) hx hb dL_law_948 ?_
  refine va_sld (pc := 949) hx hb hX hbl hbA hS hi.1 dL_law_949 ?_
  refine um_cVM (pc := 950) (k := 0) (As := [.int (xs (v3 + 1).toNatClampNeg)]) (rest := []) Cx (c_X8_moves (xs (v3 + 1).toNatClampNeg) (xshn_X n) hfx) kV_X8_moves (Or.inl qM_L_98) hI.1 hS hAo (fun q h => hAn q (hI.1.old q h)) (xshn_X n 0 _ rfl) rfl rfl hl rfl (Nat.le_of_ble_eq_true rfl) (Nat.le_of_ble_eq_true rfl) (Nat.le_of_ble_eq_true rfl) dL_law_950 (by show cells ≤ 600000; omega) (by show slots ≤ 7302250; omega) (fun H1 locs1 hW1 z1 o1 hS1 => ?_)
  replace hI := hI.sx hW1 o1
  have e0 : αx 0 = αx 0 := rfl
  clear o1 hW1
  clear hS
  have hS := hS1
  clear hS1
  refine lv_aload_n (pc := 953) hx hb dL_law_953 rfl (lv_at hl 2 rfl) ?_
  refine lv_aload_n (pc := 954) hx hb dL_law_954 rfl (lv_at hl 0 rfl) ?_
  refine lv_iload_n (pc := 955) hx hb dL_law_955 rfl (lv_at hl 3 rfl) ?_
  refine lv_iconst (pc := 956) (v := (1 : Int32)) hx hb dL_law_956 (by decide) ?_
  refine lv_iadd (pc := 957) hx hb dL_law_957 ?_
  refine va_sld (pc := 958) hx hb hX hbl hbA hS hi.1 dL_law_958 ?_
  refine um_cVM (pc := 959) (k := 0) (As := [.int (xs (v3 + 1).toNatClampNeg)]) (rest := [.int r]) Cx (c_X9_moves (xs (v3 + 1).toNatClampNeg) hfm) kV_X9_moves (Or.inl qM_L_101) hI.2.1 hS hAo (fun q h => hAn q (hI.2.1.old q h)) rfl rfl rfl hl rfl (Nat.le_of_ble_eq_true rfl) (Nat.le_of_ble_eq_true rfl) (Nat.le_of_ble_eq_true rfl) dL_law_959 (by show cells ≤ 600000; omega) (by show slots ≤ 7302250; omega) (fun H2 locs2 hW2 z2 o2 hS2 => ?_)
  replace hI := hI.sm hW2 o2
  refine lv_icmp_eq (pc := 962) (tgt := 2016) hx hb dL_law_962 (by decide) (fun _ => ?_) (fun h => absurd rfl h)
  refine W.widen (k := cells + 3) (n := slots + 197) (by omega) (by omega) ?_
  exact kk _ _ _ _ _ _ hR' hI e0 hS2
set_option maxHeartbeats 4000000 in
theorem lw_c21 (F0' : lw_F p s m meth c args Z b L xs A) (hSim : sim_assign R) (hi : lw_ix v3 L) (hR : R n σx σm) (hI : lw_I Z n αx αm σx σm H) (hS : va_S A s.heap H locs) (hl : lv_has ls 4 [(0, .ref b), (1, .ref (αx 0)), (2, .ref (αm 0)), (3, .int v3)]) (hcs : cells + 3 ≤ 600000) (hss : slots + 197 ≤ 7302250) (kk : lw_K p l e s m args below meth c Q Z R αx αm A ls cells slots) : W p l e room_1 s m args below meth c H locs cells slots Q (F0 m 967 ls []) := by
  obtain ⟨Cx, hX, hbl, hbA, hAo, hAn⟩ := F0'
  have hx := Cx.1
  have hb := Cx.2.1
  obtain ⟨r, σx', σm', hfx, hfm, hR'⟩ := hSim n σx σm (xs (v3 + 1).toNatClampNeg) (xs (v3 + 2).toNatClampNeg) hR
  refine lv_aload_n (pc := 967) hx hb dL_law_967 rfl (lv_at hl 1 rfl) ?_
  refine lv_aload_n (pc := 968) hx hb dL_law_968 rfl (lv_at hl 0 rfl) ?_
  refine lv_iload_n (pc := 969) hx hb dL_law_969 rfl (lv_at hl 3 rfl) ?_
  refine lv_iconst (pc := 970) (v := (1 : Int32)) hx hb dL_law_970 (by decide) ?_
  refine lv_iadd (pc := 971) hx hb dL_law_971 ?_
  refine va_sld (pc := 972) hx hb hX hbl hbA hS hi.1 dL_law_972 ?_
  refine lv_aload_n (pc := 973) hx hb dL_law_973 rfl (lv_at hl 0 rfl) ?_
  refine lv_iload_n (pc := 974) hx hb dL_law_974 rfl (lv_at hl 3 rfl) ?_
  refine lv_iconst (pc := 975) (v := (2 : Int32)) hx hb dL_law_975 (by decide) ?_
  refine lv_iadd (pc := 976) hx hb dL_law_976 ?_
  refine va_sld (pc := 977) hx hb hX hbl hbA hS hi.2.1 dL_law_977 ?_
  refine um_cVM (pc := 978) (k := 0) (As := [.int (xs (v3 + 1).toNatClampNeg), .int (xs (v3 + 2).toNatClampNeg)]) (rest := []) Cx (c_X8_assign (xs (v3 + 1).toNatClampNeg) (xs (v3 + 2).toNatClampNeg) (xshn_X n) hfx) kV_X8_assign (Or.inl qM_L_102) hI.1 hS hAo (fun q h => hAn q (hI.1.old q h)) (xshn_X n 0 _ rfl) rfl rfl hl rfl (Nat.le_of_ble_eq_true rfl) (Nat.le_of_ble_eq_true rfl) (Nat.le_of_ble_eq_true rfl) dL_law_978 (by show cells ≤ 600000; omega) (by show slots ≤ 7302250; omega) (fun H1 locs1 hW1 z1 o1 hS1 => ?_)
  replace hI := hI.sx hW1 o1
  have e0 : αx 0 = αx 0 := rfl
  clear o1 hW1
  clear hS
  have hS := hS1
  clear hS1
  refine lv_aload_n (pc := 981) hx hb dL_law_981 rfl (lv_at hl 2 rfl) ?_
  refine lv_aload_n (pc := 982) hx hb dL_law_982 rfl (lv_at hl 0 rfl) ?_
  refine lv_iload_n (pc := 983) hx hb dL_law_983 rfl (lv_at hl 3 rfl) ?_
  refine lv_iconst (pc := 984) (v := (1 : Int32)) hx hb dL_law_984 (by decide) ?_
  refine lv_iadd (pc := 985) hx hb dL_law_985 ?_
  refine va_sld (pc := 986) hx hb hX hbl hbA hS hi.1 dL_law_986 ?_
  refine lv_aload_n (pc := 987) hx hb dL_law_987 rfl (lv_at hl 0 rfl) ?_
  refine lv_iload_n (pc := 988) hx hb dL_law_988 rfl (lv_at hl 3 rfl) ?_
  refine lv_iconst (pc := 989) (v := (2 : Int32)) hx hb dL_law_989 (by decide) ?_
  refine lv_iadd (pc := 990) hx hb dL_law_990 ?_
  refine va_sld (pc := 991) hx hb hX hbl hbA hS hi.2.1 dL_law_991 ?_
  refine um_cVM (pc := 992) (k := 0) (As := [.int (xs (v3 + 1).toNatClampNeg), .int (xs (v3 + 2).toNatClampNeg)]) (rest := [.int r]) Cx (c_X9_assign (xs (v3 + 1).toNatClampNeg) (xs (v3 + 2).toNatClampNeg) hfm) kV_X9_assign (Or.inl qM_L_105) hI.2.1 hS hAo (fun q h => hAn q (hI.2.1.old q h)) rfl rfl rfl hl rfl (Nat.le_of_ble_eq_true rfl) (Nat.le_of_ble_eq_true rfl) (Nat.le_of_ble_eq_true rfl) dL_law_992 (by show cells ≤ 600000; omega) (by show slots ≤ 7302250; omega) (fun H2 locs2 hW2 z2 o2 hS2 => ?_)
  replace hI := hI.sm hW2 o2
  refine lv_icmp_eq (pc := 995) (tgt := 2016) hx hb dL_law_995 (by decide) (fun _ => ?_) (fun h => absurd rfl h)
  refine W.widen (k := cells + 3) (n := slots + 197) (by omega) (by omega) ?_
  exact kk _ _ _ _ _ _ hR' hI e0 hS2
set_option maxHeartbeats 4000000 in
theorem lw_c22 (F0' : lw_F p s m meth c args Z b L xs A) (hSim : sim_back R) (hi : lw_ix v3 L) (hR : R n σx σm) (hI : lw_I Z n αx αm σx σm H) (hS : va_S A s.heap H locs) (hl : lv_has ls 4 [(0, .ref b), (1, .ref (αx 0)), (2, .ref (αm 0)), (3, .int v3)]) (hcs : cells + 3 ≤ 600000) (hss : slots + 197 ≤ 7302250) (kk : lw_K p l e s m args below meth c Q Z R αx αm A ls cells slots) : W p l e room_1 s m args below meth c H locs cells slots Q (F0 m 1000 ls []) := by
  obtain ⟨Cx, hX, hbl, hbA, hAo, hAn⟩ := F0'
  have hx := Cx.1
  have hb := Cx.2.1
  obtain ⟨r, σx', σm', hfx, hfm, hR'⟩ := hSim n σx σm (xs (v3 + 1).toNatClampNeg) hR
  refine lv_aload_n (pc := 1000) hx hb dL_law_1000 rfl (lv_at hl 1 rfl) ?_
  refine lv_aload_n (pc := 1001) hx hb dL_law_1001 rfl (lv_at hl 0 rfl) ?_
  refine lv_iload_n (pc := 1002) hx hb dL_law_1002 rfl (lv_at hl 3 rfl) ?_
  refine lv_iconst (pc := 1003) (v := (1 : Int32)) hx hb dL_law_1003 (by decide) ?_
  refine lv_iadd (pc := 1004) hx hb dL_law_1004 ?_
  refine va_sld (pc := 1005) hx hb hX hbl hbA hS hi.1 dL_law_1005 ?_
  refine um_cVM (pc := 1006) (k := 0) (As := [.int (xs (v3 + 1).toNatClampNeg)]) (rest := []) Cx (c_X8_back (xs (v3 + 1).toNatClampNeg) (xshn_X n) hfx) kV_X8_back (Or.inl qM_L_106) hI.1 hS hAo (fun q h => hAn q (hI.1.old q h)) (xshn_X n 0 _ rfl) rfl rfl hl rfl (Nat.le_of_ble_eq_true rfl) (Nat.le_of_ble_eq_true rfl) (Nat.le_of_ble_eq_true rfl) dL_law_1006 (by show cells ≤ 600000; omega) (by show slots ≤ 7302250; omega) (fun H1 locs1 hW1 z1 o1 hS1 => ?_)
  replace hI := hI.sx hW1 o1
  have e0 : αx 0 = αx 0 := rfl
  clear o1 hW1
  clear hS
  have hS := hS1
  clear hS1
  refine lv_aload_n (pc := 1009) hx hb dL_law_1009 rfl (lv_at hl 2 rfl) ?_
  refine lv_aload_n (pc := 1010) hx hb dL_law_1010 rfl (lv_at hl 0 rfl) ?_
  refine lv_iload_n (pc := 1011) hx hb dL_law_1011 rfl (lv_at hl 3 rfl) ?_
  refine lv_iconst (pc := 1012) (v := (1 : Int32)) hx hb dL_law_1012 (by decide) ?_
  refine lv_iadd (pc := 1013) hx hb dL_law_1013 ?_
  refine va_sld (pc := 1014) hx hb hX hbl hbA hS hi.1 dL_law_1014 ?_
  refine um_cVM (pc := 1015) (k := 0) (As := [.int (xs (v3 + 1).toNatClampNeg)]) (rest := [.int r]) Cx (c_X9_back (xs (v3 + 1).toNatClampNeg) hfm) kV_X9_back (Or.inl qM_L_109) hI.2.1 hS hAo (fun q h => hAn q (hI.2.1.old q h)) rfl rfl rfl hl rfl (Nat.le_of_ble_eq_true rfl) (Nat.le_of_ble_eq_true rfl) (Nat.le_of_ble_eq_true rfl) dL_law_1015 (by show cells ≤ 600000; omega) (by show slots ≤ 7302250; omega) (fun H2 locs2 hW2 z2 o2 hS2 => ?_)
  replace hI := hI.sm hW2 o2
  refine lv_icmp_eq (pc := 1018) (tgt := 2016) hx hb dL_law_1018 (by decide) (fun _ => ?_) (fun h => absurd rfl h)
  refine W.widen (k := cells + 3) (n := slots + 197) (by omega) (by omega) ?_
  exact kk _ _ _ _ _ _ hR' hI e0 hS2
set_option maxHeartbeats 4000000 in
theorem lw_c23 (F0' : lw_F p s m meth c args Z b L xs A) (hSim : sim_ticket R) (hi : lw_ix v3 L) (hR : R n σx σm) (hI : lw_I Z n αx αm σx σm H) (hS : va_S A s.heap H locs) (hl : lv_has ls 4 [(0, .ref b), (1, .ref (αx 0)), (2, .ref (αm 0)), (3, .int v3)]) (hcs : cells + 3 ≤ 600000) (hss : slots + 197 ≤ 7302250) (kk : lw_K p l e s m args below meth c Q Z R αx αm A ls cells slots) : W p l e room_1 s m args below meth c H locs cells slots Q (F0 m 1023 ls []) := by
  obtain ⟨Cx, hX, hbl, hbA, hAo, hAn⟩ := F0'
  have hx := Cx.1
  have hb := Cx.2.1
  obtain ⟨r, σx', σm', hfx, hfm, hR'⟩ := hSim n σx σm (xs (v3 + 1).toNatClampNeg) hR
  refine lv_aload_n (pc := 1023) hx hb dL_law_1023 rfl (lv_at hl 1 rfl) ?_
  refine lv_aload_n (pc := 1024) hx hb dL_law_1024 rfl (lv_at hl 0 rfl) ?_
  refine lv_iload_n (pc := 1025) hx hb dL_law_1025 rfl (lv_at hl 3 rfl) ?_
  refine lv_iconst (pc := 1026) (v := (1 : Int32)) hx hb dL_law_1026 (by decide) ?_
  refine lv_iadd (pc := 1027) hx hb dL_law_1027 ?_
  refine va_sld (pc := 1028) hx hb hX hbl hbA hS hi.1 dL_law_1028 ?_
  refine um_cVM (pc := 1029) (k := 0) (As := [.int (xs (v3 + 1).toNatClampNeg)]) (rest := []) Cx (c_X8_ticket (xs (v3 + 1).toNatClampNeg) (xshn_X n) hfx) kV_X8_ticket (Or.inl qM_L_110) hI.1 hS hAo (fun q h => hAn q (hI.1.old q h)) (xshn_X n 0 _ rfl) rfl rfl hl rfl (Nat.le_of_ble_eq_true rfl) (Nat.le_of_ble_eq_true rfl) (Nat.le_of_ble_eq_true rfl) dL_law_1029 (by show cells ≤ 600000; omega) (by show slots ≤ 7302250; omega) (fun H1 locs1 hW1 z1 o1 hS1 => ?_)
  replace hI := hI.sx hW1 o1
  have e0 : αx 0 = αx 0 := rfl
  clear o1 hW1
  clear hS
  have hS := hS1
  clear hS1
  refine lv_aload_n (pc := 1032) hx hb dL_law_1032 rfl (lv_at hl 2 rfl) ?_
  refine lv_aload_n (pc := 1033) hx hb dL_law_1033 rfl (lv_at hl 0 rfl) ?_
  refine lv_iload_n (pc := 1034) hx hb dL_law_1034 rfl (lv_at hl 3 rfl) ?_
  refine lv_iconst (pc := 1035) (v := (1 : Int32)) hx hb dL_law_1035 (by decide) ?_
  refine lv_iadd (pc := 1036) hx hb dL_law_1036 ?_
  refine va_sld (pc := 1037) hx hb hX hbl hbA hS hi.1 dL_law_1037 ?_
  refine um_cVM (pc := 1038) (k := 0) (As := [.int (xs (v3 + 1).toNatClampNeg)]) (rest := [.int r]) Cx (c_X9_ticket (xs (v3 + 1).toNatClampNeg) hfm) kV_X9_ticket (Or.inl qM_L_113) hI.2.1 hS hAo (fun q h => hAn q (hI.2.1.old q h)) rfl rfl rfl hl rfl (Nat.le_of_ble_eq_true rfl) (Nat.le_of_ble_eq_true rfl) (Nat.le_of_ble_eq_true rfl) dL_law_1038 (by show cells ≤ 600000; omega) (by show slots ≤ 7302250; omega) (fun H2 locs2 hW2 z2 o2 hS2 => ?_)
  replace hI := hI.sm hW2 o2
  refine lv_icmp_eq (pc := 1041) (tgt := 2016) hx hb dL_law_1041 (by decide) (fun _ => ?_) (fun h => absurd rfl h)
  refine W.widen (k := cells + 3) (n := slots + 197) (by omega) (by omega) ?_
  exact kk _ _ _ _ _ _ hR' hI e0 hS2
set_option maxHeartbeats 4000000 in
theorem lw_c24 (F0' : lw_F p s m meth c args Z b L xs A) (hSim : sim_pardon R) (hi : lw_ix v3 L) (hR : R n σx σm) (hI : lw_I Z n αx αm σx σm H) (hS : va_S A s.heap H locs) (hl : lv_has ls 4 [(0, .ref b), (1, .ref (αx 0)), (2, .ref (αm 0)), (3, .int v3)]) (hcs : cells + 3 ≤ 600000) (hss : slots + 197 ≤ 7302250) (kk : lw_K p l e s m args below meth c Q Z R αx αm A ls cells slots) : W p l e room_1 s m args below meth c H locs cells slots Q (F0 m 1046 ls []) := by
  obtain ⟨Cx, hX, hbl, hbA, hAo, hAn⟩ := F0'
  have hx := Cx.1
  have hb := Cx.2.1
  obtain ⟨r, σx', σm', hfx, hfm, hR'⟩ := hSim n σx σm (xs (v3 + 1).toNatClampNeg) (xs (v3 + 2).toNatClampNeg) hR
  refine lv_aload_n (pc := 1046) hx hb dL_law_1046 rfl (lv_at hl 1 rfl) ?_
  refine lv_aload_n (pc := 1047) hx hb dL_law_1047 rfl (lv_at hl 0 rfl) ?_
  refine lv_iload_n (pc := 1048) hx hb dL_law_1048 rfl (lv_at hl 3 rfl) ?_
  refine lv_iconst (pc := 1049) (v := (1 : Int32)) hx hb dL_law_1049 (by decide) ?_
  refine lv_iadd (pc := 1050) hx hb dL_law_1050 ?_
  refine va_sld (pc := 1051) hx hb hX hbl hbA hS hi.1 dL_law_1051 ?_
  refine lv_aload_n (pc := 1052) hx hb dL_law_1052 rfl (lv_at hl 0 rfl) ?_
  refine lv_iload_n (pc := 1053) hx hb dL_law_1053 rfl (lv_at hl 3 rfl) ?_
  refine lv_iconst (pc := 1054) (v := (2 : Int32)) hx hb dL_law_1054 (by decide) ?_
  refine lv_iadd (pc := 1055) hx hb dL_law_1055 ?_
  refine va_sld (pc := 1056) hx hb hX hbl hbA hS hi.2.1 dL_law_1056 ?_
  refine um_cVM (pc := 1057) (k := 0) (As := [.int (xs (v3 + 1).toNatClampNeg), .int (xs (v3 + 2).toNatClampNeg)]) (rest := []) Cx (c_X8_pardon (xs (v3 + 1).toNatClampNeg) (xs (v3 + 2).toNatClampNeg) (xshn_X n) hfx) kV_X8_pardon (Or.inl qM_L_114) hI.1 hS hAo (fun q h => hAn q (hI.1.old q h)) (xshn_X n 0 _ rfl) rfl rfl hl rfl (Nat.le_of_ble_eq_true rfl) (Nat.le_of_ble_eq_true rfl) (Nat.le_of_ble_eq_true rfl) dL_law_1057 (by show cells ≤ 600000; omega) (by show slots ≤ 7302250; omega) (fun H1 locs1 hW1 z1 o1 hS1 => ?_)
  replace hI := hI.sx hW1 o1
  have e0 : αx 0 = αx 0 := rfl
  clear o1 hW1
  clear hS
  have hS := hS1
  clear hS1
  refine lv_aload_n (pc := 1060) hx hb dL_law_1060 rfl (lv_at hl 2 rfl) ?_
  refine lv_aload_n (pc := 1061) hx hb dL_law_1061 rfl (lv_at hl 0 rfl) ?_
  refine lv_iload_n (pc := 1062) hx hb dL_law_1062 rfl (lv_at hl 3 rfl) ?_
  refine lv_iconst (pc := 1063) (v := (1 : Int32)) hx hb dL_law_1063 (by decide) ?_
  refine lv_iadd (pc := 1064) hx hb dL_law_1064 ?_
  refine va_sld (pc := 1065) hx hb hX hbl hbA hS hi.1 dL_law_1065 ?_
  refine lv_aload_n (pc := 1066) hx hb dL_law_1066 rfl (lv_at hl 0 rfl) ?_
  refine lv_iload_n (pc := 1067) hx hb dL_law_1067 rfl (lv_at hl 3 rfl) ?_
  refine lv_iconst (pc := 1068) (v := (2 : Int32)) hx hb dL_law_1068 (by decide) ?_
  refine lv_iadd (pc := 1069) hx hb dL_law_1069 ?_
  refine va_sld (pc := 1070) hx hb hX hbl hbA hS hi.2.1 dL_law_1070 ?_
  refine um_cVM (pc := 1071) (k := 0) (As := [.int (xs (v3 + 1).toNatClampNeg), .int (xs (v3 + 2).toNatClampNeg)]) (rest := [.int r]) Cx (c_X9_pardon (xs (v3 + 1).toNatClampNeg) (xs (v3 + 2).toNatClampNeg) hfm) kV_X9_pardon (Or.inl qM_L_117) hI.2.1 hS hAo (fun q h => hAn q (hI.2.1.old q h)) rfl rfl rfl hl rfl (Nat.le_of_ble_eq_true rfl) (Nat.le_of_ble_eq_true rfl) (Nat.le_of_ble_eq_true rfl) dL_law_1071 (by show cells ≤ 600000; omega) (by show slots ≤ 7302250; omega) (fun H2 locs2 hW2 z2 o2 hS2 => ?_)
  replace hI := hI.sm hW2 o2
  refine lv_icmp_eq (pc := 1074) (tgt := 2016) hx hb dL_law_1074 (by decide) (fun _ => ?_) (fun h => absurd rfl h)
  refine W.widen (k := cells + 3) (n := slots + 197) (by omega) (by omega) ?_
  exact kk _ _ _ _ _ _ hR' hI e0 hS2
set_option maxHeartbeats 4000000 in
theorem lw_c25 (F0' : lw_F p s m meth c args Z b L xs A) (hSim : sim_runs R) (hi : lw_ix v3 L) (hR : R n σx σm) (hI : lw_I Z n αx αm σx σm H) (hS : va_S A s.heap H locs) (hl : lv_has ls 4 [(0, .ref b), (1, .ref (αx 0)), (2, .ref (αm 0)), (3, .int v3)]) (hcs : cells + 3 ≤ 600000) (hss : slots + 197 ≤ 7302250) (kk : lw_K p l e s m args below meth c Q Z R αx αm A ls cells slots) : W p l e room_1 s m args below meth c H locs cells slots Q (F0 m 1079 ls []) := by
  obtain ⟨Cx, hX, hbl, hbA, hAo, hAn⟩ := F0'
  have hx := Cx.1
  have hb := Cx.2.1
  obtain ⟨r, σx', σm', hfx, hfm, hR'⟩ := hSim n σx σm (xs (v3 + 1).toNatClampNeg) hR
  refine lv_aload_n (pc := 1079) hx hb dL_law_1079 rfl (lv_at hl 1 rfl) ?_
  refine lv_aload_n (pc := 1080) hx hb dL_law_1080 rfl (lv_at hl 0 rfl) ?_
  refine lv_iload_n (pc := 1081) hx hb dL_law_1081 rfl (lv_at hl 3 rfl) ?_
  refine lv_iconst (pc := 1082) (v := (1 : Int32)) hx hb dL_law_1082 (by decide) ?_
  refine lv_iadd (pc := 1083) hx hb dL_law_1083 ?_
  refine va_sld (pc := 1084) hx hb hX hbl hbA hS hi.1 dL_law_1084 ?_
  refine um_cVM (pc := 1085) (k := 0) (As := [.int (xs (v3 + 1).toNatClampNeg)]) (rest := []) Cx (c_X8_runs (xs (v3 + 1).toNatClampNeg) (xshn_X n) hfx) kV_X8_runs (Or.inl qM_L_118) hI.1 hS hAo (fun q h => hAn q (hI.1.old q h)) (xshn_X n 0 _ rfl) rfl rfl hl rfl (Nat.le_of_ble_eq_true rfl) (Nat.le_of_ble_eq_true rfl) (Nat.le_of_ble_eq_true rfl) dL_law_1085 (by show cells ≤ 600000; omega) (by show slots ≤ 7302250; omega) (fun H1 locs1 hW1 z1 o1 hS1 => ?_)
  replace hI := hI.sx hW1 o1
  have e0 : αx 0 = αx 0 := rfl
  clear o1 hW1
  clear hS
  have hS := hS1
  clear hS1
  refine lv_aload_n (pc := 1088) hx hb dL_law_1088 rfl (lv_at hl 2 rfl) ?_
  refine lv_aload_n (pc := 1089) hx hb dL_law_1089 rfl (lv_at hl 0 rfl) ?_
  refine lv_iload_n (pc := 1090) hx hb dL_law_1090 rfl (lv_at hl 3 rfl) ?_
  refine lv_iconst (pc := 1091) (v := (1 : Int32)) hx hb dL_law_1091 (by decide) ?_
  refine lv_iadd (pc := 1092) hx hb dL_law_1092 ?_
  refine va_sld (pc := 1093) hx hb hX hbl hbA hS hi.1 dL_law_1093 ?_
  refine um_cVM (pc := 1094) (k := 0) (As := [.int (xs (v3 + 1).toNatClampNeg)]) (rest := [.int r]) Cx (c_X9_runs (xs (v3 + 1).toNatClampNeg) hfm) kV_X9_runs (Or.inl qM_L_121) hI.2.1 hS hAo (fun q h => hAn q (hI.2.1.old q h)) rfl rfl rfl hl rfl (Nat.le_of_ble_eq_true rfl) (Nat.le_of_ble_eq_true rfl) (Nat.le_of_ble_eq_true rfl) dL_law_1094 (by show cells ≤ 600000; omega) (by show slots ≤ 7302250; omega) (fun H2 locs2 hW2 z2 o2 hS2 => ?_)
  replace hI := hI.sm hW2 o2
  refine lv_icmp_eq (pc := 1097) (tgt := 2016) hx hb dL_law_1097 (by decide) (fun _ => ?_) (fun h => absurd rfl h)
  refine W.widen (k := cells + 3) (n := slots + 197) (by omega) (by omega) ?_
  exact kk _ _ _ _ _ _ hR' hI e0 hS2
set_option maxHeartbeats 4000000 in
theorem lw_c26 (F0' : lw_F p s m meth c args Z b L xs A) (hSim : sim_caught R) (hi : lw_ix v3 L) (hR : R n σx σm) (hI : lw_I Z n αx αm σx σm H) (hS : va_S A s.heap H locs) (hl : lv_has ls 4 [(0, .ref b), (1, .ref (αx 0)), (2, .ref (αm 0)), (3, .int v3)]) (hcs : cells + 3 ≤ 600000) (hss : slots + 197 ≤ 7302250) (kk : lw_K p l e s m args below meth c Q Z R αx αm A ls cells slots) : W p l e room_1 s m args below meth c H locs cells slots Q (F0 m 1102 ls []) := by
  obtain ⟨Cx, hX, hbl, hbA, hAo, hAn⟩ := F0'
  have hx := Cx.1
  have hb := Cx.2.1
  obtain ⟨r, σx', σm', hfx, hfm, hR'⟩ := hSim n σx σm (xs (v3 + 1).toNatClampNeg) hR
  refine lv_aload_n (pc := 1102) hx hb dL_law_1102 rfl (lv_at hl 1 rfl) ?_
  refine lv_aload_n (pc := 1103) hx hb dL_law_1103 rfl (lv_at hl 0 rfl) ?_
  refine lv_iload_n (pc := 1104) hx hb dL_law_1104 rfl (lv_at hl 3 rfl) ?_
  refine lv_iconst (pc := 1105) (v := (1 : Int32)) hx hb dL_law_1105 (by decide) ?_
  refine lv_iadd (pc := 1106) hx hb dL_law_1106 ?_
  refine va_sld (pc := 1107) hx hb hX hbl hbA hS hi.1 dL_law_1107 ?_
  refine um_cVM (pc := 1108) (k := 0) (As := [.int (xs (v3 + 1).toNatClampNeg)]) (rest := []) Cx (c_X8_caught (xs (v3 + 1).toNatClampNeg) (xshn_X n) hfx) kV_X8_caught (Or.inl qM_L_122) hI.1 hS hAo (fun q h => hAn q (hI.1.old q h)) (xshn_X n 0 _ rfl) rfl rfl hl rfl (Nat.le_of_ble_eq_true rfl) (Nat.le_of_ble_eq_true rfl) (Nat.le_of_ble_eq_true rfl) dL_law_1108 (by show cells ≤ 600000; omega) (by show slots ≤ 7302250; omega) (fun H1 locs1 hW1 z1 o1 hS1 => ?_)
  replace hI := hI.sx hW1 o1
  have e0 : αx 0 = αx 0 := rfl
  clear o1 hW1
  clear hS
  have hS := hS1
  clear hS1
  refine lv_aload_n (pc := 1111) hx hb dL_law_1111 rfl (lv_at hl 2 rfl) ?_
  refine lv_aload_n (pc := 1112) hx hb dL_law_1112 rfl (lv_at hl 0 rfl) ?_
  refine lv_iload_n (pc := 1113) hx hb dL_law_1113 rfl (lv_at hl 3 rfl) ?_
  refine lv_iconst (pc := 1114) (v := (1 : Int32)) hx hb dL_law_1114 (by decide) ?_
  refine lv_iadd (pc := 1115) hx hb dL_law_1115 ?_
  refine va_sld (pc := 1116) hx hb hX hbl hbA hS hi.1 dL_law_1116 ?_
  refine um_cVM (pc := 1117) (k := 0) (As := [.int (xs (v3 + 1).toNatClampNeg)]) (rest := [.int r]) Cx (c_X9_caught (xs (v3 + 1).toNatClampNeg) hfm) kV_X9_caught (Or.inl qM_L_125) hI.2.1 hS hAo (fun q h => hAn q (hI.2.1.old q h)) rfl rfl rfl hl rfl (Nat.le_of_ble_eq_true rfl) (Nat.le_of_ble_eq_true rfl) (Nat.le_of_ble_eq_true rfl) dL_law_1117 (by show cells ≤ 600000; omega) (by show slots ≤ 7302250; omega) (fun H2 locs2 hW2 z2 o2 hS2 => ?_)
  replace hI := hI.sm hW2 o2
  refine lv_icmp_eq (pc := 1120) (tgt := 2016) hx hb dL_law_1120 (by decide) (fun _ => ?_) (fun h => absurd rfl h)
  refine W.widen (k := cells + 3) (n := slots + 197) (by omega) (by omega) ?_
  exact kk _ _ _ _ _ _ hR' hI e0 hS2
set_option maxHeartbeats 4000000 in
theorem lw_c27 (F0' : lw_F p s m meth c args Z b L xs A) (hSim : sim_seed R) (hi : lw_ix v3 L) (hR : R n σx σm) (hI : lw_I Z n αx αm σx σm H) (hS : va_S A s.heap H locs) (hl : lv_has ls 4 [(0, .ref b), (1, .ref (αx 0)), (2, .ref (αm 0)), (3, .int v3)]) (hcs : cells + 3 ≤ 600000) (hss : slots + 197 ≤ 7302250) (kk : lw_K p l e s m args below meth c Q Z R αx αm A ls cells slots) : W p l e room_1 s m args below meth c H locs cells slots Q (F0 m 1125 ls []) := by
  obtain ⟨Cx, hX, hbl, hbA, hAo, hAn⟩ := F0'
  have hx := Cx.1
  have hb := Cx.2.1
  obtain ⟨r, σx', σm', hfx, hfm, hR'⟩ := hSim n σx σm (xs (v3 + 1).toNatClampNeg) hR
  refine lv_aload_n (pc := 1125) hx hb dL_law_1125 rfl (lv_at hl 1 rfl) ?_
  refine lv_aload_n (pc := 1126) hx hb dL_law_1126 rfl (lv_at hl 0 rfl) ?_
  refine lv_iload_n (pc := 1127) hx hb dL_law_1127 rfl (lv_at hl 3 rfl) ?_
  refine lv_iconst (pc := 1128) (v := (1 : Int32)) hx hb dL_law_1128 (by decide) ?_
  refine lv_iadd (pc := 1129) hx hb dL_law_1129 ?_
  refine va_sld (pc := 1130) hx hb hX hbl hbA hS hi.1 dL_law_1130 ?_
  refine um_cVM (pc := 1131) (k := 0) (As := [.int (xs (v3 + 1).toNatClampNeg)]) (rest := []) Cx (c_X8_seed (xs (v3 + 1).toNatClampNeg) (xshn_X n) hfx) kV_X8_seed (Or.inl qM_L_126) hI.1 hS hAo (fun q h => hAn q (hI.1.old q h)) (xshn_X n 0 _ rfl) rfl rfl hl rfl (Nat.le_of_ble_eq_true rfl) (Nat.le_of_ble_eq_true rfl) (Nat.le_of_ble_eq_true rfl) dL_law_1131 (by show cells ≤ 600000; omega) (by show slots ≤ 7302250; omega) (fun H1 locs1 hW1 z1 o1 hS1 => ?_)
  replace hI := hI.sx hW1 o1
  have e0 : αx 0 = αx 0 := rfl
  clear o1 hW1
  clear hS
  have hS := hS1
  clear hS1
  refine lv_aload_n (pc := 1134) hx hb dL_law_1134 rfl (lv_at hl 2 rfl) ?_
  refine lv_aload_n (pc := 1135) hx hb dL_law_1135 rfl (lv_at hl 0 rfl) ?_
  refine lv_iload_n (pc := 1136) hx hb dL_law_1136 rfl (lv_at hl 3 rfl) ?_
  refine lv_iconst (pc := 1137) (v := (1 : Int32)) hx hb dL_law_1137 (by decide) ?_
  refine lv_iadd (pc := 1138) hx hb dL_law_1138 ?_
  refine va_sld (pc := 1139) hx hb hX hbl hbA hS hi.1 dL_law_1139 ?_
  refine um_cVM (pc := 1140) (k := 0) (As := [.int (xs (v3 + 1).toNatClampNeg)]) (rest := [.int r]) Cx (c_X9_seed (xs (v3 + 1).toNatClampNeg) hfm) kV_X9_seed (Or.inl qM_L_129) hI.2.1 hS hAo (fun q h => hAn q (hI.2.1.old q h)) rfl rfl rfl hl rfl (Nat.le_of_ble_eq_true rfl) (Nat.le_of_ble_eq_true rfl) (Nat.le_of_ble_eq_true rfl) dL_law_1140 (by show cells ≤ 600000; omega) (by show slots ≤ 7302250; omega) (fun H2 locs2 hW2 z2 o2 hS2 => ?_)
  replace hI := hI.sm hW2 o2
  refine lv_icmp_eq (pc := 1143) (tgt := 2016) hx hb dL_law_1143 (by decide) (fun _ => ?_) (fun h => absurd rfl h)
  refine W.widen (k := cells + 3) (n := slots + 197) (by omega) (by omega) ?_
  exact kk _ _ _ _ _ _ hR' hI e0 hS2
set_option maxHeartbeats 4000000 in
theorem lw_c28 (F0' : lw_F p s m meth c args Z b L xs A) (hSim : sim_run R) (hi : lw_ix v3 L) (hR : R n σx σm) (hI : lw_I Z n αx αm σx σm H) (hS : va_S A s.heap H locs) (hl : lv_has ls 4 [(0, .ref b), (1, .ref (αx 0)), (2, .ref (αm 0)), (3, .int v3)]) (hcs : cells + 3 ≤ 600000) (hss : slots + 197 ≤ 7302250) (kk : lw_K p l e s m args below meth c Q Z R αx αm A ls cells slots) : W p l e room_1 s m args below meth c H locs cells slots Q (F0 m 1148 ls []) := by
  obtain ⟨Cx, hX, hbl, hbA, hAo, hAn⟩ := F0'
  have hx := Cx.1
  have hb := Cx.2.1
  obtain ⟨r, σx', σm', hfx, hfm, hR'⟩ := hSim n σx σm (xs (v3 + 1).toNatClampNeg) hR
  refine lv_aload_n (pc := 1148) hx hb dL_law_1148 rfl (lv_at hl 1 rfl) ?_
  refine lv_aload_n (pc := 1149) hx hb dL_law_1149 rfl (lv_at hl 0 rfl) ?_
  refine lv_iload_n (pc := 1150) hx hb dL_law_1150 rfl (lv_at hl 3 rfl) ?_
  refine lv_iconst (pc := 1151) (v := (1 : Int32)) hx hb dL_law_1151 (by decide) ?_
  refine lv_iadd (pc := 1152) hx hb dL_law_1152 ?_
  refine va_sld (pc := 1153) hx hb hX hbl hbA hS hi.1 dL_law_1153 ?_
  refine um_cVM (pc := 1154) (k := 0) (As := [.int (xs (v3 + 1).toNatClampNeg)]) (rest := []) Cx (c_X8_run (xs (v3 + 1).toNatClampNeg) (xshn_X n) hfx) kV_X8_run (Or.inl qM_L_130) hI.1 hS hAo (fun q h => hAn q (hI.1.old q h)) (xshn_X n 0 _ rfl) rfl rfl hl rfl (Nat.le_of_ble_eq_true rfl) (Nat.le_of_ble_eq_true rfl) (Nat.le_of_ble_eq_true rfl) dL_law_1154 (by show cells ≤ 600000; omega) (by show slots ≤ 7302250; omega) (fun H1 locs1 hW1 z1 o1 hS1 => ?_)
  replace hI := hI.sx hW1 o1
  have e0 : αx 0 = αx 0 := rfl
  clear o1 hW1
  clear hS
  have hS := hS1
  clear hS1
  refine lv_aload_n (pc := 1157) hx hb dL_law_1157 rfl (lv_at hl 2 rfl) ?_
  refine lv_aload_n (pc := 1158) hx hb dL_law_1158 rfl (lv_at hl 0 rfl) ?_
  refine lv_iload_n (pc := 1159) hx hb dL_law_1159 rfl (lv_at hl 3 rfl) ?_
  refine lv_iconst (pc := 1160) (v := (1 : Int32)) hx hb dL_law_1160 (by decide) ?_
  refine lv_iadd (pc := 1161) hx hb dL_law_1161 ?_
  refine va_sld (pc := 1162) hx hb hX hbl hbA hS hi.1 dL_law_1162 ?_
  refine um_cVM (pc := 1163) (k := 0) (As := [.int (xs (v3 + 1).toNatClampNeg)]) (rest := [.int r]) Cx (c_X9_run (xs (v3 + 1).toNatClampNeg) hfm) kV_X9_run (Or.inl qM_L_133) hI.2.1 hS hAo (fun q h => hAn q (hI.2.1.old q h)) rfl rfl rfl hl rfl (Nat.le_of_ble_eq_true rfl) (Nat.le_of_ble_eq_true rfl) (Nat.le_of_ble_eq_true rfl) dL_law_1163 (by show cells ≤ 600000; omega) (by show slots ≤ 7302250; omega) (fun H2 locs2 hW2 z2 o2 hS2 => ?_)
  replace hI := hI.sm hW2 o2
  refine lv_icmp_eq (pc := 1166) (tgt := 2016) hx hb dL_law_1166 (by decide) (fun _ => ?_) (fun h => absurd rfl h)
  refine W.widen (k := cells + 3) (n := slots + 197) (by omega) (by omega) ?_
  exact kk _ _ _ _ _ _ hR' hI e0 hS2
set_option maxHeartbeats 4000000 in
theorem lw_c29 (F0' : lw_F p s m meth c args Z b L xs A) (hSim : sim_path R) (hi : lw_ix v3 L) (hR : R n σx σm) (hI : lw_I Z n αx αm σx σm H) (hS : va_S A s.heap H locs) (hl : lv_has ls 4 [(0, .ref b), (1, .ref (αx 0)), (2, .ref (αm 0)), (3, .int v3)]) (hcs : cells + 3 ≤ 600000) (hss : slots + 197 ≤ 7302250) (kk : lw_K p l e s m args below meth c Q Z R αx αm A ls cells slots) : W p l e room_1 s m args below meth c H locs cells slots Q (F0 m 1171 ls []) := by
  obtain ⟨Cx, hX, hbl, hbA, hAo, hAn⟩ := F0'
  have hx := Cx.1
  have hb := Cx.2.1
  obtain ⟨r, σx', σm', hfx, hfm, hR'⟩ := hSim n σx σm (xs (v3 + 1).toNatClampNeg) (xs (v3 + 2).toNatClampNeg) (xs (v3 + 3).toNatClampNeg) hR
  refine lv_aload_n (pc := 1171) hx hb dL_law_1171 rfl (lv_at hl 1 rfl) ?_
  refine lv_aload_n (pc := 1172) hx hb dL_law_1172 rfl (lv_at hl 0 rfl) ?_
  refine lv_iload_n (pc := 1173) hx hb dL_law_1173 rfl (lv_at hl 3 rfl) ?_
  refine lv_iconst (pc := 1174) (v := (1 : Int32)) hx hb dL_law_1174 (by decide) ?_
  refine lv_iadd (pc := 1175) hx hb dL_law_1175 ?_
  refine va_sld (pc := 1176) hx hb hX hbl hbA hS hi.1 dL_law_1176 ?_
  refine lv_aload_n (pc := 1177) hx hb dL_law_1177 rfl (lv_at hl 0 rfl) ?_
  refine lv_iload_n (pc := 1178) hx hb dL_law_1178 rfl (lv_at hl 3 rfl) ?_
  refine lv_iconst (pc := 1179) (v := (2 : Int32)) hx hb dL_law_1179 (by decide) ?_
  refine lv_iadd (pc := 1180) hx hb dL_law_1180 ?_
  refine va_sld (pc := 1181) hx hb hX hbl hbA hS hi.2.1 dL_law_1181 ?_
  refine lv_aload_n (pc := 1182) hx hb dL_law_1182 rfl (lv_at hl 0 rfl) ?_
  refine lv_iload_n (pc := 1183) hx hb dL_law_1183 rfl (lv_at hl 3 rfl) ?_
  refine lv_iconst (pc := 1184) (v := (3 : Int32)) hx hb dL_law_1184 (by decide) ?_
  refine lv_iadd (pc := 1185) hx hb dL_law_1185 ?_
  refine va_sld (pc := 1186) hx hb hX hbl hbA hS hi.2.2.1 dL_law_1186 ?_
  refine um_cVM (pc := 1187) (k := 0) (As := [.int (xs (v3 + 1).toNatClampNeg), .int (xs (v3 + 2).toNatClampNeg), .int (xs (v3 + 3).toNatClampNeg)]) (rest := []) Cx (c_X8_path (xs (v3 + 1).toNatClampNeg) (xs (v3 + 2).toNatClampNeg) (xs (v3 + 3).toNatClampNeg) (xshn_X n) hfx) kV_X8_path (Or.inl qM_L_134) hI.1 hS hAo (fun q h => hAn q (hI.1.old q h)) (xshn_X n 0 _ rfl) rfl rfl hl rfl (Nat.le_of_ble_eq_true rfl) (Nat.le_of_ble_eq_true rfl) (Nat.le_of_ble_eq_true rfl) dL_law_1187 (by show cells ≤ 600000; omega) (by show slots ≤ 7302250; omega) (fun H1 locs1 hW1 z1 o1 hS1 => ?_)
  replace hI := hI.sx hW1 o1
  have e0 : αx 0 = αx 0 := rfl
  clear o1 hW1
  clear hS
  have hS := hS1
  clear hS1
  refine lv_aload_n (pc := 1190) hx hb dL_law_1190 rfl (lv_at hl 2 rfl) ?_
  refine lv_aload_n (pc := 1191) hx hb dL_law_1191 rfl (lv_at hl 0 rfl) ?_
  refine lv_iload_n (pc := 1192) hx hb dL_law_1192 rfl (lv_at hl 3 rfl) ?_
  refine lv_iconst (pc := 1193) (v := (1 : Int32)) hx hb dL_law_1193 (by decide) ?_
  refine lv_iadd (pc := 1194) hx hb dL_law_1194 ?_
  refine va_sld (pc := 1195) hx hb hX hbl hbA hS hi.1 dL_law_1195 ?_
  refine lv_aload_n (pc := 1196) hx hb dL_law_1196 rfl (lv_at hl 0 rfl) ?_
  refine lv_iload_n (pc := 1197) hx hb dL_law_1197 rfl (lv_at hl 3 rfl) ?_
  refine lv_iconst (pc := 1198) (v := (2 : Int32)) hx hb dL_law_1198 (by decide) ?_
  refine lv_iadd (pc := 1199) hx hb dL_law_1199 ?_
  refine va_sld (pc := 1200) hx hb hX hbl hbA hS hi.2.1 dL_law_1200 ?_
  refine lv_aload_n (pc := 1201) hx hb dL_law_1201 rfl (lv_at hl 0 rfl) ?_
  refine lv_iload_n (pc := 1202) hx hb dL_law_1202 rfl (lv_at hl 3 rfl) ?_
  refine lv_iconst (pc := 1203) (v := (3 : Int32)) hx hb dL_law_1203 (by decide) ?_
  refine lv_iadd (pc := 1204) hx hb dL_law_1204 ?_
  refine va_sld (pc := 1205) hx hb hX hbl hbA hS hi.2.2.1 dL_law_1205 ?_
  refine um_cVM (pc := 1206) (k := 0) (As := [.int (xs (v3 + 1).toNatClampNeg), .int (xs (v3 + 2).toNatClampNeg), .int (xs (v3 + 3).toNatClampNeg)]) (rest := [.int r]) Cx (c_X9_path (xs (v3 + 1).toNatClampNeg) (xs (v3 + 2).toNatClampNeg) (xs (v3 + 3).toNatClampNeg) hfm) kV_X9_path (Or.inl qM_L_137) hI.2.1 hS hAo (fun q h => hAn q (hI.2.1.old q h)) rfl rfl rfl hl rfl (Nat.le_of_ble_eq_true rfl) (Nat.le_of_ble_eq_true rfl) (Nat.le_of_ble_eq_true rfl) dL_law_1206 (by show cells ≤ 600000; omega) (by show slots ≤ 7302250; omega) (fun H2 locs2 hW2 z2 o2 hS2 => ?_)
  replace hI := hI.sm hW2 o2
  refine lv_icmp_eq (pc := 1209) (tgt := 2016) hx hb dL_law_1209 (by decide) (fun _ => ?_) (fun h => absurd rfl h)
  refine W.widen (k := cells + 3) (n := slots + 197) (by omega) (by omega) ?_
  exact kk _ _ _ _ _ _ hR' hI e0 hS2
set_option maxHeartbeats 4000000 in
theorem lw_c30 (F0' : lw_F p s m meth c args Z b L xs A) (hSim : sim_reach R) (hi : lw_ix v3 L) (hR : R n σx σm) (hI : lw_I Z n αx αm σx σm H) (hS : va_S A s.heap H locs) (hl : lv_has ls 4 [(0, .ref b), (1, .ref (αx 0)), (2, .ref (αm 0)), (3, .int v3)]) (hcs : cells + 3 ≤ 600000) (hss : slots + 197 ≤ 7302250) (kk : lw_K p l e s m args below meth c Q Z R αx αm A ls cells slots) : W p l e room_1 s m args below meth c H locs cells slots Q (F0 m 1214 ls []) := by
  obtain ⟨Cx, hX, hbl, hbA, hAo, hAn⟩ := F0'
  have hx := Cx.1
  have hb := Cx.2.1
  obtain ⟨r, σx', σm', hfx, hfm, hR'⟩ := hSim n σx σm (xs (v3 + 1).toNatClampNeg) (xs (v3 + 2).toNatClampNeg) hR
  refine lv_aload_n (pc := 1214) hx hb dL_law_1214 rfl (lv_at hl 1 rfl) ?_
  refine lv_aload_n (pc := 1215) hx hb dL_law_1215 rfl (lv_at hl 0 rfl) ?_
  refine lv_iload_n (pc := 1216) hx hb dL_law_1216 rfl (lv_at hl 3 rfl) ?_
  refine lv_iconst (pc := 1217) (v := (1 : Int32)) hx hb dL_law_1217 (by decide) ?_
  refine lv_iadd (pc := 1218) hx hb dL_law_1218 ?_
  refine va_sld (pc := 1219) hx hb hX hbl hbA hS hi.1 dL_law_1219 ?_
  refine lv_aload_n (pc := 1220) hx hb dL_law_1220 rfl (lv_at hl 0 rfl) ?_
  refine lv_iload_n (pc := 1221) hx hb dL_law_1221 rfl (lv_at hl 3 rfl) ?_
  refine lv_iconst (pc := 1222) (v := (2 : Int32)) hx hb dL_law_1222 (by decide) ?_
  refine lv_iadd (pc := 1223) hx hb dL_law_1223 ?_
  refine va_sld (pc := 1224) hx hb hX hbl hbA hS hi.2.1 dL_law_1224 ?_
  have hfr : ∀ q, um_DA (xshn n) αx H.size q → A q := fun q h => h.elim (fun h => hAn q (hI.1.old q h)) (fun h => hAn q (Nat.le_trans (Nat.le_trans (hI.1.2.2.1 0 _ (xshn_X n 0 _ rfl)) (Nat.le_of_lt (hI.1.lt (xshn_X n 0 _ rfl)))) h))
  refine um_cVX (pc := 1225) (a := αx 0) (As := [.int (xs (v3 + 1).toNatClampNeg), .int (xs (v3 + 2).toNatClampNeg)]) (rest := []) (mc := 1) (ms := 6) (C := fun v H2 => v = some (.int r) ∧ um_W Z (xshn n) αx σx' H2) (fr := um_DA (xshn n) αx H.size) Cx (c_X8_reach _ _ (xshn_X n) (xshn_cl n) (xshn_200 n) hfx) kV_X8_reach (Or.inl qM_L_138) (um_pvA (k := 0) Cx hI.1 (xshn_X n 0 _ rfl) rfl rfl (Nat.le_trans (hI.1.2.2.1 0 _ (xshn_X n 0 _ rfl)) (Nat.le_of_lt (hI.1.lt (xshn_X n 0 _ rfl)))) hS hAo) hS hfr rfl hl rfl (Nat.le_of_ble_eq_true rfl) (Nat.le_of_ble_eq_true rfl) (Nat.le_of_ble_eq_true rfl) dL_law_1225 (by show cells + 1 ≤ 600000; omega) (by show slots + 6 ≤ 7302250; omega) (fun st₀ t v _ h => ⟨⟨by have := h.1; cases this; rfl, h.2.1⟩, h.2.2⟩) (fun v H1 locs1 hv z1 o1 hS1 => ?_)
  obtain ⟨rfl, hW1⟩ := hv
  replace hI := hI.gx hW1 o1 (fun _ _ _ => rfl) (fun i u h1 h2 => by rw [h2] at h1; cases h1)
  have e0 : αx 0 = αx 0 := rfl
  clear o1 hW1 hfr
  clear hS
  have hS := hS1
  clear hS1
  refine lv_aload_n (pc := 1228) hx hb dL_law_1228 rfl (lv_at hl 2 rfl) ?_
  refine lv_aload_n (pc := 1229) hx hb dL_law_1229 rfl (lv_at hl 0 rfl) ?_
  refine lv_iload_n (pc := 1230) hx hb dL_law_1230 rfl (lv_at hl 3 rfl) ?_
  refine lv_iconst (pc := 1231) (v := (1 : Int32)) hx hb dL_law_1231 (by decide) ?_
  refine lv_iadd (pc := 1232) hx hb dL_law_1232 ?_
  refine va_sld (pc := 1233) hx hb hX hbl hbA hS hi.1 dL_law_1233 ?_
  refine lv_aload_n (pc := 1234) hx hb dL_law_1234 rfl (lv_at hl 0 rfl) ?_
  refine lv_iload_n (pc := 1235) hx hb dL_law_1235 rfl (lv_at hl 3 rfl) ?_
  refine lv_iconst (pc := 1236) (v := (2 : Int32)) hx hb dL_law_1236 (by decide) ?_
  refine lv_iadd (pc := 1237) hx hb dL_law_1237 ?_
  refine va_sld (pc := 1238) hx hb hX hbl hbA hS hi.2.1 dL_law_1238 ?_
  refine um_cVM (pc := 1239) (k := 0) (As := [.int (xs (v3 + 1).toNatClampNeg), .int (xs (v3 + 2).toNatClampNeg)]) (rest := [.int r]) Cx (c_X9_reach (xs (v3 + 1).toNatClampNeg) (xs (v3 + 2).toNatClampNeg) hfm) kV_X9_reach (Or.inl qM_L_141) hI.2.1 hS hAo (fun q h => hAn q (hI.2.1.old q h)) rfl rfl rfl hl rfl (Nat.le_of_ble_eq_true rfl) (Nat.le_of_ble_eq_true rfl) (Nat.le_of_ble_eq_true rfl) dL_law_1239 (by show cells + 1 ≤ 600000; omega) (by show slots + 6 ≤ 7302250; omega) (fun H2 locs2 hW2 z2 o2 hS2 => ?_)
  replace hI := hI.sm hW2 o2
  refine lv_icmp_eq (pc := 1242) (tgt := 2016) hx hb dL_law_1242 (by decide) (fun _ => ?_) (fun h => absurd rfl h)
  refine W.widen (k := cells + 3) (n := slots + 197) (by omega) (by omega) ?_
  exact kk _ _ _ _ _ _ hR' hI e0 hS2
set_option maxHeartbeats 4000000 in
theorem lw_c31 (F0' : lw_F p s m meth c args Z b L xs A) (hSim : sim_look R) (hi : lw_ix v3 L) (hR : R n σx σm) (hI : lw_I Z n αx αm σx σm H) (hS : va_S A s.heap H locs) (hl : lv_has ls 4 [(0, .ref b), (1, .ref (αx 0)), (2, .ref (αm 0)), (3, .int v3)]) (hcs : cells + 3 ≤ 600000) (hss : slots + 197 ≤ 7302250) (kk : lw_K p l e s m args below meth c Q Z R αx αm A ls cells slots) : W p l e room_1 s m args below meth c H locs cells slots Q (F0 m 1247 ls []) := by
  obtain ⟨Cx, hX, hbl, hbA, hAo, hAn⟩ := F0'
  have hx := Cx.1
  have hb := Cx.2.1
  obtain ⟨r, σx', σm', hfx, hfm, hR'⟩ := hSim n σx σm (xs (v3 + 1).toNatClampNeg) (xs (v3 + 2).toNatClampNeg) (xs (v3 + 3).toNatClampNeg) (xs (v3 + 4).toNatClampNeg) hR
  refine lv_aload_n (pc := 1247) hx hb dL_law_1247 rfl (lv_at hl 1 rfl) ?_
  refine lv_aload_n (pc := 1248) hx hb dL_law_1248 rfl (lv_at hl 0 rfl) ?_
  refine lv_iload_n (pc := 1249) hx hb dL_law_1249 rfl (lv_at hl 3 rfl) ?_
  refine lv_iconst (pc := 1250) (v := (1 : Int32)) hx hb dL_law_1250 (by decide) ?_
  refine lv_iadd (pc := 1251) hx hb dL_law_1251 ?_
  refine va_sld (pc := 1252) hx hb hX hbl hbA hS hi.1 dL_law_1252 ?_
  refine lv_aload_n (pc := 1253) hx hb dL_law_1253 rfl (lv_at hl 0 rfl) ?_
  refine lv_iload_n (pc := 1254) hx hb dL_law_1254 rfl (lv_at hl 3 rfl) ?_
  refine lv_iconst (pc := 1255) (v := (2 : Int32)) hx hb dL_law_1255 (by decide) ?_
  refine lv_iadd (pc := 1256) hx hb dL_law_1256 ?_
  refine va_sld (pc := 1257) hx hb hX hbl hbA hS hi.2.1 dL_law_1257 ?_
  refine lv_aload_n (pc := 1258) hx hb dL_law_1258 rfl (lv_at hl 0 rfl) ?_
  refine lv_iload_n (pc := 1259) hx hb dL_law_1259 rfl (lv_at hl 3 rfl) ?_
  refine lv_iconst (pc := 1260) (v := (3 : Int32)) hx hb dL_law_1260 (by decide) ?_
  refine lv_iadd (pc := 1261) hx hb dL_law_1261 ?_
  refine va_sld (pc := 1262) hx hb hX hbl hbA hS hi.2.2.1 dL_law_1262 ?_
  refine lv_aload_n (pc := 1263) hx hb dL_law_1263 rfl (lv_at hl 0 rfl) ?_
  refine lv_iload_n (pc := 1264) hx hb dL_law_1264 rfl (lv_at hl 3 rfl) ?_
  refine lv_iconst (pc := 1265) (v := (4 : Int32)) hx hb dL_law_1265 (by decide) ?_
  refine lv_iadd (pc := 1266) hx hb dL_law_1266 ?_
  refine va_sld (pc := 1267) hx hb hX hbl hbA hS hi.2.2.2.1 dL_law_1267 ?_
  refine um_cVM (pc := 1268) (k := 0) (As := [.int (xs (v3 + 1).toNatClampNeg), .int (xs (v3 + 2).toNatClampNeg), .int (xs (v3 + 3).toNatClampNeg), .int (xs (v3 + 4).toNatClampNeg)]) (rest := []) Cx (c_X8_look (xs (v3 + 1).toNatClampNeg) (xs (v3 + 2).toNatClampNeg) (xs (v3 + 3).toNatClampNeg) (xs (v3 + 4).toNatClampNeg) (xshn_X n) hfx) kV_X8_look (Or.inl qM_L_142) hI.1 hS hAo (fun q h => hAn q (hI.1.old q h)) (xshn_X n 0 _ rfl) rfl rfl hl rfl (Nat.le_of_ble_eq_true rfl) (Nat.le_of_ble_eq_true rfl) (Nat.le_of_ble_eq_true rfl) dL_law_1268 (by show cells ≤ 600000; omega) (by show slots ≤ 7302250; omega) (fun H1 locs1 hW1 z1 o1 hS1 => ?_)
  replace hI := hI.sx hW1 o1
  have e0 : αx 0 = αx 0 := rfl
  clear o1 hW1
  clear hS
  have hS := hS1
  clear hS1
  refine lv_aload_n (pc := 1271) hx hb dL_law_1271 rfl (lv_at hl 2 rfl) ?_
  refine lv_aload_n (pc := 1272) hx hb dL_law_1272 rfl (lv_at hl 0 rfl) ?_
  refine lv_iload_n (pc := 1273) hx hb dL_law_1273 rfl (lv_at hl 3 rfl) ?_
  refine lv_iconst (pc := 1274) (v := (1 : Int32)) hx hb dL_law_1274 (by decide) ?_
  refine lv_iadd (pc := 1275) hx hb dL_law_1275 ?_
  refine va_sld (pc := 1276) hx hb hX hbl hbA hS hi.1 dL_law_1276 ?_
  refine lv_aload_n (pc := 1277) hx hb dL_law_1277 rfl (lv_at hl 0 rfl) ?_
  refine lv_iload_n (pc := 1278) hx hb dL_law_1278 rfl (lv_at hl 3 rfl) ?_
  refine lv_iconst (pc := 1279) (v := (2 : Int32)) hx hb dL_law_1279 (by decide) ?_
  refine lv_iadd (pc := 1280) hx hb dL_law_1280 ?_
  refine va_sld (pc := 1281) hx hb hX hbl hbA hS hi.2.1 dL_law_1281 ?_
  refine lv_aload_n (pc := 1282) hx hb dL_law_1282 rfl (lv_at hl 0 rfl) ?_
  refine lv_iload_n (pc := 1283) hx hb dL_law_1283 rfl (lv_at hl 3 rfl) ?_
  refine lv_iconst (pc := 1284) (v := (3 : Int32)) hx hb dL_law_1284 (by decide) ?_
  refine lv_iadd (pc := 1285) hx hb dL_law_1285 ?_
  refine va_sld (pc := 1286) hx hb hX hbl hbA hS hi.2.2.1 dL_law_1286 ?_
  refine lv_aload_n (pc := 1287) hx hb dL_law_1287 rfl (lv_at hl 0 rfl) ?_
  refine lv_iload_n (pc := 1288) hx hb dL_law_1288 rfl (lv_at hl 3 rfl) ?_
  refine lv_iconst (pc := 1289) (v := (4 : Int32)) hx hb dL_law_1289 (by decide) ?_
  refine lv_iadd (pc := 1290) hx hb dL_law_1290 ?_
  refine va_sld (pc := 1291) hx hb hX hbl hbA hS hi.2.2.2.1 dL_law_1291 ?_
  refine um_cVM (pc := 1292) (k := 0) (As := [.int (xs (v3 + 1).toNatClampNeg), .int (xs (v3 + 2).toNatClampNeg), .int (xs (v3 + 3).toNatClampNeg), .int (xs (v3 + 4).toNatClampNeg)]) (rest := [.int r]) Cx (c_X9_look (xs (v3 + 1).toNatClampNeg) (xs (v3 + 2).toNatClampNeg) (xs (v3 + 3).toNatClampNeg) (xs (v3 + 4).toNatClampNeg) hfm) kV_X9_look (Or.inl qM_L_145) hI.2.1 hS hAo (fun q h => hAn q (hI.2.1.old q h)) rfl rfl rfl hl rfl (Nat.le_of_ble_eq_true rfl) (Nat.le_of_ble_eq_true rfl) (Nat.le_of_ble_eq_true rfl) dL_law_1292 (by show cells ≤ 600000; omega) (by show slots ≤ 7302250; omega) (fun H2 locs2 hW2 z2 o2 hS2 => ?_)
  replace hI := hI.sm hW2 o2
  refine lv_icmp_eq (pc := 1295) (tgt := 2016) hx hb dL_law_1295 (by decide) (fun _ => ?_) (fun h => absurd rfl h)
  refine W.widen (k := cells + 3) (n := slots + 197) (by omega) (by omega) ?_
  exact kk _ _ _ _ _ _ hR' hI e0 hS2
set_option maxHeartbeats 4000000 in
theorem lw_c32 (F0' : lw_F p s m meth c args Z b L xs A) (hSim : sim_may R) (hi : lw_ix v3 L) (hR : R n σx σm) (hI : lw_I Z n αx αm σx σm H) (hS : va_S A s.heap H locs) (hl : lv_has ls 4 [(0, .ref b), (1, .ref (αx 0)), (2, .ref (αm 0)), (3, .int v3)]) (hcs : cells + 3 ≤ 600000) (hss : slots + 197 ≤ 7302250) (kk : lw_K p l e s m args below meth c Q Z R αx αm A ls cells slots) : W p l e room_1 s m args below meth c H locs cells slots Q (F0 m 1300 ls []) := by
  obtain ⟨Cx, hX, hbl, hbA, hAo, hAn⟩ := F0'
  have hx := Cx.1
  have hb := Cx.2.1
  obtain ⟨r, hfx, hfm, hR'⟩ := hSim n σx σm (xs (v3 + 1).toNatClampNeg) (xs (v3 + 2).toNatClampNeg) hR
  refine lv_aload_n (pc := 1300) hx hb dL_law_1300 rfl (lv_at hl 1 rfl) ?_
  refine lv_aload_n (pc := 1301) hx hb dL_law_1301 rfl (lv_at hl 0 rfl) ?_
  refine lv_iload_n (pc := 1302) hx hb dL_law_1302 rfl (lv_at hl 3 rfl) ?_
  refine lv_iconst (pc := 1303) (v := (1 : Int32)) hx hb dL_law_1303 (by decide) ?_
  refine lv_iadd (pc := 1304) hx hb dL_law_1304 ?_
  refine va_sld (pc := 1305) hx hb hX hbl hbA hS hi.1 dL_law_1305 ?_
  refine lv_aload_n (pc := 1306) hx hb dL_law_1306 rfl (lv_at hl 0 rfl) ?_
  refine lv_iload_n (pc := 1307) hx hb dL_law_1307 rfl (lv_at hl 3 rfl) ?_
  refine lv_iconst (pc := 1308) (v := (2 : Int32)) hx hb dL_law_1308 (by decide) ?_
  refine lv_iadd (pc := 1309) hx hb dL_law_1309 ?_
  refine va_sld (pc := 1310) hx hb hX hbl hbA hS hi.2.1 dL_law_1310 ?_
  refine um_cVM (pc := 1311) (k := 0) (As := [.int (xs (v3 + 1).toNatClampNeg), .int (xs (v3 + 2).toNatClampNeg)]) (rest := []) Cx (c_X8_may (xs (v3 + 1).toNatClampNeg) (xs (v3 + 2).toNatClampNeg) (xshn_X n) hfx) kV_X8_may (Or.inl qM_L_146) hI.1 hS hAo (fun q h => hAn q (hI.1.old q h)) (xshn_X n 0 _ rfl) rfl rfl hl rfl (Nat.le_of_ble_eq_true rfl) (Nat.le_of_ble_eq_true rfl) (Nat.le_of_ble_eq_true rfl) dL_law_1311 (by show cells ≤ 600000; omega) (by show slots ≤ 7302250; omega) (fun H1 locs1 hW1 z1 o1 hS1 => ?_)
  replace hI := hI.sx hW1 o1
  have e0 : αx 0 = αx 0 := rfl
  clear o1 hW1
  clear hS
  have hS := hS1
  clear hS1
  refine lv_aload_n (pc := 1314) hx hb dL_law_1314 rfl (lv_at hl 2 rfl) ?_
  refine lv_aload_n (pc := 1315) hx hb dL_law_1315 rfl (lv_at hl 0 rfl) ?_
  refine lv_iload_n (pc := 1316) hx hb dL_law_1316 rfl (lv_at hl 3 rfl) ?_
  refine lv_iconst (pc := 1317) (v := (1 : Int32)) hx hb dL_law_1317 (by decide) ?_
  refine lv_iadd (pc := 1318) hx hb dL_law_1318 ?_
  refine va_sld (pc := 1319) hx hb hX hbl hbA hS hi.1 dL_law_1319 ?_
  refine lv_aload_n (pc := 1320) hx hb dL_law_1320 rfl (lv_at hl 0 rfl) ?_
  refine lv_iload_n (pc := 1321) hx hb dL_law_1321 rfl (lv_at hl 3 rfl) ?_
  refine lv_iconst (pc := 1322) (v := (2 : Int32)) hx hb dL_law_1322 (by decide) ?_
  refine lv_iadd (pc := 1323) hx hb dL_law_1323 ?_
  refine va_sld (pc := 1324) hx hb hX hbl hbA hS hi.2.1 dL_law_1324 ?_
  refine um_cVM (pc := 1325) (k := 0) (As := [.int (xs (v3 + 1).toNatClampNeg), .int (xs (v3 + 2).toNatClampNeg)]) (rest := [.int r]) Cx (c_X9_may (xs (v3 + 1).toNatClampNeg) (xs (v3 + 2).toNatClampNeg) hfm) kV_X9_may (Or.inl qM_L_149) hI.2.1 hS hAo (fun q h => hAn q (hI.2.1.old q h)) rfl rfl rfl hl rfl (Nat.le_of_ble_eq_true rfl) (Nat.le_of_ble_eq_true rfl) (Nat.le_of_ble_eq_true rfl) dL_law_1325 (by show cells ≤ 600000; omega) (by show slots ≤ 7302250; omega) (fun H2 locs2 hW2 z2 o2 hS2 => ?_)
  replace hI := hI.sm hW2 o2
  refine lv_icmp_eq (pc := 1328) (tgt := 2016) hx hb dL_law_1328 (by decide) (fun _ => ?_) (fun h => absurd rfl h)
  refine W.widen (k := cells + 3) (n := slots + 197) (by omega) (by omega) ?_
  exact kk _ _ _ _ _ _ hR' hI e0 hS2
set_option maxHeartbeats 4000000 in
theorem lw_c33 (F0' : lw_F p s m meth c args Z b L xs A) (hSim : sim_same R) (hi : lw_ix v3 L) (hR : R n σx σm) (hI : lw_I Z n αx αm σx σm H) (hS : va_S A s.heap H locs) (hl : lv_has ls 4 [(0, .ref b), (1, .ref (αx 0)), (2, .ref (αm 0)), (3, .int v3)]) (hcs : cells + 3 ≤ 600000) (hss : slots + 197 ≤ 7302250) (kk : lw_K p l e s m args below meth c Q Z R αx αm A ls cells slots) : W p l e room_1 s m args below meth c H locs cells slots Q (F0 m 1333 ls []) := by
  obtain ⟨Cx, hX, hbl, hbA, hAo, hAn⟩ := F0'
  have hx := Cx.1
  have hb := Cx.2.1
  obtain ⟨r, hfx, hfm, hR'⟩ := hSim n σx σm (xs (v3 + 1).toNatClampNeg) (xs (v3 + 2).toNatClampNeg) hR
  refine lv_aload_n (pc := 1333) hx hb dL_law_1333 rfl (lv_at hl 1 rfl) ?_
  refine lv_aload_n (pc := 1334) hx hb dL_law_1334 rfl (lv_at hl 0 rfl) ?_
  refine lv_iload_n (pc := 1335) hx hb dL_law_1335 rfl (lv_at hl 3 rfl) ?_
  refine lv_iconst (pc := 1336) (v := (1 : Int32)) hx hb dL_law_1336 (by decide) ?_
  refine lv_iadd (pc := 1337) hx hb dL_law_1337 ?_
  refine va_sld (pc := 1338) hx hb hX hbl hbA hS hi.1 dL_law_1338 ?_
  refine lv_aload_n (pc := 1339) hx hb dL_law_1339 rfl (lv_at hl 0 rfl) ?_
  refine lv_iload_n (pc := 1340) hx hb dL_law_1340 rfl (lv_at hl 3 rfl) ?_
  refine lv_iconst (pc := 1341) (v := (2 : Int32)) hx hb dL_law_1341 (by decide) ?_
  refine lv_iadd (pc := 1342) hx hb dL_law_1342 ?_
  refine va_sld (pc := 1343) hx hb hX hbl hbA hS hi.2.1 dL_law_1343 ?_
  refine um_cVM (pc := 1344) (k := 0) (As := [.int (xs (v3 + 1).toNatClampNeg), .int (xs (v3 + 2).toNatClampNeg)]) (rest := []) Cx (c_X8_same (xs (v3 + 1).toNatClampNeg) (xs (v3 + 2).toNatClampNeg) (xshn_X n) hfx) kV_X8_same (Or.inl qM_L_150) hI.1 hS hAo (fun q h => hAn q (hI.1.old q h)) (xshn_X n 0 _ rfl) rfl rfl hl rfl (Nat.le_of_ble_eq_true rfl) (Nat.le_of_ble_eq_true rfl) (Nat.le_of_ble_eq_true rfl) dL_law_1344 (by show cells ≤ 600000; omega) (by show slots ≤ 7302250; omega) (fun H1 locs1 hW1 z1 o1 hS1 => ?_)
  replace hI := hI.sx hW1 o1
  have e0 : αx 0 = αx 0 := rfl
  clear o1 hW1
  clear hS
  have hS := hS1
  clear hS1
  refine lv_aload_n (pc := 1347) hx hb dL_law_1347 rfl (lv_at hl 2 rfl) ?_
  refine lv_aload_n (pc := 1348) hx hb dL_law_1348 rfl (lv_at hl 0 rfl) ?_
  refine lv_iload_n (pc := 1349) hx hb dL_law_1349 rfl (lv_at hl 3 rfl) ?_
  refine lv_iconst (pc := 1350) (v := (1 : Int32)) hx hb dL_law_1350 (by decide) ?_
  refine lv_iadd (pc := 1351) hx hb dL_law_1351 ?_
  refine va_sld (pc := 1352) hx hb hX hbl hbA hS hi.1 dL_law_1352 ?_
  refine lv_aload_n (pc := 1353) hx hb dL_law_1353 rfl (lv_at hl 0 rfl) ?_
  refine lv_iload_n (pc := 1354) hx hb dL_law_1354 rfl (lv_at hl 3 rfl) ?_
  refine lv_iconst (pc := 1355) (v := (2 : Int32)) hx hb dL_law_1355 (by decide) ?_
  refine lv_iadd (pc := 1356) hx hb dL_law_1356 ?_
  refine va_sld (pc := 1357) hx hb hX hbl hbA hS hi.2.1 dL_law_1357 ?_
  refine um_cVM (pc := 1358) (k := 0) (As := [.int (xs (v3 + 1).toNatClampNeg), .int (xs (v3 + 2).toNatClampNeg)]) (rest := [.int r]) Cx (c_X9_same (xs (v3 + 1).toNatClampNeg) (xs (v3 + 2).toNatClampNeg) hfm) kV_X9_same (Or.inl qM_L_153) hI.2.1 hS hAo (fun q h => hAn q (hI.2.1.old q h)) rfl rfl rfl hl rfl (Nat.le_of_ble_eq_true rfl) (Nat.le_of_ble_eq_true rfl) (Nat.le_of_ble_eq_true rfl) dL_law_1358 (by show cells ≤ 600000; omega) (by show slots ≤ 7302250; omega) (fun H2 locs2 hW2 z2 o2 hS2 => ?_)
  replace hI := hI.sm hW2 o2
  refine lv_icmp_eq (pc := 1361) (tgt := 2016) hx hb dL_law_1361 (by decide) (fun _ => ?_) (fun h => absurd rfl h)
  refine W.widen (k := cells + 3) (n := slots + 197) (by omega) (by omega) ?_
  exact kk _ _ _ _ _ _ hR' hI e0 hS2
set_option maxHeartbeats 4000000 in
theorem lw_c34 (F0' : lw_F p s m meth c args Z b L xs A) (hSim : sim_goes R) (hi : lw_ix v3 L) (hR : R n σx σm) (hI : lw_I Z n αx αm σx σm H) (hS : va_S A s.heap H locs) (hl : lv_has ls 4 [(0, .ref b), (1, .ref (αx 0)), (2, .ref (αm 0)), (3, .int v3)]) (hcs : cells + 3 ≤ 600000) (hss : slots + 197 ≤ 7302250) (kk : lw_K p l e s m args below meth c Q Z R αx αm A ls cells slots) : W p l e room_1 s m args below meth c H locs cells slots Q (F0 m 1366 ls []) := by
  obtain ⟨Cx, hX, hbl, hbA, hAo, hAn⟩ := F0'
  have hx := Cx.1
  have hb := Cx.2.1
  obtain ⟨r, σx', σm', hfx, hfm, hR'⟩ := hSim n σx σm (xs (v3 + 1).toNatClampNeg) hR
  refine lv_aload_n (pc := 1366) hx hb dL_law_1366 rfl (lv_at hl 1 rfl) ?_
  refine lv_aload_n (pc := 1367) hx hb dL_law_1367 rfl (lv_at hl 0 rfl) ?_
  refine lv_iload_n (pc := 1368) hx hb dL_law_1368 rfl (lv_at hl 3 rfl) ?_
  refine lv_iconst (pc := 1369) (v := (1 : Int32)) hx hb dL_law_1369 (by decide) ?_
  refine lv_iadd (pc := 1370) hx hb dL_law_1370 ?_
  refine va_sld (pc := 1371) hx hb hX hbl hbA hS hi.1 dL_law_1371 ?_
  refine um_cVM (pc := 1372) (k := 0) (As := [.int (xs (v3 + 1).toNatClampNeg)]) (rest := []) Cx (c_X8_goes (xs (v3 + 1).toNatClampNeg) (xshn_X n) hfx) kV_X8_goes (Or.inl qM_L_154) hI.1 hS hAo (fun q h => hAn q (hI.1.old q h)) (xshn_X n 0 _ rfl) rfl rfl hl rfl (Nat.le_of_ble_eq_true rfl) (Nat.le_of_ble_eq_true rfl) (Nat.le_of_ble_eq_true rfl) dL_law_1372 (by show cells ≤ 600000; omega) (by show slots ≤ 7302250; omega) (fun H1 locs1 hW1 z1 o1 hS1 => ?_)
  replace hI := hI.sx hW1 o1
  have e0 : αx 0 = αx 0 := rfl
  clear o1 hW1
  clear hS
  have hS := hS1
  clear hS1
  refine lv_aload_n (pc := 1375) hx hb dL_law_1375 rfl (lv_at hl 2 rfl) ?_
  refine lv_aload_n (pc := 1376) hx hb dL_law_1376 rfl (lv_at hl 0 rfl) ?_
  refine lv_iload_n (pc := 1377) hx hb dL_law_1377 rfl (lv_at hl 3 rfl) ?_
  refine lv_iconst (pc := 1378) (v := (1 : Int32)) hx hb dL_law_1378 (by decide) ?_
  refine lv_iadd (pc := 1379) hx hb dL_law_1379 ?_
  refine va_sld (pc := 1380) hx hb hX hbl hbA hS hi.1 dL_law_1380 ?_
  refine um_cVM (pc := 1381) (k := 0) (As := [.int (xs (v3 + 1).toNatClampNeg)]) (rest := [.int r]) Cx (c_X9_goes (xs (v3 + 1).toNatClampNeg) hfm) kV_X9_goes (Or.inl qM_L_157) hI.2.1 hS hAo (fun q h => hAn q (hI.2.1.old q h)) rfl rfl rfl hl rfl (Nat.le_of_ble_eq_true rfl) (Nat.le_of_ble_eq_true rfl) (Nat.le_of_ble_eq_true rfl) dL_law_1381 (by show cells ≤ 600000; omega) (by show slots ≤ 7302250; omega) (fun H2 locs2 hW2 z2 o2 hS2 => ?_)
  replace hI := hI.sm hW2 o2
  refine lv_icmp_eq (pc := 1384) (tgt := 2016) hx hb dL_law_1384 (by decide) (fun _ => ?_) (fun h => absurd rfl h)
  refine W.widen (k := cells + 3) (n := slots + 197) (by omega) (by omega) ?_
  exact kk _ _ _ _ _ _ hR' hI e0 hS2
set_option maxHeartbeats 4000000 in
theorem lw_c35 (F0' : lw_F p s m meth c args Z b L xs A) (hSim : sim_most R) (hi : lw_ix v3 L) (hR : R n σx σm) (hI : lw_I Z n αx αm σx σm H) (hS : va_S A s.heap H locs) (hl : lv_has ls 4 [(0, .ref b), (1, .ref (αx 0)), (2, .ref (αm 0)), (3, .int v3)]) (hcs : cells + 3 ≤ 600000) (hss : slots + 197 ≤ 7302250) (kk : lw_K p l e s m args below meth c Q Z R αx αm A ls cells slots) : W p l e room_1 s m args below meth c H locs cells slots Q (F0 m 1389 ls []) := by
  obtain ⟨Cx, hX, hbl, hbA, hAo, hAn⟩ := F0'
  have hx := Cx.1
  have hb := Cx.2.1
  obtain ⟨r, σx', σm', hfx, hfm, hR'⟩ := hSim n σx σm hR
  refine lv_aload_n (pc := 1389) hx hb dL_law_1389 rfl (lv_at hl 1 rfl) ?_
  refine um_cVM (pc := 1390) (k := 0) (As := []) (rest := []) Cx (c_X8_most (xshn_X n) hfx) kV_X8_most (Or.inl qM_L_158) hI.1 hS hAo (fun q h => hAn q (hI.1.old q h)) (xshn_X n 0 _ rfl) rfl rfl hl rfl (Nat.le_of_ble_eq_true rfl) (Nat.le_of_ble_eq_true rfl) (Nat.le_of_ble_eq_true rfl) dL_law_1390 (by show cells ≤ 600000; omega) (by show slots ≤ 7302250; omega) (fun H1 locs1 hW1 z1 o1 hS1 => ?_)
  replace hI := hI.sx hW1 o1
  have e0 : αx 0 = αx 0 := rfl
  clear o1 hW1
  clear hS
  have hS := hS1
  clear hS1
  refine lv_aload_n (pc := 1393) hx hb dL_law_1393 rfl (lv_at hl 2 rfl) ?_
  refine um_cVM (pc := 1394) (k := 0) (As := []) (rest := [.int r]) Cx (c_X9_most hfm) kV_X9_most (Or.inl qM_L_162) hI.2.1 hS hAo (fun q h => hAn q (hI.2.1.old q h)) rfl rfl rfl hl rfl (Nat.le_of_ble_eq_true rfl) (Nat.le_of_ble_eq_true rfl) (Nat.le_of_ble_eq_true rfl) dL_law_1394 (by show cells ≤ 600000; omega) (by show slots ≤ 7302250; omega) (fun H2 locs2 hW2 z2 o2 hS2 => ?_)
  replace hI := hI.sm hW2 o2
  refine lv_icmp_eq (pc := 1397) (tgt := 2016) hx hb dL_law_1397 (by decide) (fun _ => ?_) (fun h => absurd rfl h)
  refine W.widen (k := cells + 3) (n := slots + 197) (by omega) (by omega) ?_
  exact kk _ _ _ _ _ _ hR' hI e0 hS2
set_option maxHeartbeats 4000000 in
theorem lw_c36 (F0' : lw_F p s m meth c args Z b L xs A) (hSim : sim_sentence R) (hi : lw_ix v3 L) (hR : R n σx σm) (hI : lw_I Z n αx αm σx σm H) (hS : va_S A s.heap H locs) (hl : lv_has ls 4 [(0, .ref b), (1, .ref (αx 0)), (2, .ref (αm 0)), (3, .int v3)]) (hcs : cells + 3 ≤ 600000) (hss : slots + 197 ≤ 7302250) (kk : lw_K p l e s m args below meth c Q Z R αx αm A ls cells slots) : W p l e room_1 s m args below meth c H locs cells slots Q (F0 m 1402 ls []) := by
  obtain ⟨Cx, hX, hbl, hbA, hAo, hAn⟩ := F0'
  have hx := Cx.1
  have hb := Cx.2.1
  obtain ⟨r, σx', σm', hfx, hfm, hR'⟩ := hSim n σx σm (xs (v3 + 1).toNatClampNeg) (xs (v3 + 2).toNatClampNeg) (xs (v3 + 3).toNatClampNeg) hR
  refine lv_aload_n (pc := 1402) hx hb dL_law_1402 rfl (lv_at hl 1 rfl) ?_
  refine lv_aload_n (pc := 1403) hx hb dL_law_1403 rfl (lv_at hl 0 rfl) ?_
  refine lv_iload_n (pc := 1404) hx hb dL_law_1404 rfl (lv_at hl 3 rfl) ?_
  refine lv_iconst (pc := 1405) (v := (1 : Int32)) hx hb dL_law_1405 (by decide) ?_
  refine lv_iadd (pc := 1406) hx hb dL_law_1406 ?_
  refine va_sld (pc := 1407) hx hb hX hbl hbA hS hi.1 dL_law_1407 ?_
  refine lv_aload_n (pc := 1408) hx hb dL_law_1408 rfl (lv_at hl 0 rfl) ?_
  refine lv_iload_n (pc := 1409) hx hb dL_law_1409 rfl (lv_at hl 3 rfl) ?_
  refine lv_iconst (pc := 1410) (v := (2 : Int32)) hx hb dL_law_1410 (by decide) ?_
  refine lv_iadd (pc := 1411) hx hb dL_law_1411 ?_
  refine va_sld (pc := 1412) hx hb hX hbl hbA hS hi.2.1 dL_law_1412 ?_
  refine lv_aload_n (pc := 1413) hx hb dL_law_1413 rfl (lv_at hl 0 rfl) ?_
  refine lv_iload_n (pc := 1414) hx hb dL_law_1414 rfl (lv_at hl 3 rfl) ?_
  refine lv_iconst (pc := 1415) (v := (3 : Int32)) hx hb dL_law_1415 (by decide) ?_
  refine lv_iadd (pc := 1416) hx hb dL_law_1416 ?_
  refine va_sld (pc := 1417) hx hb hX hbl hbA hS hi.2.2.1 dL_law_1417 ?_
  refine um_cVM (pc := 1418) (k := 0) (As := [.int (xs (v3 + 1).toNatClampNeg), .int (xs (v3 + 2).toNatClampNeg), .int (xs (v3 + 3).toNatClampNeg)]) (rest := []) Cx (c_X8_sentence (xs (v3 + 1).toNatClampNeg) (xs (v3 + 2).toNatClampNeg) (xs (v3 + 3).toNatClampNeg) (xshn_X n) hfx) kV_X8_sentence (Or.inl qM_L_163) hI.1 hS hAo (fun q h => hAn q (hI.1.old q h)) (xshn_X n 0 _ rfl) rfl rfl hl rfl (Nat.le_of_ble_eq_true rfl) (Nat.le_of_ble_eq_true rfl) (Nat.le_of_ble_eq_true rfl) dL_law_1418 (by show cells ≤ 600000; omega) (by show slots ≤ 7302250; omega) (fun H1 locs1 hW1 z1 o1 hS1 => ?_)
  replace hI := hI.sx hW1 o1
  have e0 : αx 0 = αx 0 := rfl
  clear o1 hW1
  clear hS
  have hS := hS1
  clear hS1
  refine lv_aload_n (pc := 1421) hx hb dL_law_1421 rfl (lv_at hl 2 rfl) ?_
  refine lv_aload_n (pc := 1422) hx hb dL_law_1422 rfl (lv_at hl 0 rfl) ?_
  refine lv_iload_n (pc := 1423) hx hb dL_law_1423 rfl (lv_at hl 3 rfl) ?_
  refine lv_iconst (pc := 1424) (v := (1 : Int32)) hx hb dL_law_1424 (by decide) ?_
  refine lv_iadd (pc := 1425) hx hb dL_law_1425 ?_
  refine va_sld (pc := 1426) hx hb hX hbl hbA hS hi.1 dL_law_1426 ?_
  refine lv_aload_n (pc := 1427) hx hb dL_law_1427 rfl (lv_at hl 0 rfl) ?_
  refine lv_iload_n (pc := 1428) hx hb dL_law_1428 rfl (lv_at hl 3 rfl) ?_
  refine lv_iconst (pc := 1429) (v := (2 : Int32)) hx hb dL_law_1429 (by decide) ?_
  refine lv_iadd (pc := 1430) hx hb dL_law_1430 ?_
  refine va_sld (pc := 1431) hx hb hX hbl hbA hS hi.2.1 dL_law_1431 ?_
  refine lv_aload_n (pc := 1432) hx hb dL_law_1432 rfl (lv_at hl 0 rfl) ?_
  refine lv_iload_n (pc := 1433) hx hb dL_law_1433 rfl (lv_at hl 3 rfl) ?_
  refine lv_iconst (pc := 1434) (v := (3 : Int32)) hx hb dL_law_1434 (by decide) ?_
  refine lv_iadd (pc := 1435) hx hb dL_law_1435 ?_
  refine va_sld (pc := 1436) hx hb hX hbl hbA hS hi.2.2.1 dL_law_1436 ?_
  refine um_cVM (pc := 1437) (k := 0) (As := [.int (xs (v3 + 1).toNatClampNeg), .int (xs (v3 + 2).toNatClampNeg), .int (xs (v3 + 3).toNatClampNeg)]) (rest := [.int r]) Cx (c_X9_sentence (xs (v3 + 1).toNatClampNeg) (xs (v3 + 2).toNatClampNeg) (xs (v3 + 3).toNatClampNeg) hfm) kV_X9_sentence (Or.inl qM_L_166) hI.2.1 hS hAo (fun q h => hAn q (hI.2.1.old q h)) rfl rfl rfl hl rfl (Nat.le_of_ble_eq_true rfl) (Nat.le_of_ble_eq_true rfl) (Nat.le_of_ble_eq_true rfl) dL_law_1437 (by show cells ≤ 600000; omega) (by show slots ≤ 7302250; omega) (fun H2 locs2 hW2 z2 o2 hS2 => ?_)
  replace hI := hI.sm hW2 o2
  refine lv_icmp_eq (pc := 1440) (tgt := 2016) hx hb dL_law_1440 (by decide) (fun _ => ?_) (fun h => absurd rfl h)
  refine W.widen (k := cells + 3) (n := slots + 197) (by omega) (by omega) ?_
  exact kk _ _ _ _ _ _ hR' hI e0 hS2
set_option maxHeartbeats 4000000 in
theorem lw_c37 (F0' : lw_F p s m meth c args Z b L xs A) (hSim : sim_mean R) (hi : lw_ix v3 L) (hR : R n σx σm) (hI : lw_I Z n αx αm σx σm H) (hS : va_S A s.heap H locs) (hl : lv_has ls 4 [(0, .ref b), (1, .ref (αx 0)), (2, .ref (αm 0)), (3, .int v3)]) (hcs : cells + 3 ≤ 600000) (hss : slots + 197 ≤ 7302250) (kk : lw_K p l e s m args below meth c Q Z R αx αm A ls cells slots) : W p l e room_1 s m args below meth c H locs cells slots Q (F0 m 1445 ls []) := by
  obtain ⟨Cx, hX, hbl, hbA, hAo, hAn⟩ := F0'
  have hx := Cx.1
  have hb := Cx.2.1
  obtain ⟨r, hfx, hfm, hR'⟩ := hSim n σx σm (xs (v3 + 1).toNatClampNeg) (xs (v3 + 2).toNatClampNeg) hR
  refine lv_aload_n (pc := 1445) hx hb dL_law_1445 rfl (lv_at hl 1 rfl) ?_
  refine lv_aload_n (pc := 1446) hx hb dL_law_1446 rfl (lv_at hl 0 rfl) ?_
  refine lv_iload_n (pc := 1447) hx hb dL_law_1447 rfl (lv_at hl 3 rfl) ?_
  refine lv_iconst (pc := 1448) (v := (1 : Int32)) hx hb dL_law_1448 (by decide) ?_
  refine lv_iadd (pc := 1449) hx hb dL_law_1449 ?_
  refine va_sld (pc := 1450) hx hb hX hbl hbA hS hi.1 dL_law_1450 ?_
  refine lv_aload_n (pc := 1451) hx hb dL_law_1451 rfl (lv_at hl 0 rfl) ?_
  refine lv_iload_n (pc := 1452) hx hb dL_law_1452 rfl (lv_at hl 3 rfl) ?_
  refine lv_iconst (pc := 1453) (v := (2 : Int32)) hx hb dL_law_1453 (by decide) ?_
  refine lv_iadd (pc := 1454) hx hb dL_law_1454 ?_
  refine va_sld (pc := 1455) hx hb hX hbl hbA hS hi.2.1 dL_law_1455 ?_
  refine um_cVM (pc := 1456) (k := 0) (As := [.int (xs (v3 + 1).toNatClampNeg), .int (xs (v3 + 2).toNatClampNeg)]) (rest := []) Cx (c_X8_mean (xs (v3 + 1).toNatClampNeg) (xs (v3 + 2).toNatClampNeg) (xshn_X n) hfx) kV_X8_mean (Or.inl qM_L_167) hI.1 hS hAo (fun q h => hAn q (hI.1.old q h)) (xshn_X n 0 _ rfl) rfl rfl hl rfl (Nat.le_of_ble_eq_true rfl) (Nat.le_of_ble_eq_true rfl) (Nat.le_of_ble_eq_true rfl) dL_law_1456 (by show cells ≤ 600000; omega) (by show slots ≤ 7302250; omega) (fun H1 locs1 hW1 z1 o1 hS1 => ?_)
  replace hI := hI.sx hW1 o1
  have e0 : αx 0 = αx 0 := rfl
  clear o1 hW1
  clear hS
  have hS := hS1
  clear hS1
  refine lv_aload_n (pc := 1459) hx hb dL_law_1459 rfl (lv_at hl 2 rfl) ?_
  refine lv_aload_n (pc := 1460) hx hb dL_law_1460 rfl (lv_at hl 0 rfl) ?_
  refine lv_iload_n (pc := 1461) hx hb dL_law_1461 rfl (lv_at hl 3 rfl) ?_
  refine lv_iconst (pc := 1462) (v := (1 : Int32)) hx hb dL_law_1462 (by decide) ?_
  refine lv_iadd (pc := 1463) hx hb dL_law_1463 ?_
  refine va_sld (pc := 1464) hx hb hX hbl hbA hS hi.1 dL_law_1464 ?_
  refine lv_aload_n (pc := 1465) hx hb dL_law_1465 rfl (lv_at hl 0 rfl) ?_
  refine lv_iload_n (pc := 1466) hx hb dL_law_1466 rfl (lv_at hl 3 rfl) ?_
  refine lv_iconst (pc := 1467) (v := (2 : Int32)) hx hb dL_law_1467 (by decide) ?_
  refine lv_iadd (pc := 1468) hx hb dL_law_1468 ?_
  refine va_sld (pc := 1469) hx hb hX hbl hbA hS hi.2.1 dL_law_1469 ?_
  refine um_cVM (pc := 1470) (k := 0) (As := [.int (xs (v3 + 1).toNatClampNeg), .int (xs (v3 + 2).toNatClampNeg)]) (rest := [.int r]) Cx (c_X9_mean (xs (v3 + 1).toNatClampNeg) (xs (v3 + 2).toNatClampNeg) hfm) kV_X9_mean (Or.inl qM_L_170) hI.2.1 hS hAo (fun q h => hAn q (hI.2.1.old q h)) rfl rfl rfl hl rfl (Nat.le_of_ble_eq_true rfl) (Nat.le_of_ble_eq_true rfl) (Nat.le_of_ble_eq_true rfl) dL_law_1470 (by show cells ≤ 600000; omega) (by show slots ≤ 7302250; omega) (fun H2 locs2 hW2 z2 o2 hS2 => ?_)
  replace hI := hI.sm hW2 o2
  refine lv_icmp_eq (pc := 1473) (tgt := 2016) hx hb dL_law_1473 (by decide) (fun _ => ?_) (fun h => absurd rfl h)
  refine W.widen (k := cells + 3) (n := slots + 197) (by omega) (by omega) ?_
  exact kk _ _ _ _ _ _ hR' hI e0 hS2
set_option maxHeartbeats 4000000 in
theorem lw_c38 (F0' : lw_F p s m meth c args Z b L xs A) (hSim : sim_harsh R) (hi : lw_ix v3 L) (hR : R n σx σm) (hI : lw_I Z n αx αm σx σm H) (hS : va_S A s.heap H locs) (hl : lv_has ls 4 [(0, .ref b), (1, .ref (αx 0)), (2, .ref (αm 0)), (3, .int v3)]) (hcs : cells + 3 ≤ 600000) (hss : slots + 197 ≤ 7302250) (kk : lw_K p l e s m args below meth c Q Z R αx αm A ls cells slots) : W p l e room_1 s m args below meth c H locs cells slots Q (F0 m 1478 ls []) := by
  obtain ⟨Cx, hX, hbl, hbA, hAo, hAn⟩ := F0'
  have hx := Cx.1
  have hb := Cx.2.1
  obtain ⟨r, hfx, hfm, hR'⟩ := hSim n σx σm (xs (v3 + 1).toNatClampNeg) hR
  refine lv_aload_n (pc := 1478) hx hb dL_law_1478 rfl (lv_at hl 1 rfl) ?_
  refine lv_aload_n (pc := 1479) hx hb dL_law_1479 rfl (lv_at hl 0 rfl) ?_
  refine lv_iload_n (pc := 1480) hx hb dL_law_1480 rfl (lv_at hl 3 rfl) ?_
  refine lv_iconst (pc := 1481) (v := (1 : Int32)) hx hb dL_law_1481 (by decide) ?_
  refine lv_iadd (pc := 1482) hx hb dL_law_1482 ?_
  refine va_sld (pc := 1483) hx hb hX hbl hbA hS hi.1 dL_law_1483 ?_
  refine um_cVM (pc := 1484) (k := 0) (As := [.int (xs (v3 + 1).toNatClampNeg)]) (rest := []) Cx (c_X8_harsh (xs (v3 + 1).toNatClampNeg) (xshn_X n) hfx) kV_X8_harsh (Or.inl qM_L_171) hI.1 hS hAo (fun q h => hAn q (hI.1.old q h)) (xshn_X n 0 _ rfl) rfl rfl hl rfl (Nat.le_of_ble_eq_true rfl) (Nat.le_of_ble_eq_true rfl) (Nat.le_of_ble_eq_true rfl) dL_law_1484 (by show cells ≤ 600000; omega) (by show slots ≤ 7302250; omega) (fun H1 locs1 hW1 z1 o1 hS1 => ?_)
  replace hI := hI.sx hW1 o1
  have e0 : αx 0 = αx 0 := rfl
  clear o1 hW1
  clear hS
  have hS := hS1
  clear hS1
  refine lv_aload_n (pc := 1487) hx hb dL_law_1487 rfl (lv_at hl 2 rfl) ?_
  refine lv_aload_n (pc := 1488) hx hb dL_law_1488 rfl (lv_at hl 0 rfl) ?_
  refine lv_iload_n (pc := 1489) hx hb dL_law_1489 rfl (lv_at hl 3 rfl) ?_
  refine lv_iconst (pc := 1490) (v := (1 : Int32)) hx hb dL_law_1490 (by decide) ?_
  refine lv_iadd (pc := 1491) hx hb dL_law_1491 ?_
  refine va_sld (pc := 1492) hx hb hX hbl hbA hS hi.1 dL_law_1492 ?_
  refine um_cVM (pc := 1493) (k := 0) (As := [.int (xs (v3 + 1).toNatClampNeg)]) (rest := [.int r]) Cx (c_X9_harsh (xs (v3 + 1).toNatClampNeg) hfm) kV_X9_harsh (Or.inl qM_L_174) hI.2.1 hS hAo (fun q h => hAn q (hI.2.1.old q h)) rfl rfl rfl hl rfl (Nat.le_of_ble_eq_true rfl) (Nat.le_of_ble_eq_true rfl) (Nat.le_of_ble_eq_true rfl) dL_law_1493 (by show cells ≤ 600000; omega) (by show slots ≤ 7302250; omega) (fun H2 locs2 hW2 z2 o2 hS2 => ?_)
  replace hI := hI.sm hW2 o2
  refine lv_icmp_eq (pc := 1496) (tgt := 2016) hx hb dL_law_1496 (by decide) (fun _ => ?_) (fun h => absurd rfl h)
  refine W.widen (k := cells + 3) (n := slots + 197) (by omega) (by omega) ?_
  exact kk _ _ _ _ _ _ hR' hI e0 hS2
set_option maxHeartbeats 4000000 in
theorem lw_c39 (F0' : lw_F p s m meth c args Z b L xs A) (hSim : sim_letter R) (hi : lw_ix v3 L) (hR : R n σx σm) (hI : lw_I Z n αx αm σx σm H) (hS : va_S A s.heap H locs) (hl : lv_has ls 4 [(0, .ref b), (1, .ref (αx 0)), (2, .ref (αm 0)), (3, .int v3)]) (hcs : cells + 3 ≤ 600000) (hss : slots + 197 ≤ 7302250) (kk : lw_K p l e s m args below meth c Q Z R αx αm A ls cells slots) : W p l e room_1 s m args below meth c H locs cells slots Q (F0 m 1501 ls []) := by
  obtain ⟨Cx, hX, hbl, hbA, hAo, hAn⟩ := F0'
  have hx := Cx.1
  have hb := Cx.2.1
  obtain ⟨r, σx', σm', hfx, hfm, hR'⟩ := hSim n σx σm (xs (v3 + 1).toNatClampNeg) (xs (v3 + 2).toNatClampNeg) (xs (v3 + 3).toNatClampNeg) hR
  refine lv_aload_n (pc := 1501) hx hb dL_law_1501 rfl (lv_at hl 1 rfl) ?_
  refine lv_aload_n (pc := 1502) hx hb dL_law_1502 rfl (lv_at hl 0 rfl) ?_
  refine lv_iload_n (pc := 1503) hx hb dL_law_1503 rfl (lv_at hl 3 rfl) ?_
  refine lv_iconst (pc := 1504) (v := (1 : Int32)) hx hb dL_law_1504 (by decide) ?_
  refine lv_iadd (pc := 1505) hx hb dL_law_1505 ?_
  refine va_sld (pc := 1506) hx hb hX hbl hbA hS hi.1 dL_law_1506 ?_
  refine lv_aload_n (pc := 1507) hx hb dL_law_1507 rfl (lv_at hl 0 rfl) ?_
  refine lv_iload_n (pc := 1508) hx hb dL_law_1508 rfl (lv_at hl 3 rfl) ?_
  refine lv_iconst (pc := 1509) (v := (2 : Int32)) hx hb dL_law_1509 (by decide) ?_
  refine lv_iadd (pc := 1510) hx hb dL_law_1510 ?_
  refine va_sld (pc := 1511) hx hb hX hbl hbA hS hi.2.1 dL_law_1511 ?_
  refine lv_aload_n (pc := 1512) hx hb dL_law_1512 rfl (lv_at hl 0 rfl) ?_
  refine lv_iload_n (pc := 1513) hx hb dL_law_1513 rfl (lv_at hl 3 rfl) ?_
  refine lv_iconst (pc := 1514) (v := (3 : Int32)) hx hb dL_law_1514 (by decide) ?_
  refine lv_iadd (pc := 1515) hx hb dL_law_1515 ?_
  refine va_sld (pc := 1516) hx hb hX hbl hbA hS hi.2.2.1 dL_law_1516 ?_
  refine um_cVM (pc := 1517) (k := 0) (As := [.int (xs (v3 + 1).toNatClampNeg), .int (xs (v3 + 2).toNatClampNeg), .int (xs (v3 + 3).toNatClampNeg)]) (rest := []) Cx (c_X8_letter (xs (v3 + 1).toNatClampNeg) (xs (v3 + 2).toNatClampNeg) (xs (v3 + 3).toNatClampNeg) (xshn_X n) hfx) kV_X8_letter (Or.inl qM_L_175) hI.1 hS hAo (fun q h => hAn q (hI.1.old q h)) (xshn_X n 0 _ rfl) rfl rfl hl rfl (Nat.le_of_ble_eq_true rfl) (Nat.le_of_ble_eq_true rfl) (Nat.le_of_ble_eq_true rfl) dL_law_1517 (by show cells ≤ 600000; omega) (by show slots ≤ 7302250; omega) (fun H1 locs1 hW1 z1 o1 hS1 => ?_)
  replace hI := hI.sx hW1 o1
  have e0 : αx 0 = αx 0 := rfl
  clear o1 hW1
  clear hS
  have hS := hS1
  clear hS1
  refine lv_aload_n (pc := 1520) hx hb dL_law_1520 rfl (lv_at hl 2 rfl) ?_
  refine lv_aload_n (pc := 1521) hx hb dL_law_1521 rfl (lv_at hl 0 rfl) ?_
  refine lv_iload_n (pc := 1522) hx hb dL_law_1522 rfl (lv_at hl 3 rfl) ?_
  refine lv_iconst (pc := 1523) (v := (1 : Int32)) hx hb dL_law_1523 (by decide) ?_
  refine lv_iadd (pc := 1524) hx hb dL_law_1524 ?_
  refine va_sld (pc := 1525) hx hb hX hbl hbA hS hi.1 dL_law_1525 ?_
  refine lv_aload_n (pc := 1526) hx hb dL_law_1526 rfl (lv_at hl 0 rfl) ?_
  refine lv_iload_n (pc := 1527) hx hb dL_law_1527 rfl (lv_at hl 3 rfl) ?_
  refine lv_iconst (pc := 1528) (v := (2 : Int32)) hx hb dL_law_1528 (by decide) ?_
  refine lv_iadd (pc := 1529) hx hb dL_law_1529 ?_
  refine va_sld (pc := 1530) hx hb hX hbl hbA hS hi.2.1 dL_law_1530 ?_
  refine lv_aload_n (pc := 1531) hx hb dL_law_1531 rfl (lv_at hl 0 rfl) ?_
  refine lv_iload_n (pc := 1532) hx hb dL_law_1532 rfl (lv_at hl 3 rfl) ?_
  refine lv_iconst (pc := 1533) (v := (3 : Int32)) hx hb dL_law_1533 (by decide) ?_
  refine lv_iadd (pc := 1534) hx hb dL_law_1534 ?_
  refine va_sld (pc := 1535) hx hb hX hbl hbA hS hi.2.2.1 dL_law_1535 ?_
  refine um_cVM (pc := 1536) (k := 0) (As := [.int (xs (v3 + 1).toNatClampNeg), .int (xs (v3 + 2).toNatClampNeg), .int (xs (v3 + 3).toNatClampNeg)]) (rest := [.int r]) Cx (c_X9_letter (xs (v3 + 1).toNatClampNeg) (xs (v3 + 2).toNatClampNeg) (xs (v3 + 3).toNatClampNeg) hfm) kV_X9_letter (Or.inl qM_L_178) hI.2.1 hS hAo (fun q h => hAn q (hI.2.1.old q h)) rfl rfl rfl hl rfl (Nat.le_of_ble_eq_true rfl) (Nat.le_of_ble_eq_true rfl) (Nat.le_of_ble_eq_true rfl) dL_law_1536 (by show cells ≤ 600000; omega) (by show slots ≤ 7302250; omega) (fun H2 locs2 hW2 z2 o2 hS2 => ?_)
  replace hI := hI.sm hW2 o2
  refine lv_icmp_eq (pc := 1539) (tgt := 2016) hx hb dL_law_1539 (by decide) (fun _ => ?_) (fun h => absurd rfl h)
  refine W.widen (k := cells + 3) (n := slots + 197) (by omega) (by omega) ?_
  exact kk _ _ _ _ _ _ hR' hI e0 hS2
set_option maxHeartbeats 4000000 in
theorem lw_c40 (F0' : lw_F p s m meth c args Z b L xs A) (hSim : sim_letterTold R) (hi : lw_ix v3 L) (hR : R n σx σm) (hI : lw_I Z n αx αm σx σm H) (hS : va_S A s.heap H locs) (hl : lv_has ls 4 [(0, .ref b), (1, .ref (αx 0)), (2, .ref (αm 0)), (3, .int v3)]) (hcs : cells + 3 ≤ 600000) (hss : slots + 197 ≤ 7302250) (kk : lw_K p l e s m args below meth c Q Z R αx αm A ls cells slots) : W p l e room_1 s m args below meth c H locs cells slots Q (F0 m 1544 ls []) := by
  obtain ⟨Cx, hX, hbl, hbA, hAo, hAn⟩ := F0'
  have hx := Cx.1
  have hb := Cx.2.1
  obtain ⟨r, hfx, hfm, hR'⟩ := hSim n σx σm (xs (v3 + 1).toNatClampNeg) (xs (v3 + 2).toNatClampNeg) hR
  refine lv_aload_n (pc := 1544) hx hb dL_law_1544 rfl (lv_at hl 1 rfl) ?_
  refine lv_aload_n (pc := 1545) hx hb dL_law_1545 rfl (lv_at hl 0 rfl) ?_
  refine lv_iload_n (pc := 1546) hx hb dL_law_1546 rfl (lv_at hl 3 rfl) ?_
  refine lv_iconst (pc := 1547) (v := (1 : Int32)) hx hb dL_law_1547 (by decide) ?_
  refine lv_iadd (pc := 1548) hx hb dL_law_1548 ?_
  refine va_sld (pc := 1549) hx hb hX hbl hbA hS hi.1 dL_law_1549 ?_
  refine lv_aload_n (pc := 1550) hx hb dL_law_1550 rfl (lv_at hl 0 rfl) ?_
  refine lv_iload_n (pc := 1551) hx hb dL_law_1551 rfl (lv_at hl 3 rfl) ?_
  refine lv_iconst (pc := 1552) (v := (2 : Int32)) hx hb dL_law_1552 (by decide) ?_
  refine lv_iadd (pc := 1553) hx hb dL_law_1553 ?_
  refine va_sld (pc := 1554) hx hb hX hbl hbA hS hi.2.1 dL_law_1554 ?_
  refine um_cVM (pc := 1555) (k := 0) (As := [.int (xs (v3 + 1).toNatClampNeg), .int (xs (v3 + 2).toNatClampNeg)]) (rest := []) Cx (c_X8_letterTold (xs (v3 + 1).toNatClampNeg) (xs (v3 + 2).toNatClampNeg) (xshn_X n) hfx) kV_X8_letterTold (Or.inl qM_L_179) hI.1 hS hAo (fun q h => hAn q (hI.1.old q h)) (xshn_X n 0 _ rfl) rfl rfl hl rfl (Nat.le_of_ble_eq_true rfl) (Nat.le_of_ble_eq_true rfl) (Nat.le_of_ble_eq_true rfl) dL_law_1555 (by show cells ≤ 600000; omega) (by show slots ≤ 7302250; omega) (fun H1 locs1 hW1 z1 o1 hS1 => ?_)
  replace hI := hI.sx hW1 o1
  have e0 : αx 0 = αx 0 := rfl
  clear o1 hW1
  clear hS
  have hS := hS1
  clear hS1
  refine lv_aload_n (pc := 1558) hx hb dL_law_1558 rfl (lv_at hl 2 rfl) ?_
  refine lv_aload_n (pc := 1559) hx hb dL_law_1559 rfl (lv_at hl 0 rfl) ?_
  refine lv_iload_n (pc := 1560) hx hb dL_law_1560 rfl (lv_at hl 3 rfl) ?_
  refine lv_iconst (pc := 1561) (v := (1 : Int32)) hx hb dL_law_1561 (by decide) ?_
  refine lv_iadd (pc := 1562) hx hb dL_law_1562 ?_
  refine va_sld (pc := 1563) hx hb hX hbl hbA hS hi.1 dL_law_1563 ?_
  refine lv_aload_n (pc := 1564) hx hb dL_law_1564 rfl (lv_at hl 0 rfl) ?_
  refine lv_iload_n (pc := 1565) hx hb dL_law_1565 rfl (lv_at hl 3 rfl) ?_
  refine lv_iconst (pc := 1566) (v := (2 : Int32)) hx hb dL_law_1566 (by decide) ?_
  refine lv_iadd (pc := 1567) hx hb dL_law_1567 ?_
  refine va_sld (pc := 1568) hx hb hX hbl hbA hS hi.2.1 dL_law_1568 ?_
  refine um_cVM (pc := 1569) (k := 0) (As := [.int (xs (v3 + 1).toNatClampNeg), .int (xs (v3 + 2).toNatClampNeg)]) (rest := [.int r]) Cx (c_X9_letterTold (xs (v3 + 1).toNatClampNeg) (xs (v3 + 2).toNatClampNeg) hfm) kV_X9_letterTold (Or.inl qM_L_182) hI.2.1 hS hAo (fun q h => hAn q (hI.2.1.old q h)) rfl rfl rfl hl rfl (Nat.le_of_ble_eq_true rfl) (Nat.le_of_ble_eq_true rfl) (Nat.le_of_ble_eq_true rfl) dL_law_1569 (by show cells ≤ 600000; omega) (by show slots ≤ 7302250; omega) (fun H2 locs2 hW2 z2 o2 hS2 => ?_)
  replace hI := hI.sm hW2 o2
  refine lv_icmp_eq (pc := 1572) (tgt := 2016) hx hb dL_law_1572 (by decide) (fun _ => ?_) (fun h => absurd rfl h)
  refine W.widen (k := cells + 3) (n := slots + 197) (by omega) (by omega) ?_
  exact kk _ _ _ _ _ _ hR' hI e0 hS2
set_option maxHeartbeats 4000000 in
theorem lw_c41 (F0' : lw_F p s m meth c args Z b L xs A) (hSim : sim_party R) (hi : lw_ix v3 L) (hR : R n σx σm) (hI : lw_I Z n αx αm σx σm H) (hS : va_S A s.heap H locs) (hl : lv_has ls 4 [(0, .ref b), (1, .ref (αx 0)), (2, .ref (αm 0)), (3, .int v3)]) (hcs : cells + 3 ≤ 600000) (hss : slots + 197 ≤ 7302250) (kk : lw_K p l e s m args below meth c Q Z R αx αm A ls cells slots) : W p l e room_1 s m args below meth c H locs cells slots Q (F0 m 1577 ls []) := by
  obtain ⟨Cx, hX, hbl, hbA, hAo, hAn⟩ := F0'
  have hx := Cx.1
  have hb := Cx.2.1
  obtain ⟨r, σx', σm', hfx, hfm, hR'⟩ := hSim n σx σm (xs (v3 + 1).toNatClampNeg) (xs (v3 + 2).toNatClampNeg) (xs (v3 + 3).toNatClampNeg) hR
  refine lv_aload_n (pc := 1577) hx hb dL_law_1577 rfl (lv_at hl 1 rfl) ?_
  refine lv_aload_n (pc := 1578) hx hb dL_law_1578 rfl (lv_at hl 0 rfl) ?_
  refine lv_iload_n (pc := 1579) hx hb dL_law_1579 rfl (lv_at hl 3 rfl) ?_
  refine lv_iconst (pc := 1580) (v := (1 : Int32)) hx hb dL_law_1580 (by decide) ?_
  refine lv_iadd (pc := 1581) hx hb dL_law_1581 ?_
  refine va_sld (pc := 1582) hx hb hX hbl hbA hS hi.1 dL_law_1582 ?_
  refine lv_aload_n (pc := 1583) hx hb dL_law_1583 rfl (lv_at hl 0 rfl) ?_
  refine lv_iload_n (pc := 1584) hx hb dL_law_1584 rfl (lv_at hl 3 rfl) ?_
  refine lv_iconst (pc := 1585) (v := (2 : Int32)) hx hb dL_law_1585 (by decide) ?_
  refine lv_iadd (pc := 1586) hx hb dL_law_1586 ?_
  refine va_sld (pc := 1587) hx hb hX hbl hbA hS hi.2.1 dL_law_1587 ?_
  refine lv_aload_n (pc := 1588) hx hb dL_law_1588 rfl (lv_at hl 0 rfl) ?_
  refine lv_iload_n (pc := 1589) hx hb dL_law_1589 rfl (lv_at hl 3 rfl) ?_
  refine lv_iconst (pc := 1590) (v := (3 : Int32)) hx hb dL_law_1590 (by decide) ?_
  refine lv_iadd (pc := 1591) hx hb dL_law_1591 ?_
  refine va_sld (pc := 1592) hx hb hX hbl hbA hS hi.2.2.1 dL_law_1592 ?_
  refine um_cVM (pc := 1593) (k := 0) (As := [.int (xs (v3 + 1).toNatClampNeg), .int (xs (v3 + 2).toNatClampNeg), .int (xs (v3 + 3).toNatClampNeg)]) (rest := []) Cx (c_X8_party (xs (v3 + 1).toNatClampNeg) (xs (v3 + 2).toNatClampNeg) (xs (v3 + 3).toNatClampNeg) (xshn_X n) hfx) kV_X8_party (Or.inl qM_L_183) hI.1 hS hAo (fun q h => hAn q (hI.1.old q h)) (xshn_X n 0 _ rfl) rfl rfl hl rfl (Nat.le_of_ble_eq_true rfl) (Nat.le_of_ble_eq_true rfl) (Nat.le_of_ble_eq_true rfl) dL_law_1593 (by show cells ≤ 600000; omega) (by show slots ≤ 7302250; omega) (fun H1 locs1 hW1 z1 o1 hS1 => ?_)
  replace hI := hI.sx hW1 o1
  have e0 : αx 0 = αx 0 := rfl
  clear o1 hW1
  clear hS
  have hS := hS1
  clear hS1
  refine lv_aload_n (pc := 1596) hx hb dL_law_1596 rfl (lv_at hl 2 rfl) ?_
  refine lv_aload_n (pc := 1597) hx hb dL_law_1597 rfl (lv_at hl 0 rfl) ?_
  refine lv_iload_n (pc := 1598) hx hb dL_law_1598 rfl (lv_at hl 3 rfl) ?_
  refine lv_iconst (pc := 1599) (v := (1 : Int32)) hx hb dL_law_1599 (by decide) ?_
  refine lv_iadd (pc := 1600) hx hb dL_law_1600 ?_
  refine va_sld (pc := 1601) hx hb hX hbl hbA hS hi.1 dL_law_1601 ?_
  refine lv_aload_n (pc := 1602) hx hb dL_law_1602 rfl (lv_at hl 0 rfl) ?_
  refine lv_iload_n (pc := 1603) hx hb dL_law_1603 rfl (lv_at hl 3 rfl) ?_
  refine lv_iconst (pc := 1604) (v := (2 : Int32)) hx hb dL_law_1604 (by decide) ?_
  refine lv_iadd (pc := 1605) hx hb dL_law_1605 ?_
  refine va_sld (pc := 1606) hx hb hX hbl hbA hS hi.2.1 dL_law_1606 ?_
  refine lv_aload_n (pc := 1607) hx hb dL_law_1607 rfl (lv_at hl 0 rfl) ?_
  refine lv_iload_n (pc := 1608) hx hb dL_law_1608 rfl (lv_at hl 3 rfl) ?_
  refine lv_iconst (pc := 1609) (v := (3 : Int32)) hx hb dL_law_1609 (by decide) ?_
  refine lv_iadd (pc := 1610) hx hb dL_law_1610 ?_
  refine va_sld (pc := 1611) hx hb hX hbl hbA hS hi.2.2.1 dL_law_1611 ?_
  refine um_cVM (pc := 1612) (k := 0) (As := [.int (xs (v3 + 1).toNatClampNeg), .int (xs (v3 + 2).toNatClampNeg), .int (xs (v3 + 3).toNatClampNeg)]) (rest := [.int r]) Cx (c_X9_party (xs (v3 + 1).toNatClampNeg) (xs (v3 + 2).toNatClampNeg) (xs (v3 + 3).toNatClampNeg) hfm) kV_X9_party (Or.inl qM_L_186) hI.2.1 hS hAo (fun q h => hAn q (hI.2.1.old q h)) rfl rfl rfl hl rfl (Nat.le_of_ble_eq_true rfl) (Nat.le_of_ble_eq_true rfl) (Nat.le_of_ble_eq_true rfl) dL_law_1612 (by show cells ≤ 600000; omega) (by show slots ≤ 7302250; omega) (fun H2 locs2 hW2 z2 o2 hS2 => ?_)
  replace hI := hI.sm hW2 o2
  refine lv_icmp_eq (pc := 1615) (tgt := 2016) hx hb dL_law_1615 (by decide) (fun _ => ?_) (fun h => absurd rfl h)
  refine W.widen (k := cells + 3) (n := slots + 197) (by omega) (by omega) ?_
  exact kk _ _ _ _ _ _ hR' hI e0 hS2
set_option maxHeartbeats 4000000 in
theorem lw_c42 (F0' : lw_F p s m meth c args Z b L xs A) (hSim : sim_carries R) (hi : lw_ix v3 L) (hR : R n σx σm) (hI : lw_I Z n αx αm σx σm H) (hS : va_S A s.heap H locs) (hl : lv_has ls 4 [(0, .ref b), (1, .ref (αx 0)), (2, .ref (αm 0)), (3, .int v3)]) (hcs : cells + 3 ≤ 600000) (hss : slots + 197 ≤ 7302250) (kk : lw_K p l e s m args below meth c Q Z R αx αm A ls cells slots) : W p l e room_1 s m args below meth c H locs cells slots Q (F0 m 1620 ls []) := by
  obtain ⟨Cx, hX, hbl, hbA, hAo, hAn⟩ := F0'
  have hx := Cx.1
  have hb := Cx.2.1
  obtain ⟨r, hfx, hfm, hR'⟩ := hSim n σx σm (xs (v3 + 1).toNatClampNeg) hR
  refine lv_aload_n (pc := 1620) hx hb dL_law_1620 rfl (lv_at hl 1 rfl) ?_
  refine lv_aload_n (pc := 1621) hx hb dL_law_1621 rfl (lv_at hl 0 rfl) ?_
  refine lv_iload_n (pc := 1622) hx hb dL_law_1622 rfl (lv_at hl 3 rfl) ?_
  refine lv_iconst (pc := 1623) (v := (1 : Int32)) hx hb dL_law_1623 (by decide) ?_
  refine lv_iadd (pc := 1624) hx hb dL_law_1624 ?_
  refine va_sld (pc := 1625) hx hb hX hbl hbA hS hi.1 dL_law_1625 ?_
  refine um_cVM (pc := 1626) (k := 0) (As := [.int (xs (v3 + 1).toNatClampNeg)]) (rest := []) Cx (c_X8_carries (xs (v3 + 1).toNatClampNeg) (xshn_X n) hfx) kV_X8_carries (Or.inl qM_L_187) hI.1 hS hAo (fun q h => hAn q (hI.1.old q h)) (xshn_X n 0 _ rfl) rfl rfl hl rfl (Nat.le_of_ble_eq_true rfl) (Nat.le_of_ble_eq_true rfl) (Nat.le_of_ble_eq_true rfl) dL_law_1626 (by show cells ≤ 600000; omega) (by show slots ≤ 7302250; omega) (fun H1 locs1 hW1 z1 o1 hS1 => ?_)
  replace hI := hI.sx hW1 o1
  have e0 : αx 0 = αx 0 := rfl
  clear o1 hW1
  clear hS
  have hS := hS1
  clear hS1
  refine lv_aload_n (pc := 1629) hx hb dL_law_1629 rfl (lv_at hl 2 rfl) ?_
  refine lv_aload_n (pc := 1630) hx hb dL_law_1630 rfl (lv_at hl 0 rfl) ?_
  refine lv_iload_n (pc := 1631) hx hb dL_law_1631 rfl (lv_at hl 3 rfl) ?_
  refine lv_iconst (pc := 1632) (v := (1 : Int32)) hx hb dL_law_1632 (by decide) ?_
  refine lv_iadd (pc := 1633) hx hb dL_law_1633 ?_
  refine va_sld (pc := 1634) hx hb hX hbl hbA hS hi.1 dL_law_1634 ?_
  refine um_cVM (pc := 1635) (k := 0) (As := [.int (xs (v3 + 1).toNatClampNeg)]) (rest := [.int r]) Cx (c_X9_carries (xs (v3 + 1).toNatClampNeg) hfm) kV_X9_carries (Or.inl qM_L_190) hI.2.1 hS hAo (fun q h => hAn q (hI.2.1.old q h)) rfl rfl rfl hl rfl (Nat.le_of_ble_eq_true rfl) (Nat.le_of_ble_eq_true rfl) (Nat.le_of_ble_eq_true rfl) dL_law_1635 (by show cells ≤ 600000; omega) (by show slots ≤ 7302250; omega) (fun H2 locs2 hW2 z2 o2 hS2 => ?_)
  replace hI := hI.sm hW2 o2
  refine lv_icmp_eq (pc := 1638) (tgt := 2016) hx hb dL_law_1638 (by decide) (fun _ => ?_) (fun h => absurd rfl h)
  refine W.widen (k := cells + 3) (n := slots + 197) (by omega) (by omega) ?_
  exact kk _ _ _ _ _ _ hR' hI e0 hS2
set_option maxHeartbeats 4000000 in
theorem lw_c43 (F0' : lw_F p s m meth c args Z b L xs A) (hSim : sim_way R) (hi : lw_ix v3 L) (hR : R n σx σm) (hI : lw_I Z n αx αm σx σm H) (hS : va_S A s.heap H locs) (hl : lv_has ls 4 [(0, .ref b), (1, .ref (αx 0)), (2, .ref (αm 0)), (3, .int v3)]) (hcs : cells + 3 ≤ 600000) (hss : slots + 197 ≤ 7302250) (kk : lw_K p l e s m args below meth c Q Z R αx αm A ls cells slots) : W p l e room_1 s m args below meth c H locs cells slots Q (F0 m 1643 ls []) := by
  obtain ⟨Cx, hX, hbl, hbA, hAo, hAn⟩ := F0'
  have hx := Cx.1
  have hb := Cx.2.1
  obtain ⟨r, σx', σm', hfx, hfm, hR'⟩ := hSim n σx σm (xs (v3 + 1).toNatClampNeg) (xs (v3 + 2).toNatClampNeg) (xs (v3 + 3).toNatClampNeg) (xs (v3 + 4).toNatClampNeg) hR
  refine lv_aload_n (pc := 1643) hx hb dL_law_1643 rfl (lv_at hl 1 rfl) ?_
  refine lv_aload_n (pc := 1644) hx hb dL_law_1644 rfl (lv_at hl 0 rfl) ?_
  refine lv_iload_n (pc := 1645) hx hb dL_law_1645 rfl (lv_at hl 3 rfl) ?_
  refine lv_iconst (pc := 1646) (v := (1 : Int32)) hx hb dL_law_1646 (by decide) ?_
  refine lv_iadd (pc := 1647) hx hb dL_law_1647 ?_
  refine va_sld (pc := 1648) hx hb hX hbl hbA hS hi.1 dL_law_1648 ?_
  refine lv_aload_n (pc := 1649) hx hb dL_law_1649 rfl (lv_at hl 0 rfl) ?_
  refine lv_iload_n (pc := 1650) hx hb dL_law_1650 rfl (lv_at hl 3 rfl) ?_
  refine lv_iconst (pc := 1651) (v := (2 : Int32)) hx hb dL_law_1651 (by decide) ?_
  refine lv_iadd (pc := 1652) hx hb dL_law_1652 ?_
  refine va_sld (pc := 1653) hx hb hX hbl hbA hS hi.2.1 dL_law_1653 ?_
  refine lv_aload_n (pc := 1654) hx hb dL_law_1654 rfl (lv_at hl 0 rfl) ?_
  refine lv_iload_n (pc := 1655) hx hb dL_law_1655 rfl (lv_at hl 3 rfl) ?_
  refine lv_iconst (pc := 1656) (v := (3 : Int32)) hx hb dL_law_1656 (by decide) ?_
  refine lv_iadd (pc := 1657) hx hb dL_law_1657 ?_
  refine va_sld (pc := 1658) hx hb hX hbl hbA hS hi.2.2.1 dL_law_1658 ?_
  refine lv_aload_n (pc := 1659) hx hb dL_law_1659 rfl (lv_at hl 0 rfl) ?_
  refine lv_iload_n (pc := 1660) hx hb dL_law_1660 rfl (lv_at hl 3 rfl) ?_
  refine lv_iconst (pc := 1661) (v := (4 : Int32)) hx hb dL_law_1661 (by decide) ?_
  refine lv_iadd (pc := 1662) hx hb dL_law_1662 ?_
  refine va_sld (pc := 1663) hx hb hX hbl hbA hS hi.2.2.2.1 dL_law_1663 ?_
  refine um_cVM (pc := 1664) (k := 0) (As := [.int (xs (v3 + 1).toNatClampNeg), .int (xs (v3 + 2).toNatClampNeg), .int (xs (v3 + 3).toNatClampNeg), .int (xs (v3 + 4).toNatClampNeg)]) (rest := []) Cx (c_X8_way (xs (v3 + 1).toNatClampNeg) (xs (v3 + 2).toNatClampNeg) (xs (v3 + 3).toNatClampNeg) (xs (v3 + 4).toNatClampNeg) (xshn_X n) hfx) kV_X8_way (Or.inl qM_L_191) hI.1 hS hAo (fun q h => hAn q (hI.1.old q h)) (xshn_X n 0 _ rfl) rfl rfl hl rfl (Nat.le_of_ble_eq_true rfl) (Nat.le_of_ble_eq_true rfl) (Nat.le_of_ble_eq_true rfl) dL_law_1664 (by show cells ≤ 600000; omega) (by show slots ≤ 7302250; omega) (fun H1 locs1 hW1 z1 o1 hS1 => ?_)
  replace hI := hI.sx hW1 o1
  have e0 : αx 0 = αx 0 := rfl
  clear o1 hW1
  clear hS
  have hS := hS1
  clear hS1
  refine lv_aload_n (pc := 1667) hx hb dL_law_1667 rfl (lv_at hl 2 rfl) ?_
  refine lv_aload_n (pc := 1668) hx hb dL_law_1668 rfl (lv_at hl 0 rfl) ?_
  refine lv_iload_n (pc := 1669) hx hb dL_law_1669 rfl (lv_at hl 3 rfl) ?_
  refine lv_iconst (pc := 1670) (v := (1 : Int32)) hx hb dL_law_1670 (by decide) ?_
  refine lv_iadd (pc := 1671) hx hb dL_law_1671 ?_
  refine va_sld (pc := 1672) hx hb hX hbl hbA hS hi.1 dL_law_1672 ?_
  refine lv_aload_n (pc := 1673) hx hb dL_law_1673 rfl (lv_at hl 0 rfl) ?_
  refine lv_iload_n (pc := 1674) hx hb dL_law_1674 rfl (lv_at hl 3 rfl) ?_
  refine lv_iconst (pc := 1675) (v := (2 : Int32)) hx hb dL_law_1675 (by decide) ?_
  refine lv_iadd (pc := 1676) hx hb dL_law_1676 ?_
  refine va_sld (pc := 1677) hx hb hX hbl hbA hS hi.2.1 dL_law_1677 ?_
  refine lv_aload_n (pc := 1678) hx hb dL_law_1678 rfl (lv_at hl 0 rfl) ?_
  refine lv_iload_n (pc := 1679) hx hb dL_law_1679 rfl (lv_at hl 3 rfl) ?_
  refine lv_iconst (pc := 1680) (v := (3 : Int32)) hx hb dL_law_1680 (by decide) ?_
  refine lv_iadd (pc := 1681) hx hb dL_law_1681 ?_
  refine va_sld (pc := 1682) hx hb hX hbl hbA hS hi.2.2.1 dL_law_1682 ?_
  refine lv_aload_n (pc := 1683) hx hb dL_law_1683 rfl (lv_at hl 0 rfl) ?_
  refine lv_iload_n (pc := 1684) hx hb dL_law_1684 rfl (lv_at hl 3 rfl) ?_
  refine lv_iconst (pc := 1685) (v := (4 : Int32)) hx hb dL_law_1685 (by decide) ?_
  refine lv_iadd (pc := 1686) hx hb dL_law_1686 ?_
  refine va_sld (pc := 1687) hx hb hX hbl hbA hS hi.2.2.2.1 dL_law_1687 ?_
  refine um_cVM (pc := 1688) (k := 0) (As := [.int (xs (v3 + 1).toNatClampNeg), .int (xs (v3 + 2).toNatClampNeg), .int (xs (v3 + 3).toNatClampNeg), .int (xs (v3 + 4).toNatClampNeg)]) (rest := [.int r]) Cx (c_X9_way (xs (v3 + 1).toNatClampNeg) (xs (v3 + 2).toNatClampNeg) (xs (v3 + 3).toNatClampNeg) (xs (v3 + 4).toNatClampNeg) hfm) kV_X9_way (Or.inl qM_L_194) hI.2.1 hS hAo (fun q h => hAn q (hI.2.1.old q h)) rfl rfl rfl hl rfl (Nat.le_of_ble_eq_true rfl) (Nat.le_of_ble_eq_true rfl) (Nat.le_of_ble_eq_true rfl) dL_law_1688 (by show cells ≤ 600000; omega) (by show slots ≤ 7302250; omega) (fun H2 locs2 hW2 z2 o2 hS2 => ?_)
  replace hI := hI.sm hW2 o2
  refine lv_icmp_eq (pc := 1691) (tgt := 2016) hx hb dL_law_1691 (by decide) (fun _ => ?_) (fun h => absurd rfl h)
  refine W.widen (k := cells + 3) (n := slots + 197) (by omega) (by omega) ?_
  exact kk _ _ _ _ _ _ hR' hI e0 hS2
set_option maxHeartbeats 4000000 in
theorem lw_c44 (F0' : lw_F p s m meth c args Z b L xs A) (hSim : sim_plan R) (hi : lw_ix v3 L) (hR : R n σx σm) (hI : lw_I Z n αx αm σx σm H) (hS : va_S A s.heap H locs) (hl : lv_has ls 4 [(0, .ref b), (1, .ref (αx 0)), (2, .ref (αm 0)), (3, .int v3)]) (hcs : cells + 3 ≤ 600000) (hss : slots + 197 ≤ 7302250) (kk : lw_K p l e s m args below meth c Q Z R αx αm A ls cells slots) : W p l e room_1 s m args below meth c H locs cells slots Q (F0 m 1696 ls []) := by
  obtain ⟨Cx, hX, hbl, hbA, hAo, hAn⟩ := F0'
  have hx := Cx.1
  have hb := Cx.2.1
  obtain ⟨r, hfx, hfm, hR'⟩ := hSim n σx σm (xs (v3 + 1).toNatClampNeg) (xs (v3 + 2).toNatClampNeg) (xs (v3 + 3).toNatClampNeg) hR
  refine lv_aload_n (pc := 1696) hx hb dL_law_1696 rfl (lv_at hl 1 rfl) ?_
  refine lv_aload_n (pc := 1697) hx hb dL_law_1697 rfl (lv_at hl 0 rfl) ?_
  refine lv_iload_n (pc := 1698) hx hb dL_law_1698 rfl (lv_at hl 3 rfl) ?_
  refine lv_iconst (pc := 1699) (v := (1 : Int32)) hx hb dL_law_1699 (by decide) ?_
  refine lv_iadd (pc := 1700) hx hb dL_law_1700 ?_
  refine va_sld (pc := 1701) hx hb hX hbl hbA hS hi.1 dL_law_1701 ?_
  refine lv_aload_n (pc := 1702) hx hb dL_law_1702 rfl (lv_at hl 0 rfl) ?_
  refine lv_iload_n (pc := 1703) hx hb dL_law_1703 rfl (lv_at hl 3 rfl) ?_
  refine lv_iconst (pc := 1704) (v := (2 : Int32)) hx hb dL_law_1704 (by decide) ?_
  refine lv_iadd (pc := 1705) hx hb dL_law_1705 ?_
  refine va_sld (pc := 1706) hx hb hX hbl hbA hS hi.2.1 dL_law_1706 ?_
  refine lv_aload_n (pc := 1707) hx hb dL_law_1707 rfl (lv_at hl 0 rfl) ?_
  refine lv_iload_n (pc := 1708) hx hb dL_law_1708 rfl (lv_at hl 3 rfl) ?_
  refine lv_iconst (pc := 1709) (v := (3 : Int32)) hx hb dL_law_1709 (by decide) ?_
  refine lv_iadd (pc := 1710) hx hb dL_law_1710 ?_
  refine va_sld (pc := 1711) hx hb hX hbl hbA hS hi.2.2.1 dL_law_1711 ?_
  refine um_cVM (pc := 1712) (k := 0) (As := [.int (xs (v3 + 1).toNatClampNeg), .int (xs (v3 + 2).toNatClampNeg), .int (xs (v3 + 3).toNatClampNeg)]) (rest := []) Cx (c_X8_plan (xs (v3 + 1).toNatClampNeg) (xs (v3 + 2).toNatClampNeg) (xs (v3 + 3).toNatClampNeg) (xshn_X n) hfx) kV_X8_plan (Or.inl qM_L_195) hI.1 hS hAo (fun q h => hAn q (hI.1.old q h)) (xshn_X n 0 _ rfl) rfl rfl hl rfl (Nat.le_of_ble_eq_true rfl) (Nat.le_of_ble_eq_true rfl) (Nat.le_of_ble_eq_true rfl) dL_law_1712 (by show cells ≤ 600000; omega) (by show slots ≤ 7302250; omega) (fun H1 locs1 hW1 z1 o1 hS1 => ?_)
  replace hI := hI.sx hW1 o1
  have e0 : αx 0 = αx 0 := rfl
  clear o1 hW1
  clear hS
  have hS := hS1
  clear hS1
  refine lv_aload_n (pc := 1715) hx hb dL_law_1715 rfl (lv_at hl 2 rfl) ?_
  refine lv_aload_n (pc := 1716) hx hb dL_law_1716 rfl (lv_at hl 0 rfl) ?_
  refine lv_iload_n (pc := 1717) hx hb dL_law_1717 rfl (lv_at hl 3 rfl) ?_
  refine lv_iconst (pc := 1718) (v := (1 : Int32)) hx hb dL_law_1718 (by decide) ?_
  refine lv_iadd (pc := 1719) hx hb dL_law_1719 ?_
  refine va_sld (pc := 1720) hx hb hX hbl hbA hS hi.1 dL_law_1720 ?_
  refine lv_aload_n (pc := 1721) hx hb dL_law_1721 rfl (lv_at hl 0 rfl) ?_
  refine lv_iload_n (pc := 1722) hx hb dL_law_1722 rfl (lv_at hl 3 rfl) ?_
  refine lv_iconst (pc := 1723) (v := (2 : Int32)) hx hb dL_law_1723 (by decide) ?_
  refine lv_iadd (pc := 1724) hx hb dL_law_1724 ?_
  refine va_sld (pc := 1725) hx hb hX hbl hbA hS hi.2.1 dL_law_1725 ?_
  refine lv_aload_n (pc := 1726) hx hb dL_law_1726 rfl (lv_at hl 0 rfl) ?_
  refine lv_iload_n (pc := 1727) hx hb dL_law_1727 rfl (lv_at hl 3 rfl) ?_
  refine lv_iconst (pc := 1728) (v := (3 : Int32)) hx hb dL_law_1728 (by decide) ?_
  refine lv_iadd (pc := 1729) hx hb dL_law_1729 ?_
  refine va_sld (pc := 1730) hx hb hX hbl hbA hS hi.2.2.1 dL_law_1730 ?_
  refine um_cVM (pc := 1731) (k := 0) (As := [.int (xs (v3 + 1).toNatClampNeg), .int (xs (v3 + 2).toNatClampNeg), .int (xs (v3 + 3).toNatClampNeg)]) (rest := [.int r]) Cx (c_X9_plan (xs (v3 + 1).toNatClampNeg) (xs (v3 + 2).toNatClampNeg) (xs (v3 + 3).toNatClampNeg) hfm) kV_X9_plan (Or.inl qM_L_198) hI.2.1 hS hAo (fun q h => hAn q (hI.2.1.old q h)) rfl rfl rfl hl rfl (Nat.le_of_ble_eq_true rfl) (Nat.le_of_ble_eq_true rfl) (Nat.le_of_ble_eq_true rfl) dL_law_1731 (by show cells ≤ 600000; omega) (by show slots ≤ 7302250; omega) (fun H2 locs2 hW2 z2 o2 hS2 => ?_)
  replace hI := hI.sm hW2 o2
  refine lv_icmp_eq (pc := 1734) (tgt := 2016) hx hb dL_law_1734 (by decide) (fun _ => ?_) (fun h => absurd rfl h)
  refine W.widen (k := cells + 3) (n := slots + 197) (by omega) (by omega) ?_
  exact kk _ _ _ _ _ _ hR' hI e0 hS2
set_option maxHeartbeats 4000000 in
theorem lw_c45 (F0' : lw_F p s m meth c args Z b L xs A) (hSim : sim_muster R) (hi : lw_ix v3 L) (hR : R n σx σm) (hI : lw_I Z n αx αm σx σm H) (hS : va_S A s.heap H locs) (hl : lv_has ls 4 [(0, .ref b), (1, .ref (αx 0)), (2, .ref (αm 0)), (3, .int v3)]) (hcs : cells + 3 ≤ 600000) (hss : slots + 197 ≤ 7302250) (kk : lw_K p l e s m args below meth c Q Z R αx αm A ls cells slots) : W p l e room_1 s m args below meth c H locs cells slots Q (F0 m 1739 ls []) := by
  obtain ⟨Cx, hX, hbl, hbA, hAo, hAn⟩ := F0'
  have hx := Cx.1
  have hb := Cx.2.1
  obtain ⟨r, σx', σm', hfx, hfm, hR'⟩ := hSim n σx σm (xs (v3 + 1).toNatClampNeg) (xs (v3 + 2).toNatClampNeg) (xs (v3 + 3).toNatClampNeg) hR
  refine lv_aload_n (pc := 1739) hx hb dL_law_1739 rfl (lv_at hl 1 rfl) ?_
  refine lv_aload_n (pc := 1740) hx hb dL_law_1740 rfl (lv_at hl 0 rfl) ?_
  refine lv_iload_n (pc := 1741) hx hb dL_law_1741 rfl (lv_at hl 3 rfl) ?_
  refine lv_iconst (pc := 1742) (v := (1 : Int32)) hx hb dL_law_1742 (by decide) ?_
  refine lv_iadd (pc := 1743) hx hb dL_law_1743 ?_
  refine va_sld (pc := 1744) hx hb hX hbl hbA hS hi.1 dL_law_1744 ?_
  refine lv_aload_n (pc := 1745) hx hb dL_law_1745 rfl (lv_at hl 0 rfl) ?_
  refine lv_iload_n (pc := 1746) hx hb dL_law_1746 rfl (lv_at hl 3 rfl) ?_
  refine lv_iconst (pc := 1747) (v := (2 : Int32)) hx hb dL_law_1747 (by decide) ?_
  refine lv_iadd (pc := 1748) hx hb dL_law_1748 ?_
  refine va_sld (pc := 1749) hx hb hX hbl hbA hS hi.2.1 dL_law_1749 ?_
  refine lv_aload_n (pc := 1750) hx hb dL_law_1750 rfl (lv_at hl 0 rfl) ?_
  refine lv_iload_n (pc := 1751) hx hb dL_law_1751 rfl (lv_at hl 3 rfl) ?_
  refine lv_iconst (pc := 1752) (v := (3 : Int32)) hx hb dL_law_1752 (by decide) ?_
  refine lv_iadd (pc := 1753) hx hb dL_law_1753 ?_
  refine va_sld (pc := 1754) hx hb hX hbl hbA hS hi.2.2.1 dL_law_1754 ?_
  refine um_cVM (pc := 1755) (k := 0) (As := [.int (xs (v3 + 1).toNatClampNeg), .int (xs (v3 + 2).toNatClampNeg), .int (xs (v3 + 3).toNatClampNeg)]) (rest := []) Cx (c_X8_muster (xs (v3 + 1).toNatClampNeg) (xs (v3 + 2).toNatClampNeg) (xs (v3 + 3).toNatClampNeg) (xshn_X n) hfx) kV_X8_muster (Or.inl qM_L_199) hI.1 hS hAo (fun q h => hAn q (hI.1.old q h)) (xshn_X n 0 _ rfl) rfl rfl hl rfl (Nat.le_of_ble_eq_true rfl) (Nat.le_of_ble_eq_true rfl) (Nat.le_of_ble_eq_true rfl) dL_law_1755 (by show cells ≤ 600000; omega) (by show slots ≤ 7302250; omega) (fun H1 locs1 hW1 z1 o1 hS1 => ?_)
  replace hI := hI.sx hW1 o1
  have e0 : αx 0 = αx 0 := rfl
  clear o1 hW1
  clear hS
  have hS := hS1
  clear hS1
  refine lv_aload_n (pc := 1758) hx hb dL_law_1758 rfl (lv_at hl 2 rfl) ?_
  refine lv_aload_n (pc := 1759) hx hb dL_law_1759 rfl (lv_at hl 0 rfl) ?_
  refine lv_iload_n (pc := 1760) hx hb dL_law_1760 rfl (lv_at hl 3 rfl) ?_
  refine lv_iconst (pc := 1761) (v := (1 : Int32)) hx hb dL_law_1761 (by decide) ?_
  refine lv_iadd (pc := 1762) hx hb dL_law_1762 ?_
  refine va_sld (pc := 1763) hx hb hX hbl hbA hS hi.1 dL_law_1763 ?_
  refine lv_aload_n (pc := 1764) hx hb dL_law_1764 rfl (lv_at hl 0 rfl) ?_
  refine lv_iload_n (pc := 1765) hx hb dL_law_1765 rfl (lv_at hl 3 rfl) ?_
  refine lv_iconst (pc := 1766) (v := (2 : Int32)) hx hb dL_law_1766 (by decide) ?_
  refine lv_iadd (pc := 1767) hx hb dL_law_1767 ?_
  refine va_sld (pc := 1768) hx hb hX hbl hbA hS hi.2.1 dL_law_1768 ?_
  refine lv_aload_n (pc := 1769) hx hb dL_law_1769 rfl (lv_at hl 0 rfl) ?_
  refine lv_iload_n (pc := 1770) hx hb dL_law_1770 rfl (lv_at hl 3 rfl) ?_
  refine lv_iconst (pc := 1771) (v := (3 : Int32)) hx hb dL_law_1771 (by decide) ?_
  refine lv_iadd (pc := 1772) hx hb dL_law_1772 ?_
  refine va_sld (pc := 1773) hx hb hX hbl hbA hS hi.2.2.1 dL_law_1773 ?_
  refine um_cVM (pc := 1774) (k := 0) (As := [.int (xs (v3 + 1).toNatClampNeg), .int (xs (v3 + 2).toNatClampNeg), .int (xs (v3 + 3).toNatClampNeg)]) (rest := [.int r]) Cx (c_X9_muster (xs (v3 + 1).toNatClampNeg) (xs (v3 + 2).toNatClampNeg) (xs (v3 + 3).toNatClampNeg) hfm) kV_X9_muster (Or.inl qM_L_202) hI.2.1 hS hAo (fun q h => hAn q (hI.2.1.old q h)) rfl rfl rfl hl rfl (Nat.le_of_ble_eq_true rfl) (Nat.le_of_ble_eq_true rfl) (Nat.le_of_ble_eq_true rfl) dL_law_1774 (by show cells ≤ 600000; omega) (by show slots ≤ 7302250; omega) (fun H2 locs2 hW2 z2 o2 hS2 => ?_)
  replace hI := hI.sm hW2 o2
  refine lv_icmp_eq (pc := 1777) (tgt := 2016) hx hb dL_law_1777 (by decide) (fun _ => ?_) (fun h => absurd rfl h)
  refine W.widen (k := cells + 3) (n := slots + 197) (by omega) (by omega) ?_
  exact kk _ _ _ _ _ _ hR' hI e0 hS2
set_option maxHeartbeats 4000000 in
theorem lw_c46 (F0' : lw_F p s m meth c args Z b L xs A) (hSim : sim_put R) (hi : lw_ix v3 L) (hR : R n σx σm) (hI : lw_I Z n αx αm σx σm H) (hS : va_S A s.heap H locs) (hl : lv_has ls 4 [(0, .ref b), (1, .ref (αx 0)), (2, .ref (αm 0)), (3, .int v3)]) (hcs : cells + 3 ≤ 600000) (hss : slots + 197 ≤ 7302250) (kk : lw_K p l e s m args below meth c Q Z R αx αm A ls cells slots) : W p l e room_1 s m args below meth c H locs cells slots Q (F0 m 1782 ls []) := by
  obtain ⟨Cx, hX, hbl, hbA, hAo, hAn⟩ := F0'
  have hx := Cx.1
  have hb := Cx.2.1
  obtain ⟨r, σx', σm', hfx, hfm, hR'⟩ := hSim n σx σm (xs (v3 + 1).toNatClampNeg) (xs (v3 + 2).toNatClampNeg) (xs (v3 + 3).toNatClampNeg) hR
  refine lv_aload_n (pc := 1782) hx hb dL_law_1782 rfl (lv_at hl 1 rfl) ?_
  refine lv_aload_n (pc := 1783) hx hb dL_law_1783 rfl (lv_at hl 0 rfl) ?_
  refine lv_iload_n (pc := 1784) hx hb dL_law_1784 rfl (lv_at hl 3 rfl) ?_
  refine lv_iconst (pc := 1785) (v := (1 : Int32)) hx hb dL_law_1785 (by decide) ?_
  refine lv_iadd (pc := 1786) hx hb dL_law_1786 ?_
  refine va_sld (pc := 1787) hx hb hX hbl hbA hS hi.1 dL_law_1787 ?_
  refine lv_aload_n (pc := 1788) hx hb dL_law_1788 rfl (lv_at hl 0 rfl) ?_
  refine lv_iload_n (pc := 1789) hx hb dL_law_1789 rfl (lv_at hl 3 rfl) ?_
  refine lv_iconst (pc := 1790) (v := (2 : Int32)) hx hb dL_law_1790 (by decide) ?_
  refine lv_iadd (pc := 1791) hx hb dL_law_1791 ?_
  refine va_sld (pc := 1792) hx hb hX hbl hbA hS hi.2.1 dL_law_1792 ?_
  refine lv_aload_n (pc := 1793) hx hb dL_law_1793 rfl (lv_at hl 0 rfl) ?_
  refine lv_iload_n (pc := 1794) hx hb dL_law_1794 rfl (lv_at hl 3 rfl) ?_
  refine lv_iconst (pc := 1795) (v := (3 : Int32)) hx hb dL_law_1795 (by decide) ?_
  refine lv_iadd (pc := 1796) hx hb dL_law_1796 ?_
  refine va_sld (pc := 1797) hx hb hX hbl hbA hS hi.2.2.1 dL_law_1797 ?_
  refine um_cVM (pc := 1798) (k := 0) (As := [.int (xs (v3 + 1).toNatClampNeg), .int (xs (v3 + 2).toNatClampNeg), .int (xs (v3 + 3).toNatClampNeg)]) (rest := []) Cx (c_X8_put (xs (v3 + 1).toNatClampNeg) (xs (v3 + 2).toNatClampNeg) (xs (v3 + 3).toNatClampNeg) (xshn_X n) hfx) kV_X8_put (Or.inl qM_L_203) hI.1 hS hAo (fun q h => hAn q (hI.1.old q h)) (xshn_X n 0 _ rfl) rfl rfl hl rfl (Nat.le_of_ble_eq_true rfl) (Nat.le_of_ble_eq_true rfl) (Nat.le_of_ble_eq_true rfl) dL_law_1798 (by show cells ≤ 600000; omega) (by show slots ≤ 7302250; omega) (fun H1 locs1 hW1 z1 o1 hS1 => ?_)
  replace hI := hI.sx hW1 o1
  have e0 : αx 0 = αx 0 := rfl
  clear o1 hW1
  clear hS
  have hS := hS1
  clear hS1
  refine lv_aload_n (pc := 1801) hx hb dL_law_1801 rfl (lv_at hl 2 rfl) ?_
  refine lv_aload_n (pc := 1802) hx hb dL_law_1802 rfl (lv_at hl 0 rfl) ?_
  refine lv_iload_n (pc := 1803) hx hb dL_law_1803 rfl (lv_at hl 3 rfl) ?_
  refine lv_iconst (pc := 1804) (v := (1 : Int32)) hx hb dL_law_1804 (by decide) ?_
  refine lv_iadd (pc := 1805) hx hb dL_law_1805 ?_
  refine va_sld (pc := 1806) hx hb hX hbl hbA hS hi.1 dL_law_1806 ?_
  refine lv_aload_n (pc := 1807) hx hb dL_law_1807 rfl (lv_at hl 0 rfl) ?_
  refine lv_iload_n (pc := 1808) hx hb dL_law_1808 rfl (lv_at hl 3 rfl) ?_
  refine lv_iconst (pc := 1809) (v := (2 : Int32)) hx hb dL_law_1809 (by decide) ?_
  refine lv_iadd (pc := 1810) hx hb dL_law_1810 ?_
  refine va_sld (pc := 1811) hx hb hX hbl hbA hS hi.2.1 dL_law_1811 ?_
  refine lv_aload_n (pc := 1812) hx hb dL_law_1812 rfl (lv_at hl 0 rfl) ?_
  refine lv_iload_n (pc := 1813) hx hb dL_law_1813 rfl (lv_at hl 3 rfl) ?_
  refine lv_iconst (pc := 1814) (v := (3 : Int32)) hx hb dL_law_1814 (by decide) ?_
  refine lv_iadd (pc := 1815) hx hb dL_law_1815 ?_
  refine va_sld (pc := 1816) hx hb hX hbl hbA hS hi.2.2.1 dL_law_1816 ?_
  refine um_cVM (pc := 1817) (k := 0) (As := [.int (xs (v3 + 1).toNatClampNeg), .int (xs (v3 + 2).toNatClampNeg), .int (xs (v3 + 3).toNatClampNeg)]) (rest := [.int r]) Cx (c_X9_put (xs (v3 + 1).toNatClampNeg) (xs (v3 + 2).toNatClampNeg) (xs (v3 + 3).toNatClampNeg) hfm) kV_X9_put (Or.inl qM_L_206) hI.2.1 hS hAo (fun q h => hAn q (hI.2.1.old q h)) rfl rfl rfl hl rfl (Nat.le_of_ble_eq_true rfl) (Nat.le_of_ble_eq_true rfl) (Nat.le_of_ble_eq_true rfl) dL_law_1817 (by show cells ≤ 600000; omega) (by show slots ≤ 7302250; omega) (fun H2 locs2 hW2 z2 o2 hS2 => ?_)
  replace hI := hI.sm hW2 o2
  refine lv_icmp_eq (pc := 1820) (tgt := 2016) hx hb dL_law_1820 (by decide) (fun _ => ?_) (fun h => absurd rfl h)
  refine W.widen (k := cells + 3) (n := slots + 197) (by omega) (by omega) ?_
  exact kk _ _ _ _ _ _ hR' hI e0 hS2
set_option maxHeartbeats 4000000 in
theorem lw_c47 (F0' : lw_F p s m meth c args Z b L xs A) (hSim : sim_read R) (hi : lw_ix v3 L) (hR : R n σx σm) (hI : lw_I Z n αx αm σx σm H) (hS : va_S A s.heap H locs) (hl : lv_has ls 4 [(0, .ref b), (1, .ref (αx 0)), (2, .ref (αm 0)), (3, .int v3)]) (hcs : cells + 3 ≤ 600000) (hss : slots + 197 ≤ 7302250) (kk : lw_K p l e s m args below meth c Q Z R αx αm A ls cells slots) : W p l e room_1 s m args below meth c H locs cells slots Q (F0 m 1825 ls []) := by
  obtain ⟨Cx, hX, hbl, hbA, hAo, hAn⟩ := F0'
  have hx := Cx.1
  have hb := Cx.2.1
  obtain ⟨r, hfx, hfm, hR'⟩ := hSim n σx σm (xs (v3 + 1).toNatClampNeg) (xs (v3 + 2).toNatClampNeg) hR
  refine lv_aload_n (pc := 1825) hx hb dL_law_1825 rfl (lv_at hl 1 rfl) ?_
  refine lv_aload_n (pc := 1826) hx hb dL_law_1826 rfl (lv_at hl 0 rfl) ?_
  refine lv_iload_n (pc := 1827) hx hb dL_law_1827 rfl (lv_at hl 3 rfl) ?_
  refine lv_iconst (pc := 1828) (v := (1 : Int32)) hx hb dL_law_1828 (by decide) ?_
  refine lv_iadd (pc := 1829) hx hb dL_law_1829 ?_
  refine va_sld (pc := 1830) hx hb hX hbl hbA hS hi.1 dL_law_1830 ?_
  refine lv_aload_n (pc := 1831) hx hb dL_law_1831 rfl (lv_at hl 0 rfl) ?_
  refine lv_iload_n (pc := 1832) hx hb dL_law_1832 rfl (lv_at hl 3 rfl) ?_
  refine lv_iconst (pc := 1833) (v := (2 : Int32)) hx hb dL_law_1833 (by decide) ?_
  refine lv_iadd (pc := 1834) hx hb dL_law_1834 ?_
  refine va_sld (pc := 1835) hx hb hX hbl hbA hS hi.2.1 dL_law_1835 ?_
  refine um_cVM (pc := 1836) (k := 0) (As := [.int (xs (v3 + 1).toNatClampNeg), .int (xs (v3 + 2).toNatClampNeg)]) (rest := []) Cx (c_X8_read (xs (v3 + 1).toNatClampNeg) (xs (v3 + 2).toNatClampNeg) (xshn_X n) hfx) kV_X8_read (Or.inl qM_L_207) hI.1 hS hAo (fun q h => hAn q (hI.1.old q h)) (xshn_X n 0 _ rfl) rfl rfl hl rfl (Nat.le_of_ble_eq_true rfl) (Nat.le_of_ble_eq_true rfl) (Nat.le_of_ble_eq_true rfl) dL_law_1836 (by show cells ≤ 600000; omega) (by show slots ≤ 7302250; omega) (fun H1 locs1 hW1 z1 o1 hS1 => ?_)
  replace hI := hI.sx hW1 o1
  have e0 : αx 0 = αx 0 := rfl
  clear o1 hW1
  clear hS
  have hS := hS1
  clear hS1
  refine lv_aload_n (pc := 1839) hx hb dL_law_1839 rfl (lv_at hl 2 rfl) ?_
  refine lv_aload_n (pc := 1840) hx hb dL_law_1840 rfl (lv_at hl 0 rfl) ?_
  refine lv_iload_n (pc := 1841) hx hb dL_law_1841 rfl (lv_at hl 3 rfl) ?_
  refine lv_iconst (pc := 1842) (v := (1 : Int32)) hx hb dL_law_1842 (by decide) ?_
  refine lv_iadd (pc := 1843) hx hb dL_law_1843 ?_
  refine va_sld (pc := 1844) hx hb hX hbl hbA hS hi.1 dL_law_1844 ?_
  refine lv_aload_n (pc := 1845) hx hb dL_law_1845 rfl (lv_at hl 0 rfl) ?_
  refine lv_iload_n (pc := 1846) hx hb dL_law_1846 rfl (lv_at hl 3 rfl) ?_
  refine lv_iconst (pc := 1847) (v := (2 : Int32)) hx hb dL_law_1847 (by decide) ?_
  refine lv_iadd (pc := 1848) hx hb dL_law_1848 ?_
  refine va_sld (pc := 1849) hx hb hX hbl hbA hS hi.2.1 dL_law_1849 ?_
  refine um_cVM (pc := 1850) (k := 0) (As := [.int (xs (v3 + 1).toNatClampNeg), .int (xs (v3 + 2).toNatClampNeg)]) (rest := [.int r]) Cx (c_X9_read (xs (v3 + 1).toNatClampNeg) (xs (v3 + 2).toNatClampNeg) hfm) kV_X9_read (Or.inl qM_L_210) hI.2.1 hS hAo (fun q h => hAn q (hI.2.1.old q h)) rfl rfl rfl hl rfl (Nat.le_of_ble_eq_true rfl) (Nat.le_of_ble_eq_true rfl) (Nat.le_of_ble_eq_true rfl) dL_law_1850 (by show cells ≤ 600000; omega) (by show slots ≤ 7302250; omega) (fun H2 locs2 hW2 z2 o2 hS2 => ?_)
  replace hI := hI.sm hW2 o2
  refine lv_icmp_eq (pc := 1853) (tgt := 2016) hx hb dL_law_1853 (by decide) (fun _ => ?_) (fun h => absurd rfl h)
  refine W.widen (k := cells + 3) (n := slots + 197) (by omega) (by omega) ?_
  exact kk _ _ _ _ _ _ hR' hI e0 hS2
set_option maxHeartbeats 4000000 in
theorem lw_c48 (F0' : lw_F p s m meth c args Z b L xs A) (hSim : sim_copy R) (hi : lw_ix v3 L) (hR : R n σx σm) (hI : lw_I Z n αx αm σx σm H) (hS : va_S A s.heap H locs) (hl : lv_has ls 4 [(0, .ref b), (1, .ref (αx 0)), (2, .ref (αm 0)), (3, .int v3)]) (hcs : cells + 3 ≤ 600000) (hss : slots + 197 ≤ 7302250) (kk : lw_K p l e s m args below meth c Q Z R αx αm A ls cells slots) : W p l e room_1 s m args below meth c H locs cells slots Q (F0 m 1858 ls []) := by
  obtain ⟨Cx, hX, hbl, hbA, hAo, hAn⟩ := F0'
  have hx := Cx.1
  have hb := Cx.2.1
  obtain ⟨r, σx', σm', hfx, hfm, hR'⟩ := hSim n σx σm (xs (v3 + 1).toNatClampNeg) (xs (v3 + 2).toNatClampNeg) (xs (v3 + 3).toNatClampNeg) (xs (v3 + 4).toNatClampNeg) (xs (v3 + 5).toNatClampNeg) hR
  refine lv_aload_n (pc := 1858) hx hb dL_law_1858 rfl (lv_at hl 1 rfl) ?_
  refine lv_aload_n (pc := 1859) hx hb dL_law_1859 rfl (lv_at hl 0 rfl) ?_
  refine lv_iload_n (pc := 1860) hx hb dL_law_1860 rfl (lv_at hl 3 rfl) ?_
  refine lv_iconst (pc := 1861) (v := (1 : Int32)) hx hb dL_law_1861 (by decide) ?_
  refine lv_iadd (pc := 1862) hx hb dL_law_1862 ?_
  refine va_sld (pc := 1863) hx hb hX hbl hbA hS hi.1 dL_law_1863 ?_
  refine lv_aload_n (pc := 1864) hx hb dL_law_1864 rfl (lv_at hl 0 rfl) ?_
  refine lv_iload_n (pc := 1865) hx hb dL_law_1865 rfl (lv_at hl 3 rfl) ?_
  refine lv_iconst (pc := 1866) (v := (2 : Int32)) hx hb dL_law_1866 (by decide) ?_
  refine lv_iadd (pc := 1867) hx hb dL_law_1867 ?_
  refine va_sld (pc := 1868) hx hb hX hbl hbA hS hi.2.1 dL_law_1868 ?_
  refine lv_aload_n (pc := 1869) hx hb dL_law_1869 rfl (lv_at hl 0 rfl) ?_
  refine lv_iload_n (pc := 1870) hx hb dL_law_1870 rfl (lv_at hl 3 rfl) ?_
  refine lv_iconst (pc := 1871) (v := (3 : Int32)) hx hb dL_law_1871 (by decide) ?_
  refine lv_iadd (pc := 1872) hx hb dL_law_1872 ?_
  refine va_sld (pc := 1873) hx hb hX hbl hbA hS hi.2.2.1 dL_law_1873 ?_
  refine lv_aload_n (pc := 1874) hx hb dL_law_1874 rfl (lv_at hl 0 rfl) ?_
  refine lv_iload_n (pc := 1875) hx hb dL_law_1875 rfl (lv_at hl 3 rfl) ?_
  refine lv_iconst (pc := 1876) (v := (4 : Int32)) hx hb dL_law_1876 (by decide) ?_
  refine lv_iadd (pc := 1877) hx hb dL_law_1877 ?_
  refine va_sld (pc := 1878) hx hb hX hbl hbA hS hi.2.2.2.1 dL_law_1878 ?_
  refine lv_aload_n (pc := 1879) hx hb dL_law_1879 rfl (lv_at hl 0 rfl) ?_
  refine lv_iload_n (pc := 1880) hx hb dL_law_1880 rfl (lv_at hl 3 rfl) ?_
  refine lv_iconst (pc := 1881) (v := (5 : Int32)) hx hb dL_law_1881 (by decide) ?_
  refine lv_iadd (pc := 1882) hx hb dL_law_1882 ?_
  refine va_sld (pc := 1883) hx hb hX hbl hbA hS hi.2.2.2.2 dL_law_1883 ?_
  refine um_cVM (pc := 1884) (k := 0) (As := [.int (xs (v3 + 1).toNatClampNeg), .int (xs (v3 + 2).toNatClampNeg), .int (xs (v3 + 3).toNatClampNeg), .int (xs (v3 + 4).toNatClampNeg), .int (xs (v3 + 5).toNatClampNeg)]) (rest := []) Cx (c_X8_copy (xs (v3 + 1).toNatClampNeg) (xs (v3 + 2).toNatClampNeg) (xs (v3 + 3).toNatClampNeg) (xs (v3 + 4).toNatClampNeg) (xs (v3 + 5).toNatClampNeg) (xshn_X n) hfx) kV_X8_copy (Or.inl qM_L_211) hI.1 hS hAo (fun q h => hAn q (hI.1.old q h)) (xshn_X n 0 _ rfl) rfl rfl hl rfl (Nat.le_of_ble_eq_true rfl) (Nat.le_of_ble_eq_true rfl) (Nat.le_of_ble_eq_true rfl) dL_law_1884 (by show cells ≤ 600000; omega) (by show slots ≤ 7302250; omega) (fun H1 locs1 hW1 z1 o1 hS1 => ?_)
  replace hI := hI.sx hW1 o1
  have e0 : αx 0 = αx 0 := rfl
  clear o1 hW1
  clear hS
  have hS := hS1
  clear hS1
  refine lv_aload_n (pc := 1887) hx hb dL_law_1887 rfl (lv_at hl 2 rfl) ?_
  refine lv_aload_n (pc := 1888) hx hb dL_law_1888 rfl (lv_at hl 0 rfl) ?_
  refine lv_iload_n (pc := 1889) hx hb dL_law_1889 rfl (lv_at hl 3 rfl) ?_
  refine lv_iconst (pc := 1890) (v := (1 : Int32)) hx hb dL_law_1890 (by decide) ?_
  refine lv_iadd (pc := 1891) hx hb dL_law_1891 ?_
  refine va_sld (pc := 1892) hx hb hX hbl hbA hS hi.1 dL_law_1892 ?_
  refine lv_aload_n (pc := 1893) hx hb dL_law_1893 rfl (lv_at hl 0 rfl) ?_
  refine lv_iload_n (pc := 1894) hx hb dL_law_1894 rfl (lv_at hl 3 rfl) ?_
  refine lv_iconst (pc := 1895) (v := (2 : Int32)) hx hb dL_law_1895 (by decide) ?_
  refine lv_iadd (pc := 1896) hx hb dL_law_1896 ?_
  refine va_sld (pc := 1897) hx hb hX hbl hbA hS hi.2.1 dL_law_1897 ?_
  refine lv_aload_n (pc := 1898) hx hb dL_law_1898 rfl (lv_at hl 0 rfl) ?_
  refine lv_iload_n (pc := 1899) hx hb dL_law_1899 rfl (lv_at hl 3 rfl) ?_
  refine lv_iconst (pc := 1900) (v := (3 : Int32)) hx hb dL_law_1900 (by decide) ?_
  refine lv_iadd (pc := 1901) hx hb dL_law_1901 ?_
  refine va_sld (pc := 1902) hx hb hX hbl hbA hS hi.2.2.1 dL_law_1902 ?_
  refine lv_aload_n (pc := 1903) hx hb dL_law_1903 rfl (lv_at hl 0 rfl) ?_
  refine lv_iload_n (pc := 1904) hx hb dL_law_1904 rfl (lv_at hl 3 rfl) ?_
  refine lv_iconst (pc := 1905) (v := (4 : Int32)) hx hb dL_law_1905 (by decide) ?_
  refine lv_iadd (pc := 1906) hx hb dL_law_1906 ?_
  refine va_sld (pc := 1907) hx hb hX hbl hbA hS hi.2.2.2.1 dL_law_1907 ?_
  refine lv_aload_n (pc := 1908) hx hb dL_law_1908 rfl (lv_at hl 0 rfl) ?_
  refine lv_iload_n (pc := 1909) hx hb dL_law_1909 rfl (lv_at hl 3 rfl) ?_
  refine lv_iconst (pc := 1910) (v := (5 : Int32)) hx hb dL_law_1910 (by decide) ?_
  refine lv_iadd (pc := 1911) hx hb dL_law_1911 ?_
  refine va_sld (pc := 1912) hx hb hX hbl hbA hS hi.2.2.2.2 dL_law_1912 ?_
  refine um_cVM (pc := 1913) (k := 0) (As := [.int (xs (v3 + 1).toNatClampNeg), .int (xs (v3 + 2).toNatClampNeg), .int (xs (v3 + 3).toNatClampNeg), .int (xs (v3 + 4).toNatClampNeg), .int (xs (v3 + 5).toNatClampNeg)]) (rest := [.int r]) Cx (c_X9_copy (xs (v3 + 1).toNatClampNeg) (xs (v3 + 2).toNatClampNeg) (xs (v3 + 3).toNatClampNeg) (xs (v3 + 4).toNatClampNeg) (xs (v3 + 5).toNatClampNeg) hfm) kV_X9_copy (Or.inl qM_L_214) hI.2.1 hS hAo (fun q h => hAn q (hI.2.1.old q h)) rfl rfl rfl hl rfl (Nat.le_of_ble_eq_true rfl) (Nat.le_of_ble_eq_true rfl) (Nat.le_of_ble_eq_true rfl) dL_law_1913 (by show cells ≤ 600000; omega) (by show slots ≤ 7302250; omega) (fun H2 locs2 hW2 z2 o2 hS2 => ?_)
  replace hI := hI.sm hW2 o2
  refine lv_icmp_eq (pc := 1916) (tgt := 2016) hx hb dL_law_1916 (by decide) (fun _ => ?_) (fun h => absurd rfl h)
  refine W.widen (k := cells + 3) (n := slots + 197) (by omega) (by omega) ?_
  exact kk _ _ _ _ _ _ hR' hI e0 hS2
set_option maxHeartbeats 4000000 in
theorem lw_c49 (F0' : lw_F p s m meth c args Z b L xs A) (hSim : sim_tell R) (hi : lw_ix v3 L) (hR : R n σx σm) (hI : lw_I Z n αx αm σx σm H) (hS : va_S A s.heap H locs) (hl : lv_has ls 4 [(0, .ref b), (1, .ref (αx 0)), (2, .ref (αm 0)), (3, .int v3)]) (hcs : cells + 3 ≤ 600000) (hss : slots + 197 ≤ 7302250) (kk : lw_K p l e s m args below meth c Q Z R αx αm A ls cells slots) : W p l e room_1 s m args below meth c H locs cells slots Q (F0 m 1921 ls []) := by
  obtain ⟨Cx, hX, hbl, hbA, hAo, hAn⟩ := F0'
  have hx := Cx.1
  have hb := Cx.2.1
  obtain ⟨r, σx', σm', hfx, hfm, hR'⟩ := hSim n σx σm (xs (v3 + 1).toNatClampNeg) hR
  refine lv_aload_n (pc := 1921) hx hb dL_law_1921 rfl (lv_at hl 1 rfl) ?_
  refine lv_aload_n (pc := 1922) hx hb dL_law_1922 rfl (lv_at hl 0 rfl) ?_
  refine lv_iload_n (pc := 1923) hx hb dL_law_1923 rfl (lv_at hl 3 rfl) ?_
  refine lv_iconst (pc := 1924) (v := (1 : Int32)) hx hb dL_law_1924 (by decide) ?_
  refine lv_iadd (pc := 1925) hx hb dL_law_1925 ?_
  refine va_sld (pc := 1926) hx hb hX hbl hbA hS hi.1 dL_law_1926 ?_
  refine um_cVM (pc := 1927) (k := 0) (As := [.int (xs (v3 + 1).toNatClampNeg)]) (rest := []) Cx (c_X8_tell (xs (v3 + 1).toNatClampNeg) (xshn_X n) hfx) kV_X8_tell (Or.inl qM_L_215) hI.1 hS hAo (fun q h => hAn q (hI.1.old q h)) (xshn_X n 0 _ rfl) rfl rfl hl rfl (Nat.le_of_ble_eq_true rfl) (Nat.le_of_ble_eq_true rfl) (Nat.le_of_ble_eq_true rfl) dL_law_1927 (by show cells ≤ 600000; omega) (by show slots ≤ 7302250; omega) (fun H1 locs1 hW1 z1 o1 hS1 => ?_)
  replace hI := hI.sx hW1 o1
  have e0 : αx 0 = αx 0 := rfl
  clear o1 hW1
  clear hS
  have hS := hS1
  clear hS1
  refine lv_aload_n (pc := 1930) hx hb dL_law_1930 rfl (lv_at hl 2 rfl) ?_
  refine lv_aload_n (pc := 1931) hx hb dL_law_1931 rfl (lv_at hl 0 rfl) ?_
  refine lv_iload_n (pc := 1932) hx hb dL_law_1932 rfl (lv_at hl 3 rfl) ?_
  refine lv_iconst (pc := 1933) (v := (1 : Int32)) hx hb dL_law_1933 (by decide) ?_
  refine lv_iadd (pc := 1934) hx hb dL_law_1934 ?_
  refine va_sld (pc := 1935) hx hb hX hbl hbA hS hi.1 dL_law_1935 ?_
  refine um_cVM (pc := 1936) (k := 0) (As := [.int (xs (v3 + 1).toNatClampNeg)]) (rest := [.int r]) Cx (c_X9_tell (xs (v3 + 1).toNatClampNeg) hfm) kV_X9_tell (Or.inl qM_L_218) hI.2.1 hS hAo (fun q h => hAn q (hI.2.1.old q h)) rfl rfl rfl hl rfl (Nat.le_of_ble_eq_true rfl) (Nat.le_of_ble_eq_true rfl) (Nat.le_of_ble_eq_true rfl) dL_law_1936 (by show cells ≤ 600000; omega) (by show slots ≤ 7302250; omega) (fun H2 locs2 hW2 z2 o2 hS2 => ?_)
  replace hI := hI.sm hW2 o2
  refine lv_icmp_eq (pc := 1939) (tgt := 2016) hx hb dL_law_1939 (by decide) (fun _ => ?_) (fun h => absurd rfl h)
  refine W.widen (k := cells + 3) (n := slots + 197) (by omega) (by omega) ?_
  exact kk _ _ _ _ _ _ hR' hI e0 hS2
set_option maxHeartbeats 4000000 in
theorem lw_c50 (F0' : lw_F p s m meth c args Z b L xs A) (hSim : sim_check R) (hi : lw_ix v3 L) (hR : R n σx σm) (hI : lw_I Z n αx αm σx σm H) (hS : va_S A s.heap H locs) (hl : lv_has ls 4 [(0, .ref b), (1, .ref (αx 0)), (2, .ref (αm 0)), (3, .int v3)]) (hcs : cells + 3 ≤ 600000) (hss : slots + 197 ≤ 7302250) (kk : lw_K p l e s m args below meth c Q Z R αx αm A ls cells slots) : W p l e room_1 s m args below meth c H locs cells slots Q (F0 m 1944 ls []) := by
  obtain ⟨Cx, hX, hbl, hbA, hAo, hAn⟩ := F0'
  have hx := Cx.1
  have hb := Cx.2.1
  obtain ⟨r, σx', σm', hfx, hfm, hR'⟩ := hSim n σx σm (xs (v3 + 1).toNatClampNeg) hR
  refine lv_aload_n (pc := 1944) hx hb dL_law_1944 rfl (lv_at hl 1 rfl) ?_
  refine lv_aload_n (pc := 1945) hx hb dL_law_1945 rfl (lv_at hl 0 rfl) ?_
  refine lv_iload_n (pc := 1946) hx hb dL_law_1946 rfl (lv_at hl 3 rfl) ?_
  refine lv_iconst (pc := 1947) (v := (1 : Int32)) hx hb dL_law_1947 (by decide) ?_
  refine lv_iadd (pc := 1948) hx hb dL_law_1948 ?_
  refine va_sld (pc := 1949) hx hb hX hbl hbA hS hi.1 dL_law_1949 ?_
  refine um_cVM (pc := 1950) (k := 0) (As := [.int (xs (v3 + 1).toNatClampNeg)]) (rest := []) Cx (c_X8_check (xs (v3 + 1).toNatClampNeg) (xshn_X n) hfx) kV_X8_check (Or.inl qM_L_219) hI.1 hS hAo (fun q h => hAn q (hI.1.old q h)) (xshn_X n 0 _ rfl) rfl rfl hl rfl (Nat.le_of_ble_eq_true rfl) (Nat.le_of_ble_eq_true rfl) (Nat.le_of_ble_eq_true rfl) dL_law_1950 (by show cells ≤ 600000; omega) (by show slots ≤ 7302250; omega) (fun H1 locs1 hW1 z1 o1 hS1 => ?_)
  replace hI := hI.sx hW1 o1
  have e0 : αx 0 = αx 0 := rfl
  clear o1 hW1
  clear hS
  have hS := hS1
  clear hS1
  refine lv_aload_n (pc := 1953) hx hb dL_law_1953 rfl (lv_at hl 2 rfl) ?_
  refine lv_aload_n (pc := 1954) hx hb dL_law_1954 rfl (lv_at hl 0 rfl) ?_
  refine lv_iload_n (pc := 1955) hx hb dL_law_1955 rfl (lv_at hl 3 rfl) ?_
  refine lv_iconst (pc := 1956) (v := (1 : Int32)) hx hb dL_law_1956 (by decide) ?_
  refine lv_iadd (pc := 1957) hx hb dL_law_1957 ?_
  refine va_sld (pc := 1958) hx hb hX hbl hbA hS hi.1 dL_law_1958 ?_
  refine um_cVM (pc := 1959) (k := 0) (As := [.int (xs (v3 + 1).toNatClampNeg)]) (rest := [.int r]) Cx (c_X9_check (xs (v3 + 1).toNatClampNeg) hfm) kV_X9_check (Or.inl qM_L_222) hI.2.1 hS hAo (fun q h => hAn q (hI.2.1.old q h)) rfl rfl rfl hl rfl (Nat.le_of_ble_eq_true rfl) (Nat.le_of_ble_eq_true rfl) (Nat.le_of_ble_eq_true rfl) dL_law_1959 (by show cells ≤ 600000; omega) (by show slots ≤ 7302250; omega) (fun H2 locs2 hW2 z2 o2 hS2 => ?_)
  replace hI := hI.sm hW2 o2
  refine lv_icmp_eq (pc := 1962) (tgt := 2016) hx hb dL_law_1962 (by decide) (fun _ => ?_) (fun h => absurd rfl h)
  refine W.widen (k := cells + 3) (n := slots + 197) (by omega) (by omega) ?_
  exact kk _ _ _ _ _ _ hR' hI e0 hS2
set_option maxHeartbeats 4000000 in
theorem lw_c51 (F0' : lw_F p s m meth c args Z b L xs A) (hSim : sim_keep R) (hi : lw_ix v3 L) (hR : R n σx σm) (hI : lw_I Z n αx αm σx σm H) (hS : va_S A s.heap H locs) (hl : lv_has ls 4 [(0, .ref b), (1, .ref (αx 0)), (2, .ref (αm 0)), (3, .int v3)]) (hcs : cells + 3 ≤ 600000) (hss : slots + 197 ≤ 7302250) (kk : lw_K p l e s m args below meth c Q Z R αx αm A ls cells slots) : W p l e room_1 s m args below meth c H locs cells slots Q (F0 m 1967 ls []) := by
  obtain ⟨Cx, hX, hbl, hbA, hAo, hAn⟩ := F0'
  have hx := Cx.1
  have hb := Cx.2.1
  obtain ⟨r, σx', σm', hfx, hfm, hR'⟩ := hSim n σx σm hR
  refine lv_aload_n (pc := 1967) hx hb dL_law_1967 rfl (lv_at hl 1 rfl) ?_
  refine um_cVM (pc := 1968) (k := 0) (As := []) (rest := []) Cx (c_X8_keep (xshn_X n) hfx) kV_X8_keep (Or.inl qM_L_223) hI.1 hS hAo (fun q h => hAn q (hI.1.old q h)) (xshn_X n 0 _ rfl) rfl rfl hl rfl (Nat.le_of_ble_eq_true rfl) (Nat.le_of_ble_eq_true rfl) (Nat.le_of_ble_eq_true rfl) dL_law_1968 (by show cells ≤ 600000; omega) (by show slots ≤ 7302250; omega) (fun H1 locs1 hW1 z1 o1 hS1 => ?_)
  replace hI := hI.sx hW1 o1
  have e0 : αx 0 = αx 0 := rfl
  clear o1 hW1
  clear hS
  have hS := hS1
  clear hS1
  refine lv_aload_n (pc := 1971) hx hb dL_law_1971 rfl (lv_at hl 2 rfl) ?_
  refine um_cVM (pc := 1972) (k := 0) (As := []) (rest := [.int r]) Cx (c_X9_keep hfm) kV_X9_keep (Or.inl qM_L_226) hI.2.1 hS hAo (fun q h => hAn q (hI.2.1.old q h)) rfl rfl rfl hl rfl (Nat.le_of_ble_eq_true rfl) (Nat.le_of_ble_eq_true rfl) (Nat.le_of_ble_eq_true rfl) dL_law_1972 (by show cells ≤ 600000; omega) (by show slots ≤ 7302250; omega) (fun H2 locs2 hW2 z2 o2 hS2 => ?_)
  replace hI := hI.sm hW2 o2
  refine lv_icmp_eq (pc := 1975) (tgt := 2016) hx hb dL_law_1975 (by decide) (fun _ => ?_) (fun h => absurd rfl h)
  refine W.widen (k := cells + 3) (n := slots + 197) (by omega) (by omega) ?_
  exact kk _ _ _ _ _ _ hR' hI e0 hS2
set_option maxHeartbeats 4000000 in
theorem lw_c52 (F0' : lw_F p s m meth c args Z b L xs A) (hSim : sim_again R) (hi : lw_ix v3 L) (hR : R n σx σm) (hI : lw_I Z n αx αm σx σm H) (hS : va_S A s.heap H locs) (hl : lv_has ls 4 [(0, .ref b), (1, .ref (αx 0)), (2, .ref (αm 0)), (3, .int v3)]) (hcs : cells + 3 ≤ 600000) (hss : slots + 197 ≤ 7302250) (kk : lw_K p l e s m args below meth c Q Z R αx αm A ls cells slots) : W p l e room_1 s m args below meth c H locs cells slots Q (F0 m 1980 ls []) := by
  obtain ⟨Cx, hX, hbl, hbA, hAo, hAn⟩ := F0'
  have hx := Cx.1
  have hb := Cx.2.1
  obtain ⟨r, σx', σm', hfx, hfm, hR'⟩ := hSim n σx σm hR
  refine lv_aload_n (pc := 1980) hx hb dL_law_1980 rfl (lv_at hl 1 rfl) ?_
  refine um_cVM (pc := 1981) (k := 0) (As := []) (rest := []) Cx (c_X8_again (xshn_X n) hfx) kV_X8_again (Or.inl qM_L_227) hI.1 hS hAo (fun q h => hAn q (hI.1.old q h)) (xshn_X n 0 _ rfl) rfl rfl hl rfl (Nat.le_of_ble_eq_true rfl) (Nat.le_of_ble_eq_true rfl) (Nat.le_of_ble_eq_true rfl) dL_law_1981 (by show cells ≤ 600000; omega) (by show slots ≤ 7302250; omega) (fun H1 locs1 hW1 z1 o1 hS1 => ?_)
  replace hI := hI.sx hW1 o1
  have e0 : αx 0 = αx 0 := rfl
  clear o1 hW1
  clear hS
  have hS := hS1
  clear hS1
  refine lv_aload_n (pc := 1984) hx hb dL_law_1984 rfl (lv_at hl 2 rfl) ?_
  refine um_cVM (pc := 1985) (k := 0) (As := []) (rest := [.int r]) Cx (c_X9_again hfm) kV_X9_again (Or.inl qM_L_230) hI.2.1 hS hAo (fun q h => hAn q (hI.2.1.old q h)) rfl rfl rfl hl rfl (Nat.le_of_ble_eq_true rfl) (Nat.le_of_ble_eq_true rfl) (Nat.le_of_ble_eq_true rfl) dL_law_1985 (by show cells ≤ 600000; omega) (by show slots ≤ 7302250; omega) (fun H2 locs2 hW2 z2 o2 hS2 => ?_)
  replace hI := hI.sm hW2 o2
  refine lv_icmp_eq (pc := 1988) (tgt := 2016) hx hb dL_law_1988 (by decide) (fun _ => ?_) (fun h => absurd rfl h)
  refine W.widen (k := cells + 3) (n := slots + 197) (by omega) (by omega) ?_
  exact kk _ _ _ _ _ _ hR' hI e0 hS2
set_option maxHeartbeats 4000000 in
theorem lw_c53 (F0' : lw_F p s m meth c args Z b L xs A) (hSim : sim_count R) (hi : lw_ix v3 L) (hR : R n σx σm) (hI : lw_I Z n αx αm σx σm H) (hS : va_S A s.heap H locs) (hl : lv_has ls 4 [(0, .ref b), (1, .ref (αx 0)), (2, .ref (αm 0)), (3, .int v3)]) (hcs : cells + 3 ≤ 600000) (hss : slots + 197 ≤ 7302250) (kk : lw_K p l e s m args below meth c Q Z R αx αm A ls cells slots) : W p l e room_1 s m args below meth c H locs cells slots Q (F0 m 1993 ls []) := by
  obtain ⟨Cx, hX, hbl, hbA, hAo, hAn⟩ := F0'
  have hx := Cx.1
  have hb := Cx.2.1
  obtain ⟨r, hfx, hfm, hR'⟩ := hSim n σx σm (xs (v3 + 1).toNatClampNeg) hR
  refine lv_aload_n (pc := 1993) hx hb dL_law_1993 rfl (lv_at hl 1 rfl) ?_
  refine lv_aload_n (pc := 1994) hx hb dL_law_1994 rfl (lv_at hl 0 rfl) ?_
  refine lv_iload_n (pc := 1995) hx hb dL_law_1995 rfl (lv_at hl 3 rfl) ?_
  refine lv_iconst (pc := 1996) (v := (1 : Int32)) hx hb dL_law_1996 (by decide) ?_
  refine lv_iadd (pc := 1997) hx hb dL_law_1997 ?_
  refine va_sld (pc := 1998) hx hb hX hbl hbA hS hi.1 dL_law_1998 ?_
  refine um_cVM (pc := 1999) (k := 0) (As := [.int (xs (v3 + 1).toNatClampNeg)]) (rest := []) Cx (c_X8_count (xs (v3 + 1).toNatClampNeg) (xshn_X n) hfx) kV_X8_count (Or.inl qM_L_231) hI.1 hS hAo (fun q h => hAn q (hI.1.old q h)) (xshn_X n 0 _ rfl) rfl rfl hl rfl (Nat.le_of_ble_eq_true rfl) (Nat.le_of_ble_eq_true rfl) (Nat.le_of_ble_eq_true rfl) dL_law_1999 (by show cells ≤ 600000; omega) (by show slots ≤ 7302250; omega) (fun H1 locs1 hW1 z1 o1 hS1 => ?_)
  replace hI := hI.sx hW1 o1
  have e0 : αx 0 = αx 0 := rfl
  clear o1 hW1
  clear hS
  have hS := hS1
  clear hS1
  refine lv_aload_n (pc := 2002) hx hb dL_law_2002 rfl (lv_at hl 2 rfl) ?_
  refine lv_aload_n (pc := 2003) hx hb dL_law_2003 rfl (lv_at hl 0 rfl) ?_
  refine lv_iload_n (pc := 2004) hx hb dL_law_2004 rfl (lv_at hl 3 rfl) ?_
  refine lv_iconst (pc := 2005) (v := (1 : Int32)) hx hb dL_law_2005 (by decide) ?_
  refine lv_iadd (pc := 2006) hx hb dL_law_2006 ?_
  refine va_sld (pc := 2007) hx hb hX hbl hbA hS hi.1 dL_law_2007 ?_
  refine um_cVM (pc := 2008) (k := 0) (As := [.int (xs (v3 + 1).toNatClampNeg)]) (rest := [.int r]) Cx (c_X9_count (xs (v3 + 1).toNatClampNeg) hfm) kV_X9_count (Or.inl qM_L_234) hI.2.1 hS hAo (fun q h => hAn q (hI.2.1.old q h)) rfl rfl rfl hl rfl (Nat.le_of_ble_eq_true rfl) (Nat.le_of_ble_eq_true rfl) (Nat.le_of_ble_eq_true rfl) dL_law_2008 (by show cells ≤ 600000; omega) (by show slots ≤ 7302250; omega) (fun H2 locs2 hW2 z2 o2 hS2 => ?_)
  replace hI := hI.sm hW2 o2
  refine lv_icmp_eq (pc := 2011) (tgt := 2016) hx hb dL_law_2011 (by decide) (fun _ => ?_) (fun h => absurd rfl h)
  refine W.widen (k := cells + 3) (n := slots + 197) (by omega) (by omega) ?_
  exact kk _ _ _ _ _ _ hR' hI e0 hS2
end LWC
