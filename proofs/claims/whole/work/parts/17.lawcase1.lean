set_option maxRecDepth 100000 in
set_option maxHeartbeats 4000000 in
theorem case_bar {p : Program} {l : Launch} {e : Env} {s : State} {m : MethodId} {below : List Frame} {meth : Method} {c : Code} {D : va_G} {G : sx_G} {A : Nat → Prop} {b1 b2 bo bs L cl sl : Nat} {xs : Nat → Int32} {Q : State → Prop} {f g : sx_F} {o : Nat → Int64} {i : Int32} {K : sx_F → sx_F → Prop} (hf : l.stackTraces = false) (C : sx_Cx p l s m #[.ref bs] meth c D G A cL_law 7 RL) (hNC : sx_NC s) (hB1 : ∀ k, k < 129 → A (b1 + k)) (hB2 : ∀ k, k < 26 → A (b2 + k)) (hA : A bo) (hd12 : b1 + 129 ≤ b2) (hd2 : b2 + 26 ≤ bo) (hX : va_X bs L xs s s.heap) (hbl : bs < s.heap.size) (hbA : ¬ A bs) (hcl : cl + 9 ≤ 601024 ∧ sl + 54 ≤ 7293034) (hv1 : vp_in (i + 1) L) (hend : ∀ (f1 g1 : sx_F) (o1 : Nat → Int64), K f1 g1 → sx_J (sx_wl D G b1 129 lyX b2 26 lyM bo) p l e room_1 s m #[.ref bs] below meth c A 7 (cl + 9) (sl + 54) Q (f1, g1, o1) 2395 [(0, .ref bs), (1, .ref (b1 + 0)), (2, .ref (b2 + 0)), (3, .ref bo), (4, .int i)] []) (h : P_case_bar f g o (xs (i + 1).toNatClampNeg) K) : sx_J (sx_wl D G b1 129 lyX b2 26 lyM bo) p l e room_1 s m #[.ref bs] below meth c A 7 (cl) (sl) Q (f, g, o) 196 [(0, .ref bs), (1, .ref (b1 + 0)), (2, .ref (b2 + 0)), (3, .ref bo), (4, .int i)] [] := by
  unfold P_case_bar at h
  refine sx_aload_n C dL_law_196 1 1 rfl rfl 197 rfl ?_
  refine sx_aload_n C dL_law_197 0 0 rfl rfl 198 rfl ?_
  refine sx_iload C dL_law_198 4 rfl 200 rfl ?_
  refine sx_iconst C dL_law_200 1 (by decide) 201 rfl ?_
  refine sx_iadd C dL_law_201 202 rfl ?_
  refine sx_sld C hX hbl hbA hv1 dL_law_202 203 rfl ?_
  refine sx_aload_n C dL_law_203 3 3 rfl rfl 204 rfl ?_
  refine sx_lcallW C hNC hB1 hA hd12 hd2 (st := []) dL_law_204 (c_L_bar hf (by omega) h) wi_L_bar wn_L_bar wt_L_bar lk_L_123 ⟨by decide, by decide, (show _ = some 3 from by decide +kernel)⟩ rfl rfl ⟨⟨(Nat.le_of_ble_eq_true rfl), (Nat.le_of_ble_eq_true rfl)⟩, (by show cl + 2 ≤ 601024; omega), (by show sl + 12 ≤ 7293034; omega)⟩ (Nat.le_of_ble_eq_true rfl) 207 rfl (fun k f1 o1 h => ?_)
  refine sx_istore C dL_law_207 [(5, .int k), (0, .ref bs), (1, .ref (b1 + 0)), (2, .ref (b2 + 0)), (3, .ref bo), (4, .int i)] (by decide) rfl 209 rfl ?_
  refine sx_aload_n C dL_law_209 2 3 rfl rfl 210 rfl ?_
  refine sx_aload_n C dL_law_210 0 1 rfl rfl 211 rfl ?_
  refine sx_iload C dL_law_211 5 rfl 213 rfl ?_
  refine sx_iconst C dL_law_213 1 (by decide) 214 rfl ?_
  refine sx_iadd C dL_law_214 215 rfl ?_
  refine sx_sld C hX hbl hbA hv1 dL_law_215 216 rfl ?_
  refine sx_lcall2 C hB2 hd12 hd2 (st := []) dL_law_216 (c_X7_bar hf h) mi_X7_bar lk_L_128 mn_X7_bar ms_X7_bar (by decide) lyM_0 rfl rfl rfl rfl ⟨⟨(Nat.le_of_ble_eq_true rfl), (Nat.le_of_ble_eq_true rfl)⟩, (by show cl + 2 + 0 ≤ 601024; omega), (by show sl + 12 + 0 ≤ 7293034; omega)⟩ (Nat.le_of_ble_eq_true rfl) 219 rfl (fun v g1 h => ?_)
  obtain ⟨r, rfl, h⟩ := h
  refine sx_istore C dL_law_219 [(6, .int r), (5, .int k), (0, .ref bs), (1, .ref (b1 + 0)), (2, .ref (b2 + 0)), (3, .ref bo), (4, .int i)] (by decide) rfl 221 rfl ?_
  refine sx_aload_n C dL_law_221 2 4 rfl rfl 222 rfl ?_
  refine sx_lcall2 C hB2 hd12 hd2 (st := []) dL_law_222 (c_X7_thrown hf h) mi_X7_thrown lk_L_129 mn_X7_thrown ms_X7_thrown (by decide) lyM_0 rfl rfl rfl rfl ⟨⟨(Nat.le_of_ble_eq_true rfl), (Nat.le_of_ble_eq_true rfl)⟩, (by show cl + 2 + 0 ≤ 601024; omega), (by show sl + 12 + 0 ≤ 7293034; omega)⟩ (Nat.le_of_ble_eq_true rfl) 225 rfl (fun v g2 h => ?_)
  obtain ⟨⟨t, rfl, h⟩, rfl⟩ := h
  refine sx_iload C dL_law_225 1 rfl 227 rfl ?_
  refine sx_icmp_eq C dL_law_227 232 230 (by decide) rfl (fun c1 => ?_) (fun c1 => absurd h.1 c1)
  refine sx_iload C dL_law_232 1 rfl 234 rfl ?_
  refine sx_if_ne C dL_law_234 249 237 (by decide) rfl (fun c2 => ?_) (fun c2 => ?_)
  · refine sx_goto C dL_law_249 2395 (by decide) ?_
    refine sx_widen (k := cl + 9) (n := sl + 54) (by omega) (by omega) ?_
    exact sx_sub [2, 3, 4, 5, 6] rfl (hend _ _ _ h.2.2)
  · refine sx_aload_n C dL_law_237 3 5 rfl rfl 238 rfl ?_
    refine sx_iconst C dL_law_238 0 (by decide) 239 rfl ?_
    refine sx_lald C dL_law_239 240 rfl ?_
    refine sx_iload C dL_law_240 0 rfl 242 rfl ?_
    refine sx_i2l C dL_law_242 243 rfl ?_
    refine sx_lcmp C dL_law_243 244 rfl ?_
    refine sx_if_eq C dL_law_244 249 247 (by decide) rfl (fun c3 => ?_) (fun c3 => absurd ((lg_cmp_eq _ _).mpr (h.2.1 c2)) c3)
    refine sx_goto C dL_law_249 2395 (by decide) ?_
    refine sx_widen (k := cl + 9) (n := sl + 54) (by omega) (by omega) ?_
    exact sx_sub [2, 3, 4, 5, 6] rfl (hend _ _ _ h.2.2)
set_option maxRecDepth 100000 in
set_option maxHeartbeats 4000000 in
theorem case_note {p : Program} {l : Launch} {e : Env} {s : State} {m : MethodId} {below : List Frame} {meth : Method} {c : Code} {D : va_G} {G : sx_G} {A : Nat → Prop} {b1 b2 bo bs L cl sl : Nat} {xs : Nat → Int32} {Q : State → Prop} {f g : sx_F} {o : Nat → Int64} {i : Int32} {K : sx_F → sx_F → Prop} (hf : l.stackTraces = false) (C : sx_Cx p l s m #[.ref bs] meth c D G A cL_law 7 RL) (hNC : sx_NC s) (hB1 : ∀ k, k < 129 → A (b1 + k)) (hB2 : ∀ k, k < 26 → A (b2 + k)) (hA : A bo) (hd12 : b1 + 129 ≤ b2) (hd2 : b2 + 26 ≤ bo) (hX : va_X bs L xs s s.heap) (hbl : bs < s.heap.size) (hbA : ¬ A bs) (hcl : cl + 9 ≤ 601024 ∧ sl + 54 ≤ 7293034) (hv1 : vp_in (i + 1) L) (hv2 : vp_in (i + 2) L) (hv3 : vp_in (i + 3) L) (hv4 : vp_in (i + 4) L) (hend : ∀ (f1 g1 : sx_F) (o1 : Nat → Int64), K f1 g1 → sx_J (sx_wl D G b1 129 lyX b2 26 lyM bo) p l e room_1 s m #[.ref bs] below meth c A 7 (cl + 9) (sl + 54) Q (f1, g1, o1) 2395 [(0, .ref bs), (1, .ref (b1 + 0)), (2, .ref (b2 + 0)), (3, .ref bo), (4, .int i)] []) (h : P_case_note f g o (xs (i + 1).toNatClampNeg) (xs (i + 2).toNatClampNeg) (xs (i + 3).toNatClampNeg) (xs (i + 4).toNatClampNeg) K) : sx_J (sx_wl D G b1 129 lyX b2 26 lyM bo) p l e room_1 s m #[.ref bs] below meth c A 7 (cl) (sl) Q (f, g, o) 252 [(0, .ref bs), (1, .ref (b1 + 0)), (2, .ref (b2 + 0)), (3, .ref bo), (4, .int i)] [] := by
  unfold P_case_note at h
  refine sx_aload_n C dL_law_252 1 1 rfl rfl 253 rfl ?_
  refine sx_aload_n C dL_law_253 0 0 rfl rfl 254 rfl ?_
  refine sx_iload C dL_law_254 4 rfl 256 rfl ?_
  refine sx_iconst C dL_law_256 1 (by decide) 257 rfl ?_
  refine sx_iadd C dL_law_257 258 rfl ?_
  refine sx_sld C hX hbl hbA hv1 dL_law_258 259 rfl ?_
  refine sx_aload_n C dL_law_259 0 0 rfl rfl 260 rfl ?_
  refine sx_iload C dL_law_260 4 rfl 262 rfl ?_
  refine sx_iconst C dL_law_262 2 (by decide) 263 rfl ?_
  refine sx_iadd C dL_law_263 264 rfl ?_
  refine sx_sld C hX hbl hbA hv2 dL_law_264 265 rfl ?_
  refine sx_aload_n C dL_law_265 0 0 rfl rfl 266 rfl ?_
  refine sx_iload C dL_law_266 4 rfl 268 rfl ?_
  refine sx_iconst C dL_law_268 3 (by decide) 269 rfl ?_
  refine sx_iadd C dL_law_269 270 rfl ?_
  refine sx_sld C hX hbl hbA hv3 dL_law_270 271 rfl ?_
  refine sx_aload_n C dL_law_271 0 0 rfl rfl 272 rfl ?_
  refine sx_iload C dL_law_272 4 rfl 274 rfl ?_
  refine sx_iconst C dL_law_274 4 (by decide) 275 rfl ?_
  refine sx_iadd C dL_law_275 276 rfl ?_
  refine sx_sld C hX hbl hbA hv4 dL_law_276 277 rfl ?_
  refine sx_aload_n C dL_law_277 3 3 rfl rfl 278 rfl ?_
  refine sx_lcallW C hNC hB1 hA hd12 hd2 (st := []) dL_law_278 (c_L_note hf (by omega) h) wi_L_note wn_L_note wt_L_note lk_L_132 ⟨by decide, by decide, (show _ = some 6 from by decide +kernel)⟩ rfl rfl ⟨⟨(Nat.le_of_ble_eq_true rfl), (Nat.le_of_ble_eq_true rfl)⟩, (by show cl + 5 ≤ 601024; omega), (by show sl + 30 ≤ 7293034; omega)⟩ (Nat.le_of_ble_eq_true rfl) 281 rfl (fun k f1 o1 h => ?_)
  refine sx_istore C dL_law_281 [(5, .int k), (0, .ref bs), (1, .ref (b1 + 0)), (2, .ref (b2 + 0)), (3, .ref bo), (4, .int i)] (by decide) rfl 283 rfl ?_
  refine sx_aload_n C dL_law_283 2 3 rfl rfl 284 rfl ?_
  refine sx_aload_n C dL_law_284 0 1 rfl rfl 285 rfl ?_
  refine sx_iload C dL_law_285 5 rfl 287 rfl ?_
  refine sx_iconst C dL_law_287 1 (by decide) 288 rfl ?_
  refine sx_iadd C dL_law_288 289 rfl ?_
  refine sx_sld C hX hbl hbA hv1 dL_law_289 290 rfl ?_
  refine sx_aload_n C dL_law_290 0 1 rfl rfl 291 rfl ?_
  refine sx_iload C dL_law_291 5 rfl 293 rfl ?_
  refine sx_iconst C dL_law_293 2 (by decide) 294 rfl ?_
  refine sx_iadd C dL_law_294 295 rfl ?_
  refine sx_sld C hX hbl hbA hv2 dL_law_295 296 rfl ?_
  refine sx_aload_n C dL_law_296 0 1 rfl rfl 297 rfl ?_
  refine sx_iload C dL_law_297 5 rfl 299 rfl ?_
  refine sx_iconst C dL_law_299 3 (by decide) 300 rfl ?_
  refine sx_iadd C dL_law_300 301 rfl ?_
  refine sx_sld C hX hbl hbA hv3 dL_law_301 302 rfl ?_
  refine sx_aload_n C dL_law_302 0 1 rfl rfl 303 rfl ?_
  refine sx_iload C dL_law_303 5 rfl 305 rfl ?_
  refine sx_iconst C dL_law_305 4 (by decide) 306 rfl ?_
  refine sx_iadd C dL_law_306 307 rfl ?_
  refine sx_sld C hX hbl hbA hv4 dL_law_307 308 rfl ?_
  refine sx_lcall2 C hB2 hd12 hd2 (st := []) dL_law_308 (c_X7_note hf h) mi_X7_note lk_L_135 mn_X7_note ms_X7_note (by decide) lyM_0 rfl rfl rfl rfl ⟨⟨(Nat.le_of_ble_eq_true rfl), (Nat.le_of_ble_eq_true rfl)⟩, (by show cl + 5 + 0 ≤ 601024; omega), (by show sl + 30 + 0 ≤ 7293034; omega)⟩ (Nat.le_of_ble_eq_true rfl) 311 rfl (fun v g1 h => ?_)
  obtain ⟨r, rfl, h⟩ := h
  refine sx_istore C dL_law_311 [(6, .int r), (5, .int k), (0, .ref bs), (1, .ref (b1 + 0)), (2, .ref (b2 + 0)), (3, .ref bo), (4, .int i)] (by decide) rfl 313 rfl ?_
  refine sx_aload_n C dL_law_313 2 4 rfl rfl 314 rfl ?_
  refine sx_lcall2 C hB2 hd12 hd2 (st := []) dL_law_314 (c_X7_thrown hf h) mi_X7_thrown lk_L_129 mn_X7_thrown ms_X7_thrown (by decide) lyM_0 rfl rfl rfl rfl ⟨⟨(Nat.le_of_ble_eq_true rfl), (Nat.le_of_ble_eq_true rfl)⟩, (by show cl + 5 + 0 ≤ 601024; omega), (by show sl + 30 + 0 ≤ 7293034; omega)⟩ (Nat.le_of_ble_eq_true rfl) 317 rfl (fun v g2 h => ?_)
  obtain ⟨⟨t, rfl, h⟩, rfl⟩ := h
  refine sx_iload C dL_law_317 1 rfl 319 rfl ?_
  refine sx_icmp_eq C dL_law_319 324 322 (by decide) rfl (fun c1 => ?_) (fun c1 => absurd h.1 c1)
  refine sx_iload C dL_law_324 1 rfl 326 rfl ?_
  refine sx_if_ne C dL_law_326 341 329 (by decide) rfl (fun c2 => ?_) (fun c2 => ?_)
  · refine sx_goto C dL_law_341 2395 (by decide) ?_
    refine sx_widen (k := cl + 9) (n := sl + 54) (by omega) (by omega) ?_
    exact sx_sub [2, 3, 4, 5, 6] rfl (hend _ _ _ h.2.2)
  · refine sx_aload_n C dL_law_329 3 5 rfl rfl 330 rfl ?_
    refine sx_iconst C dL_law_330 0 (by decide) 331 rfl ?_
    refine sx_lald C dL_law_331 332 rfl ?_
    refine sx_iload C dL_law_332 0 rfl 334 rfl ?_
    refine sx_i2l C dL_law_334 335 rfl ?_
    refine sx_lcmp C dL_law_335 336 rfl ?_
    refine sx_if_eq C dL_law_336 341 339 (by decide) rfl (fun c3 => ?_) (fun c3 => absurd ((lg_cmp_eq _ _).mpr (h.2.1 c2)) c3)
    refine sx_goto C dL_law_341 2395 (by decide) ?_
    refine sx_widen (k := cl + 9) (n := sl + 54) (by omega) (by omega) ?_
    exact sx_sub [2, 3, 4, 5, 6] rfl (hend _ _ _ h.2.2)
set_option maxRecDepth 100000 in
set_option maxHeartbeats 4000000 in
theorem case_mend {p : Program} {l : Launch} {e : Env} {s : State} {m : MethodId} {below : List Frame} {meth : Method} {c : Code} {D : va_G} {G : sx_G} {A : Nat → Prop} {b1 b2 bo bs L cl sl : Nat} {xs : Nat → Int32} {Q : State → Prop} {f g : sx_F} {o : Nat → Int64} {i : Int32} {K : sx_F → sx_F → Prop} (hf : l.stackTraces = false) (C : sx_Cx p l s m #[.ref bs] meth c D G A cL_law 7 RL) (hNC : sx_NC s) (hB1 : ∀ k, k < 129 → A (b1 + k)) (hB2 : ∀ k, k < 26 → A (b2 + k)) (hA : A bo) (hd12 : b1 + 129 ≤ b2) (hd2 : b2 + 26 ≤ bo) (hX : va_X bs L xs s s.heap) (hbl : bs < s.heap.size) (hbA : ¬ A bs) (hcl : cl + 9 ≤ 601024 ∧ sl + 54 ≤ 7293034) (hv1 : vp_in (i + 1) L) (hv2 : vp_in (i + 2) L) (hv3 : vp_in (i + 3) L) (hv4 : vp_in (i + 4) L) (hend : ∀ (f1 g1 : sx_F) (o1 : Nat → Int64), K f1 g1 → sx_J (sx_wl D G b1 129 lyX b2 26 lyM bo) p l e room_1 s m #[.ref bs] below meth c A 7 (cl + 9) (sl + 54) Q (f1, g1, o1) 2395 [(0, .ref bs), (1, .ref (b1 + 0)), (2, .ref (b2 + 0)), (3, .ref bo), (4, .int i)] []) (h : P_case_mend f g o (xs (i + 1).toNatClampNeg) (xs (i + 2).toNatClampNeg) (xs (i + 3).toNatClampNeg) (xs (i + 4).toNatClampNeg) K) : sx_J (sx_wl D G b1 129 lyX b2 26 lyM bo) p l e room_1 s m #[.ref bs] below meth c A 7 (cl) (sl) Q (f, g, o) 344 [(0, .ref bs), (1, .ref (b1 + 0)), (2, .ref (b2 + 0)), (3, .ref bo), (4, .int i)] [] := by
  unfold P_case_mend at h
  refine sx_aload_n C dL_law_344 1 1 rfl rfl 345 rfl ?_
  refine sx_aload_n C dL_law_345 0 0 rfl rfl 346 rfl ?_
  refine sx_iload C dL_law_346 4 rfl 348 rfl ?_
  refine sx_iconst C dL_law_348 1 (by decide) 349 rfl ?_
  refine sx_iadd C dL_law_349 350 rfl ?_
  refine sx_sld C hX hbl hbA hv1 dL_law_350 351 rfl ?_
  refine sx_aload_n C dL_law_351 0 0 rfl rfl 352 rfl ?_
  refine sx_iload C dL_law_352 4 rfl 354 rfl ?_
  refine sx_iconst C dL_law_354 2 (by decide) 355 rfl ?_
  refine sx_iadd C dL_law_355 356 rfl ?_
  refine sx_sld C hX hbl hbA hv2 dL_law_356 357 rfl ?_
  refine sx_aload_n C dL_law_357 0 0 rfl rfl 358 rfl ?_
  refine sx_iload C dL_law_358 4 rfl 360 rfl ?_
  refine sx_iconst C dL_law_360 3 (by decide) 361 rfl ?_
  refine sx_iadd C dL_law_361 362 rfl ?_
  refine sx_sld C hX hbl hbA hv3 dL_law_362 363 rfl ?_
  refine sx_aload_n C dL_law_363 0 0 rfl rfl 364 rfl ?_
  refine sx_iload C dL_law_364 4 rfl 366 rfl ?_
  refine sx_iconst C dL_law_366 4 (by decide) 367 rfl ?_
  refine sx_iadd C dL_law_367 368 rfl ?_
  refine sx_sld C hX hbl hbA hv4 dL_law_368 369 rfl ?_
  refine sx_aload_n C dL_law_369 3 3 rfl rfl 370 rfl ?_
  refine sx_lcallW C hNC hB1 hA hd12 hd2 (st := []) dL_law_370 (c_L_mend hf (by omega) h) wi_L_mend wn_L_mend wt_L_mend lk_L_136 ⟨by decide, by decide, (show _ = some 6 from by decide +kernel)⟩ rfl rfl ⟨⟨(Nat.le_of_ble_eq_true rfl), (Nat.le_of_ble_eq_true rfl)⟩, (by show cl + 4 ≤ 601024; omega), (by show sl + 24 ≤ 7293034; omega)⟩ (Nat.le_of_ble_eq_true rfl) 373 rfl (fun k f1 o1 h => ?_)
  refine sx_istore C dL_law_373 [(5, .int k), (0, .ref bs), (1, .ref (b1 + 0)), (2, .ref (b2 + 0)), (3, .ref bo), (4, .int i)] (by decide) rfl 375 rfl ?_
  refine sx_aload_n C dL_law_375 2 3 rfl rfl 376 rfl ?_
  refine sx_aload_n C dL_law_376 0 1 rfl rfl 377 rfl ?_
  refine sx_iload C dL_law_377 5 rfl 379 rfl ?_
  refine sx_iconst C dL_law_379 1 (by decide) 380 rfl ?_
  refine sx_iadd C dL_law_380 381 rfl ?_
  refine sx_sld C hX hbl hbA hv1 dL_law_381 382 rfl ?_
  refine sx_aload_n C dL_law_382 0 1 rfl rfl 383 rfl ?_
  refine sx_iload C dL_law_383 5 rfl 385 rfl ?_
  refine sx_iconst C dL_law_385 2 (by decide) 386 rfl ?_
  refine sx_iadd C dL_law_386 387 rfl ?_
  refine sx_sld C hX hbl hbA hv2 dL_law_387 388 rfl ?_
  refine sx_aload_n C dL_law_388 0 1 rfl rfl 389 rfl ?_
  refine sx_iload C dL_law_389 5 rfl 391 rfl ?_
  refine sx_iconst C dL_law_391 3 (by decide) 392 rfl ?_
  refine sx_iadd C dL_law_392 393 rfl ?_
  refine sx_sld C hX hbl hbA hv3 dL_law_393 394 rfl ?_
  refine sx_aload_n C dL_law_394 0 1 rfl rfl 395 rfl ?_
  refine sx_iload C dL_law_395 5 rfl 397 rfl ?_
  refine sx_iconst C dL_law_397 4 (by decide) 398 rfl ?_
  refine sx_iadd C dL_law_398 399 rfl ?_
  refine sx_sld C hX hbl hbA hv4 dL_law_399 400 rfl ?_
  refine sx_lcall2 C hB2 hd12 hd2 (st := []) dL_law_400 (c_X7_mend hf h) mi_X7_mend lk_L_138 mn_X7_mend ms_X7_mend (by decide) lyM_0 rfl rfl rfl rfl ⟨⟨(Nat.le_of_ble_eq_true rfl), (Nat.le_of_ble_eq_true rfl)⟩, (by show cl + 4 + 0 ≤ 601024; omega), (by show sl + 24 + 0 ≤ 7293034; omega)⟩ (Nat.le_of_ble_eq_true rfl) 403 rfl (fun v g1 h => ?_)
  obtain ⟨r, rfl, h⟩ := h
  refine sx_istore C dL_law_403 [(6, .int r), (5, .int k), (0, .ref bs), (1, .ref (b1 + 0)), (2, .ref (b2 + 0)), (3, .ref bo), (4, .int i)] (by decide) rfl 405 rfl ?_
  refine sx_aload_n C dL_law_405 2 4 rfl rfl 406 rfl ?_
  refine sx_lcall2 C hB2 hd12 hd2 (st := []) dL_law_406 (c_X7_thrown hf h) mi_X7_thrown lk_L_129 mn_X7_thrown ms_X7_thrown (by decide) lyM_0 rfl rfl rfl rfl ⟨⟨(Nat.le_of_ble_eq_true rfl), (Nat.le_of_ble_eq_true rfl)⟩, (by show cl + 4 + 0 ≤ 601024; omega), (by show sl + 24 + 0 ≤ 7293034; omega)⟩ (Nat.le_of_ble_eq_true rfl) 409 rfl (fun v g2 h => ?_)
  obtain ⟨⟨t, rfl, h⟩, rfl⟩ := h
  refine sx_iload C dL_law_409 1 rfl 411 rfl ?_
  refine sx_icmp_eq C dL_law_411 416 414 (by decide) rfl (fun c1 => ?_) (fun c1 => absurd h.1 c1)
  refine sx_iload C dL_law_416 1 rfl 418 rfl ?_
  refine sx_if_ne C dL_law_418 433 421 (by decide) rfl (fun c2 => ?_) (fun c2 => ?_)
  · refine sx_goto C dL_law_433 2395 (by decide) ?_
    refine sx_widen (k := cl + 9) (n := sl + 54) (by omega) (by omega) ?_
    exact sx_sub [2, 3, 4, 5, 6] rfl (hend _ _ _ h.2.2)
  · refine sx_aload_n C dL_law_421 3 5 rfl rfl 422 rfl ?_
    refine sx_iconst C dL_law_422 0 (by decide) 423 rfl ?_
    refine sx_lald C dL_law_423 424 rfl ?_
    refine sx_iload C dL_law_424 0 rfl 426 rfl ?_
    refine sx_i2l C dL_law_426 427 rfl ?_
    refine sx_lcmp C dL_law_427 428 rfl ?_
    refine sx_if_eq C dL_law_428 433 431 (by decide) rfl (fun c3 => ?_) (fun c3 => absurd ((lg_cmp_eq _ _).mpr (h.2.1 c2)) c3)
    refine sx_goto C dL_law_433 2395 (by decide) ?_
    refine sx_widen (k := cl + 9) (n := sl + 54) (by omega) (by omega) ?_
    exact sx_sub [2, 3, 4, 5, 6] rfl (hend _ _ _ h.2.2)
set_option maxRecDepth 100000 in
set_option maxHeartbeats 4000000 in
theorem case_empty {p : Program} {l : Launch} {e : Env} {s : State} {m : MethodId} {below : List Frame} {meth : Method} {c : Code} {D : va_G} {G : sx_G} {A : Nat → Prop} {b1 b2 bo bs L cl sl : Nat} {xs : Nat → Int32} {Q : State → Prop} {f g : sx_F} {o : Nat → Int64} {i : Int32} {K : sx_F → sx_F → Prop} (hf : l.stackTraces = false) (C : sx_Cx p l s m #[.ref bs] meth c D G A cL_law 7 RL) (hNC : sx_NC s) (hB1 : ∀ k, k < 129 → A (b1 + k)) (hB2 : ∀ k, k < 26 → A (b2 + k)) (hA : A bo) (hd12 : b1 + 129 ≤ b2) (hd2 : b2 + 26 ≤ bo) (hX : va_X bs L xs s s.heap) (hbl : bs < s.heap.size) (hbA : ¬ A bs) (hcl : cl + 9 ≤ 601024 ∧ sl + 54 ≤ 7293034) (hv1 : vp_in (i + 1) L) (hv2 : vp_in (i + 2) L) (hend : ∀ (f1 g1 : sx_F) (o1 : Nat → Int64), K f1 g1 → sx_J (sx_wl D G b1 129 lyX b2 26 lyM bo) p l e room_1 s m #[.ref bs] below meth c A 7 (cl + 9) (sl + 54) Q (f1, g1, o1) 2395 [(0, .ref bs), (1, .ref (b1 + 0)), (2, .ref (b2 + 0)), (3, .ref bo), (4, .int i)] []) (h : P_case_empty f g o (xs (i + 1).toNatClampNeg) (xs (i + 2).toNatClampNeg) K) : sx_J (sx_wl D G b1 129 lyX b2 26 lyM bo) p l e room_1 s m #[.ref bs] below meth c A 7 (cl) (sl) Q (f, g, o) 436 [(0, .ref bs), (1, .ref (b1 + 0)), (2, .ref (b2 + 0)), (3, .ref bo), (4, .int i)] [] := by
  unfold P_case_empty at h
  refine sx_aload_n C dL_law_436 1 1 rfl rfl 437 rfl ?_
  refine sx_aload_n C dL_law_437 0 0 rfl rfl 438 rfl ?_
  refine sx_iload C dL_law_438 4 rfl 440 rfl ?_
  refine sx_iconst C dL_law_440 1 (by decide) 441 rfl ?_
  refine sx_iadd C dL_law_441 442 rfl ?_
  refine sx_sld C hX hbl hbA hv1 dL_law_442 443 rfl ?_
  refine sx_aload_n C dL_law_443 0 0 rfl rfl 444 rfl ?_
  refine sx_iload C dL_law_444 4 rfl 446 rfl ?_
  refine sx_iconst C dL_law_446 2 (by decide) 447 rfl ?_
  refine sx_iadd C dL_law_447 448 rfl ?_
  refine sx_sld C hX hbl hbA hv2 dL_law_448 449 rfl ?_
  refine sx_aload_n C dL_law_449 3 3 rfl rfl 450 rfl ?_
  refine sx_lcallW C hNC hB1 hA hd12 hd2 (st := []) dL_law_450 (c_L_empty hf (by omega) h) wi_L_empty wn_L_empty wt_L_empty lk_L_139 ⟨by decide, by decide, (show _ = some 4 from by decide +kernel)⟩ rfl rfl ⟨⟨(Nat.le_of_ble_eq_true rfl), (Nat.le_of_ble_eq_true rfl)⟩, (by show cl + 2 ≤ 601024; omega), (by show sl + 12 ≤ 7293034; omega)⟩ (Nat.le_of_ble_eq_true rfl) 453 rfl (fun k f1 o1 h => ?_)
  refine sx_istore C dL_law_453 [(5, .int k), (0, .ref bs), (1, .ref (b1 + 0)), (2, .ref (b2 + 0)), (3, .ref bo), (4, .int i)] (by decide) rfl 455 rfl ?_
  refine sx_aload_n C dL_law_455 2 3 rfl rfl 456 rfl ?_
  refine sx_aload_n C dL_law_456 0 1 rfl rfl 457 rfl ?_
  refine sx_iload C dL_law_457 5 rfl 459 rfl ?_
  refine sx_iconst C dL_law_459 1 (by decide) 460 rfl ?_
  refine sx_iadd C dL_law_460 461 rfl ?_
  refine sx_sld C hX hbl hbA hv1 dL_law_461 462 rfl ?_
  refine sx_aload_n C dL_law_462 0 1 rfl rfl 463 rfl ?_
  refine sx_iload C dL_law_463 5 rfl 465 rfl ?_
  refine sx_iconst C dL_law_465 2 (by decide) 466 rfl ?_
  refine sx_iadd C dL_law_466 467 rfl ?_
  refine sx_sld C hX hbl hbA hv2 dL_law_467 468 rfl ?_
  refine sx_lcall2 C hB2 hd12 hd2 (st := []) dL_law_468 (c_X7_empty hf h) mi_X7_empty lk_L_142 mn_X7_empty ms_X7_empty (by decide) lyM_0 rfl rfl rfl rfl ⟨⟨(Nat.le_of_ble_eq_true rfl), (Nat.le_of_ble_eq_true rfl)⟩, (by show cl + 2 + 0 ≤ 601024; omega), (by show sl + 12 + 0 ≤ 7293034; omega)⟩ (Nat.le_of_ble_eq_true rfl) 471 rfl (fun v g1 h => ?_)
  obtain ⟨r, rfl, h⟩ := h
  refine sx_istore C dL_law_471 [(6, .int r), (5, .int k), (0, .ref bs), (1, .ref (b1 + 0)), (2, .ref (b2 + 0)), (3, .ref bo), (4, .int i)] (by decide) rfl 473 rfl ?_
  refine sx_aload_n C dL_law_473 2 4 rfl rfl 474 rfl ?_
  refine sx_lcall2 C hB2 hd12 hd2 (st := []) dL_law_474 (c_X7_thrown hf h) mi_X7_thrown lk_L_129 mn_X7_thrown ms_X7_thrown (by decide) lyM_0 rfl rfl rfl rfl ⟨⟨(Nat.le_of_ble_eq_true rfl), (Nat.le_of_ble_eq_true rfl)⟩, (by show cl + 2 + 0 ≤ 601024; omega), (by show sl + 12 + 0 ≤ 7293034; omega)⟩ (Nat.le_of_ble_eq_true rfl) 477 rfl (fun v g2 h => ?_)
  obtain ⟨⟨t, rfl, h⟩, rfl⟩ := h
  refine sx_iload C dL_law_477 1 rfl 479 rfl ?_
  refine sx_icmp_eq C dL_law_479 484 482 (by decide) rfl (fun c1 => ?_) (fun c1 => absurd h.1 c1)
  refine sx_iload C dL_law_484 1 rfl 486 rfl ?_
  refine sx_if_ne C dL_law_486 501 489 (by decide) rfl (fun c2 => ?_) (fun c2 => ?_)
  · refine sx_goto C dL_law_501 2395 (by decide) ?_
    refine sx_widen (k := cl + 9) (n := sl + 54) (by omega) (by omega) ?_
    exact sx_sub [2, 3, 4, 5, 6] rfl (hend _ _ _ h.2.2)
  · refine sx_aload_n C dL_law_489 3 5 rfl rfl 490 rfl ?_
    refine sx_iconst C dL_law_490 0 (by decide) 491 rfl ?_
    refine sx_lald C dL_law_491 492 rfl ?_
    refine sx_iload C dL_law_492 0 rfl 494 rfl ?_
    refine sx_i2l C dL_law_494 495 rfl ?_
    refine sx_lcmp C dL_law_495 496 rfl ?_
    refine sx_if_eq C dL_law_496 501 499 (by decide) rfl (fun c3 => ?_) (fun c3 => absurd ((lg_cmp_eq _ _).mpr (h.2.1 c2)) c3)
    refine sx_goto C dL_law_501 2395 (by decide) ?_
    refine sx_widen (k := cl + 9) (n := sl + 54) (by omega) (by omega) ?_
    exact sx_sub [2, 3, 4, 5, 6] rfl (hend _ _ _ h.2.2)
set_option maxRecDepth 100000 in
set_option maxHeartbeats 4000000 in
theorem case_setPaper {p : Program} {l : Launch} {e : Env} {s : State} {m : MethodId} {below : List Frame} {meth : Method} {c : Code} {D : va_G} {G : sx_G} {A : Nat → Prop} {b1 b2 bo bs L cl sl : Nat} {xs : Nat → Int32} {Q : State → Prop} {f g : sx_F} {o : Nat → Int64} {i : Int32} {K : sx_F → sx_F → Prop} (hf : l.stackTraces = false) (C : sx_Cx p l s m #[.ref bs] meth c D G A cL_law 7 RL) (hNC : sx_NC s) (hB1 : ∀ k, k < 129 → A (b1 + k)) (hB2 : ∀ k, k < 26 → A (b2 + k)) (hA : A bo) (hd12 : b1 + 129 ≤ b2) (hd2 : b2 + 26 ≤ bo) (hX : va_X bs L xs s s.heap) (hbl : bs < s.heap.size) (hbA : ¬ A bs) (hcl : cl + 9 ≤ 601024 ∧ sl + 54 ≤ 7293034) (hv1 : vp_in (i + 1) L) (hv2 : vp_in (i + 2) L) (hend : ∀ (f1 g1 : sx_F) (o1 : Nat → Int64), K f1 g1 → sx_J (sx_wl D G b1 129 lyX b2 26 lyM bo) p l e room_1 s m #[.ref bs] below meth c A 7 (cl + 9) (sl + 54) Q (f1, g1, o1) 2395 [(0, .ref bs), (1, .ref (b1 + 0)), (2, .ref (b2 + 0)), (3, .ref bo), (4, .int i)] []) (h : P_case_setPaper f g o (xs (i + 1).toNatClampNeg) (xs (i + 2).toNatClampNeg) K) : sx_J (sx_wl D G b1 129 lyX b2 26 lyM bo) p l e room_1 s m #[.ref bs] below meth c A 7 (cl) (sl) Q (f, g, o) 504 [(0, .ref bs), (1, .ref (b1 + 0)), (2, .ref (b2 + 0)), (3, .ref bo), (4, .int i)] [] := by
  unfold P_case_setPaper at h
  refine sx_aload_n C dL_law_504 1 1 rfl rfl 505 rfl ?_
  refine sx_aload_n C dL_law_505 0 0 rfl rfl 506 rfl ?_
  refine sx_iload C dL_law_506 4 rfl 508 rfl ?_
  refine sx_iconst C dL_law_508 1 (by decide) 509 rfl ?_
  refine sx_iadd C dL_law_509 510 rfl ?_
  refine sx_sld C hX hbl hbA hv1 dL_law_510 511 rfl ?_
  refine sx_aload_n C dL_law_511 0 0 rfl rfl 512 rfl ?_
  refine sx_iload C dL_law_512 4 rfl 514 rfl ?_
  refine sx_iconst C dL_law_514 2 (by decide) 515 rfl ?_
  refine sx_iadd C dL_law_515 516 rfl ?_
  refine sx_sld C hX hbl hbA hv2 dL_law_516 517 rfl ?_
  refine sx_aload_n C dL_law_517 3 3 rfl rfl 518 rfl ?_
  refine sx_lcallW C hNC hB1 hA hd12 hd2 (st := []) dL_law_518 (c_L_setPaper hf (by omega) h) wi_L_setPaper wn_L_setPaper wt_L_setPaper lk_L_143 ⟨by decide, by decide, (show _ = some 4 from by decide +kernel)⟩ rfl rfl ⟨⟨(Nat.le_of_ble_eq_true rfl), (Nat.le_of_ble_eq_true rfl)⟩, (by show cl + 2 ≤ 601024; omega), (by show sl + 12 ≤ 7293034; omega)⟩ (Nat.le_of_ble_eq_true rfl) 521 rfl (fun k f1 o1 h => ?_)
  refine sx_istore C dL_law_521 [(5, .int k), (0, .ref bs), (1, .ref (b1 + 0)), (2, .ref (b2 + 0)), (3, .ref bo), (4, .int i)] (by decide) rfl 523 rfl ?_
  refine sx_aload_n C dL_law_523 2 3 rfl rfl 524 rfl ?_
  refine sx_aload_n C dL_law_524 0 1 rfl rfl 525 rfl ?_
  refine sx_iload C dL_law_525 5 rfl 527 rfl ?_
  refine sx_iconst C dL_law_527 1 (by decide) 528 rfl ?_
  refine sx_iadd C dL_law_528 529 rfl ?_
  refine sx_sld C hX hbl hbA hv1 dL_law_529 530 rfl ?_
  refine sx_aload_n C dL_law_530 0 1 rfl rfl 531 rfl ?_
  refine sx_iload C dL_law_531 5 rfl 533 rfl ?_
  refine sx_iconst C dL_law_533 2 (by decide) 534 rfl ?_
  refine sx_iadd C dL_law_534 535 rfl ?_
  refine sx_sld C hX hbl hbA hv2 dL_law_535 536 rfl ?_
  refine sx_lcall2 C hB2 hd12 hd2 (st := []) dL_law_536 (c_X7_setPaper hf h) mi_X7_setPaper lk_L_145 mn_X7_setPaper ms_X7_setPaper (by decide) lyM_0 rfl rfl rfl rfl ⟨⟨(Nat.le_of_ble_eq_true rfl), (Nat.le_of_ble_eq_true rfl)⟩, (by show cl + 2 + 0 ≤ 601024; omega), (by show sl + 12 + 0 ≤ 7293034; omega)⟩ (Nat.le_of_ble_eq_true rfl) 539 rfl (fun v g1 h => ?_)
  obtain ⟨r, rfl, h⟩ := h
  refine sx_istore C dL_law_539 [(6, .int r), (5, .int k), (0, .ref bs), (1, .ref (b1 + 0)), (2, .ref (b2 + 0)), (3, .ref bo), (4, .int i)] (by decide) rfl 541 rfl ?_
  refine sx_aload_n C dL_law_541 2 4 rfl rfl 542 rfl ?_
  refine sx_lcall2 C hB2 hd12 hd2 (st := []) dL_law_542 (c_X7_thrown hf h) mi_X7_thrown lk_L_129 mn_X7_thrown ms_X7_thrown (by decide) lyM_0 rfl rfl rfl rfl ⟨⟨(Nat.le_of_ble_eq_true rfl), (Nat.le_of_ble_eq_true rfl)⟩, (by show cl + 2 + 0 ≤ 601024; omega), (by show sl + 12 + 0 ≤ 7293034; omega)⟩ (Nat.le_of_ble_eq_true rfl) 545 rfl (fun v g2 h => ?_)
  obtain ⟨⟨t, rfl, h⟩, rfl⟩ := h
  refine sx_iload C dL_law_545 1 rfl 547 rfl ?_
  refine sx_icmp_eq C dL_law_547 552 550 (by decide) rfl (fun c1 => ?_) (fun c1 => absurd h.1 c1)
  refine sx_iload C dL_law_552 1 rfl 554 rfl ?_
  refine sx_if_ne C dL_law_554 569 557 (by decide) rfl (fun c2 => ?_) (fun c2 => ?_)
  · refine sx_goto C dL_law_569 2395 (by decide) ?_
    refine sx_widen (k := cl + 9) (n := sl + 54) (by omega) (by omega) ?_
    exact sx_sub [2, 3, 4, 5, 6] rfl (hend _ _ _ h.2.2)
  · refine sx_aload_n C dL_law_557 3 5 rfl rfl 558 rfl ?_
    refine sx_iconst C dL_law_558 0 (by decide) 559 rfl ?_
    refine sx_lald C dL_law_559 560 rfl ?_
    refine sx_iload C dL_law_560 0 rfl 562 rfl ?_
    refine sx_i2l C dL_law_562 563 rfl ?_
    refine sx_lcmp C dL_law_563 564 rfl ?_
    refine sx_if_eq C dL_law_564 569 567 (by decide) rfl (fun c3 => ?_) (fun c3 => absurd ((lg_cmp_eq _ _).mpr (h.2.1 c2)) c3)
    refine sx_goto C dL_law_569 2395 (by decide) ?_
    refine sx_widen (k := cl + 9) (n := sl + 54) (by omega) (by omega) ?_
    exact sx_sub [2, 3, 4, 5, 6] rfl (hend _ _ _ h.2.2)
set_option maxRecDepth 100000 in
set_option maxHeartbeats 4000000 in
theorem case_copy {p : Program} {l : Launch} {e : Env} {s : State} {m : MethodId} {below : List Frame} {meth : Method} {c : Code} {D : va_G} {G : sx_G} {A : Nat → Prop} {b1 b2 bo bs L cl sl : Nat} {xs : Nat → Int32} {Q : State → Prop} {f g : sx_F} {o : Nat → Int64} {i : Int32} {K : sx_F → sx_F → Prop} (hf : l.stackTraces = false) (C : sx_Cx p l s m #[.ref bs] meth c D G A cL_law 7 RL) (hNC : sx_NC s) (hB1 : ∀ k, k < 129 → A (b1 + k)) (hB2 : ∀ k, k < 26 → A (b2 + k)) (hA : A bo) (hd12 : b1 + 129 ≤ b2) (hd2 : b2 + 26 ≤ bo) (hX : va_X bs L xs s s.heap) (hbl : bs < s.heap.size) (hbA : ¬ A bs) (hcl : cl + 9 ≤ 601024 ∧ sl + 54 ≤ 7293034) (hv1 : vp_in (i + 1) L) (hend : ∀ (f1 g1 : sx_F) (o1 : Nat → Int64), K f1 g1 → sx_J (sx_wl D G b1 129 lyX b2 26 lyM bo) p l e room_1 s m #[.ref bs] below meth c A 7 (cl + 9) (sl + 54) Q (f1, g1, o1) 2395 [(0, .ref bs), (1, .ref (b1 + 0)), (2, .ref (b2 + 0)), (3, .ref bo), (4, .int i)] []) (h : P_case_copy f g o (xs (i + 1).toNatClampNeg) K) : sx_J (sx_wl D G b1 129 lyX b2 26 lyM bo) p l e room_1 s m #[.ref bs] below meth c A 7 (cl) (sl) Q (f, g, o) 572 [(0, .ref bs), (1, .ref (b1 + 0)), (2, .ref (b2 + 0)), (3, .ref bo), (4, .int i)] [] := by
  unfold P_case_copy at h
  refine sx_aload_n C dL_law_572 1 1 rfl rfl 573 rfl ?_
  refine sx_aload_n C dL_law_573 0 0 rfl rfl 574 rfl ?_
  refine sx_iload C dL_law_574 4 rfl 576 rfl ?_
  refine sx_iconst C dL_law_576 1 (by decide) 577 rfl ?_
  refine sx_iadd C dL_law_577 578 rfl ?_
  refine sx_sld C hX hbl hbA hv1 dL_law_578 579 rfl ?_
  refine sx_aload_n C dL_law_579 3 3 rfl rfl 580 rfl ?_
  refine sx_lcallW C hNC hB1 hA hd12 hd2 (st := []) dL_law_580 (c_L_copy hf (by omega) h) wi_L_copy wn_L_copy wt_L_copy lk_L_146 ⟨by decide, by decide, (show _ = some 3 from by decide +kernel)⟩ rfl rfl ⟨⟨(Nat.le_of_ble_eq_true rfl), (Nat.le_of_ble_eq_true rfl)⟩, (by show cl + 2 ≤ 601024; omega), (by show sl + 12 ≤ 7293034; omega)⟩ (Nat.le_of_ble_eq_true rfl) 583 rfl (fun k f1 o1 h => ?_)
  refine sx_istore C dL_law_583 [(5, .int k), (0, .ref bs), (1, .ref (b1 + 0)), (2, .ref (b2 + 0)), (3, .ref bo), (4, .int i)] (by decide) rfl 585 rfl ?_
  refine sx_aload_n C dL_law_585 2 3 rfl rfl 586 rfl ?_
  refine sx_aload_n C dL_law_586 0 1 rfl rfl 587 rfl ?_
  refine sx_iload C dL_law_587 5 rfl 589 rfl ?_
  refine sx_iconst C dL_law_589 1 (by decide) 590 rfl ?_
  refine sx_iadd C dL_law_590 591 rfl ?_
  refine sx_sld C hX hbl hbA hv1 dL_law_591 592 rfl ?_
  refine sx_lcall2 C hB2 hd12 hd2 (st := []) dL_law_592 (c_X7_copy hf h) mi_X7_copy lk_L_148 mn_X7_copy ms_X7_copy (by decide) lyM_0 rfl rfl rfl rfl ⟨⟨(Nat.le_of_ble_eq_true rfl), (Nat.le_of_ble_eq_true rfl)⟩, (by show cl + 2 + 0 ≤ 601024; omega), (by show sl + 12 + 0 ≤ 7293034; omega)⟩ (Nat.le_of_ble_eq_true rfl) 595 rfl (fun v g1 h => ?_)
  obtain ⟨r, rfl, h⟩ := h
  refine sx_istore C dL_law_595 [(6, .int r), (5, .int k), (0, .ref bs), (1, .ref (b1 + 0)), (2, .ref (b2 + 0)), (3, .ref bo), (4, .int i)] (by decide) rfl 597 rfl ?_
  refine sx_aload_n C dL_law_597 2 4 rfl rfl 598 rfl ?_
  refine sx_lcall2 C hB2 hd12 hd2 (st := []) dL_law_598 (c_X7_thrown hf h) mi_X7_thrown lk_L_129 mn_X7_thrown ms_X7_thrown (by decide) lyM_0 rfl rfl rfl rfl ⟨⟨(Nat.le_of_ble_eq_true rfl), (Nat.le_of_ble_eq_true rfl)⟩, (by show cl + 2 + 0 ≤ 601024; omega), (by show sl + 12 + 0 ≤ 7293034; omega)⟩ (Nat.le_of_ble_eq_true rfl) 601 rfl (fun v g2 h => ?_)
  obtain ⟨⟨t, rfl, h⟩, rfl⟩ := h
  refine sx_iload C dL_law_601 1 rfl 603 rfl ?_
  refine sx_icmp_eq C dL_law_603 608 606 (by decide) rfl (fun c1 => ?_) (fun c1 => absurd h.1 c1)
  refine sx_iload C dL_law_608 1 rfl 610 rfl ?_
  refine sx_if_ne C dL_law_610 625 613 (by decide) rfl (fun c2 => ?_) (fun c2 => ?_)
  · refine sx_goto C dL_law_625 2395 (by decide) ?_
    refine sx_widen (k := cl + 9) (n := sl + 54) (by omega) (by omega) ?_
    exact sx_sub [2, 3, 4, 5, 6] rfl (hend _ _ _ h.2.2)
  · refine sx_aload_n C dL_law_613 3 5 rfl rfl 614 rfl ?_
    refine sx_iconst C dL_law_614 0 (by decide) 615 rfl ?_
    refine sx_lald C dL_law_615 616 rfl ?_
    refine sx_iload C dL_law_616 0 rfl 618 rfl ?_
    refine sx_i2l C dL_law_618 619 rfl ?_
    refine sx_lcmp C dL_law_619 620 rfl ?_
    refine sx_if_eq C dL_law_620 625 623 (by decide) rfl (fun c3 => ?_) (fun c3 => absurd ((lg_cmp_eq _ _).mpr (h.2.1 c2)) c3)
    refine sx_goto C dL_law_625 2395 (by decide) ?_
    refine sx_widen (k := cl + 9) (n := sl + 54) (by omega) (by omega) ?_
    exact sx_sub [2, 3, 4, 5, 6] rfl (hend _ _ _ h.2.2)
set_option maxRecDepth 100000 in
set_option maxHeartbeats 4000000 in
theorem case_lend {p : Program} {l : Launch} {e : Env} {s : State} {m : MethodId} {below : List Frame} {meth : Method} {c : Code} {D : va_G} {G : sx_G} {A : Nat → Prop} {b1 b2 bo bs L cl sl : Nat} {xs : Nat → Int32} {Q : State → Prop} {f g : sx_F} {o : Nat → Int64} {i : Int32} {K : sx_F → sx_F → Prop} (hf : l.stackTraces = false) (C : sx_Cx p l s m #[.ref bs] meth c D G A cL_law 7 RL) (hNC : sx_NC s) (hB1 : ∀ k, k < 129 → A (b1 + k)) (hB2 : ∀ k, k < 26 → A (b2 + k)) (hA : A bo) (hd12 : b1 + 129 ≤ b2) (hd2 : b2 + 26 ≤ bo) (hX : va_X bs L xs s s.heap) (hbl : bs < s.heap.size) (hbA : ¬ A bs) (hcl : cl + 9 ≤ 601024 ∧ sl + 54 ≤ 7293034) (hv1 : vp_in (i + 1) L) (hv2 : vp_in (i + 2) L) (hend : ∀ (f1 g1 : sx_F) (o1 : Nat → Int64), K f1 g1 → sx_J (sx_wl D G b1 129 lyX b2 26 lyM bo) p l e room_1 s m #[.ref bs] below meth c A 7 (cl + 9) (sl + 54) Q (f1, g1, o1) 2395 [(0, .ref bs), (1, .ref (b1 + 0)), (2, .ref (b2 + 0)), (3, .ref bo), (4, .int i)] []) (h : P_case_lend f g o (xs (i + 1).toNatClampNeg) (xs (i + 2).toNatClampNeg) K) : sx_J (sx_wl D G b1 129 lyX b2 26 lyM bo) p l e room_1 s m #[.ref bs] below meth c A 7 (cl) (sl) Q (f, g, o) 628 [(0, .ref bs), (1, .ref (b1 + 0)), (2, .ref (b2 + 0)), (3, .ref bo), (4, .int i)] [] := by
  unfold P_case_lend at h
  refine sx_aload_n C dL_law_628 1 1 rfl rfl 629 rfl ?_
  refine sx_aload_n C dL_law_629 0 0 rfl rfl 630 rfl ?_
  refine sx_iload C dL_law_630 4 rfl 632 rfl ?_
  refine sx_iconst C dL_law_632 1 (by decide) 633 rfl ?_
  refine sx_iadd C dL_law_633 634 rfl ?_
  refine sx_sld C hX hbl hbA hv1 dL_law_634 635 rfl ?_
  refine sx_aload_n C dL_law_635 0 0 rfl rfl 636 rfl ?_
  refine sx_iload C dL_law_636 4 rfl 638 rfl ?_
  refine sx_iconst C dL_law_638 2 (by decide) 639 rfl ?_
  refine sx_iadd C dL_law_639 640 rfl ?_
  refine sx_sld C hX hbl hbA hv2 dL_law_640 641 rfl ?_
  refine sx_aload_n C dL_law_641 3 3 rfl rfl 642 rfl ?_
  refine sx_lcallW C hNC hB1 hA hd12 hd2 (st := []) dL_law_642 (c_L_lend hf (by omega) h) wi_L_lend wn_L_lend wt_L_lend lk_L_149 ⟨by decide, by decide, (show _ = some 4 from by decide +kernel)⟩ rfl rfl ⟨⟨(Nat.le_of_ble_eq_true rfl), (Nat.le_of_ble_eq_true rfl)⟩, (by show cl + 3 ≤ 601024; omega), (by show sl + 18 ≤ 7293034; omega)⟩ (Nat.le_of_ble_eq_true rfl) 645 rfl (fun k f1 o1 h => ?_)
  refine sx_istore C dL_law_645 [(5, .int k), (0, .ref bs), (1, .ref (b1 + 0)), (2, .ref (b2 + 0)), (3, .ref bo), (4, .int i)] (by decide) rfl 647 rfl ?_
  refine sx_aload_n C dL_law_647 2 3 rfl rfl 648 rfl ?_
  refine sx_aload_n C dL_law_648 0 1 rfl rfl 649 rfl ?_
  refine sx_iload C dL_law_649 5 rfl 651 rfl ?_
  refine sx_iconst C dL_law_651 1 (by decide) 652 rfl ?_
  refine sx_iadd C dL_law_652 653 rfl ?_
  refine sx_sld C hX hbl hbA hv1 dL_law_653 654 rfl ?_
  refine sx_aload_n C dL_law_654 0 1 rfl rfl 655 rfl ?_
  refine sx_iload C dL_law_655 5 rfl 657 rfl ?_
  refine sx_iconst C dL_law_657 2 (by decide) 658 rfl ?_
  refine sx_iadd C dL_law_658 659 rfl ?_
  refine sx_sld C hX hbl hbA hv2 dL_law_659 660 rfl ?_
  refine sx_lcall2 C hB2 hd12 hd2 (st := []) dL_law_660 (c_X7_lend hf h) mi_X7_lend lk_L_151 mn_X7_lend ms_X7_lend (by decide) lyM_0 rfl rfl rfl rfl ⟨⟨(Nat.le_of_ble_eq_true rfl), (Nat.le_of_ble_eq_true rfl)⟩, (by show cl + 3 + 0 ≤ 601024; omega), (by show sl + 18 + 0 ≤ 7293034; omega)⟩ (Nat.le_of_ble_eq_true rfl) 663 rfl (fun v g1 h => ?_)
  obtain ⟨r, rfl, h⟩ := h
  refine sx_istore C dL_law_663 [(6, .int r), (5, .int k), (0, .ref bs), (1, .ref (b1 + 0)), (2, .ref (b2 + 0)), (3, .ref bo), (4, .int i)] (by decide) rfl 665 rfl ?_
  refine sx_aload_n C dL_law_665 2 4 rfl rfl 666 rfl ?_
  refine sx_lcall2 C hB2 hd12 hd2 (st := []) dL_law_666 (c_X7_thrown hf h) mi_X7_thrown lk_L_129 mn_X7_thrown ms_X7_thrown (by decide) lyM_0 rfl rfl rfl rfl ⟨⟨(Nat.le_of_ble_eq_true rfl), (Nat.le_of_ble_eq_true rfl)⟩, (by show cl + 3 + 0 ≤ 601024; omega), (by show sl + 18 + 0 ≤ 7293034; omega)⟩ (Nat.le_of_ble_eq_true rfl) 669 rfl (fun v g2 h => ?_)
  obtain ⟨⟨t, rfl, h⟩, rfl⟩ := h
  refine sx_iload C dL_law_669 1 rfl 671 rfl ?_
  refine sx_icmp_eq C dL_law_671 676 674 (by decide) rfl (fun c1 => ?_) (fun c1 => absurd h.1 c1)
  refine sx_iload C dL_law_676 1 rfl 678 rfl ?_
  refine sx_if_ne C dL_law_678 693 681 (by decide) rfl (fun c2 => ?_) (fun c2 => ?_)
  · refine sx_goto C dL_law_693 2395 (by decide) ?_
    refine sx_widen (k := cl + 9) (n := sl + 54) (by omega) (by omega) ?_
    exact sx_sub [2, 3, 4, 5, 6] rfl (hend _ _ _ h.2.2)
  · refine sx_aload_n C dL_law_681 3 5 rfl rfl 682 rfl ?_
    refine sx_iconst C dL_law_682 0 (by decide) 683 rfl ?_
    refine sx_lald C dL_law_683 684 rfl ?_
    refine sx_iload C dL_law_684 0 rfl 686 rfl ?_
    refine sx_i2l C dL_law_686 687 rfl ?_
    refine sx_lcmp C dL_law_687 688 rfl ?_
    refine sx_if_eq C dL_law_688 693 691 (by decide) rfl (fun c3 => ?_) (fun c3 => absurd ((lg_cmp_eq _ _).mpr (h.2.1 c2)) c3)
    refine sx_goto C dL_law_693 2395 (by decide) ?_
    refine sx_widen (k := cl + 9) (n := sl + 54) (by omega) (by omega) ?_
    exact sx_sub [2, 3, 4, 5, 6] rfl (hend _ _ _ h.2.2)
set_option maxRecDepth 100000 in
set_option maxHeartbeats 4000000 in
theorem case_giveBack {p : Program} {l : Launch} {e : Env} {s : State} {m : MethodId} {below : List Frame} {meth : Method} {c : Code} {D : va_G} {G : sx_G} {A : Nat → Prop} {b1 b2 bo bs L cl sl : Nat} {xs : Nat → Int32} {Q : State → Prop} {f g : sx_F} {o : Nat → Int64} {i : Int32} {K : sx_F → sx_F → Prop} (hf : l.stackTraces = false) (C : sx_Cx p l s m #[.ref bs] meth c D G A cL_law 7 RL) (hNC : sx_NC s) (hB1 : ∀ k, k < 129 → A (b1 + k)) (hB2 : ∀ k, k < 26 → A (b2 + k)) (hA : A bo) (hd12 : b1 + 129 ≤ b2) (hd2 : b2 + 26 ≤ bo) (hX : va_X bs L xs s s.heap) (hbl : bs < s.heap.size) (hbA : ¬ A bs) (hcl : cl + 9 ≤ 601024 ∧ sl + 54 ≤ 7293034) (hv1 : vp_in (i + 1) L) (hend : ∀ (f1 g1 : sx_F) (o1 : Nat → Int64), K f1 g1 → sx_J (sx_wl D G b1 129 lyX b2 26 lyM bo) p l e room_1 s m #[.ref bs] below meth c A 7 (cl + 9) (sl + 54) Q (f1, g1, o1) 2395 [(0, .ref bs), (1, .ref (b1 + 0)), (2, .ref (b2 + 0)), (3, .ref bo), (4, .int i)] []) (h : P_case_giveBack f g o (xs (i + 1).toNatClampNeg) K) : sx_J (sx_wl D G b1 129 lyX b2 26 lyM bo) p l e room_1 s m #[.ref bs] below meth c A 7 (cl) (sl) Q (f, g, o) 696 [(0, .ref bs), (1, .ref (b1 + 0)), (2, .ref (b2 + 0)), (3, .ref bo), (4, .int i)] [] := by
  unfold P_case_giveBack at h
  refine sx_aload_n C dL_law_696 1 1 rfl rfl 697 rfl ?_
  refine sx_aload_n C dL_law_697 0 0 rfl rfl 698 rfl ?_
  refine sx_iload C dL_law_698 4 rfl 700 rfl ?_
  refine sx_iconst C dL_law_700 1 (by decide) 701 rfl ?_
  refine sx_iadd C dL_law_701 702 rfl ?_
  refine sx_sld C hX hbl hbA hv1 dL_law_702 703 rfl ?_
  refine sx_aload_n C dL_law_703 3 3 rfl rfl 704 rfl ?_
  refine sx_lcallW C hNC hB1 hA hd12 hd2 (st := []) dL_law_704 (c_L_giveBack hf (by omega) h) wi_L_giveBack wn_L_giveBack wt_L_giveBack lk_L_152 ⟨by decide, by decide, (show _ = some 3 from by decide +kernel)⟩ rfl rfl ⟨⟨(Nat.le_of_ble_eq_true rfl), (Nat.le_of_ble_eq_true rfl)⟩, (by show cl + 2 ≤ 601024; omega), (by show sl + 12 ≤ 7293034; omega)⟩ (Nat.le_of_ble_eq_true rfl) 707 rfl (fun k f1 o1 h => ?_)
  refine sx_istore C dL_law_707 [(5, .int k), (0, .ref bs), (1, .ref (b1 + 0)), (2, .ref (b2 + 0)), (3, .ref bo), (4, .int i)] (by decide) rfl 709 rfl ?_
  refine sx_aload_n C dL_law_709 2 3 rfl rfl 710 rfl ?_
  refine sx_aload_n C dL_law_710 0 1 rfl rfl 711 rfl ?_
  refine sx_iload C dL_law_711 5 rfl 713 rfl ?_
  refine sx_iconst C dL_law_713 1 (by decide) 714 rfl ?_
  refine sx_iadd C dL_law_714 715 rfl ?_
  refine sx_sld C hX hbl hbA hv1 dL_law_715 716 rfl ?_
  refine sx_lcall2 C hB2 hd12 hd2 (st := []) dL_law_716 (c_X7_giveBack hf h) mi_X7_giveBack lk_L_154 mn_X7_giveBack ms_X7_giveBack (by decide) lyM_0 rfl rfl rfl rfl ⟨⟨(Nat.le_of_ble_eq_true rfl), (Nat.le_of_ble_eq_true rfl)⟩, (by show cl + 2 + 0 ≤ 601024; omega), (by show sl + 12 + 0 ≤ 7293034; omega)⟩ (Nat.le_of_ble_eq_true rfl) 719 rfl (fun v g1 h => ?_)
  obtain ⟨r, rfl, h⟩ := h
  refine sx_istore C dL_law_719 [(6, .int r), (5, .int k), (0, .ref bs), (1, .ref (b1 + 0)), (2, .ref (b2 + 0)), (3, .ref bo), (4, .int i)] (by decide) rfl 721 rfl ?_
  refine sx_aload_n C dL_law_721 2 4 rfl rfl 722 rfl ?_
  refine sx_lcall2 C hB2 hd12 hd2 (st := []) dL_law_722 (c_X7_thrown hf h) mi_X7_thrown lk_L_129 mn_X7_thrown ms_X7_thrown (by decide) lyM_0 rfl rfl rfl rfl ⟨⟨(Nat.le_of_ble_eq_true rfl), (Nat.le_of_ble_eq_true rfl)⟩, (by show cl + 2 + 0 ≤ 601024; omega), (by show sl + 12 + 0 ≤ 7293034; omega)⟩ (Nat.le_of_ble_eq_true rfl) 725 rfl (fun v g2 h => ?_)
  obtain ⟨⟨t, rfl, h⟩, rfl⟩ := h
  refine sx_iload C dL_law_725 1 rfl 727 rfl ?_
  refine sx_icmp_eq C dL_law_727 732 730 (by decide) rfl (fun c1 => ?_) (fun c1 => absurd h.1 c1)
  refine sx_iload C dL_law_732 1 rfl 734 rfl ?_
  refine sx_if_ne C dL_law_734 749 737 (by decide) rfl (fun c2 => ?_) (fun c2 => ?_)
  · refine sx_goto C dL_law_749 2395 (by decide) ?_
    refine sx_widen (k := cl + 9) (n := sl + 54) (by omega) (by omega) ?_
    exact sx_sub [2, 3, 4, 5, 6] rfl (hend _ _ _ h.2.2)
  · refine sx_aload_n C dL_law_737 3 5 rfl rfl 738 rfl ?_
    refine sx_iconst C dL_law_738 0 (by decide) 739 rfl ?_
    refine sx_lald C dL_law_739 740 rfl ?_
    refine sx_iload C dL_law_740 0 rfl 742 rfl ?_
    refine sx_i2l C dL_law_742 743 rfl ?_
    refine sx_lcmp C dL_law_743 744 rfl ?_
    refine sx_if_eq C dL_law_744 749 747 (by decide) rfl (fun c3 => ?_) (fun c3 => absurd ((lg_cmp_eq _ _).mpr (h.2.1 c2)) c3)
    refine sx_goto C dL_law_749 2395 (by decide) ?_
    refine sx_widen (k := cl + 9) (n := sl + 54) (by omega) (by omega) ?_
    exact sx_sub [2, 3, 4, 5, 6] rfl (hend _ _ _ h.2.2)
set_option maxRecDepth 100000 in
set_option maxHeartbeats 4000000 in
theorem case_paste {p : Program} {l : Launch} {e : Env} {s : State} {m : MethodId} {below : List Frame} {meth : Method} {c : Code} {D : va_G} {G : sx_G} {A : Nat → Prop} {b1 b2 bo bs L cl sl : Nat} {xs : Nat → Int32} {Q : State → Prop} {f g : sx_F} {o : Nat → Int64} {i : Int32} {K : sx_F → sx_F → Prop} (hf : l.stackTraces = false) (C : sx_Cx p l s m #[.ref bs] meth c D G A cL_law 7 RL) (hNC : sx_NC s) (hB1 : ∀ k, k < 129 → A (b1 + k)) (hB2 : ∀ k, k < 26 → A (b2 + k)) (hA : A bo) (hd12 : b1 + 129 ≤ b2) (hd2 : b2 + 26 ≤ bo) (hX : va_X bs L xs s s.heap) (hbl : bs < s.heap.size) (hbA : ¬ A bs) (hcl : cl + 9 ≤ 601024 ∧ sl + 54 ≤ 7293034) (hv1 : vp_in (i + 1) L) (hend : ∀ (f1 g1 : sx_F) (o1 : Nat → Int64), K f1 g1 → sx_J (sx_wl D G b1 129 lyX b2 26 lyM bo) p l e room_1 s m #[.ref bs] below meth c A 7 (cl + 9) (sl + 54) Q (f1, g1, o1) 2395 [(0, .ref bs), (1, .ref (b1 + 0)), (2, .ref (b2 + 0)), (3, .ref bo), (4, .int i)] []) (h : P_case_paste f g o (xs (i + 1).toNatClampNeg) K) : sx_J (sx_wl D G b1 129 lyX b2 26 lyM bo) p l e room_1 s m #[.ref bs] below meth c A 7 (cl) (sl) Q (f, g, o) 752 [(0, .ref bs), (1, .ref (b1 + 0)), (2, .ref (b2 + 0)), (3, .ref bo), (4, .int i)] [] := by
  unfold P_case_paste at h
  refine sx_aload_n C dL_law_752 1 1 rfl rfl 753 rfl ?_
  refine sx_aload_n C dL_law_753 0 0 rfl rfl 754 rfl ?_
  refine sx_iload C dL_law_754 4 rfl 756 rfl ?_
  refine sx_iconst C dL_law_756 1 (by decide) 757 rfl ?_
  refine sx_iadd C dL_law_757 758 rfl ?_
  refine sx_sld C hX hbl hbA hv1 dL_law_758 759 rfl ?_
  refine sx_aload_n C dL_law_759 3 3 rfl rfl 760 rfl ?_
  refine sx_lcallW C hNC hB1 hA hd12 hd2 (st := []) dL_law_760 (c_L_paste hf (by omega) h) wi_L_paste wn_L_paste wt_L_paste lk_L_155 ⟨by decide, by decide, (show _ = some 3 from by decide +kernel)⟩ rfl rfl ⟨⟨(Nat.le_of_ble_eq_true rfl), (Nat.le_of_ble_eq_true rfl)⟩, (by show cl + 2 ≤ 601024; omega), (by show sl + 12 ≤ 7293034; omega)⟩ (Nat.le_of_ble_eq_true rfl) 763 rfl (fun k f1 o1 h => ?_)
  refine sx_istore C dL_law_763 [(5, .int k), (0, .ref bs), (1, .ref (b1 + 0)), (2, .ref (b2 + 0)), (3, .ref bo), (4, .int i)] (by decide) rfl 765 rfl ?_
  refine sx_aload_n C dL_law_765 2 3 rfl rfl 766 rfl ?_
  refine sx_aload_n C dL_law_766 0 1 rfl rfl 767 rfl ?_
  refine sx_iload C dL_law_767 5 rfl 769 rfl ?_
  refine sx_iconst C dL_law_769 1 (by decide) 770 rfl ?_
  refine sx_iadd C dL_law_770 771 rfl ?_
  refine sx_sld C hX hbl hbA hv1 dL_law_771 772 rfl ?_
  refine sx_lcall2 C hB2 hd12 hd2 (st := []) dL_law_772 (c_X7_paste hf h) mi_X7_paste lk_L_157 mn_X7_paste ms_X7_paste (by decide) lyM_0 rfl rfl rfl rfl ⟨⟨(Nat.le_of_ble_eq_true rfl), (Nat.le_of_ble_eq_true rfl)⟩, (by show cl + 2 + 0 ≤ 601024; omega), (by show sl + 12 + 0 ≤ 7293034; omega)⟩ (Nat.le_of_ble_eq_true rfl) 775 rfl (fun v g1 h => ?_)
  obtain ⟨r, rfl, h⟩ := h
  refine sx_istore C dL_law_775 [(6, .int r), (5, .int k), (0, .ref bs), (1, .ref (b1 + 0)), (2, .ref (b2 + 0)), (3, .ref bo), (4, .int i)] (by decide) rfl 777 rfl ?_
  refine sx_aload_n C dL_law_777 2 4 rfl rfl 778 rfl ?_
  refine sx_lcall2 C hB2 hd12 hd2 (st := []) dL_law_778 (c_X7_thrown hf h) mi_X7_thrown lk_L_129 mn_X7_thrown ms_X7_thrown (by decide) lyM_0 rfl rfl rfl rfl ⟨⟨(Nat.le_of_ble_eq_true rfl), (Nat.le_of_ble_eq_true rfl)⟩, (by show cl + 2 + 0 ≤ 601024; omega), (by show sl + 12 + 0 ≤ 7293034; omega)⟩ (Nat.le_of_ble_eq_true rfl) 781 rfl (fun v g2 h => ?_)
  obtain ⟨⟨t, rfl, h⟩, rfl⟩ := h
  refine sx_iload C dL_law_781 1 rfl 783 rfl ?_
  refine sx_icmp_eq C dL_law_783 788 786 (by decide) rfl (fun c1 => ?_) (fun c1 => absurd h.1 c1)
  refine sx_iload C dL_law_788 1 rfl 790 rfl ?_
  refine sx_if_ne C dL_law_790 805 793 (by decide) rfl (fun c2 => ?_) (fun c2 => ?_)
  · refine sx_goto C dL_law_805 2395 (by decide) ?_
    refine sx_widen (k := cl + 9) (n := sl + 54) (by omega) (by omega) ?_
    exact sx_sub [2, 3, 4, 5, 6] rfl (hend _ _ _ h.2.2)
  · refine sx_aload_n C dL_law_793 3 5 rfl rfl 794 rfl ?_
    refine sx_iconst C dL_law_794 0 (by decide) 795 rfl ?_
    refine sx_lald C dL_law_795 796 rfl ?_
    refine sx_iload C dL_law_796 0 rfl 798 rfl ?_
    refine sx_i2l C dL_law_798 799 rfl ?_
    refine sx_lcmp C dL_law_799 800 rfl ?_
    refine sx_if_eq C dL_law_800 805 803 (by decide) rfl (fun c3 => ?_) (fun c3 => absurd ((lg_cmp_eq _ _).mpr (h.2.1 c2)) c3)
    refine sx_goto C dL_law_805 2395 (by decide) ?_
    refine sx_widen (k := cl + 9) (n := sl + 54) (by omega) (by omega) ?_
    exact sx_sub [2, 3, 4, 5, 6] rfl (hend _ _ _ h.2.2)
set_option maxRecDepth 100000 in
set_option maxHeartbeats 4000000 in
theorem case_mark {p : Program} {l : Launch} {e : Env} {s : State} {m : MethodId} {below : List Frame} {meth : Method} {c : Code} {D : va_G} {G : sx_G} {A : Nat → Prop} {b1 b2 bo bs L cl sl : Nat} {xs : Nat → Int32} {Q : State → Prop} {f g : sx_F} {o : Nat → Int64} {i : Int32} {K : sx_F → sx_F → Prop} (hf : l.stackTraces = false) (C : sx_Cx p l s m #[.ref bs] meth c D G A cL_law 7 RL) (hNC : sx_NC s) (hB1 : ∀ k, k < 129 → A (b1 + k)) (hB2 : ∀ k, k < 26 → A (b2 + k)) (hA : A bo) (hd12 : b1 + 129 ≤ b2) (hd2 : b2 + 26 ≤ bo) (hX : va_X bs L xs s s.heap) (hbl : bs < s.heap.size) (hbA : ¬ A bs) (hcl : cl + 9 ≤ 601024 ∧ sl + 54 ≤ 7293034) (hv1 : vp_in (i + 1) L) (hv2 : vp_in (i + 2) L) (hv3 : vp_in (i + 3) L) (hend : ∀ (f1 g1 : sx_F) (o1 : Nat → Int64), K f1 g1 → sx_J (sx_wl D G b1 129 lyX b2 26 lyM bo) p l e room_1 s m #[.ref bs] below meth c A 7 (cl + 9) (sl + 54) Q (f1, g1, o1) 2395 [(0, .ref bs), (1, .ref (b1 + 0)), (2, .ref (b2 + 0)), (3, .ref bo), (4, .int i)] []) (h : P_case_mark f g o (xs (i + 1).toNatClampNeg) (xs (i + 2).toNatClampNeg) (xs (i + 3).toNatClampNeg) K) : sx_J (sx_wl D G b1 129 lyX b2 26 lyM bo) p l e room_1 s m #[.ref bs] below meth c A 7 (cl) (sl) Q (f, g, o) 808 [(0, .ref bs), (1, .ref (b1 + 0)), (2, .ref (b2 + 0)), (3, .ref bo), (4, .int i)] [] := by
  unfold P_case_mark at h
  refine sx_aload_n C dL_law_808 1 1 rfl rfl 809 rfl ?_
  refine sx_aload_n C dL_law_809 0 0 rfl rfl 810 rfl ?_
  refine sx_iload C dL_law_810 4 rfl 812 rfl ?_
  refine sx_iconst C dL_law_812 1 (by decide) 813 rfl ?_
  refine sx_iadd C dL_law_813 814 rfl ?_
  refine sx_sld C hX hbl hbA hv1 dL_law_814 815 rfl ?_
  refine sx_aload_n C dL_law_815 0 0 rfl rfl 816 rfl ?_
  refine sx_iload C dL_law_816 4 rfl 818 rfl ?_
  refine sx_iconst C dL_law_818 2 (by decide) 819 rfl ?_
  refine sx_iadd C dL_law_819 820 rfl ?_
  refine sx_sld C hX hbl hbA hv2 dL_law_820 821 rfl ?_
  refine sx_aload_n C dL_law_821 0 0 rfl rfl 822 rfl ?_
  refine sx_iload C dL_law_822 4 rfl 824 rfl ?_
  refine sx_iconst C dL_law_824 3 (by decide) 825 rfl ?_
  refine sx_iadd C dL_law_825 826 rfl ?_
  refine sx_sld C hX hbl hbA hv3 dL_law_826 827 rfl ?_
  refine sx_aload_n C dL_law_827 3 3 rfl rfl 828 rfl ?_
  refine sx_lcallW C hNC hB1 hA hd12 hd2 (st := []) dL_law_828 (c_L_mark hf (by omega) h) wi_L_mark wn_L_mark wt_L_mark lk_L_158 ⟨by decide, by decide, (show _ = some 5 from by decide +kernel)⟩ rfl rfl ⟨⟨(Nat.le_of_ble_eq_true rfl), (Nat.le_of_ble_eq_true rfl)⟩, (by show cl + 6 ≤ 601024; omega), (by show sl + 36 ≤ 7293034; omega)⟩ (Nat.le_of_ble_eq_true rfl) 831 rfl (fun k f1 o1 h => ?_)
  refine sx_istore C dL_law_831 [(5, .int k), (0, .ref bs), (1, .ref (b1 + 0)), (2, .ref (b2 + 0)), (3, .ref bo), (4, .int i)] (by decide) rfl 833 rfl ?_
  refine sx_aload_n C dL_law_833 2 3 rfl rfl 834 rfl ?_
  refine sx_aload_n C dL_law_834 0 1 rfl rfl 835 rfl ?_
  refine sx_iload C dL_law_835 5 rfl 837 rfl ?_
  refine sx_iconst C dL_law_837 1 (by decide) 838 rfl ?_
  refine sx_iadd C dL_law_838 839 rfl ?_
  refine sx_sld C hX hbl hbA hv1 dL_law_839 840 rfl ?_
  refine sx_aload_n C dL_law_840 0 1 rfl rfl 841 rfl ?_
  refine sx_iload C dL_law_841 5 rfl 843 rfl ?_
  refine sx_iconst C dL_law_843 2 (by decide) 844 rfl ?_
  refine sx_iadd C dL_law_844 845 rfl ?_
  refine sx_sld C hX hbl hbA hv2 dL_law_845 846 rfl ?_
  refine sx_aload_n C dL_law_846 0 1 rfl rfl 847 rfl ?_
  refine sx_iload C dL_law_847 5 rfl 849 rfl ?_
  refine sx_iconst C dL_law_849 3 (by decide) 850 rfl ?_
  refine sx_iadd C dL_law_850 851 rfl ?_
  refine sx_sld C hX hbl hbA hv3 dL_law_851 852 rfl ?_
  refine sx_lcall2 C hB2 hd12 hd2 (st := []) dL_law_852 (c_X7_mark hf h) mi_X7_mark lk_L_161 mn_X7_mark ms_X7_mark (by decide) lyM_0 rfl rfl rfl rfl ⟨⟨(Nat.le_of_ble_eq_true rfl), (Nat.le_of_ble_eq_true rfl)⟩, (by show cl + 6 + 0 ≤ 601024; omega), (by show sl + 36 + 0 ≤ 7293034; omega)⟩ (Nat.le_of_ble_eq_true rfl) 855 rfl (fun v g1 h => ?_)
  obtain ⟨r, rfl, h⟩ := h
  refine sx_istore C dL_law_855 [(6, .int r), (5, .int k), (0, .ref bs), (1, .ref (b1 + 0)), (2, .ref (b2 + 0)), (3, .ref bo), (4, .int i)] (by decide) rfl 857 rfl ?_
  refine sx_aload_n C dL_law_857 2 4 rfl rfl 858 rfl ?_
  refine sx_lcall2 C hB2 hd12 hd2 (st := []) dL_law_858 (c_X7_thrown hf h) mi_X7_thrown lk_L_129 mn_X7_thrown ms_X7_thrown (by decide) lyM_0 rfl rfl rfl rfl ⟨⟨(Nat.le_of_ble_eq_true rfl), (Nat.le_of_ble_eq_true rfl)⟩, (by show cl + 6 + 0 ≤ 601024; omega), (by show sl + 36 + 0 ≤ 7293034; omega)⟩ (Nat.le_of_ble_eq_true rfl) 861 rfl (fun v g2 h => ?_)
  obtain ⟨⟨t, rfl, h⟩, rfl⟩ := h
  refine sx_iload C dL_law_861 1 rfl 863 rfl ?_
  refine sx_icmp_eq C dL_law_863 868 866 (by decide) rfl (fun c1 => ?_) (fun c1 => absurd h.1 c1)
  refine sx_iload C dL_law_868 1 rfl 870 rfl ?_
  refine sx_if_ne C dL_law_870 885 873 (by decide) rfl (fun c2 => ?_) (fun c2 => ?_)
  · refine sx_goto C dL_law_885 2395 (by decide) ?_
    refine sx_widen (k := cl + 9) (n := sl + 54) (by omega) (by omega) ?_
    exact sx_sub [2, 3, 4, 5, 6] rfl (hend _ _ _ h.2.2)
  · refine sx_aload_n C dL_law_873 3 5 rfl rfl 874 rfl ?_
    refine sx_iconst C dL_law_874 0 (by decide) 875 rfl ?_
    refine sx_lald C dL_law_875 876 rfl ?_
    refine sx_iload C dL_law_876 0 rfl 878 rfl ?_
    refine sx_i2l C dL_law_878 879 rfl ?_
    refine sx_lcmp C dL_law_879 880 rfl ?_
    refine sx_if_eq C dL_law_880 885 883 (by decide) rfl (fun c3 => ?_) (fun c3 => absurd ((lg_cmp_eq _ _).mpr (h.2.1 c2)) c3)
    refine sx_goto C dL_law_885 2395 (by decide) ?_
    refine sx_widen (k := cl + 9) (n := sl + 54) (by omega) (by omega) ?_
    exact sx_sub [2, 3, 4, 5, 6] rfl (hend _ _ _ h.2.2)
set_option maxRecDepth 100000 in
set_option maxHeartbeats 4000000 in
theorem case_bow {p : Program} {l : Launch} {e : Env} {s : State} {m : MethodId} {below : List Frame} {meth : Method} {c : Code} {D : va_G} {G : sx_G} {A : Nat → Prop} {b1 b2 bo bs L cl sl : Nat} {xs : Nat → Int32} {Q : State → Prop} {f g : sx_F} {o : Nat → Int64} {i : Int32} {K : sx_F → sx_F → Prop} (hf : l.stackTraces = false) (C : sx_Cx p l s m #[.ref bs] meth c D G A cL_law 7 RL) (hNC : sx_NC s) (hB1 : ∀ k, k < 129 → A (b1 + k)) (hB2 : ∀ k, k < 26 → A (b2 + k)) (hA : A bo) (hd12 : b1 + 129 ≤ b2) (hd2 : b2 + 26 ≤ bo) (hX : va_X bs L xs s s.heap) (hbl : bs < s.heap.size) (hbA : ¬ A bs) (hcl : cl + 9 ≤ 601024 ∧ sl + 54 ≤ 7293034) (hv1 : vp_in (i + 1) L) (hv2 : vp_in (i + 2) L) (hv3 : vp_in (i + 3) L) (hv4 : vp_in (i + 4) L) (hend : ∀ (f1 g1 : sx_F) (o1 : Nat → Int64), K f1 g1 → sx_J (sx_wl D G b1 129 lyX b2 26 lyM bo) p l e room_1 s m #[.ref bs] below meth c A 7 (cl + 9) (sl + 54) Q (f1, g1, o1) 2395 [(0, .ref bs), (1, .ref (b1 + 0)), (2, .ref (b2 + 0)), (3, .ref bo), (4, .int i)] []) (h : P_case_bow f g o (xs (i + 1).toNatClampNeg) (xs (i + 2).toNatClampNeg) (xs (i + 3).toNatClampNeg) (xs (i + 4).toNatClampNeg) K) : sx_J (sx_wl D G b1 129 lyX b2 26 lyM bo) p l e room_1 s m #[.ref bs] below meth c A 7 (cl) (sl) Q (f, g, o) 888 [(0, .ref bs), (1, .ref (b1 + 0)), (2, .ref (b2 + 0)), (3, .ref bo), (4, .int i)] [] := by
  unfold P_case_bow at h
  refine sx_aload_n C dL_law_888 1 1 rfl rfl 889 rfl ?_
  refine sx_aload_n C dL_law_889 0 0 rfl rfl 890 rfl ?_
  refine sx_iload C dL_law_890 4 rfl 892 rfl ?_
  refine sx_iconst C dL_law_892 1 (by decide) 893 rfl ?_
  refine sx_iadd C dL_law_893 894 rfl ?_
  refine sx_sld C hX hbl hbA hv1 dL_law_894 895 rfl ?_
  refine sx_aload_n C dL_law_895 0 0 rfl rfl 896 rfl ?_
  refine sx_iload C dL_law_896 4 rfl 898 rfl ?_
  refine sx_iconst C dL_law_898 2 (by decide) 899 rfl ?_
  refine sx_iadd C dL_law_899 900 rfl ?_
  refine sx_sld C hX hbl hbA hv2 dL_law_900 901 rfl ?_
  refine sx_aload_n C dL_law_901 0 0 rfl rfl 902 rfl ?_
  refine sx_iload C dL_law_902 4 rfl 904 rfl ?_
  refine sx_iconst C dL_law_904 3 (by decide) 905 rfl ?_
  refine sx_iadd C dL_law_905 906 rfl ?_
  refine sx_sld C hX hbl hbA hv3 dL_law_906 907 rfl ?_
  refine sx_aload_n C dL_law_907 0 0 rfl rfl 908 rfl ?_
  refine sx_iload C dL_law_908 4 rfl 910 rfl ?_
  refine sx_iconst C dL_law_910 4 (by decide) 911 rfl ?_
  refine sx_iadd C dL_law_911 912 rfl ?_
  refine sx_sld C hX hbl hbA hv4 dL_law_912 913 rfl ?_
  refine sx_aload_n C dL_law_913 3 3 rfl rfl 914 rfl ?_
  refine sx_lcallW C hNC hB1 hA hd12 hd2 (st := []) dL_law_914 (c_L_bow hf (by omega) h) wi_L_bow wn_L_bow wt_L_bow lk_L_162 ⟨by decide, by decide, (show _ = some 6 from by decide +kernel)⟩ rfl rfl ⟨⟨(Nat.le_of_ble_eq_true rfl), (Nat.le_of_ble_eq_true rfl)⟩, (by show cl + 8 ≤ 601024; omega), (by show sl + 48 ≤ 7293034; omega)⟩ (Nat.le_of_ble_eq_true rfl) 917 rfl (fun k f1 o1 h => ?_)
  refine sx_istore C dL_law_917 [(5, .int k), (0, .ref bs), (1, .ref (b1 + 0)), (2, .ref (b2 + 0)), (3, .ref bo), (4, .int i)] (by decide) rfl 919 rfl ?_
  refine sx_aload_n C dL_law_919 2 3 rfl rfl 920 rfl ?_
  refine sx_aload_n C dL_law_920 0 1 rfl rfl 921 rfl ?_
  refine sx_iload C dL_law_921 5 rfl 923 rfl ?_
  refine sx_iconst C dL_law_923 1 (by decide) 924 rfl ?_
  refine sx_iadd C dL_law_924 925 rfl ?_
  refine sx_sld C hX hbl hbA hv1 dL_law_925 926 rfl ?_
  refine sx_aload_n C dL_law_926 0 1 rfl rfl 927 rfl ?_
  refine sx_iload C dL_law_927 5 rfl 929 rfl ?_
  refine sx_iconst C dL_law_929 2 (by decide) 930 rfl ?_
  refine sx_iadd C dL_law_930 931 rfl ?_
  refine sx_sld C hX hbl hbA hv2 dL_law_931 932 rfl ?_
  refine sx_aload_n C dL_law_932 0 1 rfl rfl 933 rfl ?_
  refine sx_iload C dL_law_933 5 rfl 935 rfl ?_
  refine sx_iconst C dL_law_935 3 (by decide) 936 rfl ?_
  refine sx_iadd C dL_law_936 937 rfl ?_
  refine sx_sld C hX hbl hbA hv3 dL_law_937 938 rfl ?_
  refine sx_aload_n C dL_law_938 0 1 rfl rfl 939 rfl ?_
  refine sx_iload C dL_law_939 5 rfl 941 rfl ?_
  refine sx_iconst C dL_law_941 4 (by decide) 942 rfl ?_
  refine sx_iadd C dL_law_942 943 rfl ?_
  refine sx_sld C hX hbl hbA hv4 dL_law_943 944 rfl ?_
  refine sx_lcall2 C hB2 hd12 hd2 (st := []) dL_law_944 (c_X7_bow hf h) mi_X7_bow lk_L_164 mn_X7_bow ms_X7_bow (by decide) lyM_0 rfl rfl rfl rfl ⟨⟨(Nat.le_of_ble_eq_true rfl), (Nat.le_of_ble_eq_true rfl)⟩, (by show cl + 8 + 0 ≤ 601024; omega), (by show sl + 48 + 0 ≤ 7293034; omega)⟩ (Nat.le_of_ble_eq_true rfl) 947 rfl (fun v g1 h => ?_)
  obtain ⟨r, rfl, h⟩ := h
  refine sx_istore C dL_law_947 [(6, .int r), (5, .int k), (0, .ref bs), (1, .ref (b1 + 0)), (2, .ref (b2 + 0)), (3, .ref bo), (4, .int i)] (by decide) rfl 949 rfl ?_
  refine sx_aload_n C dL_law_949 2 4 rfl rfl 950 rfl ?_
  refine sx_lcall2 C hB2 hd12 hd2 (st := []) dL_law_950 (c_X7_thrown hf h) mi_X7_thrown lk_L_129 mn_X7_thrown ms_X7_thrown (by decide) lyM_0 rfl rfl rfl rfl ⟨⟨(Nat.le_of_ble_eq_true rfl), (Nat.le_of_ble_eq_true rfl)⟩, (by show cl + 8 + 0 ≤ 601024; omega), (by show sl + 48 + 0 ≤ 7293034; omega)⟩ (Nat.le_of_ble_eq_true rfl) 953 rfl (fun v g2 h => ?_)
  obtain ⟨⟨t, rfl, h⟩, rfl⟩ := h
  refine sx_iload C dL_law_953 1 rfl 955 rfl ?_
  refine sx_icmp_eq C dL_law_955 960 958 (by decide) rfl (fun c1 => ?_) (fun c1 => absurd h.1 c1)
  refine sx_iload C dL_law_960 1 rfl 962 rfl ?_
  refine sx_if_ne C dL_law_962 977 965 (by decide) rfl (fun c2 => ?_) (fun c2 => ?_)
  · refine sx_goto C dL_law_977 2395 (by decide) ?_
    refine sx_widen (k := cl + 9) (n := sl + 54) (by omega) (by omega) ?_
    exact sx_sub [2, 3, 4, 5, 6] rfl (hend _ _ _ h.2.2)
  · refine sx_aload_n C dL_law_965 3 5 rfl rfl 966 rfl ?_
    refine sx_iconst C dL_law_966 0 (by decide) 967 rfl ?_
    refine sx_lald C dL_law_967 968 rfl ?_
    refine sx_iload C dL_law_968 0 rfl 970 rfl ?_
    refine sx_i2l C dL_law_970 971 rfl ?_
    refine sx_lcmp C dL_law_971 972 rfl ?_
    refine sx_if_eq C dL_law_972 977 975 (by decide) rfl (fun c3 => ?_) (fun c3 => absurd ((lg_cmp_eq _ _).mpr (h.2.1 c2)) c3)
    refine sx_goto C dL_law_977 2395 (by decide) ?_
    refine sx_widen (k := cl + 9) (n := sl + 54) (by omega) (by omega) ?_
    exact sx_sub [2, 3, 4, 5, 6] rfl (hend _ _ _ h.2.2)
set_option maxRecDepth 100000 in
set_option maxHeartbeats 4000000 in
theorem case_play {p : Program} {l : Launch} {e : Env} {s : State} {m : MethodId} {below : List Frame} {meth : Method} {c : Code} {D : va_G} {G : sx_G} {A : Nat → Prop} {b1 b2 bo bs L cl sl : Nat} {xs : Nat → Int32} {Q : State → Prop} {f g : sx_F} {o : Nat → Int64} {i : Int32} {K : sx_F → sx_F → Prop} (hf : l.stackTraces = false) (C : sx_Cx p l s m #[.ref bs] meth c D G A cL_law 7 RL) (hNC : sx_NC s) (hB1 : ∀ k, k < 129 → A (b1 + k)) (hB2 : ∀ k, k < 26 → A (b2 + k)) (hA : A bo) (hd12 : b1 + 129 ≤ b2) (hd2 : b2 + 26 ≤ bo) (hX : va_X bs L xs s s.heap) (hbl : bs < s.heap.size) (hbA : ¬ A bs) (hcl : cl + 9 ≤ 601024 ∧ sl + 54 ≤ 7293034)  (hend : ∀ (f1 g1 : sx_F) (o1 : Nat → Int64), K f1 g1 → sx_J (sx_wl D G b1 129 lyX b2 26 lyM bo) p l e room_1 s m #[.ref bs] below meth c A 7 (cl + 9) (sl + 54) Q (f1, g1, o1) 2395 [(0, .ref bs), (1, .ref (b1 + 0)), (2, .ref (b2 + 0)), (3, .ref bo), (4, .int i)] []) (h : P_case_play f g o  K) : sx_J (sx_wl D G b1 129 lyX b2 26 lyM bo) p l e room_1 s m #[.ref bs] below meth c A 7 (cl) (sl) Q (f, g, o) 980 [(0, .ref bs), (1, .ref (b1 + 0)), (2, .ref (b2 + 0)), (3, .ref bo), (4, .int i)] [] := by
  unfold P_case_play at h
  refine sx_aload_n C dL_law_980 1 1 rfl rfl 981 rfl ?_
  refine sx_aload_n C dL_law_981 3 3 rfl rfl 982 rfl ?_
  refine sx_lcallW C hNC hB1 hA hd12 hd2 (st := []) dL_law_982 (c_L_play hf (by omega) h) wi_L_play wn_L_play wt_L_play lk_L_165 ⟨by decide, by decide, (show _ = some 2 from by decide +kernel)⟩ rfl rfl ⟨⟨(Nat.le_of_ble_eq_true rfl), (Nat.le_of_ble_eq_true rfl)⟩, (by show cl + 1 ≤ 601024; omega), (by show sl + 6 ≤ 7293034; omega)⟩ (Nat.le_of_ble_eq_true rfl) 985 rfl (fun k f1 o1 h => ?_)
  refine sx_istore C dL_law_985 [(5, .int k), (0, .ref bs), (1, .ref (b1 + 0)), (2, .ref (b2 + 0)), (3, .ref bo), (4, .int i)] (by decide) rfl 987 rfl ?_
  refine sx_aload_n C dL_law_987 2 3 rfl rfl 988 rfl ?_
  refine sx_lcall2 C hB2 hd12 hd2 (st := []) dL_law_988 (c_X7_play hf h) mi_X7_play lk_L_168 mn_X7_play ms_X7_play (by decide) lyM_0 rfl rfl rfl rfl ⟨⟨(Nat.le_of_ble_eq_true rfl), (Nat.le_of_ble_eq_true rfl)⟩, (by show cl + 1 + 0 ≤ 601024; omega), (by show sl + 6 + 0 ≤ 7293034; omega)⟩ (Nat.le_of_ble_eq_true rfl) 991 rfl (fun v g1 h => ?_)
  obtain ⟨r, rfl, h⟩ := h
  refine sx_istore C dL_law_991 [(6, .int r), (5, .int k), (0, .ref bs), (1, .ref (b1 + 0)), (2, .ref (b2 + 0)), (3, .ref bo), (4, .int i)] (by decide) rfl 993 rfl ?_
  refine sx_aload_n C dL_law_993 2 4 rfl rfl 994 rfl ?_
  refine sx_lcall2 C hB2 hd12 hd2 (st := []) dL_law_994 (c_X7_thrown hf h) mi_X7_thrown lk_L_129 mn_X7_thrown ms_X7_thrown (by decide) lyM_0 rfl rfl rfl rfl ⟨⟨(Nat.le_of_ble_eq_true rfl), (Nat.le_of_ble_eq_true rfl)⟩, (by show cl + 1 + 0 ≤ 601024; omega), (by show sl + 6 + 0 ≤ 7293034; omega)⟩ (Nat.le_of_ble_eq_true rfl) 997 rfl (fun v g2 h => ?_)
  obtain ⟨⟨t, rfl, h⟩, rfl⟩ := h
  refine sx_iload C dL_law_997 1 rfl 999 rfl ?_
  refine sx_icmp_eq C dL_law_999 1004 1002 (by decide) rfl (fun c1 => ?_) (fun c1 => absurd h.1 c1)
  refine sx_iload C dL_law_1004 1 rfl 1006 rfl ?_
  refine sx_if_ne C dL_law_1006 1021 1009 (by decide) rfl (fun c2 => ?_) (fun c2 => ?_)
  · refine sx_goto C dL_law_1021 2395 (by decide) ?_
    refine sx_widen (k := cl + 9) (n := sl + 54) (by omega) (by omega) ?_
    exact sx_sub [2, 3, 4, 5, 6] rfl (hend _ _ _ h.2.2)
  · refine sx_aload_n C dL_law_1009 3 5 rfl rfl 1010 rfl ?_
    refine sx_iconst C dL_law_1010 0 (by decide) 1011 rfl ?_
    refine sx_lald C dL_law_1011 1012 rfl ?_
    refine sx_iload C dL_law_1012 0 rfl 1014 rfl ?_
    refine sx_i2l C dL_law_1014 1015 rfl ?_
    refine sx_lcmp C dL_law_1015 1016 rfl ?_
    refine sx_if_eq C dL_law_1016 1021 1019 (by decide) rfl (fun c3 => ?_) (fun c3 => absurd ((lg_cmp_eq _ _).mpr (h.2.1 c2)) c3)
    refine sx_goto C dL_law_1021 2395 (by decide) ?_
    refine sx_widen (k := cl + 9) (n := sl + 54) (by omega) (by omega) ?_
    exact sx_sub [2, 3, 4, 5, 6] rfl (hend _ _ _ h.2.2)
set_option maxRecDepth 100000 in
set_option maxHeartbeats 4000000 in
theorem case_bars {p : Program} {l : Launch} {e : Env} {s : State} {m : MethodId} {below : List Frame} {meth : Method} {c : Code} {D : va_G} {G : sx_G} {A : Nat → Prop} {b1 b2 bo bs L cl sl : Nat} {xs : Nat → Int32} {Q : State → Prop} {f g : sx_F} {o : Nat → Int64} {i : Int32} {K : sx_F → sx_F → Prop} (hf : l.stackTraces = false) (C : sx_Cx p l s m #[.ref bs] meth c D G A cL_law 7 RL) (hNC : sx_NC s) (hB1 : ∀ k, k < 129 → A (b1 + k)) (hB2 : ∀ k, k < 26 → A (b2 + k)) (hA : A bo) (hd12 : b1 + 129 ≤ b2) (hd2 : b2 + 26 ≤ bo) (hX : va_X bs L xs s s.heap) (hbl : bs < s.heap.size) (hbA : ¬ A bs) (hcl : cl + 9 ≤ 601024 ∧ sl + 54 ≤ 7293034) (hend : ∀ (f1 g1 : sx_F) (o1 : Nat → Int64), K f1 g1 → sx_J (sx_wl D G b1 129 lyX b2 26 lyM bo) p l e room_1 s m #[.ref bs] below meth c A 7 (cl + 9) (sl + 54) Q (f1, g1, o1) 2395 [(0, .ref bs), (1, .ref (b1 + 0)), (2, .ref (b2 + 0)), (3, .ref bo), (4, .int i)] []) (h : P_case_bars f g K) : sx_J (sx_wl D G b1 129 lyX b2 26 lyM bo) p l e room_1 s m #[.ref bs] below meth c A 7 (cl) (sl) Q (f, g, o) 1024 [(0, .ref bs), (1, .ref (b1 + 0)), (2, .ref (b2 + 0)), (3, .ref bo), (4, .int i)] [] := by
  unfold P_case_bars at h
  refine sx_aload_n C dL_law_1024 1 1 rfl rfl 1025 rfl ?_
  refine sx_lcall1 C hB1 hd12 hd2 (st := []) dL_law_1025 (c_X6_bars hf h) mi_X6_bars lk_L_169 mn_X6_bars ms_X6_bars (by decide) lyX_0 rfl rfl rfl rfl ⟨⟨(Nat.le_of_ble_eq_true rfl), (Nat.le_of_ble_eq_true rfl)⟩, (by show cl + 0 ≤ 601024; omega), (by show sl + 0 ≤ 7293034; omega)⟩ (Nat.le_of_ble_eq_true rfl) 1028 rfl (fun v f1 h => ?_)
  obtain ⟨⟨r, rfl, h⟩, rfl⟩ := h
  refine sx_aload_n C dL_law_1028 2 2 rfl rfl 1029 rfl ?_
  refine sx_lcall2 C hB2 hd12 hd2 (st := [.int r]) dL_law_1029 (c_X7_bars hf h) mi_X7_bars lk_L_172 mn_X7_bars ms_X7_bars (by decide) lyM_0 rfl rfl rfl rfl ⟨⟨(Nat.le_of_ble_eq_true rfl), (Nat.le_of_ble_eq_true rfl)⟩, (by show cl + 0 + 0 ≤ 601024; omega), (by show sl + 0 + 0 ≤ 7293034; omega)⟩ (Nat.le_of_ble_eq_true rfl) 1032 rfl (fun v g1 h => ?_)
  obtain ⟨b, rfl, h⟩ := h
  refine sx_icmp_eq C dL_law_1032 2395 1035 (by decide) rfl (fun c1 => ?_) (fun c1 => absurd h.1 c1)
  refine sx_widen (k := cl + 9) (n := sl + 54) (by omega) (by omega) ?_
  exact hend _ _ _ h.2
set_option maxRecDepth 100000 in
set_option maxHeartbeats 4000000 in
theorem case_notes {p : Program} {l : Launch} {e : Env} {s : State} {m : MethodId} {below : List Frame} {meth : Method} {c : Code} {D : va_G} {G : sx_G} {A : Nat → Prop} {b1 b2 bo bs L cl sl : Nat} {xs : Nat → Int32} {Q : State → Prop} {f g : sx_F} {o : Nat → Int64} {i : Int32} {K : sx_F → sx_F → Prop} (hf : l.stackTraces = false) (C : sx_Cx p l s m #[.ref bs] meth c D G A cL_law 7 RL) (hNC : sx_NC s) (hB1 : ∀ k, k < 129 → A (b1 + k)) (hB2 : ∀ k, k < 26 → A (b2 + k)) (hA : A bo) (hd12 : b1 + 129 ≤ b2) (hd2 : b2 + 26 ≤ bo) (hX : va_X bs L xs s s.heap) (hbl : bs < s.heap.size) (hbA : ¬ A bs) (hcl : cl + 9 ≤ 601024 ∧ sl + 54 ≤ 7293034) (hv1 : vp_in (i + 1) L) (hv2 : vp_in (i + 2) L) (hend : ∀ (f1 g1 : sx_F) (o1 : Nat → Int64), K f1 g1 → sx_J (sx_wl D G b1 129 lyX b2 26 lyM bo) p l e room_1 s m #[.ref bs] below meth c A 7 (cl + 9) (sl + 54) Q (f1, g1, o1) 2395 [(0, .ref bs), (1, .ref (b1 + 0)), (2, .ref (b2 + 0)), (3, .ref bo), (4, .int i)] []) (h : P_case_notes f g o (xs (i + 1).toNatClampNeg) (xs (i + 2).toNatClampNeg) K) : sx_J (sx_wl D G b1 129 lyX b2 26 lyM bo) p l e room_1 s m #[.ref bs] below meth c A 7 (cl) (sl) Q (f, g, o) 1037 [(0, .ref bs), (1, .ref (b1 + 0)), (2, .ref (b2 + 0)), (3, .ref bo), (4, .int i)] [] := by
  unfold P_case_notes at h
  refine sx_aload_n C dL_law_1037 1 1 rfl rfl 1038 rfl ?_
  refine sx_aload_n C dL_law_1038 0 0 rfl rfl 1039 rfl ?_
  refine sx_iload C dL_law_1039 4 rfl 1041 rfl ?_
  refine sx_iconst C dL_law_1041 1 (by decide) 1042 rfl ?_
  refine sx_iadd C dL_law_1042 1043 rfl ?_
  refine sx_sld C hX hbl hbA hv1 dL_law_1043 1044 rfl ?_
  refine sx_aload_n C dL_law_1044 0 0 rfl rfl 1045 rfl ?_
  refine sx_iload C dL_law_1045 4 rfl 1047 rfl ?_
  refine sx_iconst C dL_law_1047 2 (by decide) 1048 rfl ?_
  refine sx_iadd C dL_law_1048 1049 rfl ?_
  refine sx_sld C hX hbl hbA hv2 dL_law_1049 1050 rfl ?_
  refine sx_aload_n C dL_law_1050 3 3 rfl rfl 1051 rfl ?_
  refine sx_lcallW C hNC hB1 hA hd12 hd2 (st := []) dL_law_1051 (c_L_notes hf (by omega) h) wi_L_notes wn_L_notes wt_L_notes lk_L_173 ⟨by decide, by decide, (show _ = some 4 from by decide +kernel)⟩ rfl rfl ⟨⟨(Nat.le_of_ble_eq_true rfl), (Nat.le_of_ble_eq_true rfl)⟩, (by show cl + 2 ≤ 601024; omega), (by show sl + 12 ≤ 7293034; omega)⟩ (Nat.le_of_ble_eq_true rfl) 1054 rfl (fun k f1 o1 h => ?_)
  refine sx_istore C dL_law_1054 [(5, .int k), (0, .ref bs), (1, .ref (b1 + 0)), (2, .ref (b2 + 0)), (3, .ref bo), (4, .int i)] (by decide) rfl 1056 rfl ?_
  refine sx_aload_n C dL_law_1056 2 3 rfl rfl 1057 rfl ?_
  refine sx_aload_n C dL_law_1057 0 1 rfl rfl 1058 rfl ?_
  refine sx_iload C dL_law_1058 5 rfl 1060 rfl ?_
  refine sx_iconst C dL_law_1060 1 (by decide) 1061 rfl ?_
  refine sx_iadd C dL_law_1061 1062 rfl ?_
  refine sx_sld C hX hbl hbA hv1 dL_law_1062 1063 rfl ?_
  refine sx_aload_n C dL_law_1063 0 1 rfl rfl 1064 rfl ?_
  refine sx_iload C dL_law_1064 5 rfl 1066 rfl ?_
  refine sx_iconst C dL_law_1066 2 (by decide) 1067 rfl ?_
  refine sx_iadd C dL_law_1067 1068 rfl ?_
  refine sx_sld C hX hbl hbA hv2 dL_law_1068 1069 rfl ?_
  refine sx_lcall2 C hB2 hd12 hd2 (st := []) dL_law_1069 (c_X7_notes hf h) mi_X7_notes lk_L_175 mn_X7_notes ms_X7_notes (by decide) lyM_0 rfl rfl rfl rfl ⟨⟨(Nat.le_of_ble_eq_true rfl), (Nat.le_of_ble_eq_true rfl)⟩, (by show cl + 2 + 0 ≤ 601024; omega), (by show sl + 12 + 0 ≤ 7293034; omega)⟩ (Nat.le_of_ble_eq_true rfl) 1072 rfl (fun v g1 h => ?_)
  obtain ⟨r, rfl, h⟩ := h
  refine sx_istore C dL_law_1072 [(6, .int r), (5, .int k), (0, .ref bs), (1, .ref (b1 + 0)), (2, .ref (b2 + 0)), (3, .ref bo), (4, .int i)] (by decide) rfl 1074 rfl ?_
  refine sx_aload_n C dL_law_1074 2 4 rfl rfl 1075 rfl ?_
  refine sx_lcall2 C hB2 hd12 hd2 (st := []) dL_law_1075 (c_X7_thrown hf h) mi_X7_thrown lk_L_129 mn_X7_thrown ms_X7_thrown (by decide) lyM_0 rfl rfl rfl rfl ⟨⟨(Nat.le_of_ble_eq_true rfl), (Nat.le_of_ble_eq_true rfl)⟩, (by show cl + 2 + 0 ≤ 601024; omega), (by show sl + 12 + 0 ≤ 7293034; omega)⟩ (Nat.le_of_ble_eq_true rfl) 1078 rfl (fun v g2 h => ?_)
  obtain ⟨⟨t, rfl, h⟩, rfl⟩ := h
  refine sx_iload C dL_law_1078 1 rfl 1080 rfl ?_
  refine sx_icmp_eq C dL_law_1080 1085 1083 (by decide) rfl (fun c1 => ?_) (fun c1 => absurd h.1 c1)
  refine sx_iload C dL_law_1085 1 rfl 1087 rfl ?_
  refine sx_if_ne C dL_law_1087 1102 1090 (by decide) rfl (fun c2 => ?_) (fun c2 => ?_)
  · refine sx_goto C dL_law_1102 2395 (by decide) ?_
    refine sx_widen (k := cl + 9) (n := sl + 54) (by omega) (by omega) ?_
    exact sx_sub [2, 3, 4, 5, 6] rfl (hend _ _ _ h.2.2)
  · refine sx_aload_n C dL_law_1090 3 5 rfl rfl 1091 rfl ?_
    refine sx_iconst C dL_law_1091 0 (by decide) 1092 rfl ?_
    refine sx_lald C dL_law_1092 1093 rfl ?_
    refine sx_iload C dL_law_1093 0 rfl 1095 rfl ?_
    refine sx_i2l C dL_law_1095 1096 rfl ?_
    refine sx_lcmp C dL_law_1096 1097 rfl ?_
    refine sx_if_eq C dL_law_1097 1102 1100 (by decide) rfl (fun c3 => ?_) (fun c3 => absurd ((lg_cmp_eq _ _).mpr (h.2.1 c2)) c3)
    refine sx_goto C dL_law_1102 2395 (by decide) ?_
    refine sx_widen (k := cl + 9) (n := sl + 54) (by omega) (by omega) ?_
    exact sx_sub [2, 3, 4, 5, 6] rfl (hend _ _ _ h.2.2)
set_option maxRecDepth 100000 in
set_option maxHeartbeats 4000000 in
theorem case_noteAt {p : Program} {l : Launch} {e : Env} {s : State} {m : MethodId} {below : List Frame} {meth : Method} {c : Code} {D : va_G} {G : sx_G} {A : Nat → Prop} {b1 b2 bo bs L cl sl : Nat} {xs : Nat → Int32} {Q : State → Prop} {f g : sx_F} {o : Nat → Int64} {i : Int32} {K : sx_F → sx_F → Prop} (hf : l.stackTraces = false) (C : sx_Cx p l s m #[.ref bs] meth c D G A cL_law 7 RL) (hNC : sx_NC s) (hB1 : ∀ k, k < 129 → A (b1 + k)) (hB2 : ∀ k, k < 26 → A (b2 + k)) (hA : A bo) (hd12 : b1 + 129 ≤ b2) (hd2 : b2 + 26 ≤ bo) (hX : va_X bs L xs s s.heap) (hbl : bs < s.heap.size) (hbA : ¬ A bs) (hcl : cl + 9 ≤ 601024 ∧ sl + 54 ≤ 7293034) (hv1 : vp_in (i + 1) L) (hv2 : vp_in (i + 2) L) (hv3 : vp_in (i + 3) L) (hend : ∀ (f1 g1 : sx_F) (o1 : Nat → Int64), K f1 g1 → sx_J (sx_wl D G b1 129 lyX b2 26 lyM bo) p l e room_1 s m #[.ref bs] below meth c A 7 (cl + 9) (sl + 54) Q (f1, g1, o1) 2395 [(0, .ref bs), (1, .ref (b1 + 0)), (2, .ref (b2 + 0)), (3, .ref bo), (4, .int i)] []) (h : P_case_noteAt f g o (xs (i + 1).toNatClampNeg) (xs (i + 2).toNatClampNeg) (xs (i + 3).toNatClampNeg) K) : sx_J (sx_wl D G b1 129 lyX b2 26 lyM bo) p l e room_1 s m #[.ref bs] below meth c A 7 (cl) (sl) Q (f, g, o) 1105 [(0, .ref bs), (1, .ref (b1 + 0)), (2, .ref (b2 + 0)), (3, .ref bo), (4, .int i)] [] := by
  unfold P_case_noteAt at h
  refine sx_aload_n C dL_law_1105 1 1 rfl rfl 1106 rfl ?_
  refine sx_aload_n C dL_law_1106 0 0 rfl rfl 1107 rfl ?_
  refine sx_iload C dL_law_1107 4 rfl 1109 rfl ?_
  refine sx_iconst C dL_law_1109 1 (by decide) 1110 rfl ?_
  refine sx_iadd C dL_law_1110 1111 rfl ?_
  refine sx_sld C hX hbl hbA hv1 dL_law_1111 1112 rfl ?_
  refine sx_aload_n C dL_law_1112 0 0 rfl rfl 1113 rfl ?_
  refine sx_iload C dL_law_1113 4 rfl 1115 rfl ?_
  refine sx_iconst C dL_law_1115 2 (by decide) 1116 rfl ?_
  refine sx_iadd C dL_law_1116 1117 rfl ?_
  refine sx_sld C hX hbl hbA hv2 dL_law_1117 1118 rfl ?_
  refine sx_aload_n C dL_law_1118 0 0 rfl rfl 1119 rfl ?_
  refine sx_iload C dL_law_1119 4 rfl 1121 rfl ?_
  refine sx_iconst C dL_law_1121 3 (by decide) 1122 rfl ?_
  refine sx_iadd C dL_law_1122 1123 rfl ?_
  refine sx_sld C hX hbl hbA hv3 dL_law_1123 1124 rfl ?_
  refine sx_aload_n C dL_law_1124 3 3 rfl rfl 1125 rfl ?_
  refine sx_lcallW C hNC hB1 hA hd12 hd2 (st := []) dL_law_1125 (c_L_noteAt hf (by omega) h) wi_L_noteAt wn_L_noteAt wt_L_noteAt lk_L_176 ⟨by decide, by decide, (show _ = some 5 from by decide +kernel)⟩ rfl rfl ⟨⟨(Nat.le_of_ble_eq_true rfl), (Nat.le_of_ble_eq_true rfl)⟩, (by show cl + 3 ≤ 601024; omega), (by show sl + 18 ≤ 7293034; omega)⟩ (Nat.le_of_ble_eq_true rfl) 1128 rfl (fun k f1 o1 h => ?_)
  refine sx_istore C dL_law_1128 [(5, .int k), (0, .ref bs), (1, .ref (b1 + 0)), (2, .ref (b2 + 0)), (3, .ref bo), (4, .int i)] (by decide) rfl 1130 rfl ?_
  refine sx_aload_n C dL_law_1130 2 3 rfl rfl 1131 rfl ?_
  refine sx_aload_n C dL_law_1131 0 1 rfl rfl 1132 rfl ?_
  refine sx_iload C dL_law_1132 5 rfl 1134 rfl ?_
  refine sx_iconst C dL_law_1134 1 (by decide) 1135 rfl ?_
  refine sx_iadd C dL_law_1135 1136 rfl ?_
  refine sx_sld C hX hbl hbA hv1 dL_law_1136 1137 rfl ?_
  refine sx_aload_n C dL_law_1137 0 1 rfl rfl 1138 rfl ?_
  refine sx_iload C dL_law_1138 5 rfl 1140 rfl ?_
  refine sx_iconst C dL_law_1140 2 (by decide) 1141 rfl ?_
  refine sx_iadd C dL_law_1141 1142 rfl ?_
  refine sx_sld C hX hbl hbA hv2 dL_law_1142 1143 rfl ?_
  refine sx_aload_n C dL_law_1143 0 1 rfl rfl 1144 rfl ?_
  refine sx_iload C dL_law_1144 5 rfl 1146 rfl ?_
  refine sx_iconst C dL_law_1146 3 (by decide) 1147 rfl ?_
  refine sx_iadd C dL_law_1147 1148 rfl ?_
  refine sx_sld C hX hbl hbA hv3 dL_law_1148 1149 rfl ?_
  refine sx_lcall2 C hB2 hd12 hd2 (st := []) dL_law_1149 (c_X7_noteAt hf h) mi_X7_noteAt lk_L_178 mn_X7_noteAt ms_X7_noteAt (by decide) lyM_0 rfl rfl rfl rfl ⟨⟨(Nat.le_of_ble_eq_true rfl), (Nat.le_of_ble_eq_true rfl)⟩, (by show cl + 3 + 0 ≤ 601024; omega), (by show sl + 18 + 0 ≤ 7293034; omega)⟩ (Nat.le_of_ble_eq_true rfl) 1152 rfl (fun v g1 h => ?_)
  obtain ⟨r, rfl, h⟩ := h
  refine sx_istore C dL_law_1152 [(6, .int r), (5, .int k), (0, .ref bs), (1, .ref (b1 + 0)), (2, .ref (b2 + 0)), (3, .ref bo), (4, .int i)] (by decide) rfl 1154 rfl ?_
  refine sx_aload_n C dL_law_1154 2 4 rfl rfl 1155 rfl ?_
  refine sx_lcall2 C hB2 hd12 hd2 (st := []) dL_law_1155 (c_X7_thrown hf h) mi_X7_thrown lk_L_129 mn_X7_thrown ms_X7_thrown (by decide) lyM_0 rfl rfl rfl rfl ⟨⟨(Nat.le_of_ble_eq_true rfl), (Nat.le_of_ble_eq_true rfl)⟩, (by show cl + 3 + 0 ≤ 601024; omega), (by show sl + 18 + 0 ≤ 7293034; omega)⟩ (Nat.le_of_ble_eq_true rfl) 1158 rfl (fun v g2 h => ?_)
  obtain ⟨⟨t, rfl, h⟩, rfl⟩ := h
  refine sx_iload C dL_law_1158 1 rfl 1160 rfl ?_
  refine sx_icmp_eq C dL_law_1160 1165 1163 (by decide) rfl (fun c1 => ?_) (fun c1 => absurd h.1 c1)
  refine sx_iload C dL_law_1165 1 rfl 1167 rfl ?_
  refine sx_if_ne C dL_law_1167 1182 1170 (by decide) rfl (fun c2 => ?_) (fun c2 => ?_)
  · refine sx_goto C dL_law_1182 2395 (by decide) ?_
    refine sx_widen (k := cl + 9) (n := sl + 54) (by omega) (by omega) ?_
    exact sx_sub [2, 3, 4, 5, 6] rfl (hend _ _ _ h.2.2)
  · refine sx_aload_n C dL_law_1170 3 5 rfl rfl 1171 rfl ?_
    refine sx_iconst C dL_law_1171 0 (by decide) 1172 rfl ?_
    refine sx_lald C dL_law_1172 1173 rfl ?_
    refine sx_iload C dL_law_1173 0 rfl 1175 rfl ?_
    refine sx_i2l C dL_law_1175 1176 rfl ?_
    refine sx_lcmp C dL_law_1176 1177 rfl ?_
    refine sx_if_eq C dL_law_1177 1182 1180 (by decide) rfl (fun c3 => ?_) (fun c3 => absurd ((lg_cmp_eq _ _).mpr (h.2.1 c2)) c3)
    refine sx_goto C dL_law_1182 2395 (by decide) ?_
    refine sx_widen (k := cl + 9) (n := sl + 54) (by omega) (by omega) ?_
    exact sx_sub [2, 3, 4, 5, 6] rfl (hend _ _ _ h.2.2)
set_option maxRecDepth 100000 in
set_option maxHeartbeats 4000000 in
theorem case_version {p : Program} {l : Launch} {e : Env} {s : State} {m : MethodId} {below : List Frame} {meth : Method} {c : Code} {D : va_G} {G : sx_G} {A : Nat → Prop} {b1 b2 bo bs L cl sl : Nat} {xs : Nat → Int32} {Q : State → Prop} {f g : sx_F} {o : Nat → Int64} {i : Int32} {K : sx_F → sx_F → Prop} (hf : l.stackTraces = false) (C : sx_Cx p l s m #[.ref bs] meth c D G A cL_law 7 RL) (hNC : sx_NC s) (hB1 : ∀ k, k < 129 → A (b1 + k)) (hB2 : ∀ k, k < 26 → A (b2 + k)) (hA : A bo) (hd12 : b1 + 129 ≤ b2) (hd2 : b2 + 26 ≤ bo) (hX : va_X bs L xs s s.heap) (hbl : bs < s.heap.size) (hbA : ¬ A bs) (hcl : cl + 9 ≤ 601024 ∧ sl + 54 ≤ 7293034) (hv1 : vp_in (i + 1) L) (hv2 : vp_in (i + 2) L) (hend : ∀ (f1 g1 : sx_F) (o1 : Nat → Int64), K f1 g1 → sx_J (sx_wl D G b1 129 lyX b2 26 lyM bo) p l e room_1 s m #[.ref bs] below meth c A 7 (cl + 9) (sl + 54) Q (f1, g1, o1) 2395 [(0, .ref bs), (1, .ref (b1 + 0)), (2, .ref (b2 + 0)), (3, .ref bo), (4, .int i)] []) (h : P_case_version f g o (xs (i + 1).toNatClampNeg) (xs (i + 2).toNatClampNeg) K) : sx_J (sx_wl D G b1 129 lyX b2 26 lyM bo) p l e room_1 s m #[.ref bs] below meth c A 7 (cl) (sl) Q (f, g, o) 1185 [(0, .ref bs), (1, .ref (b1 + 0)), (2, .ref (b2 + 0)), (3, .ref bo), (4, .int i)] [] := by
  unfold P_case_version at h
  refine sx_aload_n C dL_law_1185 1 1 rfl rfl 1186 rfl ?_
  refine sx_aload_n C dL_law_1186 0 0 rfl rfl 1187 rfl ?_
  refine sx_iload C dL_law_1187 4 rfl 1189 rfl ?_
  refine sx_iconst C dL_law_1189 1 (by decide) 1190 rfl ?_
  refine sx_iadd C dL_law_1190 1191 rfl ?_
  refine sx_sld C hX hbl hbA hv1 dL_law_1191 1192 rfl ?_
  refine sx_aload_n C dL_law_1192 0 0 rfl rfl 1193 rfl ?_
  refine sx_iload C dL_law_1193 4 rfl 1195 rfl ?_
  refine sx_iconst C dL_law_1195 2 (by decide) 1196 rfl ?_
  refine sx_iadd C dL_law_1196 1197 rfl ?_
  refine sx_sld C hX hbl hbA hv2 dL_law_1197 1198 rfl ?_
  refine sx_aload_n C dL_law_1198 3 3 rfl rfl 1199 rfl ?_
  refine sx_lcallW C hNC hB1 hA hd12 hd2 (st := []) dL_law_1199 (c_L_version hf (by omega) h) wi_L_version wn_L_version wt_L_version lk_L_179 ⟨by decide, by decide, (show _ = some 4 from by decide +kernel)⟩ rfl rfl ⟨⟨(Nat.le_of_ble_eq_true rfl), (Nat.le_of_ble_eq_true rfl)⟩, (by show cl + 2 ≤ 601024; omega), (by show sl + 12 ≤ 7293034; omega)⟩ (Nat.le_of_ble_eq_true rfl) 1202 rfl (fun k f1 o1 h => ?_)
  refine sx_istore C dL_law_1202 [(5, .int k), (0, .ref bs), (1, .ref (b1 + 0)), (2, .ref (b2 + 0)), (3, .ref bo), (4, .int i)] (by decide) rfl 1204 rfl ?_
  refine sx_aload_n C dL_law_1204 2 3 rfl rfl 1205 rfl ?_
  refine sx_aload_n C dL_law_1205 0 1 rfl rfl 1206 rfl ?_
  refine sx_iload C dL_law_1206 5 rfl 1208 rfl ?_
  refine sx_iconst C dL_law_1208 1 (by decide) 1209 rfl ?_
  refine sx_iadd C dL_law_1209 1210 rfl ?_
  refine sx_sld C hX hbl hbA hv1 dL_law_1210 1211 rfl ?_
  refine sx_aload_n C dL_law_1211 0 1 rfl rfl 1212 rfl ?_
  refine sx_iload C dL_law_1212 5 rfl 1214 rfl ?_
  refine sx_iconst C dL_law_1214 2 (by decide) 1215 rfl ?_
  refine sx_iadd C dL_law_1215 1216 rfl ?_
  refine sx_sld C hX hbl hbA hv2 dL_law_1216 1217 rfl ?_
  refine sx_lcall2 C hB2 hd12 hd2 (st := []) dL_law_1217 (c_X7_version hf h) mi_X7_version lk_L_181 mn_X7_version ms_X7_version (by decide) lyM_0 rfl rfl rfl rfl ⟨⟨(Nat.le_of_ble_eq_true rfl), (Nat.le_of_ble_eq_true rfl)⟩, (by show cl + 2 + 0 ≤ 601024; omega), (by show sl + 12 + 0 ≤ 7293034; omega)⟩ (Nat.le_of_ble_eq_true rfl) 1220 rfl (fun v g1 h => ?_)
  obtain ⟨r, rfl, h⟩ := h
  refine sx_istore C dL_law_1220 [(6, .int r), (5, .int k), (0, .ref bs), (1, .ref (b1 + 0)), (2, .ref (b2 + 0)), (3, .ref bo), (4, .int i)] (by decide) rfl 1222 rfl ?_
  refine sx_aload_n C dL_law_1222 2 4 rfl rfl 1223 rfl ?_
  refine sx_lcall2 C hB2 hd12 hd2 (st := []) dL_law_1223 (c_X7_thrown hf h) mi_X7_thrown lk_L_129 mn_X7_thrown ms_X7_thrown (by decide) lyM_0 rfl rfl rfl rfl ⟨⟨(Nat.le_of_ble_eq_true rfl), (Nat.le_of_ble_eq_true rfl)⟩, (by show cl + 2 + 0 ≤ 601024; omega), (by show sl + 12 + 0 ≤ 7293034; omega)⟩ (Nat.le_of_ble_eq_true rfl) 1226 rfl (fun v g2 h => ?_)
  obtain ⟨⟨t, rfl, h⟩, rfl⟩ := h
  refine sx_iload C dL_law_1226 1 rfl 1228 rfl ?_
  refine sx_icmp_eq C dL_law_1228 1233 1231 (by decide) rfl (fun c1 => ?_) (fun c1 => absurd h.1 c1)
  refine sx_iload C dL_law_1233 1 rfl 1235 rfl ?_
  refine sx_if_ne C dL_law_1235 1250 1238 (by decide) rfl (fun c2 => ?_) (fun c2 => ?_)
  · refine sx_goto C dL_law_1250 2395 (by decide) ?_
    refine sx_widen (k := cl + 9) (n := sl + 54) (by omega) (by omega) ?_
    exact sx_sub [2, 3, 4, 5, 6] rfl (hend _ _ _ h.2.2)
  · refine sx_aload_n C dL_law_1238 3 5 rfl rfl 1239 rfl ?_
    refine sx_iconst C dL_law_1239 0 (by decide) 1240 rfl ?_
    refine sx_lald C dL_law_1240 1241 rfl ?_
    refine sx_iload C dL_law_1241 0 rfl 1243 rfl ?_
    refine sx_i2l C dL_law_1243 1244 rfl ?_
    refine sx_lcmp C dL_law_1244 1245 rfl ?_
    refine sx_if_eq C dL_law_1245 1250 1248 (by decide) rfl (fun c3 => ?_) (fun c3 => absurd ((lg_cmp_eq _ _).mpr (h.2.1 c2)) c3)
    refine sx_goto C dL_law_1250 2395 (by decide) ?_
    refine sx_widen (k := cl + 9) (n := sl + 54) (by omega) (by omega) ?_
    exact sx_sub [2, 3, 4, 5, 6] rfl (hend _ _ _ h.2.2)
set_option maxRecDepth 100000 in
set_option maxHeartbeats 4000000 in
theorem case_time {p : Program} {l : Launch} {e : Env} {s : State} {m : MethodId} {below : List Frame} {meth : Method} {c : Code} {D : va_G} {G : sx_G} {A : Nat → Prop} {b1 b2 bo bs L cl sl : Nat} {xs : Nat → Int32} {Q : State → Prop} {f g : sx_F} {o : Nat → Int64} {i : Int32} {K : sx_F → sx_F → Prop} (hf : l.stackTraces = false) (C : sx_Cx p l s m #[.ref bs] meth c D G A cL_law 7 RL) (hNC : sx_NC s) (hB1 : ∀ k, k < 129 → A (b1 + k)) (hB2 : ∀ k, k < 26 → A (b2 + k)) (hA : A bo) (hd12 : b1 + 129 ≤ b2) (hd2 : b2 + 26 ≤ bo) (hX : va_X bs L xs s s.heap) (hbl : bs < s.heap.size) (hbA : ¬ A bs) (hcl : cl + 9 ≤ 601024 ∧ sl + 54 ≤ 7293034) (hv1 : vp_in (i + 1) L) (hend : ∀ (f1 g1 : sx_F) (o1 : Nat → Int64), K f1 g1 → sx_J (sx_wl D G b1 129 lyX b2 26 lyM bo) p l e room_1 s m #[.ref bs] below meth c A 7 (cl + 9) (sl + 54) Q (f1, g1, o1) 2395 [(0, .ref bs), (1, .ref (b1 + 0)), (2, .ref (b2 + 0)), (3, .ref bo), (4, .int i)] []) (h : P_case_time f g o (xs (i + 1).toNatClampNeg) K) : sx_J (sx_wl D G b1 129 lyX b2 26 lyM bo) p l e room_1 s m #[.ref bs] below meth c A 7 (cl) (sl) Q (f, g, o) 1253 [(0, .ref bs), (1, .ref (b1 + 0)), (2, .ref (b2 + 0)), (3, .ref bo), (4, .int i)] [] := by
  unfold P_case_time at h
  refine sx_aload_n C dL_law_1253 1 1 rfl rfl 1254 rfl ?_
  refine sx_aload_n C dL_law_1254 0 0 rfl rfl 1255 rfl ?_
  refine sx_iload C dL_law_1255 4 rfl 1257 rfl ?_
  refine sx_iconst C dL_law_1257 1 (by decide) 1258 rfl ?_
  refine sx_iadd C dL_law_1258 1259 rfl ?_
  refine sx_sld C hX hbl hbA hv1 dL_law_1259 1260 rfl ?_
  refine sx_aload_n C dL_law_1260 3 3 rfl rfl 1261 rfl ?_
  refine sx_lcallW C hNC hB1 hA hd12 hd2 (st := []) dL_law_1261 (c_L_time hf (by omega) h) wi_L_time wn_L_time wt_L_time lk_L_182 ⟨by decide, by decide, (show _ = some 3 from by decide +kernel)⟩ rfl rfl ⟨⟨(Nat.le_of_ble_eq_true rfl), (Nat.le_of_ble_eq_true rfl)⟩, (by show cl + 1 ≤ 601024; omega), (by show sl + 6 ≤ 7293034; omega)⟩ (Nat.le_of_ble_eq_true rfl) 1264 rfl (fun k f1 o1 h => ?_)
  refine sx_istore C dL_law_1264 [(5, .int k), (0, .ref bs), (1, .ref (b1 + 0)), (2, .ref (b2 + 0)), (3, .ref bo), (4, .int i)] (by decide) rfl 1266 rfl ?_
  refine sx_aload_n C dL_law_1266 2 3 rfl rfl 1267 rfl ?_
  refine sx_aload_n C dL_law_1267 0 1 rfl rfl 1268 rfl ?_
  refine sx_iload C dL_law_1268 5 rfl 1270 rfl ?_
  refine sx_iconst C dL_law_1270 1 (by decide) 1271 rfl ?_
  refine sx_iadd C dL_law_1271 1272 rfl ?_
  refine sx_sld C hX hbl hbA hv1 dL_law_1272 1273 rfl ?_
  refine sx_lcall2 C hB2 hd12 hd2 (st := []) dL_law_1273 (c_X7_time hf h) mi_X7_time lk_L_184 mn_X7_time ms_X7_time (by decide) lyM_0 rfl rfl rfl rfl ⟨⟨(Nat.le_of_ble_eq_true rfl), (Nat.le_of_ble_eq_true rfl)⟩, (by show cl + 1 + 0 ≤ 601024; omega), (by show sl + 6 + 0 ≤ 7293034; omega)⟩ (Nat.le_of_ble_eq_true rfl) 1276 rfl (fun v g1 h => ?_)
  obtain ⟨r, rfl, h⟩ := h
  refine sx_istore C dL_law_1276 [(6, .int r), (5, .int k), (0, .ref bs), (1, .ref (b1 + 0)), (2, .ref (b2 + 0)), (3, .ref bo), (4, .int i)] (by decide) rfl 1278 rfl ?_
  refine sx_aload_n C dL_law_1278 2 4 rfl rfl 1279 rfl ?_
  refine sx_lcall2 C hB2 hd12 hd2 (st := []) dL_law_1279 (c_X7_thrown hf h) mi_X7_thrown lk_L_129 mn_X7_thrown ms_X7_thrown (by decide) lyM_0 rfl rfl rfl rfl ⟨⟨(Nat.le_of_ble_eq_true rfl), (Nat.le_of_ble_eq_true rfl)⟩, (by show cl + 1 + 0 ≤ 601024; omega), (by show sl + 6 + 0 ≤ 7293034; omega)⟩ (Nat.le_of_ble_eq_true rfl) 1282 rfl (fun v g2 h => ?_)
  obtain ⟨⟨t, rfl, h⟩, rfl⟩ := h
  refine sx_iload C dL_law_1282 1 rfl 1284 rfl ?_
  refine sx_icmp_eq C dL_law_1284 1289 1287 (by decide) rfl (fun c1 => ?_) (fun c1 => absurd h.1 c1)
  refine sx_iload C dL_law_1289 1 rfl 1291 rfl ?_
  refine sx_if_ne C dL_law_1291 1306 1294 (by decide) rfl (fun c2 => ?_) (fun c2 => ?_)
  · refine sx_goto C dL_law_1306 2395 (by decide) ?_
    refine sx_widen (k := cl + 9) (n := sl + 54) (by omega) (by omega) ?_
    exact sx_sub [2, 3, 4, 5, 6] rfl (hend _ _ _ h.2.2)
  · refine sx_aload_n C dL_law_1294 3 5 rfl rfl 1295 rfl ?_
    refine sx_iconst C dL_law_1295 0 (by decide) 1296 rfl ?_
    refine sx_lald C dL_law_1296 1297 rfl ?_
    refine sx_iload C dL_law_1297 0 rfl 1299 rfl ?_
    refine sx_i2l C dL_law_1299 1300 rfl ?_
    refine sx_lcmp C dL_law_1300 1301 rfl ?_
    refine sx_if_eq C dL_law_1301 1306 1304 (by decide) rfl (fun c3 => ?_) (fun c3 => absurd ((lg_cmp_eq _ _).mpr (h.2.1 c2)) c3)
    refine sx_goto C dL_law_1306 2395 (by decide) ?_
    refine sx_widen (k := cl + 9) (n := sl + 54) (by omega) (by omega) ?_
    exact sx_sub [2, 3, 4, 5, 6] rfl (hend _ _ _ h.2.2)
set_option maxRecDepth 100000 in
set_option maxHeartbeats 4000000 in
theorem case_timeByBars {p : Program} {l : Launch} {e : Env} {s : State} {m : MethodId} {below : List Frame} {meth : Method} {c : Code} {D : va_G} {G : sx_G} {A : Nat → Prop} {b1 b2 bo bs L cl sl : Nat} {xs : Nat → Int32} {Q : State → Prop} {f g : sx_F} {o : Nat → Int64} {i : Int32} {K : sx_F → sx_F → Prop} (hf : l.stackTraces = false) (C : sx_Cx p l s m #[.ref bs] meth c D G A cL_law 7 RL) (hNC : sx_NC s) (hB1 : ∀ k, k < 129 → A (b1 + k)) (hB2 : ∀ k, k < 26 → A (b2 + k)) (hA : A bo) (hd12 : b1 + 129 ≤ b2) (hd2 : b2 + 26 ≤ bo) (hX : va_X bs L xs s s.heap) (hbl : bs < s.heap.size) (hbA : ¬ A bs) (hcl : cl + 9 ≤ 601024 ∧ sl + 54 ≤ 7293034) (hv1 : vp_in (i + 1) L) (hend : ∀ (f1 g1 : sx_F) (o1 : Nat → Int64), K f1 g1 → sx_J (sx_wl D G b1 129 lyX b2 26 lyM bo) p l e room_1 s m #[.ref bs] below meth c A 7 (cl + 9) (sl + 54) Q (f1, g1, o1) 2395 [(0, .ref bs), (1, .ref (b1 + 0)), (2, .ref (b2 + 0)), (3, .ref bo), (4, .int i)] []) (h : P_case_timeByBars f g o (xs (i + 1).toNatClampNeg) K) : sx_J (sx_wl D G b1 129 lyX b2 26 lyM bo) p l e room_1 s m #[.ref bs] below meth c A 7 (cl) (sl) Q (f, g, o) 1309 [(0, .ref bs), (1, .ref (b1 + 0)), (2, .ref (b2 + 0)), (3, .ref bo), (4, .int i)] [] := by
  unfold P_case_timeByBars at h
  refine sx_aload_n C dL_law_1309 1 1 rfl rfl 1310 rfl ?_
  refine sx_aload_n C dL_law_1310 0 0 rfl rfl 1311 rfl ?_
  refine sx_iload C dL_law_1311 4 rfl 1313 rfl ?_
  refine sx_iconst C dL_law_1313 1 (by decide) 1314 rfl ?_
  refine sx_iadd C dL_law_1314 1315 rfl ?_
  refine sx_sld C hX hbl hbA hv1 dL_law_1315 1316 rfl ?_
  refine sx_aload_n C dL_law_1316 3 3 rfl rfl 1317 rfl ?_
  refine sx_lcallW C hNC hB1 hA hd12 hd2 (st := []) dL_law_1317 (c_L_timeByBars hf (by omega) h) wi_L_timeByBars wn_L_timeByBars wt_L_timeByBars lk_L_185 ⟨by decide, by decide, (show _ = some 3 from by decide +kernel)⟩ rfl rfl ⟨⟨(Nat.le_of_ble_eq_true rfl), (Nat.le_of_ble_eq_true rfl)⟩, (by show cl + 1 ≤ 601024; omega), (by show sl + 6 ≤ 7293034; omega)⟩ (Nat.le_of_ble_eq_true rfl) 1320 rfl (fun k f1 o1 h => ?_)
  refine sx_istore C dL_law_1320 [(5, .int k), (0, .ref bs), (1, .ref (b1 + 0)), (2, .ref (b2 + 0)), (3, .ref bo), (4, .int i)] (by decide) rfl 1322 rfl ?_
  refine sx_aload_n C dL_law_1322 2 3 rfl rfl 1323 rfl ?_
  refine sx_aload_n C dL_law_1323 0 1 rfl rfl 1324 rfl ?_
  refine sx_iload C dL_law_1324 5 rfl 1326 rfl ?_
  refine sx_iconst C dL_law_1326 1 (by decide) 1327 rfl ?_
  refine sx_iadd C dL_law_1327 1328 rfl ?_
  refine sx_sld C hX hbl hbA hv1 dL_law_1328 1329 rfl ?_
  refine sx_lcall2 C hB2 hd12 hd2 (st := []) dL_law_1329 (c_X7_timeByBars hf h) mi_X7_timeByBars lk_L_187 mn_X7_timeByBars ms_X7_timeByBars (by decide) lyM_0 rfl rfl rfl rfl ⟨⟨(Nat.le_of_ble_eq_true rfl), (Nat.le_of_ble_eq_true rfl)⟩, (by show cl + 1 + 0 ≤ 601024; omega), (by show sl + 6 + 0 ≤ 7293034; omega)⟩ (Nat.le_of_ble_eq_true rfl) 1332 rfl (fun v g1 h => ?_)
  obtain ⟨r, rfl, h⟩ := h
  refine sx_istore C dL_law_1332 [(6, .int r), (5, .int k), (0, .ref bs), (1, .ref (b1 + 0)), (2, .ref (b2 + 0)), (3, .ref bo), (4, .int i)] (by decide) rfl 1334 rfl ?_
  refine sx_aload_n C dL_law_1334 2 4 rfl rfl 1335 rfl ?_
  refine sx_lcall2 C hB2 hd12 hd2 (st := []) dL_law_1335 (c_X7_thrown hf h) mi_X7_thrown lk_L_129 mn_X7_thrown ms_X7_thrown (by decide) lyM_0 rfl rfl rfl rfl ⟨⟨(Nat.le_of_ble_eq_true rfl), (Nat.le_of_ble_eq_true rfl)⟩, (by show cl + 1 + 0 ≤ 601024; omega), (by show sl + 6 + 0 ≤ 7293034; omega)⟩ (Nat.le_of_ble_eq_true rfl) 1338 rfl (fun v g2 h => ?_)
  obtain ⟨⟨t, rfl, h⟩, rfl⟩ := h
  refine sx_iload C dL_law_1338 1 rfl 1340 rfl ?_
  refine sx_icmp_eq C dL_law_1340 1345 1343 (by decide) rfl (fun c1 => ?_) (fun c1 => absurd h.1 c1)
  refine sx_iload C dL_law_1345 1 rfl 1347 rfl ?_
  refine sx_if_ne C dL_law_1347 1362 1350 (by decide) rfl (fun c2 => ?_) (fun c2 => ?_)
  · refine sx_goto C dL_law_1362 2395 (by decide) ?_
    refine sx_widen (k := cl + 9) (n := sl + 54) (by omega) (by omega) ?_
    exact sx_sub [2, 3, 4, 5, 6] rfl (hend _ _ _ h.2.2)
  · refine sx_aload_n C dL_law_1350 3 5 rfl rfl 1351 rfl ?_
    refine sx_iconst C dL_law_1351 0 (by decide) 1352 rfl ?_
    refine sx_lald C dL_law_1352 1353 rfl ?_
    refine sx_iload C dL_law_1353 0 rfl 1355 rfl ?_
    refine sx_i2l C dL_law_1355 1356 rfl ?_
    refine sx_lcmp C dL_law_1356 1357 rfl ?_
    refine sx_if_eq C dL_law_1357 1362 1360 (by decide) rfl (fun c3 => ?_) (fun c3 => absurd ((lg_cmp_eq _ _).mpr (h.2.1 c2)) c3)
    refine sx_goto C dL_law_1362 2395 (by decide) ?_
    refine sx_widen (k := cl + 9) (n := sl + 54) (by omega) (by omega) ?_
    exact sx_sub [2, 3, 4, 5, 6] rfl (hend _ _ _ h.2.2)
