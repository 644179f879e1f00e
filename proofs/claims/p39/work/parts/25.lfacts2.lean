theorem kc_L_218 : Cond.constant RL 218 10000000 ∈ sx_ws := sx_wm 281 (by decide +kernel) rfl
theorem lk_L_219 : Cond.methodLink RL 219 yL_from ∈ sx_ws := sx_wm 282 (by decide +kernel) rfl
theorem mi_L_from : sx_Mi yL_from cL_from 4 (some .int) 3 := ⟨sx_wm 284 (by decide +kernel) rfl, sx_wm 29 (by decide +kernel) rfl, by decide, by decide, by decide +kernel⟩
theorem mt_L_from : Cond.static yL_from ∈ sx_ws := sx_wm 283 (by decide +kernel) rfl
theorem lk_L_223 : Cond.methodLink RL 223 yX6_bar ∈ sx_ws := sx_wm 287 (by decide +kernel) rfl
theorem lk_L_226 : Cond.methodLink RL 226 yX6_time ∈ sx_ws := sx_wm 383 (by decide +kernel) rfl
theorem lk_L_229 : Cond.methodLink RL 229 yX6_timeByBars ∈ sx_ws := sx_wm 406 (by decide +kernel) rfl
theorem lk_L_232 : Cond.methodLink RL 232 yX6_bars ∈ sx_ws := sx_wm 414 (by decide +kernel) rfl
theorem lk_L_235 : Cond.methodLink RL 235 yX6_setPaper ∈ sx_ws := sx_wm 418 (by decide +kernel) rfl
theorem lk_L_238 : Cond.methodLink RL 238 yL_isNoted ∈ sx_ws := sx_wm 422 (by decide +kernel) rfl
theorem mi_L_isNoted : sx_Mi yL_isNoted cL_isNoted 15 (some .boolean) 8 := ⟨sx_wm 424 (by decide +kernel) rfl, sx_wm 29 (by decide +kernel) rfl, by decide, by decide, by decide +kernel⟩
theorem mt_L_isNoted : Cond.static yL_isNoted ∈ sx_ws := sx_wm 423 (by decide +kernel) rfl
theorem lk_L_242 : Cond.methodLink RL 242 yL_isCopied ∈ sx_ws := sx_wm 496 (by decide +kernel) rfl
set_option maxRecDepth 1000000 in
theorem mi_L_isCopied : sx_Mi yL_isCopied cL_isCopied 19 (some .boolean) 9 := ⟨sx_wm 498 rfl rfl, sx_wm 29 (by decide +kernel) rfl, by decide, by decide, by decide +kernel⟩
theorem mt_L_isCopied : Cond.static yL_isCopied ∈ sx_ws := sx_wm 497 (by decide +kernel) rfl
theorem lk_L_246 : Cond.methodLink RL 246 yL_areCopies ∈ sx_ws := sx_wm 621 (by decide +kernel) rfl
theorem mi_L_areCopies : sx_Mi yL_areCopies cL_areCopies 18 (some .boolean) 8 := ⟨sx_wm 623 (by decide +kernel) rfl, sx_wm 29 (by decide +kernel) rfl, by decide, by decide, by decide +kernel⟩
theorem mt_L_areCopies : Cond.static yL_areCopies ∈ sx_ws := sx_wm 622 (by decide +kernel) rfl
theorem lk_L_250 : Cond.methodLink RL 250 yL_isBook ∈ sx_ws := sx_wm 665 (by decide +kernel) rfl
theorem mi_L_isBook : sx_Mi yL_isBook cL_isBook 14 (some .boolean) 7 := ⟨sx_wm 667 (by decide +kernel) rfl, sx_wm 29 (by decide +kernel) rfl, by decide, by decide, by decide +kernel⟩
theorem mt_L_isBook : Cond.static yL_isBook ∈ sx_ws := sx_wm 666 (by decide +kernel) rfl
theorem lkc_L_64 : Cond.classLink RL 64 RX6 ∈ sx_ws := sx_wm 54 (by decide +kernel) rfl
theorem ins_X6 : Cond.instantiable RX6 7 ∈ sx_ws ∧ Cond.initialized RX6 ∈ sx_ws := ⟨sx_wm 55 (by decide +kernel) rfl, sx_wm 30 (by decide +kernel) rfl⟩
theorem dfl_X6 : ∀ j, j < 7 → defaultValue (tyX6 j) = vp_V [.null, .null, .null, .null, .null, .int 0, .int 0] j := fun j hj => by
  rcases (show j = 0 ∨ j = 1 ∨ j = 2 ∨ j = 3 ∨ j = 4 ∨ j = 5 ∨ j = 6 by omega) with rfl | rfl | rfl | rfl | rfl | rfl | rfl <;> rfl
theorem lk_L_217 : Cond.methodLink RL 217 yX6_init ∈ sx_ws := sx_wm 56 (by decide +kernel) rfl
theorem arc_long : Cond.arrayClass FieldType.long ∈ sx_ws := by decide +kernel
theorem kc_L_7 : Cond.constant RL 7 228797 ∈ sx_ws := sx_wm 285 (by decide +kernel) rfl
theorem kc_L_8 : Cond.constant RL 8 2147483647 ∈ sx_ws := sx_wm 286 (by decide +kernel) rfl
theorem mi_L_holds : sx_Mi yL_holds cL_holds 16 (some .boolean) 1 := ⟨sx_wm 53 (by decide +kernel) rfl, sx_wm 29 (by decide +kernel) rfl, by decide, by decide, by decide +kernel⟩
theorem mt_L_holds : Cond.static yL_holds ∈ sx_ws := sx_wm 52 (by decide +kernel) rfl
theorem lk_L_254 : Cond.methodLink RL 254 yL_holds ∈ sx_ws := sx_wm 51 (by decide +kernel) rfl
theorem lk_L_260 : Cond.methodLink RL 260 yL_isHeld ∈ sx_ws := sx_wm 45 (by decide +kernel) rfl
theorem wi_L_isHeld : Cond.codeWith yL_isHeld cL_isHeld 2 (some .boolean) [(0, 4, 5, 69), (0, 4, 8, 258), (0, 4, 11, 154)] ∈ sx_ws := sx_wm 47 (by decide +kernel) rfl
theorem wt_L_isHeld : Cond.static yL_isHeld ∈ sx_ws := sx_wm 46 (by decide +kernel) rfl
theorem wn_L_isHeld : Cond.initialized yL_isHeld.cls ∈ sx_ws := sx_wm 29 (by decide +kernel) rfl
