theorem lk_X4_3 : Cond.methodLink RX4 3 Lib.objectInit ∈ sx_ws := sx_wm 67 (by decide +kernel) rfl
theorem obi : Cond.instanceMethod Lib.objectInit ∈ sx_ws ∧ Cond.code Lib.objectInit ⟨#[0xb1]⟩ 1 none ∈ sx_ws := ⟨sx_wm 60 (by decide +kernel) rfl, sx_wm 61 (by decide +kernel) rfl⟩
theorem arc_int : Cond.arrayClass FieldType.int ∈ sx_ws := sx_wm 101 (by decide +kernel) rfl
theorem mi_X4_init : sx_Mi yX4_init cX4_init 1 (none) 0 := ⟨sx_wm 66 (by decide +kernel) rfl, sx_wm 31 (by decide +kernel) rfl, by decide, by decide, by decide +kernel⟩
theorem mn_X4_init : Cond.instanceMethod yX4_init ∈ sx_ws := sx_wm 65 (by decide +kernel) rfl
theorem lk_X5_3 : Cond.methodLink RX5 3 Lib.objectInit ∈ sx_ws := sx_wm 113 (by decide +kernel) rfl
theorem mi_X5_init : sx_Mi yX5_init cX5_init 1 (none) 0 := ⟨sx_wm 112 (by decide +kernel) rfl, sx_wm 33 (by decide +kernel) rfl, by decide, by decide, by decide +kernel⟩
theorem mn_X5_init : Cond.instanceMethod yX5_init ∈ sx_ws := sx_wm 111 (by decide +kernel) rfl
theorem lk_X0_3 : Cond.methodLink RX0 3 Lib.objectInit ∈ sx_ws := sx_wm 107 (by decide +kernel) rfl
theorem lkc_X0_9 : Cond.classLink RX0 9 RX5 ∈ sx_ws := sx_wm 108 (by decide +kernel) rfl
theorem ins_X5 : Cond.instantiable RX5 5 ∈ sx_ws ∧ Cond.initialized RX5 ∈ sx_ws := ⟨sx_wm 109 (by decide +kernel) rfl, sx_wm 33 (by decide +kernel) rfl⟩
theorem dfl_X5 : ∀ j, j < 5 → defaultValue (tyX5 j) = vp_V [.int 0, .null, .null, .null, .null] j := fun j hj => by
  rcases (show j = 0 ∨ j = 1 ∨ j = 2 ∨ j = 3 ∨ j = 4 by omega) with rfl | rfl | rfl | rfl | rfl <;> rfl
theorem lkn_X0_11 : Cond.methodLinkNest RX0 11 yX5_init RX6 ∈ sx_nw := sx_nm 110 (by decide +kernel) rfl
theorem mi_X0_init : sx_Mi yX0_init cX0_init 2 (none) 1 := ⟨sx_wm 106 (by decide +kernel) rfl, sx_wm 32 (by decide +kernel) rfl, by decide, by decide, by decide +kernel⟩
theorem mn_X0_init : Cond.instanceMethod yX0_init ∈ sx_ws := sx_wm 105 (by decide +kernel) rfl
theorem lk_X3_3 : Cond.methodLink RX3 3 Lib.objectInit ∈ sx_ws := sx_wm 174 (by decide +kernel) rfl
theorem lkc_X3_22 : Cond.classLink RX3 22 ("[" ++ (FieldType.array FieldType.int).toString) ∈ sx_ws := sx_wm 175 (by decide +kernel) rfl
theorem aro_int : Cond.arrayOver (.array .int) ∈ sx_nw := sx_nm 176 (by decide +kernel) rfl
theorem mi_X3_init : sx_Mi yX3_init cX3_init 2 (none) 1 := ⟨sx_wm 173 (by decide +kernel) rfl, sx_wm 34 (by decide +kernel) rfl, by decide, by decide, by decide +kernel⟩
theorem mn_X3_init : Cond.instanceMethod yX3_init ∈ sx_ws := sx_wm 172 (by decide +kernel) rfl
theorem lk_X1_3 : Cond.methodLink RX1 3 Lib.objectInit ∈ sx_ws := sx_wm 222 (by decide +kernel) rfl
theorem mi_X1_init : sx_Mi yX1_init cX1_init 2 (none) 1 := ⟨sx_wm 221 (by decide +kernel) rfl, sx_wm 35 (by decide +kernel) rfl, by decide, by decide, by decide +kernel⟩
theorem mn_X1_init : Cond.instanceMethod yX1_init ∈ sx_ws := sx_wm 220 (by decide +kernel) rfl
theorem lk_X2_3 : Cond.methodLink RX2 3 Lib.objectInit ∈ sx_ws := sx_wm 244 (by decide +kernel) rfl
theorem mi_X2_init : sx_Mi yX2_init cX2_init 1 (none) 0 := ⟨sx_wm 243 (by decide +kernel) rfl, sx_wm 36 (by decide +kernel) rfl, by decide, by decide, by decide +kernel⟩
theorem mn_X2_init : Cond.instanceMethod yX2_init ∈ sx_ws := sx_wm 242 (by decide +kernel) rfl
theorem lk_X6_3 : Cond.methodLink RX6 3 Lib.objectInit ∈ sx_ws := sx_wm 59 (by decide +kernel) rfl
theorem lkc_X6_9 : Cond.classLink RX6 9 RX4 ∈ sx_ws := sx_wm 62 (by decide +kernel) rfl
theorem ins_X4 : Cond.instantiable RX4 7 ∈ sx_ws ∧ Cond.initialized RX4 ∈ sx_ws := ⟨sx_wm 63 (by decide +kernel) rfl, sx_wm 31 (by decide +kernel) rfl⟩
theorem dfl_X4 : ∀ j, j < 7 → defaultValue (tyX4 j) = vp_V [.int 0, .null, .null, .null, .null, .null, .null] j := fun j hj => by
  rcases (show j = 0 ∨ j = 1 ∨ j = 2 ∨ j = 3 ∨ j = 4 ∨ j = 5 ∨ j = 6 by omega) with rfl | rfl | rfl | rfl | rfl | rfl | rfl <;> rfl
theorem lkn_X6_11 : Cond.methodLinkNest RX6 11 yX4_init RX6 ∈ sx_nw := sx_nm 64 (by decide +kernel) rfl
theorem lkc_X6_16 : Cond.classLink RX6 16 RX0 ∈ sx_ws := sx_wm 102 (by decide +kernel) rfl
theorem ins_X0 : Cond.instantiable RX0 9 ∈ sx_ws ∧ Cond.initialized RX0 ∈ sx_ws := ⟨sx_wm 103 (by decide +kernel) rfl, sx_wm 32 (by decide +kernel) rfl⟩
theorem dfl_X0 : ∀ j, j < 9 → defaultValue (tyX0 j) = vp_V [.null, .null, .int 0, .int 0, .null, .null, .null, .null, .null] j := fun j hj => by
  rcases (show j = 0 ∨ j = 1 ∨ j = 2 ∨ j = 3 ∨ j = 4 ∨ j = 5 ∨ j = 6 ∨ j = 7 ∨ j = 8 by omega) with rfl | rfl | rfl | rfl | rfl | rfl | rfl | rfl | rfl <;> rfl
theorem lk_X6_18 : Cond.methodLink RX6 18 yX0_init ∈ sx_ws := sx_wm 104 (by decide +kernel) rfl
theorem lkc_X6_25 : Cond.classLink RX6 25 RX3 ∈ sx_ws := sx_wm 169 (by decide +kernel) rfl
theorem ins_X3 : Cond.instantiable RX3 11 ∈ sx_ws ∧ Cond.initialized RX3 ∈ sx_ws := ⟨sx_wm 170 (by decide +kernel) rfl, sx_wm 34 (by decide +kernel) rfl⟩
theorem dfl_X3 : ∀ j, j < 11 → defaultValue (tyX3 j) = vp_V [.null, .int 0, .int 0, .null, .null, .null, .null, .int 0, .int 0, .null, .null] j := fun j hj => by
  rcases (show j = 0 ∨ j = 1 ∨ j = 2 ∨ j = 3 ∨ j = 4 ∨ j = 5 ∨ j = 6 ∨ j = 7 ∨ j = 8 ∨ j = 9 ∨ j = 10 by omega) with rfl | rfl | rfl | rfl | rfl | rfl | rfl | rfl | rfl | rfl | rfl <;> rfl
theorem lk_X6_27 : Cond.methodLink RX6 27 yX3_init ∈ sx_ws := sx_wm 171 (by decide +kernel) rfl
theorem lkc_X6_34 : Cond.classLink RX6 34 RX1 ∈ sx_ws := sx_wm 216 (by decide +kernel) rfl
theorem aro_X1 : Cond.arrayOver (.object RX1) ∈ sx_nw := sx_nm 217 (by decide +kernel) rfl
theorem ins_X1 : Cond.instantiable RX1 4 ∈ sx_ws ∧ Cond.initialized RX1 ∈ sx_ws := ⟨sx_wm 218 (by decide +kernel) rfl, sx_wm 35 (by decide +kernel) rfl⟩
theorem dfl_X1 : ∀ j, j < 4 → defaultValue (tyX1 j) = vp_V [.null, .int 0, .int 0, .null] j := fun j hj => by
  rcases (show j = 0 ∨ j = 1 ∨ j = 2 ∨ j = 3 by omega) with rfl | rfl | rfl | rfl <;> rfl
theorem lk_X6_40 : Cond.methodLink RX6 40 yX1_init ∈ sx_ws := sx_wm 219 (by decide +kernel) rfl
theorem lkc_X6_41 : Cond.classLink RX6 41 RX2 ∈ sx_ws := sx_wm 238 (by decide +kernel) rfl
theorem aro_X2 : Cond.arrayOver (.object RX2) ∈ sx_nw := sx_nm 239 (by decide +kernel) rfl
theorem ins_X2 : Cond.instantiable RX2 4 ∈ sx_ws ∧ Cond.initialized RX2 ∈ sx_ws := ⟨sx_wm 240 (by decide +kernel) rfl, sx_wm 36 (by decide +kernel) rfl⟩
theorem dfl_X2 : ∀ j, j < 4 → defaultValue (tyX2 j) = vp_V [.null, .null, .null, .null] j := fun j hj => by
  rcases (show j = 0 ∨ j = 1 ∨ j = 2 ∨ j = 3 by omega) with rfl | rfl | rfl | rfl <;> rfl
theorem lkn_X6_47 : Cond.methodLinkNest RX6 47 yX2_init RX6 ∈ sx_nw := sx_nm 241 (by decide +kernel) rfl
theorem mi_X6_init : sx_Mi yX6_init cX6_init 2 (none) 0 := ⟨sx_wm 58 (by decide +kernel) rfl, sx_wm 30 (by decide +kernel) rfl, by decide, by decide, by decide +kernel⟩
theorem mn_X6_init : Cond.instanceMethod yX6_init ∈ sx_ws := sx_wm 57 (by decide +kernel) rfl
