set_option maxRecDepth 100000 in
set_option maxHeartbeats 8000000 in
theorem c_L_cost {l : Launch} {D : va_G} {G : sx_G} {b : Nat} {ad : Nat → Nat} {n : Nat} (hf : l.stackTraces = false) (ok : sl_ok b ad n) (hn : 8 < n) {f a : sx_F} {o : sl_O} {x4 : Int32} {x6 : Int32} {x7 : Int32} {x8 : Int32} {Q : Int32 → Prop} (h : P_L_cost f a o x4 x6 x7 x8 Q) : sl_Met l D G b ad n yL_cost cL_cost 17 (some .int) 4 91 0 0 [.ref (ad 0), .ref (ad 1), .ref (ad 3), .ref (ad 7), .int x4, .ref (ad 8), .int x6, .int x7, .int x8] (f, a, o) (sl_pi (f, a, o) Q) := by
  refine sl_enter (own := RL) hf rfl rfl (Nat.le_of_ble_eq_true rfl) ?_
  intro p e s m args below meth c C hr 
  have hB : ∀ k, k < 129 → sl_A b ad n s.heap.size (b + k) := fun k h => Or.inl ⟨Nat.le_add_right _ _, Nat.add_lt_add_left h _⟩
  have hA : ∀ j, j < n → sl_A b ad n s.heap.size (ad j) := fun j h => Or.inr (Or.inl ⟨j, h, rfl⟩)
  unfold P_L_cost at h
  replace h := h (fun (v9 : Int32) (v10 : Int32) (v11 : Int32) (v12 : Int32) (v13 : Int32) (v14 : Int32) (v15 : Int32) => sx_J (sl_wp D G b ad n) p l e { frames := 4, cells := 0, slots := 0, locals := 91 } s m args below meth c (sl_A b ad n s.heap.size) 17 0 (36 * 0) (sx_fin (sl_wp D G b ad n) (sl_A b ad n s.heap.size) below args s 0 0 (sl_pi (f, a, o) Q) (fun _ _ => False)) (f, a, o) 21 [(0, .ref (ad 0)), (1, .ref (ad 1)), (2, .ref (ad 3)), (3, .ref (ad 7)), (4, .int x4), (5, .ref (ad 8)), (6, .int x6), (7, .int x7), (8, .int x8), (9, .int v9), (10, .int v10), (11, .int v11), (12, .int v12), (13, .int v13), (14, .int v14), (15, .int v15)] [])
  replace h := h (fun (v9 : Int32) (v10 : Int32) (v11 : Int32) (v12 : Int32) (v13 : Int32) (v14 : Int32) (v15 : Int32) => sx_J (sl_wp D G b ad n) p l e { frames := 4, cells := 0, slots := 0, locals := 91 } s m args below meth c (sl_A b ad n s.heap.size) 17 0 (36 * 0) (sx_fin (sl_wp D G b ad n) (sl_A b ad n s.heap.size) below args s 0 0 (sl_pi (f, a, o) Q) (fun _ _ => False)) (f, a, o) 79 [(0, .ref (ad 0)), (1, .ref (ad 1)), (2, .ref (ad 3)), (3, .ref (ad 7)), (4, .int x4), (5, .ref (ad 8)), (6, .int x6), (7, .int x7), (8, .int x8), (9, .int v9), (10, .int v10), (11, .int v11), (12, .int v12), (13, .int v13), (14, .int v14), (15, .int v15)] [])
  replace h := h (fun (v9 : Int32) (v10 : Int32) (v11 : Int32) (v14 : Int32) (v15 : Int32) => sx_J (sl_wp D G b ad n) p l e { frames := 4, cells := 0, slots := 0, locals := 91 } s m args below meth c (sl_A b ad n s.heap.size) 17 0 (36 * 0) (sx_fin (sl_wp D G b ad n) (sl_A b ad n s.heap.size) below args s 0 0 (sl_pi (f, a, o) Q) (fun _ _ => False)) (f, a, o) 95 [(0, .ref (ad 0)), (1, .ref (ad 1)), (2, .ref (ad 3)), (3, .ref (ad 7)), (4, .int x4), (5, .ref (ad 8)), (6, .int x6), (7, .int x7), (8, .int x8), (9, .int v9), (10, .int v10), (11, .int v11), (14, .int v14), (15, .int v15)] [])
  replace h := h (fun (v10 : Int32) (v14 : Int32) (v15 : Int32) (s0 : Int32) (s1 : Int32) => sx_J (sl_wp D G b ad n) p l e { frames := 4, cells := 0, slots := 0, locals := 91 } s m args below meth c (sl_A b ad n s.heap.size) 17 0 (36 * 0) (sx_fin (sl_wp D G b ad n) (sl_A b ad n s.heap.size) below args s 0 0 (sl_pi (f, a, o) Q) (fun _ _ => False)) (f, a, o) 138 [(0, .ref (ad 0)), (1, .ref (ad 1)), (2, .ref (ad 3)), (3, .ref (ad 7)), (4, .int x4), (5, .ref (ad 8)), (6, .int x6), (7, .int x7), (8, .int x8), (10, .int v10), (14, .int v14), (15, .int v15)] [.int s1, .int s0])
  replace h := h (fun (v9 : Int32) (v14 : Int32) (v15 : Int32) (s0 : Int32) => sx_J (sl_wp D G b ad n) p l e { frames := 4, cells := 0, slots := 0, locals := 91 } s m args below meth c (sl_A b ad n s.heap.size) 17 0 (36 * 0) (sx_fin (sl_wp D G b ad n) (sl_A b ad n s.heap.size) below args s 0 0 (sl_pi (f, a, o) Q) (fun _ _ => False)) (f, a, o) 185 [(0, .ref (ad 0)), (1, .ref (ad 1)), (2, .ref (ad 3)), (3, .ref (ad 7)), (4, .int x4), (5, .ref (ad 8)), (6, .int x6), (7, .int x7), (8, .int x8), (9, .int v9), (14, .int v14), (15, .int v15)] [.int s0])
  replace h := h (fun (v9 : Int32) (v14 : Int32) (v15 : Int32) (s0 : Int32) (s1 : Int32) => sx_J (sl_wp D G b ad n) p l e { frames := 4, cells := 0, slots := 0, locals := 91 } s m args below meth c (sl_A b ad n s.heap.size) 17 0 (36 * 0) (sx_fin (sl_wp D G b ad n) (sl_A b ad n s.heap.size) below args s 0 0 (sl_pi (f, a, o) Q) (fun _ _ => False)) (f, a, o) 186 [(0, .ref (ad 0)), (1, .ref (ad 1)), (2, .ref (ad 3)), (3, .ref (ad 7)), (4, .int x4), (5, .ref (ad 8)), (6, .int x6), (7, .int x7), (8, .int x8), (9, .int v9), (14, .int v14), (15, .int v15)] [.int s1, .int s0])
  replace h := h (fun (v9 : Int32) (v10 : Int32) (v11 : Int32) (v12 : Int32) (v13 : Int32) (v14 : Int32) (v15 : Int32) => sx_J (sl_wp D G b ad n) p l e { frames := 4, cells := 0, slots := 0, locals := 91 } s m args below meth c (sl_A b ad n s.heap.size) 17 0 (36 * 0) (sx_fin (sl_wp D G b ad n) (sl_A b ad n s.heap.size) below args s 0 0 (sl_pi (f, a, o) Q) (fun _ _ => False)) (f, a, o) 198 [(0, .ref (ad 0)), (1, .ref (ad 1)), (2, .ref (ad 3)), (3, .ref (ad 7)), (4, .int x4), (5, .ref (ad 8)), (6, .int x6), (7, .int x7), (8, .int x8), (9, .int v9), (10, .int v10), (11, .int v11), (12, .int v12), (13, .int v13), (14, .int v14), (15, .int v15)] [])
  replace h := h (by
    intro v9 v10 v11 v12 v13 v14 v15 h
    refine sx_iload C dL_cost_21 15 rfl 23 rfl ?_
    refine sx_iload C dL_cost_23 6 rfl 25 rfl ?_
    refine sx_icmp_ge C dL_cost_25 204 28 (by decide) rfl (fun c1 => ?_) (fun c1 => ?_)
    · replace h := h.1 c1
      refine sx_iload C dL_cost_204 8 rfl 206 rfl ?_
      refine sx_if_eq C dL_cost_206 214 209 (by decide) rfl (fun c2 => ?_) (fun c2 => ?_)
      · replace h := h.1 c2
        refine sx_iload C dL_cost_214 9 rfl 216 rfl ?_
        refine sx_iload C dL_cost_216 10 rfl 218 rfl ?_
        refine sx_iadd C dL_cost_218 219 rfl ?_
        exact sx_iret C dL_cost_219 hr (Nat.le_of_ble_eq_true rfl) (Nat.le_of_ble_eq_true rfl) ⟨⟨_, rfl, h⟩, rfl⟩
      · replace h := h.2 c2
        refine sx_iload C dL_cost_209 10 rfl 211 rfl ?_
        refine sx_goto C dL_cost_211 219 (by decide) ?_
        exact sx_iret C dL_cost_219 hr (Nat.le_of_ble_eq_true rfl) (Nat.le_of_ble_eq_true rfl) ⟨⟨_, rfl, h⟩, rfl⟩
    · replace h := h.2 c1
      refine sx_iload C dL_cost_28 11 rfl 30 rfl ?_
      refine sx_aload C dL_cost_30 5 rfl 32 rfl ?_
      refine sx_iconst C dL_cost_32 5 (by decide) 33 rfl ?_
      refine sx_iload C dL_cost_33 15 rfl 35 rfl ?_
      refine sx_imul C dL_cost_35 36 rfl ?_
      refine sx_iconst C dL_cost_36 3 (by decide) 37 rfl ?_
      refine sx_iadd C dL_cost_37 38 rfl ?_
      refine sl_iald C dL_cost_38 hn rfl h.1 39 rfl ?_
      replace h := h.2
      refine sx_iadd C dL_cost_39 40 rfl ?_
      refine sx_topi (fun y3 ey3 => ?_)
      replace h := h y3 ey3
      refine sx_istore C dL_cost_40 [(11, .int y3), (0, .ref (ad 0)), (1, .ref (ad 1)), (2, .ref (ad 3)), (3, .ref (ad 7)), (4, .int x4), (5, .ref (ad 8)), (6, .int x6), (7, .int x7), (8, .int x8), (9, .int v9), (10, .int v10), (12, .int v12), (13, .int v13), (14, .int v14), (15, .int v15)] (by decide) rfl 42 rfl ?_
      refine sx_iload C dL_cost_42 12 rfl 44 rfl ?_
      refine sx_aload C dL_cost_44 6 rfl 46 rfl ?_
      refine sx_iconst C dL_cost_46 5 (by decide) 47 rfl ?_
      refine sx_iload C dL_cost_47 15 rfl 49 rfl ?_
      refine sx_imul C dL_cost_49 50 rfl ?_
      refine sx_iconst C dL_cost_50 4 (by decide) 51 rfl ?_
      refine sx_iadd C dL_cost_51 52 rfl ?_
      refine sl_iald C dL_cost_52 hn rfl h.1 53 rfl ?_
      replace h := h.2
      refine sx_iadd C dL_cost_53 54 rfl ?_
      refine sx_topi (fun y4 ey4 => ?_)
      replace h := h y4 ey4
      refine sx_istore C dL_cost_54 [(12, .int y4), (11, .int y3), (0, .ref (ad 0)), (1, .ref (ad 1)), (2, .ref (ad 3)), (3, .ref (ad 7)), (4, .int x4), (5, .ref (ad 8)), (6, .int x6), (7, .int x7), (8, .int x8), (9, .int v9), (10, .int v10), (13, .int v13), (14, .int v14), (15, .int v15)] (by decide) rfl 56 rfl ?_
      obtain ⟨y5, ey5⟩ : ∃ w : Int32, w = v13 + 1 := ⟨_, rfl⟩
      replace h := h y5 ey5
      refine sx_iinc C dL_cost_56 13 rfl y5 (by rw [ey5]; rfl) [(13, .int y5), (12, .int y4), (11, .int y3), (0, .ref (ad 0)), (1, .ref (ad 1)), (2, .ref (ad 3)), (3, .ref (ad 7)), (4, .int x4), (5, .ref (ad 8)), (6, .int x6), (7, .int x7), (8, .int x8), (9, .int v9), (10, .int v10), (14, .int v14), (15, .int v15)] (by decide) rfl 59 rfl ?_
      refine sx_iload C dL_cost_59 15 rfl 61 rfl ?_
      refine sx_iload C dL_cost_61 9 rfl 63 rfl ?_
      refine sx_iconst C dL_cost_63 1 (by decide) 64 rfl ?_
      refine sx_isub C dL_cost_64 65 rfl ?_
      refine sx_icmp_eq C dL_cost_65 79 68 (by decide) rfl (fun c6 => ?_) (fun c6 => ?_)
      · replace h := h.1 c6
        exact sx_sub [3, 4, 5, 6, 7, 8, 9, 10, 11, 12, 13, 2, 1, 0, 14, 15] rfl h
      · replace h := h.2 c6
        refine sx_iload C dL_cost_68 10 rfl 70 rfl ?_
        refine sx_iload C dL_cost_70 15 rfl 72 rfl ?_
        refine sx_ishr C dL_cost_72 73 rfl ?_
        refine sx_iconst C dL_cost_73 1 (by decide) 74 rfl ?_
        refine sx_iand C dL_cost_74 75 rfl ?_
        refine sx_iconst C dL_cost_75 1 (by decide) 76 rfl ?_
        refine sx_icmp_ne C dL_cost_76 198 79 (by decide) rfl (fun c7 => ?_) (fun c7 => ?_)
        · replace h := h.2 c7
          exact sx_sub [3, 4, 5, 6, 7, 8, 9, 10, 11, 12, 13, 2, 1, 0, 14, 15] rfl h
        · replace h := h.1 c7
          exact sx_sub [3, 4, 5, 6, 7, 8, 9, 10, 11, 12, 13, 2, 1, 0, 14, 15] rfl h)
  replace h := h (by
    intro v9 v10 v11 v12 v13 v14 v15 h
    refine sx_iload C dL_cost_79 13 rfl 81 rfl ?_
    refine sx_iconst C dL_cost_81 1 (by decide) 82 rfl ?_
    refine sx_icmp_le C dL_cost_82 95 85 (by decide) rfl (fun c8 => ?_) (fun c8 => ?_)
    · replace h := h.1 c8
      exact sx_sub [0, 1, 2, 3, 4, 5, 6, 7, 8, 9, 10, 11, 14, 15] rfl h
    · replace h := h.2 c8
      refine sx_iload C dL_cost_85 12 rfl 87 rfl ?_
      refine sx_aload_n C dL_cost_87 3 3 rfl rfl 88 rfl ?_
      refine sx_iconst C dL_cost_88 1 (by decide) 89 rfl ?_
      refine sl_iald C dL_cost_89 (Nat.lt_trans (show 7 < 8 by decide) hn) rfl h.1 90 rfl ?_
      replace h := h.2
      refine sx_icmp_le C dL_cost_90 95 93 (by decide) rfl (fun c9 => ?_) (fun c9 => ?_)
      · replace h := h.1 c9
        exact sx_sub [0, 1, 2, 3, 4, 5, 6, 7, 8, 9, 10, 11, 14, 15] rfl h
      · replace h := h.2 c9
        refine sx_iconst C dL_cost_93 (-1) (by decide) 94 rfl ?_
        exact sx_iret C dL_cost_94 hr (Nat.le_of_ble_eq_true rfl) (Nat.le_of_ble_eq_true rfl) ⟨⟨_, rfl, h⟩, rfl⟩)
  replace h := h (by
    intro v9 v10 v11 v14 v15 h
    refine sx_aload_n C dL_cost_95 3 3 rfl rfl 96 rfl ?_
    refine sx_iconst C dL_cost_96 1 (by decide) 97 rfl ?_
    refine sl_iald C dL_cost_97 (Nat.lt_trans (show 7 < 8 by decide) hn) rfl h.1 98 rfl ?_
    replace h := h.2
    refine sx_iload C dL_cost_98 11 rfl 100 rfl ?_
    refine sx_isub C dL_cost_100 101 rfl ?_
    refine sx_topi (fun y10 ey10 => ?_)
    replace h := h y10 ey10
    refine sx_istore C dL_cost_101 [(16, .int y10), (0, .ref (ad 0)), (1, .ref (ad 1)), (2, .ref (ad 3)), (3, .ref (ad 7)), (4, .int x4), (5, .ref (ad 8)), (6, .int x6), (7, .int x7), (8, .int x8), (9, .int v9), (10, .int v10), (11, .int v11), (14, .int v14), (15, .int v15)] (by decide) rfl 103 rfl ?_
    refine sx_iload C dL_cost_103 10 rfl 105 rfl ?_
    refine sx_iload C dL_cost_105 0 rfl 107 rfl ?_
    refine sx_if_ge C dL_cost_107 120 110 (by decide) rfl (fun c11 => ?_) (fun c11 => ?_)
    · replace h := h.1 c11
      refine sx_iload C dL_cost_120 14 rfl 122 rfl ?_
      refine sx_iload C dL_cost_122 7 rfl 124 rfl ?_
      refine sx_iconst C dL_cost_124 1 (by decide) 125 rfl ?_
      refine sx_isub C dL_cost_125 126 rfl ?_
      refine sx_icmp_ne C dL_cost_126 133 129 (by decide) rfl (fun c12 => ?_) (fun c12 => ?_)
      · replace h := h.2 c12
        refine sx_iload C dL_cost_133 0 rfl 135 rfl ?_
        refine sx_iload C dL_cost_135 0 rfl 137 rfl ?_
        refine sx_imul C dL_cost_137 138 rfl ?_
        exact sx_sub [1, 2, 3, 4, 5, 6, 7, 8, 9, 11, 13, 14] rfl h
      · replace h := h.1 c12
        refine sx_iconst C dL_cost_129 0 (by decide) 130 rfl ?_
        refine sx_goto C dL_cost_130 138 (by decide) ?_
        exact sx_sub [1, 2, 3, 4, 5, 6, 7, 8, 9, 11, 13, 14] rfl h
    · replace h := h.2 c11
      refine sx_iconst C dL_cost_110 4 (by decide) 111 rfl ?_
      refine sx_iload C dL_cost_111 0 rfl 113 rfl ?_
      refine sx_imul C dL_cost_113 114 rfl ?_
      refine sx_iload C dL_cost_114 0 rfl 116 rfl ?_
      refine sx_imul C dL_cost_116 117 rfl ?_
      refine sx_goto C dL_cost_117 138 (by decide) ?_
      exact sx_sub [1, 2, 3, 4, 5, 6, 7, 8, 9, 11, 13, 14] rfl h)
  replace h := h (by
    intro v10 v14 v15 s0 s1 h
    refine sx_iadd C dL_cost_138 139 rfl ?_
    refine sx_topi (fun y13 ey13 => ?_)
    replace h := h y13 ey13
    refine sx_istore C dL_cost_139 [(9, .int y13), (0, .ref (ad 0)), (1, .ref (ad 1)), (2, .ref (ad 3)), (3, .ref (ad 7)), (4, .int x4), (5, .ref (ad 8)), (6, .int x6), (7, .int x7), (8, .int x8), (10, .int v10), (14, .int v14), (15, .int v15)] (by decide) rfl 141 rfl ?_
    obtain ⟨y14, ey14⟩ : ∃ w : Int32, w = v14 + 1 := ⟨_, rfl⟩
    replace h := h y14 ey14
    refine sx_iinc C dL_cost_141 11 rfl y14 (by rw [ey14]; rfl) [(14, .int y14), (9, .int y13), (0, .ref (ad 0)), (1, .ref (ad 1)), (2, .ref (ad 3)), (3, .ref (ad 7)), (4, .int x4), (5, .ref (ad 8)), (6, .int x6), (7, .int x7), (8, .int x8), (10, .int v10), (15, .int v15)] (by decide) rfl 144 rfl ?_
    refine sx_iload C dL_cost_144 11 rfl 146 rfl ?_
    refine sx_iload C dL_cost_146 0 rfl 148 rfl ?_
    refine sx_aload_n C dL_cost_148 3 5 rfl rfl 149 rfl ?_
    refine sx_iconst C dL_cost_149 2 (by decide) 150 rfl ?_
    refine sl_iald C dL_cost_150 (Nat.lt_trans (show 7 < 8 by decide) hn) rfl h.1 151 rfl ?_
    replace h := h.2
    refine sx_irem C dL_cost_151 h.1 152 rfl ?_
    replace h := h.2
    refine sx_if_ne C dL_cost_152 185 155 (by decide) rfl (fun c15 => ?_) (fun c15 => ?_)
    · replace h := h.2 c15
      exact sx_sub [2, 3, 4, 5, 6, 7, 8, 9, 10, 1, 0, 12] rfl h
    · replace h := h.1 c15
      refine sx_iload C dL_cost_155 12 rfl 157 rfl ?_
      refine sx_iload C dL_cost_157 8 rfl 159 rfl ?_
      refine sx_iconst C dL_cost_159 1 (by decide) 160 rfl ?_
      refine sx_isub C dL_cost_160 161 rfl ?_
      refine sx_icmp_ge C dL_cost_161 185 164 (by decide) rfl (fun c16 => ?_) (fun c16 => ?_)
      · replace h := h.1 c16
        exact sx_sub [2, 3, 4, 5, 6, 7, 8, 9, 10, 1, 0, 12] rfl h
      · replace h := h.2 c16
        refine sx_aload_n C dL_cost_164 0 2 rfl rfl 165 rfl ?_
        refine sx_aload_n C dL_cost_165 1 3 rfl rfl 166 rfl ?_
        refine sx_aload_n C dL_cost_166 2 4 rfl rfl 167 rfl ?_
        refine sx_aload_n C dL_cost_167 3 5 rfl rfl 168 rfl ?_
        refine sx_iload C dL_cost_168 6 rfl 170 rfl ?_
        refine sx_aload C dL_cost_170 7 rfl 172 rfl ?_
        refine sx_iconst C dL_cost_172 5 (by decide) 173 rfl ?_
        refine sx_iload C dL_cost_173 12 rfl 175 rfl ?_
        refine sx_imul C dL_cost_175 176 rfl ?_
        refine sx_iconst C dL_cost_176 1 (by decide) 177 rfl ?_
        refine sx_iadd C dL_cost_177 178 rfl ?_
        refine sl_iald C dL_cost_178 hn rfl h.1 179 rfl ?_
        replace h := h.2
        refine sl_callS C hB hA (st := [.int v10]) dL_cost_179 (c_L_turn hf ok (Nat.le_of_lt hn) h) mi_L_turn lk_L_48 mt_L_turn rfl rfl ⟨⟨(Nat.le_of_ble_eq_true rfl), (Nat.le_of_ble_eq_true rfl)⟩, (Nat.le_of_ble_eq_true rfl), (Nat.le_of_ble_eq_true rfl)⟩ (Nat.le_of_ble_eq_true rfl) 182 rfl (fun v g18 a19 o20 h => ?_)
        obtain ⟨⟨r17, rfl, h⟩, e9⟩ := h
        cases e9
        refine sx_goto C dL_cost_182 186 (by decide) ?_
        exact sx_sub [2, 3, 4, 5, 6, 7, 8, 9, 10, 1, 0, 12] rfl h)
  replace h := h (by
    intro v9 v14 v15 s0 h
    refine sx_iconst C dL_cost_185 0 (by decide) 186 rfl ?_
    exact sx_sub [0, 1, 2, 3, 4, 5, 6, 7, 8, 9, 10, 11] rfl h)
  replace h := h (by
    intro v9 v14 v15 s0 s1 h
    refine sx_iadd C dL_cost_186 187 rfl ?_
    refine sx_topi (fun y21 ey21 => ?_)
    replace h := h y21 ey21
    refine sx_istore C dL_cost_187 [(10, .int y21), (0, .ref (ad 0)), (1, .ref (ad 1)), (2, .ref (ad 3)), (3, .ref (ad 7)), (4, .int x4), (5, .ref (ad 8)), (6, .int x6), (7, .int x7), (8, .int x8), (9, .int v9), (14, .int v14), (15, .int v15)] (by decide) rfl 189 rfl ?_
    refine sx_iconst C dL_cost_189 0 (by decide) 190 rfl ?_
    refine sx_istore C dL_cost_190 [(11, .int 0), (10, .int y21), (0, .ref (ad 0)), (1, .ref (ad 1)), (2, .ref (ad 3)), (3, .ref (ad 7)), (4, .int x4), (5, .ref (ad 8)), (6, .int x6), (7, .int x7), (8, .int x8), (9, .int v9), (14, .int v14), (15, .int v15)] (by decide) rfl 192 rfl ?_
    refine sx_iconst C dL_cost_192 0 (by decide) 193 rfl ?_
    refine sx_istore C dL_cost_193 [(12, .int 0), (11, .int 0), (10, .int y21), (0, .ref (ad 0)), (1, .ref (ad 1)), (2, .ref (ad 3)), (3, .ref (ad 7)), (4, .int x4), (5, .ref (ad 8)), (6, .int x6), (7, .int x7), (8, .int x8), (9, .int v9), (14, .int v14), (15, .int v15)] (by decide) rfl 195 rfl ?_
    refine sx_iconst C dL_cost_195 0 (by decide) 196 rfl ?_
    refine sx_istore C dL_cost_196 [(13, .int 0), (12, .int 0), (11, .int 0), (10, .int y21), (0, .ref (ad 0)), (1, .ref (ad 1)), (2, .ref (ad 3)), (3, .ref (ad 7)), (4, .int x4), (5, .ref (ad 8)), (6, .int x6), (7, .int x7), (8, .int x8), (9, .int v9), (14, .int v14), (15, .int v15)] (by decide) rfl 198 rfl ?_
    exact sx_sub [4, 5, 6, 7, 8, 9, 10, 11, 12, 13, 3, 2, 1, 0, 14, 15] rfl h)
  replace h := h (by
    intro v9 v10 v11 v12 v13 v14 v15 h
    obtain ⟨y22, ey22⟩ : ∃ w : Int32, w = v15 + 1 := ⟨_, rfl⟩
    replace h := h y22 ey22
    refine sx_iinc C dL_cost_198 15 rfl y22 (by rw [ey22]; rfl) [(15, .int y22), (0, .ref (ad 0)), (1, .ref (ad 1)), (2, .ref (ad 3)), (3, .ref (ad 7)), (4, .int x4), (5, .ref (ad 8)), (6, .int x6), (7, .int x7), (8, .int x8), (9, .int v9), (10, .int v10), (11, .int v11), (12, .int v12), (13, .int v13), (14, .int v14)] (by decide) rfl 201 rfl ?_
    refine sx_goto C dL_cost_201 21 (by decide) ?_
    exact sx_sub [1, 2, 3, 4, 5, 6, 7, 8, 9, 10, 11, 12, 13, 14, 15, 0] rfl h)
  refine sx_sub (lv' := [(0, .ref (ad 0)), (1, .ref (ad 1)), (2, .ref (ad 3)), (3, .ref (ad 7)), (4, .int x4), (5, .ref (ad 8)), (6, .int x6), (7, .int x7), (8, .int x8)]) [0, 1, 2, 3, 4, 5, 6, 7, 8] rfl ?_
  refine sx_iconst C dL_cost_0 0 (by decide) 1 rfl ?_
  refine sx_istore C dL_cost_1 [(9, .int 0), (0, .ref (ad 0)), (1, .ref (ad 1)), (2, .ref (ad 3)), (3, .ref (ad 7)), (4, .int x4), (5, .ref (ad 8)), (6, .int x6), (7, .int x7), (8, .int x8)] (by decide) rfl 3 rfl ?_
  refine sx_iconst C dL_cost_3 0 (by decide) 4 rfl ?_
  refine sx_istore C dL_cost_4 [(10, .int 0), (9, .int 0), (0, .ref (ad 0)), (1, .ref (ad 1)), (2, .ref (ad 3)), (3, .ref (ad 7)), (4, .int x4), (5, .ref (ad 8)), (6, .int x6), (7, .int x7), (8, .int x8)] (by decide) rfl 6 rfl ?_
  refine sx_iconst C dL_cost_6 0 (by decide) 7 rfl ?_
  refine sx_istore C dL_cost_7 [(11, .int 0), (10, .int 0), (9, .int 0), (0, .ref (ad 0)), (1, .ref (ad 1)), (2, .ref (ad 3)), (3, .ref (ad 7)), (4, .int x4), (5, .ref (ad 8)), (6, .int x6), (7, .int x7), (8, .int x8)] (by decide) rfl 9 rfl ?_
  refine sx_iconst C dL_cost_9 0 (by decide) 10 rfl ?_
  refine sx_istore C dL_cost_10 [(12, .int 0), (11, .int 0), (10, .int 0), (9, .int 0), (0, .ref (ad 0)), (1, .ref (ad 1)), (2, .ref (ad 3)), (3, .ref (ad 7)), (4, .int x4), (5, .ref (ad 8)), (6, .int x6), (7, .int x7), (8, .int x8)] (by decide) rfl 12 rfl ?_
  refine sx_iconst C dL_cost_12 0 (by decide) 13 rfl ?_
  refine sx_istore C dL_cost_13 [(13, .int 0), (12, .int 0), (11, .int 0), (10, .int 0), (9, .int 0), (0, .ref (ad 0)), (1, .ref (ad 1)), (2, .ref (ad 3)), (3, .ref (ad 7)), (4, .int x4), (5, .ref (ad 8)), (6, .int x6), (7, .int x7), (8, .int x8)] (by decide) rfl 15 rfl ?_
  refine sx_iconst C dL_cost_15 0 (by decide) 16 rfl ?_
  refine sx_istore C dL_cost_16 [(14, .int 0), (13, .int 0), (12, .int 0), (11, .int 0), (10, .int 0), (9, .int 0), (0, .ref (ad 0)), (1, .ref (ad 1)), (2, .ref (ad 3)), (3, .ref (ad 7)), (4, .int x4), (5, .ref (ad 8)), (6, .int x6), (7, .int x7), (8, .int x8)] (by decide) rfl 18 rfl ?_
  refine sx_iconst C dL_cost_18 0 (by decide) 19 rfl ?_
  refine sx_istore C dL_cost_19 [(15, .int 0), (14, .int 0), (13, .int 0), (12, .int 0), (11, .int 0), (10, .int 0), (9, .int 0), (0, .ref (ad 0)), (1, .ref (ad 1)), (2, .ref (ad 3)), (3, .ref (ad 7)), (4, .int x4), (5, .ref (ad 8)), (6, .int x6), (7, .int x7), (8, .int x8)] (by decide) rfl 21 rfl ?_
  exact sx_sub [7, 8, 9, 10, 11, 12, 13, 14, 15, 6, 5, 4, 3, 2, 1, 0] rfl h
set_option maxRecDepth 100000 in
set_option maxHeartbeats 8000000 in
theorem c_L_lines {l : Launch} {D : va_G} {G : sx_G} {b : Nat} {ad : Nat → Nat} {n : Nat} (hf : l.stackTraces = false) (ok : sl_ok b ad n) (hn : 8 ≤ n) {f a : sx_F} {o : sl_O} {x0 : Int32} {x1 : Int32} {Q : Int32 → Prop} (h : P_L_lines f a o x0 x1 Q) : sl_Met l D G b ad n yL_lines cL_lines 4 (some .int) 1 13 0 0 [.int x0, .int x1] (f, a, o) (sl_pi (f, a, o) Q) := by
  refine sl_enter (own := RL) hf rfl rfl (Nat.le_of_ble_eq_true rfl) ?_
  intro p e s m args below meth c C hr 
  have hB : ∀ k, k < 129 → sl_A b ad n s.heap.size (b + k) := fun k h => Or.inl ⟨Nat.le_add_right _ _, Nat.add_lt_add_left h _⟩
  have hA : ∀ j, j < n → sl_A b ad n s.heap.size (ad j) := fun j h => Or.inr (Or.inl ⟨j, h, rfl⟩)
  unfold P_L_lines at h
  replace h := h (fun (s0 : Int32) => sx_J (sl_wp D G b ad n) p l e { frames := 1, cells := 0, slots := 0, locals := 13 } s m args below meth c (sl_A b ad n s.heap.size) 4 0 (36 * 0) (sx_fin (sl_wp D G b ad n) (sl_A b ad n s.heap.size) below args s 0 0 (sl_pi (f, a, o) Q) (fun _ _ => False)) (f, a, o) 9 [(0, .int x0), (1, .int x1)] [.int s0])
  replace h := h (fun (v2 : Int32) (v3 : Int32) => sx_J (sl_wp D G b ad n) p l e { frames := 1, cells := 0, slots := 0, locals := 13 } s m args below meth c (sl_A b ad n s.heap.size) 4 0 (36 * 0) (sx_fin (sl_wp D G b ad n) (sl_A b ad n s.heap.size) below args s 0 0 (sl_pi (f, a, o) Q) (fun _ _ => False)) (f, a, o) 12 [(0, .int x0), (1, .int x1), (2, .int v2), (3, .int v3)] [])
  replace h := h (by
    intro s0 h
    refine sx_istore_n C dL_lines_9 2 rfl [(2, .int s0), (0, .int x0), (1, .int x1)] (by decide) rfl 10 rfl ?_
    refine sx_iconst C dL_lines_10 0 (by decide) 11 rfl ?_
    refine sx_istore_n C dL_lines_11 3 rfl [(3, .int 0), (2, .int s0), (0, .int x0), (1, .int x1)] (by decide) rfl 12 rfl ?_
    exact sx_sub [2, 3, 1, 0] rfl h)
  replace h := h (by
    intro v2 v3 h
    refine sx_iload_n C dL_lines_12 3 3 rfl rfl 13 rfl ?_
    refine sx_iconst C dL_lines_13 1 (by decide) 14 rfl ?_
    refine sx_iadd C dL_lines_14 15 rfl ?_
    refine sx_iload_n C dL_lines_15 0 0 rfl rfl 16 rfl ?_
    refine sx_icmp_ge C dL_lines_16 33 19 (by decide) rfl (fun c1 => ?_) (fun c1 => ?_)
    · replace h := h.1 c1
      refine sx_iload_n C dL_lines_33 2 2 rfl rfl 34 rfl ?_
      exact sx_iret C dL_lines_34 hr (Nat.le_of_ble_eq_true rfl) (Nat.le_of_ble_eq_true rfl) ⟨⟨_, rfl, h⟩, rfl⟩
    · replace h := h.2 c1
      refine sx_iload_n C dL_lines_19 2 2 rfl rfl 20 rfl ?_
      refine sx_iload_n C dL_lines_20 1 1 rfl rfl 21 rfl ?_
      refine sx_iload_n C dL_lines_21 3 3 rfl rfl 22 rfl ?_
      refine sx_ishr C dL_lines_22 23 rfl ?_
      refine sx_iconst C dL_lines_23 1 (by decide) 24 rfl ?_
      refine sx_iand C dL_lines_24 25 rfl ?_
      refine sx_iadd C dL_lines_25 26 rfl ?_
      refine sx_topi (fun y2 ey2 => ?_)
      replace h := h y2 ey2
      refine sx_istore_n C dL_lines_26 2 rfl [(2, .int y2), (0, .int x0), (1, .int x1), (3, .int v3)] (by decide) rfl 27 rfl ?_
      obtain ⟨y3, ey3⟩ : ∃ w : Int32, w = v3 + 1 := ⟨_, rfl⟩
      replace h := h y3 ey3
      refine sx_iinc C dL_lines_27 3 rfl y3 (by rw [ey3]; rfl) [(3, .int y3), (2, .int y2), (0, .int x0), (1, .int x1)] (by decide) rfl 30 rfl ?_
      refine sx_goto C dL_lines_30 12 (by decide) ?_
      exact sx_sub [2, 3, 1, 0] rfl h)
  refine sx_sub (lv' := [(0, .int x0), (1, .int x1)]) [0, 1] rfl ?_
  refine sx_iload_n C dL_lines_0 0 0 rfl rfl 1 rfl ?_
  refine sx_if_ne C dL_lines_1 8 4 (by decide) rfl (fun c4 => ?_) (fun c4 => ?_)
  · replace h := h.2 c4
    refine sx_iconst C dL_lines_8 1 (by decide) 9 rfl ?_
    exact sx_sub [0, 1] rfl h
  · replace h := h.1 c4
    refine sx_iconst C dL_lines_4 0 (by decide) 5 rfl ?_
    refine sx_goto C dL_lines_5 9 (by decide) ?_
    exact sx_sub [0, 1] rfl h
set_option maxRecDepth 100000 in
set_option maxHeartbeats 8000000 in
theorem c_L_row {l : Launch} {D : va_G} {G : sx_G} {b : Nat} {ad : Nat → Nat} {n : Nat} (hf : l.stackTraces = false) (ok : sl_ok b ad n) (hn : 8 ≤ n) {f a : sx_F} {o : sl_O} {x0 : Int32} {x1 : Int32} {Q : Int32 → Prop} (h : P_L_row f a o x0 x1 Q) : sl_Met l D G b ad n yL_row cL_row 5 (some .int) 1 13 0 0 [.int x0, .int x1] (f, a, o) (sl_pi (f, a, o) Q) := by
  refine sl_enter (own := RL) hf rfl rfl (Nat.le_of_ble_eq_true rfl) ?_
  intro p e s m args below meth c C hr 
  have hB : ∀ k, k < 129 → sl_A b ad n s.heap.size (b + k) := fun k h => Or.inl ⟨Nat.le_add_right _ _, Nat.add_lt_add_left h _⟩
  have hA : ∀ j, j < n → sl_A b ad n s.heap.size (ad j) := fun j h => Or.inr (Or.inl ⟨j, h, rfl⟩)
  unfold P_L_row at h
  replace h := h (fun (v2 : Int32) (v3 : Int32) (v4 : Int32) => sx_J (sl_wp D G b ad n) p l e { frames := 1, cells := 0, slots := 0, locals := 13 } s m args below meth c (sl_A b ad n s.heap.size) 5 0 (36 * 0) (sx_fin (sl_wp D G b ad n) (sl_A b ad n s.heap.size) below args s 0 0 (sl_pi (f, a, o) Q) (fun _ _ => False)) (f, a, o) 7 [(0, .int x0), (1, .int x1), (2, .int v2), (3, .int v3), (4, .int v4)] [])
  replace h := h (fun (v2 : Int32) (v3 : Int32) (v4 : Int32) => sx_J (sl_wp D G b ad n) p l e { frames := 1, cells := 0, slots := 0, locals := 13 } s m args below meth c (sl_A b ad n s.heap.size) 5 0 (36 * 0) (sx_fin (sl_wp D G b ad n) (sl_A b ad n s.heap.size) below args s 0 0 (sl_pi (f, a, o) Q) (fun _ _ => False)) (f, a, o) 34 [(0, .int x0), (1, .int x1), (2, .int v2), (3, .int v3), (4, .int v4)] [])
  replace h := h (fun (v2 : Int32) (v3 : Int32) (v4 : Int32) => sx_J (sl_wp D G b ad n) p l e { frames := 1, cells := 0, slots := 0, locals := 13 } s m args below meth c (sl_A b ad n s.heap.size) 5 0 (36 * 0) (sx_fin (sl_wp D G b ad n) (sl_A b ad n s.heap.size) below args s 0 0 (sl_pi (f, a, o) Q) (fun _ _ => False)) (f, a, o) 43 [(0, .int x0), (1, .int x1), (2, .int v2), (3, .int v3), (4, .int v4)] [])
  replace h := h (by
    intro v2 v3 v4 h
    refine sx_iload C dL_row_7 4 rfl 9 rfl ?_
    refine sx_iload_n C dL_row_9 0 0 rfl rfl 10 rfl ?_
    refine sx_icmp_ge C dL_row_10 49 13 (by decide) rfl (fun c1 => ?_) (fun c1 => ?_)
    · replace h := h.1 c1
      refine sx_iload_n C dL_row_49 2 2 rfl rfl 50 rfl ?_
      exact sx_iret C dL_row_50 hr (Nat.le_of_ble_eq_true rfl) (Nat.le_of_ble_eq_true rfl) ⟨⟨_, rfl, h⟩, rfl⟩
    · replace h := h.2 c1
      obtain ⟨y2, ey2⟩ : ∃ w : Int32, w = v3 + 1 := ⟨_, rfl⟩
      replace h := h y2 ey2
      refine sx_iinc C dL_row_13 3 rfl y2 (by rw [ey2]; rfl) [(3, .int y2), (0, .int x0), (1, .int x1), (2, .int v2), (4, .int v4)] (by decide) rfl 16 rfl ?_
      refine sx_iload C dL_row_16 4 rfl 18 rfl ?_
      refine sx_iload_n C dL_row_18 0 1 rfl rfl 19 rfl ?_
      refine sx_iconst C dL_row_19 1 (by decide) 20 rfl ?_
      refine sx_isub C dL_row_20 21 rfl ?_
      refine sx_icmp_eq C dL_row_21 34 24 (by decide) rfl (fun c3 => ?_) (fun c3 => ?_)
      · replace h := h.1 c3
        exact sx_sub [1, 2, 3, 0, 4] rfl h
      · replace h := h.2 c3
        refine sx_iload_n C dL_row_24 1 2 rfl rfl 25 rfl ?_
        refine sx_iload C dL_row_25 4 rfl 27 rfl ?_
        refine sx_ishr C dL_row_27 28 rfl ?_
        refine sx_iconst C dL_row_28 1 (by decide) 29 rfl ?_
        refine sx_iand C dL_row_29 30 rfl ?_
        refine sx_iconst C dL_row_30 1 (by decide) 31 rfl ?_
        refine sx_icmp_ne C dL_row_31 43 34 (by decide) rfl (fun c4 => ?_) (fun c4 => ?_)
        · replace h := h.2 c4
          exact sx_sub [1, 2, 3, 0, 4] rfl h
        · replace h := h.1 c4
          exact sx_sub [1, 2, 3, 0, 4] rfl h)
  replace h := h (by
    intro v2 v3 v4 h
    refine sx_bipush C dL_row_34 7 (by decide) 36 rfl ?_
    refine sx_iload_n C dL_row_36 2 2 rfl rfl 37 rfl ?_
    refine sx_imul C dL_row_37 38 rfl ?_
    refine sx_iload_n C dL_row_38 3 3 rfl rfl 39 rfl ?_
    refine sx_iadd C dL_row_39 40 rfl ?_
    refine sx_topi (fun y5 ey5 => ?_)
    replace h := h y5 ey5
    refine sx_istore_n C dL_row_40 2 rfl [(2, .int y5), (0, .int x0), (1, .int x1), (3, .int v3), (4, .int v4)] (by decide) rfl 41 rfl ?_
    refine sx_iconst C dL_row_41 0 (by decide) 42 rfl ?_
    refine sx_istore_n C dL_row_42 3 rfl [(3, .int 0), (2, .int y5), (0, .int x0), (1, .int x1), (4, .int v4)] (by decide) rfl 43 rfl ?_
    exact sx_sub [2, 3, 1, 0, 4] rfl h)
  replace h := h (by
    intro v2 v3 v4 h
    obtain ⟨y6, ey6⟩ : ∃ w : Int32, w = v4 + 1 := ⟨_, rfl⟩
    replace h := h y6 ey6
    refine sx_iinc C dL_row_43 4 rfl y6 (by rw [ey6]; rfl) [(4, .int y6), (0, .int x0), (1, .int x1), (2, .int v2), (3, .int v3)] (by decide) rfl 46 rfl ?_
    refine sx_goto C dL_row_46 7 (by decide) ?_
    exact sx_sub [1, 2, 3, 4, 0] rfl h)
  refine sx_sub (lv' := [(0, .int x0), (1, .int x1)]) [0, 1] rfl ?_
  refine sx_iconst C dL_row_0 0 (by decide) 1 rfl ?_
  refine sx_istore_n C dL_row_1 2 rfl [(2, .int 0), (0, .int x0), (1, .int x1)] (by decide) rfl 2 rfl ?_
  refine sx_iconst C dL_row_2 0 (by decide) 3 rfl ?_
  refine sx_istore_n C dL_row_3 3 rfl [(3, .int 0), (2, .int 0), (0, .int x0), (1, .int x1)] (by decide) rfl 4 rfl ?_
  refine sx_iconst C dL_row_4 0 (by decide) 5 rfl ?_
  refine sx_istore C dL_row_5 [(4, .int 0), (3, .int 0), (2, .int 0), (0, .int x0), (1, .int x1)] (by decide) rfl 7 rfl ?_
  exact sx_sub [3, 4, 2, 1, 0] rfl h
set_option maxRecDepth 100000 in
set_option maxHeartbeats 8000000 in
theorem c_L_best {l : Launch} {D : va_G} {G : sx_G} {b : Nat} {ad : Nat → Nat} {n : Nat} (hf : l.stackTraces = false) (ok : sl_ok b ad n) (hn : 8 < n) {f a : sx_F} {o : sl_O} {x4 : Int32} {x6 : Int32} {Q : Int32 → Prop} (h : P_L_best f a o x4 x6 Q) : sl_Met l D G b ad n yL_best cL_best 12 (some .int) 5 127 0 0 [.ref (ad 0), .ref (ad 1), .ref (ad 3), .ref (ad 7), .int x4, .ref (ad 8), .int x6] (f, a, o) (sl_pi (f, a, o) Q) := by
  refine sl_enter (own := RL) hf rfl rfl (Nat.le_of_ble_eq_true rfl) ?_
  intro p e s m args below meth c C hr 
  have hB : ∀ k, k < 129 → sl_A b ad n s.heap.size (b + k) := fun k h => Or.inl ⟨Nat.le_add_right _ _, Nat.add_lt_add_left h _⟩
  have hA : ∀ j, j < n → sl_A b ad n s.heap.size (ad j) := fun j h => Or.inr (Or.inl ⟨j, h, rfl⟩)
  unfold P_L_best at h
  replace h := h (fun (v7 : Int32) (v8 : Int32) (v9 : Int32) => sx_J (sl_wp D G b ad n) p l e { frames := 5, cells := 0, slots := 0, locals := 127 } s m args below meth c (sl_A b ad n s.heap.size) 12 0 (36 * 0) (sx_fin (sl_wp D G b ad n) (sl_A b ad n s.heap.size) below args s 0 0 (sl_pi (f, a, o) Q) (fun _ _ => False)) (f, a, o) 9 [(0, .ref (ad 0)), (1, .ref (ad 1)), (2, .ref (ad 3)), (3, .ref (ad 7)), (4, .int x4), (5, .ref (ad 8)), (6, .int x6), (7, .int v7), (8, .int v8), (9, .int v9)] [])
  replace h := h (fun (v7 : Int32) (v8 : Int32) (v9 : Int32) (s0 : Int32) (s1 : Int32) (s2 : Int32) => sx_J (sl_wp D G b ad n) p l e { frames := 5, cells := 0, slots := 0, locals := 127 } s m args below meth c (sl_A b ad n s.heap.size) 12 0 (36 * 0) (sx_fin (sl_wp D G b ad n) (sl_A b ad n s.heap.size) below args s 0 0 (sl_pi (f, a, o) Q) (fun _ _ => False)) (f, a, o) 25 [(0, .ref (ad 0)), (1, .ref (ad 1)), (2, .ref (ad 3)), (3, .ref (ad 7)), (4, .int x4), (5, .ref (ad 8)), (6, .int x6), (7, .int v7), (8, .int v8), (9, .int v9)] [.int s2, .int s1, .int s0])
  replace h := h (fun (v7 : Int32) (v8 : Int32) (v9 : Int32) (v10 : Int32) => sx_J (sl_wp D G b ad n) p l e { frames := 5, cells := 0, slots := 0, locals := 127 } s m args below meth c (sl_A b ad n s.heap.size) 12 0 (36 * 0) (sx_fin (sl_wp D G b ad n) (sl_A b ad n s.heap.size) below args s 0 0 (sl_pi (f, a, o) Q) (fun _ _ => False)) (f, a, o) 103 [(0, .ref (ad 0)), (1, .ref (ad 1)), (2, .ref (ad 3)), (3, .ref (ad 7)), (4, .int x4), (5, .ref (ad 8)), (6, .int x6), (7, .int v7), (8, .int v8), (9, .int v9), (10, .int v10)] [])
  replace h := h (fun (v7 : Int32) (v8 : Int32) (v9 : Int32) (v10 : Int32) => sx_J (sl_wp D G b ad n) p l e { frames := 5, cells := 0, slots := 0, locals := 127 } s m args below meth c (sl_A b ad n s.heap.size) 12 0 (36 * 0) (sx_fin (sl_wp D G b ad n) (sl_A b ad n s.heap.size) below args s 0 0 (sl_pi (f, a, o) Q) (fun _ _ => False)) (f, a, o) 107 [(0, .ref (ad 0)), (1, .ref (ad 1)), (2, .ref (ad 3)), (3, .ref (ad 7)), (4, .int x4), (5, .ref (ad 8)), (6, .int x6), (7, .int v7), (8, .int v8), (9, .int v9), (10, .int v10)] [])
  replace h := h (fun (v7 : Int32) (v8 : Int32) (v9 : Int32) (v10 : Int32) (s0 : Int32) => sx_J (sl_wp D G b ad n) p l e { frames := 5, cells := 0, slots := 0, locals := 127 } s m args below meth c (sl_A b ad n s.heap.size) 12 0 (36 * 0) (sx_fin (sl_wp D G b ad n) (sl_A b ad n s.heap.size) below args s 0 0 (sl_pi (f, a, o) Q) (fun _ _ => False)) (f, a, o) 108 [(0, .ref (ad 0)), (1, .ref (ad 1)), (2, .ref (ad 3)), (3, .ref (ad 7)), (4, .int x4), (5, .ref (ad 8)), (6, .int x6), (7, .int v7), (8, .int v8), (9, .int v9), (10, .int v10)] [.int s0])
  replace h := h (fun (v9 : Int32) (v10 : Int32) => sx_J (sl_wp D G b ad n) p l e { frames := 5, cells := 0, slots := 0, locals := 127 } s m args below meth c (sl_A b ad n s.heap.size) 12 0 (36 * 0) (sx_fin (sl_wp D G b ad n) (sl_A b ad n s.heap.size) below args s 0 0 (sl_pi (f, a, o) Q) (fun _ _ => False)) (f, a, o) 139 [(0, .ref (ad 0)), (1, .ref (ad 1)), (2, .ref (ad 3)), (3, .ref (ad 7)), (4, .int x4), (5, .ref (ad 8)), (6, .int x6), (9, .int v9), (10, .int v10)] [])
  replace h := h (fun (v7 : Int32) (v8 : Int32) (v9 : Int32) => sx_J (sl_wp D G b ad n) p l e { frames := 5, cells := 0, slots := 0, locals := 127 } s m args below meth c (sl_A b ad n s.heap.size) 12 0 (36 * 0) (sx_fin (sl_wp D G b ad n) (sl_A b ad n s.heap.size) below args s 0 0 (sl_pi (f, a, o) Q) (fun _ _ => False)) (f, a, o) 147 [(0, .ref (ad 0)), (1, .ref (ad 1)), (2, .ref (ad 3)), (3, .ref (ad 7)), (4, .int x4), (5, .ref (ad 8)), (6, .int x6), (7, .int v7), (8, .int v8), (9, .int v9)] [])
  replace h := h (by
    intro v7 v8 v9 h
    refine sx_iload C dL_best_9 9 rfl 11 rfl ?_
    refine sx_iconst C dL_best_11 1 (by decide) 12 rfl ?_
    refine sx_iload C dL_best_12 6 rfl 14 rfl ?_
    refine sx_if_le C dL_best_14 24 17 (by decide) rfl (fun c1 => ?_) (fun c1 => ?_)
    · replace h := h.1 c1
      refine sx_iconst C dL_best_24 0 (by decide) 25 rfl ?_
      exact sx_sub [0, 1, 2, 3, 4, 5, 6, 7, 8, 9] rfl h
    · replace h := h.2 c1
      refine sx_iload C dL_best_17 6 rfl 19 rfl ?_
      refine sx_iconst C dL_best_19 1 (by decide) 20 rfl ?_
      refine sx_isub C dL_best_20 21 rfl ?_
      refine sx_goto C dL_best_21 25 (by decide) ?_
      exact sx_sub [0, 1, 2, 3, 4, 5, 6, 7, 8, 9] rfl h)
  replace h := h (by
    intro v7 v8 v9 s0 s1 s2 h
    refine sx_ishl C dL_best_25 26 rfl ?_
    refine sx_icmp_ge C dL_best_26 153 29 (by decide) rfl (fun c2 => ?_) (fun c2 => ?_)
    · replace h := h.1 c2
      refine sx_iload C dL_best_153 7 rfl 155 rfl ?_
      exact sx_iret C dL_best_155 hr (Nat.le_of_ble_eq_true rfl) (Nat.le_of_ble_eq_true rfl) ⟨⟨_, rfl, h⟩, rfl⟩
    · replace h := h.2 c2
      refine sx_aload_n C dL_best_29 0 0 rfl rfl 30 rfl ?_
      refine sx_aload_n C dL_best_30 1 1 rfl rfl 31 rfl ?_
      refine sx_aload_n C dL_best_31 2 2 rfl rfl 32 rfl ?_
      refine sx_aload_n C dL_best_32 3 3 rfl rfl 33 rfl ?_
      refine sx_iload C dL_best_33 4 rfl 35 rfl ?_
      refine sx_aload C dL_best_35 5 rfl 37 rfl ?_
      refine sx_iload C dL_best_37 6 rfl 39 rfl ?_
      refine sx_iload C dL_best_39 9 rfl 41 rfl ?_
      refine sx_iconst C dL_best_41 0 (by decide) 42 rfl ?_
      refine sl_callS C hB hA (st := []) dL_best_42 (c_L_cost hf ok hn h) mi_L_cost lk_L_52 mt_L_cost rfl rfl ⟨⟨(Nat.le_of_ble_eq_true rfl), (Nat.le_of_ble_eq_true rfl)⟩, (Nat.le_of_ble_eq_true rfl), (Nat.le_of_ble_eq_true rfl)⟩ (Nat.le_of_ble_eq_true rfl) 45 rfl (fun v g4 a5 o6 h => ?_)
      obtain ⟨⟨r3, rfl, h⟩, e9⟩ := h
      cases e9
      refine sx_istore C dL_best_45 [(10, .int r3), (0, .ref (ad 0)), (1, .ref (ad 1)), (2, .ref (ad 3)), (3, .ref (ad 7)), (4, .int x4), (5, .ref (ad 8)), (6, .int x6), (7, .int v7), (8, .int v8), (9, .int v9)] (by decide) rfl 47 rfl ?_
      refine sx_iload C dL_best_47 8 rfl 49 rfl ?_
      refine sx_if_lt C dL_best_49 107 52 (by decide) rfl (fun c7 => ?_) (fun c7 => ?_)
      · replace h := h.1 c7
        exact sx_sub [1, 2, 3, 4, 5, 6, 7, 8, 9, 10, 0] rfl h
      · replace h := h.2 c7
        refine sx_iload C dL_best_52 7 rfl 54 rfl ?_
        refine sx_iload C dL_best_54 10 rfl 56 rfl ?_
        refine sl_callS C hB hA (st := []) dL_best_56 (c_L_lines hf ok (Nat.le_of_lt hn) h) mi_L_lines lk_L_56 mt_L_lines rfl rfl ⟨⟨(Nat.le_of_ble_eq_true rfl), (Nat.le_of_ble_eq_true rfl)⟩, (Nat.le_of_ble_eq_true rfl), (Nat.le_of_ble_eq_true rfl)⟩ (Nat.le_of_ble_eq_true rfl) 59 rfl (fun v g9 a10 o11 h => ?_)
        obtain ⟨⟨r8, rfl, h⟩, e9⟩ := h
        cases e9
        refine sx_iload C dL_best_59 7 rfl 61 rfl ?_
        refine sx_iload C dL_best_61 8 rfl 63 rfl ?_
        refine sl_callS C hB hA (st := [.int r8]) dL_best_63 (c_L_lines hf ok (Nat.le_of_lt hn) h) mi_L_lines lk_L_56 mt_L_lines rfl rfl ⟨⟨(Nat.le_of_ble_eq_true rfl), (Nat.le_of_ble_eq_true rfl)⟩, (Nat.le_of_ble_eq_true rfl), (Nat.le_of_ble_eq_true rfl)⟩ (Nat.le_of_ble_eq_true rfl) 66 rfl (fun v g13 a14 o15 h => ?_)
        obtain ⟨⟨r12, rfl, h⟩, e9⟩ := h
        cases e9
        refine sx_icmp_lt C dL_best_66 103 69 (by decide) rfl (fun c16 => ?_) (fun c16 => ?_)
        · replace h := h.1 c16
          exact sx_sub [1, 2, 3, 4, 5, 6, 7, 8, 9, 10, 0] rfl h
        · replace h := h.2 c16
          refine sx_iload C dL_best_69 7 rfl 71 rfl ?_
          refine sx_iload C dL_best_71 10 rfl 73 rfl ?_
          refine sl_callS C hB hA (st := []) dL_best_73 (c_L_lines hf ok (Nat.le_of_lt hn) h) mi_L_lines lk_L_56 mt_L_lines rfl rfl ⟨⟨(Nat.le_of_ble_eq_true rfl), (Nat.le_of_ble_eq_true rfl)⟩, (Nat.le_of_ble_eq_true rfl), (Nat.le_of_ble_eq_true rfl)⟩ (Nat.le_of_ble_eq_true rfl) 76 rfl (fun v g18 a19 o20 h => ?_)
          obtain ⟨⟨r17, rfl, h⟩, e9⟩ := h
          cases e9
          refine sx_iload C dL_best_76 7 rfl 78 rfl ?_
          refine sx_iload C dL_best_78 8 rfl 80 rfl ?_
          refine sl_callS C hB hA (st := [.int r17]) dL_best_80 (c_L_lines hf ok (Nat.le_of_lt hn) h) mi_L_lines lk_L_56 mt_L_lines rfl rfl ⟨⟨(Nat.le_of_ble_eq_true rfl), (Nat.le_of_ble_eq_true rfl)⟩, (Nat.le_of_ble_eq_true rfl), (Nat.le_of_ble_eq_true rfl)⟩ (Nat.le_of_ble_eq_true rfl) 83 rfl (fun v g22 a23 o24 h => ?_)
          obtain ⟨⟨r21, rfl, h⟩, e9⟩ := h
          cases e9
          refine sx_icmp_ne C dL_best_83 107 86 (by decide) rfl (fun c25 => ?_) (fun c25 => ?_)
          · replace h := h.2 c25
            exact sx_sub [1, 2, 3, 4, 5, 6, 7, 8, 9, 10, 0] rfl h
          · replace h := h.1 c25
            refine sx_iload C dL_best_86 7 rfl 88 rfl ?_
            refine sx_iload C dL_best_88 10 rfl 90 rfl ?_
            refine sl_callS C hB hA (st := []) dL_best_90 (c_L_row hf ok (Nat.le_of_lt hn) h) mi_L_row lk_L_60 mt_L_row rfl rfl ⟨⟨(Nat.le_of_ble_eq_true rfl), (Nat.le_of_ble_eq_true rfl)⟩, (Nat.le_of_ble_eq_true rfl), (Nat.le_of_ble_eq_true rfl)⟩ (Nat.le_of_ble_eq_true rfl) 93 rfl (fun v g27 a28 o29 h => ?_)
            obtain ⟨⟨r26, rfl, h⟩, e9⟩ := h
            cases e9
            refine sx_iload C dL_best_93 7 rfl 95 rfl ?_
            refine sx_iload C dL_best_95 8 rfl 97 rfl ?_
            refine sl_callS C hB hA (st := [.int r26]) dL_best_97 (c_L_row hf ok (Nat.le_of_lt hn) h) mi_L_row lk_L_60 mt_L_row rfl rfl ⟨⟨(Nat.le_of_ble_eq_true rfl), (Nat.le_of_ble_eq_true rfl)⟩, (Nat.le_of_ble_eq_true rfl), (Nat.le_of_ble_eq_true rfl)⟩ (Nat.le_of_ble_eq_true rfl) 100 rfl (fun v g31 a32 o33 h => ?_)
            obtain ⟨⟨r30, rfl, h⟩, e9⟩ := h
            cases e9
            refine sx_icmp_ge C dL_best_100 107 103 (by decide) rfl (fun c34 => ?_) (fun c34 => ?_)
            · replace h := h.1 c34
              exact sx_sub [1, 2, 3, 4, 5, 6, 7, 8, 9, 10, 0] rfl h
            · replace h := h.2 c34
              exact sx_sub [1, 2, 3, 4, 5, 6, 7, 8, 9, 10, 0] rfl h)
  replace h := h (by
    intro v7 v8 v9 v10 h
    refine sx_iconst C dL_best_103 1 (by decide) 104 rfl ?_
    refine sx_goto C dL_best_104 108 (by decide) ?_
    exact sx_sub [0, 1, 2, 3, 4, 5, 6, 7, 8, 9, 10] rfl h)
  replace h := h (by
    intro v7 v8 v9 v10 h
    refine sx_iconst C dL_best_107 0 (by decide) 108 rfl ?_
    exact sx_sub [0, 1, 2, 3, 4, 5, 6, 7, 8, 9, 10] rfl h)
  replace h := h (by
    intro v7 v8 v9 v10 s0 h
    refine sx_istore C dL_best_108 [(11, .int s0), (0, .ref (ad 0)), (1, .ref (ad 1)), (2, .ref (ad 3)), (3, .ref (ad 7)), (4, .int x4), (5, .ref (ad 8)), (6, .int x6), (7, .int v7), (8, .int v8), (9, .int v9), (10, .int v10)] (by decide) rfl 110 rfl ?_
    refine sx_iload C dL_best_110 11 rfl 112 rfl ?_
    refine sx_if_lt C dL_best_112 147 115 (by decide) rfl (fun c35 => ?_) (fun c35 => ?_)
    · replace h := h.1 c35
      exact sx_sub [1, 2, 3, 4, 5, 6, 7, 8, 9, 10] rfl h
    · replace h := h.2 c35
      refine sx_iload C dL_best_115 8 rfl 117 rfl ?_
      refine sx_if_lt C dL_best_117 139 120 (by decide) rfl (fun c36 => ?_) (fun c36 => ?_)
      · replace h := h.1 c36
        exact sx_sub [1, 2, 3, 4, 5, 6, 7, 10, 11] rfl h
      · replace h := h.2 c36
        refine sx_iload C dL_best_120 11 rfl 122 rfl ?_
        refine sx_iload C dL_best_122 9 rfl 124 rfl ?_
        refine sx_icmp_lt C dL_best_124 139 127 (by decide) rfl (fun c37 => ?_) (fun c37 => ?_)
        · replace h := h.1 c37
          exact sx_sub [1, 2, 3, 4, 5, 6, 7, 10, 11] rfl h
        · replace h := h.2 c37
          refine sx_iload C dL_best_127 11 rfl 129 rfl ?_
          refine sx_iload C dL_best_129 9 rfl 131 rfl ?_
          refine sx_icmp_ne C dL_best_131 147 134 (by decide) rfl (fun c38 => ?_) (fun c38 => ?_)
          · replace h := h.2 c38
            exact sx_sub [1, 2, 3, 4, 5, 6, 7, 8, 9, 10] rfl h
          · replace h := h.1 c38
            refine sx_iload C dL_best_134 0 rfl 136 rfl ?_
            refine sx_if_eq C dL_best_136 147 139 (by decide) rfl (fun c39 => ?_) (fun c39 => ?_)
            · replace h := h.1 c39
              exact sx_sub [1, 2, 3, 4, 5, 6, 7, 8, 9, 10] rfl h
            · replace h := h.2 c39
              exact sx_sub [1, 2, 3, 4, 5, 6, 7, 10, 11] rfl h)
  replace h := h (by
    intro v9 v10 h
    refine sx_iload C dL_best_139 7 rfl 141 rfl ?_
    refine sx_istore C dL_best_141 [(7, .int v9), (0, .ref (ad 0)), (1, .ref (ad 1)), (2, .ref (ad 3)), (3, .ref (ad 7)), (4, .int x4), (5, .ref (ad 8)), (6, .int x6), (9, .int v9), (10, .int v10)] (by decide) rfl 143 rfl ?_
    refine sx_iload C dL_best_143 9 rfl 145 rfl ?_
    refine sx_istore C dL_best_145 [(8, .int v10), (7, .int v9), (0, .ref (ad 0)), (1, .ref (ad 1)), (2, .ref (ad 3)), (3, .ref (ad 7)), (4, .int x4), (5, .ref (ad 8)), (6, .int x6), (9, .int v9), (10, .int v10)] (by decide) rfl 147 rfl ?_
    exact sx_sub [2, 3, 4, 5, 6, 7, 8, 1, 0, 9] rfl h)
  replace h := h (by
    intro v7 v8 v9 h
    obtain ⟨y40, ey40⟩ : ∃ w : Int32, w = v9 + 1 := ⟨_, rfl⟩
    replace h := h y40 ey40
    refine sx_iinc C dL_best_147 9 rfl y40 (by rw [ey40]; rfl) [(9, .int y40), (0, .ref (ad 0)), (1, .ref (ad 1)), (2, .ref (ad 3)), (3, .ref (ad 7)), (4, .int x4), (5, .ref (ad 8)), (6, .int x6), (7, .int v7), (8, .int v8)] (by decide) rfl 150 rfl ?_
    refine sx_goto C dL_best_150 9 (by decide) ?_
    exact sx_sub [1, 2, 3, 4, 5, 6, 7, 8, 9, 0] rfl h)
  refine sx_sub (lv' := [(0, .ref (ad 0)), (1, .ref (ad 1)), (2, .ref (ad 3)), (3, .ref (ad 7)), (4, .int x4), (5, .ref (ad 8)), (6, .int x6)]) [0, 1, 2, 3, 4, 5, 6] rfl ?_
  refine sx_iconst C dL_best_0 (-1) (by decide) 1 rfl ?_
  refine sx_istore C dL_best_1 [(7, .int (-1)), (0, .ref (ad 0)), (1, .ref (ad 1)), (2, .ref (ad 3)), (3, .ref (ad 7)), (4, .int x4), (5, .ref (ad 8)), (6, .int x6)] (by decide) rfl 3 rfl ?_
  refine sx_iconst C dL_best_3 0 (by decide) 4 rfl ?_
  refine sx_istore C dL_best_4 [(8, .int 0), (7, .int (-1)), (0, .ref (ad 0)), (1, .ref (ad 1)), (2, .ref (ad 3)), (3, .ref (ad 7)), (4, .int x4), (5, .ref (ad 8)), (6, .int x6)] (by decide) rfl 6 rfl ?_
  refine sx_iconst C dL_best_6 0 (by decide) 7 rfl ?_
  refine sx_istore C dL_best_7 [(9, .int 0), (8, .int 0), (7, .int (-1)), (0, .ref (ad 0)), (1, .ref (ad 1)), (2, .ref (ad 3)), (3, .ref (ad 7)), (4, .int x4), (5, .ref (ad 8)), (6, .int x6)] (by decide) rfl 9 rfl ?_
  exact sx_sub [3, 4, 5, 6, 7, 8, 9, 2, 1, 0] rfl h
set_option maxRecDepth 100000 in
set_option maxHeartbeats 8000000 in
theorem c_L_place {l : Launch} {D : va_G} {G : sx_G} {b : Nat} {ad : Nat → Nat} {n : Nat} (hf : l.stackTraces = false) (ok : sl_ok b ad n) (hn : 8 ≤ n) {f a : sx_F} {o : sl_O} {x1 : Int32} {x2 : Int32} {x3 : Int32} {Q : Int32 → sx_F → sx_F → sl_O → Prop} (h : P_L_place f a o x1 x2 x3 Q) : sl_MetH l D G b ad n yL_place cL_place 5 (some .int) [(0, 7, 8, 69)] 9 176 3 108 [.ref (b + 0), .int x1, .int x2, .int x3] (f, a, o) (sl_qi Q) := by
  refine sl_enterH (own := RL) hf rfl rfl (Nat.le_of_ble_eq_true rfl) ?_
  intro p e s m args below meth c C hr htab
  have hB : ∀ k, k < 129 → sl_A b ad n s.heap.size (b + k) := fun k h => Or.inl ⟨Nat.le_add_right _ _, Nat.add_lt_add_left h _⟩
  have hA : ∀ j, j < n → sl_A b ad n s.heap.size (ad j) := fun j h => Or.inr (Or.inl ⟨j, h, rfl⟩)
  unfold P_L_place at h
  refine sx_sub (lv' := [(0, .ref (b + 0)), (1, .int x1), (2, .int x2), (3, .int x3)]) [0, 1, 2, 3] rfl ?_
  refine sx_aload_n C dL_place_0 0 0 rfl rfl 1 rfl ?_
  refine sx_iload_n C dL_place_1 1 1 rfl rfl 2 rfl ?_
  refine sx_iload_n C dL_place_2 2 2 rfl rfl 3 rfl ?_
  refine sx_iload_n C dL_place_3 3 3 rfl rfl 4 rfl ?_
  refine sl_tryX C ok hB (st := []) dL_place_4 (c_X6_place hf h) mi_X6_place lk_L_63 mn_X6_place ms_X6_place (by decide) lyX_0 rfl rfl rfl rfl ⟨⟨(Nat.le_of_ble_eq_true rfl), (Nat.le_of_ble_eq_true rfl)⟩, (Nat.le_of_ble_eq_true rfl), (Nat.le_of_ble_eq_true rfl)⟩ (Nat.le_of_ble_eq_true rfl) 7 rfl (fun v g2 h => ?_) (fun E ce q9 g2 H1 locs1 ls hx hw hS1 hls h1 h2 h3 => ?_)
  · obtain ⟨r1, rfl, h⟩ := h
    exact sx_iret C dL_place_7 hr (Nat.le_of_ble_eq_true rfl) (Nat.le_of_ble_eq_true rfl) ⟨_, rfl, h⟩
  · obtain ⟨rfl, hx⟩ := hx
    refine sl_catch C htab [] (0, 7, 8, 69) [] rfl (fun z hz => absurd hz List.not_mem_nil) rfl (by decide) lkc_L_69 cst_IOOBE h1 h2 h3 hw hS1 hls ?_
    replace h := hx
    refine sx_astore C dL_place_8 [(4, .ref q9), (0, .ref (b + 0)), (1, .int x1), (2, .int x2), (3, .int x3)] (by decide) rfl 10 rfl ?_
    refine sx_bipush C dL_place_10 (-9) (by decide) 12 rfl ?_
    exact sx_iret C dL_place_12 hr (Nat.le_of_ble_eq_true rfl) (Nat.le_of_ble_eq_true rfl) ⟨_, rfl, h⟩
set_option maxRecDepth 100000 in
set_option maxHeartbeats 8000000 in
theorem c_L_isLine {l : Launch} {D : va_G} {G : sx_G} {b : Nat} {ad : Nat → Nat} {n : Nat} (hf : l.stackTraces = false) (ok : sl_ok b ad n) (hn : 8 < n) {f a : sx_F} {o : sl_O} {x5 : Int32} {x7 : Int32} {x8 : Int32} {x9 : Int32} {Q : Int32 → sx_F → sx_F → sl_O → Prop} (h : P_L_isLine f a o x5 x7 x8 x9 Q) : sl_Met l D G b ad n yL_isLine cL_isLine 25 (some .boolean) 10 200 300 10800 [.ref (b + 0), .ref (ad 0), .ref (ad 1), .ref (ad 3), .ref (ad 7), .int x5, .ref (ad 8), .int x7, .int x8, .int x9] (f, a, o) (sl_qi Q) := by
  refine sl_enter (own := RL) hf rfl rfl (Nat.le_of_ble_eq_true rfl) ?_
  intro p e s m args below meth c C hr 
  have hB : ∀ k, k < 129 → sl_A b ad n s.heap.size (b + k) := fun k h => Or.inl ⟨Nat.le_add_right _ _, Nat.add_lt_add_left h _⟩
  have hA : ∀ j, j < n → sl_A b ad n s.heap.size (ad j) := fun j h => Or.inr (Or.inl ⟨j, h, rfl⟩)
  unfold P_L_isLine at h
  replace h := h (fun (f : sx_F) (a : sx_F) (o : sl_O) (v10 : Int32) (v11 : Int32) (v12 : Int32) (v13 : Int32) (ce : Nat) => sx_J (sl_wp D G b ad n) p l e { frames := 10, cells := 300, slots := 10800, locals := 200 } s m args below meth c (sl_A b ad n s.heap.size) 25 ce (36 * ce) (sx_fin (sl_wp D G b ad n) (sl_A b ad n s.heap.size) below args s 300 10800 (sl_qi Q) (fun _ _ => False)) (f, a, o) 14 [(0, .ref (b + 0)), (1, .ref (ad 0)), (2, .ref (ad 1)), (3, .ref (ad 3)), (4, .ref (ad 7)), (5, .int x5), (6, .ref (ad 8)), (7, .int x7), (8, .int x8), (10, .int v10), (11, .int v11), (12, .int v12), (13, .int v13)] [])
  replace h := h (fun (f : sx_F) (a : sx_F) (o : sl_O) (v10 : Int32) (v11 : Int32) (v12 : Int32) (v13 : Int32) (ce : Nat) => sx_J (sl_wp D G b ad n) p l e { frames := 10, cells := 300, slots := 10800, locals := 200 } s m args below meth c (sl_A b ad n s.heap.size) 25 ce (36 * ce) (sx_fin (sl_wp D G b ad n) (sl_A b ad n s.heap.size) below args s 300 10800 (sl_qi Q) (fun _ _ => False)) (f, a, o) 37 [(0, .ref (b + 0)), (1, .ref (ad 0)), (2, .ref (ad 1)), (3, .ref (ad 3)), (4, .ref (ad 7)), (5, .int x5), (6, .ref (ad 8)), (7, .int x7), (8, .int x8), (10, .int v10), (11, .int v11), (12, .int v12), (13, .int v13)] [])
  replace h := h (fun (f : sx_F) (a : sx_F) (o : sl_O) (v10 : Int32) (v11 : Int32) (v12 : Int32) (v13 : Int32) (ce : Nat) => sx_J (sl_wp D G b ad n) p l e { frames := 10, cells := 300, slots := 10800, locals := 200 } s m args below meth c (sl_A b ad n s.heap.size) 25 ce (36 * ce) (sx_fin (sl_wp D G b ad n) (sl_A b ad n s.heap.size) below args s 300 10800 (sl_qi Q) (fun _ _ => False)) (f, a, o) 62 [(0, .ref (b + 0)), (1, .ref (ad 0)), (2, .ref (ad 1)), (3, .ref (ad 3)), (4, .ref (ad 7)), (5, .int x5), (6, .ref (ad 8)), (7, .int x7), (10, .int v10), (11, .int v11), (12, .int v12), (13, .int v13)] [])
  replace h := h (fun (f : sx_F) (a : sx_F) (o : sl_O) (v10 : Int32) (v11 : Int32) (v12 : Int32) (v13 : Int32) (v14 : Int32) (ce : Nat) => sx_J (sl_wp D G b ad n) p l e { frames := 10, cells := 300, slots := 10800, locals := 200 } s m args below meth c (sl_A b ad n s.heap.size) 25 ce (36 * ce) (sx_fin (sl_wp D G b ad n) (sl_A b ad n s.heap.size) below args s 300 10800 (sl_qi Q) (fun _ _ => False)) (f, a, o) 66 [(0, .ref (b + 0)), (1, .ref (ad 0)), (2, .ref (ad 1)), (3, .ref (ad 3)), (4, .ref (ad 7)), (5, .int x5), (6, .ref (ad 8)), (7, .int x7), (10, .int v10), (11, .int v11), (12, .int v12), (13, .int v13), (14, .int v14)] [])
  replace h := h (fun (f : sx_F) (a : sx_F) (o : sl_O) (v10 : Int32) (v11 : Int32) (v12 : Int32) (v13 : Int32) (v14 : Int32) (s0 : Int32) (ce : Nat) => sx_J (sl_wp D G b ad n) p l e { frames := 10, cells := 300, slots := 10800, locals := 200 } s m args below meth c (sl_A b ad n s.heap.size) 25 ce (36 * ce) (sx_fin (sl_wp D G b ad n) (sl_A b ad n s.heap.size) below args s 300 10800 (sl_qi Q) (fun _ _ => False)) (f, a, o) 164 [(0, .ref (b + 0)), (1, .ref (ad 0)), (2, .ref (ad 1)), (3, .ref (ad 3)), (5, .int x5), (6, .ref (ad 8)), (7, .int x7), (10, .int v10), (11, .int v11), (12, .int v12), (13, .int v13), (14, .int v14)] [.int s0])
  replace h := h (fun (f : sx_F) (a : sx_F) (o : sl_O) (v10 : Int32) (v11 : Int32) (v12 : Int32) (v13 : Int32) (v14 : Int32) (v15 : Int32) (v16 : Int32) (v17 : Int32) (v18 : Int32) (v19 : Int32) (ce : Nat) => sx_J (sl_wp D G b ad n) p l e { frames := 10, cells := 300, slots := 10800, locals := 200 } s m args below meth c (sl_A b ad n s.heap.size) 25 ce (36 * ce) (sx_fin (sl_wp D G b ad n) (sl_A b ad n s.heap.size) below args s 300 10800 (sl_qi Q) (fun _ _ => False)) (f, a, o) 179 [(0, .ref (b + 0)), (1, .ref (ad 0)), (2, .ref (ad 1)), (3, .ref (ad 3)), (5, .int x5), (6, .ref (ad 8)), (7, .int x7), (10, .int v10), (11, .int v11), (12, .int v12), (13, .int v13), (14, .int v14), (15, .int v15), (16, .int v16), (17, .int v17), (18, .int v18), (19, .int v19)] [])
  replace h := h (fun (f : sx_F) (a : sx_F) (o : sl_O) (v10 : Int32) (v11 : Int32) (v12 : Int32) (v13 : Int32) (v14 : Int32) (v15 : Int32) (v16 : Int32) (v17 : Int32) (v18 : Int32) (v19 : Int32) (v20 : Int32) (v21 : Int32) (v22 : Int32) (ce : Nat) => sx_J (sl_wp D G b ad n) p l e { frames := 10, cells := 300, slots := 10800, locals := 200 } s m args below meth c (sl_A b ad n s.heap.size) 25 ce (36 * ce) (sx_fin (sl_wp D G b ad n) (sl_A b ad n s.heap.size) below args s 300 10800 (sl_qi Q) (fun _ _ => False)) (f, a, o) 214 [(0, .ref (b + 0)), (1, .ref (ad 0)), (2, .ref (ad 1)), (3, .ref (ad 3)), (5, .int x5), (6, .ref (ad 8)), (7, .int x7), (10, .int v10), (11, .int v11), (12, .int v12), (13, .int v13), (14, .int v14), (15, .int v15), (16, .int v16), (17, .int v17), (18, .int v18), (19, .int v19), (20, .int v20), (21, .int v21), (22, .int v22)] [])
  replace h := h (fun (f : sx_F) (a : sx_F) (o : sl_O) (v10 : Int32) (v11 : Int32) (v12 : Int32) (v13 : Int32) (v14 : Int32) (v15 : Int32) (v16 : Int32) (v17 : Int32) (v19 : Int32) (v20 : Int32) (v21 : Int32) (v22 : Int32) (v23 : Int32) (s0 : Int32) (ce : Nat) => sx_J (sl_wp D G b ad n) p l e { frames := 10, cells := 300, slots := 10800, locals := 200 } s m args below meth c (sl_A b ad n s.heap.size) 25 ce (36 * ce) (sx_fin (sl_wp D G b ad n) (sl_A b ad n s.heap.size) below args s 300 10800 (sl_qi Q) (fun _ _ => False)) (f, a, o) 299 [(0, .ref (b + 0)), (1, .ref (ad 0)), (2, .ref (ad 1)), (3, .ref (ad 3)), (5, .int x5), (6, .ref (ad 8)), (7, .int x7), (10, .int v10), (11, .int v11), (12, .int v12), (13, .int v13), (14, .int v14), (15, .int v15), (16, .int v16), (17, .int v17), (19, .int v19), (20, .int v20), (21, .int v21), (22, .int v22), (23, .int v23)] [.int s0])
  replace h := h (fun (f : sx_F) (a : sx_F) (o : sl_O) (v10 : Int32) (v11 : Int32) (v12 : Int32) (v13 : Int32) (v14 : Int32) (v15 : Int32) (v16 : Int32) (v17 : Int32) (v19 : Int32) (v20 : Int32) (v21 : Int32) (v22 : Int32) (v23 : Int32) (s0 : Int32) (s1 : Int32) (ce : Nat) => sx_J (sl_wp D G b ad n) p l e { frames := 10, cells := 300, slots := 10800, locals := 200 } s m args below meth c (sl_A b ad n s.heap.size) 25 ce (36 * ce) (sx_fin (sl_wp D G b ad n) (sl_A b ad n s.heap.size) below args s 300 10800 (sl_qi Q) (fun _ _ => False)) (f, a, o) 300 [(0, .ref (b + 0)), (1, .ref (ad 0)), (2, .ref (ad 1)), (3, .ref (ad 3)), (5, .int x5), (6, .ref (ad 8)), (7, .int x7), (10, .int v10), (11, .int v11), (12, .int v12), (13, .int v13), (14, .int v14), (15, .int v15), (16, .int v16), (17, .int v17), (19, .int v19), (20, .int v20), (21, .int v21), (22, .int v22), (23, .int v23)] [.int s1, .int s0])
  replace h := h (fun (f : sx_F) (a : sx_F) (o : sl_O) (v10 : Int32) (v11 : Int32) (v12 : Int32) (v13 : Int32) (v14 : Int32) (v15 : Int32) (v16 : Int32) (v17 : Int32) (v19 : Int32) (v20 : Int32) (v21 : Int32) (v22 : Int32) (v23 : Int32) (s0 : Int32) (s1 : Int32) (ce : Nat) => sx_J (sl_wp D G b ad n) p l e { frames := 10, cells := 300, slots := 10800, locals := 200 } s m args below meth c (sl_A b ad n s.heap.size) 25 ce (36 * ce) (sx_fin (sl_wp D G b ad n) (sl_A b ad n s.heap.size) below args s 300 10800 (sl_qi Q) (fun _ _ => False)) (f, a, o) 328 [(0, .ref (b + 0)), (1, .ref (ad 0)), (2, .ref (ad 1)), (3, .ref (ad 3)), (5, .int x5), (6, .ref (ad 8)), (7, .int x7), (10, .int v10), (11, .int v11), (12, .int v12), (13, .int v13), (14, .int v14), (15, .int v15), (16, .int v16), (17, .int v17), (19, .int v19), (20, .int v20), (21, .int v21), (22, .int v22), (23, .int v23)] [.int s1, .int s0])
  replace h := h (fun (f : sx_F) (a : sx_F) (o : sl_O) (v10 : Int32) (v11 : Int32) (v12 : Int32) (v13 : Int32) (v14 : Int32) (v15 : Int32) (v16 : Int32) (v17 : Int32) (v19 : Int32) (v20 : Int32) (v21 : Int32) (v22 : Int32) (v23 : Int32) (s0 : Int32) (ce : Nat) => sx_J (sl_wp D G b ad n) p l e { frames := 10, cells := 300, slots := 10800, locals := 200 } s m args below meth c (sl_A b ad n s.heap.size) 25 ce (36 * ce) (sx_fin (sl_wp D G b ad n) (sl_A b ad n s.heap.size) below args s 300 10800 (sl_qi Q) (fun _ _ => False)) (f, a, o) 351 [(0, .ref (b + 0)), (1, .ref (ad 0)), (2, .ref (ad 1)), (3, .ref (ad 3)), (5, .int x5), (6, .ref (ad 8)), (7, .int x7), (10, .int v10), (11, .int v11), (12, .int v12), (13, .int v13), (14, .int v14), (15, .int v15), (16, .int v16), (17, .int v17), (19, .int v19), (20, .int v20), (21, .int v21), (22, .int v22), (23, .int v23)] [.int s0])
  replace h := h (fun (f : sx_F) (a : sx_F) (o : sl_O) (v10 : Int32) (v11 : Int32) (v12 : Int32) (v13 : Int32) (v14 : Int32) (v15 : Int32) (v16 : Int32) (v17 : Int32) (v19 : Int32) (v20 : Int32) (v21 : Int32) (v22 : Int32) (s0 : Int32) (ce : Nat) => sx_J (sl_wp D G b ad n) p l e { frames := 10, cells := 300, slots := 10800, locals := 200 } s m args below meth c (sl_A b ad n s.heap.size) 25 ce (36 * ce) (sx_fin (sl_wp D G b ad n) (sl_A b ad n s.heap.size) below args s 300 10800 (sl_qi Q) (fun _ _ => False)) (f, a, o) 402 [(0, .ref (b + 0)), (1, .ref (ad 0)), (2, .ref (ad 1)), (3, .ref (ad 3)), (5, .int x5), (6, .ref (ad 8)), (7, .int x7), (10, .int v10), (11, .int v11), (12, .int v12), (13, .int v13), (14, .int v14), (15, .int v15), (16, .int v16), (17, .int v17), (19, .int v19), (20, .int v20), (21, .int v21), (22, .int v22)] [.int s0])
  replace h := h (fun (f : sx_F) (a : sx_F) (o : sl_O) (v10 : Int32) (v11 : Int32) (v12 : Int32) (v13 : Int32) (v14 : Int32) (v15 : Int32) (v16 : Int32) (v17 : Int32) (v18 : Int32) (v19 : Int32) (v20 : Int32) (v21 : Int32) (v22 : Int32) (ce : Nat) => sx_J (sl_wp D G b ad n) p l e { frames := 10, cells := 300, slots := 10800, locals := 200 } s m args below meth c (sl_A b ad n s.heap.size) 25 ce (36 * ce) (sx_fin (sl_wp D G b ad n) (sl_A b ad n s.heap.size) below args s 300 10800 (sl_qi Q) (fun _ _ => False)) (f, a, o) 404 [(0, .ref (b + 0)), (1, .ref (ad 0)), (2, .ref (ad 1)), (3, .ref (ad 3)), (5, .int x5), (6, .ref (ad 8)), (7, .int x7), (10, .int v10), (11, .int v11), (12, .int v12), (13, .int v13), (14, .int v14), (15, .int v15), (16, .int v16), (17, .int v17), (18, .int v18), (19, .int v19), (20, .int v20), (21, .int v21), (22, .int v22)] [])
  replace h := h (fun (f : sx_F) (a : sx_F) (o : sl_O) (v10 : Int32) (v11 : Int32) (v12 : Int32) (v13 : Int32) (v14 : Int32) (v15 : Int32) (v16 : Int32) (v17 : Int32) (v18 : Int32) (v19 : Int32) (ce : Nat) => sx_J (sl_wp D G b ad n) p l e { frames := 10, cells := 300, slots := 10800, locals := 200 } s m args below meth c (sl_A b ad n s.heap.size) 25 ce (36 * ce) (sx_fin (sl_wp D G b ad n) (sl_A b ad n s.heap.size) below args s 300 10800 (sl_qi Q) (fun _ _ => False)) (f, a, o) 410 [(0, .ref (b + 0)), (1, .ref (ad 0)), (2, .ref (ad 1)), (3, .ref (ad 3)), (5, .int x5), (6, .ref (ad 8)), (7, .int x7), (10, .int v10), (11, .int v11), (12, .int v12), (13, .int v13), (14, .int v14), (15, .int v15), (16, .int v16), (17, .int v17), (18, .int v18), (19, .int v19)] [])
  replace h := h (by
    intro f a o v10 v11 v12 v13 ce h
    refine sx_iload C dL_isLine_14 9 rfl 16 rfl ?_
    refine sx_if_le C dL_isLine_16 37 19 (by decide) rfl (fun c1 => ?_) (fun c1 => ?_)
    · replace h := h.1 c1
      refine sx_widen (k := ce) (n := 36 * ce) (Nat.le_refl _) (by omega) ?_
      exact sx_sub [0, 1, 2, 3, 4, 5, 6, 7, 8, 9, 10, 11, 12] rfl h
    · replace h := h.2 c1
      refine sx_iload C dL_isLine_19 8 rfl 21 rfl ?_
      refine sx_iload C dL_isLine_21 9 rfl 23 rfl ?_
      refine sx_iconst C dL_isLine_23 1 (by decide) 24 rfl ?_
      refine sx_isub C dL_isLine_24 25 rfl ?_
      refine sx_ishr C dL_isLine_25 26 rfl ?_
      refine sx_iconst C dL_isLine_26 1 (by decide) 27 rfl ?_
      refine sx_iand C dL_isLine_27 28 rfl ?_
      refine sx_if_ne C dL_isLine_28 37 31 (by decide) rfl (fun c2 => ?_) (fun c2 => ?_)
      · replace h := h.2 c2
        refine sx_widen (k := ce) (n := 36 * ce) (Nat.le_refl _) (by omega) ?_
        exact sx_sub [0, 1, 2, 3, 4, 5, 6, 7, 8, 9, 10, 11, 12] rfl h
      · replace h := h.1 c2
        obtain ⟨y3, ey3⟩ : ∃ w : Int32, w = v10 + (-1) := ⟨_, rfl⟩
        replace h := h y3 ey3
        refine sx_iinc C dL_isLine_31 9 rfl y3 (by rw [ey3]; rfl) [(10, .int y3), (0, .ref (b + 0)), (1, .ref (ad 0)), (2, .ref (ad 1)), (3, .ref (ad 3)), (4, .ref (ad 7)), (5, .int x5), (6, .ref (ad 8)), (7, .int x7), (8, .int x8), (11, .int v11), (12, .int v12), (13, .int v13)] (by decide) rfl 34 rfl ?_
        refine sx_goto C dL_isLine_34 14 (by decide) ?_
        refine sx_widen (k := ce) (n := 36 * ce) (Nat.le_refl _) (by omega) ?_
        exact sx_sub [1, 2, 3, 4, 5, 6, 7, 8, 9, 0, 10, 11, 12] rfl h)
  replace h := h (by
    intro f a o v10 v11 v12 v13 ce h
    refine sx_iload C dL_isLine_37 10 rfl 39 rfl ?_
    refine sx_iload C dL_isLine_39 7 rfl 41 rfl ?_
    refine sx_iconst C dL_isLine_41 1 (by decide) 42 rfl ?_
    refine sx_isub C dL_isLine_42 43 rfl ?_
    refine sx_icmp_ge C dL_isLine_43 62 46 (by decide) rfl (fun c4 => ?_) (fun c4 => ?_)
    · replace h := h.1 c4
      refine sx_widen (k := ce) (n := 36 * ce) (Nat.le_refl _) (by omega) ?_
      exact sx_sub [0, 1, 2, 3, 4, 5, 6, 7, 9, 10, 11, 12] rfl h
    · replace h := h.2 c4
      refine sx_iload C dL_isLine_46 8 rfl 48 rfl ?_
      refine sx_iload C dL_isLine_48 10 rfl 50 rfl ?_
      refine sx_ishr C dL_isLine_50 51 rfl ?_
      refine sx_iconst C dL_isLine_51 1 (by decide) 52 rfl ?_
      refine sx_iand C dL_isLine_52 53 rfl ?_
      refine sx_if_ne C dL_isLine_53 62 56 (by decide) rfl (fun c5 => ?_) (fun c5 => ?_)
      · replace h := h.2 c5
        refine sx_widen (k := ce) (n := 36 * ce) (Nat.le_refl _) (by omega) ?_
        exact sx_sub [0, 1, 2, 3, 4, 5, 6, 7, 9, 10, 11, 12] rfl h
      · replace h := h.1 c5
        obtain ⟨y6, ey6⟩ : ∃ w : Int32, w = v11 + 1 := ⟨_, rfl⟩
        replace h := h y6 ey6
        refine sx_iinc C dL_isLine_56 10 rfl y6 (by rw [ey6]; rfl) [(11, .int y6), (0, .ref (b + 0)), (1, .ref (ad 0)), (2, .ref (ad 1)), (3, .ref (ad 3)), (4, .ref (ad 7)), (5, .int x5), (6, .ref (ad 8)), (7, .int x7), (8, .int x8), (10, .int v10), (12, .int v12), (13, .int v13)] (by decide) rfl 59 rfl ?_
        refine sx_goto C dL_isLine_59 37 (by decide) ?_
        refine sx_widen (k := ce) (n := 36 * ce) (Nat.le_refl _) (by omega) ?_
        exact sx_sub [1, 2, 3, 4, 5, 6, 7, 8, 9, 10, 0, 11, 12] rfl h)
  replace h := h (by
    intro f a o v10 v11 v12 v13 ce h
    refine sx_iload C dL_isLine_62 8 rfl 64 rfl ?_
    refine sx_istore C dL_isLine_64 [(14, .int v10), (0, .ref (b + 0)), (1, .ref (ad 0)), (2, .ref (ad 1)), (3, .ref (ad 3)), (4, .ref (ad 7)), (5, .int x5), (6, .ref (ad 8)), (7, .int x7), (10, .int v10), (11, .int v11), (12, .int v12), (13, .int v13)] (by decide) rfl 66 rfl ?_
    refine sx_widen (k := ce) (n := 36 * ce) (Nat.le_refl _) (by omega) ?_
    exact sx_sub [1, 2, 3, 4, 5, 6, 7, 8, 9, 10, 11, 12, 0] rfl h)
  replace h := h (by
    intro f a o v10 v11 v12 v13 v14 ce h
    refine sx_iload C dL_isLine_66 12 rfl 68 rfl ?_
    refine sx_iload C dL_isLine_68 9 rfl 70 rfl ?_
    refine sx_icmp_gt C dL_isLine_70 113 73 (by decide) rfl (fun c7 => ?_) (fun c7 => ?_)
    · replace h := h.1 c7
      refine sx_aload C dL_isLine_113 4 rfl 115 rfl ?_
      refine sx_iconst C dL_isLine_115 1 (by decide) 116 rfl ?_
      refine sl_iald C dL_isLine_116 (Nat.lt_trans (show 7 < 8 by decide) hn) rfl h.1 117 rfl ?_
      replace h := h.2
      refine sx_iload C dL_isLine_117 10 rfl 119 rfl ?_
      refine sx_isub C dL_isLine_119 120 rfl ?_
      refine sx_bipush C dL_isLine_120 8 (by decide) 122 rfl ?_
      refine sx_iload C dL_isLine_122 9 rfl 124 rfl ?_
      refine sx_iload C dL_isLine_124 8 rfl 126 rfl ?_
      refine sx_isub C dL_isLine_126 127 rfl ?_
      refine sx_iconst C dL_isLine_127 1 (by decide) 128 rfl ?_
      refine sx_iadd C dL_isLine_128 129 rfl ?_
      refine sx_imul C dL_isLine_129 130 rfl ?_
      refine sx_isub C dL_isLine_130 131 rfl ?_
      refine sx_topi (fun y8 ey8 => ?_)
      replace h := h y8 ey8
      refine sx_istore C dL_isLine_131 [(14, .int y8), (0, .ref (b + 0)), (1, .ref (ad 0)), (2, .ref (ad 1)), (3, .ref (ad 3)), (4, .ref (ad 7)), (5, .int x5), (6, .ref (ad 8)), (7, .int x7), (10, .int v10), (11, .int v11), (12, .int v12), (13, .int v13)] (by decide) rfl 133 rfl ?_
      refine sx_iload C dL_isLine_133 0 rfl 135 rfl ?_
      refine sx_if_ge C dL_isLine_135 163 138 (by decide) rfl (fun c9 => ?_) (fun c9 => ?_)
      · replace h := h.1 c9
        refine sx_iconst C dL_isLine_163 0 (by decide) 164 rfl ?_
        refine sx_widen (k := ce) (n := 36 * ce) (Nat.le_refl _) (by omega) ?_
        exact sx_sub [1, 2, 3, 4, 6, 7, 8, 9, 10, 11, 12, 0] rfl h
      · replace h := h.2 c9
        refine sx_iload C dL_isLine_138 0 rfl 140 rfl ?_
        refine sx_ineg C dL_isLine_140 141 rfl ?_
        refine sx_iload C dL_isLine_141 11 rfl 143 rfl ?_
        refine sx_iload C dL_isLine_143 12 rfl 145 rfl ?_
        refine sx_isub C dL_isLine_145 146 rfl ?_
        refine sx_icmp_ge C dL_isLine_146 155 149 (by decide) rfl (fun c10 => ?_) (fun c10 => ?_)
        · replace h := h.1 c10
          refine sx_iload C dL_isLine_155 11 rfl 157 rfl ?_
          refine sx_iload C dL_isLine_157 12 rfl 159 rfl ?_
          refine sx_isub C dL_isLine_159 160 rfl ?_
          refine sx_goto C dL_isLine_160 164 (by decide) ?_
          refine sx_widen (k := ce) (n := 36 * ce) (Nat.le_refl _) (by omega) ?_
          exact sx_sub [1, 2, 3, 4, 6, 7, 8, 9, 10, 11, 12, 0] rfl h
        · replace h := h.2 c10
          refine sx_iload C dL_isLine_149 0 rfl 151 rfl ?_
          refine sx_ineg C dL_isLine_151 152 rfl ?_
          refine sx_goto C dL_isLine_152 164 (by decide) ?_
          refine sx_widen (k := ce) (n := 36 * ce) (Nat.le_refl _) (by omega) ?_
          exact sx_sub [1, 2, 3, 4, 6, 7, 8, 9, 10, 11, 12, 0] rfl h
    · replace h := h.2 c7
      refine sx_iload C dL_isLine_73 10 rfl 75 rfl ?_
      refine sx_aload C dL_isLine_75 6 rfl 77 rfl ?_
      refine sx_iconst C dL_isLine_77 5 (by decide) 78 rfl ?_
      refine sx_iload C dL_isLine_78 12 rfl 80 rfl ?_
      refine sx_imul C dL_isLine_80 81 rfl ?_
      refine sx_iconst C dL_isLine_81 3 (by decide) 82 rfl ?_
      refine sx_iadd C dL_isLine_82 83 rfl ?_
      refine sl_iald C dL_isLine_83 hn rfl h.1 84 rfl ?_
      replace h := h.2
      refine sx_bipush C dL_isLine_84 8 (by decide) 86 rfl ?_
      refine sx_isub C dL_isLine_86 87 rfl ?_
      refine sx_iadd C dL_isLine_87 88 rfl ?_
      refine sx_topi (fun y11 ey11 => ?_)
      replace h := h y11 ey11
      refine sx_istore C dL_isLine_88 [(12, .int y11), (0, .ref (b + 0)), (1, .ref (ad 0)), (2, .ref (ad 1)), (3, .ref (ad 3)), (4, .ref (ad 7)), (5, .int x5), (6, .ref (ad 8)), (7, .int x7), (10, .int v10), (11, .int v11), (13, .int v13), (14, .int v14)] (by decide) rfl 90 rfl ?_
      refine sx_iload C dL_isLine_90 11 rfl 92 rfl ?_
      refine sx_aload C dL_isLine_92 7 rfl 94 rfl ?_
      refine sx_iconst C dL_isLine_94 5 (by decide) 95 rfl ?_
      refine sx_iload C dL_isLine_95 12 rfl 97 rfl ?_
      refine sx_imul C dL_isLine_97 98 rfl ?_
      refine sx_iconst C dL_isLine_98 4 (by decide) 99 rfl ?_
      refine sx_iadd C dL_isLine_99 100 rfl ?_
      refine sl_iald C dL_isLine_100 hn rfl h.1 101 rfl ?_
      replace h := h.2
      refine sx_bipush C dL_isLine_101 8 (by decide) 103 rfl ?_
      refine sx_isub C dL_isLine_103 104 rfl ?_
      refine sx_iadd C dL_isLine_104 105 rfl ?_
      refine sx_topi (fun y12 ey12 => ?_)
      replace h := h y12 ey12
      refine sx_istore C dL_isLine_105 [(13, .int y12), (12, .int y11), (0, .ref (b + 0)), (1, .ref (ad 0)), (2, .ref (ad 1)), (3, .ref (ad 3)), (4, .ref (ad 7)), (5, .int x5), (6, .ref (ad 8)), (7, .int x7), (10, .int v10), (11, .int v11), (14, .int v14)] (by decide) rfl 107 rfl ?_
      obtain ⟨y13, ey13⟩ : ∃ w : Int32, w = v14 + 1 := ⟨_, rfl⟩
      replace h := h y13 ey13
      refine sx_iinc C dL_isLine_107 12 rfl y13 (by rw [ey13]; rfl) [(14, .int y13), (13, .int y12), (12, .int y11), (0, .ref (b + 0)), (1, .ref (ad 0)), (2, .ref (ad 1)), (3, .ref (ad 3)), (4, .ref (ad 7)), (5, .int x5), (6, .ref (ad 8)), (7, .int x7), (10, .int v10), (11, .int v11)] (by decide) rfl 110 rfl ?_
      refine sx_goto C dL_isLine_110 66 (by decide) ?_
      refine sx_widen (k := ce) (n := 36 * ce) (Nat.le_refl _) (by omega) ?_
      exact sx_sub [3, 4, 5, 6, 7, 8, 9, 10, 11, 12, 2, 1, 0] rfl h)
  replace h := h (by
    intro f a o v10 v11 v12 v13 v14 s0 ce h
    refine sx_istore C dL_isLine_164 [(15, .int s0), (0, .ref (b + 0)), (1, .ref (ad 0)), (2, .ref (ad 1)), (3, .ref (ad 3)), (5, .int x5), (6, .ref (ad 8)), (7, .int x7), (10, .int v10), (11, .int v11), (12, .int v12), (13, .int v13), (14, .int v14)] (by decide) rfl 166 rfl ?_
    refine sx_iconst C dL_isLine_166 0 (by decide) 167 rfl ?_
    refine sx_istore C dL_isLine_167 [(16, .int 0), (15, .int s0), (0, .ref (b + 0)), (1, .ref (ad 0)), (2, .ref (ad 1)), (3, .ref (ad 3)), (5, .int x5), (6, .ref (ad 8)), (7, .int x7), (10, .int v10), (11, .int v11), (12, .int v12), (13, .int v13), (14, .int v14)] (by decide) rfl 169 rfl ?_
    refine sx_iconst C dL_isLine_169 0 (by decide) 170 rfl ?_
    refine sx_istore C dL_isLine_170 [(17, .int 0), (16, .int 0), (15, .int s0), (0, .ref (b + 0)), (1, .ref (ad 0)), (2, .ref (ad 1)), (3, .ref (ad 3)), (5, .int x5), (6, .ref (ad 8)), (7, .int x7), (10, .int v10), (11, .int v11), (12, .int v12), (13, .int v13), (14, .int v14)] (by decide) rfl 172 rfl ?_
    refine sx_iconst C dL_isLine_172 1 (by decide) 173 rfl ?_
    refine sx_istore C dL_isLine_173 [(18, .int 1), (17, .int 0), (16, .int 0), (15, .int s0), (0, .ref (b + 0)), (1, .ref (ad 0)), (2, .ref (ad 1)), (3, .ref (ad 3)), (5, .int x5), (6, .ref (ad 8)), (7, .int x7), (10, .int v10), (11, .int v11), (12, .int v12), (13, .int v13), (14, .int v14)] (by decide) rfl 175 rfl ?_
    refine sx_iload C dL_isLine_175 11 rfl 177 rfl ?_
    refine sx_istore C dL_isLine_177 [(19, .int v10), (18, .int 1), (17, .int 0), (16, .int 0), (15, .int s0), (0, .ref (b + 0)), (1, .ref (ad 0)), (2, .ref (ad 1)), (3, .ref (ad 3)), (5, .int x5), (6, .ref (ad 8)), (7, .int x7), (10, .int v10), (11, .int v11), (12, .int v12), (13, .int v13), (14, .int v14)] (by decide) rfl 179 rfl ?_
    refine sx_widen (k := ce) (n := 36 * ce) (Nat.le_refl _) (by omega) ?_
    exact sx_sub [5, 6, 7, 8, 9, 10, 11, 12, 13, 14, 15, 16, 4, 3, 2, 1, 0] rfl h)
  replace h := h (by
    intro f a o v10 v11 v12 v13 v14 v15 v16 v17 v18 v19 ce h
    refine sx_iload C dL_isLine_179 16 rfl 181 rfl ?_
    refine sx_iload C dL_isLine_181 8 rfl 183 rfl ?_
    refine sx_icmp_gt C dL_isLine_183 416 186 (by decide) rfl (fun c14 => ?_) (fun c14 => ?_)
    · replace h := h.1 c14
      refine sx_iload C dL_isLine_416 15 rfl 418 rfl ?_
      obtain ⟨hce, h⟩ := h
      exact sx_zret C dL_isLine_418 hr hce (by omega) h.1 ⟨_, rfl, h.2⟩
    · replace h := h.2 c14
      refine sx_iload C dL_isLine_186 15 rfl 188 rfl ?_
      refine sx_if_eq C dL_isLine_188 416 191 (by decide) rfl (fun c15 => ?_) (fun c15 => ?_)
      · replace h := h.1 c15
        refine sx_iload C dL_isLine_416 15 rfl 418 rfl ?_
        obtain ⟨hce, h⟩ := h
        exact sx_zret C dL_isLine_418 hr hce (by omega) h.1 ⟨_, rfl, h.2⟩
      · replace h := h.2 c15
        refine sx_aload C dL_isLine_191 5 rfl 193 rfl ?_
        refine sx_iconst C dL_isLine_193 5 (by decide) 194 rfl ?_
        refine sx_iload C dL_isLine_194 16 rfl 196 rfl ?_
        refine sx_imul C dL_isLine_196 197 rfl ?_
        refine sx_iconst C dL_isLine_197 2 (by decide) 198 rfl ?_
        refine sx_iadd C dL_isLine_198 199 rfl ?_
        refine sl_iald C dL_isLine_199 hn rfl h.1 200 rfl ?_
        replace h := h.2
        refine sx_topi (fun y16 ey16 => ?_)
        replace h := h y16 ey16
        refine sx_istore C dL_isLine_200 [(20, .int y16), (0, .ref (b + 0)), (1, .ref (ad 0)), (2, .ref (ad 1)), (3, .ref (ad 3)), (5, .int x5), (6, .ref (ad 8)), (7, .int x7), (10, .int v10), (11, .int v11), (12, .int v12), (13, .int v13), (14, .int v14), (15, .int v15), (16, .int v16), (17, .int v17), (18, .int v18), (19, .int v19)] (by decide) rfl 202 rfl ?_
        refine sx_aload C dL_isLine_202 6 rfl 204 rfl ?_
        refine sx_iconst C dL_isLine_204 5 (by decide) 205 rfl ?_
        refine sx_iload C dL_isLine_205 17 rfl 207 rfl ?_
        refine sx_imul C dL_isLine_207 208 rfl ?_
        refine sl_iald C dL_isLine_208 hn rfl h.1 209 rfl ?_
        replace h := h.2
        refine sx_topi (fun y17 ey17 => ?_)
        replace h := h y17 ey17
        refine sx_istore C dL_isLine_209 [(21, .int y17), (20, .int y16), (0, .ref (b + 0)), (1, .ref (ad 0)), (2, .ref (ad 1)), (3, .ref (ad 3)), (5, .int x5), (6, .ref (ad 8)), (7, .int x7), (10, .int v10), (11, .int v11), (12, .int v12), (13, .int v13), (14, .int v14), (15, .int v15), (16, .int v16), (17, .int v17), (18, .int v18), (19, .int v19)] (by decide) rfl 211 rfl ?_
        refine sx_iconst C dL_isLine_211 0 (by decide) 212 rfl ?_
        refine sx_istore C dL_isLine_212 [(22, .int 0), (21, .int y17), (20, .int y16), (0, .ref (b + 0)), (1, .ref (ad 0)), (2, .ref (ad 1)), (3, .ref (ad 3)), (5, .int x5), (6, .ref (ad 8)), (7, .int x7), (10, .int v10), (11, .int v11), (12, .int v12), (13, .int v13), (14, .int v14), (15, .int v15), (16, .int v16), (17, .int v17), (18, .int v18), (19, .int v19)] (by decide) rfl 214 rfl ?_
        refine sx_widen (k := ce) (n := 36 * ce) (Nat.le_refl _) (by omega) ?_
        exact sx_sub [3, 4, 5, 6, 7, 8, 9, 10, 11, 12, 13, 14, 15, 16, 17, 18, 19, 2, 1, 0] rfl h)
  replace h := h (by
    intro f a o v10 v11 v12 v13 v14 v15 v16 v17 v18 v19 v20 v21 v22 ce h
    refine sx_iload C dL_isLine_214 19 rfl 216 rfl ?_
    refine sx_aload_n C dL_isLine_216 3 3 rfl rfl 217 rfl ?_
    refine sx_iload C dL_isLine_217 18 rfl 219 rfl ?_
    refine sl_iald C dL_isLine_219 (Nat.lt_trans (show 3 < 8 by decide) hn) rfl h.1 220 rfl ?_
    replace h := h.2
    refine sx_icmp_ge C dL_isLine_220 410 223 (by decide) rfl (fun c18 => ?_) (fun c18 => ?_)
    · replace h := h.1 c18
      refine sx_widen (k := ce) (n := 36 * ce) (Nat.le_refl _) (by omega) ?_
      exact sx_sub [0, 1, 2, 3, 4, 5, 6, 7, 8, 9, 10, 11, 12, 13, 14, 15, 16] rfl h
    · replace h := h.2 c18
      refine sx_iload C dL_isLine_223 15 rfl 225 rfl ?_
      refine sx_if_eq C dL_isLine_225 410 228 (by decide) rfl (fun c19 => ?_) (fun c19 => ?_)
      · replace h := h.1 c19
        refine sx_widen (k := ce) (n := 36 * ce) (Nat.le_refl _) (by omega) ?_
        exact sx_sub [0, 1, 2, 3, 4, 5, 6, 7, 8, 9, 10, 11, 12, 13, 14, 15, 16] rfl h
      · replace h := h.2 c19
        refine sx_aload_n C dL_isLine_228 1 1 rfl rfl 229 rfl ?_
        refine sx_aload_n C dL_isLine_229 2 2 rfl rfl 230 rfl ?_
        refine sx_aload_n C dL_isLine_230 3 3 rfl rfl 231 rfl ?_
        refine sx_iload C dL_isLine_231 17 rfl 233 rfl ?_
        refine sx_iload C dL_isLine_233 18 rfl 235 rfl ?_
        refine sx_iload C dL_isLine_235 19 rfl 237 rfl ?_
        obtain ⟨hce, h⟩ := h
        refine sl_callS C hB hA (st := []) dL_isLine_237 (c_L_isSpring hf ok (Nat.le_of_lt hn) h) mi_L_isSpring lk_L_37 mt_L_isSpring rfl rfl ⟨⟨(Nat.le_of_ble_eq_true rfl), (Nat.le_of_ble_eq_true rfl)⟩, hce, (by dsimp only; omega)⟩ (Nat.le_of_ble_eq_true rfl) 240 rfl (fun v g21 a22 o23 h => ?_)
        obtain ⟨⟨r20, rfl, h⟩, e9⟩ := h
        cases e9
        refine sx_widen (k := ce) (n := 36 * ce) (Nat.le_refl _) (by omega) ?_
        refine sx_if_eq C dL_isLine_240 376 243 (by decide) rfl (fun c24 => ?_) (fun c24 => ?_)
        · replace h := h.1 c24
          refine sx_iload C dL_isLine_376 19 rfl 378 rfl ?_
          refine sx_iconst C dL_isLine_378 1 (by decide) 379 rfl ?_
          refine sx_icmp_ne C dL_isLine_379 404 382 (by decide) rfl (fun c25 => ?_) (fun c25 => ?_)
          · replace h := h.2 c25
            refine sx_widen (k := ce) (n := 36 * ce) (Nat.le_refl _) (by omega) ?_
            exact sx_sub [0, 1, 2, 3, 4, 5, 6, 7, 8, 9, 10, 11, 12, 13, 14, 15, 16, 17, 18, 19] rfl h
          · replace h := h.1 c25
            refine sx_aload_n C dL_isLine_382 0 0 rfl rfl 383 rfl ?_
            refine sx_iload C dL_isLine_383 4 rfl 385 rfl ?_
            refine sx_iload C dL_isLine_385 18 rfl 387 rfl ?_
            refine sx_iload C dL_isLine_387 19 rfl 389 rfl ?_
            obtain ⟨hce, h⟩ := h
            refine sl_callH C hB hA (st := []) dL_isLine_389 (c_L_place hf ok (Nat.le_of_lt hn) h) wi_L_place wn_L_place wt_L_place lk_L_71 ⟨by decide, by decide, (show _ = some 4 from by decide +kernel)⟩ rfl rfl ⟨⟨(Nat.le_of_ble_eq_true rfl), (Nat.le_of_ble_eq_true rfl)⟩, hce, (by dsimp only; omega)⟩ (Nat.le_of_ble_eq_true rfl) 392 rfl (fun v g27 a27 o27 h => ?_)
            obtain ⟨r26, rfl, h⟩ := h
            dsimp only at h
            refine sx_bipush C dL_isLine_392 (-9) (by decide) 394 rfl ?_
            refine sx_icmp_ne C dL_isLine_394 401 397 (by decide) rfl (fun c28 => ?_) (fun c28 => ?_)
            · replace h := h.2 c28
              refine sx_iconst C dL_isLine_401 0 (by decide) 402 rfl ?_
              refine sx_widen (k := (ce + 3)) (n := 36 * (ce + 3)) (Nat.le_refl _) (by omega) ?_
              exact sx_sub [0, 1, 2, 3, 4, 5, 6, 7, 8, 9, 10, 11, 12, 13, 14, 16, 17, 18, 19] rfl h
            · replace h := h.1 c28
              refine sx_iconst C dL_isLine_397 1 (by decide) 398 rfl ?_
              refine sx_goto C dL_isLine_398 402 (by decide) ?_
              refine sx_widen (k := (ce + 3)) (n := 36 * (ce + 3)) (Nat.le_refl _) (by omega) ?_
              exact sx_sub [0, 1, 2, 3, 4, 5, 6, 7, 8, 9, 10, 11, 12, 13, 14, 16, 17, 18, 19] rfl h
        · replace h := h.2 c24
          refine sx_aload_n C dL_isLine_243 1 1 rfl rfl 244 rfl ?_
          refine sx_aload_n C dL_isLine_244 2 2 rfl rfl 245 rfl ?_
          refine sx_aload_n C dL_isLine_245 3 3 rfl rfl 246 rfl ?_
          refine sx_iload C dL_isLine_246 17 rfl 248 rfl ?_
          refine sx_iload C dL_isLine_248 18 rfl 250 rfl ?_
          refine sx_iload C dL_isLine_250 19 rfl 252 rfl ?_
          obtain ⟨hce, h⟩ := h
          refine sl_callS C hB hA (st := []) dL_isLine_252 (c_L_spring hf ok (Nat.le_of_lt hn) h) mi_L_spring lk_L_41 mt_L_spring rfl rfl ⟨⟨(Nat.le_of_ble_eq_true rfl), (Nat.le_of_ble_eq_true rfl)⟩, hce, (by dsimp only; omega)⟩ (Nat.le_of_ble_eq_true rfl) 255 rfl (fun v g30 a31 o32 h => ?_)
          obtain ⟨⟨r29, rfl, h⟩, e9⟩ := h
          cases e9
          refine sx_widen (k := ce) (n := 36 * ce) (Nat.le_refl _) (by omega) ?_
          refine sx_istore C dL_isLine_255 [(23, .int r29), (0, .ref (b + 0)), (1, .ref (ad 0)), (2, .ref (ad 1)), (3, .ref (ad 3)), (5, .int x5), (6, .ref (ad 8)), (7, .int x7), (10, .int v10), (11, .int v11), (12, .int v12), (13, .int v13), (14, .int v14), (15, .int v15), (16, .int v16), (17, .int v17), (18, .int v18), (19, .int v19), (20, .int v20), (21, .int v21), (22, .int v22)] (by decide) rfl 257 rfl ?_
          refine sx_bipush C dL_isLine_257 8 (by decide) 259 rfl ?_
          refine sx_iload C dL_isLine_259 17 rfl 261 rfl ?_
          refine sx_iload C dL_isLine_261 8 rfl 263 rfl ?_
          refine sx_isub C dL_isLine_263 264 rfl ?_
          refine sx_imul C dL_isLine_264 265 rfl ?_
          refine sx_iconst C dL_isLine_265 4 (by decide) 266 rfl ?_
          refine sx_iadd C dL_isLine_266 267 rfl ?_
          refine sx_iload C dL_isLine_267 14 rfl 269 rfl ?_
          refine sx_iadd C dL_isLine_269 270 rfl ?_
          refine sx_topi (fun y33 ey33 => ?_)
          replace h := h y33 ey33
          refine sx_istore C dL_isLine_270 [(24, .int y33), (23, .int r29), (0, .ref (b + 0)), (1, .ref (ad 0)), (2, .ref (ad 1)), (3, .ref (ad 3)), (5, .int x5), (6, .ref (ad 8)), (7, .int x7), (10, .int v10), (11, .int v11), (12, .int v12), (13, .int v13), (14, .int v14), (15, .int v15), (16, .int v16), (17, .int v17), (18, .int v18), (19, .int v19), (20, .int v20), (21, .int v21), (22, .int v22)] (by decide) rfl 272 rfl ?_
          refine sx_iload C dL_isLine_272 0 rfl 274 rfl ?_
          refine sx_iload C dL_isLine_274 13 rfl 276 rfl ?_
          refine sx_if_le C dL_isLine_276 299 279 (by decide) rfl (fun c34 => ?_) (fun c34 => ?_)
          · replace h := h.1 c34
            refine sx_widen (k := ce) (n := 36 * ce) (Nat.le_refl _) (by omega) ?_
            exact sx_sub [2, 3, 4, 5, 6, 7, 8, 9, 10, 11, 12, 13, 14, 15, 16, 18, 19, 20, 21, 1] rfl h
          · replace h := h.2 c34
            refine sx_iload C dL_isLine_279 10 rfl 281 rfl ?_
            refine sx_iload C dL_isLine_281 8 rfl 283 rfl ?_
            refine sx_iconst C dL_isLine_283 1 (by decide) 284 rfl ?_
            refine sx_isub C dL_isLine_284 285 rfl ?_
            refine sx_icmp_ge C dL_isLine_285 299 288 (by decide) rfl (fun c35 => ?_) (fun c35 => ?_)
            · replace h := h.1 c35
              refine sx_widen (k := ce) (n := 36 * ce) (Nat.le_refl _) (by omega) ?_
              exact sx_sub [2, 3, 4, 5, 6, 7, 8, 9, 10, 11, 12, 13, 14, 15, 16, 18, 19, 20, 21, 1] rfl h
            · replace h := h.2 c35
              refine sx_iload C dL_isLine_288 13 rfl 290 rfl ?_
              refine sx_iload C dL_isLine_290 15 rfl 292 rfl ?_
              refine sx_imul C dL_isLine_292 293 rfl ?_
              refine sx_iload C dL_isLine_293 11 rfl 295 rfl ?_
              refine sx_idiv C dL_isLine_295 h.1 296 rfl ?_
              replace h := h.2
              refine sx_goto C dL_isLine_296 300 (by decide) ?_
              refine sx_widen (k := ce) (n := 36 * ce) (Nat.le_refl _) (by omega) ?_
              exact sx_sub [2, 3, 4, 5, 6, 7, 8, 9, 10, 11, 12, 13, 14, 15, 16, 18, 19, 20, 21, 1] rfl h)
  replace h := h (by
    intro f a o v10 v11 v12 v13 v14 v15 v16 v17 v19 v20 v21 v22 v23 s0 ce h
    refine sx_iconst C dL_isLine_299 0 (by decide) 300 rfl ?_
    refine sx_widen (k := ce) (n := 36 * ce) (Nat.le_refl _) (by omega) ?_
    exact sx_sub [0, 1, 2, 3, 4, 5, 6, 7, 8, 9, 10, 11, 12, 13, 14, 15, 16, 17, 18, 19] rfl h)
  replace h := h (by
    intro f a o v10 v11 v12 v13 v14 v15 v16 v17 v19 v20 v21 v22 v23 s0 s1 ce h
    refine sx_iadd C dL_isLine_300 301 rfl ?_
    refine sx_topi (fun y36 ey36 => ?_)
    replace h := h y36 ey36
    refine sx_istore C dL_isLine_301 [(24, .int y36), (0, .ref (b + 0)), (1, .ref (ad 0)), (2, .ref (ad 1)), (3, .ref (ad 3)), (5, .int x5), (6, .ref (ad 8)), (7, .int x7), (10, .int v10), (11, .int v11), (12, .int v12), (13, .int v13), (14, .int v14), (15, .int v15), (16, .int v16), (17, .int v17), (19, .int v19), (20, .int v20), (21, .int v21), (22, .int v22), (23, .int v23)] (by decide) rfl 303 rfl ?_
    refine sx_iload C dL_isLine_303 0 rfl 305 rfl ?_
    refine sx_iload C dL_isLine_305 13 rfl 307 rfl ?_
    refine sx_if_le C dL_isLine_307 327 310 (by decide) rfl (fun c37 => ?_) (fun c37 => ?_)
    · replace h := h.1 c37
      refine sx_iconst C dL_isLine_327 0 (by decide) 328 rfl ?_
      refine sx_widen (k := ce) (n := 36 * ce) (Nat.le_refl _) (by omega) ?_
      exact sx_sub [1, 2, 3, 4, 5, 6, 7, 8, 9, 10, 11, 12, 13, 14, 15, 16, 17, 18, 19, 20] rfl h
    · replace h := h.2 c37
      refine sx_iload C dL_isLine_310 13 rfl 312 rfl ?_
      refine sx_iload C dL_isLine_312 14 rfl 314 rfl ?_
      refine sx_iload C dL_isLine_314 15 rfl 316 rfl ?_
      refine sx_isub C dL_isLine_316 317 rfl ?_
      refine sx_imul C dL_isLine_317 318 rfl ?_
      refine sx_iload C dL_isLine_318 10 rfl 320 rfl ?_
      refine sx_iload C dL_isLine_320 11 rfl 322 rfl ?_
      refine sx_isub C dL_isLine_322 323 rfl ?_
      refine sx_idiv C dL_isLine_323 h.1 324 rfl ?_
      replace h := h.2
      refine sx_goto C dL_isLine_324 328 (by decide) ?_
      refine sx_widen (k := ce) (n := 36 * ce) (Nat.le_refl _) (by omega) ?_
      exact sx_sub [1, 2, 3, 4, 5, 6, 7, 8, 9, 10, 11, 12, 13, 14, 15, 16, 17, 18, 19, 20] rfl h)
  replace h := h (by
    intro f a o v10 v11 v12 v13 v14 v15 v16 v17 v19 v20 v21 v22 v23 s0 s1 ce h
    refine sx_isub C dL_isLine_328 329 rfl ?_
    refine sx_topi (fun y38 ey38 => ?_)
    replace h := h y38 ey38
    refine sx_istore C dL_isLine_329 [(24, .int y38), (0, .ref (b + 0)), (1, .ref (ad 0)), (2, .ref (ad 1)), (3, .ref (ad 3)), (5, .int x5), (6, .ref (ad 8)), (7, .int x7), (10, .int v10), (11, .int v11), (12, .int v12), (13, .int v13), (14, .int v14), (15, .int v15), (16, .int v16), (17, .int v17), (19, .int v19), (20, .int v20), (21, .int v21), (22, .int v22), (23, .int v23)] (by decide) rfl 331 rfl ?_
    refine sx_aload_n C dL_isLine_331 0 1 rfl rfl 332 rfl ?_
    refine sx_iload C dL_isLine_332 5 rfl 334 rfl ?_
    refine sx_iload C dL_isLine_334 18 rfl 336 rfl ?_
    refine sx_iload C dL_isLine_336 19 rfl 338 rfl ?_
    obtain ⟨hce, h⟩ := h
    refine sl_callH C hB hA (st := []) dL_isLine_338 (c_L_place hf ok (Nat.le_of_lt hn) h) wi_L_place wn_L_place wt_L_place lk_L_71 ⟨by decide, by decide, (show _ = some 4 from by decide +kernel)⟩ rfl rfl ⟨⟨(Nat.le_of_ble_eq_true rfl), (Nat.le_of_ble_eq_true rfl)⟩, hce, (by dsimp only; omega)⟩ (Nat.le_of_ble_eq_true rfl) 341 rfl (fun v g40 a40 o40 h => ?_)
    obtain ⟨r39, rfl, h⟩ := h
    dsimp only at h
    refine sx_iload C dL_isLine_341 0 rfl 343 rfl ?_
    refine sx_icmp_ne C dL_isLine_343 350 346 (by decide) rfl (fun c41 => ?_) (fun c41 => ?_)
    · replace h := h.2 c41
      refine sx_iconst C dL_isLine_350 0 (by decide) 351 rfl ?_
      refine sx_widen (k := (ce + 3)) (n := 36 * (ce + 3)) (Nat.le_refl _) (by omega) ?_
      exact sx_sub [1, 2, 3, 4, 5, 6, 7, 8, 9, 10, 11, 12, 13, 14, 15, 16, 17, 18, 19, 20] rfl h
    · replace h := h.1 c41
      refine sx_iconst C dL_isLine_346 1 (by decide) 347 rfl ?_
      refine sx_goto C dL_isLine_347 351 (by decide) ?_
      refine sx_widen (k := (ce + 3)) (n := 36 * (ce + 3)) (Nat.le_refl _) (by omega) ?_
      exact sx_sub [1, 2, 3, 4, 5, 6, 7, 8, 9, 10, 11, 12, 13, 14, 15, 16, 17, 18, 19, 20] rfl h)
  replace h := h (by
    intro f a o v10 v11 v12 v13 v14 v15 v16 v17 v19 v20 v21 v22 v23 s0 ce h
    refine sx_istore C dL_isLine_351 [(18, .int s0), (0, .ref (b + 0)), (1, .ref (ad 0)), (2, .ref (ad 1)), (3, .ref (ad 3)), (5, .int x5), (6, .ref (ad 8)), (7, .int x7), (10, .int v10), (11, .int v11), (12, .int v12), (13, .int v13), (14, .int v14), (15, .int v15), (16, .int v16), (17, .int v17), (19, .int v19), (20, .int v20), (21, .int v21), (22, .int v22), (23, .int v23)] (by decide) rfl 353 rfl ?_
    refine sx_iload C dL_isLine_353 14 rfl 355 rfl ?_
    refine sx_iload C dL_isLine_355 20 rfl 357 rfl ?_
    refine sx_bipush C dL_isLine_357 100 (by decide) 359 rfl ?_
    refine sx_idiv C dL_isLine_359 (by decide) 360 rfl ?_
    refine sx_iadd C dL_isLine_360 361 rfl ?_
    refine sx_topi (fun y42 ey42 => ?_)
    replace h := h y42 ey42
    refine sx_istore C dL_isLine_361 [(16, .int y42), (18, .int s0), (0, .ref (b + 0)), (1, .ref (ad 0)), (2, .ref (ad 1)), (3, .ref (ad 3)), (5, .int x5), (6, .ref (ad 8)), (7, .int x7), (10, .int v10), (11, .int v11), (12, .int v12), (13, .int v13), (14, .int v14), (15, .int v15), (17, .int v17), (19, .int v19), (20, .int v20), (21, .int v21), (22, .int v22), (23, .int v23)] (by decide) rfl 363 rfl ?_
    refine sx_iload C dL_isLine_363 15 rfl 365 rfl ?_
    refine sx_iload C dL_isLine_365 20 rfl 367 rfl ?_
    refine sx_bipush C dL_isLine_367 100 (by decide) 369 rfl ?_
    refine sx_irem C dL_isLine_369 (by decide) 370 rfl ?_
    refine sx_iadd C dL_isLine_370 371 rfl ?_
    refine sx_topi (fun y43 ey43 => ?_)
    replace h := h y43 ey43
    refine sx_istore C dL_isLine_371 [(17, .int y43), (16, .int y42), (18, .int s0), (0, .ref (b + 0)), (1, .ref (ad 0)), (2, .ref (ad 1)), (3, .ref (ad 3)), (5, .int x5), (6, .ref (ad 8)), (7, .int x7), (10, .int v10), (11, .int v11), (12, .int v12), (13, .int v13), (14, .int v14), (15, .int v15), (19, .int v19), (20, .int v20), (21, .int v21), (22, .int v22), (23, .int v23)] (by decide) rfl 373 rfl ?_
    refine sx_goto C dL_isLine_373 404 (by decide) ?_
    refine sx_widen (k := ce) (n := 36 * ce) (Nat.le_refl _) (by omega) ?_
    exact sx_sub [3, 4, 5, 6, 7, 8, 9, 10, 11, 12, 13, 14, 15, 1, 0, 2, 16, 17, 18, 19] rfl h)
  replace h := h (by
    intro f a o v10 v11 v12 v13 v14 v15 v16 v17 v19 v20 v21 v22 s0 ce h
    refine sx_istore C dL_isLine_402 [(18, .int s0), (0, .ref (b + 0)), (1, .ref (ad 0)), (2, .ref (ad 1)), (3, .ref (ad 3)), (5, .int x5), (6, .ref (ad 8)), (7, .int x7), (10, .int v10), (11, .int v11), (12, .int v12), (13, .int v13), (14, .int v14), (15, .int v15), (16, .int v16), (17, .int v17), (19, .int v19), (20, .int v20), (21, .int v21), (22, .int v22)] (by decide) rfl 404 rfl ?_
    refine sx_widen (k := ce) (n := 36 * ce) (Nat.le_refl _) (by omega) ?_
    exact sx_sub [1, 2, 3, 4, 5, 6, 7, 8, 9, 10, 11, 12, 13, 14, 15, 0, 16, 17, 18, 19] rfl h)
  replace h := h (by
    intro f a o v10 v11 v12 v13 v14 v15 v16 v17 v18 v19 v20 v21 v22 ce h
    obtain ⟨y44, ey44⟩ : ∃ w : Int32, w = v22 + 1 := ⟨_, rfl⟩
    replace h := h y44 ey44
    refine sx_iinc C dL_isLine_404 19 rfl y44 (by rw [ey44]; rfl) [(22, .int y44), (0, .ref (b + 0)), (1, .ref (ad 0)), (2, .ref (ad 1)), (3, .ref (ad 3)), (5, .int x5), (6, .ref (ad 8)), (7, .int x7), (10, .int v10), (11, .int v11), (12, .int v12), (13, .int v13), (14, .int v14), (15, .int v15), (16, .int v16), (17, .int v17), (18, .int v18), (19, .int v19), (20, .int v20), (21, .int v21)] (by decide) rfl 407 rfl ?_
    refine sx_goto C dL_isLine_407 214 (by decide) ?_
    refine sx_widen (k := ce) (n := 36 * ce) (Nat.le_refl _) (by omega) ?_
    exact sx_sub [1, 2, 3, 4, 5, 6, 7, 8, 9, 10, 11, 12, 13, 14, 15, 16, 17, 18, 19, 0] rfl h)
  replace h := h (by
    intro f a o v10 v11 v12 v13 v14 v15 v16 v17 v18 v19 ce h
    obtain ⟨y45, ey45⟩ : ∃ w : Int32, w = v19 + 1 := ⟨_, rfl⟩
    replace h := h y45 ey45
    refine sx_iinc C dL_isLine_410 16 rfl y45 (by rw [ey45]; rfl) [(19, .int y45), (0, .ref (b + 0)), (1, .ref (ad 0)), (2, .ref (ad 1)), (3, .ref (ad 3)), (5, .int x5), (6, .ref (ad 8)), (7, .int x7), (10, .int v10), (11, .int v11), (12, .int v12), (13, .int v13), (14, .int v14), (15, .int v15), (16, .int v16), (17, .int v17), (18, .int v18)] (by decide) rfl 413 rfl ?_
    refine sx_goto C dL_isLine_413 179 (by decide) ?_
    refine sx_widen (k := ce) (n := 36 * ce) (Nat.le_refl _) (by omega) ?_
    exact sx_sub [1, 2, 3, 4, 5, 6, 7, 8, 9, 10, 11, 12, 13, 14, 15, 16, 0] rfl h)
  refine sx_sub (lv' := [(0, .ref (b + 0)), (1, .ref (ad 0)), (2, .ref (ad 1)), (3, .ref (ad 3)), (4, .ref (ad 7)), (5, .int x5), (6, .ref (ad 8)), (7, .int x7), (8, .int x8), (9, .int x9)]) [0, 1, 2, 3, 4, 5, 6, 7, 8, 9] rfl ?_
  refine sx_iload C dL_isLine_0 9 rfl 2 rfl ?_
  refine sx_istore C dL_isLine_2 [(10, .int x9), (0, .ref (b + 0)), (1, .ref (ad 0)), (2, .ref (ad 1)), (3, .ref (ad 3)), (4, .ref (ad 7)), (5, .int x5), (6, .ref (ad 8)), (7, .int x7), (8, .int x8), (9, .int x9)] (by decide) rfl 4 rfl ?_
  refine sx_iload C dL_isLine_4 10 rfl 6 rfl ?_
  refine sx_istore C dL_isLine_6 [(11, .int x9), (10, .int x9), (0, .ref (b + 0)), (1, .ref (ad 0)), (2, .ref (ad 1)), (3, .ref (ad 3)), (4, .ref (ad 7)), (5, .int x5), (6, .ref (ad 8)), (7, .int x7), (8, .int x8), (9, .int x9)] (by decide) rfl 8 rfl ?_
  refine sx_iconst C dL_isLine_8 0 (by decide) 9 rfl ?_
  refine sx_istore C dL_isLine_9 [(12, .int 0), (11, .int x9), (10, .int x9), (0, .ref (b + 0)), (1, .ref (ad 0)), (2, .ref (ad 1)), (3, .ref (ad 3)), (4, .ref (ad 7)), (5, .int x5), (6, .ref (ad 8)), (7, .int x7), (8, .int x8), (9, .int x9)] (by decide) rfl 11 rfl ?_
  refine sx_iconst C dL_isLine_11 0 (by decide) 12 rfl ?_
  refine sx_istore C dL_isLine_12 [(13, .int 0), (12, .int 0), (11, .int x9), (10, .int x9), (0, .ref (b + 0)), (1, .ref (ad 0)), (2, .ref (ad 1)), (3, .ref (ad 3)), (4, .ref (ad 7)), (5, .int x5), (6, .ref (ad 8)), (7, .int x7), (8, .int x8), (9, .int x9)] (by decide) rfl 14 rfl ?_
  refine sx_widen (k := 0) (n := 36 * 0) (Nat.le_refl _) (by omega) ?_
  exact sx_sub [4, 5, 6, 7, 8, 9, 10, 11, 12, 3, 2, 1, 0] rfl h
