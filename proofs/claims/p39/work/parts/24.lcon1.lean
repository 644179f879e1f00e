set_option maxRecDepth 100000 in
set_option maxHeartbeats 8000000 in
theorem c_L_length {l : Launch} {D : va_G} {G : sx_G} {b : Nat} {ad : Nat → Nat} {n : Nat} (hf : l.stackTraces = false) (ok : sl_ok b ad n) (hn : 8 ≤ n) {f a : sx_F} {o : sl_O} {x1 : Int32} {x2 : Int32} {Q : Int32 → Prop} (h : P_L_length f a o x1 x2 Q) : sl_Met l D G b ad n yL_length cL_length 3 (some .int) 1 13 0 0 [.ref (ad 0), .int x1, .int x2] (f, a, o) (sl_pi (f, a, o) Q) := by
  refine sl_enter (own := RL) hf rfl rfl (Nat.le_of_ble_eq_true rfl) ?_
  intro p e s m args below meth c C hr 
  have hB : ∀ k, k < 129 → sl_A b ad n s.heap.size (b + k) := fun k h => Or.inl ⟨Nat.le_add_right _ _, Nat.add_lt_add_left h _⟩
  have hA : ∀ j, j < n → sl_A b ad n s.heap.size (ad j) := fun j h => Or.inr (Or.inl ⟨j, h, rfl⟩)
  unfold P_L_length at h
  refine sx_sub (lv' := [(0, .ref (ad 0)), (1, .int x1), (2, .int x2)]) [0, 1, 2] rfl ?_
  refine sx_aload_n C dL_length_0 0 0 rfl rfl 1 rfl ?_
  refine sx_iload_n C dL_length_1 1 1 rfl rfl 2 rfl ?_
  refine sl_lald C dL_length_2 (Nat.lt_of_lt_of_le (show 0 < 8 by decide) hn) rfl h.1 3 rfl ?_
  replace h := h.2
  refine sx_bipush C dL_length_3 8 (by decide) 5 rfl ?_
  refine sx_iload_n C dL_length_5 2 2 rfl rfl 6 rfl ?_
  refine sx_imul C dL_length_6 7 rfl ?_
  refine sl_lushr C dL_length_7 8 rfl ?_
  refine sl_ldc2 C dL_length_8 (31) kl_L_9 11 rfl ?_
  refine sl_land C dL_length_11 12 rfl ?_
  refine sl_l2i C dL_length_12 13 rfl ?_
  exact sx_iret C dL_length_13 hr (Nat.le_of_ble_eq_true rfl) (Nat.le_of_ble_eq_true rfl) ⟨⟨_, rfl, h⟩, rfl⟩
set_option maxRecDepth 100000 in
set_option maxHeartbeats 8000000 in
theorem c_L_pitch {l : Launch} {D : va_G} {G : sx_G} {b : Nat} {ad : Nat → Nat} {n : Nat} (hf : l.stackTraces = false) (ok : sl_ok b ad n) (hn : 8 ≤ n) {f a : sx_F} {o : sl_O} {x1 : Int32} {x2 : Int32} {Q : Int32 → Prop} (h : P_L_pitch f a o x1 x2 Q) : sl_Met l D G b ad n yL_pitch cL_pitch 3 (some .int) 1 13 0 0 [.ref (ad 0), .int x1, .int x2] (f, a, o) (sl_pi (f, a, o) Q) := by
  refine sl_enter (own := RL) hf rfl rfl (Nat.le_of_ble_eq_true rfl) ?_
  intro p e s m args below meth c C hr 
  have hB : ∀ k, k < 129 → sl_A b ad n s.heap.size (b + k) := fun k h => Or.inl ⟨Nat.le_add_right _ _, Nat.add_lt_add_left h _⟩
  have hA : ∀ j, j < n → sl_A b ad n s.heap.size (ad j) := fun j h => Or.inr (Or.inl ⟨j, h, rfl⟩)
  unfold P_L_pitch at h
  refine sx_sub (lv' := [(0, .ref (ad 0)), (1, .int x1), (2, .int x2)]) [0, 1, 2] rfl ?_
  refine sx_aload_n C dL_pitch_0 0 0 rfl rfl 1 rfl ?_
  refine sx_iload_n C dL_pitch_1 1 1 rfl rfl 2 rfl ?_
  refine sl_lald C dL_pitch_2 (Nat.lt_of_lt_of_le (show 0 < 8 by decide) hn) rfl h.1 3 rfl ?_
  replace h := h.2
  refine sx_bipush C dL_pitch_3 8 (by decide) 5 rfl ?_
  refine sx_iload_n C dL_pitch_5 2 2 rfl rfl 6 rfl ?_
  refine sx_imul C dL_pitch_6 7 rfl ?_
  refine sx_iconst C dL_pitch_7 5 (by decide) 8 rfl ?_
  refine sx_iadd C dL_pitch_8 9 rfl ?_
  refine sl_lushr C dL_pitch_9 10 rfl ?_
  refine sl_ldc2 C dL_pitch_10 (7) kl_L_11 13 rfl ?_
  refine sl_land C dL_pitch_13 14 rfl ?_
  refine sl_l2i C dL_pitch_14 15 rfl ?_
  exact sx_iret C dL_pitch_15 hr (Nat.le_of_ble_eq_true rfl) (Nat.le_of_ble_eq_true rfl) ⟨⟨_, rfl, h⟩, rfl⟩
set_option maxRecDepth 100000 in
set_option maxHeartbeats 8000000 in
theorem c_L_begins {l : Launch} {D : va_G} {G : sx_G} {b : Nat} {ad : Nat → Nat} {n : Nat} (hf : l.stackTraces = false) (ok : sl_ok b ad n) (hn : 8 ≤ n) {f a : sx_F} {o : sl_O} {x3 : Int32} {x4 : Int32} {x5 : Int32} {Q : Int32 → Prop} (h : P_L_begins f a o x3 x4 x5 Q) : sl_Met l D G b ad n yL_begins cL_begins 10 (some .int) 2 35 0 0 [.ref (ad 0), .ref (ad 1), .ref (ad 3), .int x3, .int x4, .int x5] (f, a, o) (sl_pi (f, a, o) Q) := by
  refine sl_enter (own := RL) hf rfl rfl (Nat.le_of_ble_eq_true rfl) ?_
  intro p e s m args below meth c C hr 
  have hB : ∀ k, k < 129 → sl_A b ad n s.heap.size (b + k) := fun k h => Or.inl ⟨Nat.le_add_right _ _, Nat.add_lt_add_left h _⟩
  have hA : ∀ j, j < n → sl_A b ad n s.heap.size (ad j) := fun j h => Or.inr (Or.inl ⟨j, h, rfl⟩)
  unfold P_L_begins at h
  replace h := h (fun (v6 : Int32) (v7 : Int32) (v8 : Int32) (v9 : Int32) => sx_J (sl_wp D G b ad n) p l e { frames := 2, cells := 0, slots := 0, locals := 35 } s m args below meth c (sl_A b ad n s.heap.size) 10 0 (36 * 0) (sx_fin (sl_wp D G b ad n) (sl_A b ad n s.heap.size) below args s 0 0 (sl_pi (f, a, o) Q) (fun _ _ => False)) (f, a, o) 18 [(0, .ref (ad 0)), (1, .ref (ad 1)), (2, .ref (ad 3)), (4, .int x4), (5, .int x5), (6, .int v6), (7, .int v7), (8, .int v8), (9, .int v9)] [])
  replace h := h (fun (v6 : Int32) (v7 : Int32) (v9 : Int32) (s0 : Int32) => sx_J (sl_wp D G b ad n) p l e { frames := 2, cells := 0, slots := 0, locals := 35 } s m args below meth c (sl_A b ad n s.heap.size) 10 0 (36 * 0) (sx_fin (sl_wp D G b ad n) (sl_A b ad n s.heap.size) below args s 0 0 (sl_pi (f, a, o) Q) (fun _ _ => False)) (f, a, o) 55 [(0, .ref (ad 0)), (1, .ref (ad 1)), (2, .ref (ad 3)), (4, .int x4), (5, .int x5), (6, .int v6), (7, .int v7), (9, .int v9)] [.int s0])
  replace h := h (by
    intro v6 v7 v8 v9 h
    refine sx_iload C dL_begins_18 8 rfl 20 rfl ?_
    refine sx_aload_n C dL_begins_20 1 1 rfl rfl 21 rfl ?_
    refine sx_iload C dL_begins_21 5 rfl 23 rfl ?_
    refine sl_iald C dL_begins_23 (Nat.lt_of_lt_of_le (show 1 < 8 by decide) hn) rfl h.1 24 rfl ?_
    replace h := h.2
    refine sx_icmp_ge C dL_begins_24 76 27 (by decide) rfl (fun c1 => ?_) (fun c1 => ?_)
    · replace h := h.1 c1
      refine sx_iload C dL_begins_76 6 rfl 78 rfl ?_
      refine sx_iload C dL_begins_78 4 rfl 80 rfl ?_
      refine sx_icmp_ne C dL_begins_80 96 83 (by decide) rfl (fun c2 => ?_) (fun c2 => ?_)
      · replace h := h.2 c2
        refine sx_iload C dL_begins_96 7 rfl 98 rfl ?_
        exact sx_iret C dL_begins_98 hr (Nat.le_of_ble_eq_true rfl) (Nat.le_of_ble_eq_true rfl) ⟨⟨_, rfl, h⟩, rfl⟩
      · replace h := h.1 c2
        refine sx_iload C dL_begins_83 6 rfl 85 rfl ?_
        refine sx_aload_n C dL_begins_85 2 2 rfl rfl 86 rfl ?_
        refine sx_iload C dL_begins_86 3 rfl 88 rfl ?_
        refine sl_iald C dL_begins_88 (Nat.lt_of_lt_of_le (show 3 < 8 by decide) hn) rfl h.1 89 rfl ?_
        replace h := h.2
        refine sx_icmp_ge C dL_begins_89 96 92 (by decide) rfl (fun c3 => ?_) (fun c3 => ?_)
        · replace h := h.1 c3
          refine sx_iload C dL_begins_96 7 rfl 98 rfl ?_
          exact sx_iret C dL_begins_98 hr (Nat.le_of_ble_eq_true rfl) (Nat.le_of_ble_eq_true rfl) ⟨⟨_, rfl, h⟩, rfl⟩
        · replace h := h.2 c3
          refine sx_iconst C dL_begins_92 1 (by decide) 93 rfl ?_
          refine sx_goto C dL_begins_93 98 (by decide) ?_
          exact sx_iret C dL_begins_98 hr (Nat.le_of_ble_eq_true rfl) (Nat.le_of_ble_eq_true rfl) ⟨⟨_, rfl, h⟩, rfl⟩
    · replace h := h.2 c1
      refine sx_iload C dL_begins_27 6 rfl 29 rfl ?_
      refine sx_iload C dL_begins_29 4 rfl 31 rfl ?_
      refine sx_icmp_ne C dL_begins_31 53 34 (by decide) rfl (fun c4 => ?_) (fun c4 => ?_)
      · replace h := h.2 c4
        refine sx_iload C dL_begins_53 7 rfl 55 rfl ?_
        exact sx_sub [0, 1, 2, 3, 4, 5, 6, 8] rfl h
      · replace h := h.1 c4
        refine sx_aload_n C dL_begins_34 0 0 rfl rfl 35 rfl ?_
        refine sx_iload C dL_begins_35 5 rfl 37 rfl ?_
        refine sx_iload C dL_begins_37 8 rfl 39 rfl ?_
        refine sl_callS C hB hA (st := []) dL_begins_39 (c_L_pitch hf ok hn h) mi_L_pitch lk_L_13 mt_L_pitch rfl rfl ⟨⟨(Nat.le_of_ble_eq_true rfl), (Nat.le_of_ble_eq_true rfl)⟩, (Nat.le_of_ble_eq_true rfl), (Nat.le_of_ble_eq_true rfl)⟩ (Nat.le_of_ble_eq_true rfl) 42 rfl (fun v g6 a7 o8 h => ?_)
        obtain ⟨⟨r5, rfl, h⟩, e9⟩ := h
        cases e9
        refine sx_if_le C dL_begins_42 49 45 (by decide) rfl (fun c9 => ?_) (fun c9 => ?_)
        · replace h := h.1 c9
          refine sx_iconst C dL_begins_49 1 (by decide) 50 rfl ?_
          refine sx_goto C dL_begins_50 55 (by decide) ?_
          exact sx_sub [0, 1, 2, 3, 4, 5, 6, 8] rfl h
        · replace h := h.2 c9
          refine sx_iconst C dL_begins_45 2 (by decide) 46 rfl ?_
          refine sx_goto C dL_begins_46 55 (by decide) ?_
          exact sx_sub [0, 1, 2, 3, 4, 5, 6, 8] rfl h)
  replace h := h (by
    intro v6 v7 v9 s0 h
    refine sx_istore C dL_begins_55 [(8, .int s0), (0, .ref (ad 0)), (1, .ref (ad 1)), (2, .ref (ad 3)), (4, .int x4), (5, .int x5), (6, .int v6), (7, .int v7), (9, .int v9)] (by decide) rfl 57 rfl ?_
    refine sx_iload C dL_begins_57 7 rfl 59 rfl ?_
    refine sx_aload_n C dL_begins_59 0 1 rfl rfl 60 rfl ?_
    refine sx_iload C dL_begins_60 6 rfl 62 rfl ?_
    refine sx_iload C dL_begins_62 8 rfl 64 rfl ?_
    refine sl_callS C hB hA (st := [.int v7]) dL_begins_64 (c_L_length hf ok hn h) mi_L_length lk_L_19 mt_L_length rfl rfl ⟨⟨(Nat.le_of_ble_eq_true rfl), (Nat.le_of_ble_eq_true rfl)⟩, (Nat.le_of_ble_eq_true rfl), (Nat.le_of_ble_eq_true rfl)⟩ (Nat.le_of_ble_eq_true rfl) 67 rfl (fun v g11 a12 o13 h => ?_)
    obtain ⟨⟨r10, rfl, h⟩, e9⟩ := h
    cases e9
    refine sx_iadd C dL_begins_67 68 rfl ?_
    refine sx_topi (fun y14 ey14 => ?_)
    replace h := h y14 ey14
    refine sx_istore C dL_begins_68 [(7, .int y14), (8, .int s0), (0, .ref (ad 0)), (1, .ref (ad 1)), (2, .ref (ad 3)), (4, .int x4), (5, .int x5), (6, .int v6), (9, .int v9)] (by decide) rfl 70 rfl ?_
    obtain ⟨y15, ey15⟩ : ∃ w : Int32, w = v9 + 1 := ⟨_, rfl⟩
    replace h := h y15 ey15
    refine sx_iinc C dL_begins_70 8 rfl y15 (by rw [ey15]; rfl) [(9, .int y15), (7, .int y14), (8, .int s0), (0, .ref (ad 0)), (1, .ref (ad 1)), (2, .ref (ad 3)), (4, .int x4), (5, .int x5), (6, .int v6)] (by decide) rfl 73 rfl ?_
    refine sx_goto C dL_begins_73 18 (by decide) ?_
    exact sx_sub [3, 4, 5, 6, 7, 8, 1, 2, 0] rfl h)
  refine sx_sub (lv' := [(0, .ref (ad 0)), (1, .ref (ad 1)), (2, .ref (ad 3)), (3, .int x3), (4, .int x4), (5, .int x5)]) [0, 1, 2, 3, 4, 5] rfl ?_
  refine sx_bipush C dL_begins_0 6 (by decide) 2 rfl ?_
  refine sx_iload_n C dL_begins_2 3 3 rfl rfl 3 rfl ?_
  refine sx_imul C dL_begins_3 4 rfl ?_
  refine sx_iload C dL_begins_4 4 rfl 6 rfl ?_
  refine sx_iadd C dL_begins_6 7 rfl ?_
  refine sx_topi (fun y16 ey16 => ?_)
  replace h := h y16 ey16
  refine sx_istore C dL_begins_7 [(6, .int y16), (0, .ref (ad 0)), (1, .ref (ad 1)), (2, .ref (ad 3)), (3, .int x3), (4, .int x4), (5, .int x5)] (by decide) rfl 9 rfl ?_
  refine sx_iconst C dL_begins_9 0 (by decide) 10 rfl ?_
  refine sx_istore C dL_begins_10 [(7, .int 0), (6, .int y16), (0, .ref (ad 0)), (1, .ref (ad 1)), (2, .ref (ad 3)), (3, .int x3), (4, .int x4), (5, .int x5)] (by decide) rfl 12 rfl ?_
  refine sx_iconst C dL_begins_12 0 (by decide) 13 rfl ?_
  refine sx_istore C dL_begins_13 [(8, .int 0), (7, .int 0), (6, .int y16), (0, .ref (ad 0)), (1, .ref (ad 1)), (2, .ref (ad 3)), (3, .int x3), (4, .int x4), (5, .int x5)] (by decide) rfl 15 rfl ?_
  refine sx_iconst C dL_begins_15 0 (by decide) 16 rfl ?_
  refine sx_istore C dL_begins_16 [(9, .int 0), (8, .int 0), (7, .int 0), (6, .int y16), (0, .ref (ad 0)), (1, .ref (ad 1)), (2, .ref (ad 3)), (3, .int x3), (4, .int x4), (5, .int x5)] (by decide) rfl 18 rfl ?_
  exact sx_sub [4, 5, 6, 8, 9, 3, 2, 1, 0] rfl h
set_option maxRecDepth 100000 in
set_option maxHeartbeats 8000000 in
theorem c_L_isSilent {l : Launch} {D : va_G} {G : sx_G} {b : Nat} {ad : Nat → Nat} {n : Nat} (hf : l.stackTraces = false) (ok : sl_ok b ad n) (hn : 8 ≤ n) {f a : sx_F} {o : sl_O} {x2 : Int32} {x3 : Int32} {Q : Int32 → Prop} (h : P_L_isSilent f a o x2 x3 Q) : sl_Met l D G b ad n yL_isSilent cL_isSilent 6 (some .boolean) 2 35 0 0 [.ref (ad 0), .ref (ad 1), .int x2, .int x3] (f, a, o) (sl_pi (f, a, o) Q) := by
  refine sl_enter (own := RL) hf rfl rfl (Nat.le_of_ble_eq_true rfl) ?_
  intro p e s m args below meth c C hr 
  have hB : ∀ k, k < 129 → sl_A b ad n s.heap.size (b + k) := fun k h => Or.inl ⟨Nat.le_add_right _ _, Nat.add_lt_add_left h _⟩
  have hA : ∀ j, j < n → sl_A b ad n s.heap.size (ad j) := fun j h => Or.inr (Or.inl ⟨j, h, rfl⟩)
  unfold P_L_isSilent at h
  replace h := h (fun (v4 : Int32) (v5 : Int32) => sx_J (sl_wp D G b ad n) p l e { frames := 2, cells := 0, slots := 0, locals := 35 } s m args below meth c (sl_A b ad n s.heap.size) 6 0 (36 * 0) (sx_fin (sl_wp D G b ad n) (sl_A b ad n s.heap.size) below args s 0 0 (sl_pi (f, a, o) Q) (fun _ _ => False)) (f, a, o) 6 [(0, .ref (ad 0)), (1, .ref (ad 1)), (2, .int x2), (3, .int x3), (4, .int v4), (5, .int v5)] [])
  replace h := h (fun (v5 : Int32) => sx_J (sl_wp D G b ad n) p l e { frames := 2, cells := 0, slots := 0, locals := 35 } s m args below meth c (sl_A b ad n s.heap.size) 6 0 (36 * 0) (sx_fin (sl_wp D G b ad n) (sl_A b ad n s.heap.size) below args s 0 0 (sl_pi (f, a, o) Q) (fun _ _ => False)) (f, a, o) 43 [(0, .ref (ad 0)), (1, .ref (ad 1)), (2, .int x2), (3, .int x3), (5, .int v5)] [])
  replace h := h (fun (v5 : Int32) (s0 : Int32) => sx_J (sl_wp D G b ad n) p l e { frames := 2, cells := 0, slots := 0, locals := 35 } s m args below meth c (sl_A b ad n s.heap.size) 6 0 (36 * 0) (sx_fin (sl_wp D G b ad n) (sl_A b ad n s.heap.size) below args s 0 0 (sl_pi (f, a, o) Q) (fun _ _ => False)) (f, a, o) 44 [(0, .ref (ad 0)), (1, .ref (ad 1)), (2, .int x2), (3, .int x3), (5, .int v5)] [.int s0])
  replace h := h (by
    intro v4 v5 h
    refine sx_iload C dL_isSilent_6 5 rfl 8 rfl ?_
    refine sx_aload_n C dL_isSilent_8 1 1 rfl rfl 9 rfl ?_
    refine sx_bipush C dL_isSilent_9 6 (by decide) 11 rfl ?_
    refine sx_iload_n C dL_isSilent_11 2 2 rfl rfl 12 rfl ?_
    refine sx_imul C dL_isSilent_12 13 rfl ?_
    refine sx_iload_n C dL_isSilent_13 3 3 rfl rfl 14 rfl ?_
    refine sx_iadd C dL_isSilent_14 15 rfl ?_
    refine sl_iald C dL_isSilent_15 (Nat.lt_of_lt_of_le (show 1 < 8 by decide) hn) rfl h.1 16 rfl ?_
    replace h := h.2
    refine sx_icmp_ge C dL_isSilent_16 52 19 (by decide) rfl (fun c1 => ?_) (fun c1 => ?_)
    · replace h := h.1 c1
      refine sx_iload C dL_isSilent_52 4 rfl 54 rfl ?_
      exact sx_zret C dL_isSilent_54 hr (Nat.le_of_ble_eq_true rfl) (Nat.le_of_ble_eq_true rfl) h.1 ⟨⟨_, rfl, h.2⟩, rfl⟩
    · replace h := h.2 c1
      refine sx_iload C dL_isSilent_19 4 rfl 21 rfl ?_
      refine sx_if_eq C dL_isSilent_21 43 24 (by decide) rfl (fun c2 => ?_) (fun c2 => ?_)
      · replace h := h.1 c2
        exact sx_sub [0, 1, 2, 3, 5] rfl h
      · replace h := h.2 c2
        refine sx_aload_n C dL_isSilent_24 0 0 rfl rfl 25 rfl ?_
        refine sx_bipush C dL_isSilent_25 6 (by decide) 27 rfl ?_
        refine sx_iload_n C dL_isSilent_27 2 2 rfl rfl 28 rfl ?_
        refine sx_imul C dL_isSilent_28 29 rfl ?_
        refine sx_iload_n C dL_isSilent_29 3 3 rfl rfl 30 rfl ?_
        refine sx_iadd C dL_isSilent_30 31 rfl ?_
        refine sx_iload C dL_isSilent_31 5 rfl 33 rfl ?_
        refine sl_callS C hB hA (st := []) dL_isSilent_33 (c_L_pitch hf ok hn h) mi_L_pitch lk_L_13 mt_L_pitch rfl rfl ⟨⟨(Nat.le_of_ble_eq_true rfl), (Nat.le_of_ble_eq_true rfl)⟩, (Nat.le_of_ble_eq_true rfl), (Nat.le_of_ble_eq_true rfl)⟩ (Nat.le_of_ble_eq_true rfl) 36 rfl (fun v g4 a5 o6 h => ?_)
        obtain ⟨⟨r3, rfl, h⟩, e9⟩ := h
        cases e9
        refine sx_if_ne C dL_isSilent_36 43 39 (by decide) rfl (fun c7 => ?_) (fun c7 => ?_)
        · replace h := h.2 c7
          exact sx_sub [0, 1, 2, 3, 5] rfl h
        · replace h := h.1 c7
          refine sx_iconst C dL_isSilent_39 1 (by decide) 40 rfl ?_
          refine sx_goto C dL_isSilent_40 44 (by decide) ?_
          exact sx_sub [0, 1, 2, 3, 5] rfl h)
  replace h := h (by
    intro v5 h
    refine sx_iconst C dL_isSilent_43 0 (by decide) 44 rfl ?_
    exact sx_sub [0, 1, 2, 3, 4] rfl h)
  replace h := h (by
    intro v5 s0 h
    refine sx_istore C dL_isSilent_44 [(4, .int s0), (0, .ref (ad 0)), (1, .ref (ad 1)), (2, .int x2), (3, .int x3), (5, .int v5)] (by decide) rfl 46 rfl ?_
    obtain ⟨y8, ey8⟩ : ∃ w : Int32, w = v5 + 1 := ⟨_, rfl⟩
    replace h := h y8 ey8
    refine sx_iinc C dL_isSilent_46 5 rfl y8 (by rw [ey8]; rfl) [(5, .int y8), (4, .int s0), (0, .ref (ad 0)), (1, .ref (ad 1)), (2, .int x2), (3, .int x3)] (by decide) rfl 49 rfl ?_
    refine sx_goto C dL_isSilent_49 6 (by decide) ?_
    exact sx_sub [2, 3, 4, 5, 1, 0] rfl h)
  refine sx_sub (lv' := [(0, .ref (ad 0)), (1, .ref (ad 1)), (2, .int x2), (3, .int x3)]) [0, 1, 2, 3] rfl ?_
  refine sx_iconst C dL_isSilent_0 1 (by decide) 1 rfl ?_
  refine sx_istore C dL_isSilent_1 [(4, .int 1), (0, .ref (ad 0)), (1, .ref (ad 1)), (2, .int x2), (3, .int x3)] (by decide) rfl 3 rfl ?_
  refine sx_iconst C dL_isSilent_3 0 (by decide) 4 rfl ?_
  refine sx_istore C dL_isSilent_4 [(5, .int 0), (4, .int 1), (0, .ref (ad 0)), (1, .ref (ad 1)), (2, .int x2), (3, .int x3)] (by decide) rfl 6 rfl ?_
  exact sx_sub [2, 3, 4, 5, 1, 0] rfl h
set_option maxRecDepth 100000 in
set_option maxHeartbeats 8000000 in
theorem c_L_begun {l : Launch} {D : va_G} {G : sx_G} {b : Nat} {ad : Nat → Nat} {n : Nat} (hf : l.stackTraces = false) (ok : sl_ok b ad n) (hn : 8 ≤ n) {f a : sx_F} {o : sl_O} {x3 : Int32} {x4 : Int32} {x5 : Int32} {Q : Int32 → Prop} (h : P_L_begun f a o x3 x4 x5 Q) : sl_Met l D G b ad n yL_begun cL_begun 10 (some .int) 3 64 0 0 [.ref (ad 0), .ref (ad 1), .ref (ad 3), .int x3, .int x4, .int x5] (f, a, o) (sl_pi (f, a, o) Q) := by
  refine sl_enter (own := RL) hf rfl rfl (Nat.le_of_ble_eq_true rfl) ?_
  intro p e s m args below meth c C hr 
  have hB : ∀ k, k < 129 → sl_A b ad n s.heap.size (b + k) := fun k h => Or.inl ⟨Nat.le_add_right _ _, Nat.add_lt_add_left h _⟩
  have hA : ∀ j, j < n → sl_A b ad n s.heap.size (ad j) := fun j h => Or.inr (Or.inl ⟨j, h, rfl⟩)
  unfold P_L_begun at h
  replace h := h (fun (s0 : Int32) => sx_J (sl_wp D G b ad n) p l e { frames := 3, cells := 0, slots := 0, locals := 64 } s m args below meth c (sl_A b ad n s.heap.size) 10 0 (36 * 0) (sx_fin (sl_wp D G b ad n) (sl_A b ad n s.heap.size) below args s 0 0 (sl_pi (f, a, o) Q) (fun _ _ => False)) (f, a, o) 11 [(0, .ref (ad 0)), (1, .ref (ad 1)), (2, .ref (ad 3)), (3, .int x3), (4, .int x4), (5, .int x5)] [.int s0])
  replace h := h (fun (v6 : Int32) (v7 : Int32) (v8 : Int32) => sx_J (sl_wp D G b ad n) p l e { frames := 3, cells := 0, slots := 0, locals := 64 } s m args below meth c (sl_A b ad n s.heap.size) 10 0 (36 * 0) (sx_fin (sl_wp D G b ad n) (sl_A b ad n s.heap.size) below args s 0 0 (sl_pi (f, a, o) Q) (fun _ _ => False)) (f, a, o) 19 [(0, .ref (ad 0)), (1, .ref (ad 1)), (2, .ref (ad 3)), (3, .int x3), (4, .int x4), (5, .int x5), (6, .int v6), (7, .int v7), (8, .int v8)] [])
  replace h := h (fun (v6 : Int32) (v7 : Int32) (v8 : Int32) => sx_J (sl_wp D G b ad n) p l e { frames := 3, cells := 0, slots := 0, locals := 64 } s m args below meth c (sl_A b ad n s.heap.size) 10 0 (36 * 0) (sx_fin (sl_wp D G b ad n) (sl_A b ad n s.heap.size) below args s 0 0 (sl_pi (f, a, o) Q) (fun _ _ => False)) (f, a, o) 36 [(0, .ref (ad 0)), (1, .ref (ad 1)), (2, .ref (ad 3)), (3, .int x3), (4, .int x4), (5, .int x5), (6, .int v6), (7, .int v7), (8, .int v8)] [])
  replace h := h (fun (v6 : Int32) (v7 : Int32) (v8 : Int32) (s0 : Int32) => sx_J (sl_wp D G b ad n) p l e { frames := 3, cells := 0, slots := 0, locals := 64 } s m args below meth c (sl_A b ad n s.heap.size) 10 0 (36 * 0) (sx_fin (sl_wp D G b ad n) (sl_A b ad n s.heap.size) below args s 0 0 (sl_pi (f, a, o) Q) (fun _ _ => False)) (f, a, o) 52 [(0, .ref (ad 0)), (1, .ref (ad 1)), (2, .ref (ad 3)), (3, .int x3), (4, .int x4), (5, .int x5), (6, .int v6), (7, .int v7), (8, .int v8)] [.int s0])
  replace h := h (fun (v7 : Int32) (v8 : Int32) (v9 : Int32) (s0 : Int32) => sx_J (sl_wp D G b ad n) p l e { frames := 3, cells := 0, slots := 0, locals := 64 } s m args below meth c (sl_A b ad n s.heap.size) 10 0 (36 * 0) (sx_fin (sl_wp D G b ad n) (sl_A b ad n s.heap.size) below args s 0 0 (sl_pi (f, a, o) Q) (fun _ _ => False)) (f, a, o) 66 [(0, .ref (ad 0)), (1, .ref (ad 1)), (2, .ref (ad 3)), (3, .int x3), (4, .int x4), (5, .int x5), (7, .int v7), (8, .int v8), (9, .int v9)] [.int s0])
  replace h := h (fun (v6 : Int32) (v8 : Int32) (s0 : Int32) (s1 : Int32) => sx_J (sl_wp D G b ad n) p l e { frames := 3, cells := 0, slots := 0, locals := 64 } s m args below meth c (sl_A b ad n s.heap.size) 10 0 (36 * 0) (sx_fin (sl_wp D G b ad n) (sl_A b ad n s.heap.size) below args s 0 0 (sl_pi (f, a, o) Q) (fun _ _ => False)) (f, a, o) 81 [(0, .ref (ad 0)), (1, .ref (ad 1)), (2, .ref (ad 3)), (3, .int x3), (4, .int x4), (5, .int x5), (6, .int v6), (8, .int v8)] [.int s1, .int s0])
  replace h := h (by
    intro s0 h
    refine sx_istore C dL_begun_11 [(6, .int s0), (0, .ref (ad 0)), (1, .ref (ad 1)), (2, .ref (ad 3)), (3, .int x3), (4, .int x4), (5, .int x5)] (by decide) rfl 13 rfl ?_
    refine sx_iconst C dL_begun_13 0 (by decide) 14 rfl ?_
    refine sx_istore C dL_begun_14 [(7, .int 0), (6, .int s0), (0, .ref (ad 0)), (1, .ref (ad 1)), (2, .ref (ad 3)), (3, .int x3), (4, .int x4), (5, .int x5)] (by decide) rfl 16 rfl ?_
    refine sx_iconst C dL_begun_16 0 (by decide) 17 rfl ?_
    refine sx_istore C dL_begun_17 [(8, .int 0), (7, .int 0), (6, .int s0), (0, .ref (ad 0)), (1, .ref (ad 1)), (2, .ref (ad 3)), (3, .int x3), (4, .int x4), (5, .int x5)] (by decide) rfl 19 rfl ?_
    exact sx_sub [3, 4, 5, 6, 7, 8, 2, 1, 0] rfl h)
  replace h := h (by
    intro v6 v7 v8 h
    refine sx_iload C dL_begun_19 8 rfl 21 rfl ?_
    refine sx_iconst C dL_begun_21 5 (by decide) 22 rfl ?_
    refine sx_icmp_ge C dL_begun_22 90 25 (by decide) rfl (fun c1 => ?_) (fun c1 => ?_)
    · replace h := h.1 c1
      refine sx_iload C dL_begun_90 6 rfl 92 rfl ?_
      refine sx_iload C dL_begun_92 7 rfl 94 rfl ?_
      refine sx_iadd C dL_begun_94 95 rfl ?_
      exact sx_iret C dL_begun_95 hr (Nat.le_of_ble_eq_true rfl) (Nat.le_of_ble_eq_true rfl) ⟨⟨_, rfl, h⟩, rfl⟩
    · replace h := h.2 c1
      refine sx_iload_n C dL_begun_25 3 3 rfl rfl 26 rfl ?_
      refine sx_iconst C dL_begun_26 5 (by decide) 27 rfl ?_
      refine sx_icmp_eq C dL_begun_27 36 30 (by decide) rfl (fun c2 => ?_) (fun c2 => ?_)
      · replace h := h.1 c2
        exact sx_sub [0, 1, 2, 3, 4, 5, 6, 7, 8] rfl h
      · replace h := h.2 c2
        refine sx_iload_n C dL_begun_30 3 3 rfl rfl 31 rfl ?_
        refine sx_iload C dL_begun_31 8 rfl 33 rfl ?_
        refine sx_icmp_ne C dL_begun_33 51 36 (by decide) rfl (fun c3 => ?_) (fun c3 => ?_)
        · replace h := h.2 c3
          refine sx_iconst C dL_begun_51 0 (by decide) 52 rfl ?_
          exact sx_sub [0, 1, 2, 3, 4, 5, 6, 7, 8] rfl h
        · replace h := h.1 c3
          exact sx_sub [0, 1, 2, 3, 4, 5, 6, 7, 8] rfl h)
  replace h := h (by
    intro v6 v7 v8 h
    refine sx_aload_n C dL_begun_36 0 0 rfl rfl 37 rfl ?_
    refine sx_aload_n C dL_begun_37 1 1 rfl rfl 38 rfl ?_
    refine sx_aload_n C dL_begun_38 2 2 rfl rfl 39 rfl ?_
    refine sx_iload C dL_begun_39 8 rfl 41 rfl ?_
    refine sx_iload C dL_begun_41 4 rfl 43 rfl ?_
    refine sx_iload C dL_begun_43 5 rfl 45 rfl ?_
    refine sl_callS C hB hA (st := []) dL_begun_45 (c_L_begins hf ok hn h) mi_L_begins lk_L_22 mt_L_begins rfl rfl ⟨⟨(Nat.le_of_ble_eq_true rfl), (Nat.le_of_ble_eq_true rfl)⟩, (Nat.le_of_ble_eq_true rfl), (Nat.le_of_ble_eq_true rfl)⟩ (Nat.le_of_ble_eq_true rfl) 48 rfl (fun v g5 a6 o7 h => ?_)
    obtain ⟨⟨r4, rfl, h⟩, e9⟩ := h
    cases e9
    refine sx_goto C dL_begun_48 52 (by decide) ?_
    exact sx_sub [0, 1, 2, 3, 4, 5, 6, 7, 8] rfl h)
  replace h := h (by
    intro v6 v7 v8 s0 h
    refine sx_istore C dL_begun_52 [(9, .int s0), (0, .ref (ad 0)), (1, .ref (ad 1)), (2, .ref (ad 3)), (3, .int x3), (4, .int x4), (5, .int x5), (6, .int v6), (7, .int v7), (8, .int v8)] (by decide) rfl 54 rfl ?_
    refine sx_iload C dL_begun_54 0 rfl 56 rfl ?_
    refine sx_if_le C dL_begun_56 64 59 (by decide) rfl (fun c8 => ?_) (fun c8 => ?_)
    · replace h := h.1 c8
      refine sx_iload C dL_begun_64 7 rfl 66 rfl ?_
      exact sx_sub [1, 2, 3, 4, 5, 6, 8, 9, 0] rfl h
    · replace h := h.2 c8
      refine sx_bipush C dL_begun_59 10 (by decide) 61 rfl ?_
      refine sx_goto C dL_begun_61 66 (by decide) ?_
      exact sx_sub [1, 2, 3, 4, 5, 6, 8, 9, 0] rfl h)
  replace h := h (by
    intro v7 v8 v9 s0 h
    refine sx_istore C dL_begun_66 [(6, .int s0), (0, .ref (ad 0)), (1, .ref (ad 1)), (2, .ref (ad 3)), (3, .int x3), (4, .int x4), (5, .int x5), (7, .int v7), (8, .int v8), (9, .int v9)] (by decide) rfl 68 rfl ?_
    refine sx_iload C dL_begun_68 7 rfl 70 rfl ?_
    refine sx_iload C dL_begun_70 9 rfl 72 rfl ?_
    refine sx_iconst C dL_begun_72 2 (by decide) 73 rfl ?_
    refine sx_icmp_ne C dL_begun_73 80 76 (by decide) rfl (fun c9 => ?_) (fun c9 => ?_)
    · replace h := h.2 c9
      refine sx_iconst C dL_begun_80 0 (by decide) 81 rfl ?_
      exact sx_sub [1, 2, 3, 4, 5, 6, 0, 8] rfl h
    · replace h := h.1 c9
      refine sx_iconst C dL_begun_76 1 (by decide) 77 rfl ?_
      refine sx_goto C dL_begun_77 81 (by decide) ?_
      exact sx_sub [1, 2, 3, 4, 5, 6, 0, 8] rfl h)
  replace h := h (by
    intro v6 v8 s0 s1 h
    refine sx_iadd C dL_begun_81 82 rfl ?_
    refine sx_topi (fun y10 ey10 => ?_)
    replace h := h y10 ey10
    refine sx_istore C dL_begun_82 [(7, .int y10), (0, .ref (ad 0)), (1, .ref (ad 1)), (2, .ref (ad 3)), (3, .int x3), (4, .int x4), (5, .int x5), (6, .int v6), (8, .int v8)] (by decide) rfl 84 rfl ?_
    obtain ⟨y11, ey11⟩ : ∃ w : Int32, w = v8 + 1 := ⟨_, rfl⟩
    replace h := h y11 ey11
    refine sx_iinc C dL_begun_84 8 rfl y11 (by rw [ey11]; rfl) [(8, .int y11), (7, .int y10), (0, .ref (ad 0)), (1, .ref (ad 1)), (2, .ref (ad 3)), (3, .int x3), (4, .int x4), (5, .int x5), (6, .int v6)] (by decide) rfl 87 rfl ?_
    refine sx_goto C dL_begun_87 19 (by decide) ?_
    exact sx_sub [2, 3, 4, 5, 6, 7, 8, 1, 0] rfl h)
  refine sx_sub (lv' := [(0, .ref (ad 0)), (1, .ref (ad 1)), (2, .ref (ad 3)), (3, .int x3), (4, .int x4), (5, .int x5)]) [0, 1, 2, 3, 4, 5] rfl ?_
  refine sx_iload C dL_begun_0 5 rfl 2 rfl ?_
  refine sx_if_ne C dL_begun_2 10 5 (by decide) rfl (fun c12 => ?_) (fun c12 => ?_)
  · replace h := h.2 c12
    refine sx_iconst C dL_begun_10 0 (by decide) 11 rfl ?_
    exact sx_sub [0, 1, 2, 3, 4, 5] rfl h
  · replace h := h.1 c12
    refine sx_bipush C dL_begun_5 10 (by decide) 7 rfl ?_
    refine sx_goto C dL_begun_7 11 (by decide) ?_
    exact sx_sub [0, 1, 2, 3, 4, 5] rfl h
set_option maxRecDepth 100000 in
set_option maxHeartbeats 8000000 in
theorem c_L_spring {l : Launch} {D : va_G} {G : sx_G} {b : Nat} {ad : Nat → Nat} {n : Nat} (hf : l.stackTraces = false) (ok : sl_ok b ad n) (hn : 8 ≤ n) {f a : sx_F} {o : sl_O} {x3 : Int32} {x4 : Int32} {x5 : Int32} {Q : Int32 → Prop} (h : P_L_spring f a o x3 x4 x5 Q) : sl_Met l D G b ad n yL_spring cL_spring 9 (some .int) 4 93 0 0 [.ref (ad 0), .ref (ad 1), .ref (ad 3), .int x3, .int x4, .int x5] (f, a, o) (sl_pi (f, a, o) Q) := by
  refine sl_enter (own := RL) hf rfl rfl (Nat.le_of_ble_eq_true rfl) ?_
  intro p e s m args below meth c C hr 
  have hB : ∀ k, k < 129 → sl_A b ad n s.heap.size (b + k) := fun k h => Or.inl ⟨Nat.le_add_right _ _, Nat.add_lt_add_left h _⟩
  have hA : ∀ j, j < n → sl_A b ad n s.heap.size (ad j) := fun j h => Or.inr (Or.inl ⟨j, h, rfl⟩)
  unfold P_L_spring at h
  replace h := h (fun (v6 : Int32) => sx_J (sl_wp D G b ad n) p l e { frames := 4, cells := 0, slots := 0, locals := 93 } s m args below meth c (sl_A b ad n s.heap.size) 9 0 (36 * 0) (sx_fin (sl_wp D G b ad n) (sl_A b ad n s.heap.size) below args s 0 0 (sl_pi (f, a, o) Q) (fun _ _ => False)) (f, a, o) 14 [(0, .ref (ad 0)), (1, .ref (ad 1)), (2, .ref (ad 3)), (3, .int x3), (4, .int x4), (5, .int x5), (6, .int v6)] [])
  replace h := h (fun (v6 : Int32) => sx_J (sl_wp D G b ad n) p l e { frames := 4, cells := 0, slots := 0, locals := 93 } s m args below meth c (sl_A b ad n s.heap.size) 9 0 (36 * 0) (sx_fin (sl_wp D G b ad n) (sl_A b ad n s.heap.size) below args s 0 0 (sl_pi (f, a, o) Q) (fun _ _ => False)) (f, a, o) 43 [(0, .ref (ad 0)), (1, .ref (ad 1)), (2, .ref (ad 3)), (3, .int x3), (4, .int x4), (5, .int x5), (6, .int v6)] [])
  replace h := h (fun (v7 : Int32) (v8 : Int32) => sx_J (sl_wp D G b ad n) p l e { frames := 4, cells := 0, slots := 0, locals := 93 } s m args below meth c (sl_A b ad n s.heap.size) 9 0 (36 * 0) (sx_fin (sl_wp D G b ad n) (sl_A b ad n s.heap.size) below args s 0 0 (sl_pi (f, a, o) Q) (fun _ _ => False)) (f, a, o) 54 [(0, .ref (ad 0)), (1, .ref (ad 1)), (2, .ref (ad 3)), (3, .int x3), (4, .int x4), (5, .int x5), (7, .int v7), (8, .int v8)] [])
  replace h := h (fun (v8 : Int32) (s0 : Int32) (s1 : Int32) => sx_J (sl_wp D G b ad n) p l e { frames := 4, cells := 0, slots := 0, locals := 93 } s m args below meth c (sl_A b ad n s.heap.size) 9 0 (36 * 0) (sx_fin (sl_wp D G b ad n) (sl_A b ad n s.heap.size) below args s 0 0 (sl_pi (f, a, o) Q) (fun _ _ => False)) (f, a, o) 106 [(8, .int v8)] [.int s1, .int s0])
  replace h := h (by
    intro v6 h
    refine sx_iload C dL_spring_14 6 rfl 16 rfl ?_
    refine sx_aload_n C dL_spring_16 2 2 rfl rfl 17 rfl ?_
    refine sx_iload C dL_spring_17 4 rfl 19 rfl ?_
    refine sl_iald C dL_spring_19 (Nat.lt_of_lt_of_le (show 3 < 8 by decide) hn) rfl h.1 20 rfl ?_
    replace h := h.2
    refine sx_icmp_ge C dL_spring_20 43 23 (by decide) rfl (fun c1 => ?_) (fun c1 => ?_)
    · replace h := h.1 c1
      exact sx_sub [0, 1, 2, 3, 4, 5, 6] rfl h
    · replace h := h.2 c1
      refine sx_aload_n C dL_spring_23 0 0 rfl rfl 24 rfl ?_
      refine sx_aload_n C dL_spring_24 1 1 rfl rfl 25 rfl ?_
      refine sx_aload_n C dL_spring_25 2 2 rfl rfl 26 rfl ?_
      refine sx_iload_n C dL_spring_26 3 3 rfl rfl 27 rfl ?_
      refine sx_iload C dL_spring_27 4 rfl 29 rfl ?_
      refine sx_iload C dL_spring_29 6 rfl 31 rfl ?_
      refine sl_callS C hB hA (st := []) dL_spring_31 (c_L_begun hf ok hn h) mi_L_begun lk_L_26 mt_L_begun rfl rfl ⟨⟨(Nat.le_of_ble_eq_true rfl), (Nat.le_of_ble_eq_true rfl)⟩, (Nat.le_of_ble_eq_true rfl), (Nat.le_of_ble_eq_true rfl)⟩ (Nat.le_of_ble_eq_true rfl) 34 rfl (fun v g3 a4 o5 h => ?_)
      obtain ⟨⟨r2, rfl, h⟩, e9⟩ := h
      cases e9
      refine sx_if_ne C dL_spring_34 43 37 (by decide) rfl (fun c6 => ?_) (fun c6 => ?_)
      · replace h := h.2 c6
        exact sx_sub [0, 1, 2, 3, 4, 5, 6] rfl h
      · replace h := h.1 c6
        obtain ⟨y7, ey7⟩ : ∃ w : Int32, w = v6 + 1 := ⟨_, rfl⟩
        replace h := h y7 ey7
        refine sx_iinc C dL_spring_37 6 rfl y7 (by rw [ey7]; rfl) [(6, .int y7), (0, .ref (ad 0)), (1, .ref (ad 1)), (2, .ref (ad 3)), (3, .int x3), (4, .int x4), (5, .int x5)] (by decide) rfl 40 rfl ?_
        refine sx_goto C dL_spring_40 14 (by decide) ?_
        exact sx_sub [1, 2, 3, 4, 5, 6, 0] rfl h)
  replace h := h (by
    intro v6 h
    refine sx_bipush C dL_spring_43 6 (by decide) 45 rfl ?_
    refine sx_istore C dL_spring_45 [(7, .int 6), (0, .ref (ad 0)), (1, .ref (ad 1)), (2, .ref (ad 3)), (3, .int x3), (4, .int x4), (5, .int x5), (6, .int v6)] (by decide) rfl 47 rfl ?_
    refine sx_iload C dL_spring_47 7 rfl 49 rfl ?_
    refine sx_iload C dL_spring_49 6 rfl 51 rfl ?_
    refine sx_isub C dL_spring_51 52 rfl ?_
    refine sx_topi (fun y8 ey8 => ?_)
    replace h := h y8 ey8
    refine sx_istore C dL_spring_52 [(8, .int y8), (7, .int 6), (0, .ref (ad 0)), (1, .ref (ad 1)), (2, .ref (ad 3)), (3, .int x3), (4, .int x4), (5, .int x5), (6, .int v6)] (by decide) rfl 54 rfl ?_
    exact sx_sub [2, 3, 4, 5, 6, 7, 1, 0] rfl h)
  replace h := h (by
    intro v7 v8 h
    refine sx_iload C dL_spring_54 7 rfl 56 rfl ?_
    refine sx_iconst C dL_spring_56 1 (by decide) 57 rfl ?_
    refine sx_icmp_le C dL_spring_57 72 60 (by decide) rfl (fun c9 => ?_) (fun c9 => ?_)
    · replace h := h.1 c9
      refine sx_iconst C dL_spring_72 4 (by decide) 73 rfl ?_
      refine sx_aload_n C dL_spring_73 0 0 rfl rfl 74 rfl ?_
      refine sx_aload_n C dL_spring_74 1 1 rfl rfl 75 rfl ?_
      refine sx_aload_n C dL_spring_75 2 2 rfl rfl 76 rfl ?_
      refine sx_iload_n C dL_spring_76 3 3 rfl rfl 77 rfl ?_
      refine sx_iload C dL_spring_77 4 rfl 79 rfl ?_
      refine sx_iload C dL_spring_79 5 rfl 81 rfl ?_
      refine sl_callS C hB hA (st := [.int 4]) dL_spring_81 (c_L_begun hf ok hn h) mi_L_begun lk_L_26 mt_L_begun rfl rfl ⟨⟨(Nat.le_of_ble_eq_true rfl), (Nat.le_of_ble_eq_true rfl)⟩, (Nat.le_of_ble_eq_true rfl), (Nat.le_of_ble_eq_true rfl)⟩ (Nat.le_of_ble_eq_true rfl) 84 rfl (fun v g11 a12 o13 h => ?_)
      obtain ⟨⟨r10, rfl, h⟩, e9⟩ := h
      cases e9
      refine sx_iadd C dL_spring_84 85 rfl ?_
      refine sx_bipush C dL_spring_85 10 (by decide) 87 rfl ?_
      refine sx_isub C dL_spring_87 88 rfl ?_
      refine sx_topi (fun y14 ey14 => ?_)
      replace h := h y14 ey14
      refine sx_istore C dL_spring_88 [(8, .int y14), (0, .ref (ad 0)), (1, .ref (ad 1)), (2, .ref (ad 3)), (3, .int x3), (4, .int x4), (5, .int x5), (7, .int v7)] (by decide) rfl 90 rfl ?_
      refine sx_bipush C dL_spring_90 100 (by decide) 92 rfl ?_
      refine sx_iload C dL_spring_92 7 rfl 94 rfl ?_
      refine sx_iload C dL_spring_94 0 rfl 96 rfl ?_
      refine sx_icmp_le C dL_spring_96 104 99 (by decide) rfl (fun c15 => ?_) (fun c15 => ?_)
      · replace h := h.1 c15
        refine sx_iload C dL_spring_104 0 rfl 106 rfl ?_
        exact sx_sub [0] rfl h
      · replace h := h.2 c15
        refine sx_iload C dL_spring_99 7 rfl 101 rfl ?_
        refine sx_goto C dL_spring_101 106 (by decide) ?_
        exact sx_sub [0] rfl h
    · replace h := h.2 c9
      obtain ⟨y16, ey16⟩ : ∃ w : Int32, w = v7 + 3 := ⟨_, rfl⟩
      replace h := h y16 ey16
      refine sx_iinc C dL_spring_60 6 rfl y16 (by rw [ey16]; rfl) [(7, .int y16), (0, .ref (ad 0)), (1, .ref (ad 1)), (2, .ref (ad 3)), (3, .int x3), (4, .int x4), (5, .int x5), (8, .int v8)] (by decide) rfl 63 rfl ?_
      refine sx_iload C dL_spring_63 7 rfl 65 rfl ?_
      refine sx_iconst C dL_spring_65 2 (by decide) 66 rfl ?_
      refine sx_idiv C dL_spring_66 (by decide) 67 rfl ?_
      refine sx_topi (fun y17 ey17 => ?_)
      replace h := h y17 ey17
      refine sx_istore C dL_spring_67 [(8, .int y17), (7, .int y16), (0, .ref (ad 0)), (1, .ref (ad 1)), (2, .ref (ad 3)), (3, .int x3), (4, .int x4), (5, .int x5)] (by decide) rfl 69 rfl ?_
      refine sx_goto C dL_spring_69 54 (by decide) ?_
      exact sx_sub [2, 3, 4, 5, 6, 7, 1, 0] rfl h)
  replace h := h (by
    intro v8 s0 s1 h
    refine sx_imul C dL_spring_106 107 rfl ?_
    refine sx_iload C dL_spring_107 0 rfl 109 rfl ?_
    refine sx_iadd C dL_spring_109 110 rfl ?_
    exact sx_iret C dL_spring_110 hr (Nat.le_of_ble_eq_true rfl) (Nat.le_of_ble_eq_true rfl) ⟨⟨_, rfl, h⟩, rfl⟩)
  refine sx_sub (lv' := [(0, .ref (ad 0)), (1, .ref (ad 1)), (2, .ref (ad 3)), (3, .int x3), (4, .int x4), (5, .int x5)]) [0, 1, 2, 3, 4, 5] rfl ?_
  refine sx_iload_n C dL_spring_0 3 3 rfl rfl 1 rfl ?_
  refine sx_if_ge C dL_spring_1 8 4 (by decide) rfl (fun c18 => ?_) (fun c18 => ?_)
  · replace h := h.1 c18
    refine sx_iload C dL_spring_8 5 rfl 10 rfl ?_
    refine sx_iconst C dL_spring_10 1 (by decide) 11 rfl ?_
    refine sx_iadd C dL_spring_11 12 rfl ?_
    refine sx_topi (fun y19 ey19 => ?_)
    replace h := h y19 ey19
    refine sx_istore C dL_spring_12 [(6, .int y19), (0, .ref (ad 0)), (1, .ref (ad 1)), (2, .ref (ad 3)), (3, .int x3), (4, .int x4), (5, .int x5)] (by decide) rfl 14 rfl ?_
    exact sx_sub [1, 2, 3, 4, 5, 6, 0] rfl h
  · replace h := h.2 c18
    refine sx_sipush C dL_spring_4 2416 (by decide) 7 rfl ?_
    exact sx_iret C dL_spring_7 hr (Nat.le_of_ble_eq_true rfl) (Nat.le_of_ble_eq_true rfl) ⟨⟨_, rfl, h⟩, rfl⟩
set_option maxRecDepth 100000 in
set_option maxHeartbeats 8000000 in
theorem c_L_isSpring {l : Launch} {D : va_G} {G : sx_G} {b : Nat} {ad : Nat → Nat} {n : Nat} (hf : l.stackTraces = false) (ok : sl_ok b ad n) (hn : 8 ≤ n) {f a : sx_F} {o : sl_O} {x3 : Int32} {x4 : Int32} {x5 : Int32} {Q : Int32 → Prop} (h : P_L_isSpring f a o x3 x4 x5 Q) : sl_Met l D G b ad n yL_isSpring cL_isSpring 6 (some .boolean) 4 93 0 0 [.ref (ad 0), .ref (ad 1), .ref (ad 3), .int x3, .int x4, .int x5] (f, a, o) (sl_pi (f, a, o) Q) := by
  refine sl_enter (own := RL) hf rfl rfl (Nat.le_of_ble_eq_true rfl) ?_
  intro p e s m args below meth c C hr 
  have hB : ∀ k, k < 129 → sl_A b ad n s.heap.size (b + k) := fun k h => Or.inl ⟨Nat.le_add_right _ _, Nat.add_lt_add_left h _⟩
  have hA : ∀ j, j < n → sl_A b ad n s.heap.size (ad j) := fun j h => Or.inr (Or.inl ⟨j, h, rfl⟩)
  unfold P_L_isSpring at h
  refine sx_sub (lv' := [(0, .ref (ad 0)), (1, .ref (ad 1)), (2, .ref (ad 3)), (3, .int x3), (4, .int x4), (5, .int x5)]) [0, 1, 2, 3, 4, 5] rfl ?_
  refine sx_iload_n C dL_isSpring_0 3 3 rfl rfl 1 rfl ?_
  refine sx_if_ge C dL_isSpring_1 17 4 (by decide) rfl (fun c1 => ?_) (fun c1 => ?_)
  · replace h := h.1 c1
    refine sx_iload C dL_isSpring_17 5 rfl 19 rfl ?_
    refine sx_aload_n C dL_isSpring_19 2 2 rfl rfl 20 rfl ?_
    refine sx_iload C dL_isSpring_20 4 rfl 22 rfl ?_
    refine sl_iald C dL_isSpring_22 (Nat.lt_of_lt_of_le (show 3 < 8 by decide) hn) rfl h.1 23 rfl ?_
    replace h := h.2
    refine sx_icmp_ge C dL_isSpring_23 44 26 (by decide) rfl (fun c2 => ?_) (fun c2 => ?_)
    · replace h := h.1 c2
      refine sx_iconst C dL_isSpring_44 0 (by decide) 45 rfl ?_
      exact sx_zret C dL_isSpring_45 hr (Nat.le_of_ble_eq_true rfl) (Nat.le_of_ble_eq_true rfl) (Or.inl rfl) ⟨⟨_, rfl, h⟩, rfl⟩
    · replace h := h.2 c2
      refine sx_aload_n C dL_isSpring_26 0 0 rfl rfl 27 rfl ?_
      refine sx_aload_n C dL_isSpring_27 1 1 rfl rfl 28 rfl ?_
      refine sx_aload_n C dL_isSpring_28 2 2 rfl rfl 29 rfl ?_
      refine sx_iload_n C dL_isSpring_29 3 3 rfl rfl 30 rfl ?_
      refine sx_iload C dL_isSpring_30 4 rfl 32 rfl ?_
      refine sx_iload C dL_isSpring_32 5 rfl 34 rfl ?_
      refine sl_callS C hB hA (st := []) dL_isSpring_34 (c_L_begun hf ok hn h) mi_L_begun lk_L_26 mt_L_begun rfl rfl ⟨⟨(Nat.le_of_ble_eq_true rfl), (Nat.le_of_ble_eq_true rfl)⟩, (Nat.le_of_ble_eq_true rfl), (Nat.le_of_ble_eq_true rfl)⟩ (Nat.le_of_ble_eq_true rfl) 37 rfl (fun v g4 a5 o6 h => ?_)
      obtain ⟨⟨r3, rfl, h⟩, e9⟩ := h
      cases e9
      refine sx_if_le C dL_isSpring_37 44 40 (by decide) rfl (fun c7 => ?_) (fun c7 => ?_)
      · replace h := h.1 c7
        refine sx_iconst C dL_isSpring_44 0 (by decide) 45 rfl ?_
        exact sx_zret C dL_isSpring_45 hr (Nat.le_of_ble_eq_true rfl) (Nat.le_of_ble_eq_true rfl) (Or.inl rfl) ⟨⟨_, rfl, h⟩, rfl⟩
      · replace h := h.2 c7
        refine sx_iconst C dL_isSpring_40 1 (by decide) 41 rfl ?_
        refine sx_goto C dL_isSpring_41 45 (by decide) ?_
        exact sx_zret C dL_isSpring_45 hr (Nat.le_of_ble_eq_true rfl) (Nat.le_of_ble_eq_true rfl) (Or.inr rfl) ⟨⟨_, rfl, h⟩, rfl⟩
  · replace h := h.2 c1
    refine sx_iload C dL_isSpring_4 5 rfl 6 rfl ?_
    refine sx_if_ne C dL_isSpring_6 13 9 (by decide) rfl (fun c8 => ?_) (fun c8 => ?_)
    · replace h := h.2 c8
      refine sx_iconst C dL_isSpring_13 0 (by decide) 14 rfl ?_
      refine sx_goto C dL_isSpring_14 45 (by decide) ?_
      exact sx_zret C dL_isSpring_45 hr (Nat.le_of_ble_eq_true rfl) (Nat.le_of_ble_eq_true rfl) (Or.inl rfl) ⟨⟨_, rfl, h⟩, rfl⟩
    · replace h := h.1 c8
      refine sx_iconst C dL_isSpring_9 1 (by decide) 10 rfl ?_
      refine sx_goto C dL_isSpring_10 45 (by decide) ?_
      exact sx_zret C dL_isSpring_45 hr (Nat.le_of_ble_eq_true rfl) (Nat.le_of_ble_eq_true rfl) (Or.inr rfl) ⟨⟨_, rfl, h⟩, rfl⟩
set_option maxRecDepth 100000 in
set_option maxHeartbeats 8000000 in
theorem c_L_cue {l : Launch} {D : va_G} {G : sx_G} {b : Nat} {ad : Nat → Nat} {n : Nat} (hf : l.stackTraces = false) (ok : sl_ok b ad n) (hn : 8 ≤ n) {f a : sx_F} {o : sl_O} {x2 : Int32} {x3 : Int32} {Q : Int32 → Prop} (h : P_L_cue f a o x2 x3 Q) : sl_Met l D G b ad n yL_cue cL_cue 7 (some .int) 3 60 0 0 [.ref (ad 0), .ref (ad 1), .int x2, .int x3] (f, a, o) (sl_pi (f, a, o) Q) := by
  refine sl_enter (own := RL) hf rfl rfl (Nat.le_of_ble_eq_true rfl) ?_
  intro p e s m args below meth c C hr 
  have hB : ∀ k, k < 129 → sl_A b ad n s.heap.size (b + k) := fun k h => Or.inl ⟨Nat.le_add_right _ _, Nat.add_lt_add_left h _⟩
  have hA : ∀ j, j < n → sl_A b ad n s.heap.size (ad j) := fun j h => Or.inr (Or.inl ⟨j, h, rfl⟩)
  unfold P_L_cue at h
  replace h := h (fun (v4 : Int32) (v5 : Int32) => sx_J (sl_wp D G b ad n) p l e { frames := 3, cells := 0, slots := 0, locals := 60 } s m args below meth c (sl_A b ad n s.heap.size) 7 0 (36 * 0) (sx_fin (sl_wp D G b ad n) (sl_A b ad n s.heap.size) below args s 0 0 (sl_pi (f, a, o) Q) (fun _ _ => False)) (f, a, o) 6 [(0, .ref (ad 0)), (1, .ref (ad 1)), (2, .int x2), (3, .int x3), (4, .int v4), (5, .int v5)] [])
  replace h := h (fun (v4 : Int32) (v5 : Int32) => sx_J (sl_wp D G b ad n) p l e { frames := 3, cells := 0, slots := 0, locals := 60 } s m args below meth c (sl_A b ad n s.heap.size) 7 0 (36 * 0) (sx_fin (sl_wp D G b ad n) (sl_A b ad n s.heap.size) below args s 0 0 (sl_pi (f, a, o) Q) (fun _ _ => False)) (f, a, o) 32 [(0, .ref (ad 0)), (1, .ref (ad 1)), (2, .int x2), (3, .int x3), (4, .int v4), (5, .int v5)] [])
  replace h := h (fun (v4 : Int32) (v5 : Int32) (s0 : Int32) => sx_J (sl_wp D G b ad n) p l e { frames := 3, cells := 0, slots := 0, locals := 60 } s m args below meth c (sl_A b ad n s.heap.size) 7 0 (36 * 0) (sx_fin (sl_wp D G b ad n) (sl_A b ad n s.heap.size) below args s 0 0 (sl_pi (f, a, o) Q) (fun _ _ => False)) (f, a, o) 33 [(0, .ref (ad 0)), (1, .ref (ad 1)), (2, .int x2), (3, .int x3), (4, .int v4), (5, .int v5)] [.int s0])
  replace h := h (fun (v5 : Int32) => sx_J (sl_wp D G b ad n) p l e { frames := 3, cells := 0, slots := 0, locals := 60 } s m args below meth c (sl_A b ad n s.heap.size) 7 0 (36 * 0) (sx_fin (sl_wp D G b ad n) (sl_A b ad n s.heap.size) below args s 0 0 (sl_pi (f, a, o) Q) (fun _ _ => False)) (f, a, o) 66 [(0, .ref (ad 0)), (1, .ref (ad 1)), (2, .int x2), (3, .int x3), (5, .int v5)] [])
  replace h := h (fun (v4 : Int32) (v5 : Int32) => sx_J (sl_wp D G b ad n) p l e { frames := 3, cells := 0, slots := 0, locals := 60 } s m args below meth c (sl_A b ad n s.heap.size) 7 0 (36 * 0) (sx_fin (sl_wp D G b ad n) (sl_A b ad n s.heap.size) below args s 0 0 (sl_pi (f, a, o) Q) (fun _ _ => False)) (f, a, o) 71 [(0, .ref (ad 0)), (1, .ref (ad 1)), (2, .int x2), (3, .int x3), (4, .int v4), (5, .int v5)] [])
  replace h := h (fun (v5 : Int32) (s0 : Int32) => sx_J (sl_wp D G b ad n) p l e { frames := 3, cells := 0, slots := 0, locals := 60 } s m args below meth c (sl_A b ad n s.heap.size) 7 0 (36 * 0) (sx_fin (sl_wp D G b ad n) (sl_A b ad n s.heap.size) below args s 0 0 (sl_pi (f, a, o) Q) (fun _ _ => False)) (f, a, o) 73 [(0, .ref (ad 0)), (1, .ref (ad 1)), (2, .int x2), (3, .int x3), (5, .int v5)] [.int s0])
  replace h := h (by
    intro v4 v5 h
    refine sx_iload C dL_cue_6 5 rfl 8 rfl ?_
    refine sx_if_lt C dL_cue_8 81 11 (by decide) rfl (fun c1 => ?_) (fun c1 => ?_)
    · replace h := h.1 c1
      refine sx_iload C dL_cue_81 4 rfl 83 rfl ?_
      exact sx_iret C dL_cue_83 hr (Nat.le_of_ble_eq_true rfl) (Nat.le_of_ble_eq_true rfl) ⟨⟨_, rfl, h⟩, rfl⟩
    · replace h := h.2 c1
      refine sx_iload C dL_cue_11 5 rfl 13 rfl ?_
      refine sx_iload_n C dL_cue_13 2 2 rfl rfl 14 rfl ?_
      refine sx_icmp_eq C dL_cue_14 32 17 (by decide) rfl (fun c2 => ?_) (fun c2 => ?_)
      · replace h := h.1 c2
        exact sx_sub [0, 1, 2, 3, 4, 5] rfl h
      · replace h := h.2 c2
        refine sx_aload_n C dL_cue_17 0 0 rfl rfl 18 rfl ?_
        refine sx_aload_n C dL_cue_18 1 1 rfl rfl 19 rfl ?_
        refine sx_iload C dL_cue_19 5 rfl 21 rfl ?_
        refine sx_iload_n C dL_cue_21 3 3 rfl rfl 22 rfl ?_
        refine sl_callS C hB hA (st := []) dL_cue_22 (c_L_isSilent hf ok hn h) mi_L_isSilent lk_L_29 mt_L_isSilent rfl rfl ⟨⟨(Nat.le_of_ble_eq_true rfl), (Nat.le_of_ble_eq_true rfl)⟩, (Nat.le_of_ble_eq_true rfl), (Nat.le_of_ble_eq_true rfl)⟩ (Nat.le_of_ble_eq_true rfl) 25 rfl (fun v g4 a5 o6 h => ?_)
        obtain ⟨⟨r3, rfl, h⟩, e9⟩ := h
        cases e9
        refine sx_if_ne C dL_cue_25 32 28 (by decide) rfl (fun c7 => ?_) (fun c7 => ?_)
        · replace h := h.2 c7
          exact sx_sub [0, 1, 2, 3, 4, 5] rfl h
        · replace h := h.1 c7
          refine sx_iconst C dL_cue_28 1 (by decide) 29 rfl ?_
          refine sx_goto C dL_cue_29 33 (by decide) ?_
          exact sx_sub [0, 1, 2, 3, 4, 5] rfl h)
  replace h := h (by
    intro v4 v5 h
    refine sx_iconst C dL_cue_32 0 (by decide) 33 rfl ?_
    exact sx_sub [0, 1, 2, 3, 4, 5] rfl h)
  replace h := h (by
    intro v4 v5 s0 h
    refine sx_istore C dL_cue_33 [(6, .int s0), (0, .ref (ad 0)), (1, .ref (ad 1)), (2, .int x2), (3, .int x3), (4, .int v4), (5, .int v5)] (by decide) rfl 35 rfl ?_
    refine sx_iload C dL_cue_35 0 rfl 37 rfl ?_
    refine sx_if_eq C dL_cue_37 71 40 (by decide) rfl (fun c8 => ?_) (fun c8 => ?_)
    · replace h := h.1 c8
      exact sx_sub [1, 2, 3, 4, 5, 6] rfl h
    · replace h := h.2 c8
      refine sx_iload C dL_cue_40 5 rfl 42 rfl ?_
      refine sx_if_lt C dL_cue_42 66 45 (by decide) rfl (fun c9 => ?_) (fun c9 => ?_)
      · replace h := h.1 c9
        exact sx_sub [1, 2, 3, 4, 6] rfl h
      · replace h := h.2 c9
        refine sx_aload_n C dL_cue_45 1 2 rfl rfl 46 rfl ?_
        refine sx_bipush C dL_cue_46 6 (by decide) 48 rfl ?_
        refine sx_iload C dL_cue_48 6 rfl 50 rfl ?_
        refine sx_imul C dL_cue_50 51 rfl ?_
        refine sx_iload_n C dL_cue_51 3 4 rfl rfl 52 rfl ?_
        refine sx_iadd C dL_cue_52 53 rfl ?_
        refine sl_iald C dL_cue_53 (Nat.lt_of_lt_of_le (show 1 < 8 by decide) hn) rfl h.1 54 rfl ?_
        replace h := h.2
        refine sx_aload_n C dL_cue_54 1 2 rfl rfl 55 rfl ?_
        refine sx_bipush C dL_cue_55 6 (by decide) 57 rfl ?_
        refine sx_iload C dL_cue_57 5 rfl 59 rfl ?_
        refine sx_imul C dL_cue_59 60 rfl ?_
        refine sx_iload_n C dL_cue_60 3 4 rfl rfl 61 rfl ?_
        refine sx_iadd C dL_cue_61 62 rfl ?_
        refine sl_iald C dL_cue_62 (Nat.lt_of_lt_of_le (show 1 < 8 by decide) hn) rfl h.1 63 rfl ?_
        replace h := h.2
        refine sx_icmp_lt C dL_cue_63 71 66 (by decide) rfl (fun c10 => ?_) (fun c10 => ?_)
        · replace h := h.1 c10
          exact sx_sub [1, 2, 3, 4, 5, 6] rfl h
        · replace h := h.2 c10
          exact sx_sub [1, 2, 3, 4, 6] rfl h)
  replace h := h (by
    intro v5 h
    refine sx_iload C dL_cue_66 4 rfl 68 rfl ?_
    refine sx_goto C dL_cue_68 73 (by decide) ?_
    exact sx_sub [0, 1, 2, 3, 4] rfl h)
  replace h := h (by
    intro v4 v5 h
    refine sx_iload C dL_cue_71 4 rfl 73 rfl ?_
    exact sx_sub [0, 1, 2, 3, 5] rfl h)
  replace h := h (by
    intro v5 s0 h
    refine sx_istore C dL_cue_73 [(4, .int s0), (0, .ref (ad 0)), (1, .ref (ad 1)), (2, .int x2), (3, .int x3), (5, .int v5)] (by decide) rfl 75 rfl ?_
    obtain ⟨y11, ey11⟩ : ∃ w : Int32, w = v5 + (-1) := ⟨_, rfl⟩
    replace h := h y11 ey11
    refine sx_iinc C dL_cue_75 5 rfl y11 (by rw [ey11]; rfl) [(5, .int y11), (4, .int s0), (0, .ref (ad 0)), (1, .ref (ad 1)), (2, .int x2), (3, .int x3)] (by decide) rfl 78 rfl ?_
    refine sx_goto C dL_cue_78 6 (by decide) ?_
    exact sx_sub [2, 3, 4, 5, 1, 0] rfl h)
  refine sx_sub (lv' := [(0, .ref (ad 0)), (1, .ref (ad 1)), (2, .int x2), (3, .int x3)]) [0, 1, 2, 3] rfl ?_
  refine sx_iconst C dL_cue_0 (-1) (by decide) 1 rfl ?_
  refine sx_istore C dL_cue_1 [(4, .int (-1)), (0, .ref (ad 0)), (1, .ref (ad 1)), (2, .int x2), (3, .int x3)] (by decide) rfl 3 rfl ?_
  refine sx_iconst C dL_cue_3 4 (by decide) 4 rfl ?_
  refine sx_istore C dL_cue_4 [(5, .int 4), (4, .int (-1)), (0, .ref (ad 0)), (1, .ref (ad 1)), (2, .int x2), (3, .int x3)] (by decide) rfl 6 rfl ?_
  exact sx_sub [2, 3, 4, 5, 1, 0] rfl h
set_option maxRecDepth 100000 in
set_option maxHeartbeats 8000000 in
theorem c_L_items {l : Launch} {D : va_G} {G : sx_G} {b : Nat} {ad : Nat → Nat} {n : Nat} (hf : l.stackTraces = false) (ok : sl_ok b ad n) (hn : 8 < n) {f a : sx_F} {o : sl_O} {x4 : Int32} {Q : Int32 → sx_F → sx_F → sl_O → Prop} (h : P_L_items f a o x4 Q) : sl_Met l D G b ad n yL_items cL_items 13 (some .int) 5 121 0 0 [.ref (ad 0), .ref (ad 1), .ref (ad 3), .ref (ad 7), .int x4, .ref (ad 8)] (f, a, o) (sl_qi Q) := by
  refine sl_enter (own := RL) hf rfl rfl (Nat.le_of_ble_eq_true rfl) ?_
  intro p e s m args below meth c C hr 
  have hB : ∀ k, k < 129 → sl_A b ad n s.heap.size (b + k) := fun k h => Or.inl ⟨Nat.le_add_right _ _, Nat.add_lt_add_left h _⟩
  have hA : ∀ j, j < n → sl_A b ad n s.heap.size (ad j) := fun j h => Or.inr (Or.inl ⟨j, h, rfl⟩)
  unfold P_L_items at h
  replace h := h (fun (f : sx_F) (a : sx_F) (o : sl_O) (v6 : Int32) (v7 : Int32) (v8 : Int32) => sx_J (sl_wp D G b ad n) p l e { frames := 5, cells := 0, slots := 0, locals := 121 } s m args below meth c (sl_A b ad n s.heap.size) 13 0 (36 * 0) (sx_fin (sl_wp D G b ad n) (sl_A b ad n s.heap.size) below args s 0 0 (sl_qi Q) (fun _ _ => False)) (f, a, o) 9 [(0, .ref (ad 0)), (1, .ref (ad 1)), (2, .ref (ad 3)), (3, .ref (ad 7)), (4, .int x4), (5, .ref (ad 8)), (6, .int v6), (7, .int v7), (8, .int v8)] [])
  replace h := h (fun (f : sx_F) (a : sx_F) (o : sl_O) (v6 : Int32) (v7 : Int32) (v8 : Int32) => sx_J (sl_wp D G b ad n) p l e { frames := 5, cells := 0, slots := 0, locals := 121 } s m args below meth c (sl_A b ad n s.heap.size) 13 0 (36 * 0) (sx_fin (sl_wp D G b ad n) (sl_A b ad n s.heap.size) below args s 0 0 (sl_qi Q) (fun _ _ => False)) (f, a, o) 47 [(0, .ref (ad 0)), (1, .ref (ad 1)), (2, .ref (ad 3)), (3, .ref (ad 7)), (4, .int x4), (5, .ref (ad 8)), (6, .int v6), (7, .int v7), (8, .int v8)] [])
  replace h := h (fun (f : sx_F) (a : sx_F) (o : sl_O) (v6 : Int32) (v7 : Int32) (v8 : Int32) (s0 : Int32) => sx_J (sl_wp D G b ad n) p l e { frames := 5, cells := 0, slots := 0, locals := 121 } s m args below meth c (sl_A b ad n s.heap.size) 13 0 (36 * 0) (sx_fin (sl_wp D G b ad n) (sl_A b ad n s.heap.size) below args s 0 0 (sl_qi Q) (fun _ _ => False)) (f, a, o) 48 [(0, .ref (ad 0)), (1, .ref (ad 1)), (2, .ref (ad 3)), (3, .ref (ad 7)), (4, .int x4), (5, .ref (ad 8)), (6, .int v6), (7, .int v7), (8, .int v8)] [.int s0])
  replace h := h (fun (f : sx_F) (a : sx_F) (o : sl_O) (v6 : Int32) (v7 : Int32) (v8 : Int32) => sx_J (sl_wp D G b ad n) p l e { frames := 5, cells := 0, slots := 0, locals := 121 } s m args below meth c (sl_A b ad n s.heap.size) 13 0 (36 * 0) (sx_fin (sl_wp D G b ad n) (sl_A b ad n s.heap.size) below args s 0 0 (sl_qi Q) (fun _ _ => False)) (f, a, o) 89 [(0, .ref (ad 0)), (1, .ref (ad 1)), (2, .ref (ad 3)), (3, .ref (ad 7)), (4, .int x4), (5, .ref (ad 8)), (6, .int v6), (7, .int v7), (8, .int v8)] [])
  replace h := h (fun (f : sx_F) (a : sx_F) (o : sl_O) (v6 : Int32) (v7 : Int32) (v8 : Int32) (s0 : Int32) => sx_J (sl_wp D G b ad n) p l e { frames := 5, cells := 0, slots := 0, locals := 121 } s m args below meth c (sl_A b ad n s.heap.size) 13 0 (36 * 0) (sx_fin (sl_wp D G b ad n) (sl_A b ad n s.heap.size) below args s 0 0 (sl_qi Q) (fun _ _ => False)) (f, a, o) 90 [(0, .ref (ad 0)), (1, .ref (ad 1)), (2, .ref (ad 3)), (3, .ref (ad 7)), (4, .int x4), (5, .ref (ad 8)), (6, .int v6), (7, .int v7), (8, .int v8)] [.int s0])
  replace h := h (fun (f : sx_F) (a : sx_F) (o : sl_O) (v6 : Int32) (v8 : Int32) (v10 : Int32) (s1 : Int32) (s2 : Int32) => sx_J (sl_wp D G b ad n) p l e { frames := 5, cells := 0, slots := 0, locals := 121 } s m args below meth c (sl_A b ad n s.heap.size) 13 0 (36 * 0) (sx_fin (sl_wp D G b ad n) (sl_A b ad n s.heap.size) below args s 0 0 (sl_qi Q) (fun _ _ => False)) (f, a, o) 133 [(0, .ref (ad 0)), (1, .ref (ad 1)), (2, .ref (ad 3)), (3, .ref (ad 7)), (4, .int x4), (5, .ref (ad 8)), (6, .int v6), (8, .int v8), (10, .int v10)] [.int s2, .int s1, .ref (ad 8)])
  replace h := h (fun (f : sx_F) (a : sx_F) (o : sl_O) (v6 : Int32) (v8 : Int32) (v10 : Int32) => sx_J (sl_wp D G b ad n) p l e { frames := 5, cells := 0, slots := 0, locals := 121 } s m args below meth c (sl_A b ad n s.heap.size) 13 0 (36 * 0) (sx_fin (sl_wp D G b ad n) (sl_A b ad n s.heap.size) below args s 0 0 (sl_qi Q) (fun _ _ => False)) (f, a, o) 147 [(0, .ref (ad 0)), (1, .ref (ad 1)), (2, .ref (ad 3)), (3, .ref (ad 7)), (4, .int x4), (5, .ref (ad 8)), (6, .int v6), (8, .int v8), (10, .int v10)] [])
  replace h := h (fun (f : sx_F) (a : sx_F) (o : sl_O) (v6 : Int32) (v8 : Int32) => sx_J (sl_wp D G b ad n) p l e { frames := 5, cells := 0, slots := 0, locals := 121 } s m args below meth c (sl_A b ad n s.heap.size) 13 0 (36 * 0) (sx_fin (sl_wp D G b ad n) (sl_A b ad n s.heap.size) below args s 0 0 (sl_qi Q) (fun _ _ => False)) (f, a, o) 190 [(0, .ref (ad 0)), (1, .ref (ad 1)), (2, .ref (ad 3)), (3, .ref (ad 7)), (4, .int x4), (5, .ref (ad 8)), (6, .int v6), (8, .int v8)] [])
  replace h := h (fun (f : sx_F) (a : sx_F) (o : sl_O) (v6 : Int32) (v8 : Int32) => sx_J (sl_wp D G b ad n) p l e { frames := 5, cells := 0, slots := 0, locals := 121 } s m args below meth c (sl_A b ad n s.heap.size) 13 0 (36 * 0) (sx_fin (sl_wp D G b ad n) (sl_A b ad n s.heap.size) below args s 0 0 (sl_qi Q) (fun _ _ => False)) (f, a, o) 232 [(0, .ref (ad 0)), (1, .ref (ad 1)), (2, .ref (ad 3)), (3, .ref (ad 7)), (4, .int x4), (5, .ref (ad 8)), (6, .int v6), (8, .int v8)] [])
  replace h := h (fun (f : sx_F) (a : sx_F) (o : sl_O) (v6 : Int32) (v7 : Int32) (v8 : Int32) => sx_J (sl_wp D G b ad n) p l e { frames := 5, cells := 0, slots := 0, locals := 121 } s m args below meth c (sl_A b ad n s.heap.size) 13 0 (36 * 0) (sx_fin (sl_wp D G b ad n) (sl_A b ad n s.heap.size) below args s 0 0 (sl_qi Q) (fun _ _ => False)) (f, a, o) 235 [(0, .ref (ad 0)), (1, .ref (ad 1)), (2, .ref (ad 3)), (3, .ref (ad 7)), (4, .int x4), (5, .ref (ad 8)), (6, .int v6), (7, .int v7), (8, .int v8)] [])
  replace h := h (fun (f : sx_F) (a : sx_F) (o : sl_O) (v6 : Int32) (v8 : Int32) => sx_J (sl_wp D G b ad n) p l e { frames := 5, cells := 0, slots := 0, locals := 121 } s m args below meth c (sl_A b ad n s.heap.size) 13 0 (36 * 0) (sx_fin (sl_wp D G b ad n) (sl_A b ad n s.heap.size) below args s 0 0 (sl_qi Q) (fun _ _ => False)) (f, a, o) 244 [(0, .ref (ad 0)), (1, .ref (ad 1)), (2, .ref (ad 3)), (5, .ref (ad 8)), (6, .int v6), (8, .int v8)] [])
  replace h := h (fun (f : sx_F) (a : sx_F) (o : sl_O) (v6 : Int32) (v8 : Int32) (v9 : Int32) (v10 : Int32) (v11 : Int32) => sx_J (sl_wp D G b ad n) p l e { frames := 5, cells := 0, slots := 0, locals := 121 } s m args below meth c (sl_A b ad n s.heap.size) 13 0 (36 * 0) (sx_fin (sl_wp D G b ad n) (sl_A b ad n s.heap.size) below args s 0 0 (sl_qi Q) (fun _ _ => False)) (f, a, o) 296 [(0, .ref (ad 0)), (1, .ref (ad 1)), (2, .ref (ad 3)), (5, .ref (ad 8)), (6, .int v6), (8, .int v8), (9, .int v9), (10, .int v10), (11, .int v11)] [])
  replace h := h (fun (f : sx_F) (a : sx_F) (o : sl_O) (v6 : Int32) (v8 : Int32) (v9 : Int32) (v10 : Int32) (v11 : Int32) (s0 : Int32) => sx_J (sl_wp D G b ad n) p l e { frames := 5, cells := 0, slots := 0, locals := 121 } s m args below meth c (sl_A b ad n s.heap.size) 13 0 (36 * 0) (sx_fin (sl_wp D G b ad n) (sl_A b ad n s.heap.size) below args s 0 0 (sl_qi Q) (fun _ _ => False)) (f, a, o) 336 [(0, .ref (ad 0)), (1, .ref (ad 1)), (2, .ref (ad 3)), (5, .ref (ad 8)), (6, .int v6), (8, .int v8), (9, .int v9), (10, .int v10), (11, .int v11)] [.int s0])
  replace h := h (by
    intro f a o v6 v7 v8 h
    refine sx_iload C dL_items_9 8 rfl 11 rfl ?_
    refine sx_aload_n C dL_items_11 3 3 rfl rfl 12 rfl ?_
    refine sx_iconst C dL_items_12 0 (by decide) 13 rfl ?_
    refine sl_iald C dL_items_13 (Nat.lt_trans (show 7 < 8 by decide) hn) rfl h.1 14 rfl ?_
    replace h := h.2
    refine sx_icmp_gt C dL_items_14 241 17 (by decide) rfl (fun c1 => ?_) (fun c1 => ?_)
    · replace h := h.1 c1
      refine sx_iconst C dL_items_241 0 (by decide) 242 rfl ?_
      refine sx_istore C dL_items_242 [(8, .int 0), (0, .ref (ad 0)), (1, .ref (ad 1)), (2, .ref (ad 3)), (3, .ref (ad 7)), (4, .int x4), (5, .ref (ad 8)), (6, .int v6), (7, .int v7)] (by decide) rfl 244 rfl ?_
      exact sx_sub [1, 2, 3, 6, 7, 0] rfl h
    · replace h := h.2 c1
      refine sx_iload C dL_items_17 8 rfl 19 rfl ?_
      refine sx_aload_n C dL_items_19 3 3 rfl rfl 20 rfl ?_
      refine sx_iconst C dL_items_20 0 (by decide) 21 rfl ?_
      refine sl_iald C dL_items_21 (Nat.lt_trans (show 7 < 8 by decide) hn) rfl h.1 22 rfl ?_
      replace h := h.2
      refine sx_icmp_ge C dL_items_22 47 25 (by decide) rfl (fun c2 => ?_) (fun c2 => ?_)
      · replace h := h.1 c2
        exact sx_sub [0, 1, 2, 3, 4, 5, 6, 7, 8] rfl h
      · replace h := h.2 c2
        refine sx_iload C dL_items_25 4 rfl 27 rfl ?_
        refine sx_iconst C dL_items_27 5 (by decide) 28 rfl ?_
        refine sx_icmp_ge C dL_items_28 47 31 (by decide) rfl (fun c3 => ?_) (fun c3 => ?_)
        · replace h := h.1 c3
          exact sx_sub [0, 1, 2, 3, 4, 5, 6, 7, 8] rfl h
        · replace h := h.2 c3
          refine sx_aload_n C dL_items_31 0 0 rfl rfl 32 rfl ?_
          refine sx_aload_n C dL_items_32 1 1 rfl rfl 33 rfl ?_
          refine sx_iload C dL_items_33 4 rfl 35 rfl ?_
          refine sx_iload C dL_items_35 8 rfl 37 rfl ?_
          refine sl_callS C hB hA (st := []) dL_items_37 (c_L_isSilent hf ok (Nat.le_of_lt hn) h) mi_L_isSilent lk_L_29 mt_L_isSilent rfl rfl ⟨⟨(Nat.le_of_ble_eq_true rfl), (Nat.le_of_ble_eq_true rfl)⟩, (Nat.le_of_ble_eq_true rfl), (Nat.le_of_ble_eq_true rfl)⟩ (Nat.le_of_ble_eq_true rfl) 40 rfl (fun v g5 a6 o7 h => ?_)
          obtain ⟨⟨r4, rfl, h⟩, e9⟩ := h
          cases e9
          refine sx_if_eq C dL_items_40 47 43 (by decide) rfl (fun c8 => ?_) (fun c8 => ?_)
          · replace h := h.1 c8
            exact sx_sub [0, 1, 2, 3, 4, 5, 6, 7, 8] rfl h
          · replace h := h.2 c8
            refine sx_iconst C dL_items_43 1 (by decide) 44 rfl ?_
            refine sx_goto C dL_items_44 48 (by decide) ?_
            exact sx_sub [0, 1, 2, 3, 4, 5, 6, 7, 8] rfl h)
  replace h := h (by
    intro f a o v6 v7 v8 h
    refine sx_iconst C dL_items_47 0 (by decide) 48 rfl ?_
    exact sx_sub [0, 1, 2, 3, 4, 5, 6, 7, 8] rfl h)
  replace h := h (by
    intro f a o v6 v7 v8 s0 h
    refine sx_istore C dL_items_48 [(9, .int s0), (0, .ref (ad 0)), (1, .ref (ad 1)), (2, .ref (ad 3)), (3, .ref (ad 7)), (4, .int x4), (5, .ref (ad 8)), (6, .int v6), (7, .int v7), (8, .int v8)] (by decide) rfl 50 rfl ?_
    refine sx_iload C dL_items_50 0 rfl 52 rfl ?_
    refine sx_if_eq C dL_items_52 61 55 (by decide) rfl (fun c9 => ?_) (fun c9 => ?_)
    · replace h := h.1 c9
      refine sx_iload C dL_items_61 8 rfl 63 rfl ?_
      refine sx_iconst C dL_items_63 2 (by decide) 64 rfl ?_
      refine sx_icmp_le C dL_items_64 89 67 (by decide) rfl (fun c10 => ?_) (fun c10 => ?_)
      · replace h := h.1 c10
        exact sx_sub [1, 2, 3, 4, 5, 6, 7, 8, 9] rfl h
      · replace h := h.2 c10
        refine sx_iload C dL_items_67 9 rfl 69 rfl ?_
        refine sx_aload_n C dL_items_69 3 4 rfl rfl 70 rfl ?_
        refine sx_iconst C dL_items_70 0 (by decide) 71 rfl ?_
        refine sl_iald C dL_items_71 (Nat.lt_trans (show 7 < 8 by decide) hn) rfl h.1 72 rfl ?_
        replace h := h.2
        refine sx_icmp_ge C dL_items_72 89 75 (by decide) rfl (fun c11 => ?_) (fun c11 => ?_)
        · replace h := h.1 c11
          exact sx_sub [1, 2, 3, 4, 5, 6, 7, 8, 9] rfl h
        · replace h := h.2 c11
          refine sx_aload_n C dL_items_75 0 1 rfl rfl 76 rfl ?_
          refine sx_aload_n C dL_items_76 1 2 rfl rfl 77 rfl ?_
          refine sx_iload C dL_items_77 5 rfl 79 rfl ?_
          refine sx_iload C dL_items_79 9 rfl 81 rfl ?_
          refine sx_iconst C dL_items_81 1 (by decide) 82 rfl ?_
          refine sx_isub C dL_items_82 83 rfl ?_
          refine sl_callS C hB hA (st := []) dL_items_83 (c_L_cue hf ok (Nat.le_of_lt hn) h) mi_L_cue lk_L_33 mt_L_cue rfl rfl ⟨⟨(Nat.le_of_ble_eq_true rfl), (Nat.le_of_ble_eq_true rfl)⟩, (Nat.le_of_ble_eq_true rfl), (Nat.le_of_ble_eq_true rfl)⟩ (Nat.le_of_ble_eq_true rfl) 86 rfl (fun v g13 a14 o15 h => ?_)
          obtain ⟨⟨r12, rfl, h⟩, e9⟩ := h
          cases e9
          refine sx_goto C dL_items_86 90 (by decide) ?_
          exact sx_sub [1, 2, 3, 4, 5, 6, 7, 8, 9] rfl h
    · replace h := h.2 c9
      obtain ⟨y16, ey16⟩ : ∃ w : Int32, w = v7 + 1 := ⟨_, rfl⟩
      replace h := h y16 ey16
      refine sx_iinc C dL_items_55 8 rfl y16 (by rw [ey16]; rfl) [(7, .int y16), (9, .int s0), (0, .ref (ad 0)), (1, .ref (ad 1)), (2, .ref (ad 3)), (3, .ref (ad 7)), (4, .int x4), (5, .ref (ad 8)), (6, .int v6), (8, .int v8)] (by decide) rfl 58 rfl ?_
      refine sx_goto C dL_items_58 235 (by decide) ?_
      exact sx_sub [2, 3, 4, 5, 6, 7, 8, 0, 9] rfl h)
  replace h := h (by
    intro f a o v6 v7 v8 h
    refine sx_iconst C dL_items_89 (-1) (by decide) 90 rfl ?_
    exact sx_sub [0, 1, 2, 3, 4, 5, 6, 7, 8] rfl h)
  replace h := h (by
    intro f a o v6 v7 v8 s0 h
    refine sx_istore C dL_items_90 [(10, .int s0), (0, .ref (ad 0)), (1, .ref (ad 1)), (2, .ref (ad 3)), (3, .ref (ad 7)), (4, .int x4), (5, .ref (ad 8)), (6, .int v6), (7, .int v7), (8, .int v8)] (by decide) rfl 92 rfl ?_
    refine sx_iload C dL_items_92 8 rfl 94 rfl ?_
    refine sx_if_le C dL_items_94 147 97 (by decide) rfl (fun c17 => ?_) (fun c17 => ?_)
    · replace h := h.1 c17
      exact sx_sub [1, 2, 3, 4, 5, 6, 7, 9, 0] rfl h
    · replace h := h.2 c17
      refine sx_aload C dL_items_97 6 rfl 99 rfl ?_
      refine sx_iconst C dL_items_99 5 (by decide) 100 rfl ?_
      refine sx_iload C dL_items_100 7 rfl 102 rfl ?_
      refine sx_imul C dL_items_102 103 rfl ?_
      refine sx_iload C dL_items_103 9 rfl 105 rfl ?_
      refine sx_iload C dL_items_105 8 rfl 107 rfl ?_
      refine sx_isub C dL_items_107 108 rfl ?_
      refine sl_iast C dL_items_108 ok hB hA hn rfl h.1 109 rfl (fun a18 ea18 => ?_)
      replace h := h.2 a18 ea18
      refine sx_aload C dL_items_109 6 rfl 111 rfl ?_
      refine sx_iconst C dL_items_111 5 (by decide) 112 rfl ?_
      refine sx_iload C dL_items_112 7 rfl 114 rfl ?_
      refine sx_imul C dL_items_114 115 rfl ?_
      refine sx_iconst C dL_items_115 1 (by decide) 116 rfl ?_
      refine sx_iadd C dL_items_116 117 rfl ?_
      refine sx_iload C dL_items_117 0 rfl 119 rfl ?_
      refine sx_if_ge C dL_items_119 129 122 (by decide) rfl (fun c19 => ?_) (fun c19 => ?_)
      · replace h := h.1 c19
        refine sx_iload C dL_items_129 9 rfl 131 rfl ?_
        refine sx_iconst C dL_items_131 2 (by decide) 132 rfl ?_
        refine sx_isub C dL_items_132 133 rfl ?_
        exact sx_sub [1, 2, 3, 4, 5, 6, 7, 9, 0] rfl h
      · replace h := h.2 c19
        refine sx_iload C dL_items_122 9 rfl 124 rfl ?_
        refine sx_iconst C dL_items_124 1 (by decide) 125 rfl ?_
        refine sx_isub C dL_items_125 126 rfl ?_
        refine sx_goto C dL_items_126 133 (by decide) ?_
        exact sx_sub [1, 2, 3, 4, 5, 6, 7, 9, 0] rfl h)
  replace h := h (by
    intro f a o v6 v8 v10 s1 s2 h
    refine sl_iast C dL_items_133 ok hB hA hn rfl h.1 134 rfl (fun a20 ea20 => ?_)
    replace h := h.2 a20 ea20
    refine sx_aload C dL_items_134 5 rfl 136 rfl ?_
    refine sx_iconst C dL_items_136 5 (by decide) 137 rfl ?_
    refine sx_iload C dL_items_137 6 rfl 139 rfl ?_
    refine sx_imul C dL_items_139 140 rfl ?_
    refine sx_iconst C dL_items_140 2 (by decide) 141 rfl ?_
    refine sx_iadd C dL_items_141 142 rfl ?_
    refine sx_iconst C dL_items_142 (-1) (by decide) 143 rfl ?_
    refine sl_iast C dL_items_143 ok hB hA hn rfl h.1 144 rfl (fun a21 ea21 => ?_)
    replace h := h.2 a21 ea21
    obtain ⟨y22, ey22⟩ : ∃ w : Int32, w = v6 + 1 := ⟨_, rfl⟩
    replace h := h y22 ey22
    refine sx_iinc C dL_items_144 6 rfl y22 (by rw [ey22]; rfl) [(6, .int y22), (0, .ref (ad 0)), (1, .ref (ad 1)), (2, .ref (ad 3)), (3, .ref (ad 7)), (4, .int x4), (5, .ref (ad 8)), (8, .int v8), (10, .int v10)] (by decide) rfl 147 rfl ?_
    exact sx_sub [1, 2, 3, 4, 5, 6, 0, 7, 8] rfl h)
  replace h := h (by
    intro f a o v6 v8 v10 h
    refine sx_iload C dL_items_147 8 rfl 149 rfl ?_
    refine sx_if_lt C dL_items_149 190 152 (by decide) rfl (fun c23 => ?_) (fun c23 => ?_)
    · replace h := h.1 c23
      exact sx_sub [0, 1, 2, 3, 4, 5, 6, 7] rfl h
    · replace h := h.2 c23
      refine sx_aload C dL_items_152 5 rfl 154 rfl ?_
      refine sx_iconst C dL_items_154 5 (by decide) 155 rfl ?_
      refine sx_iload C dL_items_155 6 rfl 157 rfl ?_
      refine sx_imul C dL_items_157 158 rfl ?_
      refine sx_iload C dL_items_158 7 rfl 160 rfl ?_
      refine sx_iconst C dL_items_160 1 (by decide) 161 rfl ?_
      refine sx_isub C dL_items_161 162 rfl ?_
      refine sl_iast C dL_items_162 ok hB hA hn rfl h.1 163 rfl (fun a24 ea24 => ?_)
      replace h := h.2 a24 ea24
      refine sx_aload C dL_items_163 5 rfl 165 rfl ?_
      refine sx_iconst C dL_items_165 5 (by decide) 166 rfl ?_
      refine sx_iload C dL_items_166 6 rfl 168 rfl ?_
      refine sx_imul C dL_items_168 169 rfl ?_
      refine sx_iconst C dL_items_169 1 (by decide) 170 rfl ?_
      refine sx_iadd C dL_items_170 171 rfl ?_
      refine sx_iload C dL_items_171 7 rfl 173 rfl ?_
      refine sx_iconst C dL_items_173 1 (by decide) 174 rfl ?_
      refine sx_isub C dL_items_174 175 rfl ?_
      refine sl_iast C dL_items_175 ok hB hA hn rfl h.1 176 rfl (fun a25 ea25 => ?_)
      replace h := h.2 a25 ea25
      refine sx_aload C dL_items_176 5 rfl 178 rfl ?_
      refine sx_iconst C dL_items_178 5 (by decide) 179 rfl ?_
      refine sx_iload C dL_items_179 6 rfl 181 rfl ?_
      refine sx_imul C dL_items_181 182 rfl ?_
      refine sx_iconst C dL_items_182 2 (by decide) 183 rfl ?_
      refine sx_iadd C dL_items_183 184 rfl ?_
      refine sx_iload C dL_items_184 8 rfl 186 rfl ?_
      refine sl_iast C dL_items_186 ok hB hA hn rfl h.1 187 rfl (fun a26 ea26 => ?_)
      replace h := h.2 a26 ea26
      obtain ⟨y27, ey27⟩ : ∃ w : Int32, w = v6 + 1 := ⟨_, rfl⟩
      replace h := h y27 ey27
      refine sx_iinc C dL_items_187 6 rfl y27 (by rw [ey27]; rfl) [(6, .int y27), (0, .ref (ad 0)), (1, .ref (ad 1)), (2, .ref (ad 3)), (3, .ref (ad 7)), (4, .int x4), (5, .ref (ad 8)), (8, .int v8), (10, .int v10)] (by decide) rfl 190 rfl ?_
      exact sx_sub [1, 2, 3, 4, 5, 6, 0, 7] rfl h)
  replace h := h (by
    intro f a o v6 v8 h
    refine sx_iload C dL_items_190 7 rfl 192 rfl ?_
    refine sx_aload_n C dL_items_192 3 3 rfl rfl 193 rfl ?_
    refine sx_iconst C dL_items_193 0 (by decide) 194 rfl ?_
    refine sl_iald C dL_items_194 (Nat.lt_trans (show 7 < 8 by decide) hn) rfl h.1 195 rfl ?_
    replace h := h.2
    refine sx_icmp_ge C dL_items_195 232 198 (by decide) rfl (fun c28 => ?_) (fun c28 => ?_)
    · replace h := h.1 c28
      exact sx_sub [0, 1, 2, 3, 4, 5, 6, 7] rfl h
    · replace h := h.2 c28
      refine sx_aload C dL_items_198 5 rfl 200 rfl ?_
      refine sx_iconst C dL_items_200 5 (by decide) 201 rfl ?_
      refine sx_iload C dL_items_201 6 rfl 203 rfl ?_
      refine sx_imul C dL_items_203 204 rfl ?_
      refine sx_iload C dL_items_204 7 rfl 206 rfl ?_
      refine sl_iast C dL_items_206 ok hB hA hn rfl h.1 207 rfl (fun a29 ea29 => ?_)
      replace h := h.2 a29 ea29
      refine sx_aload C dL_items_207 5 rfl 209 rfl ?_
      refine sx_iconst C dL_items_209 5 (by decide) 210 rfl ?_
      refine sx_iload C dL_items_210 6 rfl 212 rfl ?_
      refine sx_imul C dL_items_212 213 rfl ?_
      refine sx_iconst C dL_items_213 1 (by decide) 214 rfl ?_
      refine sx_iadd C dL_items_214 215 rfl ?_
      refine sx_iload C dL_items_215 7 rfl 217 rfl ?_
      refine sl_iast C dL_items_217 ok hB hA hn rfl h.1 218 rfl (fun a30 ea30 => ?_)
      replace h := h.2 a30 ea30
      refine sx_aload C dL_items_218 5 rfl 220 rfl ?_
      refine sx_iconst C dL_items_220 5 (by decide) 221 rfl ?_
      refine sx_iload C dL_items_221 6 rfl 223 rfl ?_
      refine sx_imul C dL_items_223 224 rfl ?_
      refine sx_iconst C dL_items_224 2 (by decide) 225 rfl ?_
      refine sx_iadd C dL_items_225 226 rfl ?_
      refine sx_iload C dL_items_226 4 rfl 228 rfl ?_
      refine sl_iast C dL_items_228 ok hB hA hn rfl h.1 229 rfl (fun a31 ea31 => ?_)
      replace h := h.2 a31 ea31
      obtain ⟨y32, ey32⟩ : ∃ w : Int32, w = v6 + 1 := ⟨_, rfl⟩
      replace h := h y32 ey32
      refine sx_iinc C dL_items_229 6 rfl y32 (by rw [ey32]; rfl) [(6, .int y32), (0, .ref (ad 0)), (1, .ref (ad 1)), (2, .ref (ad 3)), (3, .ref (ad 7)), (4, .int x4), (5, .ref (ad 8)), (8, .int v8)] (by decide) rfl 232 rfl ?_
      exact sx_sub [1, 2, 3, 4, 5, 6, 0, 7] rfl h)
  replace h := h (by
    intro f a o v6 v8 h
    refine sx_iconst C dL_items_232 0 (by decide) 233 rfl ?_
    refine sx_istore C dL_items_233 [(7, .int 0), (0, .ref (ad 0)), (1, .ref (ad 1)), (2, .ref (ad 3)), (3, .ref (ad 7)), (4, .int x4), (5, .ref (ad 8)), (6, .int v6), (8, .int v8)] (by decide) rfl 235 rfl ?_
    exact sx_sub [1, 2, 3, 4, 5, 6, 7, 0, 8] rfl h)
  replace h := h (by
    intro f a o v6 v7 v8 h
    obtain ⟨y33, ey33⟩ : ∃ w : Int32, w = v8 + 1 := ⟨_, rfl⟩
    replace h := h y33 ey33
    refine sx_iinc C dL_items_235 8 rfl y33 (by rw [ey33]; rfl) [(8, .int y33), (0, .ref (ad 0)), (1, .ref (ad 1)), (2, .ref (ad 3)), (3, .ref (ad 7)), (4, .int x4), (5, .ref (ad 8)), (6, .int v6), (7, .int v7)] (by decide) rfl 238 rfl ?_
    refine sx_goto C dL_items_238 9 (by decide) ?_
    exact sx_sub [1, 2, 3, 4, 5, 6, 7, 8, 0] rfl h)
  replace h := h (by
    intro f a o v6 v8 h
    refine sx_iload C dL_items_244 5 rfl 246 rfl ?_
    refine sx_iload C dL_items_246 4 rfl 248 rfl ?_
    refine sx_icmp_ge C dL_items_248 384 251 (by decide) rfl (fun c34 => ?_) (fun c34 => ?_)
    · replace h := h.1 c34
      refine sx_iload C dL_items_384 4 rfl 386 rfl ?_
      exact sx_iret C dL_items_386 hr (Nat.le_of_ble_eq_true rfl) (Nat.le_of_ble_eq_true rfl) ⟨_, rfl, h⟩
    · replace h := h.2 c34
      refine sx_aload C dL_items_251 3 rfl 253 rfl ?_
      refine sx_iconst C dL_items_253 5 (by decide) 254 rfl ?_
      refine sx_iload C dL_items_254 5 rfl 256 rfl ?_
      refine sx_imul C dL_items_256 257 rfl ?_
      refine sx_iconst C dL_items_257 2 (by decide) 258 rfl ?_
      refine sx_iadd C dL_items_258 259 rfl ?_
      refine sl_iald C dL_items_259 hn rfl h.1 260 rfl ?_
      replace h := h.2
      refine sx_topi (fun y35 ey35 => ?_)
      replace h := h y35 ey35
      refine sx_istore C dL_items_260 [(9, .int y35), (0, .ref (ad 0)), (1, .ref (ad 1)), (2, .ref (ad 3)), (5, .ref (ad 8)), (6, .int v6), (8, .int v8)] (by decide) rfl 262 rfl ?_
      refine sx_aload C dL_items_262 4 rfl 264 rfl ?_
      refine sx_iconst C dL_items_264 5 (by decide) 265 rfl ?_
      refine sx_iload C dL_items_265 6 rfl 267 rfl ?_
      refine sx_imul C dL_items_267 268 rfl ?_
      refine sl_iald C dL_items_268 hn rfl h.1 269 rfl ?_
      replace h := h.2
      refine sx_topi (fun y36 ey36 => ?_)
      replace h := h y36 ey36
      refine sx_istore C dL_items_269 [(10, .int y36), (9, .int y35), (0, .ref (ad 0)), (1, .ref (ad 1)), (2, .ref (ad 3)), (5, .ref (ad 8)), (6, .int v6), (8, .int v8)] (by decide) rfl 271 rfl ?_
      refine sx_aload C dL_items_271 5 rfl 273 rfl ?_
      refine sx_iconst C dL_items_273 5 (by decide) 274 rfl ?_
      refine sx_iload C dL_items_274 7 rfl 276 rfl ?_
      refine sx_imul C dL_items_276 277 rfl ?_
      refine sx_iconst C dL_items_277 3 (by decide) 278 rfl ?_
      refine sx_iadd C dL_items_278 279 rfl ?_
      refine sx_bipush C dL_items_279 8 (by decide) 281 rfl ?_
      refine sl_iast C dL_items_281 ok hB hA hn rfl h.1 282 rfl (fun a37 ea37 => ?_)
      replace h := h.2 a37 ea37
      refine sx_aload C dL_items_282 5 rfl 284 rfl ?_
      refine sx_iconst C dL_items_284 5 (by decide) 285 rfl ?_
      refine sx_iload C dL_items_285 7 rfl 287 rfl ?_
      refine sx_imul C dL_items_287 288 rfl ?_
      refine sx_iconst C dL_items_288 4 (by decide) 289 rfl ?_
      refine sx_iadd C dL_items_289 290 rfl ?_
      refine sx_bipush C dL_items_290 8 (by decide) 292 rfl ?_
      refine sl_iast C dL_items_292 ok hB hA hn rfl h.1 293 rfl (fun a38 ea38 => ?_)
      replace h := h.2 a38 ea38
      refine sx_iconst C dL_items_293 0 (by decide) 294 rfl ?_
      refine sx_istore C dL_items_294 [(11, .int 0), (10, .int y36), (9, .int y35), (0, .ref (ad 0)), (1, .ref (ad 1)), (2, .ref (ad 3)), (5, .ref (ad 8)), (6, .int v6), (8, .int v8)] (by decide) rfl 296 rfl ?_
      exact sx_sub [3, 4, 5, 6, 7, 8, 2, 1, 0] rfl h)
  replace h := h (by
    intro f a o v6 v8 v9 v10 v11 h
    refine sx_iload C dL_items_296 8 rfl 298 rfl ?_
    refine sx_aload_n C dL_items_298 2 2 rfl rfl 299 rfl ?_
    refine sx_iload C dL_items_299 7 rfl 301 rfl ?_
    refine sl_iald C dL_items_301 (Nat.lt_trans (show 3 < 8 by decide) hn) rfl h.1 302 rfl ?_
    replace h := h.2
    refine sx_icmp_ge C dL_items_302 378 305 (by decide) rfl (fun c39 => ?_) (fun c39 => ?_)
    · replace h := h.1 c39
      obtain ⟨y40, ey40⟩ : ∃ w : Int32, w = v8 + 1 := ⟨_, rfl⟩
      replace h := h y40 ey40
      refine sx_iinc C dL_items_378 5 rfl y40 (by rw [ey40]; rfl) [(8, .int y40), (0, .ref (ad 0)), (1, .ref (ad 1)), (2, .ref (ad 3)), (5, .ref (ad 8)), (6, .int v6), (9, .int v9), (10, .int v10), (11, .int v11)] (by decide) rfl 381 rfl ?_
      refine sx_goto C dL_items_381 244 (by decide) ?_
      exact sx_sub [1, 2, 3, 4, 5, 0] rfl h
    · replace h := h.2 c39
      refine sx_aload_n C dL_items_305 0 0 rfl rfl 306 rfl ?_
      refine sx_aload_n C dL_items_306 1 1 rfl rfl 307 rfl ?_
      refine sx_aload_n C dL_items_307 2 2 rfl rfl 308 rfl ?_
      refine sx_iload C dL_items_308 6 rfl 310 rfl ?_
      refine sx_iload C dL_items_310 7 rfl 312 rfl ?_
      refine sx_iload C dL_items_312 8 rfl 314 rfl ?_
      refine sl_callS C hB hA (st := []) dL_items_314 (c_L_isSpring hf ok (Nat.le_of_lt hn) h) mi_L_isSpring lk_L_37 mt_L_isSpring rfl rfl ⟨⟨(Nat.le_of_ble_eq_true rfl), (Nat.le_of_ble_eq_true rfl)⟩, (Nat.le_of_ble_eq_true rfl), (Nat.le_of_ble_eq_true rfl)⟩ (Nat.le_of_ble_eq_true rfl) 317 rfl (fun v g42 a43 o44 h => ?_)
      obtain ⟨⟨r41, rfl, h⟩, e9⟩ := h
      cases e9
      refine sx_if_eq C dL_items_317 335 320 (by decide) rfl (fun c45 => ?_) (fun c45 => ?_)
      · replace h := h.1 c45
        refine sx_iconst C dL_items_335 0 (by decide) 336 rfl ?_
        exact sx_sub [0, 1, 2, 3, 4, 5, 6, 7, 8] rfl h
      · replace h := h.2 c45
        refine sx_aload_n C dL_items_320 0 0 rfl rfl 321 rfl ?_
        refine sx_aload_n C dL_items_321 1 1 rfl rfl 322 rfl ?_
        refine sx_aload_n C dL_items_322 2 2 rfl rfl 323 rfl ?_
        refine sx_iload C dL_items_323 6 rfl 325 rfl ?_
        refine sx_iload C dL_items_325 7 rfl 327 rfl ?_
        refine sx_iload C dL_items_327 8 rfl 329 rfl ?_
        refine sl_callS C hB hA (st := []) dL_items_329 (c_L_spring hf ok (Nat.le_of_lt hn) h) mi_L_spring lk_L_41 mt_L_spring rfl rfl ⟨⟨(Nat.le_of_ble_eq_true rfl), (Nat.le_of_ble_eq_true rfl)⟩, (Nat.le_of_ble_eq_true rfl), (Nat.le_of_ble_eq_true rfl)⟩ (Nat.le_of_ble_eq_true rfl) 332 rfl (fun v g47 a48 o49 h => ?_)
        obtain ⟨⟨r46, rfl, h⟩, e9⟩ := h
        cases e9
        refine sx_goto C dL_items_332 336 (by decide) ?_
        exact sx_sub [0, 1, 2, 3, 4, 5, 6, 7, 8] rfl h)
  replace h := h (by
    intro f a o v6 v8 v9 v10 v11 s0 h
    refine sx_istore C dL_items_336 [(12, .int s0), (0, .ref (ad 0)), (1, .ref (ad 1)), (2, .ref (ad 3)), (5, .ref (ad 8)), (6, .int v6), (8, .int v8), (9, .int v9), (10, .int v10), (11, .int v11)] (by decide) rfl 338 rfl ?_
    refine sx_aload C dL_items_338 4 rfl 340 rfl ?_
    refine sx_iconst C dL_items_340 5 (by decide) 341 rfl ?_
    refine sx_iload C dL_items_341 6 rfl 343 rfl ?_
    refine sx_imul C dL_items_343 344 rfl ?_
    refine sx_iconst C dL_items_344 3 (by decide) 345 rfl ?_
    refine sx_iadd C dL_items_345 346 rfl ?_
    refine sx_dup2 C dL_items_346 rfl rfl 347 rfl ?_
    refine sl_iald C dL_items_347 hn rfl h.1 348 rfl ?_
    replace h := h.2
    refine sx_iload C dL_items_348 0 rfl 350 rfl ?_
    refine sx_bipush C dL_items_350 100 (by decide) 352 rfl ?_
    refine sx_idiv C dL_items_352 (by decide) 353 rfl ?_
    refine sx_iadd C dL_items_353 354 rfl ?_
    refine sl_iast C dL_items_354 ok hB hA hn rfl h.1 355 rfl (fun a50 ea50 => ?_)
    replace h := h.2 a50 ea50
    refine sx_aload C dL_items_355 4 rfl 357 rfl ?_
    refine sx_iconst C dL_items_357 5 (by decide) 358 rfl ?_
    refine sx_iload C dL_items_358 6 rfl 360 rfl ?_
    refine sx_imul C dL_items_360 361 rfl ?_
    refine sx_iconst C dL_items_361 4 (by decide) 362 rfl ?_
    refine sx_iadd C dL_items_362 363 rfl ?_
    refine sx_dup2 C dL_items_363 rfl rfl 364 rfl ?_
    refine sl_iald C dL_items_364 hn rfl h.1 365 rfl ?_
    replace h := h.2
    refine sx_iload C dL_items_365 0 rfl 367 rfl ?_
    refine sx_bipush C dL_items_367 100 (by decide) 369 rfl ?_
    refine sx_irem C dL_items_369 (by decide) 370 rfl ?_
    refine sx_iadd C dL_items_370 371 rfl ?_
    refine sl_iast C dL_items_371 ok hB hA hn rfl h.1 372 rfl (fun a51 ea51 => ?_)
    replace h := h.2 a51 ea51
    obtain ⟨y52, ey52⟩ : ∃ w : Int32, w = v11 + 1 := ⟨_, rfl⟩
    replace h := h y52 ey52
    refine sx_iinc C dL_items_372 9 rfl y52 (by rw [ey52]; rfl) [(11, .int y52), (12, .int s0), (0, .ref (ad 0)), (1, .ref (ad 1)), (2, .ref (ad 3)), (5, .ref (ad 8)), (6, .int v6), (8, .int v8), (9, .int v9), (10, .int v10)] (by decide) rfl 375 rfl ?_
    refine sx_goto C dL_items_375 296 (by decide) ?_
    exact sx_sub [2, 3, 4, 5, 6, 7, 8, 9, 0] rfl h)
  refine sx_sub (lv' := [(0, .ref (ad 0)), (1, .ref (ad 1)), (2, .ref (ad 3)), (3, .ref (ad 7)), (4, .int x4), (5, .ref (ad 8))]) [0, 1, 2, 3, 4, 5] rfl ?_
  refine sx_iconst C dL_items_0 0 (by decide) 1 rfl ?_
  refine sx_istore C dL_items_1 [(6, .int 0), (0, .ref (ad 0)), (1, .ref (ad 1)), (2, .ref (ad 3)), (3, .ref (ad 7)), (4, .int x4), (5, .ref (ad 8))] (by decide) rfl 3 rfl ?_
  refine sx_iconst C dL_items_3 0 (by decide) 4 rfl ?_
  refine sx_istore C dL_items_4 [(7, .int 0), (6, .int 0), (0, .ref (ad 0)), (1, .ref (ad 1)), (2, .ref (ad 3)), (3, .ref (ad 7)), (4, .int x4), (5, .ref (ad 8))] (by decide) rfl 6 rfl ?_
  refine sx_iconst C dL_items_6 0 (by decide) 7 rfl ?_
  refine sx_istore C dL_items_7 [(8, .int 0), (7, .int 0), (6, .int 0), (0, .ref (ad 0)), (1, .ref (ad 1)), (2, .ref (ad 3)), (3, .ref (ad 7)), (4, .int x4), (5, .ref (ad 8))] (by decide) rfl 9 rfl ?_
  exact sx_sub [3, 4, 5, 6, 7, 8, 2, 1, 0] rfl h
set_option maxRecDepth 100000 in
set_option maxHeartbeats 8000000 in
theorem c_L_sounds {l : Launch} {D : va_G} {G : sx_G} {b : Nat} {ad : Nat → Nat} {n : Nat} (hf : l.stackTraces = false) (ok : sl_ok b ad n) (hn : 8 ≤ n) {f a : sx_F} {o : sl_O} {x2 : Int32} {x3 : Int32} {x4 : Int32} {Q : Int32 → Prop} (h : P_L_sounds f a o x2 x3 x4 Q) : sl_Met l D G b ad n yL_sounds cL_sounds 9 (some .boolean) 2 35 0 0 [.ref (ad 0), .ref (ad 1), .int x2, .int x3, .int x4] (f, a, o) (sl_pi (f, a, o) Q) := by
  refine sl_enter (own := RL) hf rfl rfl (Nat.le_of_ble_eq_true rfl) ?_
  intro p e s m args below meth c C hr 
  have hB : ∀ k, k < 129 → sl_A b ad n s.heap.size (b + k) := fun k h => Or.inl ⟨Nat.le_add_right _ _, Nat.add_lt_add_left h _⟩
  have hA : ∀ j, j < n → sl_A b ad n s.heap.size (ad j) := fun j h => Or.inr (Or.inl ⟨j, h, rfl⟩)
  unfold P_L_sounds at h
  replace h := h (fun (v5 : Int32) (v6 : Int32) (v7 : Int32) => sx_J (sl_wp D G b ad n) p l e { frames := 2, cells := 0, slots := 0, locals := 35 } s m args below meth c (sl_A b ad n s.heap.size) 9 0 (36 * 0) (sx_fin (sl_wp D G b ad n) (sl_A b ad n s.heap.size) below args s 0 0 (sl_pi (f, a, o) Q) (fun _ _ => False)) (f, a, o) 9 [(0, .ref (ad 0)), (1, .ref (ad 1)), (2, .int x2), (3, .int x3), (4, .int x4), (5, .int v5), (6, .int v6), (7, .int v7)] [])
  replace h := h (fun (v7 : Int32) (v8 : Int32) => sx_J (sl_wp D G b ad n) p l e { frames := 2, cells := 0, slots := 0, locals := 35 } s m args below meth c (sl_A b ad n s.heap.size) 9 0 (36 * 0) (sx_fin (sl_wp D G b ad n) (sl_A b ad n s.heap.size) below args s 0 0 (sl_pi (f, a, o) Q) (fun _ _ => False)) (f, a, o) 73 [(0, .ref (ad 0)), (1, .ref (ad 1)), (2, .int x2), (3, .int x3), (4, .int x4), (7, .int v7), (8, .int v8)] [])
  replace h := h (fun (v7 : Int32) (v8 : Int32) => sx_J (sl_wp D G b ad n) p l e { frames := 2, cells := 0, slots := 0, locals := 35 } s m args below meth c (sl_A b ad n s.heap.size) 9 0 (36 * 0) (sx_fin (sl_wp D G b ad n) (sl_A b ad n s.heap.size) below args s 0 0 (sl_pi (f, a, o) Q) (fun _ _ => False)) (f, a, o) 77 [(0, .ref (ad 0)), (1, .ref (ad 1)), (2, .int x2), (3, .int x3), (4, .int x4), (7, .int v7), (8, .int v8)] [])
  replace h := h (fun (v7 : Int32) (v8 : Int32) (s0 : Int32) => sx_J (sl_wp D G b ad n) p l e { frames := 2, cells := 0, slots := 0, locals := 35 } s m args below meth c (sl_A b ad n s.heap.size) 9 0 (36 * 0) (sx_fin (sl_wp D G b ad n) (sl_A b ad n s.heap.size) below args s 0 0 (sl_pi (f, a, o) Q) (fun _ _ => False)) (f, a, o) 78 [(0, .ref (ad 0)), (1, .ref (ad 1)), (2, .int x2), (3, .int x3), (4, .int x4), (7, .int v7), (8, .int v8)] [.int s0])
  replace h := h (by
    intro v5 v6 v7 h
    refine sx_iload C dL_sounds_9 7 rfl 11 rfl ?_
    refine sx_aload_n C dL_sounds_11 1 1 rfl rfl 12 rfl ?_
    refine sx_bipush C dL_sounds_12 6 (by decide) 14 rfl ?_
    refine sx_iload_n C dL_sounds_14 2 2 rfl rfl 15 rfl ?_
    refine sx_imul C dL_sounds_15 16 rfl ?_
    refine sx_iload_n C dL_sounds_16 3 3 rfl rfl 17 rfl ?_
    refine sx_iadd C dL_sounds_17 18 rfl ?_
    refine sl_iald C dL_sounds_18 (Nat.lt_of_lt_of_le (show 1 < 8 by decide) hn) rfl h.1 19 rfl ?_
    replace h := h.2
    refine sx_icmp_ge C dL_sounds_19 90 22 (by decide) rfl (fun c1 => ?_) (fun c1 => ?_)
    · replace h := h.1 c1
      refine sx_iload C dL_sounds_90 6 rfl 92 rfl ?_
      exact sx_zret C dL_sounds_92 hr (Nat.le_of_ble_eq_true rfl) (Nat.le_of_ble_eq_true rfl) h.1 ⟨⟨_, rfl, h.2⟩, rfl⟩
    · replace h := h.2 c1
      refine sx_iload C dL_sounds_22 5 rfl 24 rfl ?_
      refine sx_aload_n C dL_sounds_24 0 0 rfl rfl 25 rfl ?_
      refine sx_bipush C dL_sounds_25 6 (by decide) 27 rfl ?_
      refine sx_iload_n C dL_sounds_27 2 2 rfl rfl 28 rfl ?_
      refine sx_imul C dL_sounds_28 29 rfl ?_
      refine sx_iload_n C dL_sounds_29 3 3 rfl rfl 30 rfl ?_
      refine sx_iadd C dL_sounds_30 31 rfl ?_
      refine sx_iload C dL_sounds_31 7 rfl 33 rfl ?_
      refine sl_callS C hB hA (st := [.int v5]) dL_sounds_33 (c_L_length hf ok hn h) mi_L_length lk_L_19 mt_L_length rfl rfl ⟨⟨(Nat.le_of_ble_eq_true rfl), (Nat.le_of_ble_eq_true rfl)⟩, (Nat.le_of_ble_eq_true rfl), (Nat.le_of_ble_eq_true rfl)⟩ (Nat.le_of_ble_eq_true rfl) 36 rfl (fun v g3 a4 o5 h => ?_)
      obtain ⟨⟨r2, rfl, h⟩, e9⟩ := h
      cases e9
      refine sx_iadd C dL_sounds_36 37 rfl ?_
      refine sx_topi (fun y6 ey6 => ?_)
      replace h := h y6 ey6
      refine sx_istore C dL_sounds_37 [(8, .int y6), (0, .ref (ad 0)), (1, .ref (ad 1)), (2, .int x2), (3, .int x3), (4, .int x4), (5, .int v5), (6, .int v6), (7, .int v7)] (by decide) rfl 39 rfl ?_
      refine sx_iload C dL_sounds_39 7 rfl 41 rfl ?_
      refine sx_if_ne C dL_sounds_41 73 44 (by decide) rfl (fun c7 => ?_) (fun c7 => ?_)
      · replace h := h.2 c7
        exact sx_sub [1, 2, 3, 4, 5, 8, 0] rfl h
      · replace h := h.1 c7
        refine sx_iload C dL_sounds_44 5 rfl 46 rfl ?_
        refine sx_iload C dL_sounds_46 6 rfl 48 rfl ?_
        refine sx_icmp_lt C dL_sounds_48 77 51 (by decide) rfl (fun c8 => ?_) (fun c8 => ?_)
        · replace h := h.1 c8
          exact sx_sub [1, 2, 3, 4, 5, 8, 0] rfl h
        · replace h := h.2 c8
          refine sx_iload C dL_sounds_51 5 rfl 53 rfl ?_
          refine sx_iload C dL_sounds_53 0 rfl 55 rfl ?_
          refine sx_icmp_ge C dL_sounds_55 77 58 (by decide) rfl (fun c9 => ?_) (fun c9 => ?_)
          · replace h := h.1 c9
            exact sx_sub [1, 2, 3, 4, 5, 8, 0] rfl h
          · replace h := h.2 c9
            refine sx_aload_n C dL_sounds_58 0 1 rfl rfl 59 rfl ?_
            refine sx_bipush C dL_sounds_59 6 (by decide) 61 rfl ?_
            refine sx_iload_n C dL_sounds_61 2 3 rfl rfl 62 rfl ?_
            refine sx_imul C dL_sounds_62 63 rfl ?_
            refine sx_iload_n C dL_sounds_63 3 4 rfl rfl 64 rfl ?_
            refine sx_iadd C dL_sounds_64 65 rfl ?_
            refine sx_iload C dL_sounds_65 8 rfl 67 rfl ?_
            refine sl_callS C hB hA (st := []) dL_sounds_67 (c_L_pitch hf ok hn h) mi_L_pitch lk_L_13 mt_L_pitch rfl rfl ⟨⟨(Nat.le_of_ble_eq_true rfl), (Nat.le_of_ble_eq_true rfl)⟩, (Nat.le_of_ble_eq_true rfl), (Nat.le_of_ble_eq_true rfl)⟩ (Nat.le_of_ble_eq_true rfl) 70 rfl (fun v g11 a12 o13 h => ?_)
            obtain ⟨⟨r10, rfl, h⟩, e9⟩ := h
            cases e9
            refine sx_if_le C dL_sounds_70 77 73 (by decide) rfl (fun c14 => ?_) (fun c14 => ?_)
            · replace h := h.1 c14
              exact sx_sub [1, 2, 3, 4, 5, 8, 0] rfl h
            · replace h := h.2 c14
              exact sx_sub [1, 2, 3, 4, 5, 8, 0] rfl h)
  replace h := h (by
    intro v7 v8 h
    refine sx_iconst C dL_sounds_73 1 (by decide) 74 rfl ?_
    refine sx_goto C dL_sounds_74 78 (by decide) ?_
    exact sx_sub [0, 1, 2, 3, 4, 5, 6] rfl h)
  replace h := h (by
    intro v7 v8 h
    refine sx_iconst C dL_sounds_77 0 (by decide) 78 rfl ?_
    exact sx_sub [0, 1, 2, 3, 4, 5, 6] rfl h)
  replace h := h (by
    intro v7 v8 s0 h
    refine sx_istore C dL_sounds_78 [(6, .int s0), (0, .ref (ad 0)), (1, .ref (ad 1)), (2, .int x2), (3, .int x3), (4, .int x4), (7, .int v7), (8, .int v8)] (by decide) rfl 80 rfl ?_
    refine sx_iload C dL_sounds_80 7 rfl 82 rfl ?_
    refine sx_istore C dL_sounds_82 [(5, .int v8), (6, .int s0), (0, .ref (ad 0)), (1, .ref (ad 1)), (2, .int x2), (3, .int x3), (4, .int x4), (7, .int v7), (8, .int v8)] (by decide) rfl 84 rfl ?_
    obtain ⟨y15, ey15⟩ : ∃ w : Int32, w = v7 + 1 := ⟨_, rfl⟩
    replace h := h y15 ey15
    refine sx_iinc C dL_sounds_84 7 rfl y15 (by rw [ey15]; rfl) [(7, .int y15), (5, .int v8), (6, .int s0), (0, .ref (ad 0)), (1, .ref (ad 1)), (2, .int x2), (3, .int x3), (4, .int x4), (8, .int v8)] (by decide) rfl 87 rfl ?_
    refine sx_goto C dL_sounds_87 9 (by decide) ?_
    exact sx_sub [3, 4, 5, 6, 7, 1, 2, 0] rfl h)
  refine sx_sub (lv' := [(0, .ref (ad 0)), (1, .ref (ad 1)), (2, .int x2), (3, .int x3), (4, .int x4)]) [0, 1, 2, 3, 4] rfl ?_
  refine sx_iconst C dL_sounds_0 0 (by decide) 1 rfl ?_
  refine sx_istore C dL_sounds_1 [(5, .int 0), (0, .ref (ad 0)), (1, .ref (ad 1)), (2, .int x2), (3, .int x3), (4, .int x4)] (by decide) rfl 3 rfl ?_
  refine sx_iconst C dL_sounds_3 0 (by decide) 4 rfl ?_
  refine sx_istore C dL_sounds_4 [(6, .int 0), (5, .int 0), (0, .ref (ad 0)), (1, .ref (ad 1)), (2, .int x2), (3, .int x3), (4, .int x4)] (by decide) rfl 6 rfl ?_
  refine sx_iconst C dL_sounds_6 0 (by decide) 7 rfl ?_
  refine sx_istore C dL_sounds_7 [(7, .int 0), (6, .int 0), (5, .int 0), (0, .ref (ad 0)), (1, .ref (ad 1)), (2, .int x2), (3, .int x3), (4, .int x4)] (by decide) rfl 9 rfl ?_
  exact sx_sub [3, 4, 5, 6, 7, 2, 1, 0] rfl h
set_option maxRecDepth 100000 in
set_option maxHeartbeats 8000000 in
theorem c_L_turn {l : Launch} {D : va_G} {G : sx_G} {b : Nat} {ad : Nat → Nat} {n : Nat} (hf : l.stackTraces = false) (ok : sl_ok b ad n) (hn : 8 ≤ n) {f a : sx_F} {o : sl_O} {x4 : Int32} {x5 : Int32} {Q : Int32 → Prop} (h : P_L_turn f a o x4 x5 Q) : sl_Met l D G b ad n yL_turn cL_turn 9 (some .int) 3 63 0 0 [.ref (ad 0), .ref (ad 1), .ref (ad 3), .ref (ad 7), .int x4, .int x5] (f, a, o) (sl_pi (f, a, o) Q) := by
  refine sl_enter (own := RL) hf rfl rfl (Nat.le_of_ble_eq_true rfl) ?_
  intro p e s m args below meth c C hr 
  have hB : ∀ k, k < 129 → sl_A b ad n s.heap.size (b + k) := fun k h => Or.inl ⟨Nat.le_add_right _ _, Nat.add_lt_add_left h _⟩
  have hA : ∀ j, j < n → sl_A b ad n s.heap.size (ad j) := fun j h => Or.inr (Or.inl ⟨j, h, rfl⟩)
  unfold P_L_turn at h
  replace h := h (fun (v6 : Int32) (v7 : Int32) (v8 : Int32) => sx_J (sl_wp D G b ad n) p l e { frames := 3, cells := 0, slots := 0, locals := 63 } s m args below meth c (sl_A b ad n s.heap.size) 9 0 (36 * 0) (sx_fin (sl_wp D G b ad n) (sl_A b ad n s.heap.size) below args s 0 0 (sl_pi (f, a, o) Q) (fun _ _ => False)) (f, a, o) 15 [(0, .ref (ad 0)), (1, .ref (ad 1)), (2, .ref (ad 3)), (3, .ref (ad 7)), (4, .int x4), (5, .int x5), (6, .int v6), (7, .int v7), (8, .int v8)] [])
  replace h := h (fun (v6 : Int32) (v8 : Int32) (s0 : Int32) => sx_J (sl_wp D G b ad n) p l e { frames := 3, cells := 0, slots := 0, locals := 63 } s m args below meth c (sl_A b ad n s.heap.size) 9 0 (36 * 0) (sx_fin (sl_wp D G b ad n) (sl_A b ad n s.heap.size) below args s 0 0 (sl_pi (f, a, o) Q) (fun _ _ => False)) (f, a, o) 69 [(0, .ref (ad 0)), (1, .ref (ad 1)), (2, .ref (ad 3)), (3, .ref (ad 7)), (4, .int x4), (5, .int x5), (6, .int v6), (8, .int v8)] [.int s0])
  replace h := h (fun (v6 : Int32) => sx_J (sl_wp D G b ad n) p l e { frames := 3, cells := 0, slots := 0, locals := 63 } s m args below meth c (sl_A b ad n s.heap.size) 9 0 (36 * 0) (sx_fin (sl_wp D G b ad n) (sl_A b ad n s.heap.size) below args s 0 0 (sl_pi (f, a, o) Q) (fun _ _ => False)) (f, a, o) 74 [(0, .ref (ad 0)), (1, .ref (ad 1)), (2, .ref (ad 3)), (3, .ref (ad 7)), (4, .int x4), (5, .int x5), (6, .int v6)] [])
  replace h := h (fun (v6 : Int32) (v7 : Int32) (v8 : Int32) => sx_J (sl_wp D G b ad n) p l e { frames := 3, cells := 0, slots := 0, locals := 63 } s m args below meth c (sl_A b ad n s.heap.size) 9 0 (36 * 0) (sx_fin (sl_wp D G b ad n) (sl_A b ad n s.heap.size) below args s 0 0 (sl_pi (f, a, o) Q) (fun _ _ => False)) (f, a, o) 83 [(0, .ref (ad 0)), (1, .ref (ad 1)), (2, .ref (ad 3)), (3, .ref (ad 7)), (4, .int x4), (6, .int v6), (7, .int v7), (8, .int v8)] [])
  replace h := h (fun (v6 : Int32) => sx_J (sl_wp D G b ad n) p l e { frames := 3, cells := 0, slots := 0, locals := 63 } s m args below meth c (sl_A b ad n s.heap.size) 9 0 (36 * 0) (sx_fin (sl_wp D G b ad n) (sl_A b ad n s.heap.size) below args s 0 0 (sl_pi (f, a, o) Q) (fun _ _ => False)) (f, a, o) 135 [(4, .int x4), (6, .int v6)] [])
  replace h := h (sx_J (sl_wp D G b ad n) p l e { frames := 3, cells := 0, slots := 0, locals := 63 } s m args below meth c (sl_A b ad n s.heap.size) 9 0 (36 * 0) (sx_fin (sl_wp D G b ad n) (sl_A b ad n s.heap.size) below args s 0 0 (sl_pi (f, a, o) Q) (fun _ _ => False)) (f, a, o) 148 [] [])
  replace h := h (by
    intro v6 v7 v8 h
    refine sx_iload C dL_turn_15 4 rfl 17 rfl ?_
    refine sx_iconst C dL_turn_17 5 (by decide) 18 rfl ?_
    refine sx_icmp_ge C dL_turn_18 74 21 (by decide) rfl (fun c1 => ?_) (fun c1 => ?_)
    · replace h := h.1 c1
      exact sx_sub [0, 1, 2, 3, 4, 5, 6] rfl h
    · replace h := h.2 c1
      refine sx_iload C dL_turn_21 8 rfl 23 rfl ?_
      refine sx_if_lt C dL_turn_23 74 26 (by decide) rfl (fun c2 => ?_) (fun c2 => ?_)
      · replace h := h.1 c2
        exact sx_sub [0, 1, 2, 3, 4, 5, 6] rfl h
      · replace h := h.2 c2
        refine sx_aload_n C dL_turn_26 0 0 rfl rfl 27 rfl ?_
        refine sx_aload_n C dL_turn_27 1 1 rfl rfl 28 rfl ?_
        refine sx_iload C dL_turn_28 4 rfl 30 rfl ?_
        refine sx_iload C dL_turn_30 8 rfl 32 rfl ?_
        refine sx_iload C dL_turn_32 7 rfl 34 rfl ?_
        refine sl_callS C hB hA (st := []) dL_turn_34 (c_L_sounds hf ok hn h) mi_L_sounds lk_L_44 mt_L_sounds rfl rfl ⟨⟨(Nat.le_of_ble_eq_true rfl), (Nat.le_of_ble_eq_true rfl)⟩, (Nat.le_of_ble_eq_true rfl), (Nat.le_of_ble_eq_true rfl)⟩ (Nat.le_of_ble_eq_true rfl) 37 rfl (fun v g4 a5 o6 h => ?_)
        obtain ⟨⟨r3, rfl, h⟩, e9⟩ := h
        cases e9
        refine sx_if_ne C dL_turn_37 74 40 (by decide) rfl (fun c7 => ?_) (fun c7 => ?_)
        · replace h := h.2 c7
          exact sx_sub [0, 1, 2, 3, 4, 5, 6] rfl h
        · replace h := h.1 c7
          obtain ⟨y8, ey8⟩ : ∃ w : Int32, w = v6 + 1 := ⟨_, rfl⟩
          replace h := h y8 ey8
          refine sx_iinc C dL_turn_40 6 rfl y8 (by rw [ey8]; rfl) [(6, .int y8), (0, .ref (ad 0)), (1, .ref (ad 1)), (2, .ref (ad 3)), (3, .ref (ad 7)), (4, .int x4), (5, .int x5), (7, .int v7), (8, .int v8)] (by decide) rfl 43 rfl ?_
          obtain ⟨y9, ey9⟩ : ∃ w : Int32, w = v7 + (-1) := ⟨_, rfl⟩
          replace h := h y9 ey9
          refine sx_iinc C dL_turn_43 7 rfl y9 (by rw [ey9]; rfl) [(7, .int y9), (6, .int y8), (0, .ref (ad 0)), (1, .ref (ad 1)), (2, .ref (ad 3)), (3, .ref (ad 7)), (4, .int x4), (5, .int x5), (8, .int v8)] (by decide) rfl 46 rfl ?_
          refine sx_iload C dL_turn_46 0 rfl 48 rfl ?_
          refine sx_if_ge C dL_turn_48 15 51 (by decide) rfl (fun c10 => ?_) (fun c10 => ?_)
          · replace h := h.1 c10
            exact sx_sub [2, 3, 4, 5, 6, 7, 1, 0, 8] rfl h
          · replace h := h.2 c10
            obtain ⟨y11, ey11⟩ : ∃ w : Int32, w = v8 + (-1) := ⟨_, rfl⟩
            replace h := h y11 ey11
            refine sx_iinc C dL_turn_51 8 rfl y11 (by rw [ey11]; rfl) [(8, .int y11), (7, .int y9), (6, .int y8), (0, .ref (ad 0)), (1, .ref (ad 1)), (2, .ref (ad 3)), (3, .ref (ad 7)), (4, .int x4), (5, .int x5)] (by decide) rfl 54 rfl ?_
            refine sx_iload C dL_turn_54 0 rfl 56 rfl ?_
            refine sx_if_ge C dL_turn_56 63 59 (by decide) rfl (fun c12 => ?_) (fun c12 => ?_)
            · replace h := h.1 c12
              refine sx_aload_n C dL_turn_63 2 5 rfl rfl 64 rfl ?_
              refine sx_iload C dL_turn_64 0 rfl 66 rfl ?_
              refine sl_iald C dL_turn_66 (Nat.lt_of_lt_of_le (show 3 < 8 by decide) hn) rfl h.1 67 rfl ?_
              replace h := h.2
              refine sx_iconst C dL_turn_67 1 (by decide) 68 rfl ?_
              refine sx_isub C dL_turn_68 69 rfl ?_
              exact sx_sub [3, 4, 5, 6, 7, 8, 2, 0] rfl h
            · replace h := h.2 c12
              refine sx_iconst C dL_turn_59 0 (by decide) 60 rfl ?_
              refine sx_goto C dL_turn_60 69 (by decide) ?_
              exact sx_sub [3, 4, 5, 6, 7, 8, 2, 0] rfl h)
  replace h := h (by
    intro v6 v8 s0 h
    refine sx_istore C dL_turn_69 [(7, .int s0), (0, .ref (ad 0)), (1, .ref (ad 1)), (2, .ref (ad 3)), (3, .ref (ad 7)), (4, .int x4), (5, .int x5), (6, .int v6), (8, .int v8)] (by decide) rfl 71 rfl ?_
    refine sx_goto C dL_turn_71 15 (by decide) ?_
    exact sx_sub [1, 2, 3, 4, 5, 6, 7, 0, 8] rfl h)
  replace h := h (by
    intro v6 h
    refine sx_iload C dL_turn_74 5 rfl 76 rfl ?_
    refine sx_iconst C dL_turn_76 1 (by decide) 77 rfl ?_
    refine sx_iadd C dL_turn_77 78 rfl ?_
    refine sx_topi (fun y13 ey13 => ?_)
    replace h := h y13 ey13
    refine sx_istore C dL_turn_78 [(8, .int y13), (0, .ref (ad 0)), (1, .ref (ad 1)), (2, .ref (ad 3)), (3, .ref (ad 7)), (4, .int x4), (5, .int x5), (6, .int v6)] (by decide) rfl 80 rfl ?_
    refine sx_iconst C dL_turn_80 0 (by decide) 81 rfl ?_
    refine sx_istore C dL_turn_81 [(7, .int 0), (8, .int y13), (0, .ref (ad 0)), (1, .ref (ad 1)), (2, .ref (ad 3)), (3, .ref (ad 7)), (4, .int x4), (5, .int x5), (6, .int v6)] (by decide) rfl 83 rfl ?_
    exact sx_sub [2, 3, 4, 5, 6, 8, 0, 1] rfl h)
  replace h := h (by
    intro v6 v7 v8 h
    refine sx_iload C dL_turn_83 4 rfl 85 rfl ?_
    refine sx_iconst C dL_turn_85 5 (by decide) 86 rfl ?_
    refine sx_icmp_ge C dL_turn_86 135 89 (by decide) rfl (fun c14 => ?_) (fun c14 => ?_)
    · replace h := h.1 c14
      exact sx_sub [4, 5] rfl h
    · replace h := h.2 c14
      refine sx_iload C dL_turn_89 7 rfl 91 rfl ?_
      refine sx_aload_n C dL_turn_91 3 3 rfl rfl 92 rfl ?_
      refine sx_iconst C dL_turn_92 0 (by decide) 93 rfl ?_
      refine sl_iald C dL_turn_93 (Nat.lt_of_lt_of_le (show 7 < 8 by decide) hn) rfl h.1 94 rfl ?_
      replace h := h.2
      refine sx_icmp_ge C dL_turn_94 135 97 (by decide) rfl (fun c15 => ?_) (fun c15 => ?_)
      · replace h := h.1 c15
        exact sx_sub [4, 5] rfl h
      · replace h := h.2 c15
        refine sx_aload_n C dL_turn_97 0 0 rfl rfl 98 rfl ?_
        refine sx_aload_n C dL_turn_98 1 1 rfl rfl 99 rfl ?_
        refine sx_iload C dL_turn_99 4 rfl 101 rfl ?_
        refine sx_iload C dL_turn_101 7 rfl 103 rfl ?_
        refine sx_iload C dL_turn_103 6 rfl 105 rfl ?_
        refine sl_callS C hB hA (st := []) dL_turn_105 (c_L_sounds hf ok hn h) mi_L_sounds lk_L_44 mt_L_sounds rfl rfl ⟨⟨(Nat.le_of_ble_eq_true rfl), (Nat.le_of_ble_eq_true rfl)⟩, (Nat.le_of_ble_eq_true rfl), (Nat.le_of_ble_eq_true rfl)⟩ (Nat.le_of_ble_eq_true rfl) 108 rfl (fun v g17 a18 o19 h => ?_)
        obtain ⟨⟨r16, rfl, h⟩, e9⟩ := h
        cases e9
        refine sx_if_ne C dL_turn_108 135 111 (by decide) rfl (fun c20 => ?_) (fun c20 => ?_)
        · replace h := h.2 c20
          exact sx_sub [4, 5] rfl h
        · replace h := h.1 c20
          obtain ⟨y21, ey21⟩ : ∃ w : Int32, w = v6 + 1 := ⟨_, rfl⟩
          replace h := h y21 ey21
          refine sx_iinc C dL_turn_111 5 rfl y21 (by rw [ey21]; rfl) [(6, .int y21), (0, .ref (ad 0)), (1, .ref (ad 1)), (2, .ref (ad 3)), (3, .ref (ad 7)), (4, .int x4), (7, .int v7), (8, .int v8)] (by decide) rfl 114 rfl ?_
          obtain ⟨y22, ey22⟩ : ∃ w : Int32, w = v7 + 1 := ⟨_, rfl⟩
          replace h := h y22 ey22
          refine sx_iinc C dL_turn_114 6 rfl y22 (by rw [ey22]; rfl) [(7, .int y22), (6, .int y21), (0, .ref (ad 0)), (1, .ref (ad 1)), (2, .ref (ad 3)), (3, .ref (ad 7)), (4, .int x4), (8, .int v8)] (by decide) rfl 117 rfl ?_
          refine sx_iload C dL_turn_117 0 rfl 119 rfl ?_
          refine sx_aload_n C dL_turn_119 2 4 rfl rfl 120 rfl ?_
          refine sx_iload C dL_turn_120 7 rfl 122 rfl ?_
          refine sl_iald C dL_turn_122 (Nat.lt_of_lt_of_le (show 3 < 8 by decide) hn) rfl h.1 123 rfl ?_
          replace h := h.2
          refine sx_icmp_ne C dL_turn_123 83 126 (by decide) rfl (fun c23 => ?_) (fun c23 => ?_)
          · replace h := h.2 c23
            exact sx_sub [2, 3, 4, 5, 6, 1, 0, 7] rfl h
          · replace h := h.1 c23
            obtain ⟨y24, ey24⟩ : ∃ w : Int32, w = v8 + 1 := ⟨_, rfl⟩
            replace h := h y24 ey24
            refine sx_iinc C dL_turn_126 7 rfl y24 (by rw [ey24]; rfl) [(8, .int y24), (7, .int y22), (6, .int y21), (0, .ref (ad 0)), (1, .ref (ad 1)), (2, .ref (ad 3)), (3, .ref (ad 7)), (4, .int x4)] (by decide) rfl 129 rfl ?_
            refine sx_iconst C dL_turn_129 0 (by decide) 130 rfl ?_
            refine sx_istore C dL_turn_130 [(7, .int 0), (8, .int y24), (6, .int y21), (0, .ref (ad 0)), (1, .ref (ad 1)), (2, .ref (ad 3)), (3, .ref (ad 7)), (4, .int x4)] (by decide) rfl 132 rfl ?_
            refine sx_goto C dL_turn_132 83 (by decide) ?_
            exact sx_sub [3, 4, 5, 6, 7, 2, 0, 1] rfl h)
  replace h := h (by
    intro v6 h
    refine sx_iload C dL_turn_135 0 rfl 137 rfl ?_
    refine sx_iconst C dL_turn_137 5 (by decide) 138 rfl ?_
    refine sx_icmp_eq C dL_turn_138 148 141 (by decide) rfl (fun c25 => ?_) (fun c25 => ?_)
    · replace h := h.1 c25
      exact sx_sub [] rfl h
    · replace h := h.2 c25
      refine sx_iload C dL_turn_141 1 rfl 143 rfl ?_
      refine sx_bipush C dL_turn_143 15 (by decide) 145 rfl ?_
      refine sx_icmp_le C dL_turn_145 152 148 (by decide) rfl (fun c26 => ?_) (fun c26 => ?_)
      · replace h := h.1 c26
        refine sx_bipush C dL_turn_152 100 (by decide) 154 rfl ?_
        refine sx_bipush C dL_turn_154 16 (by decide) 156 rfl ?_
        refine sx_iload C dL_turn_156 1 rfl 158 rfl ?_
        refine sx_isub C dL_turn_158 159 rfl ?_
        refine sx_imul C dL_turn_159 160 rfl ?_
        exact sx_iret C dL_turn_160 hr (Nat.le_of_ble_eq_true rfl) (Nat.le_of_ble_eq_true rfl) ⟨⟨_, rfl, h⟩, rfl⟩
      · replace h := h.2 c26
        exact sx_sub [] rfl h)
  replace h := h (by
    intro h
    refine sx_iconst C dL_turn_148 0 (by decide) 149 rfl ?_
    refine sx_goto C dL_turn_149 160 (by decide) ?_
    exact sx_iret C dL_turn_160 hr (Nat.le_of_ble_eq_true rfl) (Nat.le_of_ble_eq_true rfl) ⟨⟨_, rfl, h⟩, rfl⟩)
  refine sx_sub (lv' := [(0, .ref (ad 0)), (1, .ref (ad 1)), (2, .ref (ad 3)), (3, .ref (ad 7)), (4, .int x4), (5, .int x5)]) [0, 1, 2, 3, 4, 5] rfl ?_
  refine sx_iconst C dL_turn_0 0 (by decide) 1 rfl ?_
  refine sx_istore C dL_turn_1 [(6, .int 0), (0, .ref (ad 0)), (1, .ref (ad 1)), (2, .ref (ad 3)), (3, .ref (ad 7)), (4, .int x4), (5, .int x5)] (by decide) rfl 3 rfl ?_
  refine sx_aload_n C dL_turn_3 2 3 rfl rfl 4 rfl ?_
  refine sx_iload C dL_turn_4 6 rfl 6 rfl ?_
  refine sl_iald C dL_turn_6 (Nat.lt_of_lt_of_le (show 3 < 8 by decide) hn) rfl h.1 7 rfl ?_
  replace h := h.2
  refine sx_iconst C dL_turn_7 1 (by decide) 8 rfl ?_
  refine sx_isub C dL_turn_8 9 rfl ?_
  refine sx_topi (fun y27 ey27 => ?_)
  replace h := h y27 ey27
  refine sx_istore C dL_turn_9 [(7, .int y27), (6, .int 0), (0, .ref (ad 0)), (1, .ref (ad 1)), (2, .ref (ad 3)), (3, .ref (ad 7)), (4, .int x4), (5, .int x5)] (by decide) rfl 11 rfl ?_
  refine sx_iload C dL_turn_11 7 rfl 13 rfl ?_
  refine sx_istore C dL_turn_13 [(8, .int x5), (7, .int y27), (6, .int 0), (0, .ref (ad 0)), (1, .ref (ad 1)), (2, .ref (ad 3)), (3, .ref (ad 7)), (4, .int x4), (5, .int x5)] (by decide) rfl 15 rfl ?_
  exact sx_sub [3, 4, 5, 6, 7, 8, 2, 1, 0] rfl h
