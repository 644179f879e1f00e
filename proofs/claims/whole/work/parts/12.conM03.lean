set_option maxRecDepth 100000 in
set_option maxHeartbeats 4000000 in
theorem c_X7_silentFrom {l : Launch} {D : va_G} {G : sx_G} {b : Nat} (hf : l.stackTraces = false) {f : sx_F} {x1 : Int32} {x2 : Int32} {Q : Int32 → Prop}  (h : P_X7_silentFrom f x1 x2 Q) : sx_Met l D G b 26 lyM yX7_silentFrom cX7_silentFrom 7 (some .int) 2 37 0 0 [.ref (b + 0), .int x1, .int x2] f (sx_pi f Q) (fun _ _ => False) := by
  refine sx_enter (own := RX7) hf rfl rfl (Nat.le_of_ble_eq_true rfl) ?_
  intro p e s m args below meth c C hr ht
  have hB : ∀ k, k < 26 → sx_A b 26 s.heap.size (b + k) := fun k h => sx_A.in h
  unfold P_X7_silentFrom at h
  replace h := h (fun (v3 : Int32) (v4 : Int32) => sx_J (sx_wp D G b lyM 26) p l e { frames := 2, cells := 0, slots := 0, locals := 37 } s m args below meth c (sx_A b 26 s.heap.size) 7 0 0 (sx_fin (sx_wp D G b lyM 26) (sx_A b 26 s.heap.size) below args s 0 0 (sx_pi f Q) (fun _ _ => False)) f 5 [(0, .ref (b + 0)), (1, .int x1), (3, .int v3), (4, .int v4)] [])
  replace h := h (fun (v3 : Int32) (v4 : Int32) (v5 : Int32) (v6 : Int32) => sx_J (sx_wp D G b lyM 26) p l e { frames := 2, cells := 0, slots := 0, locals := 37 } s m args below meth c (sx_A b 26 s.heap.size) 7 0 0 (sx_fin (sx_wp D G b lyM 26) (sx_A b 26 s.heap.size) below args s 0 0 (sx_pi f Q) (fun _ _ => False)) f 25 [(0, .ref (b + 0)), (1, .int x1), (3, .int v3), (4, .int v4), (5, .int v5), (6, .int v6)] [])
  replace h := h (by
    intro v3 v4 h
    refine sx_iload C dX7_silentFrom_5 3 rfl 7 rfl ?_
    refine sx_aload_n C dX7_silentFrom_7 0 0 rfl rfl 8 rfl ?_
    refine sx_geti C (T := TX7) (C0 := RX7) (N := 34) (j := 5) dX7_silentFrom_8 fl_X7_99 inw_X7 rfl (by decide) rfl (by decide) lyM_0 rfl 11 rfl ?_
    refine sx_icmp_ge C dX7_silentFrom_11 86 14 (by decide) rfl (fun c1 => ?_) (fun c1 => ?_)
    · replace h := h.1 c1
      refine sx_iload_n C dX7_silentFrom_86 3 2 rfl rfl 87 rfl ?_
      exact sx_iret C dX7_silentFrom_87 hr (Nat.le_of_ble_eq_true rfl) (Nat.le_of_ble_eq_true rfl) ⟨⟨_, rfl, h⟩, rfl⟩
    · replace h := h.2 c1
      refine sx_iload_n C dX7_silentFrom_14 1 1 rfl rfl 15 rfl ?_
      refine sx_iload C dX7_silentFrom_15 3 rfl 17 rfl ?_
      refine sx_callS C ht hB (st := []) dX7_silentFrom_17 (c_X7_cell hf h) mi_X7_cell lk_X7_116 mt_X7_cell rfl rfl ⟨⟨(Nat.le_of_ble_eq_true rfl), (Nat.le_of_ble_eq_true rfl)⟩, (Nat.le_of_ble_eq_true rfl), (Nat.le_of_ble_eq_true rfl)⟩ (Nat.le_of_ble_eq_true rfl) ⟨(Nat.le_of_ble_eq_true rfl), (Nat.le_of_ble_eq_true rfl)⟩ (fun _ _ hx => hx.elim) 20 rfl (fun v g3 h => ?_)
      obtain ⟨⟨r2, rfl, h⟩, rfl⟩ := h
      refine sx_istore C dX7_silentFrom_20 [(5, .int r2), (0, .ref (b + 0)), (1, .int x1), (3, .int v3), (4, .int v4)] (by decide) rfl 22 rfl ?_
      refine sx_iconst C dX7_silentFrom_22 0 (by decide) 23 rfl ?_
      refine sx_istore C dX7_silentFrom_23 [(6, .int 0), (5, .int r2), (0, .ref (b + 0)), (1, .int x1), (3, .int v3), (4, .int v4)] (by decide) rfl 25 rfl ?_
      exact sx_sub [2, 3, 4, 5, 1, 0] rfl h)
  replace h := h (by
    intro v3 v4 v5 v6 h
    refine sx_iload C dX7_silentFrom_25 5 rfl 27 rfl ?_
    refine sx_aload_n C dX7_silentFrom_27 0 0 rfl rfl 28 rfl ?_
    refine sx_getq C (T := TX7) (C0 := RX7) (N := 34) (j := 3) dX7_silentFrom_28 fl_X7_19 inw_X7 rfl (by decide) rfl (by decide) lyM_0 rfl 31 rfl ?_
    refine sx_iload C dX7_silentFrom_31 4 rfl 33 rfl ?_
    refine sx_iald C dX7_silentFrom_33 (by decide) lyM_4 h.1 34 rfl ?_
    replace h := h.2
    refine sx_icmp_ge C dX7_silentFrom_34 70 37 (by decide) rfl (fun c4 => ?_) (fun c4 => ?_)
    · replace h := h.1 c4
      refine sx_iload_n C dX7_silentFrom_70 3 2 rfl rfl 71 rfl ?_
      refine sx_aload_n C dX7_silentFrom_71 0 0 rfl rfl 72 rfl ?_
      refine sx_getq C (T := TX7) (C0 := RX7) (N := 34) (j := 0) dX7_silentFrom_72 fl_X7_7 inw_X7 rfl (by decide) rfl (by decide) lyM_0 rfl 75 rfl ?_
      refine sx_iload C dX7_silentFrom_75 3 rfl 77 rfl ?_
      refine sx_iald C dX7_silentFrom_77 (by decide) lyM_1 h.1 78 rfl ?_
      replace h := h.2
      refine sx_iadd C dX7_silentFrom_78 79 rfl ?_
      refine sx_topi (fun y5 ey5 => ?_)
      replace h := h y5 ey5
      refine sx_istore_n C dX7_silentFrom_79 3 rfl [(3, .int y5), (0, .ref (b + 0)), (1, .int x1), (4, .int v4), (5, .int v5), (6, .int v6)] (by decide) rfl 80 rfl ?_
      obtain ⟨y6, ey6⟩ : ∃ w : Int32, w = v4 + 1 := ⟨_, rfl⟩
      replace h := h y6 ey6
      refine sx_iinc C dX7_silentFrom_80 3 rfl y6 (by rw [ey6]; rfl) [(4, .int y6), (3, .int y5), (0, .ref (b + 0)), (1, .int x1), (5, .int v5), (6, .int v6)] (by decide) rfl 83 rfl ?_
      refine sx_goto C dX7_silentFrom_83 5 (by decide) ?_
      exact sx_sub [2, 3, 1, 0] rfl h
    · replace h := h.2 c4
      refine sx_aload_n C dX7_silentFrom_37 0 0 rfl rfl 38 rfl ?_
      refine sx_getq C (T := TX7) (C0 := RX7) (N := 34) (j := 2) dX7_silentFrom_38 fl_X7_16 inw_X7 rfl (by decide) rfl (by decide) lyM_0 rfl 41 rfl ?_
      refine sx_bipush C dX7_silentFrom_41 8 (by decide) 43 rfl ?_
      refine sx_iload C dX7_silentFrom_43 4 rfl 45 rfl ?_
      refine sx_imul C dX7_silentFrom_45 46 rfl ?_
      refine sx_iload C dX7_silentFrom_46 5 rfl 48 rfl ?_
      refine sx_iadd C dX7_silentFrom_48 49 rfl ?_
      refine sx_iald C dX7_silentFrom_49 (by decide) lyM_3 h.1 50 rfl ?_
      replace h := h.2
      refine sx_if_le C dX7_silentFrom_50 64 53 (by decide) rfl (fun c7 => ?_) (fun c7 => ?_)
      · replace h := h.1 c7
        obtain ⟨y8, ey8⟩ : ∃ w : Int32, w = v6 + 1 := ⟨_, rfl⟩
        replace h := h y8 ey8
        refine sx_iinc C dX7_silentFrom_64 5 rfl y8 (by rw [ey8]; rfl) [(6, .int y8), (0, .ref (b + 0)), (1, .int x1), (3, .int v3), (4, .int v4), (5, .int v5)] (by decide) rfl 67 rfl ?_
        refine sx_goto C dX7_silentFrom_67 25 (by decide) ?_
        exact sx_sub [1, 2, 3, 4, 5, 0] rfl h
      · replace h := h.2 c7
        refine sx_iload_n C dX7_silentFrom_53 3 2 rfl rfl 54 rfl ?_
        refine sx_aload_n C dX7_silentFrom_54 0 0 rfl rfl 55 rfl ?_
        refine sx_iload C dX7_silentFrom_55 4 rfl 57 rfl ?_
        refine sx_iload C dX7_silentFrom_57 5 rfl 59 rfl ?_
        refine sx_callV C ht hB (st := [.int v3]) dX7_silentFrom_59 (c_X7_filled hf h) mi_X7_filled lk_X7_120 mn_X7_filled ms_X7_filled (by decide) lyM_0 rfl rfl rfl rfl ⟨⟨(Nat.le_of_ble_eq_true rfl), (Nat.le_of_ble_eq_true rfl)⟩, (Nat.le_of_ble_eq_true rfl), (Nat.le_of_ble_eq_true rfl)⟩ (Nat.le_of_ble_eq_true rfl) ⟨(Nat.le_of_ble_eq_true rfl), (Nat.le_of_ble_eq_true rfl)⟩ (fun _ _ hx => hx.elim) 62 rfl (fun v g10 h => ?_)
        obtain ⟨⟨r9, rfl, h⟩, rfl⟩ := h
        refine sx_iadd C dX7_silentFrom_62 63 rfl ?_
        exact sx_iret C dX7_silentFrom_63 hr (Nat.le_of_ble_eq_true rfl) (Nat.le_of_ble_eq_true rfl) ⟨⟨_, rfl, h⟩, rfl⟩)
  refine sx_sub (lv' := [(0, .ref (b + 0)), (1, .int x1), (2, .int x2)]) [0, 1, 2] rfl ?_
  refine sx_iconst C dX7_silentFrom_0 0 (by decide) 1 rfl ?_
  refine sx_istore_n C dX7_silentFrom_1 3 rfl [(3, .int 0), (0, .ref (b + 0)), (1, .int x1), (2, .int x2)] (by decide) rfl 2 rfl ?_
  refine sx_iload_n C dX7_silentFrom_2 2 3 rfl rfl 3 rfl ?_
  refine sx_istore C dX7_silentFrom_3 [(4, .int x2), (3, .int 0), (0, .ref (b + 0)), (1, .int x1), (2, .int x2)] (by decide) rfl 5 rfl ?_
  exact sx_sub [2, 3, 1, 0] rfl h
set_option maxRecDepth 100000 in
set_option maxHeartbeats 4000000 in
theorem c_X7_turnCost {l : Launch} {D : va_G} {G : sx_G} {b : Nat} (hf : l.stackTraces = false) {f : sx_F} {x1 : Int32} {x2 : Int32} {Q : Int32 → Prop}  (h : P_X7_turnCost f x1 x2 Q) : sx_Met l D G b 26 lyM yX7_turnCost cX7_turnCost 4 (some .int) 3 64 0 0 [.ref (b + 0), .int x1, .int x2] f (sx_pi f Q) (fun _ _ => False) := by
  refine sx_enter (own := RX7) hf rfl rfl (Nat.le_of_ble_eq_true rfl) ?_
  intro p e s m args below meth c C hr ht
  have hB : ∀ k, k < 26 → sx_A b 26 s.heap.size (b + k) := fun k h => sx_A.in h
  unfold P_X7_turnCost at h
  replace h := h (fun (s0 : Int32) => sx_J (sx_wp D G b lyM 26) p l e { frames := 3, cells := 0, slots := 0, locals := 64 } s m args below meth c (sx_A b 26 s.heap.size) 4 0 0 (sx_fin (sx_wp D G b lyM 26) (sx_A b 26 s.heap.size) below args s 0 0 (sx_pi f Q) (fun _ _ => False)) f 27 [] [.int s0])
  replace h := h (by
    intro s0 h
    refine sx_istore_n C dX7_turnCost_27 3 rfl [(3, .int s0)] (by decide) rfl 28 rfl ?_
    refine sx_iload_n C dX7_turnCost_28 3 0 rfl rfl 29 rfl ?_
    refine sx_if_le C dX7_turnCost_29 39 32 (by decide) rfl (fun c1 => ?_) (fun c1 => ?_)
    · replace h := h.1 c1
      refine sx_iconst C dX7_turnCost_39 0 (by decide) 40 rfl ?_
      exact sx_iret C dX7_turnCost_40 hr (Nat.le_of_ble_eq_true rfl) (Nat.le_of_ble_eq_true rfl) ⟨⟨_, rfl, h⟩, rfl⟩
    · replace h := h.2 c1
      refine sx_bipush C dX7_turnCost_32 100 (by decide) 34 rfl ?_
      refine sx_iload_n C dX7_turnCost_34 3 0 rfl rfl 35 rfl ?_
      refine sx_imul C dX7_turnCost_35 36 rfl ?_
      refine sx_goto C dX7_turnCost_36 40 (by decide) ?_
      exact sx_iret C dX7_turnCost_40 hr (Nat.le_of_ble_eq_true rfl) (Nat.le_of_ble_eq_true rfl) ⟨⟨_, rfl, h⟩, rfl⟩)
  refine sx_sub (lv' := [(0, .ref (b + 0)), (1, .int x1), (2, .int x2)]) [0, 1, 2] rfl ?_
  refine sx_iload_n C dX7_turnCost_0 1 1 rfl rfl 1 rfl ?_
  refine sx_iconst C dX7_turnCost_1 5 (by decide) 2 rfl ?_
  refine sx_icmp_ne C dX7_turnCost_2 9 5 (by decide) rfl (fun c2 => ?_) (fun c2 => ?_)
  · replace h := h.2 c2
    refine sx_bipush C dX7_turnCost_9 16 (by decide) 11 rfl ?_
    refine sx_aload_n C dX7_turnCost_11 0 0 rfl rfl 12 rfl ?_
    refine sx_iload_n C dX7_turnCost_12 1 1 rfl rfl 13 rfl ?_
    refine sx_iload_n C dX7_turnCost_13 2 2 rfl rfl 14 rfl ?_
    refine sx_callV C ht hB (st := [.int 16]) dX7_turnCost_14 (c_X7_silentTo hf h) mi_X7_silentTo lk_X7_177 mn_X7_silentTo ms_X7_silentTo (by decide) lyM_0 rfl rfl rfl rfl ⟨⟨(Nat.le_of_ble_eq_true rfl), (Nat.le_of_ble_eq_true rfl)⟩, (Nat.le_of_ble_eq_true rfl), (Nat.le_of_ble_eq_true rfl)⟩ (Nat.le_of_ble_eq_true rfl) ⟨(Nat.le_of_ble_eq_true rfl), (Nat.le_of_ble_eq_true rfl)⟩ (fun _ _ hx => hx.elim) 17 rfl (fun v g4 h => ?_)
    obtain ⟨⟨r3, rfl, h⟩, rfl⟩ := h
    refine sx_isub C dX7_turnCost_17 18 rfl ?_
    refine sx_aload_n C dX7_turnCost_18 0 0 rfl rfl 19 rfl ?_
    refine sx_iload_n C dX7_turnCost_19 1 1 rfl rfl 20 rfl ?_
    refine sx_iload_n C dX7_turnCost_20 2 2 rfl rfl 21 rfl ?_
    refine sx_iconst C dX7_turnCost_21 1 (by decide) 22 rfl ?_
    refine sx_iadd C dX7_turnCost_22 23 rfl ?_
    refine sx_callV C ht hB (st := [.int (16 - r3)]) dX7_turnCost_23 (c_X7_silentFrom hf h) mi_X7_silentFrom lk_X7_180 mn_X7_silentFrom ms_X7_silentFrom (by decide) lyM_0 rfl rfl rfl rfl ⟨⟨(Nat.le_of_ble_eq_true rfl), (Nat.le_of_ble_eq_true rfl)⟩, (Nat.le_of_ble_eq_true rfl), (Nat.le_of_ble_eq_true rfl)⟩ (Nat.le_of_ble_eq_true rfl) ⟨(Nat.le_of_ble_eq_true rfl), (Nat.le_of_ble_eq_true rfl)⟩ (fun _ _ hx => hx.elim) 26 rfl (fun v g6 h => ?_)
    obtain ⟨⟨r5, rfl, h⟩, rfl⟩ := h
    refine sx_isub C dX7_turnCost_26 27 rfl ?_
    exact sx_sub [] rfl h
  · replace h := h.1 c2
    refine sx_iconst C dX7_turnCost_5 0 (by decide) 6 rfl ?_
    refine sx_goto C dX7_turnCost_6 27 (by decide) ?_
    exact sx_sub [] rfl h
set_option maxRecDepth 100000 in
set_option maxHeartbeats 4000000 in
theorem c_X7_badness {l : Launch} {D : va_G} {G : sx_G} {b : Nat} (hf : l.stackTraces = false) {f : sx_F} {x1 : Int32} {x2 : Int32} {Q : Int32 → Prop}  (h : P_X7_badness f x1 x2 Q) : sx_Met l D G b 26 lyM yX7_badness cX7_badness 5 (some .int) 1 13 0 0 [.ref (b + 0), .int x1, .int x2] f (sx_pi f Q) (fun _ _ => False) := by
  refine sx_enter (own := RX7) hf rfl rfl (Nat.le_of_ble_eq_true rfl) ?_
  intro p e s m args below meth c C hr ht
  have hB : ∀ k, k < 26 → sx_A b 26 s.heap.size (b + k) := fun k h => sx_A.in h
  unfold P_X7_badness at h
  replace h := h (fun (v3 : Int32) (s0 : Int32) => sx_J (sx_wp D G b lyM 26) p l e { frames := 1, cells := 0, slots := 0, locals := 13 } s m args below meth c (sx_A b 26 s.heap.size) 5 0 0 (sx_fin (sx_wp D G b lyM 26) (sx_A b 26 s.heap.size) below args s 0 0 (sx_pi f Q) (fun _ _ => False)) f 18 [(2, .int x2), (3, .int v3)] [.int s0])
  replace h := h (fun (v4 : Int32) => sx_J (sx_wp D G b lyM 26) p l e { frames := 1, cells := 0, slots := 0, locals := 13 } s m args below meth c (sx_A b 26 s.heap.size) 5 0 0 (sx_fin (sx_wp D G b lyM 26) (sx_A b 26 s.heap.size) below args s 0 0 (sx_pi f Q) (fun _ _ => False)) f 32 [(4, .int v4)] [])
  replace h := h (by
    intro v3 s0 h
    refine sx_istore C dX7_badness_18 [(4, .int s0), (2, .int x2), (3, .int v3)] (by decide) rfl 20 rfl ?_
    refine sx_iload_n C dX7_badness_20 2 1 rfl rfl 21 rfl ?_
    refine sx_if_eq C dX7_badness_21 32 24 (by decide) rfl (fun c1 => ?_) (fun c1 => ?_)
    · replace h := h.1 c1
      exact sx_sub [0] rfl h
    · replace h := h.2 c1
      refine sx_iload_n C dX7_badness_24 3 2 rfl rfl 25 rfl ?_
      refine sx_if_le C dX7_badness_25 32 28 (by decide) rfl (fun c2 => ?_) (fun c2 => ?_)
      · replace h := h.1 c2
        exact sx_sub [0] rfl h
      · replace h := h.2 c2
        refine sx_iconst C dX7_badness_28 0 (by decide) 29 rfl ?_
        refine sx_goto C dX7_badness_29 37 (by decide) ?_
        exact sx_iret C dX7_badness_37 hr (Nat.le_of_ble_eq_true rfl) (Nat.le_of_ble_eq_true rfl) ⟨⟨_, rfl, h⟩, rfl⟩)
  replace h := h (by
    intro v4 h
    refine sx_iload C dX7_badness_32 0 rfl 34 rfl ?_
    refine sx_iload C dX7_badness_34 0 rfl 36 rfl ?_
    refine sx_imul C dX7_badness_36 37 rfl ?_
    exact sx_iret C dX7_badness_37 hr (Nat.le_of_ble_eq_true rfl) (Nat.le_of_ble_eq_true rfl) ⟨⟨_, rfl, h⟩, rfl⟩)
  refine sx_sub (lv' := [(0, .ref (b + 0)), (1, .int x1), (2, .int x2)]) [0, 1, 2] rfl ?_
  refine sx_aload_n C dX7_badness_0 0 0 rfl rfl 1 rfl ?_
  refine sx_geti C (T := TX7) (C0 := RX7) (N := 34) (j := 6) dX7_badness_1 fl_X7_25 inw_X7 rfl (by decide) rfl (by decide) lyM_0 rfl 4 rfl ?_
  refine sx_iload_n C dX7_badness_4 1 1 rfl rfl 5 rfl ?_
  refine sx_isub C dX7_badness_5 6 rfl ?_
  refine sx_topi (fun y3 ey3 => ?_)
  replace h := h y3 ey3
  refine sx_istore_n C dX7_badness_6 3 rfl [(3, .int y3), (0, .ref (b + 0)), (1, .int x1), (2, .int x2)] (by decide) rfl 7 rfl ?_
  refine sx_iload_n C dX7_badness_7 3 0 rfl rfl 8 rfl ?_
  refine sx_if_ge C dX7_badness_8 17 11 (by decide) rfl (fun c4 => ?_) (fun c4 => ?_)
  · replace h := h.1 c4
    refine sx_iload_n C dX7_badness_17 3 0 rfl rfl 18 rfl ?_
    exact sx_sub [3, 0] rfl h
  · replace h := h.2 c4
    refine sx_iconst C dX7_badness_11 2 (by decide) 12 rfl ?_
    refine sx_iload_n C dX7_badness_12 3 0 rfl rfl 13 rfl ?_
    refine sx_imul C dX7_badness_13 14 rfl ?_
    refine sx_goto C dX7_badness_14 18 (by decide) ?_
    exact sx_sub [3, 0] rfl h
set_option maxRecDepth 100000 in
set_option maxHeartbeats 4000000 in
theorem c_X7_breaks {l : Launch} {D : va_G} {G : sx_G} {b : Nat} (hf : l.stackTraces = false) {f : sx_F} {x1 : Int32} {Q : sx_F → Prop}  (h : P_X7_breaks f x1 Q) : sx_Met l D G b 26 lyM yX7_breaks cX7_breaks 12 (none) 4 87 0 0 [.ref (b + 0), .int x1] f (sx_qv Q) (fun _ _ => False) := by
  refine sx_enter (own := RX7) hf rfl rfl (Nat.le_of_ble_eq_true rfl) ?_
  intro p e s m args below meth c C hr ht
  have hB : ∀ k, k < 26 → sx_A b 26 s.heap.size (b + k) := fun k h => sx_A.in h
  unfold P_X7_breaks at h
  replace h := h (fun (f : sx_F) (v2 : Int32) => sx_J (sx_wp D G b lyM 26) p l e { frames := 4, cells := 0, slots := 0, locals := 87 } s m args below meth c (sx_A b 26 s.heap.size) 12 0 0 (sx_fin (sx_wp D G b lyM 26) (sx_A b 26 s.heap.size) below args s 0 0 (sx_qv Q) (fun _ _ => False)) f 2 [(0, .ref (b + 0)), (1, .int x1), (2, .int v2)] [])
  replace h := h (fun (f : sx_F) (v2 : Int32) => sx_J (sx_wp D G b lyM 26) p l e { frames := 4, cells := 0, slots := 0, locals := 87 } s m args below meth c (sx_A b 26 s.heap.size) 12 0 0 (sx_fin (sx_wp D G b lyM 26) (sx_A b 26 s.heap.size) below args s 0 0 (sx_qv Q) (fun _ _ => False)) f 53 [(0, .ref (b + 0)), (1, .int x1), (2, .int v2)] [])
  replace h := h (fun (f : sx_F) (v2 : Int32) (v3 : Int32) => sx_J (sx_wp D G b lyM 26) p l e { frames := 4, cells := 0, slots := 0, locals := 87 } s m args below meth c (sx_A b 26 s.heap.size) 12 0 0 (sx_fin (sx_wp D G b lyM 26) (sx_A b 26 s.heap.size) below args s 0 0 (sx_qv Q) (fun _ _ => False)) f 59 [(0, .ref (b + 0)), (1, .int x1), (2, .int v2), (3, .int v3)] [])
  replace h := h (fun (f : sx_F) (v2 : Int32) (v3 : Int32) (v4 : Int32) (v5 : Int32) (v6 : Int32) (v7 : Int32) => sx_J (sx_wp D G b lyM 26) p l e { frames := 4, cells := 0, slots := 0, locals := 87 } s m args below meth c (sx_A b 26 s.heap.size) 12 0 0 (sx_fin (sx_wp D G b lyM 26) (sx_A b 26 s.heap.size) below args s 0 0 (sx_qv Q) (fun _ _ => False)) f 92 [(0, .ref (b + 0)), (1, .int x1), (2, .int v2), (3, .int v3), (4, .int v4), (5, .int v5), (6, .int v6), (7, .int v7)] [])
  replace h := h (fun (f : sx_F) (v2 : Int32) (v3 : Int32) (v4 : Int32) (v5 : Int32) (v6 : Int32) (v7 : Int32) (s0 : Int32) => sx_J (sx_wp D G b lyM 26) p l e { frames := 4, cells := 0, slots := 0, locals := 87 } s m args below meth c (sx_A b 26 s.heap.size) 12 0 0 (sx_fin (sx_wp D G b lyM 26) (sx_A b 26 s.heap.size) below args s 0 0 (sx_qv Q) (fun _ _ => False)) f 151 [(0, .ref (b + 0)), (1, .int x1), (2, .int v2), (3, .int v3), (4, .int v4), (5, .int v5), (6, .int v6), (7, .int v7)] [.int s0])
  replace h := h (fun (f : sx_F) (v2 : Int32) (v3 : Int32) (v4 : Int32) (v5 : Int32) (v6 : Int32) (v7 : Int32) (v9 : Int32) (s0 : Int32) => sx_J (sx_wp D G b lyM 26) p l e { frames := 4, cells := 0, slots := 0, locals := 87 } s m args below meth c (sx_A b 26 s.heap.size) 12 0 0 (sx_fin (sx_wp D G b lyM 26) (sx_A b 26 s.heap.size) below args s 0 0 (sx_qv Q) (fun _ _ => False)) f 225 [(0, .ref (b + 0)), (1, .int x1), (2, .int v2), (3, .int v3), (4, .int v4), (5, .int v5), (6, .int v6), (7, .int v7), (9, .int v9)] [.int s0])
  replace h := h (fun (f : sx_F) (v2 : Int32) (v3 : Int32) (v4 : Int32) (v5 : Int32) (v6 : Int32) (v7 : Int32) (v9 : Int32) (s0 : Int32) (s1 : Int32) => sx_J (sx_wp D G b lyM 26) p l e { frames := 4, cells := 0, slots := 0, locals := 87 } s m args below meth c (sx_A b 26 s.heap.size) 12 0 0 (sx_fin (sx_wp D G b lyM 26) (sx_A b 26 s.heap.size) below args s 0 0 (sx_qv Q) (fun _ _ => False)) f 226 [(0, .ref (b + 0)), (1, .int x1), (2, .int v2), (3, .int v3), (4, .int v4), (5, .int v5), (6, .int v6), (7, .int v7), (9, .int v9)] [.int s1, .int s0])
  replace h := h (fun (f : sx_F) (v2 : Int32) (v3 : Int32) (v4 : Int32) (v5 : Int32) (v6 : Int32) (v7 : Int32) (v9 : Int32) (v10 : Int32) => sx_J (sx_wp D G b lyM 26) p l e { frames := 4, cells := 0, slots := 0, locals := 87 } s m args below meth c (sx_A b 26 s.heap.size) 12 0 0 (sx_fin (sx_wp D G b lyM 26) (sx_A b 26 s.heap.size) below args s 0 0 (sx_qv Q) (fun _ _ => False)) f 282 [(0, .ref (b + 0)), (1, .int x1), (2, .int v2), (3, .int v3), (4, .int v4), (5, .int v5), (6, .int v6), (7, .int v7), (9, .int v9), (10, .int v10)] [])
  replace h := h (fun (f : sx_F) (v2 : Int32) (v3 : Int32) (v4 : Int32) (v5 : Int32) (v6 : Int32) (v7 : Int32) (v9 : Int32) (v10 : Int32) => sx_J (sx_wp D G b lyM 26) p l e { frames := 4, cells := 0, slots := 0, locals := 87 } s m args below meth c (sx_A b 26 s.heap.size) 12 0 0 (sx_fin (sx_wp D G b lyM 26) (sx_A b 26 s.heap.size) below args s 0 0 (sx_qv Q) (fun _ _ => False)) f 286 [(0, .ref (b + 0)), (1, .int x1), (2, .int v2), (3, .int v3), (4, .int v4), (5, .int v5), (6, .int v6), (7, .int v7), (9, .int v9), (10, .int v10)] [])
  replace h := h (fun (f : sx_F) (v2 : Int32) (v3 : Int32) (v4 : Int32) (v5 : Int32) (v6 : Int32) (v7 : Int32) (v9 : Int32) (v10 : Int32) (s0 : Int32) => sx_J (sx_wp D G b lyM 26) p l e { frames := 4, cells := 0, slots := 0, locals := 87 } s m args below meth c (sx_A b 26 s.heap.size) 12 0 0 (sx_fin (sx_wp D G b lyM 26) (sx_A b 26 s.heap.size) below args s 0 0 (sx_qv Q) (fun _ _ => False)) f 287 [(0, .ref (b + 0)), (1, .int x1), (2, .int v2), (3, .int v3), (4, .int v4), (5, .int v5), (6, .int v6), (7, .int v7), (9, .int v9), (10, .int v10)] [.int s0])
  replace h := h (fun (f : sx_F) (v2 : Int32) (v3 : Int32) (v4 : Int32) (v5 : Int32) (v6 : Int32) (v7 : Int32) (v9 : Int32) (v10 : Int32) (v11 : Int32) => sx_J (sx_wp D G b lyM 26) p l e { frames := 4, cells := 0, slots := 0, locals := 87 } s m args below meth c (sx_A b 26 s.heap.size) 12 0 0 (sx_fin (sx_wp D G b lyM 26) (sx_A b 26 s.heap.size) below args s 0 0 (sx_qv Q) (fun _ _ => False)) f 304 [(0, .ref (b + 0)), (1, .int x1), (2, .int v2), (3, .int v3), (4, .int v4), (5, .int v5), (6, .int v6), (7, .int v7), (9, .int v9), (10, .int v10), (11, .int v11)] [])
  replace h := h (fun (f : sx_F) (v2 : Int32) (v3 : Int32) (v4 : Int32) (v5 : Int32) (v6 : Int32) (v7 : Int32) => sx_J (sx_wp D G b lyM 26) p l e { frames := 4, cells := 0, slots := 0, locals := 87 } s m args below meth c (sx_A b 26 s.heap.size) 12 0 0 (sx_fin (sx_wp D G b lyM 26) (sx_A b 26 s.heap.size) below args s 0 0 (sx_qv Q) (fun _ _ => False)) f 343 [(0, .ref (b + 0)), (1, .int x1), (2, .int v2), (3, .int v3), (4, .int v4), (5, .int v5), (6, .int v6), (7, .int v7)] [])
  replace h := h (fun (f : sx_F) (v2 : Int32) => sx_J (sx_wp D G b lyM 26) p l e { frames := 4, cells := 0, slots := 0, locals := 87 } s m args below meth c (sx_A b 26 s.heap.size) 12 0 0 (sx_fin (sx_wp D G b lyM 26) (sx_A b 26 s.heap.size) below args s 0 0 (sx_qv Q) (fun _ _ => False)) f 373 [(0, .ref (b + 0)), (1, .int x1), (2, .int v2)] [])
  replace h := h (fun (f : sx_F) (v2 : Int32) (v3 : Int32) (v4 : Int32) (v5 : Int32) => sx_J (sx_wp D G b lyM 26) p l e { frames := 4, cells := 0, slots := 0, locals := 87 } s m args below meth c (sx_A b 26 s.heap.size) 12 0 0 (sx_fin (sx_wp D G b lyM 26) (sx_A b 26 s.heap.size) below args s 0 0 (sx_qv Q) (fun _ _ => False)) f 407 [(0, .ref (b + 0)), (1, .int x1), (2, .int v2), (3, .int v3), (4, .int v4), (5, .int v5)] [])
  replace h := h (fun (f : sx_F) (v2 : Int32) (s1 : Int32) => sx_J (sx_wp D G b lyM 26) p l e { frames := 4, cells := 0, slots := 0, locals := 87 } s m args below meth c (sx_A b 26 s.heap.size) 12 0 0 (sx_fin (sx_wp D G b lyM 26) (sx_A b 26 s.heap.size) below args s 0 0 (sx_qv Q) (fun _ _ => False)) f 487 [(0, .ref (b + 0)), (1, .int x1), (2, .int v2)] [.int s1, .ref (b + 0)])
  replace h := h (fun (f : sx_F) (v2 : Int32) (s1 : Int32) (s2 : Int32) => sx_J (sx_wp D G b lyM 26) p l e { frames := 4, cells := 0, slots := 0, locals := 87 } s m args below meth c (sx_A b 26 s.heap.size) 12 0 0 (sx_fin (sx_wp D G b lyM 26) (sx_A b 26 s.heap.size) below args s 0 0 (sx_qv Q) (fun _ _ => False)) f 488 [(0, .ref (b + 0)), (1, .int x1), (2, .int v2)] [.int s2, .int s1, .ref (b + 0)])
  replace h := h (by
    intro f v2 h
    refine sx_iload_n C dX7_breaks_2 2 2 rfl rfl 3 rfl ?_
    refine sx_aload_n C dX7_breaks_3 0 0 rfl rfl 4 rfl ?_
    refine sx_geti C (T := TX7) (C0 := RX7) (N := 34) (j := 7) dX7_breaks_4 fl_X7_29 inw_X7 rfl (by decide) rfl (by decide) lyM_0 rfl 7 rfl ?_
    refine sx_icmp_ge C dX7_breaks_7 46 10 (by decide) rfl (fun c1 => ?_) (fun c1 => ?_)
    · replace h := h.1 c1
      refine sx_aload_n C dX7_breaks_46 0 0 rfl rfl 47 rfl ?_
      refine sx_geti C (T := TX7) (C0 := RX7) (N := 34) (j := 20) dX7_breaks_47 fl_X7_161 inw_X7 rfl (by decide) rfl (by decide) lyM_0 rfl 50 rfl ?_
      refine sx_iconst C dX7_breaks_50 1 (by decide) 51 rfl ?_
      refine sx_isub C dX7_breaks_51 52 rfl ?_
      refine sx_topi (fun y2 ey2 => ?_)
      replace h := h y2 ey2
      refine sx_istore_n C dX7_breaks_52 2 rfl [(2, .int y2), (0, .ref (b + 0)), (1, .int x1)] (by decide) rfl 53 rfl ?_
      exact sx_sub [1, 2, 0] rfl h
    · replace h := h.2 c1
      refine sx_aload_n C dX7_breaks_10 0 0 rfl rfl 11 rfl ?_
      refine sx_getq C (T := TX7) (C0 := RX7) (N := 34) (j := 27) dX7_breaks_11 fl_X7_80 inw_X7 rfl (by decide) rfl (by decide) lyM_0 rfl 14 rfl ?_
      refine sx_bipush C dX7_breaks_14 6 (by decide) 16 rfl ?_
      refine sx_aload_n C dX7_breaks_16 0 0 rfl rfl 17 rfl ?_
      refine sx_geti C (T := TX7) (C0 := RX7) (N := 34) (j := 20) dX7_breaks_17 fl_X7_161 inw_X7 rfl (by decide) rfl (by decide) lyM_0 rfl 20 rfl ?_
      refine sx_imul C dX7_breaks_20 21 rfl ?_
      refine sx_iload_n C dX7_breaks_21 2 2 rfl rfl 22 rfl ?_
      refine sx_iadd C dX7_breaks_22 23 rfl ?_
      refine sx_iconst C dX7_breaks_23 0 (by decide) 24 rfl ?_
      refine sx_iast C dX7_breaks_24 hB (by decide) lyM_22 h.1 25 rfl (fun g3 eg3 => ?_)
      replace h := h.2 g3 eg3
      refine sx_aload_n C dX7_breaks_25 0 0 rfl rfl 26 rfl ?_
      refine sx_getq C (T := TX7) (C0 := RX7) (N := 34) (j := 28) dX7_breaks_26 fl_X7_83 inw_X7 rfl (by decide) rfl (by decide) lyM_0 rfl 29 rfl ?_
      refine sx_bipush C dX7_breaks_29 6 (by decide) 31 rfl ?_
      refine sx_aload_n C dX7_breaks_31 0 0 rfl rfl 32 rfl ?_
      refine sx_geti C (T := TX7) (C0 := RX7) (N := 34) (j := 20) dX7_breaks_32 fl_X7_161 inw_X7 rfl (by decide) rfl (by decide) lyM_0 rfl 35 rfl ?_
      refine sx_imul C dX7_breaks_35 36 rfl ?_
      refine sx_iload_n C dX7_breaks_36 2 2 rfl rfl 37 rfl ?_
      refine sx_iadd C dX7_breaks_37 38 rfl ?_
      refine sx_iconst C dX7_breaks_38 0 (by decide) 39 rfl ?_
      refine sx_iast C dX7_breaks_39 hB (by decide) lyM_23 h.1 40 rfl (fun g4 eg4 => ?_)
      replace h := h.2 g4 eg4
      obtain ⟨y5, ey5⟩ : ∃ w : Int32, w = v2 + 1 := ⟨_, rfl⟩
      replace h := h y5 ey5
      refine sx_iinc C dX7_breaks_40 2 rfl y5 (by rw [ey5]; rfl) [(2, .int y5), (0, .ref (b + 0)), (1, .int x1)] (by decide) rfl 43 rfl ?_
      refine sx_goto C dX7_breaks_43 2 (by decide) ?_
      exact sx_sub [1, 2, 0] rfl h)
  replace h := h (by
    intro f v2 h
    refine sx_iload_n C dX7_breaks_53 2 2 rfl rfl 54 rfl ?_
    refine sx_if_lt C dX7_breaks_54 361 57 (by decide) rfl (fun c6 => ?_) (fun c6 => ?_)
    · replace h := h.1 c6
      refine sx_aload_n C dX7_breaks_361 0 0 rfl rfl 362 rfl ?_
      refine sx_iconst C dX7_breaks_362 0 (by decide) 363 rfl ?_
      refine sx_puti C (T := TX7) (C0 := RX7) (N := 34) (j := 31) dX7_breaks_363 fl_X7_190 inw_X7 rfl tyX7 tyX7_ok nmX7 (by decide) rfl rfl rfl hB (by decide) lyM_0 rfl 366 rfl (fun g7 eg7 => ?_)
      replace h := h g7 eg7
      refine sx_aload_n C dX7_breaks_366 0 0 rfl rfl 367 rfl ?_
      refine sx_iconst C dX7_breaks_367 0 (by decide) 368 rfl ?_
      refine sx_puti C (T := TX7) (C0 := RX7) (N := 34) (j := 32) dX7_breaks_368 fl_X7_193 inw_X7 rfl tyX7 tyX7_ok nmX7 (by decide) rfl rfl rfl hB (by decide) lyM_0 rfl 371 rfl (fun g8 eg8 => ?_)
      replace h := h g8 eg8
      refine sx_iconst C dX7_breaks_371 0 (by decide) 372 rfl ?_
      refine sx_istore_n C dX7_breaks_372 2 rfl [(2, .int 0), (0, .ref (b + 0)), (1, .int x1)] (by decide) rfl 373 rfl ?_
      exact sx_sub [1, 2, 0] rfl h
    · replace h := h.2 c6
      refine sx_iconst C dX7_breaks_57 0 (by decide) 58 rfl ?_
      refine sx_istore_n C dX7_breaks_58 3 rfl [(3, .int 0), (0, .ref (b + 0)), (1, .int x1), (2, .int v2)] (by decide) rfl 59 rfl ?_
      exact sx_sub [1, 2, 3, 0] rfl h)
  replace h := h (by
    intro f v2 v3 h
    refine sx_iload_n C dX7_breaks_59 3 3 rfl rfl 60 rfl ?_
    refine sx_aload_n C dX7_breaks_60 0 0 rfl rfl 61 rfl ?_
    refine sx_geti C (T := TX7) (C0 := RX7) (N := 34) (j := 7) dX7_breaks_61 fl_X7_29 inw_X7 rfl (by decide) rfl (by decide) lyM_0 rfl 64 rfl ?_
    refine sx_icmp_ge C dX7_breaks_64 355 67 (by decide) rfl (fun c9 => ?_) (fun c9 => ?_)
    · replace h := h.1 c9
      obtain ⟨y10, ey10⟩ : ∃ w : Int32, w = v2 + (-1) := ⟨_, rfl⟩
      replace h := h y10 ey10
      refine sx_iinc C dX7_breaks_355 2 rfl y10 (by rw [ey10]; rfl) [(2, .int y10), (0, .ref (b + 0)), (1, .int x1), (3, .int v3)] (by decide) rfl 358 rfl ?_
      refine sx_goto C dX7_breaks_358 53 (by decide) ?_
      exact sx_sub [1, 2, 0] rfl h
    · replace h := h.2 c9
      refine sx_bipush C dX7_breaks_67 6 (by decide) 69 rfl ?_
      refine sx_iload_n C dX7_breaks_69 2 2 rfl rfl 70 rfl ?_
      refine sx_imul C dX7_breaks_70 71 rfl ?_
      refine sx_iload_n C dX7_breaks_71 3 3 rfl rfl 72 rfl ?_
      refine sx_iadd C dX7_breaks_72 73 rfl ?_
      refine sx_topi (fun y11 ey11 => ?_)
      replace h := h y11 ey11
      refine sx_istore C dX7_breaks_73 [(4, .int y11), (0, .ref (b + 0)), (1, .int x1), (2, .int v2), (3, .int v3)] (by decide) rfl 75 rfl ?_
      refine sx_iconst C dX7_breaks_75 0 (by decide) 76 rfl ?_
      refine sx_istore C dX7_breaks_76 [(5, .int 0), (4, .int y11), (0, .ref (b + 0)), (1, .int x1), (2, .int v2), (3, .int v3)] (by decide) rfl 78 rfl ?_
      refine sx_iconst C dX7_breaks_78 0 (by decide) 79 rfl ?_
      refine sx_istore C dX7_breaks_79 [(6, .int 0), (5, .int 0), (4, .int y11), (0, .ref (b + 0)), (1, .int x1), (2, .int v2), (3, .int v3)] (by decide) rfl 81 rfl ?_
      refine sx_aload_n C dX7_breaks_81 0 3 rfl rfl 82 rfl ?_
      refine sx_getq C (T := TX7) (C0 := RX7) (N := 34) (j := 29) dX7_breaks_82 fl_X7_86 inw_X7 rfl (by decide) rfl (by decide) lyM_0 rfl 85 rfl ?_
      refine sx_iload C dX7_breaks_85 2 rfl 87 rfl ?_
      refine sx_iconst C dX7_breaks_87 0 (by decide) 88 rfl ?_
      refine sx_iast C dX7_breaks_88 hB (by decide) lyM_24 h.1 89 rfl (fun g12 eg12 => ?_)
      replace h := h.2 g12 eg12
      refine sx_iconst C dX7_breaks_89 1 (by decide) 90 rfl ?_
      refine sx_istore C dX7_breaks_90 [(7, .int 1), (6, .int 0), (5, .int 0), (4, .int y11), (0, .ref (b + 0)), (1, .int x1), (2, .int v2), (3, .int v3)] (by decide) rfl 92 rfl ?_
      exact sx_sub [4, 5, 6, 7, 3, 2, 1, 0] rfl h)
  replace h := h (by
    intro f v2 v3 v4 v5 v6 v7 h
    refine sx_iload_n C dX7_breaks_92 2 2 rfl rfl 93 rfl ?_
    refine sx_iload C dX7_breaks_93 7 rfl 95 rfl ?_
    refine sx_iadd C dX7_breaks_95 96 rfl ?_
    refine sx_aload_n C dX7_breaks_96 0 0 rfl rfl 97 rfl ?_
    refine sx_geti C (T := TX7) (C0 := RX7) (N := 34) (j := 20) dX7_breaks_97 fl_X7_161 inw_X7 rfl (by decide) rfl (by decide) lyM_0 rfl 100 rfl ?_
    refine sx_icmp_gt C dX7_breaks_100 349 103 (by decide) rfl (fun c13 => ?_) (fun c13 => ?_)
    · replace h := h.1 c13
      obtain ⟨y14, ey14⟩ : ∃ w : Int32, w = v3 + 1 := ⟨_, rfl⟩
      replace h := h y14 ey14
      refine sx_iinc C dX7_breaks_349 3 rfl y14 (by rw [ey14]; rfl) [(3, .int y14), (0, .ref (b + 0)), (1, .int x1), (2, .int v2), (4, .int v4), (5, .int v5), (6, .int v6), (7, .int v7)] (by decide) rfl 352 rfl ?_
      refine sx_goto C dX7_breaks_352 59 (by decide) ?_
      exact sx_sub [1, 2, 3, 0] rfl h
    · replace h := h.2 c13
      refine sx_iload C dX7_breaks_103 5 rfl 105 rfl ?_
      refine sx_aload_n C dX7_breaks_105 0 0 rfl rfl 106 rfl ?_
      refine sx_getq C (T := TX7) (C0 := RX7) (N := 34) (j := 25) dX7_breaks_106 fl_X7_74 inw_X7 rfl (by decide) rfl (by decide) lyM_0 rfl 109 rfl ?_
      refine sx_iload_n C dX7_breaks_109 2 2 rfl rfl 110 rfl ?_
      refine sx_iload C dX7_breaks_110 7 rfl 112 rfl ?_
      refine sx_iadd C dX7_breaks_112 113 rfl ?_
      refine sx_iconst C dX7_breaks_113 1 (by decide) 114 rfl ?_
      refine sx_isub C dX7_breaks_114 115 rfl ?_
      refine sx_iald C dX7_breaks_115 (by decide) lyM_20 h.1 116 rfl ?_
      replace h := h.2
      refine sx_iadd C dX7_breaks_116 117 rfl ?_
      refine sx_topi (fun y15 ey15 => ?_)
      replace h := h y15 ey15
      refine sx_istore C dX7_breaks_117 [(5, .int y15), (0, .ref (b + 0)), (1, .int x1), (2, .int v2), (3, .int v3), (4, .int v4), (6, .int v6), (7, .int v7)] (by decide) rfl 119 rfl ?_
      refine sx_iload C dX7_breaks_119 6 rfl 121 rfl ?_
      refine sx_aload_n C dX7_breaks_121 0 1 rfl rfl 122 rfl ?_
      refine sx_getq C (T := TX7) (C0 := RX7) (N := 34) (j := 26) dX7_breaks_122 fl_X7_77 inw_X7 rfl (by decide) rfl (by decide) lyM_0 rfl 125 rfl ?_
      refine sx_iload_n C dX7_breaks_125 2 3 rfl rfl 126 rfl ?_
      refine sx_iload C dX7_breaks_126 7 rfl 128 rfl ?_
      refine sx_iadd C dX7_breaks_128 129 rfl ?_
      refine sx_iconst C dX7_breaks_129 1 (by decide) 130 rfl ?_
      refine sx_isub C dX7_breaks_130 131 rfl ?_
      refine sx_iald C dX7_breaks_131 (by decide) lyM_21 h.1 132 rfl ?_
      replace h := h.2
      refine sx_iadd C dX7_breaks_132 133 rfl ?_
      refine sx_topi (fun y16 ey16 => ?_)
      replace h := h y16 ey16
      refine sx_istore C dX7_breaks_133 [(6, .int y16), (5, .int y15), (0, .ref (b + 0)), (1, .int x1), (2, .int v2), (3, .int v3), (4, .int v4), (7, .int v7)] (by decide) rfl 135 rfl ?_
      refine sx_iload_n C dX7_breaks_135 2 4 rfl rfl 136 rfl ?_
      refine sx_iload C dX7_breaks_136 7 rfl 138 rfl ?_
      refine sx_iadd C dX7_breaks_138 139 rfl ?_
      refine sx_aload_n C dX7_breaks_139 0 2 rfl rfl 140 rfl ?_
      refine sx_geti C (T := TX7) (C0 := RX7) (N := 34) (j := 20) dX7_breaks_140 fl_X7_161 inw_X7 rfl (by decide) rfl (by decide) lyM_0 rfl 143 rfl ?_
      refine sx_icmp_ne C dX7_breaks_143 150 146 (by decide) rfl (fun c17 => ?_) (fun c17 => ?_)
      · replace h := h.2 c17
        refine sx_iconst C dX7_breaks_150 0 (by decide) 151 rfl ?_
        exact sx_sub [2, 3, 4, 5, 6, 1, 0, 7] rfl h
      · replace h := h.1 c17
        refine sx_iconst C dX7_breaks_146 1 (by decide) 147 rfl ?_
        refine sx_goto C dX7_breaks_147 151 (by decide) ?_
        exact sx_sub [2, 3, 4, 5, 6, 1, 0, 7] rfl h)
  replace h := h (by
    intro f v2 v3 v4 v5 v6 v7 s0 h
    refine sx_istore C dX7_breaks_151 [(8, .int s0), (0, .ref (b + 0)), (1, .int x1), (2, .int v2), (3, .int v3), (4, .int v4), (5, .int v5), (6, .int v6), (7, .int v7)] (by decide) rfl 153 rfl ?_
    refine sx_bipush C dX7_breaks_153 6 (by decide) 155 rfl ?_
    refine sx_iload_n C dX7_breaks_155 2 3 rfl rfl 156 rfl ?_
    refine sx_iload C dX7_breaks_156 8 rfl 158 rfl ?_
    refine sx_iadd C dX7_breaks_158 159 rfl ?_
    refine sx_imul C dX7_breaks_159 160 rfl ?_
    refine sx_iload_n C dX7_breaks_160 3 4 rfl rfl 161 rfl ?_
    refine sx_iconst C dX7_breaks_161 1 (by decide) 162 rfl ?_
    refine sx_iadd C dX7_breaks_162 163 rfl ?_
    refine sx_aload_n C dX7_breaks_163 0 1 rfl rfl 164 rfl ?_
    refine sx_geti C (T := TX7) (C0 := RX7) (N := 34) (j := 7) dX7_breaks_164 fl_X7_29 inw_X7 rfl (by decide) rfl (by decide) lyM_0 rfl 167 rfl ?_
    refine sx_irem C dX7_breaks_167 h.1 168 rfl ?_
    replace h := h.2
    refine sx_iadd C dX7_breaks_168 169 rfl ?_
    refine sx_topi (fun y18 ey18 => ?_)
    replace h := h y18 ey18
    refine sx_istore C dX7_breaks_169 [(9, .int y18), (8, .int s0), (0, .ref (b + 0)), (1, .int x1), (2, .int v2), (3, .int v3), (4, .int v4), (5, .int v5), (6, .int v6), (7, .int v7)] (by decide) rfl 171 rfl ?_
    refine sx_aload_n C dX7_breaks_171 0 2 rfl rfl 172 rfl ?_
    refine sx_iload C dX7_breaks_172 7 rfl 174 rfl ?_
    refine sx_iload C dX7_breaks_174 1 rfl 176 rfl ?_
    refine sx_callV C ht hB (st := []) dX7_breaks_176 (c_X7_badness hf h) mi_X7_badness lk_X7_183 mn_X7_badness ms_X7_badness (by decide) lyM_0 rfl rfl rfl rfl ⟨⟨(Nat.le_of_ble_eq_true rfl), (Nat.le_of_ble_eq_true rfl)⟩, (Nat.le_of_ble_eq_true rfl), (Nat.le_of_ble_eq_true rfl)⟩ (Nat.le_of_ble_eq_true rfl) ⟨(Nat.le_of_ble_eq_true rfl), (Nat.le_of_ble_eq_true rfl)⟩ (fun _ _ hx => hx.elim) 179 rfl (fun v g20 h => ?_)
    obtain ⟨⟨r19, rfl, h⟩, rfl⟩ := h
    refine sx_aload_n C dX7_breaks_179 0 2 rfl rfl 180 rfl ?_
    refine sx_getq C (T := TX7) (C0 := RX7) (N := 34) (j := 27) dX7_breaks_180 fl_X7_80 inw_X7 rfl (by decide) rfl (by decide) lyM_0 rfl 183 rfl ?_
    refine sx_iload C dX7_breaks_183 0 rfl 185 rfl ?_
    refine sx_iald C dX7_breaks_185 (by decide) lyM_22 h.1 186 rfl ?_
    replace h := h.2
    refine sx_iadd C dX7_breaks_186 187 rfl ?_
    refine sx_topi (fun y21 ey21 => ?_)
    replace h := h y21 ey21
    refine sx_istore C dX7_breaks_187 [(10, .int y21), (9, .int y18), (8, .int s0), (0, .ref (b + 0)), (1, .int x1), (2, .int v2), (3, .int v3), (4, .int v4), (5, .int v5), (6, .int v6), (7, .int v7)] (by decide) rfl 189 rfl ?_
    refine sx_iload C dX7_breaks_189 0 rfl 191 rfl ?_
    refine sx_iload_n C dX7_breaks_191 3 6 rfl rfl 192 rfl ?_
    refine sx_aload_n C dX7_breaks_192 0 3 rfl rfl 193 rfl ?_
    refine sx_geti C (T := TX7) (C0 := RX7) (N := 34) (j := 7) dX7_breaks_193 fl_X7_29 inw_X7 rfl (by decide) rfl (by decide) lyM_0 rfl 196 rfl ?_
    refine sx_iconst C dX7_breaks_196 1 (by decide) 197 rfl ?_
    refine sx_isub C dX7_breaks_197 198 rfl ?_
    refine sx_icmp_ne C dX7_breaks_198 225 201 (by decide) rfl (fun c22 => ?_) (fun c22 => ?_)
    · replace h := h.2 c22
      exact sx_sub [3, 4, 5, 6, 7, 8, 9, 10, 1] rfl h
    · replace h := h.1 c22
      refine sx_iload C dX7_breaks_201 2 rfl 203 rfl ?_
      refine sx_if_ne C dX7_breaks_203 225 206 (by decide) rfl (fun c23 => ?_) (fun c23 => ?_)
      · replace h := h.2 c23
        exact sx_sub [3, 4, 5, 6, 7, 8, 9, 10, 1] rfl h
      · replace h := h.1 c23
        refine sx_aload_n C dX7_breaks_206 0 3 rfl rfl 207 rfl ?_
        refine sx_iload_n C dX7_breaks_207 1 4 rfl rfl 208 rfl ?_
        refine sx_aload_n C dX7_breaks_208 0 3 rfl rfl 209 rfl ?_
        refine sx_getq C (T := TX7) (C0 := RX7) (N := 34) (j := 18) dX7_breaks_209 fl_X7_56 inw_X7 rfl (by decide) rfl (by decide) lyM_0 rfl 212 rfl ?_
        refine sx_iload_n C dX7_breaks_212 2 5 rfl rfl 213 rfl ?_
        refine sx_iload C dX7_breaks_213 10 rfl 215 rfl ?_
        refine sx_iadd C dX7_breaks_215 216 rfl ?_
        refine sx_iconst C dX7_breaks_216 1 (by decide) 217 rfl ?_
        refine sx_isub C dX7_breaks_217 218 rfl ?_
        refine sx_iald C dX7_breaks_218 (by decide) lyM_14 h.1 219 rfl ?_
        replace h := h.2
        refine sx_callV C ht hB (st := [.int y21]) dX7_breaks_219 (c_X7_turnCost hf h) mi_X7_turnCost lk_X7_187 mn_X7_turnCost ms_X7_turnCost (by decide) lyM_0 rfl rfl rfl rfl ⟨⟨(Nat.le_of_ble_eq_true rfl), (Nat.le_of_ble_eq_true rfl)⟩, (Nat.le_of_ble_eq_true rfl), (Nat.le_of_ble_eq_true rfl)⟩ (Nat.le_of_ble_eq_true rfl) ⟨(Nat.le_of_ble_eq_true rfl), (Nat.le_of_ble_eq_true rfl)⟩ (fun _ _ hx => hx.elim) 222 rfl (fun v g25 h => ?_)
        obtain ⟨⟨r24, rfl, h⟩, rfl⟩ := h
        refine sx_goto C dX7_breaks_222 226 (by decide) ?_
        exact sx_sub [3, 4, 5, 6, 7, 8, 9, 10, 1] rfl h)
  replace h := h (by
    intro f v2 v3 v4 v5 v6 v7 v9 s0 h
    refine sx_iconst C dX7_breaks_225 0 (by decide) 226 rfl ?_
    exact sx_sub [0, 1, 2, 3, 4, 5, 6, 7, 8] rfl h)
  replace h := h (by
    intro f v2 v3 v4 v5 v6 v7 v9 s0 s1 h
    refine sx_iadd C dX7_breaks_226 227 rfl ?_
    refine sx_topi (fun y26 ey26 => ?_)
    replace h := h y26 ey26
    refine sx_istore C dX7_breaks_227 [(10, .int y26), (0, .ref (b + 0)), (1, .int x1), (2, .int v2), (3, .int v3), (4, .int v4), (5, .int v5), (6, .int v6), (7, .int v7), (9, .int v9)] (by decide) rfl 229 rfl ?_
    refine sx_aload_n C dX7_breaks_229 0 1 rfl rfl 230 rfl ?_
    refine sx_getq C (T := TX7) (C0 := RX7) (N := 34) (j := 29) dX7_breaks_230 fl_X7_86 inw_X7 rfl (by decide) rfl (by decide) lyM_0 rfl 233 rfl ?_
    refine sx_iload C dX7_breaks_233 5 rfl 235 rfl ?_
    refine sx_iald C dX7_breaks_235 (by decide) lyM_24 h.1 236 rfl ?_
    replace h := h.2
    refine sx_if_eq C dX7_breaks_236 282 239 (by decide) rfl (fun c27 => ?_) (fun c27 => ?_)
    · replace h := h.1 c27
      exact sx_sub [1, 2, 3, 4, 5, 6, 7, 8, 9, 0] rfl h
    · replace h := h.2 c27
      refine sx_iload C dX7_breaks_239 0 rfl 241 rfl ?_
      refine sx_aload_n C dX7_breaks_241 0 1 rfl rfl 242 rfl ?_
      refine sx_getq C (T := TX7) (C0 := RX7) (N := 34) (j := 27) dX7_breaks_242 fl_X7_80 inw_X7 rfl (by decide) rfl (by decide) lyM_0 rfl 245 rfl ?_
      refine sx_iload C dX7_breaks_245 5 rfl 247 rfl ?_
      refine sx_iald C dX7_breaks_247 (by decide) lyM_22 h.1 248 rfl ?_
      replace h := h.2
      refine sx_icmp_lt C dX7_breaks_248 282 251 (by decide) rfl (fun c28 => ?_) (fun c28 => ?_)
      · replace h := h.1 c28
        exact sx_sub [1, 2, 3, 4, 5, 6, 7, 8, 9, 0] rfl h
      · replace h := h.2 c28
        refine sx_iload C dX7_breaks_251 0 rfl 253 rfl ?_
        refine sx_aload_n C dX7_breaks_253 0 1 rfl rfl 254 rfl ?_
        refine sx_getq C (T := TX7) (C0 := RX7) (N := 34) (j := 27) dX7_breaks_254 fl_X7_80 inw_X7 rfl (by decide) rfl (by decide) lyM_0 rfl 257 rfl ?_
        refine sx_iload C dX7_breaks_257 5 rfl 259 rfl ?_
        refine sx_iald C dX7_breaks_259 (by decide) lyM_22 h.1 260 rfl ?_
        replace h := h.2
        refine sx_icmp_ne C dX7_breaks_260 286 263 (by decide) rfl (fun c29 => ?_) (fun c29 => ?_)
        · replace h := h.2 c29
          exact sx_sub [1, 2, 3, 4, 5, 6, 7, 8, 9, 0] rfl h
        · replace h := h.1 c29
          refine sx_aload_n C dX7_breaks_263 0 1 rfl rfl 264 rfl ?_
          refine sx_getq C (T := TX7) (C0 := RX7) (N := 34) (j := 28) dX7_breaks_264 fl_X7_83 inw_X7 rfl (by decide) rfl (by decide) lyM_0 rfl 267 rfl ?_
          refine sx_iload C dX7_breaks_267 9 rfl 269 rfl ?_
          refine sx_iald C dX7_breaks_269 (by decide) lyM_23 h.1 270 rfl ?_
          replace h := h.2
          refine sx_iconst C dX7_breaks_270 1 (by decide) 271 rfl ?_
          refine sx_iadd C dX7_breaks_271 272 rfl ?_
          refine sx_aload_n C dX7_breaks_272 0 1 rfl rfl 273 rfl ?_
          refine sx_getq C (T := TX7) (C0 := RX7) (N := 34) (j := 28) dX7_breaks_273 fl_X7_83 inw_X7 rfl (by decide) rfl (by decide) lyM_0 rfl 276 rfl ?_
          refine sx_iload C dX7_breaks_276 5 rfl 278 rfl ?_
          refine sx_iald C dX7_breaks_278 (by decide) lyM_23 h.1 279 rfl ?_
          replace h := h.2
          refine sx_icmp_ge C dX7_breaks_279 286 282 (by decide) rfl (fun c30 => ?_) (fun c30 => ?_)
          · replace h := h.1 c30
            exact sx_sub [1, 2, 3, 4, 5, 6, 7, 8, 9, 0] rfl h
          · replace h := h.2 c30
            exact sx_sub [1, 2, 3, 4, 5, 6, 7, 8, 9, 0] rfl h)
  replace h := h (by
    intro f v2 v3 v4 v5 v6 v7 v9 v10 h
    refine sx_iconst C dX7_breaks_282 1 (by decide) 283 rfl ?_
    refine sx_goto C dX7_breaks_283 287 (by decide) ?_
    exact sx_sub [0, 1, 2, 3, 4, 5, 6, 7, 8, 9] rfl h)
  replace h := h (by
    intro f v2 v3 v4 v5 v6 v7 v9 v10 h
    refine sx_iconst C dX7_breaks_286 0 (by decide) 287 rfl ?_
    exact sx_sub [0, 1, 2, 3, 4, 5, 6, 7, 8, 9] rfl h)
  replace h := h (by
    intro f v2 v3 v4 v5 v6 v7 v9 v10 s0 h
    refine sx_istore C dX7_breaks_287 [(11, .int s0), (0, .ref (b + 0)), (1, .int x1), (2, .int v2), (3, .int v3), (4, .int v4), (5, .int v5), (6, .int v6), (7, .int v7), (9, .int v9), (10, .int v10)] (by decide) rfl 289 rfl ?_
    refine sx_iload C dX7_breaks_289 8 rfl 291 rfl ?_
    refine sx_iconst C dX7_breaks_291 1 (by decide) 292 rfl ?_
    refine sx_icmp_eq C dX7_breaks_292 304 295 (by decide) rfl (fun c31 => ?_) (fun c31 => ?_)
    · replace h := h.1 c31
      exact sx_sub [1, 2, 3, 4, 5, 6, 7, 8, 9, 10, 0] rfl h
    · replace h := h.2 c31
      refine sx_iload C dX7_breaks_295 7 rfl 297 rfl ?_
      refine sx_aload_n C dX7_breaks_297 0 1 rfl rfl 298 rfl ?_
      refine sx_geti C (T := TX7) (C0 := RX7) (N := 34) (j := 6) dX7_breaks_298 fl_X7_25 inw_X7 rfl (by decide) rfl (by decide) lyM_0 rfl 301 rfl ?_
      refine sx_icmp_gt C dX7_breaks_301 343 304 (by decide) rfl (fun c32 => ?_) (fun c32 => ?_)
      · replace h := h.1 c32
        exact sx_sub [1, 2, 3, 4, 5, 6, 7, 8] rfl h
      · replace h := h.2 c32
        exact sx_sub [1, 2, 3, 4, 5, 6, 7, 8, 9, 10, 0] rfl h)
  replace h := h (by
    intro f v2 v3 v4 v5 v6 v7 v9 v10 v11 h
    refine sx_iload C dX7_breaks_304 10 rfl 306 rfl ?_
    refine sx_if_eq C dX7_breaks_306 343 309 (by decide) rfl (fun c33 => ?_) (fun c33 => ?_)
    · replace h := h.1 c33
      exact sx_sub [0, 1, 2, 3, 4, 5, 6, 7] rfl h
    · replace h := h.2 c33
      refine sx_aload_n C dX7_breaks_309 0 0 rfl rfl 310 rfl ?_
      refine sx_getq C (T := TX7) (C0 := RX7) (N := 34) (j := 29) dX7_breaks_310 fl_X7_86 inw_X7 rfl (by decide) rfl (by decide) lyM_0 rfl 313 rfl ?_
      refine sx_iload C dX7_breaks_313 4 rfl 315 rfl ?_
      refine sx_iload C dX7_breaks_315 7 rfl 317 rfl ?_
      refine sx_iast C dX7_breaks_317 hB (by decide) lyM_24 h.1 318 rfl (fun g34 eg34 => ?_)
      replace h := h.2 g34 eg34
      refine sx_aload_n C dX7_breaks_318 0 0 rfl rfl 319 rfl ?_
      refine sx_getq C (T := TX7) (C0 := RX7) (N := 34) (j := 27) dX7_breaks_319 fl_X7_80 inw_X7 rfl (by decide) rfl (by decide) lyM_0 rfl 322 rfl ?_
      refine sx_iload C dX7_breaks_322 4 rfl 324 rfl ?_
      refine sx_iload C dX7_breaks_324 9 rfl 326 rfl ?_
      refine sx_iast C dX7_breaks_326 hB (by decide) lyM_22 h.1 327 rfl (fun g35 eg35 => ?_)
      replace h := h.2 g35 eg35
      refine sx_aload_n C dX7_breaks_327 0 0 rfl rfl 328 rfl ?_
      refine sx_getq C (T := TX7) (C0 := RX7) (N := 34) (j := 28) dX7_breaks_328 fl_X7_83 inw_X7 rfl (by decide) rfl (by decide) lyM_0 rfl 331 rfl ?_
      refine sx_iload C dX7_breaks_331 4 rfl 333 rfl ?_
      refine sx_aload_n C dX7_breaks_333 0 0 rfl rfl 334 rfl ?_
      refine sx_getq C (T := TX7) (C0 := RX7) (N := 34) (j := 28) dX7_breaks_334 fl_X7_83 inw_X7 rfl (by decide) rfl (by decide) lyM_0 rfl 337 rfl ?_
      refine sx_iload C dX7_breaks_337 8 rfl 339 rfl ?_
      refine sx_iald C dX7_breaks_339 (by decide) lyM_23 h.1 340 rfl ?_
      replace h := h.2
      refine sx_iconst C dX7_breaks_340 1 (by decide) 341 rfl ?_
      refine sx_iadd C dX7_breaks_341 342 rfl ?_
      refine sx_iast C dX7_breaks_342 hB (by decide) lyM_23 h.1 343 rfl (fun g36 eg36 => ?_)
      replace h := h.2 g36 eg36
      exact sx_sub [0, 1, 2, 3, 4, 5, 6, 7] rfl h)
  replace h := h (by
    intro f v2 v3 v4 v5 v6 v7 h
    obtain ⟨y37, ey37⟩ : ∃ w : Int32, w = v7 + 1 := ⟨_, rfl⟩
    replace h := h y37 ey37
    refine sx_iinc C dX7_breaks_343 7 rfl y37 (by rw [ey37]; rfl) [(7, .int y37), (0, .ref (b + 0)), (1, .int x1), (2, .int v2), (3, .int v3), (4, .int v4), (5, .int v5), (6, .int v6)] (by decide) rfl 346 rfl ?_
    refine sx_goto C dX7_breaks_346 92 (by decide) ?_
    exact sx_sub [1, 2, 3, 4, 5, 6, 7, 0] rfl h)
  replace h := h (by
    intro f v2 h
    refine sx_iload_n C dX7_breaks_373 2 2 rfl rfl 374 rfl ?_
    refine sx_aload_n C dX7_breaks_374 0 0 rfl rfl 375 rfl ?_
    refine sx_geti C (T := TX7) (C0 := RX7) (N := 34) (j := 20) dX7_breaks_375 fl_X7_161 inw_X7 rfl (by decide) rfl (by decide) lyM_0 rfl 378 rfl ?_
    refine sx_icmp_ge C dX7_breaks_378 495 381 (by decide) rfl (fun c38 => ?_) (fun c38 => ?_)
    · replace h := h.1 c38
      exact sx_vret C dX7_breaks_495 hr (Nat.le_of_ble_eq_true rfl) (Nat.le_of_ble_eq_true rfl) ⟨rfl, h⟩
    · replace h := h.2 c38
      refine sx_aload_n C dX7_breaks_381 0 0 rfl rfl 382 rfl ?_
      refine sx_geti C (T := TX7) (C0 := RX7) (N := 34) (j := 31) dX7_breaks_382 fl_X7_190 inw_X7 rfl (by decide) rfl (by decide) lyM_0 rfl 385 rfl ?_
      refine sx_aload_n C dX7_breaks_385 0 0 rfl rfl 386 rfl ?_
      refine sx_geti C (T := TX7) (C0 := RX7) (N := 34) (j := 7) dX7_breaks_386 fl_X7_29 inw_X7 rfl (by decide) rfl (by decide) lyM_0 rfl 389 rfl ?_
      refine sx_irem C dX7_breaks_389 h.1 390 rfl ?_
      replace h := h.2
      refine sx_topi (fun y39 ey39 => ?_)
      replace h := h y39 ey39
      refine sx_istore_n C dX7_breaks_390 3 rfl [(3, .int y39), (0, .ref (b + 0)), (1, .int x1), (2, .int v2)] (by decide) rfl 391 rfl ?_
      refine sx_aload_n C dX7_breaks_391 0 1 rfl rfl 392 rfl ?_
      refine sx_getq C (T := TX7) (C0 := RX7) (N := 34) (j := 29) dX7_breaks_392 fl_X7_86 inw_X7 rfl (by decide) rfl (by decide) lyM_0 rfl 395 rfl ?_
      refine sx_bipush C dX7_breaks_395 6 (by decide) 397 rfl ?_
      refine sx_iload_n C dX7_breaks_397 2 3 rfl rfl 398 rfl ?_
      refine sx_imul C dX7_breaks_398 399 rfl ?_
      refine sx_iload_n C dX7_breaks_399 3 0 rfl rfl 400 rfl ?_
      refine sx_iadd C dX7_breaks_400 401 rfl ?_
      refine sx_iald C dX7_breaks_401 (by decide) lyM_24 h.1 402 rfl ?_
      replace h := h.2
      refine sx_topi (fun y40 ey40 => ?_)
      replace h := h y40 ey40
      refine sx_istore C dX7_breaks_402 [(4, .int y40), (3, .int y39), (0, .ref (b + 0)), (1, .int x1), (2, .int v2)] (by decide) rfl 404 rfl ?_
      refine sx_iload_n C dX7_breaks_404 2 4 rfl rfl 405 rfl ?_
      refine sx_istore C dX7_breaks_405 [(5, .int v2), (4, .int y40), (3, .int y39), (0, .ref (b + 0)), (1, .int x1), (2, .int v2)] (by decide) rfl 407 rfl ?_
      exact sx_sub [3, 4, 5, 2, 1, 0] rfl h)
  replace h := h (by
    intro f v2 v3 v4 v5 h
    refine sx_iload C dX7_breaks_407 5 rfl 409 rfl ?_
    refine sx_iload_n C dX7_breaks_409 2 2 rfl rfl 410 rfl ?_
    refine sx_iload C dX7_breaks_410 4 rfl 412 rfl ?_
    refine sx_iadd C dX7_breaks_412 413 rfl ?_
    refine sx_icmp_ge C dX7_breaks_413 433 416 (by decide) rfl (fun c41 => ?_) (fun c41 => ?_)
    · replace h := h.1 c41
      refine sx_iload_n C dX7_breaks_433 2 2 rfl rfl 434 rfl ?_
      refine sx_iload C dX7_breaks_434 4 rfl 436 rfl ?_
      refine sx_iadd C dX7_breaks_436 437 rfl ?_
      refine sx_topi (fun y42 ey42 => ?_)
      replace h := h y42 ey42
      refine sx_istore_n C dX7_breaks_437 2 rfl [(2, .int y42), (0, .ref (b + 0)), (1, .int x1), (3, .int v3), (4, .int v4), (5, .int v5)] (by decide) rfl 438 rfl ?_
      refine sx_aload_n C dX7_breaks_438 0 1 rfl rfl 439 rfl ?_
      refine sx_dup C dX7_breaks_439 rfl 440 rfl ?_
      refine sx_geti C (T := TX7) (C0 := RX7) (N := 34) (j := 31) dX7_breaks_440 fl_X7_190 inw_X7 rfl (by decide) rfl (by decide) lyM_0 rfl 443 rfl ?_
      refine sx_iconst C dX7_breaks_443 1 (by decide) 444 rfl ?_
      refine sx_iadd C dX7_breaks_444 445 rfl ?_
      refine sx_puti C (T := TX7) (C0 := RX7) (N := 34) (j := 31) dX7_breaks_445 fl_X7_190 inw_X7 rfl tyX7 tyX7_ok nmX7 (by decide) rfl rfl rfl hB (by decide) lyM_0 rfl 448 rfl (fun g43 eg43 => ?_)
      replace h := h g43 eg43
      refine sx_aload_n C dX7_breaks_448 0 1 rfl rfl 449 rfl ?_
      refine sx_dup C dX7_breaks_449 rfl 450 rfl ?_
      refine sx_geti C (T := TX7) (C0 := RX7) (N := 34) (j := 32) dX7_breaks_450 fl_X7_193 inw_X7 rfl (by decide) rfl (by decide) lyM_0 rfl 453 rfl ?_
      refine sx_iload_n C dX7_breaks_453 3 3 rfl rfl 454 rfl ?_
      refine sx_aload_n C dX7_breaks_454 0 1 rfl rfl 455 rfl ?_
      refine sx_geti C (T := TX7) (C0 := RX7) (N := 34) (j := 7) dX7_breaks_455 fl_X7_29 inw_X7 rfl (by decide) rfl (by decide) lyM_0 rfl 458 rfl ?_
      refine sx_iconst C dX7_breaks_458 1 (by decide) 459 rfl ?_
      refine sx_isub C dX7_breaks_459 460 rfl ?_
      refine sx_icmp_ne C dX7_breaks_460 487 463 (by decide) rfl (fun c44 => ?_) (fun c44 => ?_)
      · replace h := h.2 c44
        exact sx_sub [1, 2, 0] rfl h
      · replace h := h.1 c44
        refine sx_iload_n C dX7_breaks_463 2 0 rfl rfl 464 rfl ?_
        refine sx_aload_n C dX7_breaks_464 0 1 rfl rfl 465 rfl ?_
        refine sx_geti C (T := TX7) (C0 := RX7) (N := 34) (j := 20) dX7_breaks_465 fl_X7_161 inw_X7 rfl (by decide) rfl (by decide) lyM_0 rfl 468 rfl ?_
        refine sx_icmp_ge C dX7_breaks_468 487 471 (by decide) rfl (fun c45 => ?_) (fun c45 => ?_)
        · replace h := h.1 c45
          exact sx_sub [1, 2, 0] rfl h
        · replace h := h.2 c45
          refine sx_aload_n C dX7_breaks_471 0 1 rfl rfl 472 rfl ?_
          refine sx_iload_n C dX7_breaks_472 1 2 rfl rfl 473 rfl ?_
          refine sx_aload_n C dX7_breaks_473 0 1 rfl rfl 474 rfl ?_
          refine sx_getq C (T := TX7) (C0 := RX7) (N := 34) (j := 18) dX7_breaks_474 fl_X7_56 inw_X7 rfl (by decide) rfl (by decide) lyM_0 rfl 477 rfl ?_
          refine sx_iload_n C dX7_breaks_477 2 0 rfl rfl 478 rfl ?_
          refine sx_iconst C dX7_breaks_478 1 (by decide) 479 rfl ?_
          refine sx_isub C dX7_breaks_479 480 rfl ?_
          refine sx_iald C dX7_breaks_480 (by decide) lyM_14 h.1 481 rfl ?_
          replace h := h.2
          refine sx_callV C ht hB (st := [.int (g43 0 32), .ref (b + 0)]) dX7_breaks_481 (c_X7_turnCost hf h) mi_X7_turnCost lk_X7_187 mn_X7_turnCost ms_X7_turnCost (by decide) lyM_0 rfl rfl rfl rfl ⟨⟨(Nat.le_of_ble_eq_true rfl), (Nat.le_of_ble_eq_true rfl)⟩, (Nat.le_of_ble_eq_true rfl), (Nat.le_of_ble_eq_true rfl)⟩ (Nat.le_of_ble_eq_true rfl) ⟨(Nat.le_of_ble_eq_true rfl), (Nat.le_of_ble_eq_true rfl)⟩ (fun _ _ hx => hx.elim) 484 rfl (fun v g47 h => ?_)
          obtain ⟨⟨r46, rfl, h⟩, rfl⟩ := h
          refine sx_goto C dX7_breaks_484 488 (by decide) ?_
          exact sx_sub [1, 2, 0] rfl h
    · replace h := h.2 c41
      refine sx_aload_n C dX7_breaks_416 0 0 rfl rfl 417 rfl ?_
      refine sx_getq C (T := TX7) (C0 := RX7) (N := 34) (j := 30) dX7_breaks_417 fl_X7_89 inw_X7 rfl (by decide) rfl (by decide) lyM_0 rfl 420 rfl ?_
      refine sx_iload C dX7_breaks_420 5 rfl 422 rfl ?_
      refine sx_aload_n C dX7_breaks_422 0 0 rfl rfl 423 rfl ?_
      refine sx_geti C (T := TX7) (C0 := RX7) (N := 34) (j := 31) dX7_breaks_423 fl_X7_190 inw_X7 rfl (by decide) rfl (by decide) lyM_0 rfl 426 rfl ?_
      refine sx_iast C dX7_breaks_426 hB (by decide) lyM_25 h.1 427 rfl (fun g48 eg48 => ?_)
      replace h := h.2 g48 eg48
      obtain ⟨y49, ey49⟩ : ∃ w : Int32, w = v5 + 1 := ⟨_, rfl⟩
      replace h := h y49 ey49
      refine sx_iinc C dX7_breaks_427 5 rfl y49 (by rw [ey49]; rfl) [(5, .int y49), (0, .ref (b + 0)), (1, .int x1), (2, .int v2), (3, .int v3), (4, .int v4)] (by decide) rfl 430 rfl ?_
      refine sx_goto C dX7_breaks_430 407 (by decide) ?_
      exact sx_sub [1, 2, 3, 4, 5, 0] rfl h)
  replace h := h (by
    intro f v2 s1 h
    refine sx_iconst C dX7_breaks_487 0 (by decide) 488 rfl ?_
    exact sx_sub [0, 1, 2] rfl h)
  replace h := h (by
    intro f v2 s1 s2 h
    refine sx_iadd C dX7_breaks_488 489 rfl ?_
    refine sx_puti C (T := TX7) (C0 := RX7) (N := 34) (j := 32) dX7_breaks_489 fl_X7_193 inw_X7 rfl tyX7 tyX7_ok nmX7 (by decide) rfl rfl rfl hB (by decide) lyM_0 rfl 492 rfl (fun g50 eg50 => ?_)
    replace h := h g50 eg50
    refine sx_goto C dX7_breaks_492 373 (by decide) ?_
    exact sx_sub [0, 1, 2] rfl h)
  refine sx_sub (lv' := [(0, .ref (b + 0)), (1, .int x1)]) [0, 1] rfl ?_
  refine sx_iconst C dX7_breaks_0 0 (by decide) 1 rfl ?_
  refine sx_istore_n C dX7_breaks_1 2 rfl [(2, .int 0), (0, .ref (b + 0)), (1, .int x1)] (by decide) rfl 2 rfl ?_
  exact sx_sub [1, 2, 0] rfl h
set_option maxRecDepth 100000 in
set_option maxHeartbeats 4000000 in
theorem c_X7_lays {l : Launch} {D : va_G} {G : sx_G} {b : Nat} (hf : l.stackTraces = false) {f : sx_F} {x1 : Int32} {Q : sx_F → Prop}  (h : P_X7_lays f x1 Q) : sx_Met l D G b 26 lyM yX7_lays cX7_lays 2 (none) 5 118 0 0 [.ref (b + 0), .int x1] f (sx_qv Q) (fun _ _ => False) := by
  refine sx_enter (own := RX7) hf rfl rfl (Nat.le_of_ble_eq_true rfl) ?_
  intro p e s m args below meth c C hr ht
  have hB : ∀ k, k < 26 → sx_A b 26 s.heap.size (b + k) := fun k h => sx_A.in h
  unfold P_X7_lays at h
  refine sx_sub (lv' := [(0, .ref (b + 0)), (1, .int x1)]) [0, 1] rfl ?_
  refine sx_aload_n C dX7_lays_0 0 0 rfl rfl 1 rfl ?_
  refine sx_iload_n C dX7_lays_1 1 1 rfl rfl 2 rfl ?_
  refine sx_callV C ht hB (st := []) dX7_lays_2 (c_X7_laysItems hf h) mi_X7_laysItems lk_X7_196 mn_X7_laysItems ms_X7_laysItems (by decide) lyM_0 rfl rfl rfl rfl ⟨⟨(Nat.le_of_ble_eq_true rfl), (Nat.le_of_ble_eq_true rfl)⟩, (Nat.le_of_ble_eq_true rfl), (Nat.le_of_ble_eq_true rfl)⟩ (Nat.le_of_ble_eq_true rfl) ⟨(Nat.le_of_ble_eq_true rfl), (Nat.le_of_ble_eq_true rfl)⟩ (fun _ _ hx => hx.elim) 5 rfl (fun v g1 h => ?_)
  obtain ⟨rfl, h⟩ := h
  refine sx_aload_n C dX7_lays_5 0 0 rfl rfl 6 rfl ?_
  refine sx_callV C ht hB (st := []) dX7_lays_6 (c_X7_laysSprings hf h) mi_X7_laysSprings lk_X7_199 mn_X7_laysSprings ms_X7_laysSprings (by decide) lyM_0 rfl rfl rfl rfl ⟨⟨(Nat.le_of_ble_eq_true rfl), (Nat.le_of_ble_eq_true rfl)⟩, (Nat.le_of_ble_eq_true rfl), (Nat.le_of_ble_eq_true rfl)⟩ (Nat.le_of_ble_eq_true rfl) ⟨(Nat.le_of_ble_eq_true rfl), (Nat.le_of_ble_eq_true rfl)⟩ (fun _ _ hx => hx.elim) 9 rfl (fun v g2 h => ?_)
  obtain ⟨rfl, h⟩ := h
  refine sx_aload_n C dX7_lays_9 0 0 rfl rfl 10 rfl ?_
  refine sx_iload_n C dX7_lays_10 1 1 rfl rfl 11 rfl ?_
  refine sx_callV C ht hB (st := []) dX7_lays_11 (c_X7_breaks hf h) mi_X7_breaks lk_X7_202 mn_X7_breaks ms_X7_breaks (by decide) lyM_0 rfl rfl rfl rfl ⟨⟨(Nat.le_of_ble_eq_true rfl), (Nat.le_of_ble_eq_true rfl)⟩, (Nat.le_of_ble_eq_true rfl), (Nat.le_of_ble_eq_true rfl)⟩ (Nat.le_of_ble_eq_true rfl) ⟨(Nat.le_of_ble_eq_true rfl), (Nat.le_of_ble_eq_true rfl)⟩ (fun _ _ hx => hx.elim) 14 rfl (fun v g3 h => ?_)
  obtain ⟨rfl, h⟩ := h
  exact sx_vret C dX7_lays_14 hr (Nat.le_of_ble_eq_true rfl) (Nat.le_of_ble_eq_true rfl) ⟨rfl, h⟩
set_option maxRecDepth 100000 in
set_option maxHeartbeats 4000000 in
theorem c_X7_itemWith {l : Launch} {D : va_G} {G : sx_G} {b : Nat} (hf : l.stackTraces = false) {f : sx_F} {x1 : Int32} {Q : Int32 → Prop}  (h : P_X7_itemWith f x1 Q) : sx_Met l D G b 26 lyM yX7_itemWith cX7_itemWith 3 (some .int) 1 13 0 0 [.ref (b + 0), .int x1] f (sx_pi f Q) (fun _ _ => False) := by
  refine sx_enter (own := RX7) hf rfl rfl (Nat.le_of_ble_eq_true rfl) ?_
  intro p e s m args below meth c C hr ht
  have hB : ∀ k, k < 26 → sx_A b 26 s.heap.size (b + k) := fun k h => sx_A.in h
  unfold P_X7_itemWith at h
  replace h := h (fun (v2 : Int32) => sx_J (sx_wp D G b lyM 26) p l e { frames := 1, cells := 0, slots := 0, locals := 13 } s m args below meth c (sx_A b 26 s.heap.size) 3 0 0 (sx_fin (sx_wp D G b lyM 26) (sx_A b 26 s.heap.size) below args s 0 0 (sx_pi f Q) (fun _ _ => False)) f 2 [(0, .ref (b + 0)), (1, .int x1), (2, .int v2)] [])
  replace h := h (by
    intro v2 h
    refine sx_aload_n C dX7_itemWith_2 0 0 rfl rfl 3 rfl ?_
    refine sx_getq C (T := TX7) (C0 := RX7) (N := 34) (j := 18) dX7_itemWith_3 fl_X7_56 inw_X7 rfl (by decide) rfl (by decide) lyM_0 rfl 6 rfl ?_
    refine sx_iload_n C dX7_itemWith_6 2 2 rfl rfl 7 rfl ?_
    refine sx_iald C dX7_itemWith_7 (by decide) lyM_14 h.1 8 rfl ?_
    replace h := h.2
    refine sx_iload_n C dX7_itemWith_8 1 1 rfl rfl 9 rfl ?_
    refine sx_icmp_ge C dX7_itemWith_9 18 12 (by decide) rfl (fun c1 => ?_) (fun c1 => ?_)
    · replace h := h.1 c1
      refine sx_iload_n C dX7_itemWith_18 2 2 rfl rfl 19 rfl ?_
      exact sx_iret C dX7_itemWith_19 hr (Nat.le_of_ble_eq_true rfl) (Nat.le_of_ble_eq_true rfl) ⟨⟨_, rfl, h⟩, rfl⟩
    · replace h := h.2 c1
      obtain ⟨y2, ey2⟩ : ∃ w : Int32, w = v2 + 1 := ⟨_, rfl⟩
      replace h := h y2 ey2
      refine sx_iinc C dX7_itemWith_12 2 rfl y2 (by rw [ey2]; rfl) [(2, .int y2), (0, .ref (b + 0)), (1, .int x1)] (by decide) rfl 15 rfl ?_
      refine sx_goto C dX7_itemWith_15 2 (by decide) ?_
      exact sx_sub [1, 2, 0] rfl h)
  refine sx_sub (lv' := [(0, .ref (b + 0)), (1, .int x1)]) [0, 1] rfl ?_
  refine sx_iconst C dX7_itemWith_0 0 (by decide) 1 rfl ?_
  refine sx_istore_n C dX7_itemWith_1 2 rfl [(2, .int 0), (0, .ref (b + 0)), (1, .int x1)] (by decide) rfl 2 rfl ?_
  exact sx_sub [1, 2, 0] rfl h
set_option maxRecDepth 100000 in
set_option maxHeartbeats 4000000 in
theorem c_X7_items {l : Launch} {D : va_G} {G : sx_G} {b : Nat} (hf : l.stackTraces = false) {f : sx_F} {x1 : Int32} {Q : Int32 → sx_F → Prop}  (h : P_X7_items f x1 Q) : sx_Met l D G b 26 lyM yX7_items cX7_items 2 (some .int) 5 108 0 0 [.ref (b + 0), .int x1] f (sx_qi Q) (fun _ _ => False) := by
  refine sx_enter (own := RX7) hf rfl rfl (Nat.le_of_ble_eq_true rfl) ?_
  intro p e s m args below meth c C hr ht
  have hB : ∀ k, k < 26 → sx_A b 26 s.heap.size (b + k) := fun k h => sx_A.in h
  unfold P_X7_items at h
  refine sx_sub (lv' := [(0, .ref (b + 0)), (1, .int x1)]) [0, 1] rfl ?_
  refine sx_aload_n C dX7_items_0 0 0 rfl rfl 1 rfl ?_
  refine sx_iload_n C dX7_items_1 1 1 rfl rfl 2 rfl ?_
  refine sx_callS C ht hB (st := [.ref (b + 0)]) dX7_items_2 (c_X7_isBook hf h) mi_X7_isBook lk_X7_205 mt_X7_isBook rfl rfl ⟨⟨(Nat.le_of_ble_eq_true rfl), (Nat.le_of_ble_eq_true rfl)⟩, (Nat.le_of_ble_eq_true rfl), (Nat.le_of_ble_eq_true rfl)⟩ (Nat.le_of_ble_eq_true rfl) ⟨(Nat.le_of_ble_eq_true rfl), (Nat.le_of_ble_eq_true rfl)⟩ (fun _ _ hx => hx.elim) 5 rfl (fun v g2 h => ?_)
  obtain ⟨⟨r1, rfl, h⟩, rfl⟩ := h
  refine sx_iconst C dX7_items_5 1 (by decide) 6 rfl ?_
  refine sx_iconst C dX7_items_6 1 (by decide) 7 rfl ?_
  refine sx_callV C ht hB (st := []) dX7_items_7 (c_X7_goes hf h) mi_X7_goes lk_X7_105 mn_X7_goes ms_X7_goes (by decide) lyM_0 rfl rfl rfl rfl ⟨⟨(Nat.le_of_ble_eq_true rfl), (Nat.le_of_ble_eq_true rfl)⟩, (Nat.le_of_ble_eq_true rfl), (Nat.le_of_ble_eq_true rfl)⟩ (Nat.le_of_ble_eq_true rfl) ⟨(Nat.le_of_ble_eq_true rfl), (Nat.le_of_ble_eq_true rfl)⟩ (fun _ _ hx => hx.elim) 10 rfl (fun v g3 h => ?_)
  obtain ⟨r4, rfl, h⟩ := h
  refine sx_if_ne C dX7_items_10 15 13 (by decide) rfl (fun c5 => ?_) (fun c5 => ?_)
  · replace h := h.2 c5
    refine sx_aload_n C dX7_items_15 0 0 rfl rfl 16 rfl ?_
    refine sx_iload_n C dX7_items_16 1 1 rfl rfl 17 rfl ?_
    refine sx_callV C ht hB (st := []) dX7_items_17 (c_X7_laysItems hf h) mi_X7_laysItems lk_X7_196 mn_X7_laysItems ms_X7_laysItems (by decide) lyM_0 rfl rfl rfl rfl ⟨⟨(Nat.le_of_ble_eq_true rfl), (Nat.le_of_ble_eq_true rfl)⟩, (Nat.le_of_ble_eq_true rfl), (Nat.le_of_ble_eq_true rfl)⟩ (Nat.le_of_ble_eq_true rfl) ⟨(Nat.le_of_ble_eq_true rfl), (Nat.le_of_ble_eq_true rfl)⟩ (fun _ _ hx => hx.elim) 20 rfl (fun v g6 h => ?_)
    obtain ⟨rfl, h⟩ := h
    refine sx_aload_n C dX7_items_20 0 0 rfl rfl 21 rfl ?_
    refine sx_geti C (T := TX7) (C0 := RX7) (N := 34) (j := 20) dX7_items_21 fl_X7_161 inw_X7 rfl (by decide) rfl (by decide) lyM_0 rfl 24 rfl ?_
    exact sx_iret C dX7_items_24 hr (Nat.le_of_ble_eq_true rfl) (Nat.le_of_ble_eq_true rfl) ⟨_, rfl, h⟩
  · replace h := h.1 c5
    refine sx_iconst C dX7_items_13 0 (by decide) 14 rfl ?_
    exact sx_iret C dX7_items_14 hr (Nat.le_of_ble_eq_true rfl) (Nat.le_of_ble_eq_true rfl) ⟨_, rfl, h⟩
set_option maxRecDepth 100000 in
set_option maxHeartbeats 4000000 in
theorem c_X7_itemOf {l : Launch} {D : va_G} {G : sx_G} {b : Nat} (hf : l.stackTraces = false) {f : sx_F} {x1 : Int32} {x2 : Int32} {Q : Int32 → sx_F → Prop}  (h : P_X7_itemOf f x1 x2 Q) : sx_Met l D G b 26 lyM yX7_itemOf cX7_itemOf 3 (some .int) 5 108 0 0 [.ref (b + 0), .int x1, .int x2] f (sx_qi Q) (fun _ _ => False) := by
  refine sx_enter (own := RX7) hf rfl rfl (Nat.le_of_ble_eq_true rfl) ?_
  intro p e s m args below meth c C hr ht
  have hB : ∀ k, k < 26 → sx_A b 26 s.heap.size (b + k) := fun k h => sx_A.in h
  unfold P_X7_itemOf at h
  replace h := h (fun (f : sx_F) => sx_J (sx_wp D G b lyM 26) p l e { frames := 5, cells := 0, slots := 0, locals := 108 } s m args below meth c (sx_A b 26 s.heap.size) 3 0 0 (sx_fin (sx_wp D G b lyM 26) (sx_A b 26 s.heap.size) below args s 0 0 (sx_qi Q) (fun _ _ => False)) f 20 [(0, .ref (b + 0)), (1, .int x1), (2, .int x2)] [.ref (b + 0)])
  replace h := h (fun (f : sx_F) (s1 : Int32) => sx_J (sx_wp D G b lyM 26) p l e { frames := 5, cells := 0, slots := 0, locals := 108 } s m args below meth c (sx_A b 26 s.heap.size) 3 0 0 (sx_fin (sx_wp D G b lyM 26) (sx_A b 26 s.heap.size) below args s 0 0 (sx_qi Q) (fun _ _ => False)) f 21 [(0, .ref (b + 0)), (1, .int x1), (2, .int x2)] [.int s1, .ref (b + 0)])
  replace h := h (by
    intro f h
    refine sx_iconst C dX7_itemOf_20 0 (by decide) 21 rfl ?_
    exact sx_sub [0, 1, 2] rfl h)
  replace h := h (by
    intro f s1 h
    refine sx_iconst C dX7_itemOf_21 1 (by decide) 22 rfl ?_
    refine sx_iconst C dX7_itemOf_22 1 (by decide) 23 rfl ?_
    refine sx_callV C ht hB (st := []) dX7_itemOf_23 (c_X7_goes hf h) mi_X7_goes lk_X7_105 mn_X7_goes ms_X7_goes (by decide) lyM_0 rfl rfl rfl rfl ⟨⟨(Nat.le_of_ble_eq_true rfl), (Nat.le_of_ble_eq_true rfl)⟩, (Nat.le_of_ble_eq_true rfl), (Nat.le_of_ble_eq_true rfl)⟩ (Nat.le_of_ble_eq_true rfl) ⟨(Nat.le_of_ble_eq_true rfl), (Nat.le_of_ble_eq_true rfl)⟩ (fun _ _ hx => hx.elim) 26 rfl (fun v g1 h => ?_)
    obtain ⟨r2, rfl, h⟩ := h
    refine sx_if_ne C dX7_itemOf_26 31 29 (by decide) rfl (fun c3 => ?_) (fun c3 => ?_)
    · replace h := h.2 c3
      refine sx_aload_n C dX7_itemOf_31 0 0 rfl rfl 32 rfl ?_
      refine sx_iload_n C dX7_itemOf_32 1 1 rfl rfl 33 rfl ?_
      refine sx_callV C ht hB (st := []) dX7_itemOf_33 (c_X7_laysItems hf h) mi_X7_laysItems lk_X7_196 mn_X7_laysItems ms_X7_laysItems (by decide) lyM_0 rfl rfl rfl rfl ⟨⟨(Nat.le_of_ble_eq_true rfl), (Nat.le_of_ble_eq_true rfl)⟩, (Nat.le_of_ble_eq_true rfl), (Nat.le_of_ble_eq_true rfl)⟩ (Nat.le_of_ble_eq_true rfl) ⟨(Nat.le_of_ble_eq_true rfl), (Nat.le_of_ble_eq_true rfl)⟩ (fun _ _ hx => hx.elim) 36 rfl (fun v g4 h => ?_)
      obtain ⟨rfl, h⟩ := h
      refine sx_aload_n C dX7_itemOf_36 0 0 rfl rfl 37 rfl ?_
      refine sx_iload_n C dX7_itemOf_37 2 2 rfl rfl 38 rfl ?_
      refine sx_callV C ht hB (st := []) dX7_itemOf_38 (c_X7_itemWith hf h) mi_X7_itemWith lk_X7_208 mn_X7_itemWith ms_X7_itemWith (by decide) lyM_0 rfl rfl rfl rfl ⟨⟨(Nat.le_of_ble_eq_true rfl), (Nat.le_of_ble_eq_true rfl)⟩, (Nat.le_of_ble_eq_true rfl), (Nat.le_of_ble_eq_true rfl)⟩ (Nat.le_of_ble_eq_true rfl) ⟨(Nat.le_of_ble_eq_true rfl), (Nat.le_of_ble_eq_true rfl)⟩ (fun _ _ hx => hx.elim) 41 rfl (fun v g6 h => ?_)
      obtain ⟨⟨r5, rfl, h⟩, rfl⟩ := h
      exact sx_iret C dX7_itemOf_41 hr (Nat.le_of_ble_eq_true rfl) (Nat.le_of_ble_eq_true rfl) ⟨_, rfl, h⟩
    · replace h := h.1 c3
      refine sx_iconst C dX7_itemOf_29 0 (by decide) 30 rfl ?_
      exact sx_iret C dX7_itemOf_30 hr (Nat.le_of_ble_eq_true rfl) (Nat.le_of_ble_eq_true rfl) ⟨_, rfl, h⟩)
  refine sx_sub (lv' := [(0, .ref (b + 0)), (1, .int x1), (2, .int x2)]) [0, 1, 2] rfl ?_
  refine sx_aload_n C dX7_itemOf_0 0 0 rfl rfl 1 rfl ?_
  refine sx_iload_n C dX7_itemOf_1 1 1 rfl rfl 2 rfl ?_
  refine sx_callS C ht hB (st := [.ref (b + 0)]) dX7_itemOf_2 (c_X7_isBook hf h) mi_X7_isBook lk_X7_205 mt_X7_isBook rfl rfl ⟨⟨(Nat.le_of_ble_eq_true rfl), (Nat.le_of_ble_eq_true rfl)⟩, (Nat.le_of_ble_eq_true rfl), (Nat.le_of_ble_eq_true rfl)⟩ (Nat.le_of_ble_eq_true rfl) ⟨(Nat.le_of_ble_eq_true rfl), (Nat.le_of_ble_eq_true rfl)⟩ (fun _ _ hx => hx.elim) 5 rfl (fun v g8 h => ?_)
  obtain ⟨⟨r7, rfl, h⟩, rfl⟩ := h
  refine sx_if_eq C dX7_itemOf_5 20 8 (by decide) rfl (fun c9 => ?_) (fun c9 => ?_)
  · replace h := h.1 c9
    exact sx_sub [0, 1, 2] rfl h
  · replace h := h.2 c9
    refine sx_aload_n C dX7_itemOf_8 0 0 rfl rfl 9 rfl ?_
    refine sx_iload_n C dX7_itemOf_9 2 2 rfl rfl 10 rfl ?_
    refine sx_callV C ht hB (st := [.ref (b + 0)]) dX7_itemOf_10 (c_X7_isBar hf h) mi_X7_isBar lk_X7_113 mn_X7_isBar ms_X7_isBar (by decide) lyM_0 rfl rfl rfl rfl ⟨⟨(Nat.le_of_ble_eq_true rfl), (Nat.le_of_ble_eq_true rfl)⟩, (Nat.le_of_ble_eq_true rfl), (Nat.le_of_ble_eq_true rfl)⟩ (Nat.le_of_ble_eq_true rfl) ⟨(Nat.le_of_ble_eq_true rfl), (Nat.le_of_ble_eq_true rfl)⟩ (fun _ _ hx => hx.elim) 13 rfl (fun v g11 h => ?_)
    obtain ⟨⟨r10, rfl, h⟩, rfl⟩ := h
    refine sx_if_eq C dX7_itemOf_13 20 16 (by decide) rfl (fun c12 => ?_) (fun c12 => ?_)
    · replace h := h.1 c12
      exact sx_sub [0, 1, 2] rfl h
    · replace h := h.2 c12
      refine sx_iconst C dX7_itemOf_16 1 (by decide) 17 rfl ?_
      refine sx_goto C dX7_itemOf_17 21 (by decide) ?_
      exact sx_sub [0, 1, 2] rfl h
set_option maxRecDepth 100000 in
set_option maxHeartbeats 4000000 in
theorem c_X7_cue {l : Launch} {D : va_G} {G : sx_G} {b : Nat} (hf : l.stackTraces = false) {f : sx_F} {x1 : Int32} {x2 : Int32} {Q : Int32 → sx_F → Prop}  (h : P_X7_cue f x1 x2 Q) : sx_Met l D G b 26 lyM yX7_cue cX7_cue 4 (some .int) 5 108 0 0 [.ref (b + 0), .int x1, .int x2] f (sx_qi Q) (fun _ _ => False) := by
  refine sx_enter (own := RX7) hf rfl rfl (Nat.le_of_ble_eq_true rfl) ?_
  intro p e s m args below meth c C hr ht
  have hB : ∀ k, k < 26 → sx_A b 26 s.heap.size (b + k) := fun k h => sx_A.in h
  unfold P_X7_cue at h
  replace h := h (fun (f : sx_F) => sx_J (sx_wp D G b lyM 26) p l e { frames := 5, cells := 0, slots := 0, locals := 108 } s m args below meth c (sx_A b 26 s.heap.size) 4 0 0 (sx_fin (sx_wp D G b lyM 26) (sx_A b 26 s.heap.size) below args s 0 0 (sx_qi Q) (fun _ _ => False)) f 20 [(0, .ref (b + 0)), (1, .int x1), (2, .int x2)] [.ref (b + 0)])
  replace h := h (fun (f : sx_F) (s1 : Int32) => sx_J (sx_wp D G b lyM 26) p l e { frames := 5, cells := 0, slots := 0, locals := 108 } s m args below meth c (sx_A b 26 s.heap.size) 4 0 0 (sx_fin (sx_wp D G b lyM 26) (sx_A b 26 s.heap.size) below args s 0 0 (sx_qi Q) (fun _ _ => False)) f 21 [(0, .ref (b + 0)), (1, .int x1), (2, .int x2)] [.int s1, .ref (b + 0)])
  replace h := h (by
    intro f h
    refine sx_iconst C dX7_cue_20 0 (by decide) 21 rfl ?_
    exact sx_sub [0, 1, 2] rfl h)
  replace h := h (by
    intro f s1 h
    refine sx_iconst C dX7_cue_21 1 (by decide) 22 rfl ?_
    refine sx_iconst C dX7_cue_22 1 (by decide) 23 rfl ?_
    refine sx_callV C ht hB (st := []) dX7_cue_23 (c_X7_goes hf h) mi_X7_goes lk_X7_105 mn_X7_goes ms_X7_goes (by decide) lyM_0 rfl rfl rfl rfl ⟨⟨(Nat.le_of_ble_eq_true rfl), (Nat.le_of_ble_eq_true rfl)⟩, (Nat.le_of_ble_eq_true rfl), (Nat.le_of_ble_eq_true rfl)⟩ (Nat.le_of_ble_eq_true rfl) ⟨(Nat.le_of_ble_eq_true rfl), (Nat.le_of_ble_eq_true rfl)⟩ (fun _ _ hx => hx.elim) 26 rfl (fun v g1 h => ?_)
    obtain ⟨r2, rfl, h⟩ := h
    refine sx_if_ne C dX7_cue_26 31 29 (by decide) rfl (fun c3 => ?_) (fun c3 => ?_)
    · replace h := h.2 c3
      refine sx_aload_n C dX7_cue_31 0 0 rfl rfl 32 rfl ?_
      refine sx_iload_n C dX7_cue_32 1 1 rfl rfl 33 rfl ?_
      refine sx_callV C ht hB (st := []) dX7_cue_33 (c_X7_laysItems hf h) mi_X7_laysItems lk_X7_196 mn_X7_laysItems ms_X7_laysItems (by decide) lyM_0 rfl rfl rfl rfl ⟨⟨(Nat.le_of_ble_eq_true rfl), (Nat.le_of_ble_eq_true rfl)⟩, (Nat.le_of_ble_eq_true rfl), (Nat.le_of_ble_eq_true rfl)⟩ (Nat.le_of_ble_eq_true rfl) ⟨(Nat.le_of_ble_eq_true rfl), (Nat.le_of_ble_eq_true rfl)⟩ (fun _ _ hx => hx.elim) 36 rfl (fun v g4 h => ?_)
      obtain ⟨rfl, h⟩ := h
      refine sx_aload_n C dX7_cue_36 0 0 rfl rfl 37 rfl ?_
      refine sx_getq C (T := TX7) (C0 := RX7) (N := 34) (j := 19) dX7_cue_37 fl_X7_59 inw_X7 rfl (by decide) rfl (by decide) lyM_0 rfl 40 rfl ?_
      refine sx_aload_n C dX7_cue_40 0 0 rfl rfl 41 rfl ?_
      refine sx_iload_n C dX7_cue_41 2 2 rfl rfl 42 rfl ?_
      refine sx_callV C ht hB (st := [.ref (b + 15)]) dX7_cue_42 (c_X7_itemWith hf h) mi_X7_itemWith lk_X7_208 mn_X7_itemWith ms_X7_itemWith (by decide) lyM_0 rfl rfl rfl rfl ⟨⟨(Nat.le_of_ble_eq_true rfl), (Nat.le_of_ble_eq_true rfl)⟩, (Nat.le_of_ble_eq_true rfl), (Nat.le_of_ble_eq_true rfl)⟩ (Nat.le_of_ble_eq_true rfl) ⟨(Nat.le_of_ble_eq_true rfl), (Nat.le_of_ble_eq_true rfl)⟩ (fun _ _ hx => hx.elim) 45 rfl (fun v g6 h => ?_)
      obtain ⟨⟨r5, rfl, h⟩, rfl⟩ := h
      refine sx_iald C dX7_cue_45 (by decide) lyM_15 h.1 46 rfl ?_
      replace h := h.2
      refine sx_topi (fun y7 ey7 => ?_)
      replace h := h y7 ey7
      refine sx_istore_n C dX7_cue_46 3 rfl [(3, .int y7), (0, .ref (b + 0)), (1, .int x1), (2, .int x2)] (by decide) rfl 47 rfl ?_
      refine sx_iload_n C dX7_cue_47 3 0 rfl rfl 48 rfl ?_
      refine sx_iload_n C dX7_cue_48 1 2 rfl rfl 49 rfl ?_
      refine sx_icmp_ne C dX7_cue_49 56 52 (by decide) rfl (fun c8 => ?_) (fun c8 => ?_)
      · replace h := h.2 c8
        refine sx_iload_n C dX7_cue_56 3 0 rfl rfl 57 rfl ?_
        exact sx_iret C dX7_cue_57 hr (Nat.le_of_ble_eq_true rfl) (Nat.le_of_ble_eq_true rfl) ⟨_, rfl, h⟩
      · replace h := h.1 c8
        refine sx_iconst C dX7_cue_52 (-1) (by decide) 53 rfl ?_
        refine sx_goto C dX7_cue_53 57 (by decide) ?_
        exact sx_iret C dX7_cue_57 hr (Nat.le_of_ble_eq_true rfl) (Nat.le_of_ble_eq_true rfl) ⟨_, rfl, h⟩
    · replace h := h.1 c3
      refine sx_iconst C dX7_cue_29 0 (by decide) 30 rfl ?_
      exact sx_iret C dX7_cue_30 hr (Nat.le_of_ble_eq_true rfl) (Nat.le_of_ble_eq_true rfl) ⟨_, rfl, h⟩)
  refine sx_sub (lv' := [(0, .ref (b + 0)), (1, .int x1), (2, .int x2)]) [0, 1, 2] rfl ?_
  refine sx_aload_n C dX7_cue_0 0 0 rfl rfl 1 rfl ?_
  refine sx_iload_n C dX7_cue_1 1 1 rfl rfl 2 rfl ?_
  refine sx_callS C ht hB (st := [.ref (b + 0)]) dX7_cue_2 (c_X7_isInstrument hf h) mi_X7_isInstrument lk_X7_109 mt_X7_isInstrument rfl rfl ⟨⟨(Nat.le_of_ble_eq_true rfl), (Nat.le_of_ble_eq_true rfl)⟩, (Nat.le_of_ble_eq_true rfl), (Nat.le_of_ble_eq_true rfl)⟩ (Nat.le_of_ble_eq_true rfl) ⟨(Nat.le_of_ble_eq_true rfl), (Nat.le_of_ble_eq_true rfl)⟩ (fun _ _ hx => hx.elim) 5 rfl (fun v g10 h => ?_)
  obtain ⟨⟨r9, rfl, h⟩, rfl⟩ := h
  refine sx_if_eq C dX7_cue_5 20 8 (by decide) rfl (fun c11 => ?_) (fun c11 => ?_)
  · replace h := h.1 c11
    exact sx_sub [0, 1, 2] rfl h
  · replace h := h.2 c11
    refine sx_aload_n C dX7_cue_8 0 0 rfl rfl 9 rfl ?_
    refine sx_iload_n C dX7_cue_9 2 2 rfl rfl 10 rfl ?_
    refine sx_callV C ht hB (st := [.ref (b + 0)]) dX7_cue_10 (c_X7_isBar hf h) mi_X7_isBar lk_X7_113 mn_X7_isBar ms_X7_isBar (by decide) lyM_0 rfl rfl rfl rfl ⟨⟨(Nat.le_of_ble_eq_true rfl), (Nat.le_of_ble_eq_true rfl)⟩, (Nat.le_of_ble_eq_true rfl), (Nat.le_of_ble_eq_true rfl)⟩ (Nat.le_of_ble_eq_true rfl) ⟨(Nat.le_of_ble_eq_true rfl), (Nat.le_of_ble_eq_true rfl)⟩ (fun _ _ hx => hx.elim) 13 rfl (fun v g13 h => ?_)
    obtain ⟨⟨r12, rfl, h⟩, rfl⟩ := h
    refine sx_if_eq C dX7_cue_13 20 16 (by decide) rfl (fun c14 => ?_) (fun c14 => ?_)
    · replace h := h.1 c14
      exact sx_sub [0, 1, 2] rfl h
    · replace h := h.2 c14
      refine sx_iconst C dX7_cue_16 1 (by decide) 17 rfl ?_
      refine sx_goto C dX7_cue_17 21 (by decide) ?_
      exact sx_sub [0, 1, 2] rfl h
set_option maxRecDepth 100000 in
set_option maxHeartbeats 4000000 in
theorem c_X7_width {l : Launch} {D : va_G} {G : sx_G} {b : Nat} (hf : l.stackTraces = false) {f : sx_F} {x1 : Int32} {x2 : Int32} {Q : Int32 → sx_F → Prop}  (h : P_X7_width f x1 x2 Q) : sx_Met l D G b 26 lyM yX7_width cX7_width 4 (some .int) 6 139 0 0 [.ref (b + 0), .int x1, .int x2] f (sx_qi Q) (fun _ _ => False) := by
  refine sx_enter (own := RX7) hf rfl rfl (Nat.le_of_ble_eq_true rfl) ?_
  intro p e s m args below meth c C hr ht
  have hB : ∀ k, k < 26 → sx_A b 26 s.heap.size (b + k) := fun k h => sx_A.in h
  unfold P_X7_width at h
  replace h := h (fun (f : sx_F) (v3 : Int32) => sx_J (sx_wp D G b lyM 26) p l e { frames := 6, cells := 0, slots := 0, locals := 139 } s m args below meth c (sx_A b 26 s.heap.size) 4 0 0 (sx_fin (sx_wp D G b lyM 26) (sx_A b 26 s.heap.size) below args s 0 0 (sx_qi Q) (fun _ _ => False)) f 14 [(0, .ref (b + 0)), (2, .int x2), (3, .int v3)] [])
  replace h := h (fun (f : sx_F) => sx_J (sx_wp D G b lyM 26) p l e { frames := 6, cells := 0, slots := 0, locals := 139 } s m args below meth c (sx_A b 26 s.heap.size) 4 0 0 (sx_fin (sx_wp D G b lyM 26) (sx_A b 26 s.heap.size) below args s 0 0 (sx_qi Q) (fun _ _ => False)) f 37 [(0, .ref (b + 0)), (2, .int x2)] [.ref (b + 0)])
  replace h := h (fun (f : sx_F) (s1 : Int32) => sx_J (sx_wp D G b lyM 26) p l e { frames := 6, cells := 0, slots := 0, locals := 139 } s m args below meth c (sx_A b 26 s.heap.size) 4 0 0 (sx_fin (sx_wp D G b lyM 26) (sx_A b 26 s.heap.size) below args s 0 0 (sx_qi Q) (fun _ _ => False)) f 38 [(0, .ref (b + 0)), (2, .int x2)] [.int s1, .ref (b + 0)])
  replace h := h (by
    intro f v3 h
    refine sx_aload_n C dX7_width_14 0 0 rfl rfl 15 rfl ?_
    refine sx_iload_n C dX7_width_15 3 2 rfl rfl 16 rfl ?_
    refine sx_if_eq C dX7_width_16 37 19 (by decide) rfl (fun c1 => ?_) (fun c1 => ?_)
    · replace h := h.1 c1
      exact sx_sub [0, 1] rfl h
    · replace h := h.2 c1
      refine sx_iload_n C dX7_width_19 2 1 rfl rfl 20 rfl ?_
      refine sx_iconst C dX7_width_20 0 (by decide) 21 rfl ?_
      refine sx_aload_n C dX7_width_21 0 0 rfl rfl 22 rfl ?_
      refine sx_geti C (T := TX7) (C0 := RX7) (N := 34) (j := 20) dX7_width_22 fl_X7_161 inw_X7 rfl (by decide) rfl (by decide) lyM_0 rfl 25 rfl ?_
      refine sx_iconst C dX7_width_25 1 (by decide) 26 rfl ?_
      refine sx_isub C dX7_width_26 27 rfl ?_
      refine sx_callS C ht hB (st := [.ref (b + 0)]) dX7_width_27 (c_X7_in hf h) mi_X7_in lk_X7_95 mt_X7_in rfl rfl ⟨⟨(Nat.le_of_ble_eq_true rfl), (Nat.le_of_ble_eq_true rfl)⟩, (Nat.le_of_ble_eq_true rfl), (Nat.le_of_ble_eq_true rfl)⟩ (Nat.le_of_ble_eq_true rfl) ⟨(Nat.le_of_ble_eq_true rfl), (Nat.le_of_ble_eq_true rfl)⟩ (fun _ _ hx => hx.elim) 30 rfl (fun v g3 h => ?_)
      obtain ⟨⟨r2, rfl, h⟩, rfl⟩ := h
      refine sx_if_eq C dX7_width_30 37 33 (by decide) rfl (fun c4 => ?_) (fun c4 => ?_)
      · replace h := h.1 c4
        exact sx_sub [0, 1] rfl h
      · replace h := h.2 c4
        refine sx_iconst C dX7_width_33 1 (by decide) 34 rfl ?_
        refine sx_goto C dX7_width_34 38 (by decide) ?_
        exact sx_sub [0, 1] rfl h)
  replace h := h (by
    intro f h
    refine sx_iconst C dX7_width_37 0 (by decide) 38 rfl ?_
    exact sx_sub [0, 1] rfl h)
  replace h := h (by
    intro f s1 h
    refine sx_iconst C dX7_width_38 1 (by decide) 39 rfl ?_
    refine sx_iconst C dX7_width_39 1 (by decide) 40 rfl ?_
    refine sx_callV C ht hB (st := []) dX7_width_40 (c_X7_goes hf h) mi_X7_goes lk_X7_105 mn_X7_goes ms_X7_goes (by decide) lyM_0 rfl rfl rfl rfl ⟨⟨(Nat.le_of_ble_eq_true rfl), (Nat.le_of_ble_eq_true rfl)⟩, (Nat.le_of_ble_eq_true rfl), (Nat.le_of_ble_eq_true rfl)⟩ (Nat.le_of_ble_eq_true rfl) ⟨(Nat.le_of_ble_eq_true rfl), (Nat.le_of_ble_eq_true rfl)⟩ (fun _ _ hx => hx.elim) 43 rfl (fun v g5 h => ?_)
    obtain ⟨r6, rfl, h⟩ := h
    refine sx_if_eq C dX7_width_43 55 46 (by decide) rfl (fun c7 => ?_) (fun c7 => ?_)
    · replace h := h.1 c7
      refine sx_iconst C dX7_width_55 0 (by decide) 56 rfl ?_
      exact sx_iret C dX7_width_56 hr (Nat.le_of_ble_eq_true rfl) (Nat.le_of_ble_eq_true rfl) ⟨_, rfl, h⟩
    · replace h := h.2 c7
      refine sx_aload_n C dX7_width_46 0 0 rfl rfl 47 rfl ?_
      refine sx_getq C (T := TX7) (C0 := RX7) (N := 34) (j := 25) dX7_width_47 fl_X7_74 inw_X7 rfl (by decide) rfl (by decide) lyM_0 rfl 50 rfl ?_
      refine sx_iload_n C dX7_width_50 2 1 rfl rfl 51 rfl ?_
      refine sx_iald C dX7_width_51 (by decide) lyM_20 h.1 52 rfl ?_
      replace h := h.2
      refine sx_goto C dX7_width_52 56 (by decide) ?_
      exact sx_iret C dX7_width_56 hr (Nat.le_of_ble_eq_true rfl) (Nat.le_of_ble_eq_true rfl) ⟨_, rfl, h⟩)
  refine sx_sub (lv' := [(0, .ref (b + 0)), (1, .int x1), (2, .int x2)]) [0, 1, 2] rfl ?_
  refine sx_iload_n C dX7_width_0 1 1 rfl rfl 1 rfl ?_
  refine sx_callS C ht hB (st := []) dX7_width_1 (c_X7_isBook hf h) mi_X7_isBook lk_X7_205 mt_X7_isBook rfl rfl ⟨⟨(Nat.le_of_ble_eq_true rfl), (Nat.le_of_ble_eq_true rfl)⟩, (Nat.le_of_ble_eq_true rfl), (Nat.le_of_ble_eq_true rfl)⟩ (Nat.le_of_ble_eq_true rfl) ⟨(Nat.le_of_ble_eq_true rfl), (Nat.le_of_ble_eq_true rfl)⟩ (fun _ _ hx => hx.elim) 4 rfl (fun v g9 h => ?_)
  obtain ⟨⟨r8, rfl, h⟩, rfl⟩ := h
  refine sx_istore_n C dX7_width_4 3 rfl [(3, .int r8), (0, .ref (b + 0)), (1, .int x1), (2, .int x2)] (by decide) rfl 5 rfl ?_
  refine sx_iload_n C dX7_width_5 3 0 rfl rfl 6 rfl ?_
  refine sx_if_eq C dX7_width_6 14 9 (by decide) rfl (fun c10 => ?_) (fun c10 => ?_)
  · replace h := h.1 c10
    exact sx_sub [1, 3, 0] rfl h
  · replace h := h.2 c10
    refine sx_aload_n C dX7_width_9 0 1 rfl rfl 10 rfl ?_
    refine sx_iload_n C dX7_width_10 1 2 rfl rfl 11 rfl ?_
    refine sx_callV C ht hB (st := []) dX7_width_11 (c_X7_lays hf h) mi_X7_lays lk_X7_211 mn_X7_lays ms_X7_lays (by decide) lyM_0 rfl rfl rfl rfl ⟨⟨(Nat.le_of_ble_eq_true rfl), (Nat.le_of_ble_eq_true rfl)⟩, (Nat.le_of_ble_eq_true rfl), (Nat.le_of_ble_eq_true rfl)⟩ (Nat.le_of_ble_eq_true rfl) ⟨(Nat.le_of_ble_eq_true rfl), (Nat.le_of_ble_eq_true rfl)⟩ (fun _ _ hx => hx.elim) 14 rfl (fun v g11 h => ?_)
    obtain ⟨rfl, h⟩ := h
    exact sx_sub [1, 3, 0] rfl h
set_option maxRecDepth 100000 in
set_option maxHeartbeats 4000000 in
theorem c_X7_lines {l : Launch} {D : va_G} {G : sx_G} {b : Nat} (hf : l.stackTraces = false) {f : sx_F} {x1 : Int32} {Q : Int32 → sx_F → Prop}  (h : P_X7_lines f x1 Q) : sx_Met l D G b 26 lyM yX7_lines cX7_lines 2 (some .int) 6 139 0 0 [.ref (b + 0), .int x1] f (sx_qi Q) (fun _ _ => False) := by
  refine sx_enter (own := RX7) hf rfl rfl (Nat.le_of_ble_eq_true rfl) ?_
  intro p e s m args below meth c C hr ht
  have hB : ∀ k, k < 26 → sx_A b 26 s.heap.size (b + k) := fun k h => sx_A.in h
  unfold P_X7_lines at h
  refine sx_sub (lv' := [(0, .ref (b + 0)), (1, .int x1)]) [0, 1] rfl ?_
  refine sx_aload_n C dX7_lines_0 0 0 rfl rfl 1 rfl ?_
  refine sx_iload_n C dX7_lines_1 1 1 rfl rfl 2 rfl ?_
  refine sx_callS C ht hB (st := [.ref (b + 0)]) dX7_lines_2 (c_X7_isBook hf h) mi_X7_isBook lk_X7_205 mt_X7_isBook rfl rfl ⟨⟨(Nat.le_of_ble_eq_true rfl), (Nat.le_of_ble_eq_true rfl)⟩, (Nat.le_of_ble_eq_true rfl), (Nat.le_of_ble_eq_true rfl)⟩ (Nat.le_of_ble_eq_true rfl) ⟨(Nat.le_of_ble_eq_true rfl), (Nat.le_of_ble_eq_true rfl)⟩ (fun _ _ hx => hx.elim) 5 rfl (fun v g2 h => ?_)
  obtain ⟨⟨r1, rfl, h⟩, rfl⟩ := h
  refine sx_iconst C dX7_lines_5 1 (by decide) 6 rfl ?_
  refine sx_iconst C dX7_lines_6 1 (by decide) 7 rfl ?_
  refine sx_callV C ht hB (st := []) dX7_lines_7 (c_X7_goes hf h) mi_X7_goes lk_X7_105 mn_X7_goes ms_X7_goes (by decide) lyM_0 rfl rfl rfl rfl ⟨⟨(Nat.le_of_ble_eq_true rfl), (Nat.le_of_ble_eq_true rfl)⟩, (Nat.le_of_ble_eq_true rfl), (Nat.le_of_ble_eq_true rfl)⟩ (Nat.le_of_ble_eq_true rfl) ⟨(Nat.le_of_ble_eq_true rfl), (Nat.le_of_ble_eq_true rfl)⟩ (fun _ _ hx => hx.elim) 10 rfl (fun v g3 h => ?_)
  obtain ⟨r4, rfl, h⟩ := h
  refine sx_if_ne C dX7_lines_10 15 13 (by decide) rfl (fun c5 => ?_) (fun c5 => ?_)
  · replace h := h.2 c5
    refine sx_aload_n C dX7_lines_15 0 0 rfl rfl 16 rfl ?_
    refine sx_iload_n C dX7_lines_16 1 1 rfl rfl 17 rfl ?_
    refine sx_callV C ht hB (st := []) dX7_lines_17 (c_X7_lays hf h) mi_X7_lays lk_X7_211 mn_X7_lays ms_X7_lays (by decide) lyM_0 rfl rfl rfl rfl ⟨⟨(Nat.le_of_ble_eq_true rfl), (Nat.le_of_ble_eq_true rfl)⟩, (Nat.le_of_ble_eq_true rfl), (Nat.le_of_ble_eq_true rfl)⟩ (Nat.le_of_ble_eq_true rfl) ⟨(Nat.le_of_ble_eq_true rfl), (Nat.le_of_ble_eq_true rfl)⟩ (fun _ _ hx => hx.elim) 20 rfl (fun v g6 h => ?_)
    obtain ⟨rfl, h⟩ := h
    refine sx_aload_n C dX7_lines_20 0 0 rfl rfl 21 rfl ?_
    refine sx_geti C (T := TX7) (C0 := RX7) (N := 34) (j := 31) dX7_lines_21 fl_X7_190 inw_X7 rfl (by decide) rfl (by decide) lyM_0 rfl 24 rfl ?_
    exact sx_iret C dX7_lines_24 hr (Nat.le_of_ble_eq_true rfl) (Nat.le_of_ble_eq_true rfl) ⟨_, rfl, h⟩
  · replace h := h.1 c5
    refine sx_iconst C dX7_lines_13 0 (by decide) 14 rfl ?_
    exact sx_iret C dX7_lines_14 hr (Nat.le_of_ble_eq_true rfl) (Nat.le_of_ble_eq_true rfl) ⟨_, rfl, h⟩
set_option maxRecDepth 100000 in
set_option maxHeartbeats 4000000 in
theorem c_X7_lineOf {l : Launch} {D : va_G} {G : sx_G} {b : Nat} (hf : l.stackTraces = false) {f : sx_F} {x1 : Int32} {x2 : Int32} {Q : Int32 → sx_F → Prop}  (h : P_X7_lineOf f x1 x2 Q) : sx_Met l D G b 26 lyM yX7_lineOf cX7_lineOf 3 (some .int) 6 139 0 0 [.ref (b + 0), .int x1, .int x2] f (sx_qi Q) (fun _ _ => False) := by
  refine sx_enter (own := RX7) hf rfl rfl (Nat.le_of_ble_eq_true rfl) ?_
  intro p e s m args below meth c C hr ht
  have hB : ∀ k, k < 26 → sx_A b 26 s.heap.size (b + k) := fun k h => sx_A.in h
  unfold P_X7_lineOf at h
  replace h := h (fun (f : sx_F) => sx_J (sx_wp D G b lyM 26) p l e { frames := 6, cells := 0, slots := 0, locals := 139 } s m args below meth c (sx_A b 26 s.heap.size) 3 0 0 (sx_fin (sx_wp D G b lyM 26) (sx_A b 26 s.heap.size) below args s 0 0 (sx_qi Q) (fun _ _ => False)) f 20 [(0, .ref (b + 0)), (1, .int x1), (2, .int x2)] [.ref (b + 0)])
  replace h := h (fun (f : sx_F) (s1 : Int32) => sx_J (sx_wp D G b lyM 26) p l e { frames := 6, cells := 0, slots := 0, locals := 139 } s m args below meth c (sx_A b 26 s.heap.size) 3 0 0 (sx_fin (sx_wp D G b lyM 26) (sx_A b 26 s.heap.size) below args s 0 0 (sx_qi Q) (fun _ _ => False)) f 21 [(0, .ref (b + 0)), (1, .int x1), (2, .int x2)] [.int s1, .ref (b + 0)])
  replace h := h (by
    intro f h
    refine sx_iconst C dX7_lineOf_20 0 (by decide) 21 rfl ?_
    exact sx_sub [0, 1, 2] rfl h)
  replace h := h (by
    intro f s1 h
    refine sx_iconst C dX7_lineOf_21 1 (by decide) 22 rfl ?_
    refine sx_iconst C dX7_lineOf_22 1 (by decide) 23 rfl ?_
    refine sx_callV C ht hB (st := []) dX7_lineOf_23 (c_X7_goes hf h) mi_X7_goes lk_X7_105 mn_X7_goes ms_X7_goes (by decide) lyM_0 rfl rfl rfl rfl ⟨⟨(Nat.le_of_ble_eq_true rfl), (Nat.le_of_ble_eq_true rfl)⟩, (Nat.le_of_ble_eq_true rfl), (Nat.le_of_ble_eq_true rfl)⟩ (Nat.le_of_ble_eq_true rfl) ⟨(Nat.le_of_ble_eq_true rfl), (Nat.le_of_ble_eq_true rfl)⟩ (fun _ _ hx => hx.elim) 26 rfl (fun v g1 h => ?_)
    obtain ⟨r2, rfl, h⟩ := h
    refine sx_if_ne C dX7_lineOf_26 31 29 (by decide) rfl (fun c3 => ?_) (fun c3 => ?_)
    · replace h := h.2 c3
      refine sx_aload_n C dX7_lineOf_31 0 0 rfl rfl 32 rfl ?_
      refine sx_iload_n C dX7_lineOf_32 1 1 rfl rfl 33 rfl ?_
      refine sx_callV C ht hB (st := []) dX7_lineOf_33 (c_X7_lays hf h) mi_X7_lays lk_X7_211 mn_X7_lays ms_X7_lays (by decide) lyM_0 rfl rfl rfl rfl ⟨⟨(Nat.le_of_ble_eq_true rfl), (Nat.le_of_ble_eq_true rfl)⟩, (Nat.le_of_ble_eq_true rfl), (Nat.le_of_ble_eq_true rfl)⟩ (Nat.le_of_ble_eq_true rfl) ⟨(Nat.le_of_ble_eq_true rfl), (Nat.le_of_ble_eq_true rfl)⟩ (fun _ _ hx => hx.elim) 36 rfl (fun v g4 h => ?_)
      obtain ⟨rfl, h⟩ := h
      refine sx_aload_n C dX7_lineOf_36 0 0 rfl rfl 37 rfl ?_
      refine sx_getq C (T := TX7) (C0 := RX7) (N := 34) (j := 30) dX7_lineOf_37 fl_X7_89 inw_X7 rfl (by decide) rfl (by decide) lyM_0 rfl 40 rfl ?_
      refine sx_aload_n C dX7_lineOf_40 0 0 rfl rfl 41 rfl ?_
      refine sx_iload_n C dX7_lineOf_41 2 2 rfl rfl 42 rfl ?_
      refine sx_callV C ht hB (st := [.ref (b + 25)]) dX7_lineOf_42 (c_X7_itemWith hf h) mi_X7_itemWith lk_X7_208 mn_X7_itemWith ms_X7_itemWith (by decide) lyM_0 rfl rfl rfl rfl ⟨⟨(Nat.le_of_ble_eq_true rfl), (Nat.le_of_ble_eq_true rfl)⟩, (Nat.le_of_ble_eq_true rfl), (Nat.le_of_ble_eq_true rfl)⟩ (Nat.le_of_ble_eq_true rfl) ⟨(Nat.le_of_ble_eq_true rfl), (Nat.le_of_ble_eq_true rfl)⟩ (fun _ _ hx => hx.elim) 45 rfl (fun v g6 h => ?_)
      obtain ⟨⟨r5, rfl, h⟩, rfl⟩ := h
      refine sx_iald C dX7_lineOf_45 (by decide) lyM_25 h.1 46 rfl ?_
      replace h := h.2
      exact sx_iret C dX7_lineOf_46 hr (Nat.le_of_ble_eq_true rfl) (Nat.le_of_ble_eq_true rfl) ⟨_, rfl, h⟩
    · replace h := h.1 c3
      refine sx_iconst C dX7_lineOf_29 0 (by decide) 30 rfl ?_
      exact sx_iret C dX7_lineOf_30 hr (Nat.le_of_ble_eq_true rfl) (Nat.le_of_ble_eq_true rfl) ⟨_, rfl, h⟩)
  refine sx_sub (lv' := [(0, .ref (b + 0)), (1, .int x1), (2, .int x2)]) [0, 1, 2] rfl ?_
  refine sx_aload_n C dX7_lineOf_0 0 0 rfl rfl 1 rfl ?_
  refine sx_iload_n C dX7_lineOf_1 1 1 rfl rfl 2 rfl ?_
  refine sx_callS C ht hB (st := [.ref (b + 0)]) dX7_lineOf_2 (c_X7_isBook hf h) mi_X7_isBook lk_X7_205 mt_X7_isBook rfl rfl ⟨⟨(Nat.le_of_ble_eq_true rfl), (Nat.le_of_ble_eq_true rfl)⟩, (Nat.le_of_ble_eq_true rfl), (Nat.le_of_ble_eq_true rfl)⟩ (Nat.le_of_ble_eq_true rfl) ⟨(Nat.le_of_ble_eq_true rfl), (Nat.le_of_ble_eq_true rfl)⟩ (fun _ _ hx => hx.elim) 5 rfl (fun v g8 h => ?_)
  obtain ⟨⟨r7, rfl, h⟩, rfl⟩ := h
  refine sx_if_eq C dX7_lineOf_5 20 8 (by decide) rfl (fun c9 => ?_) (fun c9 => ?_)
  · replace h := h.1 c9
    exact sx_sub [0, 1, 2] rfl h
  · replace h := h.2 c9
    refine sx_aload_n C dX7_lineOf_8 0 0 rfl rfl 9 rfl ?_
    refine sx_iload_n C dX7_lineOf_9 2 2 rfl rfl 10 rfl ?_
    refine sx_callV C ht hB (st := [.ref (b + 0)]) dX7_lineOf_10 (c_X7_isBar hf h) mi_X7_isBar lk_X7_113 mn_X7_isBar ms_X7_isBar (by decide) lyM_0 rfl rfl rfl rfl ⟨⟨(Nat.le_of_ble_eq_true rfl), (Nat.le_of_ble_eq_true rfl)⟩, (Nat.le_of_ble_eq_true rfl), (Nat.le_of_ble_eq_true rfl)⟩ (Nat.le_of_ble_eq_true rfl) ⟨(Nat.le_of_ble_eq_true rfl), (Nat.le_of_ble_eq_true rfl)⟩ (fun _ _ hx => hx.elim) 13 rfl (fun v g11 h => ?_)
    obtain ⟨⟨r10, rfl, h⟩, rfl⟩ := h
    refine sx_if_eq C dX7_lineOf_13 20 16 (by decide) rfl (fun c12 => ?_) (fun c12 => ?_)
    · replace h := h.1 c12
      exact sx_sub [0, 1, 2] rfl h
    · replace h := h.2 c12
      refine sx_iconst C dX7_lineOf_16 1 (by decide) 17 rfl ?_
      refine sx_goto C dX7_lineOf_17 21 (by decide) ?_
      exact sx_sub [0, 1, 2] rfl h
set_option maxRecDepth 100000 in
set_option maxHeartbeats 4000000 in
theorem c_X7_cost {l : Launch} {D : va_G} {G : sx_G} {b : Nat} (hf : l.stackTraces = false) {f : sx_F} {x1 : Int32} {Q : Int32 → sx_F → Prop}  (h : P_X7_cost f x1 Q) : sx_Met l D G b 26 lyM yX7_cost cX7_cost 2 (some .int) 6 139 0 0 [.ref (b + 0), .int x1] f (sx_qi Q) (fun _ _ => False) := by
  refine sx_enter (own := RX7) hf rfl rfl (Nat.le_of_ble_eq_true rfl) ?_
  intro p e s m args below meth c C hr ht
  have hB : ∀ k, k < 26 → sx_A b 26 s.heap.size (b + k) := fun k h => sx_A.in h
  unfold P_X7_cost at h
  refine sx_sub (lv' := [(0, .ref (b + 0)), (1, .int x1)]) [0, 1] rfl ?_
  refine sx_aload_n C dX7_cost_0 0 0 rfl rfl 1 rfl ?_
  refine sx_iload_n C dX7_cost_1 1 1 rfl rfl 2 rfl ?_
  refine sx_callS C ht hB (st := [.ref (b + 0)]) dX7_cost_2 (c_X7_isBook hf h) mi_X7_isBook lk_X7_205 mt_X7_isBook rfl rfl ⟨⟨(Nat.le_of_ble_eq_true rfl), (Nat.le_of_ble_eq_true rfl)⟩, (Nat.le_of_ble_eq_true rfl), (Nat.le_of_ble_eq_true rfl)⟩ (Nat.le_of_ble_eq_true rfl) ⟨(Nat.le_of_ble_eq_true rfl), (Nat.le_of_ble_eq_true rfl)⟩ (fun _ _ hx => hx.elim) 5 rfl (fun v g2 h => ?_)
  obtain ⟨⟨r1, rfl, h⟩, rfl⟩ := h
  refine sx_iconst C dX7_cost_5 1 (by decide) 6 rfl ?_
  refine sx_iconst C dX7_cost_6 1 (by decide) 7 rfl ?_
  refine sx_callV C ht hB (st := []) dX7_cost_7 (c_X7_goes hf h) mi_X7_goes lk_X7_105 mn_X7_goes ms_X7_goes (by decide) lyM_0 rfl rfl rfl rfl ⟨⟨(Nat.le_of_ble_eq_true rfl), (Nat.le_of_ble_eq_true rfl)⟩, (Nat.le_of_ble_eq_true rfl), (Nat.le_of_ble_eq_true rfl)⟩ (Nat.le_of_ble_eq_true rfl) ⟨(Nat.le_of_ble_eq_true rfl), (Nat.le_of_ble_eq_true rfl)⟩ (fun _ _ hx => hx.elim) 10 rfl (fun v g3 h => ?_)
  obtain ⟨r4, rfl, h⟩ := h
  refine sx_if_ne C dX7_cost_10 15 13 (by decide) rfl (fun c5 => ?_) (fun c5 => ?_)
  · replace h := h.2 c5
    refine sx_aload_n C dX7_cost_15 0 0 rfl rfl 16 rfl ?_
    refine sx_iload_n C dX7_cost_16 1 1 rfl rfl 17 rfl ?_
    refine sx_callV C ht hB (st := []) dX7_cost_17 (c_X7_lays hf h) mi_X7_lays lk_X7_211 mn_X7_lays ms_X7_lays (by decide) lyM_0 rfl rfl rfl rfl ⟨⟨(Nat.le_of_ble_eq_true rfl), (Nat.le_of_ble_eq_true rfl)⟩, (Nat.le_of_ble_eq_true rfl), (Nat.le_of_ble_eq_true rfl)⟩ (Nat.le_of_ble_eq_true rfl) ⟨(Nat.le_of_ble_eq_true rfl), (Nat.le_of_ble_eq_true rfl)⟩ (fun _ _ hx => hx.elim) 20 rfl (fun v g6 h => ?_)
    obtain ⟨rfl, h⟩ := h
    refine sx_aload_n C dX7_cost_20 0 0 rfl rfl 21 rfl ?_
    refine sx_geti C (T := TX7) (C0 := RX7) (N := 34) (j := 20) dX7_cost_21 fl_X7_161 inw_X7 rfl (by decide) rfl (by decide) lyM_0 rfl 24 rfl ?_
    refine sx_if_ne C dX7_cost_24 31 27 (by decide) rfl (fun c7 => ?_) (fun c7 => ?_)
    · replace h := h.2 c7
      refine sx_aload_n C dX7_cost_31 0 0 rfl rfl 32 rfl ?_
      refine sx_getq C (T := TX7) (C0 := RX7) (N := 34) (j := 27) dX7_cost_32 fl_X7_80 inw_X7 rfl (by decide) rfl (by decide) lyM_0 rfl 35 rfl ?_
      refine sx_iconst C dX7_cost_35 0 (by decide) 36 rfl ?_
      refine sx_iald C dX7_cost_36 (by decide) lyM_22 h.1 37 rfl ?_
      replace h := h.2
      exact sx_iret C dX7_cost_37 hr (Nat.le_of_ble_eq_true rfl) (Nat.le_of_ble_eq_true rfl) ⟨_, rfl, h⟩
    · replace h := h.1 c7
      refine sx_iconst C dX7_cost_27 0 (by decide) 28 rfl ?_
      refine sx_goto C dX7_cost_28 37 (by decide) ?_
      exact sx_iret C dX7_cost_37 hr (Nat.le_of_ble_eq_true rfl) (Nat.le_of_ble_eq_true rfl) ⟨_, rfl, h⟩
  · replace h := h.1 c5
    refine sx_iconst C dX7_cost_13 0 (by decide) 14 rfl ?_
    exact sx_iret C dX7_cost_14 hr (Nat.le_of_ble_eq_true rfl) (Nat.le_of_ble_eq_true rfl) ⟨_, rfl, h⟩
set_option maxRecDepth 100000 in
set_option maxHeartbeats 4000000 in
theorem c_X7_costByAll {l : Launch} {D : va_G} {G : sx_G} {b : Nat} (hf : l.stackTraces = false) {f : sx_F} {x1 : Int32} {Q : Int32 → sx_F → Prop}  (h : P_X7_costByAll f x1 Q) : sx_Met l D G b 26 lyM yX7_costByAll cX7_costByAll 2 (some .int) 7 160 0 0 [.ref (b + 0), .int x1] f (sx_qi Q) (fun _ _ => False) := by
  refine sx_enter (own := RX7) hf rfl rfl (Nat.le_of_ble_eq_true rfl) ?_
  intro p e s m args below meth c C hr ht
  have hB : ∀ k, k < 26 → sx_A b 26 s.heap.size (b + k) := fun k h => sx_A.in h
  unfold P_X7_costByAll at h
  refine sx_sub (lv' := [(0, .ref (b + 0)), (1, .int x1)]) [0, 1] rfl ?_
  refine sx_aload_n C dX7_costByAll_0 0 0 rfl rfl 1 rfl ?_
  refine sx_iload_n C dX7_costByAll_1 1 1 rfl rfl 2 rfl ?_
  refine sx_callV C ht hB (st := []) dX7_costByAll_2 (c_X7_cost hf h) mi_X7_cost lk_X7_214 mn_X7_cost ms_X7_cost (by decide) lyM_0 rfl rfl rfl rfl ⟨⟨(Nat.le_of_ble_eq_true rfl), (Nat.le_of_ble_eq_true rfl)⟩, (Nat.le_of_ble_eq_true rfl), (Nat.le_of_ble_eq_true rfl)⟩ (Nat.le_of_ble_eq_true rfl) ⟨(Nat.le_of_ble_eq_true rfl), (Nat.le_of_ble_eq_true rfl)⟩ (fun _ _ hx => hx.elim) 5 rfl (fun v g1 h => ?_)
  obtain ⟨r2, rfl, h⟩ := h
  exact sx_iret C dX7_costByAll_5 hr (Nat.le_of_ble_eq_true rfl) (Nat.le_of_ble_eq_true rfl) ⟨_, rfl, h⟩
set_option maxRecDepth 100000 in
set_option maxHeartbeats 4000000 in
theorem c_X7_turns {l : Launch} {D : va_G} {G : sx_G} {b : Nat} (hf : l.stackTraces = false) {f : sx_F} {x1 : Int32} {Q : Int32 → sx_F → Prop}  (h : P_X7_turns f x1 Q) : sx_Met l D G b 26 lyM yX7_turns cX7_turns 2 (some .int) 6 139 0 0 [.ref (b + 0), .int x1] f (sx_qi Q) (fun _ _ => False) := by
  refine sx_enter (own := RX7) hf rfl rfl (Nat.le_of_ble_eq_true rfl) ?_
  intro p e s m args below meth c C hr ht
  have hB : ∀ k, k < 26 → sx_A b 26 s.heap.size (b + k) := fun k h => sx_A.in h
  unfold P_X7_turns at h
  refine sx_sub (lv' := [(0, .ref (b + 0)), (1, .int x1)]) [0, 1] rfl ?_
  refine sx_aload_n C dX7_turns_0 0 0 rfl rfl 1 rfl ?_
  refine sx_iload_n C dX7_turns_1 1 1 rfl rfl 2 rfl ?_
  refine sx_callS C ht hB (st := [.ref (b + 0)]) dX7_turns_2 (c_X7_isBook hf h) mi_X7_isBook lk_X7_205 mt_X7_isBook rfl rfl ⟨⟨(Nat.le_of_ble_eq_true rfl), (Nat.le_of_ble_eq_true rfl)⟩, (Nat.le_of_ble_eq_true rfl), (Nat.le_of_ble_eq_true rfl)⟩ (Nat.le_of_ble_eq_true rfl) ⟨(Nat.le_of_ble_eq_true rfl), (Nat.le_of_ble_eq_true rfl)⟩ (fun _ _ hx => hx.elim) 5 rfl (fun v g2 h => ?_)
  obtain ⟨⟨r1, rfl, h⟩, rfl⟩ := h
  refine sx_iconst C dX7_turns_5 1 (by decide) 6 rfl ?_
  refine sx_iconst C dX7_turns_6 1 (by decide) 7 rfl ?_
  refine sx_callV C ht hB (st := []) dX7_turns_7 (c_X7_goes hf h) mi_X7_goes lk_X7_105 mn_X7_goes ms_X7_goes (by decide) lyM_0 rfl rfl rfl rfl ⟨⟨(Nat.le_of_ble_eq_true rfl), (Nat.le_of_ble_eq_true rfl)⟩, (Nat.le_of_ble_eq_true rfl), (Nat.le_of_ble_eq_true rfl)⟩ (Nat.le_of_ble_eq_true rfl) ⟨(Nat.le_of_ble_eq_true rfl), (Nat.le_of_ble_eq_true rfl)⟩ (fun _ _ hx => hx.elim) 10 rfl (fun v g3 h => ?_)
  obtain ⟨r4, rfl, h⟩ := h
  refine sx_if_ne C dX7_turns_10 15 13 (by decide) rfl (fun c5 => ?_) (fun c5 => ?_)
  · replace h := h.2 c5
    refine sx_aload_n C dX7_turns_15 0 0 rfl rfl 16 rfl ?_
    refine sx_iload_n C dX7_turns_16 1 1 rfl rfl 17 rfl ?_
    refine sx_callV C ht hB (st := []) dX7_turns_17 (c_X7_lays hf h) mi_X7_lays lk_X7_211 mn_X7_lays ms_X7_lays (by decide) lyM_0 rfl rfl rfl rfl ⟨⟨(Nat.le_of_ble_eq_true rfl), (Nat.le_of_ble_eq_true rfl)⟩, (Nat.le_of_ble_eq_true rfl), (Nat.le_of_ble_eq_true rfl)⟩ (Nat.le_of_ble_eq_true rfl) ⟨(Nat.le_of_ble_eq_true rfl), (Nat.le_of_ble_eq_true rfl)⟩ (fun _ _ hx => hx.elim) 20 rfl (fun v g6 h => ?_)
    obtain ⟨rfl, h⟩ := h
    refine sx_aload_n C dX7_turns_20 0 0 rfl rfl 21 rfl ?_
    refine sx_geti C (T := TX7) (C0 := RX7) (N := 34) (j := 32) dX7_turns_21 fl_X7_193 inw_X7 rfl (by decide) rfl (by decide) lyM_0 rfl 24 rfl ?_
    exact sx_iret C dX7_turns_24 hr (Nat.le_of_ble_eq_true rfl) (Nat.le_of_ble_eq_true rfl) ⟨_, rfl, h⟩
  · replace h := h.1 c5
    refine sx_iconst C dX7_turns_13 0 (by decide) 14 rfl ?_
    exact sx_iret C dX7_turns_14 hr (Nat.le_of_ble_eq_true rfl) (Nat.le_of_ble_eq_true rfl) ⟨_, rfl, h⟩
set_option maxRecDepth 100000 in
set_option maxHeartbeats 4000000 in
theorem c_X7_springAt {l : Launch} {D : va_G} {G : sx_G} {b : Nat} (hf : l.stackTraces = false) {f : sx_F} {x1 : Int32} {x2 : Int32} {Q : Int32 → Prop}  (h : P_X7_springAt f x1 x2 Q) : sx_Met l D G b 26 lyM yX7_springAt cX7_springAt 5 (some .int) 2 35 0 0 [.ref (b + 0), .int x1, .int x2] f (sx_pi f Q) (fun _ _ => False) := by
  refine sx_enter (own := RX7) hf rfl rfl (Nat.le_of_ble_eq_true rfl) ?_
  intro p e s m args below meth c C hr ht
  have hB : ∀ k, k < 26 → sx_A b 26 s.heap.size (b + k) := fun k h => sx_A.in h
  unfold P_X7_springAt at h
  replace h := h (fun (v3 : Int32) (v4 : Int32) => sx_J (sx_wp D G b lyM 26) p l e { frames := 2, cells := 0, slots := 0, locals := 35 } s m args below meth c (sx_A b 26 s.heap.size) 5 0 0 (sx_fin (sx_wp D G b lyM 26) (sx_A b 26 s.heap.size) below args s 0 0 (sx_pi f Q) (fun _ _ => False)) f 14 [(0, .ref (b + 0)), (1, .int x1), (2, .int x2), (3, .int v3), (4, .int v4)] [])
  replace h := h (fun (v3 : Int32) (v4 : Int32) => sx_J (sx_wp D G b lyM 26) p l e { frames := 2, cells := 0, slots := 0, locals := 35 } s m args below meth c (sx_A b 26 s.heap.size) 5 0 0 (sx_fin (sx_wp D G b lyM 26) (sx_A b 26 s.heap.size) below args s 0 0 (sx_pi f Q) (fun _ _ => False)) f 51 [(0, .ref (b + 0)), (1, .int x1), (2, .int x2), (3, .int v3), (4, .int v4)] [])
  replace h := h (by
    intro v3 v4 h
    refine sx_iload C dX7_springAt_14 4 rfl 16 rfl ?_
    refine sx_aload_n C dX7_springAt_16 0 0 rfl rfl 17 rfl ?_
    refine sx_getq C (T := TX7) (C0 := RX7) (N := 34) (j := 21) dX7_springAt_17 fl_X7_62 inw_X7 rfl (by decide) rfl (by decide) lyM_0 rfl 20 rfl ?_
    refine sx_iload_n C dX7_springAt_20 3 3 rfl rfl 21 rfl ?_
    refine sx_iconst C dX7_springAt_21 1 (by decide) 22 rfl ?_
    refine sx_iadd C dX7_springAt_22 23 rfl ?_
    refine sx_iald C dX7_springAt_23 (by decide) lyM_16 h.1 24 rfl ?_
    replace h := h.2
    refine sx_icmp_ge C dX7_springAt_24 57 27 (by decide) rfl (fun c1 => ?_) (fun c1 => ?_)
    · replace h := h.1 c1
      refine sx_iconst C dX7_springAt_57 (-1) (by decide) 58 rfl ?_
      exact sx_iret C dX7_springAt_58 hr (Nat.le_of_ble_eq_true rfl) (Nat.le_of_ble_eq_true rfl) ⟨⟨_, rfl, h⟩, rfl⟩
    · replace h := h.2 c1
      refine sx_aload_n C dX7_springAt_27 0 0 rfl rfl 28 rfl ?_
      refine sx_getq C (T := TX7) (C0 := RX7) (N := 34) (j := 17) dX7_springAt_28 fl_X7_53 inw_X7 rfl (by decide) rfl (by decide) lyM_0 rfl 31 rfl ?_
      refine sx_iload_n C dX7_springAt_31 3 3 rfl rfl 32 rfl ?_
      refine sx_iald C dX7_springAt_32 (by decide) lyM_13 h.1 33 rfl ?_
      replace h := h.2
      refine sx_iload_n C dX7_springAt_33 1 1 rfl rfl 34 rfl ?_
      refine sx_icmp_ne C dX7_springAt_34 51 37 (by decide) rfl (fun c2 => ?_) (fun c2 => ?_)
      · replace h := h.2 c2
        exact sx_sub [0, 1, 2, 3, 4] rfl h
      · replace h := h.1 c2
        refine sx_aload_n C dX7_springAt_37 0 0 rfl rfl 38 rfl ?_
        refine sx_getq C (T := TX7) (C0 := RX7) (N := 34) (j := 22) dX7_springAt_38 fl_X7_65 inw_X7 rfl (by decide) rfl (by decide) lyM_0 rfl 41 rfl ?_
        refine sx_iload C dX7_springAt_41 4 rfl 43 rfl ?_
        refine sx_iald C dX7_springAt_43 (by decide) lyM_17 h.1 44 rfl ?_
        replace h := h.2
        refine sx_iload_n C dX7_springAt_44 2 2 rfl rfl 45 rfl ?_
        refine sx_icmp_ne C dX7_springAt_45 51 48 (by decide) rfl (fun c3 => ?_) (fun c3 => ?_)
        · replace h := h.2 c3
          exact sx_sub [0, 1, 2, 3, 4] rfl h
        · replace h := h.1 c3
          refine sx_iload C dX7_springAt_48 4 rfl 50 rfl ?_
          exact sx_iret C dX7_springAt_50 hr (Nat.le_of_ble_eq_true rfl) (Nat.le_of_ble_eq_true rfl) ⟨⟨_, rfl, h⟩, rfl⟩)
  replace h := h (by
    intro v3 v4 h
    obtain ⟨y4, ey4⟩ : ∃ w : Int32, w = v4 + 1 := ⟨_, rfl⟩
    replace h := h y4 ey4
    refine sx_iinc C dX7_springAt_51 4 rfl y4 (by rw [ey4]; rfl) [(4, .int y4), (0, .ref (b + 0)), (1, .int x1), (2, .int x2), (3, .int v3)] (by decide) rfl 54 rfl ?_
    refine sx_goto C dX7_springAt_54 14 (by decide) ?_
    exact sx_sub [1, 2, 3, 4, 0] rfl h)
  refine sx_sub (lv' := [(0, .ref (b + 0)), (1, .int x1), (2, .int x2)]) [0, 1, 2] rfl ?_
  refine sx_aload_n C dX7_springAt_0 0 0 rfl rfl 1 rfl ?_
  refine sx_iload_n C dX7_springAt_1 1 1 rfl rfl 2 rfl ?_
  refine sx_callV C ht hB (st := []) dX7_springAt_2 (c_X7_itemWith hf h) mi_X7_itemWith lk_X7_208 mn_X7_itemWith ms_X7_itemWith (by decide) lyM_0 rfl rfl rfl rfl ⟨⟨(Nat.le_of_ble_eq_true rfl), (Nat.le_of_ble_eq_true rfl)⟩, (Nat.le_of_ble_eq_true rfl), (Nat.le_of_ble_eq_true rfl)⟩ (Nat.le_of_ble_eq_true rfl) ⟨(Nat.le_of_ble_eq_true rfl), (Nat.le_of_ble_eq_true rfl)⟩ (fun _ _ hx => hx.elim) 5 rfl (fun v g6 h => ?_)
  obtain ⟨⟨r5, rfl, h⟩, rfl⟩ := h
  refine sx_istore_n C dX7_springAt_5 3 rfl [(3, .int r5), (0, .ref (b + 0)), (1, .int x1), (2, .int x2)] (by decide) rfl 6 rfl ?_
  refine sx_aload_n C dX7_springAt_6 0 1 rfl rfl 7 rfl ?_
  refine sx_getq C (T := TX7) (C0 := RX7) (N := 34) (j := 21) dX7_springAt_7 fl_X7_62 inw_X7 rfl (by decide) rfl (by decide) lyM_0 rfl 10 rfl ?_
  refine sx_iload_n C dX7_springAt_10 3 0 rfl rfl 11 rfl ?_
  refine sx_iald C dX7_springAt_11 (by decide) lyM_16 h.1 12 rfl ?_
  replace h := h.2
  refine sx_topi (fun y7 ey7 => ?_)
  replace h := h y7 ey7
  refine sx_istore C dX7_springAt_12 [(4, .int y7), (3, .int r5), (0, .ref (b + 0)), (1, .int x1), (2, .int x2)] (by decide) rfl 14 rfl ?_
  exact sx_sub [2, 3, 4, 1, 0] rfl h
set_option maxRecDepth 100000 in
set_option maxHeartbeats 4000000 in
theorem c_X7_placeOf {l : Launch} {D : va_G} {G : sx_G} {b : Nat} (hf : l.stackTraces = false) {f : sx_F} {x1 : Int32} {x2 : Int32} {Q : Int32 → Prop}  (h : P_X7_placeOf f x1 x2 Q) : sx_Met l D G b 26 lyM yX7_placeOf cX7_placeOf 14 (some .int) 2 35 0 0 [.ref (b + 0), .int x1, .int x2] f (sx_pi f Q) (fun _ _ => False) := by
  refine sx_enter (own := RX7) hf rfl rfl (Nat.le_of_ble_eq_true rfl) ?_
  intro p e s m args below meth c C hr ht
  have hB : ∀ k, k < 26 → sx_A b 26 s.heap.size (b + k) := fun k h => sx_A.in h
  unfold P_X7_placeOf at h
  replace h := h (fun (v3 : Int32) (v4 : Int32) (v5 : Int32) (v6 : Int32) (v7 : Int32) (v8 : Int32) (v9 : Int32) (v10 : Int32) (v11 : Int32) => sx_J (sx_wp D G b lyM 26) p l e { frames := 2, cells := 0, slots := 0, locals := 35 } s m args below meth c (sx_A b 26 s.heap.size) 14 0 0 (sx_fin (sx_wp D G b lyM 26) (sx_A b 26 s.heap.size) below args s 0 0 (sx_pi f Q) (fun _ _ => False)) f 35 [(0, .ref (b + 0)), (2, .int x2), (3, .int v3), (4, .int v4), (5, .int v5), (6, .int v6), (7, .int v7), (8, .int v8), (9, .int v9), (10, .int v10), (11, .int v11)] [])
  replace h := h (fun (v3 : Int32) (v4 : Int32) (v5 : Int32) (v6 : Int32) (v7 : Int32) (v8 : Int32) (v9 : Int32) (v11 : Int32) (s0 : Int32) => sx_J (sx_wp D G b lyM 26) p l e { frames := 2, cells := 0, slots := 0, locals := 35 } s m args below meth c (sx_A b 26 s.heap.size) 14 0 0 (sx_fin (sx_wp D G b lyM 26) (sx_A b 26 s.heap.size) below args s 0 0 (sx_pi f Q) (fun _ _ => False)) f 68 [(0, .ref (b + 0)), (2, .int x2), (3, .int v3), (4, .int v4), (5, .int v5), (6, .int v6), (7, .int v7), (8, .int v8), (9, .int v9), (11, .int v11)] [.int s0])
  replace h := h (fun (v3 : Int32) (v4 : Int32) (v5 : Int32) (v6 : Int32) (v7 : Int32) (v8 : Int32) (v9 : Int32) (v11 : Int32) (s0 : Int32) (s1 : Int32) => sx_J (sx_wp D G b lyM 26) p l e { frames := 2, cells := 0, slots := 0, locals := 35 } s m args below meth c (sx_A b 26 s.heap.size) 14 0 0 (sx_fin (sx_wp D G b lyM 26) (sx_A b 26 s.heap.size) below args s 0 0 (sx_pi f Q) (fun _ _ => False)) f 69 [(0, .ref (b + 0)), (2, .int x2), (3, .int v3), (4, .int v4), (5, .int v5), (6, .int v6), (7, .int v7), (8, .int v8), (9, .int v9), (11, .int v11)] [.int s1, .int s0])
  replace h := h (fun (v3 : Int32) (v4 : Int32) (v5 : Int32) (v6 : Int32) (v7 : Int32) (v8 : Int32) (v10 : Int32) (v11 : Int32) (s0 : Int32) (s1 : Int32) => sx_J (sx_wp D G b lyM 26) p l e { frames := 2, cells := 0, slots := 0, locals := 35 } s m args below meth c (sx_A b 26 s.heap.size) 14 0 0 (sx_fin (sx_wp D G b lyM 26) (sx_A b 26 s.heap.size) below args s 0 0 (sx_pi f Q) (fun _ _ => False)) f 91 [(0, .ref (b + 0)), (2, .int x2), (3, .int v3), (4, .int v4), (5, .int v5), (6, .int v6), (7, .int v7), (8, .int v8), (10, .int v10), (11, .int v11)] [.int s1, .int s0])
  replace h := h (fun (v3 : Int32) (v4 : Int32) (v5 : Int32) (v6 : Int32) (v7 : Int32) (v8 : Int32) (v9 : Int32) (v10 : Int32) (v11 : Int32) (v12 : Int32) => sx_J (sx_wp D G b lyM 26) p l e { frames := 2, cells := 0, slots := 0, locals := 35 } s m args below meth c (sx_A b 26 s.heap.size) 14 0 0 (sx_fin (sx_wp D G b lyM 26) (sx_A b 26 s.heap.size) below args s 0 0 (sx_pi f Q) (fun _ _ => False)) f 103 [(0, .ref (b + 0)), (2, .int x2), (3, .int v3), (4, .int v4), (5, .int v5), (6, .int v6), (7, .int v7), (8, .int v8), (9, .int v9), (10, .int v10), (11, .int v11), (12, .int v12)] [])
  replace h := h (fun (v3 : Int32) (v4 : Int32) (v6 : Int32) (v7 : Int32) (v8 : Int32) (v9 : Int32) (v10 : Int32) (v11 : Int32) (v12 : Int32) (s0 : Int32) (s1 : Int32) => sx_J (sx_wp D G b lyM 26) p l e { frames := 2, cells := 0, slots := 0, locals := 35 } s m args below meth c (sx_A b 26 s.heap.size) 14 0 0 (sx_fin (sx_wp D G b lyM 26) (sx_A b 26 s.heap.size) below args s 0 0 (sx_pi f Q) (fun _ _ => False)) f 172 [(0, .ref (b + 0)), (2, .int x2), (3, .int v3), (4, .int v4), (6, .int v6), (7, .int v7), (8, .int v8), (9, .int v9), (10, .int v10), (11, .int v11), (12, .int v12)] [.int s1, .int s0])
  replace h := h (fun (v3 : Int32) (v4 : Int32) (v5 : Int32) (v7 : Int32) (v8 : Int32) (v9 : Int32) (v10 : Int32) (v11 : Int32) (v12 : Int32) (s0 : Int32) (s1 : Int32) => sx_J (sx_wp D G b lyM 26) p l e { frames := 2, cells := 0, slots := 0, locals := 35 } s m args below meth c (sx_A b 26 s.heap.size) 14 0 0 (sx_fin (sx_wp D G b lyM 26) (sx_A b 26 s.heap.size) below args s 0 0 (sx_pi f Q) (fun _ _ => False)) f 194 [(0, .ref (b + 0)), (2, .int x2), (3, .int v3), (4, .int v4), (5, .int v5), (7, .int v7), (8, .int v8), (9, .int v9), (10, .int v10), (11, .int v11), (12, .int v12)] [.int s1, .int s0])
  replace h := h (fun (v3 : Int32) (v4 : Int32) (v5 : Int32) (v6 : Int32) (v7 : Int32) (v8 : Int32) (v9 : Int32) (v10 : Int32) (v11 : Int32) => sx_J (sx_wp D G b lyM 26) p l e { frames := 2, cells := 0, slots := 0, locals := 35 } s m args below meth c (sx_A b 26 s.heap.size) 14 0 0 (sx_fin (sx_wp D G b lyM 26) (sx_A b 26 s.heap.size) below args s 0 0 (sx_pi f Q) (fun _ _ => False)) f 203 [(0, .ref (b + 0)), (2, .int x2), (3, .int v3), (4, .int v4), (5, .int v5), (6, .int v6), (7, .int v7), (8, .int v8), (9, .int v9), (10, .int v10), (11, .int v11)] [])
  replace h := h (fun (v5 : Int32) (v6 : Int32) (v7 : Int32) (v8 : Int32) (v11 : Int32) (v12 : Int32) => sx_J (sx_wp D G b lyM 26) p l e { frames := 2, cells := 0, slots := 0, locals := 35 } s m args below meth c (sx_A b 26 s.heap.size) 14 0 0 (sx_fin (sx_wp D G b lyM 26) (sx_A b 26 s.heap.size) below args s 0 0 (sx_pi f Q) (fun _ _ => False)) f 264 [(5, .int v5), (6, .int v6), (7, .int v7), (8, .int v8), (11, .int v11), (12, .int v12)] [])
  replace h := h (fun (v5 : Int32) (v6 : Int32) (v7 : Int32) (v8 : Int32) (v11 : Int32) (s0 : Int32) => sx_J (sx_wp D G b lyM 26) p l e { frames := 2, cells := 0, slots := 0, locals := 35 } s m args below meth c (sx_A b 26 s.heap.size) 14 0 0 (sx_fin (sx_wp D G b lyM 26) (sx_A b 26 s.heap.size) below args s 0 0 (sx_pi f Q) (fun _ _ => False)) f 298 [(5, .int v5), (6, .int v6), (7, .int v7), (8, .int v8), (11, .int v11)] [.int s0])
  replace h := h (by
    intro v3 v4 v5 v6 v7 v8 v9 v10 v11 h
    refine sx_iload C dX7_placeOf_35 10 rfl 37 rfl ?_
    refine sx_aload_n C dX7_placeOf_37 0 0 rfl rfl 38 rfl ?_
    refine sx_geti C (T := TX7) (C0 := RX7) (N := 34) (j := 20) dX7_placeOf_38 fl_X7_161 inw_X7 rfl (by decide) rfl (by decide) lyM_0 rfl 41 rfl ?_
    refine sx_icmp_ge C dX7_placeOf_41 209 44 (by decide) rfl (fun c1 => ?_) (fun c1 => ?_)
    · replace h := h.1 c1
      refine sx_bipush C dX7_placeOf_209 8 (by decide) 211 rfl ?_
      refine sx_iload C dX7_placeOf_211 9 rfl 213 rfl ?_
      refine sx_imul C dX7_placeOf_213 214 rfl ?_
      refine sx_iconst C dX7_placeOf_214 4 (by decide) 215 rfl ?_
      refine sx_iadd C dX7_placeOf_215 216 rfl ?_
      refine sx_iload C dX7_placeOf_216 4 rfl 218 rfl ?_
      refine sx_iadd C dX7_placeOf_218 219 rfl ?_
      refine sx_topi (fun y2 ey2 => ?_)
      replace h := h y2 ey2
      refine sx_istore C dX7_placeOf_219 [(11, .int y2), (0, .ref (b + 0)), (2, .int x2), (3, .int v3), (4, .int v4), (5, .int v5), (6, .int v6), (7, .int v7), (8, .int v8), (9, .int v9), (10, .int v10)] (by decide) rfl 221 rfl ?_
      refine sx_aload_n C dX7_placeOf_221 0 1 rfl rfl 222 rfl ?_
      refine sx_geti C (T := TX7) (C0 := RX7) (N := 34) (j := 6) dX7_placeOf_222 fl_X7_25 inw_X7 rfl (by decide) rfl (by decide) lyM_0 rfl 225 rfl ?_
      refine sx_bipush C dX7_placeOf_225 8 (by decide) 227 rfl ?_
      refine sx_iload C dX7_placeOf_227 9 rfl 229 rfl ?_
      refine sx_imul C dX7_placeOf_229 230 rfl ?_
      refine sx_isub C dX7_placeOf_230 231 rfl ?_
      refine sx_iload C dX7_placeOf_231 7 rfl 233 rfl ?_
      refine sx_isub C dX7_placeOf_233 234 rfl ?_
      refine sx_topi (fun y3 ey3 => ?_)
      replace h := h y3 ey3
      refine sx_istore C dX7_placeOf_234 [(12, .int y3), (11, .int y2), (0, .ref (b + 0)), (2, .int x2), (3, .int v3), (4, .int v4), (5, .int v5), (6, .int v6), (7, .int v7), (8, .int v8), (9, .int v9), (10, .int v10)] (by decide) rfl 236 rfl ?_
      refine sx_iload C dX7_placeOf_236 0 rfl 238 rfl ?_
      refine sx_if_le C dX7_placeOf_238 264 241 (by decide) rfl (fun c4 => ?_) (fun c4 => ?_)
      · replace h := h.1 c4
        exact sx_sub [6, 7, 8, 9, 1, 0] rfl h
      · replace h := h.2 c4
        refine sx_iload C dX7_placeOf_241 5 rfl 243 rfl ?_
        refine sx_aload_n C dX7_placeOf_243 0 2 rfl rfl 244 rfl ?_
        refine sx_geti C (T := TX7) (C0 := RX7) (N := 34) (j := 31) dX7_placeOf_244 fl_X7_190 inw_X7 rfl (by decide) rfl (by decide) lyM_0 rfl 247 rfl ?_
        refine sx_iconst C dX7_placeOf_247 1 (by decide) 248 rfl ?_
        refine sx_isub C dX7_placeOf_248 249 rfl ?_
        refine sx_icmp_ge C dX7_placeOf_249 264 252 (by decide) rfl (fun c5 => ?_) (fun c5 => ?_)
        · replace h := h.1 c5
          exact sx_sub [6, 7, 8, 9, 1, 0] rfl h
        · replace h := h.2 c5
          refine sx_iload C dX7_placeOf_252 1 rfl 254 rfl ?_
          refine sx_iload C dX7_placeOf_254 0 rfl 256 rfl ?_
          refine sx_iload C dX7_placeOf_256 6 rfl 258 rfl ?_
          refine sx_imul C dX7_placeOf_258 259 rfl ?_
          refine sx_iload C dX7_placeOf_259 8 rfl 261 rfl ?_
          refine sx_idiv C dX7_placeOf_261 h.1 262 rfl ?_
          replace h := h.2
          refine sx_iadd C dX7_placeOf_262 263 rfl ?_
          exact sx_iret C dX7_placeOf_263 hr (Nat.le_of_ble_eq_true rfl) (Nat.le_of_ble_eq_true rfl) ⟨⟨_, rfl, h⟩, rfl⟩
    · replace h := h.2 c1
      refine sx_iload C dX7_placeOf_44 9 rfl 46 rfl ?_
      refine sx_aload_n C dX7_placeOf_46 0 0 rfl rfl 47 rfl ?_
      refine sx_getq C (T := TX7) (C0 := RX7) (N := 34) (j := 30) dX7_placeOf_47 fl_X7_89 inw_X7 rfl (by decide) rfl (by decide) lyM_0 rfl 50 rfl ?_
      refine sx_iload C dX7_placeOf_50 10 rfl 52 rfl ?_
      refine sx_iald C dX7_placeOf_52 (by decide) lyM_25 h.1 53 rfl ?_
      replace h := h.2
      refine sx_iload C dX7_placeOf_53 3 rfl 55 rfl ?_
      refine sx_icmp_ne C dX7_placeOf_55 68 58 (by decide) rfl (fun c6 => ?_) (fun c6 => ?_)
      · replace h := h.2 c6
        exact sx_sub [0, 1, 2, 3, 4, 5, 6, 7, 8, 10] rfl h
      · replace h := h.1 c6
        refine sx_iload C dX7_placeOf_58 10 rfl 60 rfl ?_
        refine sx_iload_n C dX7_placeOf_60 3 2 rfl rfl 61 rfl ?_
        refine sx_icmp_ge C dX7_placeOf_61 68 64 (by decide) rfl (fun c7 => ?_) (fun c7 => ?_)
        · replace h := h.1 c7
          exact sx_sub [0, 1, 2, 3, 4, 5, 6, 7, 8, 10] rfl h
        · replace h := h.2 c7
          refine sx_iconst C dX7_placeOf_64 1 (by decide) 65 rfl ?_
          refine sx_goto C dX7_placeOf_65 69 (by decide) ?_
          exact sx_sub [0, 1, 2, 3, 4, 5, 6, 7, 8, 10] rfl h)
  replace h := h (by
    intro v3 v4 v5 v6 v7 v8 v9 v11 s0 h
    refine sx_iconst C dX7_placeOf_68 0 (by decide) 69 rfl ?_
    exact sx_sub [0, 1, 2, 3, 4, 5, 6, 7, 8, 9] rfl h)
  replace h := h (by
    intro v3 v4 v5 v6 v7 v8 v9 v11 s0 s1 h
    refine sx_iadd C dX7_placeOf_69 70 rfl ?_
    refine sx_topi (fun y8 ey8 => ?_)
    replace h := h y8 ey8
    refine sx_istore C dX7_placeOf_70 [(10, .int y8), (0, .ref (b + 0)), (2, .int x2), (3, .int v3), (4, .int v4), (5, .int v5), (6, .int v6), (7, .int v7), (8, .int v8), (9, .int v9), (11, .int v11)] (by decide) rfl 72 rfl ?_
    refine sx_iload C dX7_placeOf_72 9 rfl 74 rfl ?_
    refine sx_aload_n C dX7_placeOf_74 0 1 rfl rfl 75 rfl ?_
    refine sx_getq C (T := TX7) (C0 := RX7) (N := 34) (j := 30) dX7_placeOf_75 fl_X7_89 inw_X7 rfl (by decide) rfl (by decide) lyM_0 rfl 78 rfl ?_
    refine sx_iload C dX7_placeOf_78 10 rfl 80 rfl ?_
    refine sx_iald C dX7_placeOf_80 (by decide) lyM_25 h.1 81 rfl ?_
    replace h := h.2
    refine sx_iload C dX7_placeOf_81 4 rfl 83 rfl ?_
    refine sx_icmp_ne C dX7_placeOf_83 90 86 (by decide) rfl (fun c9 => ?_) (fun c9 => ?_)
    · replace h := h.2 c9
      refine sx_iconst C dX7_placeOf_90 0 (by decide) 91 rfl ?_
      exact sx_sub [1, 2, 3, 4, 5, 6, 7, 8, 0, 10] rfl h
    · replace h := h.1 c9
      refine sx_iconst C dX7_placeOf_86 1 (by decide) 87 rfl ?_
      refine sx_goto C dX7_placeOf_87 91 (by decide) ?_
      exact sx_sub [1, 2, 3, 4, 5, 6, 7, 8, 0, 10] rfl h)
  replace h := h (by
    intro v3 v4 v5 v6 v7 v8 v10 v11 s0 s1 h
    refine sx_iadd C dX7_placeOf_91 92 rfl ?_
    refine sx_topi (fun y10 ey10 => ?_)
    replace h := h y10 ey10
    refine sx_istore C dX7_placeOf_92 [(9, .int y10), (0, .ref (b + 0)), (2, .int x2), (3, .int v3), (4, .int v4), (5, .int v5), (6, .int v6), (7, .int v7), (8, .int v8), (10, .int v10), (11, .int v11)] (by decide) rfl 94 rfl ?_
    refine sx_aload_n C dX7_placeOf_94 0 1 rfl rfl 95 rfl ?_
    refine sx_getq C (T := TX7) (C0 := RX7) (N := 34) (j := 21) dX7_placeOf_95 fl_X7_62 inw_X7 rfl (by decide) rfl (by decide) lyM_0 rfl 98 rfl ?_
    refine sx_iload C dX7_placeOf_98 10 rfl 100 rfl ?_
    refine sx_iald C dX7_placeOf_100 (by decide) lyM_16 h.1 101 rfl ?_
    replace h := h.2
    refine sx_topi (fun y11 ey11 => ?_)
    replace h := h y11 ey11
    refine sx_istore C dX7_placeOf_101 [(12, .int y11), (9, .int y10), (0, .ref (b + 0)), (2, .int x2), (3, .int v3), (4, .int v4), (5, .int v5), (6, .int v6), (7, .int v7), (8, .int v8), (10, .int v10), (11, .int v11)] (by decide) rfl 103 rfl ?_
    exact sx_sub [2, 3, 4, 5, 6, 7, 8, 9, 1, 10, 11, 0] rfl h)
  replace h := h (by
    intro v3 v4 v5 v6 v7 v8 v9 v10 v11 v12 h
    refine sx_iload C dX7_placeOf_103 11 rfl 105 rfl ?_
    refine sx_aload_n C dX7_placeOf_105 0 0 rfl rfl 106 rfl ?_
    refine sx_getq C (T := TX7) (C0 := RX7) (N := 34) (j := 21) dX7_placeOf_106 fl_X7_62 inw_X7 rfl (by decide) rfl (by decide) lyM_0 rfl 109 rfl ?_
    refine sx_iload C dX7_placeOf_109 10 rfl 111 rfl ?_
    refine sx_iconst C dX7_placeOf_111 1 (by decide) 112 rfl ?_
    refine sx_iadd C dX7_placeOf_112 113 rfl ?_
    refine sx_iald C dX7_placeOf_113 (by decide) lyM_16 h.1 114 rfl ?_
    replace h := h.2
    refine sx_icmp_ge C dX7_placeOf_114 203 117 (by decide) rfl (fun c12 => ?_) (fun c12 => ?_)
    · replace h := h.1 c12
      exact sx_sub [0, 1, 2, 3, 4, 5, 6, 7, 8, 9, 10] rfl h
    · replace h := h.2 c12
      refine sx_aload_n C dX7_placeOf_117 0 0 rfl rfl 118 rfl ?_
      refine sx_getq C (T := TX7) (C0 := RX7) (N := 34) (j := 30) dX7_placeOf_118 fl_X7_89 inw_X7 rfl (by decide) rfl (by decide) lyM_0 rfl 121 rfl ?_
      refine sx_iload C dX7_placeOf_121 10 rfl 123 rfl ?_
      refine sx_iald C dX7_placeOf_123 (by decide) lyM_25 h.1 124 rfl ?_
      replace h := h.2
      refine sx_iload C dX7_placeOf_124 3 rfl 126 rfl ?_
      refine sx_icmp_ne C dX7_placeOf_126 203 129 (by decide) rfl (fun c13 => ?_) (fun c13 => ?_)
      · replace h := h.2 c13
        exact sx_sub [0, 1, 2, 3, 4, 5, 6, 7, 8, 9, 10] rfl h
      · replace h := h.1 c13
        refine sx_iload C dX7_placeOf_129 6 rfl 131 rfl ?_
        refine sx_aload_n C dX7_placeOf_131 0 0 rfl rfl 132 rfl ?_
        refine sx_getq C (T := TX7) (C0 := RX7) (N := 34) (j := 23) dX7_placeOf_132 fl_X7_68 inw_X7 rfl (by decide) rfl (by decide) lyM_0 rfl 135 rfl ?_
        refine sx_iload C dX7_placeOf_135 11 rfl 137 rfl ?_
        refine sx_iald C dX7_placeOf_137 (by decide) lyM_18 h.1 138 rfl ?_
        replace h := h.2
        refine sx_iadd C dX7_placeOf_138 139 rfl ?_
        refine sx_topi (fun y14 ey14 => ?_)
        replace h := h y14 ey14
        refine sx_istore C dX7_placeOf_139 [(7, .int y14), (0, .ref (b + 0)), (2, .int x2), (3, .int v3), (4, .int v4), (5, .int v5), (6, .int v6), (8, .int v8), (9, .int v9), (10, .int v10), (11, .int v11), (12, .int v12)] (by decide) rfl 141 rfl ?_
        refine sx_iload C dX7_placeOf_141 7 rfl 143 rfl ?_
        refine sx_aload_n C dX7_placeOf_143 0 1 rfl rfl 144 rfl ?_
        refine sx_getq C (T := TX7) (C0 := RX7) (N := 34) (j := 24) dX7_placeOf_144 fl_X7_71 inw_X7 rfl (by decide) rfl (by decide) lyM_0 rfl 147 rfl ?_
        refine sx_iload C dX7_placeOf_147 11 rfl 149 rfl ?_
        refine sx_iald C dX7_placeOf_149 (by decide) lyM_19 h.1 150 rfl ?_
        replace h := h.2
        refine sx_iadd C dX7_placeOf_150 151 rfl ?_
        refine sx_topi (fun y15 ey15 => ?_)
        replace h := h y15 ey15
        refine sx_istore C dX7_placeOf_151 [(8, .int y15), (7, .int y14), (0, .ref (b + 0)), (2, .int x2), (3, .int v3), (4, .int v4), (5, .int v5), (6, .int v6), (9, .int v9), (10, .int v10), (11, .int v11), (12, .int v12)] (by decide) rfl 153 rfl ?_
        refine sx_iload C dX7_placeOf_153 6 rfl 155 rfl ?_
        refine sx_iload C dX7_placeOf_155 11 rfl 157 rfl ?_
        refine sx_iload_n C dX7_placeOf_157 2 3 rfl rfl 158 rfl ?_
        refine sx_icmp_ge C dX7_placeOf_158 171 161 (by decide) rfl (fun c16 => ?_) (fun c16 => ?_)
        · replace h := h.1 c16
          refine sx_iconst C dX7_placeOf_171 0 (by decide) 172 rfl ?_
          exact sx_sub [2, 3, 4, 5, 7, 1, 0, 8, 9, 10, 11] rfl h
        · replace h := h.2 c16
          refine sx_aload_n C dX7_placeOf_161 0 2 rfl rfl 162 rfl ?_
          refine sx_getq C (T := TX7) (C0 := RX7) (N := 34) (j := 23) dX7_placeOf_162 fl_X7_68 inw_X7 rfl (by decide) rfl (by decide) lyM_0 rfl 165 rfl ?_
          refine sx_iload C dX7_placeOf_165 11 rfl 167 rfl ?_
          refine sx_iald C dX7_placeOf_167 (by decide) lyM_18 h.1 168 rfl ?_
          replace h := h.2
          refine sx_goto C dX7_placeOf_168 172 (by decide) ?_
          exact sx_sub [2, 3, 4, 5, 7, 1, 0, 8, 9, 10, 11] rfl h)
  replace h := h (by
    intro v3 v4 v6 v7 v8 v9 v10 v11 v12 s0 s1 h
    refine sx_iadd C dX7_placeOf_172 173 rfl ?_
    refine sx_topi (fun y17 ey17 => ?_)
    replace h := h y17 ey17
    refine sx_istore C dX7_placeOf_173 [(5, .int y17), (0, .ref (b + 0)), (2, .int x2), (3, .int v3), (4, .int v4), (6, .int v6), (7, .int v7), (8, .int v8), (9, .int v9), (10, .int v10), (11, .int v11), (12, .int v12)] (by decide) rfl 175 rfl ?_
    refine sx_iload C dX7_placeOf_175 5 rfl 177 rfl ?_
    refine sx_iload C dX7_placeOf_177 11 rfl 179 rfl ?_
    refine sx_iload_n C dX7_placeOf_179 2 2 rfl rfl 180 rfl ?_
    refine sx_icmp_ge C dX7_placeOf_180 193 183 (by decide) rfl (fun c18 => ?_) (fun c18 => ?_)
    · replace h := h.1 c18
      refine sx_iconst C dX7_placeOf_193 0 (by decide) 194 rfl ?_
      exact sx_sub [1, 2, 3, 4, 0, 6, 7, 8, 9, 10, 11] rfl h
    · replace h := h.2 c18
      refine sx_aload_n C dX7_placeOf_183 0 1 rfl rfl 184 rfl ?_
      refine sx_getq C (T := TX7) (C0 := RX7) (N := 34) (j := 24) dX7_placeOf_184 fl_X7_71 inw_X7 rfl (by decide) rfl (by decide) lyM_0 rfl 187 rfl ?_
      refine sx_iload C dX7_placeOf_187 11 rfl 189 rfl ?_
      refine sx_iald C dX7_placeOf_189 (by decide) lyM_19 h.1 190 rfl ?_
      replace h := h.2
      refine sx_goto C dX7_placeOf_190 194 (by decide) ?_
      exact sx_sub [1, 2, 3, 4, 0, 6, 7, 8, 9, 10, 11] rfl h)
  replace h := h (by
    intro v3 v4 v5 v7 v8 v9 v10 v11 v12 s0 s1 h
    refine sx_iadd C dX7_placeOf_194 195 rfl ?_
    refine sx_topi (fun y19 ey19 => ?_)
    replace h := h y19 ey19
    refine sx_istore C dX7_placeOf_195 [(6, .int y19), (0, .ref (b + 0)), (2, .int x2), (3, .int v3), (4, .int v4), (5, .int v5), (7, .int v7), (8, .int v8), (9, .int v9), (10, .int v10), (11, .int v11), (12, .int v12)] (by decide) rfl 197 rfl ?_
    obtain ⟨y20, ey20⟩ : ∃ w : Int32, w = v12 + 1 := ⟨_, rfl⟩
    replace h := h y20 ey20
    refine sx_iinc C dX7_placeOf_197 11 rfl y20 (by rw [ey20]; rfl) [(12, .int y20), (6, .int y19), (0, .ref (b + 0)), (2, .int x2), (3, .int v3), (4, .int v4), (5, .int v5), (7, .int v7), (8, .int v8), (9, .int v9), (10, .int v10), (11, .int v11)] (by decide) rfl 200 rfl ?_
    refine sx_goto C dX7_placeOf_200 103 (by decide) ?_
    exact sx_sub [2, 3, 4, 5, 6, 1, 7, 8, 9, 10, 11, 0] rfl h)
  replace h := h (by
    intro v3 v4 v5 v6 v7 v8 v9 v10 v11 h
    obtain ⟨y21, ey21⟩ : ∃ w : Int32, w = v11 + 1 := ⟨_, rfl⟩
    replace h := h y21 ey21
    refine sx_iinc C dX7_placeOf_203 10 rfl y21 (by rw [ey21]; rfl) [(11, .int y21), (0, .ref (b + 0)), (2, .int x2), (3, .int v3), (4, .int v4), (5, .int v5), (6, .int v6), (7, .int v7), (8, .int v8), (9, .int v9), (10, .int v10)] (by decide) rfl 206 rfl ?_
    refine sx_goto C dX7_placeOf_206 35 (by decide) ?_
    exact sx_sub [1, 2, 3, 4, 5, 6, 7, 8, 9, 10, 0] rfl h)
  replace h := h (by
    intro v5 v6 v7 v8 v11 v12 h
    refine sx_iload C dX7_placeOf_264 5 rfl 266 rfl ?_
    refine sx_if_ge C dX7_placeOf_266 318 269 (by decide) rfl (fun c22 => ?_) (fun c22 => ?_)
    · replace h := h.1 c22
      refine sx_iload C dX7_placeOf_318 4 rfl 320 rfl ?_
      exact sx_iret C dX7_placeOf_320 hr (Nat.le_of_ble_eq_true rfl) (Nat.le_of_ble_eq_true rfl) ⟨⟨_, rfl, h⟩, rfl⟩
    · replace h := h.2 c22
      refine sx_iload C dX7_placeOf_269 2 rfl 271 rfl ?_
      refine sx_iload C dX7_placeOf_271 3 rfl 273 rfl ?_
      refine sx_icmp_le C dX7_placeOf_273 318 276 (by decide) rfl (fun c23 => ?_) (fun c23 => ?_)
      · replace h := h.1 c23
        refine sx_iload C dX7_placeOf_318 4 rfl 320 rfl ?_
        exact sx_iret C dX7_placeOf_320 hr (Nat.le_of_ble_eq_true rfl) (Nat.le_of_ble_eq_true rfl) ⟨⟨_, rfl, h⟩, rfl⟩
      · replace h := h.2 c23
        refine sx_iload C dX7_placeOf_276 5 rfl 278 rfl ?_
        refine sx_ineg C dX7_placeOf_278 279 rfl ?_
        refine sx_iload C dX7_placeOf_279 2 rfl 281 rfl ?_
        refine sx_iload C dX7_placeOf_281 3 rfl 283 rfl ?_
        refine sx_isub C dX7_placeOf_283 284 rfl ?_
        refine sx_icmp_ge C dX7_placeOf_284 293 287 (by decide) rfl (fun c24 => ?_) (fun c24 => ?_)
        · replace h := h.1 c24
          refine sx_iload C dX7_placeOf_293 2 rfl 295 rfl ?_
          refine sx_iload C dX7_placeOf_295 3 rfl 297 rfl ?_
          refine sx_isub C dX7_placeOf_297 298 rfl ?_
          exact sx_sub [0, 1, 2, 3, 4] rfl h
        · replace h := h.2 c24
          refine sx_iload C dX7_placeOf_287 5 rfl 289 rfl ?_
          refine sx_ineg C dX7_placeOf_289 290 rfl ?_
          refine sx_goto C dX7_placeOf_290 298 (by decide) ?_
          exact sx_sub [0, 1, 2, 3, 4] rfl h)
  replace h := h (by
    intro v5 v6 v7 v8 v11 s0 h
    refine sx_istore C dX7_placeOf_298 [(13, .int s0), (5, .int v5), (6, .int v6), (7, .int v7), (8, .int v8), (11, .int v11)] (by decide) rfl 300 rfl ?_
    refine sx_iload C dX7_placeOf_300 5 rfl 302 rfl ?_
    refine sx_iload C dX7_placeOf_302 0 rfl 304 rfl ?_
    refine sx_iload C dX7_placeOf_304 1 rfl 306 rfl ?_
    refine sx_iload C dX7_placeOf_306 2 rfl 308 rfl ?_
    refine sx_isub C dX7_placeOf_308 309 rfl ?_
    refine sx_imul C dX7_placeOf_309 310 rfl ?_
    refine sx_iload C dX7_placeOf_310 3 rfl 312 rfl ?_
    refine sx_iload C dX7_placeOf_312 4 rfl 314 rfl ?_
    refine sx_isub C dX7_placeOf_314 315 rfl ?_
    refine sx_idiv C dX7_placeOf_315 h.1 316 rfl ?_
    replace h := h.2
    refine sx_isub C dX7_placeOf_316 317 rfl ?_
    exact sx_iret C dX7_placeOf_317 hr (Nat.le_of_ble_eq_true rfl) (Nat.le_of_ble_eq_true rfl) ⟨⟨_, rfl, h⟩, rfl⟩)
  refine sx_sub (lv' := [(0, .ref (b + 0)), (1, .int x1), (2, .int x2)]) [0, 1, 2] rfl ?_
  refine sx_aload_n C dX7_placeOf_0 0 0 rfl rfl 1 rfl ?_
  refine sx_iload_n C dX7_placeOf_1 1 1 rfl rfl 2 rfl ?_
  refine sx_callV C ht hB (st := []) dX7_placeOf_2 (c_X7_itemWith hf h) mi_X7_itemWith lk_X7_208 mn_X7_itemWith ms_X7_itemWith (by decide) lyM_0 rfl rfl rfl rfl ⟨⟨(Nat.le_of_ble_eq_true rfl), (Nat.le_of_ble_eq_true rfl)⟩, (Nat.le_of_ble_eq_true rfl), (Nat.le_of_ble_eq_true rfl)⟩ (Nat.le_of_ble_eq_true rfl) ⟨(Nat.le_of_ble_eq_true rfl), (Nat.le_of_ble_eq_true rfl)⟩ (fun _ _ hx => hx.elim) 5 rfl (fun v g26 h => ?_)
  obtain ⟨⟨r25, rfl, h⟩, rfl⟩ := h
  refine sx_istore_n C dX7_placeOf_5 3 rfl [(3, .int r25), (0, .ref (b + 0)), (1, .int x1), (2, .int x2)] (by decide) rfl 6 rfl ?_
  refine sx_aload_n C dX7_placeOf_6 0 1 rfl rfl 7 rfl ?_
  refine sx_getq C (T := TX7) (C0 := RX7) (N := 34) (j := 30) dX7_placeOf_7 fl_X7_89 inw_X7 rfl (by decide) rfl (by decide) lyM_0 rfl 10 rfl ?_
  refine sx_iload_n C dX7_placeOf_10 3 0 rfl rfl 11 rfl ?_
  refine sx_iald C dX7_placeOf_11 (by decide) lyM_25 h.1 12 rfl ?_
  replace h := h.2
  refine sx_topi (fun y27 ey27 => ?_)
  replace h := h y27 ey27
  refine sx_istore C dX7_placeOf_12 [(4, .int y27), (3, .int r25), (0, .ref (b + 0)), (1, .int x1), (2, .int x2)] (by decide) rfl 14 rfl ?_
  refine sx_iconst C dX7_placeOf_14 0 (by decide) 15 rfl ?_
  refine sx_istore C dX7_placeOf_15 [(5, .int 0), (4, .int y27), (3, .int r25), (0, .ref (b + 0)), (1, .int x1), (2, .int x2)] (by decide) rfl 17 rfl ?_
  refine sx_iconst C dX7_placeOf_17 0 (by decide) 18 rfl ?_
  refine sx_istore C dX7_placeOf_18 [(6, .int 0), (5, .int 0), (4, .int y27), (3, .int r25), (0, .ref (b + 0)), (1, .int x1), (2, .int x2)] (by decide) rfl 20 rfl ?_
  refine sx_iconst C dX7_placeOf_20 0 (by decide) 21 rfl ?_
  refine sx_istore C dX7_placeOf_21 [(7, .int 0), (6, .int 0), (5, .int 0), (4, .int y27), (3, .int r25), (0, .ref (b + 0)), (1, .int x1), (2, .int x2)] (by decide) rfl 23 rfl ?_
  refine sx_iconst C dX7_placeOf_23 0 (by decide) 24 rfl ?_
  refine sx_istore C dX7_placeOf_24 [(8, .int 0), (7, .int 0), (6, .int 0), (5, .int 0), (4, .int y27), (3, .int r25), (0, .ref (b + 0)), (1, .int x1), (2, .int x2)] (by decide) rfl 26 rfl ?_
  refine sx_iconst C dX7_placeOf_26 0 (by decide) 27 rfl ?_
  refine sx_istore C dX7_placeOf_27 [(9, .int 0), (8, .int 0), (7, .int 0), (6, .int 0), (5, .int 0), (4, .int y27), (3, .int r25), (0, .ref (b + 0)), (1, .int x1), (2, .int x2)] (by decide) rfl 29 rfl ?_
  refine sx_iconst C dX7_placeOf_29 0 (by decide) 30 rfl ?_
  refine sx_istore C dX7_placeOf_30 [(10, .int 0), (9, .int 0), (8, .int 0), (7, .int 0), (6, .int 0), (5, .int 0), (4, .int y27), (3, .int r25), (0, .ref (b + 0)), (1, .int x1), (2, .int x2)] (by decide) rfl 32 rfl ?_
  refine sx_iconst C dX7_placeOf_32 0 (by decide) 33 rfl ?_
  refine sx_istore C dX7_placeOf_33 [(11, .int 0), (10, .int 0), (9, .int 0), (8, .int 0), (7, .int 0), (6, .int 0), (5, .int 0), (4, .int y27), (3, .int r25), (0, .ref (b + 0)), (1, .int x1), (2, .int x2)] (by decide) rfl 35 rfl ?_
  exact sx_sub [9, 11, 8, 7, 6, 5, 4, 3, 2, 1, 0] rfl h
