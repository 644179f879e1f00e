set_option maxRecDepth 100000 in
set_option maxHeartbeats 4000000 in
theorem c_X7_place {l : Launch} {D : va_G} {G : sx_G} {b : Nat} (hf : l.stackTraces = false) {f : sx_F} {x1 : Int32} {x2 : Int32} {x3 : Int32} {Q : Int32 → sx_F → Prop}  (h : P_X7_place f x1 x2 x3 Q) : sx_Met l D G b 26 lyM yX7_place cX7_place 6 (some .int) 6 139 0 0 [.ref (b + 0), .int x1, .int x2, .int x3] f (sx_qi Q) (fun _ _ => False) := by
  refine sx_enter (own := RX7) hf rfl rfl (Nat.le_of_ble_eq_true rfl) ?_
  intro p e s m args below meth c C hr ht
  have hB : ∀ k, k < 26 → sx_A b 26 s.heap.size (b + k) := fun k h => sx_A.in h
  unfold P_X7_place at h
  replace h := h (fun (f : sx_F) => sx_J (sx_wp D G b lyM 26) p l e { frames := 6, cells := 0, slots := 0, locals := 139 } s m args below meth c (sx_A b 26 s.heap.size) 6 0 0 (sx_fin (sx_wp D G b lyM 26) (sx_A b 26 s.heap.size) below args s 0 0 (sx_qi Q) (fun _ _ => False)) f 19 [(0, .ref (b + 0)), (1, .int x1), (2, .int x2), (3, .int x3)] [])
  replace h := h (fun (f : sx_F) (s0 : Int32) => sx_J (sx_wp D G b lyM 26) p l e { frames := 6, cells := 0, slots := 0, locals := 139 } s m args below meth c (sx_A b 26 s.heap.size) 6 0 0 (sx_fin (sx_wp D G b lyM 26) (sx_A b 26 s.heap.size) below args s 0 0 (sx_qi Q) (fun _ _ => False)) f 20 [(0, .ref (b + 0)), (1, .int x1), (2, .int x2), (3, .int x3)] [.int s0])
  replace h := h (fun (f : sx_F) (v5 : Int32) => sx_J (sx_wp D G b lyM 26) p l e { frames := 6, cells := 0, slots := 0, locals := 139 } s m args below meth c (sx_A b 26 s.heap.size) 6 0 0 (sx_fin (sx_wp D G b lyM 26) (sx_A b 26 s.heap.size) below args s 0 0 (sx_qi Q) (fun _ _ => False)) f 43 [(0, .ref (b + 0)), (2, .int x2), (5, .int v5)] [])
  replace h := h (fun (f : sx_F) (v5 : Int32) (s1 : Int32) => sx_J (sx_wp D G b lyM 26) p l e { frames := 6, cells := 0, slots := 0, locals := 139 } s m args below meth c (sx_A b 26 s.heap.size) 6 0 0 (sx_fin (sx_wp D G b lyM 26) (sx_A b 26 s.heap.size) below args s 0 0 (sx_qi Q) (fun _ _ => False)) f 55 [(0, .ref (b + 0)), (2, .int x2), (5, .int v5)] [.int s1, .ref (b + 0)])
  replace h := h (by
    intro f h
    refine sx_iconst C dX7_place_19 0 (by decide) 20 rfl ?_
    exact sx_sub [0, 1, 2, 3] rfl h)
  replace h := h (by
    intro f s0 h
    refine sx_istore C dX7_place_20 [(4, .int s0), (0, .ref (b + 0)), (1, .int x1), (2, .int x2), (3, .int x3)] (by decide) rfl 22 rfl ?_
    refine sx_iconst C dX7_place_22 (-1) (by decide) 23 rfl ?_
    refine sx_istore C dX7_place_23 [(5, .int (-1)), (4, .int s0), (0, .ref (b + 0)), (1, .int x1), (2, .int x2), (3, .int x3)] (by decide) rfl 25 rfl ?_
    refine sx_iload C dX7_place_25 1 rfl 27 rfl ?_
    refine sx_if_eq C dX7_place_27 43 30 (by decide) rfl (fun c1 => ?_) (fun c1 => ?_)
    · replace h := h.1 c1
      exact sx_sub [2, 4, 0] rfl h
    · replace h := h.2 c1
      refine sx_aload_n C dX7_place_30 0 2 rfl rfl 31 rfl ?_
      refine sx_iload_n C dX7_place_31 1 3 rfl rfl 32 rfl ?_
      refine sx_callV C ht hB (st := []) dX7_place_32 (c_X7_lays hf h) mi_X7_lays lk_X7_211 mn_X7_lays ms_X7_lays (by decide) lyM_0 rfl rfl rfl rfl ⟨⟨(Nat.le_of_ble_eq_true rfl), (Nat.le_of_ble_eq_true rfl)⟩, (Nat.le_of_ble_eq_true rfl), (Nat.le_of_ble_eq_true rfl)⟩ (Nat.le_of_ble_eq_true rfl) ⟨(Nat.le_of_ble_eq_true rfl), (Nat.le_of_ble_eq_true rfl)⟩ (fun _ _ hx => hx.elim) 35 rfl (fun v g2 h => ?_)
      obtain ⟨rfl, h⟩ := h
      refine sx_aload_n C dX7_place_35 0 2 rfl rfl 36 rfl ?_
      refine sx_iload_n C dX7_place_36 2 4 rfl rfl 37 rfl ?_
      refine sx_iload_n C dX7_place_37 3 5 rfl rfl 38 rfl ?_
      refine sx_callV C ht hB (st := []) dX7_place_38 (c_X7_springAt hf h) mi_X7_springAt lk_X7_217 mn_X7_springAt ms_X7_springAt (by decide) lyM_0 rfl rfl rfl rfl ⟨⟨(Nat.le_of_ble_eq_true rfl), (Nat.le_of_ble_eq_true rfl)⟩, (Nat.le_of_ble_eq_true rfl), (Nat.le_of_ble_eq_true rfl)⟩ (Nat.le_of_ble_eq_true rfl) ⟨(Nat.le_of_ble_eq_true rfl), (Nat.le_of_ble_eq_true rfl)⟩ (fun _ _ hx => hx.elim) 41 rfl (fun v g4 h => ?_)
      obtain ⟨⟨r3, rfl, h⟩, rfl⟩ := h
      refine sx_istore C dX7_place_41 [(5, .int r3), (4, .int s0), (0, .ref (b + 0)), (1, .int x1), (2, .int x2), (3, .int x3)] (by decide) rfl 43 rfl ?_
      exact sx_sub [2, 4, 0] rfl h)
  replace h := h (by
    intro f v5 h
    refine sx_aload_n C dX7_place_43 0 0 rfl rfl 44 rfl ?_
    refine sx_iload C dX7_place_44 2 rfl 46 rfl ?_
    refine sx_iconst C dX7_place_46 (-1) (by decide) 47 rfl ?_
    refine sx_icmp_eq C dX7_place_47 54 50 (by decide) rfl (fun c5 => ?_) (fun c5 => ?_)
    · replace h := h.1 c5
      refine sx_iconst C dX7_place_54 0 (by decide) 55 rfl ?_
      exact sx_sub [0, 1, 2] rfl h
    · replace h := h.2 c5
      refine sx_iconst C dX7_place_50 1 (by decide) 51 rfl ?_
      refine sx_goto C dX7_place_51 55 (by decide) ?_
      exact sx_sub [0, 1, 2] rfl h)
  replace h := h (by
    intro f v5 s1 h
    refine sx_iconst C dX7_place_55 1 (by decide) 56 rfl ?_
    refine sx_iconst C dX7_place_56 1 (by decide) 57 rfl ?_
    refine sx_callV C ht hB (st := []) dX7_place_57 (c_X7_goes hf h) mi_X7_goes lk_X7_105 mn_X7_goes ms_X7_goes (by decide) lyM_0 rfl rfl rfl rfl ⟨⟨(Nat.le_of_ble_eq_true rfl), (Nat.le_of_ble_eq_true rfl)⟩, (Nat.le_of_ble_eq_true rfl), (Nat.le_of_ble_eq_true rfl)⟩ (Nat.le_of_ble_eq_true rfl) ⟨(Nat.le_of_ble_eq_true rfl), (Nat.le_of_ble_eq_true rfl)⟩ (fun _ _ hx => hx.elim) 60 rfl (fun v g6 h => ?_)
    obtain ⟨r7, rfl, h⟩ := h
    refine sx_if_eq C dX7_place_60 73 63 (by decide) rfl (fun c8 => ?_) (fun c8 => ?_)
    · replace h := h.1 c8
      refine sx_iconst C dX7_place_73 0 (by decide) 74 rfl ?_
      exact sx_iret C dX7_place_74 hr (Nat.le_of_ble_eq_true rfl) (Nat.le_of_ble_eq_true rfl) ⟨_, rfl, h⟩
    · replace h := h.2 c8
      refine sx_aload_n C dX7_place_63 0 0 rfl rfl 64 rfl ?_
      refine sx_iload_n C dX7_place_64 2 1 rfl rfl 65 rfl ?_
      refine sx_iload C dX7_place_65 2 rfl 67 rfl ?_
      refine sx_callV C ht hB (st := []) dX7_place_67 (c_X7_placeOf hf h) mi_X7_placeOf lk_X7_220 mn_X7_placeOf ms_X7_placeOf (by decide) lyM_0 rfl rfl rfl rfl ⟨⟨(Nat.le_of_ble_eq_true rfl), (Nat.le_of_ble_eq_true rfl)⟩, (Nat.le_of_ble_eq_true rfl), (Nat.le_of_ble_eq_true rfl)⟩ (Nat.le_of_ble_eq_true rfl) ⟨(Nat.le_of_ble_eq_true rfl), (Nat.le_of_ble_eq_true rfl)⟩ (fun _ _ hx => hx.elim) 70 rfl (fun v g10 h => ?_)
      obtain ⟨⟨r9, rfl, h⟩, rfl⟩ := h
      refine sx_goto C dX7_place_70 74 (by decide) ?_
      exact sx_iret C dX7_place_74 hr (Nat.le_of_ble_eq_true rfl) (Nat.le_of_ble_eq_true rfl) ⟨_, rfl, h⟩)
  refine sx_sub (lv' := [(0, .ref (b + 0)), (1, .int x1), (2, .int x2), (3, .int x3)]) [0, 1, 2, 3] rfl ?_
  refine sx_iload_n C dX7_place_0 1 1 rfl rfl 1 rfl ?_
  refine sx_callS C ht hB (st := []) dX7_place_1 (c_X7_isBook hf h) mi_X7_isBook lk_X7_205 mt_X7_isBook rfl rfl ⟨⟨(Nat.le_of_ble_eq_true rfl), (Nat.le_of_ble_eq_true rfl)⟩, (Nat.le_of_ble_eq_true rfl), (Nat.le_of_ble_eq_true rfl)⟩ (Nat.le_of_ble_eq_true rfl) ⟨(Nat.le_of_ble_eq_true rfl), (Nat.le_of_ble_eq_true rfl)⟩ (fun _ _ hx => hx.elim) 4 rfl (fun v g12 h => ?_)
  obtain ⟨⟨r11, rfl, h⟩, rfl⟩ := h
  refine sx_if_eq C dX7_place_4 19 7 (by decide) rfl (fun c13 => ?_) (fun c13 => ?_)
  · replace h := h.1 c13
    exact sx_sub [0, 1, 2, 3] rfl h
  · replace h := h.2 c13
    refine sx_aload_n C dX7_place_7 0 0 rfl rfl 8 rfl ?_
    refine sx_iload_n C dX7_place_8 2 2 rfl rfl 9 rfl ?_
    refine sx_callV C ht hB (st := []) dX7_place_9 (c_X7_isBar hf h) mi_X7_isBar lk_X7_113 mn_X7_isBar ms_X7_isBar (by decide) lyM_0 rfl rfl rfl rfl ⟨⟨(Nat.le_of_ble_eq_true rfl), (Nat.le_of_ble_eq_true rfl)⟩, (Nat.le_of_ble_eq_true rfl), (Nat.le_of_ble_eq_true rfl)⟩ (Nat.le_of_ble_eq_true rfl) ⟨(Nat.le_of_ble_eq_true rfl), (Nat.le_of_ble_eq_true rfl)⟩ (fun _ _ hx => hx.elim) 12 rfl (fun v g15 h => ?_)
    obtain ⟨⟨r14, rfl, h⟩, rfl⟩ := h
    refine sx_if_eq C dX7_place_12 19 15 (by decide) rfl (fun c16 => ?_) (fun c16 => ?_)
    · replace h := h.1 c16
      exact sx_sub [0, 1, 2, 3] rfl h
    · replace h := h.2 c16
      refine sx_iconst C dX7_place_15 1 (by decide) 16 rfl ?_
      refine sx_goto C dX7_place_16 20 (by decide) ?_
      exact sx_sub [0, 1, 2, 3] rfl h
set_option maxRecDepth 100000 in
set_option maxHeartbeats 4000000 in
theorem c_X7_copies {l : Launch} {D : va_G} {G : sx_G} {b : Nat} (hf : l.stackTraces = false) {f : sx_F}  {Q : Int32 → sx_F → Prop}  (h : P_X7_copies f  Q) : sx_Met l D G b 26 lyM yX7_copies cX7_copies 1 (some .int) 1 13 0 0 [.ref (b + 0)] f (sx_qi Q) (fun _ _ => False) := by
  refine sx_enter (own := RX7) hf rfl rfl (Nat.le_of_ble_eq_true rfl) ?_
  intro p e s m args below meth c C hr ht
  have hB : ∀ k, k < 26 → sx_A b 26 s.heap.size (b + k) := fun k h => sx_A.in h
  unfold P_X7_copies at h
  refine sx_sub (lv' := [(0, .ref (b + 0))]) [0] rfl ?_
  refine sx_aload_n C dX7_copies_0 0 0 rfl rfl 1 rfl ?_
  refine sx_iconst C dX7_copies_1 0 (by decide) 2 rfl ?_
  refine sx_puti C (T := TX7) (C0 := RX7) (N := 34) (j := 33) dX7_copies_2 fl_X7_92 inw_X7 rfl tyX7 tyX7_ok nmX7 (by decide) rfl rfl rfl hB (by decide) lyM_0 rfl 5 rfl (fun g1 eg1 => ?_)
  replace h := h g1 eg1
  refine sx_aload_n C dX7_copies_5 0 0 rfl rfl 6 rfl ?_
  refine sx_geti C (T := TX7) (C0 := RX7) (N := 34) (j := 11) dX7_copies_6 fl_X7_102 inw_X7 rfl (by decide) rfl (by decide) lyM_0 rfl 9 rfl ?_
  exact sx_iret C dX7_copies_9 hr (Nat.le_of_ble_eq_true rfl) (Nat.le_of_ble_eq_true rfl) ⟨_, rfl, h⟩
set_option maxRecDepth 100000 in
set_option maxHeartbeats 4000000 in
theorem c_X7_deskOf {l : Launch} {D : va_G} {G : sx_G} {b : Nat} (hf : l.stackTraces = false) {f : sx_F} {x1 : Int32} {Q : Int32 → sx_F → Prop}  (h : P_X7_deskOf f x1 Q) : sx_Met l D G b 26 lyM yX7_deskOf cX7_deskOf 2 (some .int) 3 56 0 0 [.ref (b + 0), .int x1] f (sx_qi Q) (fun _ _ => False) := by
  refine sx_enter (own := RX7) hf rfl rfl (Nat.le_of_ble_eq_true rfl) ?_
  intro p e s m args below meth c C hr ht
  have hB : ∀ k, k < 26 → sx_A b 26 s.heap.size (b + k) := fun k h => sx_A.in h
  unfold P_X7_deskOf at h
  refine sx_sub (lv' := [(0, .ref (b + 0)), (1, .int x1)]) [0, 1] rfl ?_
  refine sx_aload_n C dX7_deskOf_0 0 0 rfl rfl 1 rfl ?_
  refine sx_aload_n C dX7_deskOf_1 0 0 rfl rfl 2 rfl ?_
  refine sx_iload_n C dX7_deskOf_2 1 1 rfl rfl 3 rfl ?_
  refine sx_callV C ht hB (st := [.ref (b + 0)]) dX7_deskOf_3 (c_X7_isCopy hf h) mi_X7_isCopy lk_X7_126 mn_X7_isCopy ms_X7_isCopy (by decide) lyM_0 rfl rfl rfl rfl ⟨⟨(Nat.le_of_ble_eq_true rfl), (Nat.le_of_ble_eq_true rfl)⟩, (Nat.le_of_ble_eq_true rfl), (Nat.le_of_ble_eq_true rfl)⟩ (Nat.le_of_ble_eq_true rfl) ⟨(Nat.le_of_ble_eq_true rfl), (Nat.le_of_ble_eq_true rfl)⟩ (fun _ _ hx => hx.elim) 6 rfl (fun v g2 h => ?_)
  obtain ⟨⟨r1, rfl, h⟩, rfl⟩ := h
  refine sx_iconst C dX7_deskOf_6 1 (by decide) 7 rfl ?_
  refine sx_iconst C dX7_deskOf_7 1 (by decide) 8 rfl ?_
  refine sx_callV C ht hB (st := []) dX7_deskOf_8 (c_X7_goes hf h) mi_X7_goes lk_X7_105 mn_X7_goes ms_X7_goes (by decide) lyM_0 rfl rfl rfl rfl ⟨⟨(Nat.le_of_ble_eq_true rfl), (Nat.le_of_ble_eq_true rfl)⟩, (Nat.le_of_ble_eq_true rfl), (Nat.le_of_ble_eq_true rfl)⟩ (Nat.le_of_ble_eq_true rfl) ⟨(Nat.le_of_ble_eq_true rfl), (Nat.le_of_ble_eq_true rfl)⟩ (fun _ _ hx => hx.elim) 11 rfl (fun v g3 h => ?_)
  obtain ⟨r4, rfl, h⟩ := h
  refine sx_if_eq C dX7_deskOf_11 23 14 (by decide) rfl (fun c5 => ?_) (fun c5 => ?_)
  · replace h := h.1 c5
    refine sx_iconst C dX7_deskOf_23 0 (by decide) 24 rfl ?_
    exact sx_iret C dX7_deskOf_24 hr (Nat.le_of_ble_eq_true rfl) (Nat.le_of_ble_eq_true rfl) ⟨_, rfl, h⟩
  · replace h := h.2 c5
    refine sx_aload_n C dX7_deskOf_14 0 0 rfl rfl 15 rfl ?_
    refine sx_getq C (T := TX7) (C0 := RX7) (N := 34) (j := 9) dX7_deskOf_15 fl_X7_35 inw_X7 rfl (by decide) rfl (by decide) lyM_0 rfl 18 rfl ?_
    refine sx_iload_n C dX7_deskOf_18 1 1 rfl rfl 19 rfl ?_
    refine sx_iald C dX7_deskOf_19 (by decide) lyM_7 h.1 20 rfl ?_
    replace h := h.2
    refine sx_goto C dX7_deskOf_20 24 (by decide) ?_
    exact sx_iret C dX7_deskOf_24 hr (Nat.le_of_ble_eq_true rfl) (Nat.le_of_ble_eq_true rfl) ⟨_, rfl, h⟩
set_option maxRecDepth 100000 in
set_option maxHeartbeats 4000000 in
theorem c_X7_has {l : Launch} {D : va_G} {G : sx_G} {b : Nat} (hf : l.stackTraces = false) {f : sx_F} {x1 : Int32} {x2 : Int32} {Q : Int32 → sx_F → Prop}  (h : P_X7_has f x1 x2 Q) : sx_Met l D G b 26 lyM yX7_has cX7_has 3 (some .int) 3 56 0 0 [.ref (b + 0), .int x1, .int x2] f (sx_qi Q) (fun _ _ => False) := by
  refine sx_enter (own := RX7) hf rfl rfl (Nat.le_of_ble_eq_true rfl) ?_
  intro p e s m args below meth c C hr ht
  have hB : ∀ k, k < 26 → sx_A b 26 s.heap.size (b + k) := fun k h => sx_A.in h
  unfold P_X7_has at h
  replace h := h (fun (f : sx_F) => sx_J (sx_wp D G b lyM 26) p l e { frames := 3, cells := 0, slots := 0, locals := 56 } s m args below meth c (sx_A b 26 s.heap.size) 3 0 0 (sx_fin (sx_wp D G b lyM 26) (sx_A b 26 s.heap.size) below args s 0 0 (sx_qi Q) (fun _ _ => False)) f 21 [(0, .ref (b + 0)), (1, .int x1), (2, .int x2)] [.ref (b + 0)])
  replace h := h (fun (f : sx_F) (s1 : Int32) => sx_J (sx_wp D G b lyM 26) p l e { frames := 3, cells := 0, slots := 0, locals := 56 } s m args below meth c (sx_A b 26 s.heap.size) 3 0 0 (sx_fin (sx_wp D G b lyM 26) (sx_A b 26 s.heap.size) below args s 0 0 (sx_qi Q) (fun _ _ => False)) f 22 [(0, .ref (b + 0)), (1, .int x1), (2, .int x2)] [.int s1, .ref (b + 0)])
  replace h := h (by
    intro f h
    refine sx_iconst C dX7_has_21 0 (by decide) 22 rfl ?_
    exact sx_sub [0, 1, 2] rfl h)
  replace h := h (by
    intro f s1 h
    refine sx_iconst C dX7_has_22 1 (by decide) 23 rfl ?_
    refine sx_iconst C dX7_has_23 1 (by decide) 24 rfl ?_
    refine sx_callV C ht hB (st := []) dX7_has_24 (c_X7_goes hf h) mi_X7_goes lk_X7_105 mn_X7_goes ms_X7_goes (by decide) lyM_0 rfl rfl rfl rfl ⟨⟨(Nat.le_of_ble_eq_true rfl), (Nat.le_of_ble_eq_true rfl)⟩, (Nat.le_of_ble_eq_true rfl), (Nat.le_of_ble_eq_true rfl)⟩ (Nat.le_of_ble_eq_true rfl) ⟨(Nat.le_of_ble_eq_true rfl), (Nat.le_of_ble_eq_true rfl)⟩ (fun _ _ hx => hx.elim) 27 rfl (fun v g1 h => ?_)
    obtain ⟨r2, rfl, h⟩ := h
    refine sx_if_ne C dX7_has_27 32 30 (by decide) rfl (fun c3 => ?_) (fun c3 => ?_)
    · replace h := h.2 c3
      refine sx_aload_n C dX7_has_32 0 0 rfl rfl 33 rfl ?_
      refine sx_getq C (T := TX7) (C0 := RX7) (N := 34) (j := 9) dX7_has_33 fl_X7_35 inw_X7 rfl (by decide) rfl (by decide) lyM_0 rfl 36 rfl ?_
      refine sx_iload_n C dX7_has_36 1 1 rfl rfl 37 rfl ?_
      refine sx_iald C dX7_has_37 (by decide) lyM_7 h.1 38 rfl ?_
      replace h := h.2
      refine sx_iconst C dX7_has_38 (-1) (by decide) 39 rfl ?_
      refine sx_icmp_ne C dX7_has_39 60 42 (by decide) rfl (fun c4 => ?_) (fun c4 => ?_)
      · replace h := h.2 c4
        refine sx_aload_n C dX7_has_60 0 0 rfl rfl 61 rfl ?_
        refine sx_getq C (T := TX7) (C0 := RX7) (N := 34) (j := 10) dX7_has_61 fl_X7_38 inw_X7 rfl (by decide) rfl (by decide) lyM_0 rfl 64 rfl ?_
        refine sx_bipush C dX7_has_64 12 (by decide) 66 rfl ?_
        refine sx_iload_n C dX7_has_66 1 1 rfl rfl 67 rfl ?_
        refine sx_imul C dX7_has_67 68 rfl ?_
        refine sx_iload_n C dX7_has_68 2 2 rfl rfl 69 rfl ?_
        refine sx_iadd C dX7_has_69 70 rfl ?_
        refine sx_iald C dX7_has_70 (by decide) lyM_8 h.1 71 rfl ?_
        replace h := h.2
        exact sx_iret C dX7_has_71 hr (Nat.le_of_ble_eq_true rfl) (Nat.le_of_ble_eq_true rfl) ⟨_, rfl, h⟩
      · replace h := h.1 c4
        refine sx_aload_n C dX7_has_42 0 0 rfl rfl 43 rfl ?_
        refine sx_getq C (T := TX7) (C0 := RX7) (N := 34) (j := 4) dX7_has_43 fl_X7_22 inw_X7 rfl (by decide) rfl (by decide) lyM_0 rfl 46 rfl ?_
        refine sx_aload_n C dX7_has_46 0 0 rfl rfl 47 rfl ?_
        refine sx_getq C (T := TX7) (C0 := RX7) (N := 34) (j := 8) dX7_has_47 fl_X7_32 inw_X7 rfl (by decide) rfl (by decide) lyM_0 rfl 50 rfl ?_
        refine sx_iload_n C dX7_has_50 1 1 rfl rfl 51 rfl ?_
        refine sx_iald C dX7_has_51 (by decide) lyM_6 h.1 52 rfl ?_
        replace h := h.2
        refine sx_iload_n C dX7_has_52 2 2 rfl rfl 53 rfl ?_
        refine sx_callS C ht hB (st := [.ref (b + 5)]) dX7_has_53 (c_X7_cell hf h) mi_X7_cell lk_X7_116 mt_X7_cell rfl rfl ⟨⟨(Nat.le_of_ble_eq_true rfl), (Nat.le_of_ble_eq_true rfl)⟩, (Nat.le_of_ble_eq_true rfl), (Nat.le_of_ble_eq_true rfl)⟩ (Nat.le_of_ble_eq_true rfl) ⟨(Nat.le_of_ble_eq_true rfl), (Nat.le_of_ble_eq_true rfl)⟩ (fun _ _ hx => hx.elim) 56 rfl (fun v g6 h => ?_)
        obtain ⟨⟨r5, rfl, h⟩, rfl⟩ := h
        refine sx_iald C dX7_has_56 (by decide) lyM_5 h.1 57 rfl ?_
        replace h := h.2
        refine sx_goto C dX7_has_57 71 (by decide) ?_
        exact sx_iret C dX7_has_71 hr (Nat.le_of_ble_eq_true rfl) (Nat.le_of_ble_eq_true rfl) ⟨_, rfl, h⟩
    · replace h := h.1 c3
      refine sx_iconst C dX7_has_30 0 (by decide) 31 rfl ?_
      exact sx_iret C dX7_has_31 hr (Nat.le_of_ble_eq_true rfl) (Nat.le_of_ble_eq_true rfl) ⟨_, rfl, h⟩)
  refine sx_sub (lv' := [(0, .ref (b + 0)), (1, .int x1), (2, .int x2)]) [0, 1, 2] rfl ?_
  refine sx_aload_n C dX7_has_0 0 0 rfl rfl 1 rfl ?_
  refine sx_aload_n C dX7_has_1 0 0 rfl rfl 2 rfl ?_
  refine sx_iload_n C dX7_has_2 1 1 rfl rfl 3 rfl ?_
  refine sx_callV C ht hB (st := [.ref (b + 0)]) dX7_has_3 (c_X7_isCopy hf h) mi_X7_isCopy lk_X7_126 mn_X7_isCopy ms_X7_isCopy (by decide) lyM_0 rfl rfl rfl rfl ⟨⟨(Nat.le_of_ble_eq_true rfl), (Nat.le_of_ble_eq_true rfl)⟩, (Nat.le_of_ble_eq_true rfl), (Nat.le_of_ble_eq_true rfl)⟩ (Nat.le_of_ble_eq_true rfl) ⟨(Nat.le_of_ble_eq_true rfl), (Nat.le_of_ble_eq_true rfl)⟩ (fun _ _ hx => hx.elim) 6 rfl (fun v g8 h => ?_)
  obtain ⟨⟨r7, rfl, h⟩, rfl⟩ := h
  refine sx_if_eq C dX7_has_6 21 9 (by decide) rfl (fun c9 => ?_) (fun c9 => ?_)
  · replace h := h.1 c9
    exact sx_sub [0, 1, 2] rfl h
  · replace h := h.2 c9
    refine sx_aload_n C dX7_has_9 0 0 rfl rfl 10 rfl ?_
    refine sx_iload_n C dX7_has_10 2 2 rfl rfl 11 rfl ?_
    refine sx_callV C ht hB (st := [.ref (b + 0)]) dX7_has_11 (c_X7_isBar hf h) mi_X7_isBar lk_X7_113 mn_X7_isBar ms_X7_isBar (by decide) lyM_0 rfl rfl rfl rfl ⟨⟨(Nat.le_of_ble_eq_true rfl), (Nat.le_of_ble_eq_true rfl)⟩, (Nat.le_of_ble_eq_true rfl), (Nat.le_of_ble_eq_true rfl)⟩ (Nat.le_of_ble_eq_true rfl) ⟨(Nat.le_of_ble_eq_true rfl), (Nat.le_of_ble_eq_true rfl)⟩ (fun _ _ hx => hx.elim) 14 rfl (fun v g11 h => ?_)
    obtain ⟨⟨r10, rfl, h⟩, rfl⟩ := h
    refine sx_if_eq C dX7_has_14 21 17 (by decide) rfl (fun c12 => ?_) (fun c12 => ?_)
    · replace h := h.1 c12
      exact sx_sub [0, 1, 2] rfl h
    · replace h := h.2 c12
      refine sx_iconst C dX7_has_17 1 (by decide) 18 rfl ?_
      refine sx_goto C dX7_has_18 22 (by decide) ?_
      exact sx_sub [0, 1, 2] rfl h
set_option maxRecDepth 100000 in
set_option maxHeartbeats 4000000 in
theorem c_X7_owed {l : Launch} {D : va_G} {G : sx_G} {b : Nat} (hf : l.stackTraces = false) {f : sx_F} {x1 : Int32} {Q : Int32 → sx_F → Prop}  (h : P_X7_owed f x1 Q) : sx_Met l D G b 26 lyM yX7_owed cX7_owed 2 (some .int) 4 79 0 0 [.ref (b + 0), .int x1] f (sx_qi Q) (fun _ _ => False) := by
  refine sx_enter (own := RX7) hf rfl rfl (Nat.le_of_ble_eq_true rfl) ?_
  intro p e s m args below meth c C hr ht
  have hB : ∀ k, k < 26 → sx_A b 26 s.heap.size (b + k) := fun k h => sx_A.in h
  unfold P_X7_owed at h
  refine sx_sub (lv' := [(0, .ref (b + 0)), (1, .int x1)]) [0, 1] rfl ?_
  refine sx_aload_n C dX7_owed_0 0 0 rfl rfl 1 rfl ?_
  refine sx_aload_n C dX7_owed_1 0 0 rfl rfl 2 rfl ?_
  refine sx_iload_n C dX7_owed_2 1 1 rfl rfl 3 rfl ?_
  refine sx_callV C ht hB (st := [.ref (b + 0)]) dX7_owed_3 (c_X7_isCopy hf h) mi_X7_isCopy lk_X7_126 mn_X7_isCopy ms_X7_isCopy (by decide) lyM_0 rfl rfl rfl rfl ⟨⟨(Nat.le_of_ble_eq_true rfl), (Nat.le_of_ble_eq_true rfl)⟩, (Nat.le_of_ble_eq_true rfl), (Nat.le_of_ble_eq_true rfl)⟩ (Nat.le_of_ble_eq_true rfl) ⟨(Nat.le_of_ble_eq_true rfl), (Nat.le_of_ble_eq_true rfl)⟩ (fun _ _ hx => hx.elim) 6 rfl (fun v g2 h => ?_)
  obtain ⟨⟨r1, rfl, h⟩, rfl⟩ := h
  refine sx_iconst C dX7_owed_6 1 (by decide) 7 rfl ?_
  refine sx_iconst C dX7_owed_7 1 (by decide) 8 rfl ?_
  refine sx_callV C ht hB (st := []) dX7_owed_8 (c_X7_goes hf h) mi_X7_goes lk_X7_105 mn_X7_goes ms_X7_goes (by decide) lyM_0 rfl rfl rfl rfl ⟨⟨(Nat.le_of_ble_eq_true rfl), (Nat.le_of_ble_eq_true rfl)⟩, (Nat.le_of_ble_eq_true rfl), (Nat.le_of_ble_eq_true rfl)⟩ (Nat.le_of_ble_eq_true rfl) ⟨(Nat.le_of_ble_eq_true rfl), (Nat.le_of_ble_eq_true rfl)⟩ (fun _ _ hx => hx.elim) 11 rfl (fun v g3 h => ?_)
  obtain ⟨r4, rfl, h⟩ := h
  refine sx_if_eq C dX7_owed_11 22 14 (by decide) rfl (fun c5 => ?_) (fun c5 => ?_)
  · replace h := h.1 c5
    refine sx_iconst C dX7_owed_22 0 (by decide) 23 rfl ?_
    exact sx_iret C dX7_owed_23 hr (Nat.le_of_ble_eq_true rfl) (Nat.le_of_ble_eq_true rfl) ⟨_, rfl, h⟩
  · replace h := h.2 c5
    refine sx_aload_n C dX7_owed_14 0 0 rfl rfl 15 rfl ?_
    refine sx_iload_n C dX7_owed_15 1 1 rfl rfl 16 rfl ?_
    refine sx_callV C ht hB (st := []) dX7_owed_16 (c_X7_owedBy hf h) mi_X7_owedBy lk_X7_144 mn_X7_owedBy ms_X7_owedBy (by decide) lyM_0 rfl rfl rfl rfl ⟨⟨(Nat.le_of_ble_eq_true rfl), (Nat.le_of_ble_eq_true rfl)⟩, (Nat.le_of_ble_eq_true rfl), (Nat.le_of_ble_eq_true rfl)⟩ (Nat.le_of_ble_eq_true rfl) ⟨(Nat.le_of_ble_eq_true rfl), (Nat.le_of_ble_eq_true rfl)⟩ (fun _ _ hx => hx.elim) 19 rfl (fun v g7 h => ?_)
    obtain ⟨⟨r6, rfl, h⟩, rfl⟩ := h
    refine sx_goto C dX7_owed_19 23 (by decide) ?_
    exact sx_iret C dX7_owed_23 hr (Nat.le_of_ble_eq_true rfl) (Nat.le_of_ble_eq_true rfl) ⟨_, rfl, h⟩
set_option maxRecDepth 100000 in
set_option maxHeartbeats 4000000 in
theorem c_X7_markOf {l : Launch} {D : va_G} {G : sx_G} {b : Nat} (hf : l.stackTraces = false) {f : sx_F} {x1 : Int32} {x2 : Int32} {x3 : Int32} {Q : Int32 → sx_F → Prop}  (h : P_X7_markOf f x1 x2 x3 Q) : sx_Met l D G b 26 lyM yX7_markOf cX7_markOf 5 (some .int) 3 56 0 0 [.ref (b + 0), .int x1, .int x2, .int x3] f (sx_qi Q) (fun _ _ => False) := by
  refine sx_enter (own := RX7) hf rfl rfl (Nat.le_of_ble_eq_true rfl) ?_
  intro p e s m args below meth c C hr ht
  have hB : ∀ k, k < 26 → sx_A b 26 s.heap.size (b + k) := fun k h => sx_A.in h
  unfold P_X7_markOf at h
  replace h := h (fun (f : sx_F) => sx_J (sx_wp D G b lyM 26) p l e { frames := 3, cells := 0, slots := 0, locals := 56 } s m args below meth c (sx_A b 26 s.heap.size) 5 0 0 (sx_fin (sx_wp D G b lyM 26) (sx_A b 26 s.heap.size) below args s 0 0 (sx_qi Q) (fun _ _ => False)) f 28 [(0, .ref (b + 0)), (1, .int x1), (2, .int x2), (3, .int x3)] [])
  replace h := h (fun (f : sx_F) (s0 : Int32) => sx_J (sx_wp D G b lyM 26) p l e { frames := 3, cells := 0, slots := 0, locals := 56 } s m args below meth c (sx_A b 26 s.heap.size) 5 0 0 (sx_fin (sx_wp D G b lyM 26) (sx_A b 26 s.heap.size) below args s 0 0 (sx_qi Q) (fun _ _ => False)) f 29 [(0, .ref (b + 0)), (1, .int x1), (2, .int x2), (3, .int x3)] [.int s0])
  replace h := h (by
    intro f h
    refine sx_iconst C dX7_markOf_28 0 (by decide) 29 rfl ?_
    exact sx_sub [0, 1, 2, 3] rfl h)
  replace h := h (by
    intro f s0 h
    refine sx_istore C dX7_markOf_29 [(4, .int s0), (0, .ref (b + 0)), (1, .int x1), (2, .int x2), (3, .int x3)] (by decide) rfl 31 rfl ?_
    refine sx_aload_n C dX7_markOf_31 0 1 rfl rfl 32 rfl ?_
    refine sx_iload C dX7_markOf_32 0 rfl 34 rfl ?_
    refine sx_iconst C dX7_markOf_34 1 (by decide) 35 rfl ?_
    refine sx_iconst C dX7_markOf_35 1 (by decide) 36 rfl ?_
    refine sx_callV C ht hB (st := []) dX7_markOf_36 (c_X7_goes hf h) mi_X7_goes lk_X7_105 mn_X7_goes ms_X7_goes (by decide) lyM_0 rfl rfl rfl rfl ⟨⟨(Nat.le_of_ble_eq_true rfl), (Nat.le_of_ble_eq_true rfl)⟩, (Nat.le_of_ble_eq_true rfl), (Nat.le_of_ble_eq_true rfl)⟩ (Nat.le_of_ble_eq_true rfl) ⟨(Nat.le_of_ble_eq_true rfl), (Nat.le_of_ble_eq_true rfl)⟩ (fun _ _ hx => hx.elim) 39 rfl (fun v g1 h => ?_)
    obtain ⟨r2, rfl, h⟩ := h
    refine sx_if_eq C dX7_markOf_39 60 42 (by decide) rfl (fun c3 => ?_) (fun c3 => ?_)
    · replace h := h.1 c3
      refine sx_iconst C dX7_markOf_60 0 (by decide) 61 rfl ?_
      exact sx_iret C dX7_markOf_61 hr (Nat.le_of_ble_eq_true rfl) (Nat.le_of_ble_eq_true rfl) ⟨_, rfl, h⟩
    · replace h := h.2 c3
      refine sx_aload_n C dX7_markOf_42 0 1 rfl rfl 43 rfl ?_
      refine sx_getq C (T := TX7) (C0 := RX7) (N := 34) (j := 13) dX7_markOf_43 fl_X7_41 inw_X7 rfl (by decide) rfl (by decide) lyM_0 rfl 46 rfl ?_
      refine sx_bipush C dX7_markOf_46 60 (by decide) 48 rfl ?_
      refine sx_iload_n C dX7_markOf_48 1 2 rfl rfl 49 rfl ?_
      refine sx_imul C dX7_markOf_49 50 rfl ?_
      refine sx_iload_n C dX7_markOf_50 2 3 rfl rfl 51 rfl ?_
      refine sx_iload_n C dX7_markOf_51 3 4 rfl rfl 52 rfl ?_
      refine sx_callS C ht hB (st := [.int (60 * x1), .ref (b + 9)]) dX7_markOf_52 (c_X7_cell hf h) mi_X7_cell lk_X7_116 mt_X7_cell rfl rfl ⟨⟨(Nat.le_of_ble_eq_true rfl), (Nat.le_of_ble_eq_true rfl)⟩, (Nat.le_of_ble_eq_true rfl), (Nat.le_of_ble_eq_true rfl)⟩ (Nat.le_of_ble_eq_true rfl) ⟨(Nat.le_of_ble_eq_true rfl), (Nat.le_of_ble_eq_true rfl)⟩ (fun _ _ hx => hx.elim) 55 rfl (fun v g5 h => ?_)
      obtain ⟨⟨r4, rfl, h⟩, rfl⟩ := h
      refine sx_iadd C dX7_markOf_55 56 rfl ?_
      refine sx_iald C dX7_markOf_56 (by decide) lyM_9 h.1 57 rfl ?_
      replace h := h.2
      refine sx_goto C dX7_markOf_57 61 (by decide) ?_
      exact sx_iret C dX7_markOf_61 hr (Nat.le_of_ble_eq_true rfl) (Nat.le_of_ble_eq_true rfl) ⟨_, rfl, h⟩)
  refine sx_sub (lv' := [(0, .ref (b + 0)), (1, .int x1), (2, .int x2), (3, .int x3)]) [0, 1, 2, 3] rfl ?_
  refine sx_iload_n C dX7_markOf_0 1 1 rfl rfl 1 rfl ?_
  refine sx_iconst C dX7_markOf_1 0 (by decide) 2 rfl ?_
  refine sx_iconst C dX7_markOf_2 5 (by decide) 3 rfl ?_
  refine sx_callS C ht hB (st := []) dX7_markOf_3 (c_X7_in hf h) mi_X7_in lk_X7_95 mt_X7_in rfl rfl ⟨⟨(Nat.le_of_ble_eq_true rfl), (Nat.le_of_ble_eq_true rfl)⟩, (Nat.le_of_ble_eq_true rfl), (Nat.le_of_ble_eq_true rfl)⟩ (Nat.le_of_ble_eq_true rfl) ⟨(Nat.le_of_ble_eq_true rfl), (Nat.le_of_ble_eq_true rfl)⟩ (fun _ _ hx => hx.elim) 6 rfl (fun v g7 h => ?_)
  obtain ⟨⟨r6, rfl, h⟩, rfl⟩ := h
  refine sx_if_eq C dX7_markOf_6 28 9 (by decide) rfl (fun c8 => ?_) (fun c8 => ?_)
  · replace h := h.1 c8
    exact sx_sub [0, 1, 2, 3] rfl h
  · replace h := h.2 c8
    refine sx_iload_n C dX7_markOf_9 2 2 rfl rfl 10 rfl ?_
    refine sx_callS C ht hB (st := []) dX7_markOf_10 (c_X7_isInstrument hf h) mi_X7_isInstrument lk_X7_109 mt_X7_isInstrument rfl rfl ⟨⟨(Nat.le_of_ble_eq_true rfl), (Nat.le_of_ble_eq_true rfl)⟩, (Nat.le_of_ble_eq_true rfl), (Nat.le_of_ble_eq_true rfl)⟩ (Nat.le_of_ble_eq_true rfl) ⟨(Nat.le_of_ble_eq_true rfl), (Nat.le_of_ble_eq_true rfl)⟩ (fun _ _ hx => hx.elim) 13 rfl (fun v g10 h => ?_)
    obtain ⟨⟨r9, rfl, h⟩, rfl⟩ := h
    refine sx_if_eq C dX7_markOf_13 28 16 (by decide) rfl (fun c11 => ?_) (fun c11 => ?_)
    · replace h := h.1 c11
      exact sx_sub [0, 1, 2, 3] rfl h
    · replace h := h.2 c11
      refine sx_aload_n C dX7_markOf_16 0 0 rfl rfl 17 rfl ?_
      refine sx_iload_n C dX7_markOf_17 3 3 rfl rfl 18 rfl ?_
      refine sx_callV C ht hB (st := []) dX7_markOf_18 (c_X7_isBar hf h) mi_X7_isBar lk_X7_113 mn_X7_isBar ms_X7_isBar (by decide) lyM_0 rfl rfl rfl rfl ⟨⟨(Nat.le_of_ble_eq_true rfl), (Nat.le_of_ble_eq_true rfl)⟩, (Nat.le_of_ble_eq_true rfl), (Nat.le_of_ble_eq_true rfl)⟩ (Nat.le_of_ble_eq_true rfl) ⟨(Nat.le_of_ble_eq_true rfl), (Nat.le_of_ble_eq_true rfl)⟩ (fun _ _ hx => hx.elim) 21 rfl (fun v g13 h => ?_)
      obtain ⟨⟨r12, rfl, h⟩, rfl⟩ := h
      refine sx_if_eq C dX7_markOf_21 28 24 (by decide) rfl (fun c14 => ?_) (fun c14 => ?_)
      · replace h := h.1 c14
        exact sx_sub [0, 1, 2, 3] rfl h
      · replace h := h.2 c14
        refine sx_iconst C dX7_markOf_24 1 (by decide) 25 rfl ?_
        refine sx_goto C dX7_markOf_25 29 (by decide) ?_
        exact sx_sub [0, 1, 2, 3] rfl h
set_option maxRecDepth 100000 in
set_option maxHeartbeats 4000000 in
theorem c_X7_oldMarks {l : Launch} {D : va_G} {G : sx_G} {b : Nat} (hf : l.stackTraces = false) {f : sx_F} {x1 : Int32} {Q : Int32 → sx_F → Prop}  (h : P_X7_oldMarks f x1 Q) : sx_Met l D G b 26 lyM yX7_oldMarks cX7_oldMarks 5 (some .int) 2 36 0 0 [.ref (b + 0), .int x1] f (sx_qi Q) (fun _ _ => False) := by
  refine sx_enter (own := RX7) hf rfl rfl (Nat.le_of_ble_eq_true rfl) ?_
  intro p e s m args below meth c C hr ht
  have hB : ∀ k, k < 26 → sx_A b 26 s.heap.size (b + k) := fun k h => sx_A.in h
  unfold P_X7_oldMarks at h
  replace h := h (fun (f : sx_F) (v2 : Int32) (v3 : Int32) (v4 : Int32) => sx_J (sx_wp D G b lyM 26) p l e { frames := 2, cells := 0, slots := 0, locals := 36 } s m args below meth c (sx_A b 26 s.heap.size) 5 0 0 (sx_fin (sx_wp D G b lyM 26) (sx_A b 26 s.heap.size) below args s 0 0 (sx_qi Q) (fun _ _ => False)) f 18 [(0, .ref (b + 0)), (1, .int x1), (2, .int v2), (3, .int v3), (4, .int v4)] [])
  replace h := h (fun (f : sx_F) (v3 : Int32) (v4 : Int32) (s0 : Int32) => sx_J (sx_wp D G b lyM 26) p l e { frames := 2, cells := 0, slots := 0, locals := 36 } s m args below meth c (sx_A b 26 s.heap.size) 5 0 0 (sx_fin (sx_wp D G b lyM 26) (sx_A b 26 s.heap.size) below args s 0 0 (sx_qi Q) (fun _ _ => False)) f 71 [(0, .ref (b + 0)), (1, .int x1), (3, .int v3), (4, .int v4)] [.int s0])
  replace h := h (fun (f : sx_F) (v3 : Int32) (v4 : Int32) (s0 : Int32) (s1 : Int32) => sx_J (sx_wp D G b lyM 26) p l e { frames := 2, cells := 0, slots := 0, locals := 36 } s m args below meth c (sx_A b 26 s.heap.size) 5 0 0 (sx_fin (sx_wp D G b lyM 26) (sx_A b 26 s.heap.size) below args s 0 0 (sx_qi Q) (fun _ _ => False)) f 72 [(0, .ref (b + 0)), (1, .int x1), (3, .int v3), (4, .int v4)] [.int s1, .int s0])
  replace h := h (by
    intro f v2 v3 v4 h
    refine sx_iload_n C dX7_oldMarks_18 3 3 rfl rfl 19 rfl ?_
    refine sx_if_eq C dX7_oldMarks_19 80 22 (by decide) rfl (fun c1 => ?_) (fun c1 => ?_)
    · replace h := h.1 c1
      refine sx_iload_n C dX7_oldMarks_80 2 2 rfl rfl 81 rfl ?_
      exact sx_iret C dX7_oldMarks_81 hr (Nat.le_of_ble_eq_true rfl) (Nat.le_of_ble_eq_true rfl) ⟨_, rfl, h⟩
    · replace h := h.2 c1
      refine sx_iload C dX7_oldMarks_22 4 rfl 24 rfl ?_
      refine sx_bipush C dX7_oldMarks_24 60 (by decide) 26 rfl ?_
      refine sx_icmp_ge C dX7_oldMarks_26 80 29 (by decide) rfl (fun c2 => ?_) (fun c2 => ?_)
      · replace h := h.1 c2
        refine sx_iload_n C dX7_oldMarks_80 2 2 rfl rfl 81 rfl ?_
        exact sx_iret C dX7_oldMarks_81 hr (Nat.le_of_ble_eq_true rfl) (Nat.le_of_ble_eq_true rfl) ⟨_, rfl, h⟩
      · replace h := h.2 c2
        refine sx_iload_n C dX7_oldMarks_29 2 2 rfl rfl 30 rfl ?_
        refine sx_aload_n C dX7_oldMarks_30 0 0 rfl rfl 31 rfl ?_
        refine sx_getq C (T := TX7) (C0 := RX7) (N := 34) (j := 13) dX7_oldMarks_31 fl_X7_41 inw_X7 rfl (by decide) rfl (by decide) lyM_0 rfl 34 rfl ?_
        refine sx_bipush C dX7_oldMarks_34 60 (by decide) 36 rfl ?_
        refine sx_iload_n C dX7_oldMarks_36 1 1 rfl rfl 37 rfl ?_
        refine sx_imul C dX7_oldMarks_37 38 rfl ?_
        refine sx_iload C dX7_oldMarks_38 4 rfl 40 rfl ?_
        refine sx_iadd C dX7_oldMarks_40 41 rfl ?_
        refine sx_iald C dX7_oldMarks_41 (by decide) lyM_9 h.1 42 rfl ?_
        replace h := h.2
        refine sx_if_le C dX7_oldMarks_42 71 45 (by decide) rfl (fun c3 => ?_) (fun c3 => ?_)
        · replace h := h.1 c3
          exact sx_sub [0, 1, 3, 4] rfl h
        · replace h := h.2 c3
          refine sx_aload_n C dX7_oldMarks_45 0 0 rfl rfl 46 rfl ?_
          refine sx_getq C (T := TX7) (C0 := RX7) (N := 34) (j := 14) dX7_oldMarks_46 fl_X7_44 inw_X7 rfl (by decide) rfl (by decide) lyM_0 rfl 49 rfl ?_
          refine sx_bipush C dX7_oldMarks_49 60 (by decide) 51 rfl ?_
          refine sx_iload_n C dX7_oldMarks_51 1 1 rfl rfl 52 rfl ?_
          refine sx_imul C dX7_oldMarks_52 53 rfl ?_
          refine sx_iload C dX7_oldMarks_53 4 rfl 55 rfl ?_
          refine sx_iadd C dX7_oldMarks_55 56 rfl ?_
          refine sx_iald C dX7_oldMarks_56 (by decide) lyM_10 h.1 57 rfl ?_
          replace h := h.2
          refine sx_aload_n C dX7_oldMarks_57 0 0 rfl rfl 58 rfl ?_
          refine sx_getq C (T := TX7) (C0 := RX7) (N := 34) (j := 4) dX7_oldMarks_58 fl_X7_22 inw_X7 rfl (by decide) rfl (by decide) lyM_0 rfl 61 rfl ?_
          refine sx_iload C dX7_oldMarks_61 4 rfl 63 rfl ?_
          refine sx_iald C dX7_oldMarks_63 (by decide) lyM_5 h.1 64 rfl ?_
          replace h := h.2
          refine sx_icmp_eq C dX7_oldMarks_64 71 67 (by decide) rfl (fun c4 => ?_) (fun c4 => ?_)
          · replace h := h.1 c4
            exact sx_sub [0, 1, 3, 4] rfl h
          · replace h := h.2 c4
            refine sx_iconst C dX7_oldMarks_67 1 (by decide) 68 rfl ?_
            refine sx_goto C dX7_oldMarks_68 72 (by decide) ?_
            exact sx_sub [0, 1, 3, 4] rfl h)
  replace h := h (by
    intro f v3 v4 s0 h
    refine sx_iconst C dX7_oldMarks_71 0 (by decide) 72 rfl ?_
    exact sx_sub [0, 1, 2, 3] rfl h)
  replace h := h (by
    intro f v3 v4 s0 s1 h
    refine sx_iadd C dX7_oldMarks_72 73 rfl ?_
    refine sx_topi (fun y5 ey5 => ?_)
    replace h := h y5 ey5
    refine sx_istore_n C dX7_oldMarks_73 2 rfl [(2, .int y5), (0, .ref (b + 0)), (1, .int x1), (3, .int v3), (4, .int v4)] (by decide) rfl 74 rfl ?_
    obtain ⟨y6, ey6⟩ : ∃ w : Int32, w = v4 + 1 := ⟨_, rfl⟩
    replace h := h y6 ey6
    refine sx_iinc C dX7_oldMarks_74 4 rfl y6 (by rw [ey6]; rfl) [(4, .int y6), (2, .int y5), (0, .ref (b + 0)), (1, .int x1), (3, .int v3)] (by decide) rfl 77 rfl ?_
    refine sx_goto C dX7_oldMarks_77 18 (by decide) ?_
    exact sx_sub [2, 3, 1, 4, 0] rfl h)
  refine sx_sub (lv' := [(0, .ref (b + 0)), (1, .int x1)]) [0, 1] rfl ?_
  refine sx_iconst C dX7_oldMarks_0 0 (by decide) 1 rfl ?_
  refine sx_istore_n C dX7_oldMarks_1 2 rfl [(2, .int 0), (0, .ref (b + 0)), (1, .int x1)] (by decide) rfl 2 rfl ?_
  refine sx_aload_n C dX7_oldMarks_2 0 1 rfl rfl 3 rfl ?_
  refine sx_iload_n C dX7_oldMarks_3 1 2 rfl rfl 4 rfl ?_
  refine sx_iconst C dX7_oldMarks_4 0 (by decide) 5 rfl ?_
  refine sx_iconst C dX7_oldMarks_5 5 (by decide) 6 rfl ?_
  refine sx_callS C ht hB (st := [.ref (b + 0)]) dX7_oldMarks_6 (c_X7_in hf h) mi_X7_in lk_X7_95 mt_X7_in rfl rfl ⟨⟨(Nat.le_of_ble_eq_true rfl), (Nat.le_of_ble_eq_true rfl)⟩, (Nat.le_of_ble_eq_true rfl), (Nat.le_of_ble_eq_true rfl)⟩ (Nat.le_of_ble_eq_true rfl) ⟨(Nat.le_of_ble_eq_true rfl), (Nat.le_of_ble_eq_true rfl)⟩ (fun _ _ hx => hx.elim) 9 rfl (fun v g8 h => ?_)
  obtain ⟨⟨r7, rfl, h⟩, rfl⟩ := h
  refine sx_iconst C dX7_oldMarks_9 1 (by decide) 10 rfl ?_
  refine sx_iconst C dX7_oldMarks_10 1 (by decide) 11 rfl ?_
  refine sx_callV C ht hB (st := []) dX7_oldMarks_11 (c_X7_goes hf h) mi_X7_goes lk_X7_105 mn_X7_goes ms_X7_goes (by decide) lyM_0 rfl rfl rfl rfl ⟨⟨(Nat.le_of_ble_eq_true rfl), (Nat.le_of_ble_eq_true rfl)⟩, (Nat.le_of_ble_eq_true rfl), (Nat.le_of_ble_eq_true rfl)⟩ (Nat.le_of_ble_eq_true rfl) ⟨(Nat.le_of_ble_eq_true rfl), (Nat.le_of_ble_eq_true rfl)⟩ (fun _ _ hx => hx.elim) 14 rfl (fun v g9 h => ?_)
  obtain ⟨r10, rfl, h⟩ := h
  refine sx_istore_n C dX7_oldMarks_14 3 rfl [(3, .int r10), (2, .int 0), (0, .ref (b + 0)), (1, .int x1)] (by decide) rfl 15 rfl ?_
  refine sx_iconst C dX7_oldMarks_15 0 (by decide) 16 rfl ?_
  refine sx_istore C dX7_oldMarks_16 [(4, .int 0), (3, .int r10), (2, .int 0), (0, .ref (b + 0)), (1, .int x1)] (by decide) rfl 18 rfl ?_
  exact sx_sub [3, 4, 2, 1, 0] rfl h
set_option maxRecDepth 100000 in
set_option maxHeartbeats 4000000 in
theorem c_X7_clashes {l : Launch} {D : va_G} {G : sx_G} {b : Nat} (hf : l.stackTraces = false) {f : sx_F} {x1 : Int32} {Q : Int32 → sx_F → Prop}  (h : P_X7_clashes f x1 Q) : sx_Met l D G b 26 lyM yX7_clashes cX7_clashes 10 (some .int) 3 55 0 0 [.ref (b + 0), .int x1] f (sx_qi Q) (fun _ _ => False) := by
  refine sx_enter (own := RX7) hf rfl rfl (Nat.le_of_ble_eq_true rfl) ?_
  intro p e s m args below meth c C hr ht
  have hB : ∀ k, k < 26 → sx_A b 26 s.heap.size (b + k) := fun k h => sx_A.in h
  unfold P_X7_clashes at h
  replace h := h (fun (f : sx_F) (v2 : Int32) (v3 : Int32) (v4 : Int32) => sx_J (sx_wp D G b lyM 26) p l e { frames := 3, cells := 0, slots := 0, locals := 55 } s m args below meth c (sx_A b 26 s.heap.size) 10 0 0 (sx_fin (sx_wp D G b lyM 26) (sx_A b 26 s.heap.size) below args s 0 0 (sx_qi Q) (fun _ _ => False)) f 16 [(0, .ref (b + 0)), (1, .int x1), (2, .int v2), (3, .int v3), (4, .int v4)] [])
  replace h := h (fun (f : sx_F) (v2 : Int32) (v3 : Int32) (v4 : Int32) (v5 : Int32) (v6 : Int32) => sx_J (sx_wp D G b lyM 26) p l e { frames := 3, cells := 0, slots := 0, locals := 55 } s m args below meth c (sx_A b 26 s.heap.size) 10 0 0 (sx_fin (sx_wp D G b lyM 26) (sx_A b 26 s.heap.size) below args s 0 0 (sx_qi Q) (fun _ _ => False)) f 40 [(0, .ref (b + 0)), (1, .int x1), (2, .int v2), (3, .int v3), (4, .int v4), (5, .int v5), (6, .int v6)] [])
  replace h := h (fun (f : sx_F) (v2 : Int32) (v3 : Int32) (v4 : Int32) (v5 : Int32) (v6 : Int32) (v7 : Int32) => sx_J (sx_wp D G b lyM 26) p l e { frames := 3, cells := 0, slots := 0, locals := 55 } s m args below meth c (sx_A b 26 s.heap.size) 10 0 0 (sx_fin (sx_wp D G b lyM 26) (sx_A b 26 s.heap.size) below args s 0 0 (sx_qi Q) (fun _ _ => False)) f 55 [(0, .ref (b + 0)), (1, .int x1), (2, .int v2), (3, .int v3), (4, .int v4), (5, .int v5), (6, .int v6), (7, .int v7)] [])
  replace h := h (fun (f : sx_F) (v3 : Int32) (v4 : Int32) (v5 : Int32) (v6 : Int32) (v7 : Int32) (s0 : Int32) => sx_J (sx_wp D G b lyM 26) p l e { frames := 3, cells := 0, slots := 0, locals := 55 } s m args below meth c (sx_A b 26 s.heap.size) 10 0 0 (sx_fin (sx_wp D G b lyM 26) (sx_A b 26 s.heap.size) below args s 0 0 (sx_qi Q) (fun _ _ => False)) f 110 [(0, .ref (b + 0)), (1, .int x1), (3, .int v3), (4, .int v4), (5, .int v5), (6, .int v6), (7, .int v7)] [.int s0])
  replace h := h (fun (f : sx_F) (v3 : Int32) (v4 : Int32) (v5 : Int32) (v6 : Int32) (v7 : Int32) (s0 : Int32) (s1 : Int32) => sx_J (sx_wp D G b lyM 26) p l e { frames := 3, cells := 0, slots := 0, locals := 55 } s m args below meth c (sx_A b 26 s.heap.size) 10 0 0 (sx_fin (sx_wp D G b lyM 26) (sx_A b 26 s.heap.size) below args s 0 0 (sx_qi Q) (fun _ _ => False)) f 111 [(0, .ref (b + 0)), (1, .int x1), (3, .int v3), (4, .int v4), (5, .int v5), (6, .int v6), (7, .int v7)] [.int s1, .int s0])
  replace h := h (by
    intro f v2 v3 v4 h
    refine sx_iload_n C dX7_clashes_16 3 3 rfl rfl 17 rfl ?_
    refine sx_if_eq C dX7_clashes_17 131 20 (by decide) rfl (fun c1 => ?_) (fun c1 => ?_)
    · replace h := h.1 c1
      refine sx_iload_n C dX7_clashes_131 2 2 rfl rfl 132 rfl ?_
      exact sx_iret C dX7_clashes_132 hr (Nat.le_of_ble_eq_true rfl) (Nat.le_of_ble_eq_true rfl) ⟨_, rfl, h⟩
    · replace h := h.2 c1
      refine sx_iload C dX7_clashes_20 4 rfl 22 rfl ?_
      refine sx_aload_n C dX7_clashes_22 0 0 rfl rfl 23 rfl ?_
      refine sx_geti C (T := TX7) (C0 := RX7) (N := 34) (j := 5) dX7_clashes_23 fl_X7_99 inw_X7 rfl (by decide) rfl (by decide) lyM_0 rfl 26 rfl ?_
      refine sx_icmp_ge C dX7_clashes_26 131 29 (by decide) rfl (fun c2 => ?_) (fun c2 => ?_)
      · replace h := h.1 c2
        refine sx_iload_n C dX7_clashes_131 2 2 rfl rfl 132 rfl ?_
        exact sx_iret C dX7_clashes_132 hr (Nat.le_of_ble_eq_true rfl) (Nat.le_of_ble_eq_true rfl) ⟨_, rfl, h⟩
      · replace h := h.2 c2
        refine sx_iload_n C dX7_clashes_29 1 1 rfl rfl 30 rfl ?_
        refine sx_iload C dX7_clashes_30 4 rfl 32 rfl ?_
        refine sx_callS C ht hB (st := []) dX7_clashes_32 (c_X7_cell hf h) mi_X7_cell lk_X7_116 mt_X7_cell rfl rfl ⟨⟨(Nat.le_of_ble_eq_true rfl), (Nat.le_of_ble_eq_true rfl)⟩, (Nat.le_of_ble_eq_true rfl), (Nat.le_of_ble_eq_true rfl)⟩ (Nat.le_of_ble_eq_true rfl) ⟨(Nat.le_of_ble_eq_true rfl), (Nat.le_of_ble_eq_true rfl)⟩ (fun _ _ hx => hx.elim) 35 rfl (fun v g4 h => ?_)
        obtain ⟨⟨r3, rfl, h⟩, rfl⟩ := h
        refine sx_istore C dX7_clashes_35 [(5, .int r3), (0, .ref (b + 0)), (1, .int x1), (2, .int v2), (3, .int v3), (4, .int v4)] (by decide) rfl 37 rfl ?_
        refine sx_iconst C dX7_clashes_37 0 (by decide) 38 rfl ?_
        refine sx_istore C dX7_clashes_38 [(6, .int 0), (5, .int r3), (0, .ref (b + 0)), (1, .int x1), (2, .int v2), (3, .int v3), (4, .int v4)] (by decide) rfl 40 rfl ?_
        exact sx_sub [2, 3, 4, 5, 6, 1, 0] rfl h)
  replace h := h (by
    intro f v2 v3 v4 v5 v6 h
    refine sx_iload C dX7_clashes_40 6 rfl 42 rfl ?_
    refine sx_aload_n C dX7_clashes_42 0 0 rfl rfl 43 rfl ?_
    refine sx_getq C (T := TX7) (C0 := RX7) (N := 34) (j := 3) dX7_clashes_43 fl_X7_19 inw_X7 rfl (by decide) rfl (by decide) lyM_0 rfl 46 rfl ?_
    refine sx_iload C dX7_clashes_46 5 rfl 48 rfl ?_
    refine sx_iald C dX7_clashes_48 (by decide) lyM_4 h.1 49 rfl ?_
    replace h := h.2
    refine sx_icmp_ge C dX7_clashes_49 125 52 (by decide) rfl (fun c5 => ?_) (fun c5 => ?_)
    · replace h := h.1 c5
      obtain ⟨y6, ey6⟩ : ∃ w : Int32, w = v4 + 1 := ⟨_, rfl⟩
      replace h := h y6 ey6
      refine sx_iinc C dX7_clashes_125 4 rfl y6 (by rw [ey6]; rfl) [(4, .int y6), (0, .ref (b + 0)), (1, .int x1), (2, .int v2), (3, .int v3), (5, .int v5), (6, .int v6)] (by decide) rfl 128 rfl ?_
      refine sx_goto C dX7_clashes_128 16 (by decide) ?_
      exact sx_sub [1, 2, 3, 4, 0] rfl h
    · replace h := h.2 c5
      refine sx_iconst C dX7_clashes_52 0 (by decide) 53 rfl ?_
      refine sx_istore C dX7_clashes_53 [(7, .int 0), (0, .ref (b + 0)), (1, .int x1), (2, .int v2), (3, .int v3), (4, .int v4), (5, .int v5), (6, .int v6)] (by decide) rfl 55 rfl ?_
      exact sx_sub [1, 2, 3, 4, 5, 6, 7, 0] rfl h)
  replace h := h (by
    intro f v2 v3 v4 v5 v6 v7 h
    refine sx_iload C dX7_clashes_55 7 rfl 57 rfl ?_
    refine sx_bipush C dX7_clashes_57 6 (by decide) 59 rfl ?_
    refine sx_icmp_ge C dX7_clashes_59 119 62 (by decide) rfl (fun c7 => ?_) (fun c7 => ?_)
    · replace h := h.1 c7
      obtain ⟨y8, ey8⟩ : ∃ w : Int32, w = v6 + 1 := ⟨_, rfl⟩
      replace h := h y8 ey8
      refine sx_iinc C dX7_clashes_119 6 rfl y8 (by rw [ey8]; rfl) [(6, .int y8), (0, .ref (b + 0)), (1, .int x1), (2, .int v2), (3, .int v3), (4, .int v4), (5, .int v5), (7, .int v7)] (by decide) rfl 122 rfl ?_
      refine sx_goto C dX7_clashes_122 40 (by decide) ?_
      exact sx_sub [1, 2, 3, 4, 5, 6, 0] rfl h
    · replace h := h.2 c7
      refine sx_aload_n C dX7_clashes_62 0 0 rfl rfl 63 rfl ?_
      refine sx_iload C dX7_clashes_63 7 rfl 65 rfl ?_
      refine sx_iload C dX7_clashes_65 5 rfl 67 rfl ?_
      refine sx_iload C dX7_clashes_67 6 rfl 69 rfl ?_
      refine sx_callV C ht hB (st := []) dX7_clashes_69 (c_X7_bowing hf h) mi_X7_bowing lk_X7_148 mn_X7_bowing ms_X7_bowing (by decide) lyM_0 rfl rfl rfl rfl ⟨⟨(Nat.le_of_ble_eq_true rfl), (Nat.le_of_ble_eq_true rfl)⟩, (Nat.le_of_ble_eq_true rfl), (Nat.le_of_ble_eq_true rfl)⟩ (Nat.le_of_ble_eq_true rfl) ⟨(Nat.le_of_ble_eq_true rfl), (Nat.le_of_ble_eq_true rfl)⟩ (fun _ _ hx => hx.elim) 72 rfl (fun v g10 h => ?_)
      obtain ⟨⟨r9, rfl, h⟩, rfl⟩ := h
      refine sx_istore C dX7_clashes_72 [(8, .int r9), (0, .ref (b + 0)), (1, .int x1), (2, .int v2), (3, .int v3), (4, .int v4), (5, .int v5), (6, .int v6), (7, .int v7)] (by decide) rfl 74 rfl ?_
      refine sx_aload_n C dX7_clashes_74 0 1 rfl rfl 75 rfl ?_
      refine sx_iload C dX7_clashes_75 8 rfl 77 rfl ?_
      refine sx_iconst C dX7_clashes_77 1 (by decide) 78 rfl ?_
      refine sx_iadd C dX7_clashes_78 79 rfl ?_
      refine sx_iload C dX7_clashes_79 6 rfl 81 rfl ?_
      refine sx_iload C dX7_clashes_81 7 rfl 83 rfl ?_
      refine sx_callV C ht hB (st := []) dX7_clashes_83 (c_X7_bowing hf h) mi_X7_bowing lk_X7_148 mn_X7_bowing ms_X7_bowing (by decide) lyM_0 rfl rfl rfl rfl ⟨⟨(Nat.le_of_ble_eq_true rfl), (Nat.le_of_ble_eq_true rfl)⟩, (Nat.le_of_ble_eq_true rfl), (Nat.le_of_ble_eq_true rfl)⟩ (Nat.le_of_ble_eq_true rfl) ⟨(Nat.le_of_ble_eq_true rfl), (Nat.le_of_ble_eq_true rfl)⟩ (fun _ _ hx => hx.elim) 86 rfl (fun v g12 h => ?_)
      obtain ⟨⟨r11, rfl, h⟩, rfl⟩ := h
      refine sx_istore C dX7_clashes_86 [(9, .int r11), (8, .int r9), (0, .ref (b + 0)), (1, .int x1), (2, .int v2), (3, .int v3), (4, .int v4), (5, .int v5), (6, .int v6), (7, .int v7)] (by decide) rfl 88 rfl ?_
      refine sx_iload_n C dX7_clashes_88 2 4 rfl rfl 89 rfl ?_
      refine sx_iload C dX7_clashes_89 1 rfl 91 rfl ?_
      refine sx_if_le C dX7_clashes_91 110 94 (by decide) rfl (fun c13 => ?_) (fun c13 => ?_)
      · replace h := h.1 c13
        exact sx_sub [2, 3, 5, 6, 7, 8, 9] rfl h
      · replace h := h.2 c13
        refine sx_iload C dX7_clashes_94 0 rfl 96 rfl ?_
        refine sx_if_le C dX7_clashes_96 110 99 (by decide) rfl (fun c14 => ?_) (fun c14 => ?_)
        · replace h := h.1 c14
          exact sx_sub [2, 3, 5, 6, 7, 8, 9] rfl h
        · replace h := h.2 c14
          refine sx_iload C dX7_clashes_99 1 rfl 101 rfl ?_
          refine sx_iload C dX7_clashes_101 0 rfl 103 rfl ?_
          refine sx_icmp_eq C dX7_clashes_103 110 106 (by decide) rfl (fun c15 => ?_) (fun c15 => ?_)
          · replace h := h.1 c15
            exact sx_sub [2, 3, 5, 6, 7, 8, 9] rfl h
          · replace h := h.2 c15
            refine sx_iconst C dX7_clashes_106 1 (by decide) 107 rfl ?_
            refine sx_goto C dX7_clashes_107 111 (by decide) ?_
            exact sx_sub [2, 3, 5, 6, 7, 8, 9] rfl h)
  replace h := h (by
    intro f v3 v4 v5 v6 v7 s0 h
    refine sx_iconst C dX7_clashes_110 0 (by decide) 111 rfl ?_
    exact sx_sub [0, 1, 2, 3, 4, 5, 6] rfl h)
  replace h := h (by
    intro f v3 v4 v5 v6 v7 s0 s1 h
    refine sx_iadd C dX7_clashes_111 112 rfl ?_
    refine sx_topi (fun y16 ey16 => ?_)
    replace h := h y16 ey16
    refine sx_istore_n C dX7_clashes_112 2 rfl [(2, .int y16), (0, .ref (b + 0)), (1, .int x1), (3, .int v3), (4, .int v4), (5, .int v5), (6, .int v6), (7, .int v7)] (by decide) rfl 113 rfl ?_
    obtain ⟨y17, ey17⟩ : ∃ w : Int32, w = v7 + 2 := ⟨_, rfl⟩
    replace h := h y17 ey17
    refine sx_iinc C dX7_clashes_113 7 rfl y17 (by rw [ey17]; rfl) [(7, .int y17), (2, .int y16), (0, .ref (b + 0)), (1, .int x1), (3, .int v3), (4, .int v4), (5, .int v5), (6, .int v6)] (by decide) rfl 116 rfl ?_
    refine sx_goto C dX7_clashes_116 55 (by decide) ?_
    exact sx_sub [2, 3, 1, 4, 5, 6, 7, 0] rfl h)
  refine sx_sub (lv' := [(0, .ref (b + 0)), (1, .int x1)]) [0, 1] rfl ?_
  refine sx_iconst C dX7_clashes_0 0 (by decide) 1 rfl ?_
  refine sx_istore_n C dX7_clashes_1 2 rfl [(2, .int 0), (0, .ref (b + 0)), (1, .int x1)] (by decide) rfl 2 rfl ?_
  refine sx_aload_n C dX7_clashes_2 0 1 rfl rfl 3 rfl ?_
  refine sx_iload_n C dX7_clashes_3 1 2 rfl rfl 4 rfl ?_
  refine sx_callS C ht hB (st := [.ref (b + 0)]) dX7_clashes_4 (c_X7_isInstrument hf h) mi_X7_isInstrument lk_X7_109 mt_X7_isInstrument rfl rfl ⟨⟨(Nat.le_of_ble_eq_true rfl), (Nat.le_of_ble_eq_true rfl)⟩, (Nat.le_of_ble_eq_true rfl), (Nat.le_of_ble_eq_true rfl)⟩ (Nat.le_of_ble_eq_true rfl) ⟨(Nat.le_of_ble_eq_true rfl), (Nat.le_of_ble_eq_true rfl)⟩ (fun _ _ hx => hx.elim) 7 rfl (fun v g19 h => ?_)
  obtain ⟨⟨r18, rfl, h⟩, rfl⟩ := h
  refine sx_iconst C dX7_clashes_7 1 (by decide) 8 rfl ?_
  refine sx_iconst C dX7_clashes_8 1 (by decide) 9 rfl ?_
  refine sx_callV C ht hB (st := []) dX7_clashes_9 (c_X7_goes hf h) mi_X7_goes lk_X7_105 mn_X7_goes ms_X7_goes (by decide) lyM_0 rfl rfl rfl rfl ⟨⟨(Nat.le_of_ble_eq_true rfl), (Nat.le_of_ble_eq_true rfl)⟩, (Nat.le_of_ble_eq_true rfl), (Nat.le_of_ble_eq_true rfl)⟩ (Nat.le_of_ble_eq_true rfl) ⟨(Nat.le_of_ble_eq_true rfl), (Nat.le_of_ble_eq_true rfl)⟩ (fun _ _ hx => hx.elim) 12 rfl (fun v g20 h => ?_)
  obtain ⟨r21, rfl, h⟩ := h
  refine sx_istore_n C dX7_clashes_12 3 rfl [(3, .int r21), (2, .int 0), (0, .ref (b + 0)), (1, .int x1)] (by decide) rfl 13 rfl ?_
  refine sx_iconst C dX7_clashes_13 0 (by decide) 14 rfl ?_
  refine sx_istore C dX7_clashes_14 [(4, .int 0), (3, .int r21), (2, .int 0), (0, .ref (b + 0)), (1, .int x1)] (by decide) rfl 16 rfl ?_
  exact sx_sub [3, 4, 2, 1, 0] rfl h
set_option maxRecDepth 100000 in
set_option maxHeartbeats 4000000 in
theorem c_X7_concerts {l : Launch} {D : va_G} {G : sx_G} {b : Nat} (hf : l.stackTraces = false) {f : sx_F}  {Q : Int32 → sx_F → Prop}  (h : P_X7_concerts f  Q) : sx_Met l D G b 26 lyM yX7_concerts cX7_concerts 1 (some .int) 1 13 0 0 [.ref (b + 0)] f (sx_qi Q) (fun _ _ => False) := by
  refine sx_enter (own := RX7) hf rfl rfl (Nat.le_of_ble_eq_true rfl) ?_
  intro p e s m args below meth c C hr ht
  have hB : ∀ k, k < 26 → sx_A b 26 s.heap.size (b + k) := fun k h => sx_A.in h
  unfold P_X7_concerts at h
  refine sx_sub (lv' := [(0, .ref (b + 0))]) [0] rfl ?_
  refine sx_aload_n C dX7_concerts_0 0 0 rfl rfl 1 rfl ?_
  refine sx_iconst C dX7_concerts_1 0 (by decide) 2 rfl ?_
  refine sx_puti C (T := TX7) (C0 := RX7) (N := 34) (j := 33) dX7_concerts_2 fl_X7_92 inw_X7 rfl tyX7 tyX7_ok nmX7 (by decide) rfl rfl rfl hB (by decide) lyM_0 rfl 5 rfl (fun g1 eg1 => ?_)
  replace h := h g1 eg1
  refine sx_aload_n C dX7_concerts_5 0 0 rfl rfl 6 rfl ?_
  refine sx_geti C (T := TX7) (C0 := RX7) (N := 34) (j := 12) dX7_concerts_6 fl_X7_152 inw_X7 rfl (by decide) rfl (by decide) lyM_0 rfl 9 rfl ?_
  exact sx_iret C dX7_concerts_9 hr (Nat.le_of_ble_eq_true rfl) (Nat.le_of_ble_eq_true rfl) ⟨_, rfl, h⟩
