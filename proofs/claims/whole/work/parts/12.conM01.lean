set_option maxRecDepth 100000 in
set_option maxHeartbeats 4000000 in
theorem c_X7_thrown {l : Launch} {D : va_G} {G : sx_G} {b : Nat} (hf : l.stackTraces = false) {f : sx_F}  {Q : Int32 → Prop}  (h : P_X7_thrown f  Q) : sx_Met l D G b 26 lyM yX7_thrown cX7_thrown 1 (some .int) 1 13 0 0 [.ref (b + 0)] f (sx_pi f Q) (fun _ _ => False) := by
  refine sx_enter (own := RX7) hf rfl rfl (Nat.le_of_ble_eq_true rfl) ?_
  intro p e s m args below meth c C hr ht
  have hB : ∀ k, k < 26 → sx_A b 26 s.heap.size (b + k) := fun k h => sx_A.in h
  unfold P_X7_thrown at h
  refine sx_sub (lv' := [(0, .ref (b + 0))]) [0] rfl ?_
  refine sx_aload_n C dX7_thrown_0 0 0 rfl rfl 1 rfl ?_
  refine sx_geti C (T := TX7) (C0 := RX7) (N := 34) (j := 33) dX7_thrown_1 fl_X7_92 inw_X7 rfl (by decide) rfl (by decide) lyM_0 rfl 4 rfl ?_
  exact sx_iret C dX7_thrown_4 hr (Nat.le_of_ble_eq_true rfl) (Nat.le_of_ble_eq_true rfl) ⟨⟨_, rfl, h⟩, rfl⟩
set_option maxRecDepth 100000 in
set_option maxHeartbeats 4000000 in
theorem c_X7_in {l : Launch} {D : va_G} {G : sx_G} {b : Nat} (hf : l.stackTraces = false) {f : sx_F} {x0 : Int32} {x1 : Int32} {x2 : Int32} {Q : Int32 → Prop}  (h : P_X7_in f x0 x1 x2 Q) : sx_Met l D G b 26 lyM yX7_in cX7_in 3 (some .boolean) 1 13 0 0 [.int x0, .int x1, .int x2] f (sx_pi f Q) (fun _ _ => False) := by
  refine sx_enter (own := RX7) hf rfl rfl (Nat.le_of_ble_eq_true rfl) ?_
  intro p e s m args below meth c C hr ht
  have hB : ∀ k, k < 26 → sx_A b 26 s.heap.size (b + k) := fun k h => sx_A.in h
  unfold P_X7_in at h
  refine sx_sub (lv' := [(0, .int x0), (1, .int x1), (2, .int x2)]) [0, 1, 2] rfl ?_
  refine sx_iload_n C dX7_in_0 0 0 rfl rfl 1 rfl ?_
  refine sx_iload_n C dX7_in_1 1 1 rfl rfl 2 rfl ?_
  refine sx_icmp_lt C dX7_in_2 14 5 (by decide) rfl (fun c1 => ?_) (fun c1 => ?_)
  · replace h := h.1 c1
    refine sx_iconst C dX7_in_14 0 (by decide) 15 rfl ?_
    exact sx_zret C dX7_in_15 hr (Nat.le_of_ble_eq_true rfl) (Nat.le_of_ble_eq_true rfl) (Or.inl rfl) ⟨⟨_, rfl, h⟩, rfl⟩
  · replace h := h.2 c1
    refine sx_iload_n C dX7_in_5 0 0 rfl rfl 6 rfl ?_
    refine sx_iload_n C dX7_in_6 2 2 rfl rfl 7 rfl ?_
    refine sx_icmp_gt C dX7_in_7 14 10 (by decide) rfl (fun c2 => ?_) (fun c2 => ?_)
    · replace h := h.1 c2
      refine sx_iconst C dX7_in_14 0 (by decide) 15 rfl ?_
      exact sx_zret C dX7_in_15 hr (Nat.le_of_ble_eq_true rfl) (Nat.le_of_ble_eq_true rfl) (Or.inl rfl) ⟨⟨_, rfl, h⟩, rfl⟩
    · replace h := h.2 c2
      refine sx_iconst C dX7_in_10 1 (by decide) 11 rfl ?_
      refine sx_goto C dX7_in_11 15 (by decide) ?_
      exact sx_zret C dX7_in_15 hr (Nat.le_of_ble_eq_true rfl) (Nat.le_of_ble_eq_true rfl) (Or.inr rfl) ⟨⟨_, rfl, h⟩, rfl⟩
set_option maxRecDepth 100000 in
set_option maxHeartbeats 4000000 in
theorem c_X7_goes {l : Launch} {D : va_G} {G : sx_G} {b : Nat} (hf : l.stackTraces = false) {f : sx_F} {x1 : Int32} {x2 : Int32} {x3 : Int32} {Q : Int32 → sx_F → Prop}  (h : P_X7_goes f x1 x2 x3 Q) : sx_Met l D G b 26 lyM yX7_goes cX7_goes 4 (some .boolean) 1 13 0 0 [.ref (b + 0), .int x1, .int x2, .int x3] f (sx_qi Q) (fun _ _ => False) := by
  refine sx_enter (own := RX7) hf rfl rfl (Nat.le_of_ble_eq_true rfl) ?_
  intro p e s m args below meth c C hr ht
  have hB : ∀ k, k < 26 → sx_A b 26 s.heap.size (b + k) := fun k h => sx_A.in h
  unfold P_X7_goes at h
  replace h := h (fun (f : sx_F) (s1 : Int32) => sx_J (sx_wp D G b lyM 26) p l e { frames := 1, cells := 0, slots := 0, locals := 13 } s m args below meth c (sx_A b 26 s.heap.size) 4 0 0 (sx_fin (sx_wp D G b lyM 26) (sx_A b 26 s.heap.size) below args s 0 0 (sx_qi Q) (fun _ _ => False)) f 26 [(0, .ref (b + 0))] [.int s1, .ref (b + 0)])
  replace h := h (by
    intro f s1 h
    refine sx_puti C (T := TX7) (C0 := RX7) (N := 34) (j := 33) dX7_goes_26 fl_X7_92 inw_X7 rfl tyX7 tyX7_ok nmX7 (by decide) rfl rfl rfl hB (by decide) lyM_0 rfl 29 rfl (fun g1 eg1 => ?_)
    replace h := h g1 eg1
    refine sx_aload_n C dX7_goes_29 0 0 rfl rfl 30 rfl ?_
    refine sx_geti C (T := TX7) (C0 := RX7) (N := 34) (j := 33) dX7_goes_30 fl_X7_92 inw_X7 rfl (by decide) rfl (by decide) lyM_0 rfl 33 rfl ?_
    refine sx_if_ne C dX7_goes_33 40 36 (by decide) rfl (fun c2 => ?_) (fun c2 => ?_)
    · replace h := h.2 c2
      refine sx_iconst C dX7_goes_40 0 (by decide) 41 rfl ?_
      exact sx_zret C dX7_goes_41 hr (Nat.le_of_ble_eq_true rfl) (Nat.le_of_ble_eq_true rfl) (Or.inl rfl) ⟨_, rfl, h⟩
    · replace h := h.1 c2
      refine sx_iconst C dX7_goes_36 1 (by decide) 37 rfl ?_
      refine sx_goto C dX7_goes_37 41 (by decide) ?_
      exact sx_zret C dX7_goes_41 hr (Nat.le_of_ble_eq_true rfl) (Nat.le_of_ble_eq_true rfl) (Or.inr rfl) ⟨_, rfl, h⟩)
  refine sx_sub (lv' := [(0, .ref (b + 0)), (1, .int x1), (2, .int x2), (3, .int x3)]) [0, 1, 2, 3] rfl ?_
  refine sx_aload_n C dX7_goes_0 0 0 rfl rfl 1 rfl ?_
  refine sx_iload_n C dX7_goes_1 1 1 rfl rfl 2 rfl ?_
  refine sx_if_ne C dX7_goes_2 9 5 (by decide) rfl (fun c3 => ?_) (fun c3 => ?_)
  · replace h := h.2 c3
    refine sx_iload_n C dX7_goes_9 2 2 rfl rfl 10 rfl ?_
    refine sx_if_ne C dX7_goes_10 17 13 (by decide) rfl (fun c4 => ?_) (fun c4 => ?_)
    · replace h := h.2 c4
      refine sx_iload_n C dX7_goes_17 3 3 rfl rfl 18 rfl ?_
      refine sx_if_eq C dX7_goes_18 25 21 (by decide) rfl (fun c5 => ?_) (fun c5 => ?_)
      · replace h := h.1 c5
        refine sx_iconst C dX7_goes_25 3 (by decide) 26 rfl ?_
        exact sx_sub [0] rfl h
      · replace h := h.2 c5
        refine sx_iconst C dX7_goes_21 0 (by decide) 22 rfl ?_
        refine sx_goto C dX7_goes_22 26 (by decide) ?_
        exact sx_sub [0] rfl h
    · replace h := h.1 c4
      refine sx_iconst C dX7_goes_13 2 (by decide) 14 rfl ?_
      refine sx_goto C dX7_goes_14 26 (by decide) ?_
      exact sx_sub [0] rfl h
  · replace h := h.1 c3
    refine sx_iconst C dX7_goes_5 1 (by decide) 6 rfl ?_
    refine sx_goto C dX7_goes_6 26 (by decide) ?_
    exact sx_sub [0] rfl h
set_option maxRecDepth 100000 in
set_option maxHeartbeats 4000000 in
theorem c_X7_isInstrument {l : Launch} {D : va_G} {G : sx_G} {b : Nat} (hf : l.stackTraces = false) {f : sx_F} {x0 : Int32} {Q : Int32 → Prop}  (h : P_X7_isInstrument f x0 Q) : sx_Met l D G b 26 lyM yX7_isInstrument cX7_isInstrument 1 (some .boolean) 2 35 0 0 [.int x0] f (sx_pi f Q) (fun _ _ => False) := by
  refine sx_enter (own := RX7) hf rfl rfl (Nat.le_of_ble_eq_true rfl) ?_
  intro p e s m args below meth c C hr ht
  have hB : ∀ k, k < 26 → sx_A b 26 s.heap.size (b + k) := fun k h => sx_A.in h
  unfold P_X7_isInstrument at h
  refine sx_sub (lv' := [(0, .int x0)]) [0] rfl ?_
  refine sx_iload_n C dX7_isInstrument_0 0 0 rfl rfl 1 rfl ?_
  refine sx_iconst C dX7_isInstrument_1 0 (by decide) 2 rfl ?_
  refine sx_iconst C dX7_isInstrument_2 4 (by decide) 3 rfl ?_
  refine sx_callS C ht hB (st := []) dX7_isInstrument_3 (c_X7_in hf h) mi_X7_in lk_X7_95 mt_X7_in rfl rfl ⟨⟨(Nat.le_of_ble_eq_true rfl), (Nat.le_of_ble_eq_true rfl)⟩, (Nat.le_of_ble_eq_true rfl), (Nat.le_of_ble_eq_true rfl)⟩ (Nat.le_of_ble_eq_true rfl) ⟨(Nat.le_of_ble_eq_true rfl), (Nat.le_of_ble_eq_true rfl)⟩ (fun _ _ hx => hx.elim) 6 rfl (fun v g2 h => ?_)
  obtain ⟨⟨r1, rfl, h⟩, rfl⟩ := h
  exact sx_zret C dX7_isInstrument_6 hr (Nat.le_of_ble_eq_true rfl) (Nat.le_of_ble_eq_true rfl) h.1 ⟨⟨_, rfl, h.2⟩, rfl⟩
set_option maxRecDepth 100000 in
set_option maxHeartbeats 4000000 in
theorem c_X7_isBar {l : Launch} {D : va_G} {G : sx_G} {b : Nat} (hf : l.stackTraces = false) {f : sx_F} {x1 : Int32} {Q : Int32 → Prop}  (h : P_X7_isBar f x1 Q) : sx_Met l D G b 26 lyM yX7_isBar cX7_isBar 2 (some .boolean) 2 35 0 0 [.ref (b + 0), .int x1] f (sx_pi f Q) (fun _ _ => False) := by
  refine sx_enter (own := RX7) hf rfl rfl (Nat.le_of_ble_eq_true rfl) ?_
  intro p e s m args below meth c C hr ht
  have hB : ∀ k, k < 26 → sx_A b 26 s.heap.size (b + k) := fun k h => sx_A.in h
  unfold P_X7_isBar at h
  refine sx_sub (lv' := [(0, .ref (b + 0)), (1, .int x1)]) [0, 1] rfl ?_
  refine sx_iload_n C dX7_isBar_0 1 1 rfl rfl 1 rfl ?_
  refine sx_iconst C dX7_isBar_1 0 (by decide) 2 rfl ?_
  refine sx_aload_n C dX7_isBar_2 0 0 rfl rfl 3 rfl ?_
  refine sx_geti C (T := TX7) (C0 := RX7) (N := 34) (j := 5) dX7_isBar_3 fl_X7_99 inw_X7 rfl (by decide) rfl (by decide) lyM_0 rfl 6 rfl ?_
  refine sx_iconst C dX7_isBar_6 1 (by decide) 7 rfl ?_
  refine sx_isub C dX7_isBar_7 8 rfl ?_
  refine sx_callS C ht hB (st := []) dX7_isBar_8 (c_X7_in hf h) mi_X7_in lk_X7_95 mt_X7_in rfl rfl ⟨⟨(Nat.le_of_ble_eq_true rfl), (Nat.le_of_ble_eq_true rfl)⟩, (Nat.le_of_ble_eq_true rfl), (Nat.le_of_ble_eq_true rfl)⟩ (Nat.le_of_ble_eq_true rfl) ⟨(Nat.le_of_ble_eq_true rfl), (Nat.le_of_ble_eq_true rfl)⟩ (fun _ _ hx => hx.elim) 11 rfl (fun v g2 h => ?_)
  obtain ⟨⟨r1, rfl, h⟩, rfl⟩ := h
  exact sx_zret C dX7_isBar_11 hr (Nat.le_of_ble_eq_true rfl) (Nat.le_of_ble_eq_true rfl) h.1 ⟨⟨_, rfl, h.2⟩, rfl⟩
set_option maxRecDepth 100000 in
set_option maxHeartbeats 4000000 in
theorem c_X7_isBook {l : Launch} {D : va_G} {G : sx_G} {b : Nat} (hf : l.stackTraces = false) {f : sx_F} {x0 : Int32} {Q : Int32 → Prop}  (h : P_X7_isBook f x0 Q) : sx_Met l D G b 26 lyM yX7_isBook cX7_isBook 1 (some .boolean) 2 35 0 0 [.int x0] f (sx_pi f Q) (fun _ _ => False) := by
  refine sx_enter (own := RX7) hf rfl rfl (Nat.le_of_ble_eq_true rfl) ?_
  intro p e s m args below meth c C hr ht
  have hB : ∀ k, k < 26 → sx_A b 26 s.heap.size (b + k) := fun k h => sx_A.in h
  unfold P_X7_isBook at h
  refine sx_sub (lv' := [(0, .int x0)]) [0] rfl ?_
  refine sx_iload_n C dX7_isBook_0 0 0 rfl rfl 1 rfl ?_
  refine sx_iconst C dX7_isBook_1 0 (by decide) 2 rfl ?_
  refine sx_iconst C dX7_isBook_2 5 (by decide) 3 rfl ?_
  refine sx_callS C ht hB (st := []) dX7_isBook_3 (c_X7_in hf h) mi_X7_in lk_X7_95 mt_X7_in rfl rfl ⟨⟨(Nat.le_of_ble_eq_true rfl), (Nat.le_of_ble_eq_true rfl)⟩, (Nat.le_of_ble_eq_true rfl), (Nat.le_of_ble_eq_true rfl)⟩ (Nat.le_of_ble_eq_true rfl) ⟨(Nat.le_of_ble_eq_true rfl), (Nat.le_of_ble_eq_true rfl)⟩ (fun _ _ hx => hx.elim) 6 rfl (fun v g2 h => ?_)
  obtain ⟨⟨r1, rfl, h⟩, rfl⟩ := h
  exact sx_zret C dX7_isBook_6 hr (Nat.le_of_ble_eq_true rfl) (Nat.le_of_ble_eq_true rfl) h.1 ⟨⟨_, rfl, h.2⟩, rfl⟩
set_option maxRecDepth 100000 in
set_option maxHeartbeats 4000000 in
theorem c_X7_isCopy {l : Launch} {D : va_G} {G : sx_G} {b : Nat} (hf : l.stackTraces = false) {f : sx_F} {x1 : Int32} {Q : Int32 → Prop}  (h : P_X7_isCopy f x1 Q) : sx_Met l D G b 26 lyM yX7_isCopy cX7_isCopy 2 (some .boolean) 2 35 0 0 [.ref (b + 0), .int x1] f (sx_pi f Q) (fun _ _ => False) := by
  refine sx_enter (own := RX7) hf rfl rfl (Nat.le_of_ble_eq_true rfl) ?_
  intro p e s m args below meth c C hr ht
  have hB : ∀ k, k < 26 → sx_A b 26 s.heap.size (b + k) := fun k h => sx_A.in h
  unfold P_X7_isCopy at h
  refine sx_sub (lv' := [(0, .ref (b + 0)), (1, .int x1)]) [0, 1] rfl ?_
  refine sx_iload_n C dX7_isCopy_0 1 1 rfl rfl 1 rfl ?_
  refine sx_iconst C dX7_isCopy_1 0 (by decide) 2 rfl ?_
  refine sx_aload_n C dX7_isCopy_2 0 0 rfl rfl 3 rfl ?_
  refine sx_geti C (T := TX7) (C0 := RX7) (N := 34) (j := 11) dX7_isCopy_3 fl_X7_102 inw_X7 rfl (by decide) rfl (by decide) lyM_0 rfl 6 rfl ?_
  refine sx_iconst C dX7_isCopy_6 1 (by decide) 7 rfl ?_
  refine sx_isub C dX7_isCopy_7 8 rfl ?_
  refine sx_callS C ht hB (st := []) dX7_isCopy_8 (c_X7_in hf h) mi_X7_in lk_X7_95 mt_X7_in rfl rfl ⟨⟨(Nat.le_of_ble_eq_true rfl), (Nat.le_of_ble_eq_true rfl)⟩, (Nat.le_of_ble_eq_true rfl), (Nat.le_of_ble_eq_true rfl)⟩ (Nat.le_of_ble_eq_true rfl) ⟨(Nat.le_of_ble_eq_true rfl), (Nat.le_of_ble_eq_true rfl)⟩ (fun _ _ hx => hx.elim) 11 rfl (fun v g2 h => ?_)
  obtain ⟨⟨r1, rfl, h⟩, rfl⟩ := h
  exact sx_zret C dX7_isCopy_11 hr (Nat.le_of_ble_eq_true rfl) (Nat.le_of_ble_eq_true rfl) h.1 ⟨⟨_, rfl, h.2⟩, rfl⟩
set_option maxRecDepth 100000 in
set_option maxHeartbeats 4000000 in
theorem c_X7_cell {l : Launch} {D : va_G} {G : sx_G} {b : Nat} (hf : l.stackTraces = false) {f : sx_F} {x0 : Int32} {x1 : Int32} {Q : Int32 → Prop}  (h : P_X7_cell f x0 x1 Q) : sx_Met l D G b 26 lyM yX7_cell cX7_cell 2 (some .int) 1 13 0 0 [.int x0, .int x1] f (sx_pi f Q) (fun _ _ => False) := by
  refine sx_enter (own := RX7) hf rfl rfl (Nat.le_of_ble_eq_true rfl) ?_
  intro p e s m args below meth c C hr ht
  have hB : ∀ k, k < 26 → sx_A b 26 s.heap.size (b + k) := fun k h => sx_A.in h
  unfold P_X7_cell at h
  refine sx_sub (lv' := [(0, .int x0), (1, .int x1)]) [0, 1] rfl ?_
  refine sx_bipush C dX7_cell_0 12 (by decide) 2 rfl ?_
  refine sx_iload_n C dX7_cell_2 0 0 rfl rfl 3 rfl ?_
  refine sx_imul C dX7_cell_3 4 rfl ?_
  refine sx_iload_n C dX7_cell_4 1 1 rfl rfl 5 rfl ?_
  refine sx_iadd C dX7_cell_5 6 rfl ?_
  exact sx_iret C dX7_cell_6 hr (Nat.le_of_ble_eq_true rfl) (Nat.le_of_ble_eq_true rfl) ⟨⟨_, rfl, h⟩, rfl⟩
set_option maxRecDepth 100000 in
set_option maxHeartbeats 4000000 in
theorem c_X7_bar {l : Launch} {D : va_G} {G : sx_G} {b : Nat} (hf : l.stackTraces = false) {f : sx_F} {x1 : Int32} {Q : Int32 → sx_F → Prop}  (h : P_X7_bar f x1 Q) : sx_Met l D G b 26 lyM yX7_bar cX7_bar 2 (some .int) 2 36 0 0 [.ref (b + 0), .int x1] f (sx_qi Q) (fun _ _ => False) := by
  refine sx_enter (own := RX7) hf rfl rfl (Nat.le_of_ble_eq_true rfl) ?_
  intro p e s m args below meth c C hr ht
  have hB : ∀ k, k < 26 → sx_A b 26 s.heap.size (b + k) := fun k h => sx_A.in h
  unfold P_X7_bar at h
  replace h := h (fun (f : sx_F) (s1 : Int32) (s2 : Int32) => sx_J (sx_wp D G b lyM 26) p l e { frames := 2, cells := 0, slots := 0, locals := 36 } s m args below meth c (sx_A b 26 s.heap.size) 2 0 0 (sx_fin (sx_wp D G b lyM 26) (sx_A b 26 s.heap.size) below args s 0 0 (sx_qi Q) (fun _ _ => False)) f 22 [(0, .ref (b + 0)), (1, .int x1)] [.int s2, .int s1, .ref (b + 0)])
  replace h := h (by
    intro f s1 s2 h
    refine sx_iconst C dX7_bar_22 1 (by decide) 23 rfl ?_
    refine sx_callV C ht hB (st := []) dX7_bar_23 (c_X7_goes hf h) mi_X7_goes lk_X7_105 mn_X7_goes ms_X7_goes (by decide) lyM_0 rfl rfl rfl rfl ⟨⟨(Nat.le_of_ble_eq_true rfl), (Nat.le_of_ble_eq_true rfl)⟩, (Nat.le_of_ble_eq_true rfl), (Nat.le_of_ble_eq_true rfl)⟩ (Nat.le_of_ble_eq_true rfl) ⟨(Nat.le_of_ble_eq_true rfl), (Nat.le_of_ble_eq_true rfl)⟩ (fun _ _ hx => hx.elim) 26 rfl (fun v g1 h => ?_)
    obtain ⟨r2, rfl, h⟩ := h
    refine sx_if_ne C dX7_bar_26 31 29 (by decide) rfl (fun c3 => ?_) (fun c3 => ?_)
    · replace h := h.2 c3
      refine sx_aload_n C dX7_bar_31 0 0 rfl rfl 32 rfl ?_
      refine sx_getq C (T := TX7) (C0 := RX7) (N := 34) (j := 0) dX7_bar_32 fl_X7_7 inw_X7 rfl (by decide) rfl (by decide) lyM_0 rfl 35 rfl ?_
      refine sx_aload_n C dX7_bar_35 0 0 rfl rfl 36 rfl ?_
      refine sx_geti C (T := TX7) (C0 := RX7) (N := 34) (j := 5) dX7_bar_36 fl_X7_99 inw_X7 rfl (by decide) rfl (by decide) lyM_0 rfl 39 rfl ?_
      refine sx_iload_n C dX7_bar_39 1 1 rfl rfl 40 rfl ?_
      refine sx_iast C dX7_bar_40 hB (by decide) lyM_1 h.1 41 rfl (fun g4 eg4 => ?_)
      replace h := h.2 g4 eg4
      refine sx_aload_n C dX7_bar_41 0 0 rfl rfl 42 rfl ?_
      refine sx_dup C dX7_bar_42 rfl 43 rfl ?_
      refine sx_geti C (T := TX7) (C0 := RX7) (N := 34) (j := 5) dX7_bar_43 fl_X7_99 inw_X7 rfl (by decide) rfl (by decide) lyM_0 rfl 46 rfl ?_
      refine sx_iconst C dX7_bar_46 1 (by decide) 47 rfl ?_
      refine sx_iadd C dX7_bar_47 48 rfl ?_
      refine sx_puti C (T := TX7) (C0 := RX7) (N := 34) (j := 5) dX7_bar_48 fl_X7_99 inw_X7 rfl tyX7 tyX7_ok nmX7 (by decide) rfl rfl rfl hB (by decide) lyM_0 rfl 51 rfl (fun g5 eg5 => ?_)
      replace h := h g5 eg5
      refine sx_aload_n C dX7_bar_51 0 0 rfl rfl 52 rfl ?_
      refine sx_geti C (T := TX7) (C0 := RX7) (N := 34) (j := 5) dX7_bar_52 fl_X7_99 inw_X7 rfl (by decide) rfl (by decide) lyM_0 rfl 55 rfl ?_
      refine sx_iconst C dX7_bar_55 1 (by decide) 56 rfl ?_
      refine sx_isub C dX7_bar_56 57 rfl ?_
      exact sx_iret C dX7_bar_57 hr (Nat.le_of_ble_eq_true rfl) (Nat.le_of_ble_eq_true rfl) ⟨_, rfl, h⟩
    · replace h := h.1 c3
      refine sx_iconst C dX7_bar_29 0 (by decide) 30 rfl ?_
      exact sx_iret C dX7_bar_30 hr (Nat.le_of_ble_eq_true rfl) (Nat.le_of_ble_eq_true rfl) ⟨_, rfl, h⟩)
  refine sx_sub (lv' := [(0, .ref (b + 0)), (1, .int x1)]) [0, 1] rfl ?_
  refine sx_aload_n C dX7_bar_0 0 0 rfl rfl 1 rfl ?_
  refine sx_iload_n C dX7_bar_1 1 1 rfl rfl 2 rfl ?_
  refine sx_iconst C dX7_bar_2 1 (by decide) 3 rfl ?_
  refine sx_bipush C dX7_bar_3 32 (by decide) 5 rfl ?_
  refine sx_callS C ht hB (st := [.ref (b + 0)]) dX7_bar_5 (c_X7_in hf h) mi_X7_in lk_X7_95 mt_X7_in rfl rfl ⟨⟨(Nat.le_of_ble_eq_true rfl), (Nat.le_of_ble_eq_true rfl)⟩, (Nat.le_of_ble_eq_true rfl), (Nat.le_of_ble_eq_true rfl)⟩ (Nat.le_of_ble_eq_true rfl) ⟨(Nat.le_of_ble_eq_true rfl), (Nat.le_of_ble_eq_true rfl)⟩ (fun _ _ hx => hx.elim) 8 rfl (fun v g7 h => ?_)
  obtain ⟨⟨r6, rfl, h⟩, rfl⟩ := h
  refine sx_aload_n C dX7_bar_8 0 0 rfl rfl 9 rfl ?_
  refine sx_geti C (T := TX7) (C0 := RX7) (N := 34) (j := 5) dX7_bar_9 fl_X7_99 inw_X7 rfl (by decide) rfl (by decide) lyM_0 rfl 12 rfl ?_
  refine sx_bipush C dX7_bar_12 12 (by decide) 14 rfl ?_
  refine sx_icmp_ge C dX7_bar_14 21 17 (by decide) rfl (fun c8 => ?_) (fun c8 => ?_)
  · replace h := h.1 c8
    refine sx_iconst C dX7_bar_21 0 (by decide) 22 rfl ?_
    exact sx_sub [0, 1] rfl h
  · replace h := h.2 c8
    refine sx_iconst C dX7_bar_17 1 (by decide) 18 rfl ?_
    refine sx_goto C dX7_bar_18 22 (by decide) ?_
    exact sx_sub [0, 1] rfl h
set_option maxRecDepth 100000 in
set_option maxHeartbeats 4000000 in
theorem c_X7_filled {l : Launch} {D : va_G} {G : sx_G} {b : Nat} (hf : l.stackTraces = false) {f : sx_F} {x1 : Int32} {x2 : Int32} {Q : Int32 → Prop}  (h : P_X7_filled f x1 x2 Q) : sx_Met l D G b 26 lyM yX7_filled cX7_filled 5 (some .int) 1 13 0 0 [.ref (b + 0), .int x1, .int x2] f (sx_pi f Q) (fun _ _ => False) := by
  refine sx_enter (own := RX7) hf rfl rfl (Nat.le_of_ble_eq_true rfl) ?_
  intro p e s m args below meth c C hr ht
  have hB : ∀ k, k < 26 → sx_A b 26 s.heap.size (b + k) := fun k h => sx_A.in h
  unfold P_X7_filled at h
  replace h := h (fun (v3 : Int32) (v4 : Int32) => sx_J (sx_wp D G b lyM 26) p l e { frames := 1, cells := 0, slots := 0, locals := 13 } s m args below meth c (sx_A b 26 s.heap.size) 5 0 0 (sx_fin (sx_wp D G b lyM 26) (sx_A b 26 s.heap.size) below args s 0 0 (sx_pi f Q) (fun _ _ => False)) f 5 [(0, .ref (b + 0)), (1, .int x1), (2, .int x2), (3, .int v3), (4, .int v4)] [])
  replace h := h (by
    intro v3 v4 h
    refine sx_iload C dX7_filled_5 4 rfl 7 rfl ?_
    refine sx_iload_n C dX7_filled_7 2 2 rfl rfl 8 rfl ?_
    refine sx_icmp_ge C dX7_filled_8 32 11 (by decide) rfl (fun c1 => ?_) (fun c1 => ?_)
    · replace h := h.1 c1
      refine sx_iload_n C dX7_filled_32 3 3 rfl rfl 33 rfl ?_
      exact sx_iret C dX7_filled_33 hr (Nat.le_of_ble_eq_true rfl) (Nat.le_of_ble_eq_true rfl) ⟨⟨_, rfl, h⟩, rfl⟩
    · replace h := h.2 c1
      refine sx_iload_n C dX7_filled_11 3 3 rfl rfl 12 rfl ?_
      refine sx_aload_n C dX7_filled_12 0 0 rfl rfl 13 rfl ?_
      refine sx_getq C (T := TX7) (C0 := RX7) (N := 34) (j := 1) dX7_filled_13 fl_X7_13 inw_X7 rfl (by decide) rfl (by decide) lyM_0 rfl 16 rfl ?_
      refine sx_bipush C dX7_filled_16 8 (by decide) 18 rfl ?_
      refine sx_iload_n C dX7_filled_18 1 1 rfl rfl 19 rfl ?_
      refine sx_imul C dX7_filled_19 20 rfl ?_
      refine sx_iload C dX7_filled_20 4 rfl 22 rfl ?_
      refine sx_iadd C dX7_filled_22 23 rfl ?_
      refine sx_iald C dX7_filled_23 (by decide) lyM_2 h.1 24 rfl ?_
      replace h := h.2
      refine sx_iadd C dX7_filled_24 25 rfl ?_
      refine sx_topi (fun y2 ey2 => ?_)
      replace h := h y2 ey2
      refine sx_istore_n C dX7_filled_25 3 rfl [(3, .int y2), (0, .ref (b + 0)), (1, .int x1), (2, .int x2), (4, .int v4)] (by decide) rfl 26 rfl ?_
      obtain ⟨y3, ey3⟩ : ∃ w : Int32, w = v4 + 1 := ⟨_, rfl⟩
      replace h := h y3 ey3
      refine sx_iinc C dX7_filled_26 4 rfl y3 (by rw [ey3]; rfl) [(4, .int y3), (3, .int y2), (0, .ref (b + 0)), (1, .int x1), (2, .int x2)] (by decide) rfl 29 rfl ?_
      refine sx_goto C dX7_filled_29 5 (by decide) ?_
      exact sx_sub [2, 3, 4, 1, 0] rfl h)
  refine sx_sub (lv' := [(0, .ref (b + 0)), (1, .int x1), (2, .int x2)]) [0, 1, 2] rfl ?_
  refine sx_iconst C dX7_filled_0 0 (by decide) 1 rfl ?_
  refine sx_istore_n C dX7_filled_1 3 rfl [(3, .int 0), (0, .ref (b + 0)), (1, .int x1), (2, .int x2)] (by decide) rfl 2 rfl ?_
  refine sx_iconst C dX7_filled_2 0 (by decide) 3 rfl ?_
  refine sx_istore C dX7_filled_3 [(4, .int 0), (3, .int 0), (0, .ref (b + 0)), (1, .int x1), (2, .int x2)] (by decide) rfl 5 rfl ?_
  exact sx_sub [2, 3, 4, 1, 0] rfl h
set_option maxRecDepth 100000 in
set_option maxHeartbeats 4000000 in
theorem c_X7_note {l : Launch} {D : va_G} {G : sx_G} {b : Nat} (hf : l.stackTraces = false) {f : sx_F} {x1 : Int32} {x2 : Int32} {x3 : Int32} {x4 : Int32} {Q : Int32 → sx_F → Prop}  (h : P_X7_note f x1 x2 x3 x4 Q) : sx_Met l D G b 26 lyM yX7_note cX7_note 9 (some .int) 3 56 0 0 [.ref (b + 0), .int x1, .int x2, .int x3, .int x4] f (sx_qi Q) (fun _ _ => False) := by
  refine sx_enter (own := RX7) hf rfl rfl (Nat.le_of_ble_eq_true rfl) ?_
  intro p e s m args below meth c C hr ht
  have hB : ∀ k, k < 26 → sx_A b 26 s.heap.size (b + k) := fun k h => sx_A.in h
  unfold P_X7_note at h
  replace h := h (fun (f : sx_F) => sx_J (sx_wp D G b lyM 26) p l e { frames := 3, cells := 0, slots := 0, locals := 56 } s m args below meth c (sx_A b 26 s.heap.size) 9 0 0 (sx_fin (sx_wp D G b lyM 26) (sx_A b 26 s.heap.size) below args s 0 0 (sx_qi Q) (fun _ _ => False)) f 19 [(0, .ref (b + 0)), (1, .int x1), (2, .int x2), (3, .int x3), (4, .int x4)] [])
  replace h := h (fun (f : sx_F) (s0 : Int32) => sx_J (sx_wp D G b lyM 26) p l e { frames := 3, cells := 0, slots := 0, locals := 56 } s m args below meth c (sx_A b 26 s.heap.size) 9 0 0 (sx_fin (sx_wp D G b lyM 26) (sx_A b 26 s.heap.size) below args s 0 0 (sx_qi Q) (fun _ _ => False)) f 20 [(0, .ref (b + 0)), (1, .int x1), (2, .int x2), (3, .int x3), (4, .int x4)] [.int s0])
  replace h := h (fun (f : sx_F) (v5 : Int32) => sx_J (sx_wp D G b lyM 26) p l e { frames := 3, cells := 0, slots := 0, locals := 56 } s m args below meth c (sx_A b 26 s.heap.size) 9 0 0 (sx_fin (sx_wp D G b lyM 26) (sx_A b 26 s.heap.size) below args s 0 0 (sx_qi Q) (fun _ _ => False)) f 47 [(0, .ref (b + 0)), (1, .int x1), (2, .int x2), (3, .int x3), (4, .int x4), (5, .int v5)] [])
  replace h := h (fun (f : sx_F) (v5 : Int32) (s0 : Int32) => sx_J (sx_wp D G b lyM 26) p l e { frames := 3, cells := 0, slots := 0, locals := 56 } s m args below meth c (sx_A b 26 s.heap.size) 9 0 0 (sx_fin (sx_wp D G b lyM 26) (sx_A b 26 s.heap.size) below args s 0 0 (sx_qi Q) (fun _ _ => False)) f 48 [(0, .ref (b + 0)), (1, .int x1), (2, .int x2), (3, .int x3), (4, .int x4), (5, .int v5)] [.int s0])
  replace h := h (fun (f : sx_F) (v5 : Int32) (v6 : Int32) (s0 : Int32) => sx_J (sx_wp D G b lyM 26) p l e { frames := 3, cells := 0, slots := 0, locals := 56 } s m args below meth c (sx_A b 26 s.heap.size) 9 0 0 (sx_fin (sx_wp D G b lyM 26) (sx_A b 26 s.heap.size) below args s 0 0 (sx_qi Q) (fun _ _ => False)) f 64 [(0, .ref (b + 0)), (2, .int x2), (3, .int x3), (4, .int x4), (5, .int v5), (6, .int v6)] [.int s0])
  replace h := h (fun (f : sx_F) (v5 : Int32) (v6 : Int32) (v7 : Int32) => sx_J (sx_wp D G b lyM 26) p l e { frames := 3, cells := 0, slots := 0, locals := 56 } s m args below meth c (sx_A b 26 s.heap.size) 9 0 0 (sx_fin (sx_wp D G b lyM 26) (sx_A b 26 s.heap.size) below args s 0 0 (sx_qi Q) (fun _ _ => False)) f 116 [(0, .ref (b + 0)), (3, .int x3), (4, .int x4), (5, .int v5), (6, .int v6), (7, .int v7)] [])
  replace h := h (fun (f : sx_F) (v5 : Int32) (v6 : Int32) (v7 : Int32) (s0 : Int32) => sx_J (sx_wp D G b lyM 26) p l e { frames := 3, cells := 0, slots := 0, locals := 56 } s m args below meth c (sx_A b 26 s.heap.size) 9 0 0 (sx_fin (sx_wp D G b lyM 26) (sx_A b 26 s.heap.size) below args s 0 0 (sx_qi Q) (fun _ _ => False)) f 117 [(0, .ref (b + 0)), (3, .int x3), (4, .int x4), (5, .int v5), (6, .int v6), (7, .int v7)] [.int s0])
  replace h := h (by
    intro f h
    refine sx_iconst C dX7_note_19 0 (by decide) 20 rfl ?_
    exact sx_sub [0, 1, 2, 3, 4] rfl h)
  replace h := h (by
    intro f s0 h
    refine sx_istore C dX7_note_20 [(5, .int s0), (0, .ref (b + 0)), (1, .int x1), (2, .int x2), (3, .int x3), (4, .int x4)] (by decide) rfl 22 rfl ?_
    refine sx_iload_n C dX7_note_22 3 4 rfl rfl 23 rfl ?_
    refine sx_iconst C dX7_note_23 1 (by decide) 24 rfl ?_
    refine sx_bipush C dX7_note_24 32 (by decide) 26 rfl ?_
    refine sx_callS C ht hB (st := []) dX7_note_26 (c_X7_in hf h) mi_X7_in lk_X7_95 mt_X7_in rfl rfl ⟨⟨(Nat.le_of_ble_eq_true rfl), (Nat.le_of_ble_eq_true rfl)⟩, (Nat.le_of_ble_eq_true rfl), (Nat.le_of_ble_eq_true rfl)⟩ (Nat.le_of_ble_eq_true rfl) ⟨(Nat.le_of_ble_eq_true rfl), (Nat.le_of_ble_eq_true rfl)⟩ (fun _ _ hx => hx.elim) 29 rfl (fun v g2 h => ?_)
    obtain ⟨⟨r1, rfl, h⟩, rfl⟩ := h
    refine sx_if_eq C dX7_note_29 47 32 (by decide) rfl (fun c3 => ?_) (fun c3 => ?_)
    · replace h := h.1 c3
      exact sx_sub [1, 2, 3, 4, 5, 0] rfl h
    · replace h := h.2 c3
      refine sx_iload C dX7_note_32 5 rfl 34 rfl ?_
      refine sx_iconst C dX7_note_34 0 (by decide) 35 rfl ?_
      refine sx_bipush C dX7_note_35 60 (by decide) 37 rfl ?_
      refine sx_callS C ht hB (st := []) dX7_note_37 (c_X7_in hf h) mi_X7_in lk_X7_95 mt_X7_in rfl rfl ⟨⟨(Nat.le_of_ble_eq_true rfl), (Nat.le_of_ble_eq_true rfl)⟩, (Nat.le_of_ble_eq_true rfl), (Nat.le_of_ble_eq_true rfl)⟩ (Nat.le_of_ble_eq_true rfl) ⟨(Nat.le_of_ble_eq_true rfl), (Nat.le_of_ble_eq_true rfl)⟩ (fun _ _ hx => hx.elim) 40 rfl (fun v g5 h => ?_)
      obtain ⟨⟨r4, rfl, h⟩, rfl⟩ := h
      refine sx_if_eq C dX7_note_40 47 43 (by decide) rfl (fun c6 => ?_) (fun c6 => ?_)
      · replace h := h.1 c6
        exact sx_sub [1, 2, 3, 4, 5, 0] rfl h
      · replace h := h.2 c6
        refine sx_iconst C dX7_note_43 1 (by decide) 44 rfl ?_
        refine sx_goto C dX7_note_44 48 (by decide) ?_
        exact sx_sub [1, 2, 3, 4, 5, 0] rfl h)
  replace h := h (by
    intro f v5 h
    refine sx_iconst C dX7_note_47 0 (by decide) 48 rfl ?_
    exact sx_sub [0, 1, 2, 3, 4, 5] rfl h)
  replace h := h (by
    intro f v5 s0 h
    refine sx_istore C dX7_note_48 [(6, .int s0), (0, .ref (b + 0)), (1, .int x1), (2, .int x2), (3, .int x3), (4, .int x4), (5, .int v5)] (by decide) rfl 50 rfl ?_
    refine sx_iload C dX7_note_50 6 rfl 52 rfl ?_
    refine sx_if_eq C dX7_note_52 63 55 (by decide) rfl (fun c7 => ?_) (fun c7 => ?_)
    · replace h := h.1 c7
      refine sx_iconst C dX7_note_63 0 (by decide) 64 rfl ?_
      exact sx_sub [1, 3, 4, 5, 6, 0] rfl h
    · replace h := h.2 c7
      refine sx_iload_n C dX7_note_55 1 2 rfl rfl 56 rfl ?_
      refine sx_iload_n C dX7_note_56 2 3 rfl rfl 57 rfl ?_
      refine sx_callS C ht hB (st := []) dX7_note_57 (c_X7_cell hf h) mi_X7_cell lk_X7_116 mt_X7_cell rfl rfl ⟨⟨(Nat.le_of_ble_eq_true rfl), (Nat.le_of_ble_eq_true rfl)⟩, (Nat.le_of_ble_eq_true rfl), (Nat.le_of_ble_eq_true rfl)⟩ (Nat.le_of_ble_eq_true rfl) ⟨(Nat.le_of_ble_eq_true rfl), (Nat.le_of_ble_eq_true rfl)⟩ (fun _ _ hx => hx.elim) 60 rfl (fun v g9 h => ?_)
      obtain ⟨⟨r8, rfl, h⟩, rfl⟩ := h
      refine sx_goto C dX7_note_60 64 (by decide) ?_
      exact sx_sub [1, 3, 4, 5, 6, 0] rfl h)
  replace h := h (by
    intro f v5 v6 s0 h
    refine sx_istore C dX7_note_64 [(7, .int s0), (0, .ref (b + 0)), (2, .int x2), (3, .int x3), (4, .int x4), (5, .int v5), (6, .int v6)] (by decide) rfl 66 rfl ?_
    refine sx_iload C dX7_note_66 5 rfl 68 rfl ?_
    refine sx_if_eq C dX7_note_68 116 71 (by decide) rfl (fun c10 => ?_) (fun c10 => ?_)
    · replace h := h.1 c10
      exact sx_sub [1, 3, 4, 5, 6, 0] rfl h
    · replace h := h.2 c10
      refine sx_aload_n C dX7_note_71 0 1 rfl rfl 72 rfl ?_
      refine sx_getq C (T := TX7) (C0 := RX7) (N := 34) (j := 3) dX7_note_72 fl_X7_19 inw_X7 rfl (by decide) rfl (by decide) lyM_0 rfl 75 rfl ?_
      refine sx_iload C dX7_note_75 0 rfl 77 rfl ?_
      refine sx_iald C dX7_note_77 (by decide) lyM_4 h.1 78 rfl ?_
      replace h := h.2
      refine sx_bipush C dX7_note_78 8 (by decide) 80 rfl ?_
      refine sx_icmp_ge C dX7_note_80 116 83 (by decide) rfl (fun c11 => ?_) (fun c11 => ?_)
      · replace h := h.1 c11
        exact sx_sub [1, 3, 4, 5, 6, 0] rfl h
      · replace h := h.2 c11
        refine sx_iload C dX7_note_83 6 rfl 85 rfl ?_
        refine sx_if_eq C dX7_note_85 116 88 (by decide) rfl (fun c12 => ?_) (fun c12 => ?_)
        · replace h := h.1 c12
          exact sx_sub [1, 3, 4, 5, 6, 0] rfl h
        · replace h := h.2 c12
          refine sx_aload_n C dX7_note_88 0 1 rfl rfl 89 rfl ?_
          refine sx_iload C dX7_note_89 0 rfl 91 rfl ?_
          refine sx_aload_n C dX7_note_91 0 1 rfl rfl 92 rfl ?_
          refine sx_getq C (T := TX7) (C0 := RX7) (N := 34) (j := 3) dX7_note_92 fl_X7_19 inw_X7 rfl (by decide) rfl (by decide) lyM_0 rfl 95 rfl ?_
          refine sx_iload C dX7_note_95 0 rfl 97 rfl ?_
          refine sx_iald C dX7_note_97 (by decide) lyM_4 h.1 98 rfl ?_
          replace h := h.2
          refine sx_callV C ht hB (st := []) dX7_note_98 (c_X7_filled hf h) mi_X7_filled lk_X7_120 mn_X7_filled ms_X7_filled (by decide) lyM_0 rfl rfl rfl rfl ⟨⟨(Nat.le_of_ble_eq_true rfl), (Nat.le_of_ble_eq_true rfl)⟩, (Nat.le_of_ble_eq_true rfl), (Nat.le_of_ble_eq_true rfl)⟩ (Nat.le_of_ble_eq_true rfl) ⟨(Nat.le_of_ble_eq_true rfl), (Nat.le_of_ble_eq_true rfl)⟩ (fun _ _ hx => hx.elim) 101 rfl (fun v g14 h => ?_)
          obtain ⟨⟨r13, rfl, h⟩, rfl⟩ := h
          refine sx_iload_n C dX7_note_101 3 3 rfl rfl 102 rfl ?_
          refine sx_iadd C dX7_note_102 103 rfl ?_
          refine sx_aload_n C dX7_note_103 0 1 rfl rfl 104 rfl ?_
          refine sx_getq C (T := TX7) (C0 := RX7) (N := 34) (j := 0) dX7_note_104 fl_X7_7 inw_X7 rfl (by decide) rfl (by decide) lyM_0 rfl 107 rfl ?_
          refine sx_iload_n C dX7_note_107 2 2 rfl rfl 108 rfl ?_
          refine sx_iald C dX7_note_108 (by decide) lyM_1 h.1 109 rfl ?_
          replace h := h.2
          refine sx_icmp_gt C dX7_note_109 116 112 (by decide) rfl (fun c15 => ?_) (fun c15 => ?_)
          · replace h := h.1 c15
            exact sx_sub [1, 3, 4, 5, 6, 0] rfl h
          · replace h := h.2 c15
            refine sx_iconst C dX7_note_112 1 (by decide) 113 rfl ?_
            refine sx_goto C dX7_note_113 117 (by decide) ?_
            exact sx_sub [1, 3, 4, 5, 6, 0] rfl h)
  replace h := h (by
    intro f v5 v6 v7 h
    refine sx_iconst C dX7_note_116 0 (by decide) 117 rfl ?_
    exact sx_sub [0, 1, 2, 3, 4, 5] rfl h)
  replace h := h (by
    intro f v5 v6 v7 s0 h
    refine sx_istore C dX7_note_117 [(8, .int s0), (0, .ref (b + 0)), (3, .int x3), (4, .int x4), (5, .int v5), (6, .int v6), (7, .int v7)] (by decide) rfl 119 rfl ?_
    refine sx_aload_n C dX7_note_119 0 1 rfl rfl 120 rfl ?_
    refine sx_iload C dX7_note_120 4 rfl 122 rfl ?_
    refine sx_iload C dX7_note_122 5 rfl 124 rfl ?_
    refine sx_iload C dX7_note_124 0 rfl 126 rfl ?_
    refine sx_callV C ht hB (st := []) dX7_note_126 (c_X7_goes hf h) mi_X7_goes lk_X7_105 mn_X7_goes ms_X7_goes (by decide) lyM_0 rfl rfl rfl rfl ⟨⟨(Nat.le_of_ble_eq_true rfl), (Nat.le_of_ble_eq_true rfl)⟩, (Nat.le_of_ble_eq_true rfl), (Nat.le_of_ble_eq_true rfl)⟩ (Nat.le_of_ble_eq_true rfl) ⟨(Nat.le_of_ble_eq_true rfl), (Nat.le_of_ble_eq_true rfl)⟩ (fun _ _ hx => hx.elim) 129 rfl (fun v g16 h => ?_)
    obtain ⟨r17, rfl, h⟩ := h
    refine sx_if_ne C dX7_note_129 134 132 (by decide) rfl (fun c18 => ?_) (fun c18 => ?_)
    · replace h := h.2 c18
      refine sx_aload_n C dX7_note_134 0 1 rfl rfl 135 rfl ?_
      refine sx_getq C (T := TX7) (C0 := RX7) (N := 34) (j := 1) dX7_note_135 fl_X7_13 inw_X7 rfl (by decide) rfl (by decide) lyM_0 rfl 138 rfl ?_
      refine sx_bipush C dX7_note_138 8 (by decide) 140 rfl ?_
      refine sx_iload C dX7_note_140 6 rfl 142 rfl ?_
      refine sx_imul C dX7_note_142 143 rfl ?_
      refine sx_aload_n C dX7_note_143 0 1 rfl rfl 144 rfl ?_
      refine sx_getq C (T := TX7) (C0 := RX7) (N := 34) (j := 3) dX7_note_144 fl_X7_19 inw_X7 rfl (by decide) rfl (by decide) lyM_0 rfl 147 rfl ?_
      refine sx_iload C dX7_note_147 6 rfl 149 rfl ?_
      refine sx_iald C dX7_note_149 (by decide) lyM_4 h.1 150 rfl ?_
      replace h := h.2
      refine sx_iadd C dX7_note_150 151 rfl ?_
      refine sx_iload_n C dX7_note_151 3 2 rfl rfl 152 rfl ?_
      refine sx_iast C dX7_note_152 hB (by decide) lyM_2 h.1 153 rfl (fun g19 eg19 => ?_)
      replace h := h.2 g19 eg19
      refine sx_aload_n C dX7_note_153 0 1 rfl rfl 154 rfl ?_
      refine sx_getq C (T := TX7) (C0 := RX7) (N := 34) (j := 2) dX7_note_154 fl_X7_16 inw_X7 rfl (by decide) rfl (by decide) lyM_0 rfl 157 rfl ?_
      refine sx_bipush C dX7_note_157 8 (by decide) 159 rfl ?_
      refine sx_iload C dX7_note_159 6 rfl 161 rfl ?_
      refine sx_imul C dX7_note_161 162 rfl ?_
      refine sx_aload_n C dX7_note_162 0 1 rfl rfl 163 rfl ?_
      refine sx_getq C (T := TX7) (C0 := RX7) (N := 34) (j := 3) dX7_note_163 fl_X7_19 inw_X7 rfl (by decide) rfl (by decide) lyM_0 rfl 166 rfl ?_
      refine sx_iload C dX7_note_166 6 rfl 168 rfl ?_
      refine sx_iald C dX7_note_168 (by decide) lyM_4 h.1 169 rfl ?_
      replace h := h.2
      refine sx_iadd C dX7_note_169 170 rfl ?_
      refine sx_iload C dX7_note_170 3 rfl 172 rfl ?_
      refine sx_iast C dX7_note_172 hB (by decide) lyM_3 h.1 173 rfl (fun g20 eg20 => ?_)
      replace h := h.2 g20 eg20
      refine sx_aload_n C dX7_note_173 0 1 rfl rfl 174 rfl ?_
      refine sx_getq C (T := TX7) (C0 := RX7) (N := 34) (j := 3) dX7_note_174 fl_X7_19 inw_X7 rfl (by decide) rfl (by decide) lyM_0 rfl 177 rfl ?_
      refine sx_iload C dX7_note_177 6 rfl 179 rfl ?_
      refine sx_dup2 C dX7_note_179 rfl rfl 180 rfl ?_
      refine sx_iald C dX7_note_180 (by decide) lyM_4 h.1 181 rfl ?_
      replace h := h.2
      refine sx_iconst C dX7_note_181 1 (by decide) 182 rfl ?_
      refine sx_iadd C dX7_note_182 183 rfl ?_
      refine sx_iast C dX7_note_183 hB (by decide) lyM_4 h.1 184 rfl (fun g21 eg21 => ?_)
      replace h := h.2 g21 eg21
      refine sx_aload_n C dX7_note_184 0 1 rfl rfl 185 rfl ?_
      refine sx_getq C (T := TX7) (C0 := RX7) (N := 34) (j := 4) dX7_note_185 fl_X7_22 inw_X7 rfl (by decide) rfl (by decide) lyM_0 rfl 188 rfl ?_
      refine sx_iload C dX7_note_188 6 rfl 190 rfl ?_
      refine sx_dup2 C dX7_note_190 rfl rfl 191 rfl ?_
      refine sx_iald C dX7_note_191 (by decide) lyM_5 h.1 192 rfl ?_
      replace h := h.2
      refine sx_iconst C dX7_note_192 1 (by decide) 193 rfl ?_
      refine sx_iadd C dX7_note_193 194 rfl ?_
      refine sx_iast C dX7_note_194 hB (by decide) lyM_5 h.1 195 rfl (fun g22 eg22 => ?_)
      replace h := h.2 g22 eg22
      refine sx_aload_n C dX7_note_195 0 1 rfl rfl 196 rfl ?_
      refine sx_getq C (T := TX7) (C0 := RX7) (N := 34) (j := 3) dX7_note_196 fl_X7_19 inw_X7 rfl (by decide) rfl (by decide) lyM_0 rfl 199 rfl ?_
      refine sx_iload C dX7_note_199 6 rfl 201 rfl ?_
      refine sx_iald C dX7_note_201 (by decide) lyM_4 h.1 202 rfl ?_
      replace h := h.2
      exact sx_iret C dX7_note_202 hr (Nat.le_of_ble_eq_true rfl) (Nat.le_of_ble_eq_true rfl) ⟨_, rfl, h⟩
    · replace h := h.1 c18
      refine sx_iconst C dX7_note_132 0 (by decide) 133 rfl ?_
      exact sx_iret C dX7_note_133 hr (Nat.le_of_ble_eq_true rfl) (Nat.le_of_ble_eq_true rfl) ⟨_, rfl, h⟩)
  refine sx_sub (lv' := [(0, .ref (b + 0)), (1, .int x1), (2, .int x2), (3, .int x3), (4, .int x4)]) [0, 1, 2, 3, 4] rfl ?_
  refine sx_iload_n C dX7_note_0 1 1 rfl rfl 1 rfl ?_
  refine sx_callS C ht hB (st := []) dX7_note_1 (c_X7_isInstrument hf h) mi_X7_isInstrument lk_X7_109 mt_X7_isInstrument rfl rfl ⟨⟨(Nat.le_of_ble_eq_true rfl), (Nat.le_of_ble_eq_true rfl)⟩, (Nat.le_of_ble_eq_true rfl), (Nat.le_of_ble_eq_true rfl)⟩ (Nat.le_of_ble_eq_true rfl) ⟨(Nat.le_of_ble_eq_true rfl), (Nat.le_of_ble_eq_true rfl)⟩ (fun _ _ hx => hx.elim) 4 rfl (fun v g24 h => ?_)
  obtain ⟨⟨r23, rfl, h⟩, rfl⟩ := h
  refine sx_if_eq C dX7_note_4 19 7 (by decide) rfl (fun c25 => ?_) (fun c25 => ?_)
  · replace h := h.1 c25
    exact sx_sub [0, 1, 2, 3, 4] rfl h
  · replace h := h.2 c25
    refine sx_aload_n C dX7_note_7 0 0 rfl rfl 8 rfl ?_
    refine sx_iload_n C dX7_note_8 2 2 rfl rfl 9 rfl ?_
    refine sx_callV C ht hB (st := []) dX7_note_9 (c_X7_isBar hf h) mi_X7_isBar lk_X7_113 mn_X7_isBar ms_X7_isBar (by decide) lyM_0 rfl rfl rfl rfl ⟨⟨(Nat.le_of_ble_eq_true rfl), (Nat.le_of_ble_eq_true rfl)⟩, (Nat.le_of_ble_eq_true rfl), (Nat.le_of_ble_eq_true rfl)⟩ (Nat.le_of_ble_eq_true rfl) ⟨(Nat.le_of_ble_eq_true rfl), (Nat.le_of_ble_eq_true rfl)⟩ (fun _ _ hx => hx.elim) 12 rfl (fun v g27 h => ?_)
    obtain ⟨⟨r26, rfl, h⟩, rfl⟩ := h
    refine sx_if_eq C dX7_note_12 19 15 (by decide) rfl (fun c28 => ?_) (fun c28 => ?_)
    · replace h := h.1 c28
      exact sx_sub [0, 1, 2, 3, 4] rfl h
    · replace h := h.2 c28
      refine sx_iconst C dX7_note_15 1 (by decide) 16 rfl ?_
      refine sx_goto C dX7_note_16 20 (by decide) ?_
      exact sx_sub [0, 1, 2, 3, 4] rfl h
set_option maxRecDepth 100000 in
set_option maxHeartbeats 4000000 in
theorem c_X7_isNote {l : Launch} {D : va_G} {G : sx_G} {b : Nat} (hf : l.stackTraces = false) {f : sx_F} {x1 : Int32} {x2 : Int32} {x3 : Int32} {Q : Int32 → Prop}  (h : P_X7_isNote f x1 x2 x3 Q) : sx_Met l D G b 26 lyM yX7_isNote cX7_isNote 4 (some .boolean) 3 56 0 0 [.ref (b + 0), .int x1, .int x2, .int x3] f (sx_pi f Q) (fun _ _ => False) := by
  refine sx_enter (own := RX7) hf rfl rfl (Nat.le_of_ble_eq_true rfl) ?_
  intro p e s m args below meth c C hr ht
  have hB : ∀ k, k < 26 → sx_A b 26 s.heap.size (b + k) := fun k h => sx_A.in h
  unfold P_X7_isNote at h
  refine sx_sub (lv' := [(0, .ref (b + 0)), (1, .int x1), (2, .int x2), (3, .int x3)]) [0, 1, 2, 3] rfl ?_
  refine sx_iload_n C dX7_isNote_0 1 1 rfl rfl 1 rfl ?_
  refine sx_callS C ht hB (st := []) dX7_isNote_1 (c_X7_isInstrument hf h) mi_X7_isInstrument lk_X7_109 mt_X7_isInstrument rfl rfl ⟨⟨(Nat.le_of_ble_eq_true rfl), (Nat.le_of_ble_eq_true rfl)⟩, (Nat.le_of_ble_eq_true rfl), (Nat.le_of_ble_eq_true rfl)⟩ (Nat.le_of_ble_eq_true rfl) ⟨(Nat.le_of_ble_eq_true rfl), (Nat.le_of_ble_eq_true rfl)⟩ (fun _ _ hx => hx.elim) 4 rfl (fun v g2 h => ?_)
  obtain ⟨⟨r1, rfl, h⟩, rfl⟩ := h
  refine sx_if_eq C dX7_isNote_4 39 7 (by decide) rfl (fun c3 => ?_) (fun c3 => ?_)
  · replace h := h.1 c3
    refine sx_iconst C dX7_isNote_39 0 (by decide) 40 rfl ?_
    exact sx_zret C dX7_isNote_40 hr (Nat.le_of_ble_eq_true rfl) (Nat.le_of_ble_eq_true rfl) (Or.inl rfl) ⟨⟨_, rfl, h⟩, rfl⟩
  · replace h := h.2 c3
    refine sx_aload_n C dX7_isNote_7 0 0 rfl rfl 8 rfl ?_
    refine sx_iload_n C dX7_isNote_8 2 2 rfl rfl 9 rfl ?_
    refine sx_callV C ht hB (st := []) dX7_isNote_9 (c_X7_isBar hf h) mi_X7_isBar lk_X7_113 mn_X7_isBar ms_X7_isBar (by decide) lyM_0 rfl rfl rfl rfl ⟨⟨(Nat.le_of_ble_eq_true rfl), (Nat.le_of_ble_eq_true rfl)⟩, (Nat.le_of_ble_eq_true rfl), (Nat.le_of_ble_eq_true rfl)⟩ (Nat.le_of_ble_eq_true rfl) ⟨(Nat.le_of_ble_eq_true rfl), (Nat.le_of_ble_eq_true rfl)⟩ (fun _ _ hx => hx.elim) 12 rfl (fun v g5 h => ?_)
    obtain ⟨⟨r4, rfl, h⟩, rfl⟩ := h
    refine sx_if_eq C dX7_isNote_12 39 15 (by decide) rfl (fun c6 => ?_) (fun c6 => ?_)
    · replace h := h.1 c6
      refine sx_iconst C dX7_isNote_39 0 (by decide) 40 rfl ?_
      exact sx_zret C dX7_isNote_40 hr (Nat.le_of_ble_eq_true rfl) (Nat.le_of_ble_eq_true rfl) (Or.inl rfl) ⟨⟨_, rfl, h⟩, rfl⟩
    · replace h := h.2 c6
      refine sx_iload_n C dX7_isNote_15 3 3 rfl rfl 16 rfl ?_
      refine sx_iconst C dX7_isNote_16 0 (by decide) 17 rfl ?_
      refine sx_aload_n C dX7_isNote_17 0 0 rfl rfl 18 rfl ?_
      refine sx_getq C (T := TX7) (C0 := RX7) (N := 34) (j := 3) dX7_isNote_18 fl_X7_19 inw_X7 rfl (by decide) rfl (by decide) lyM_0 rfl 21 rfl ?_
      refine sx_iload_n C dX7_isNote_21 1 1 rfl rfl 22 rfl ?_
      refine sx_iload_n C dX7_isNote_22 2 2 rfl rfl 23 rfl ?_
      refine sx_callS C ht hB (st := [.ref (b + 4), .int 0, .int x3]) dX7_isNote_23 (c_X7_cell hf h) mi_X7_cell lk_X7_116 mt_X7_cell rfl rfl ⟨⟨(Nat.le_of_ble_eq_true rfl), (Nat.le_of_ble_eq_true rfl)⟩, (Nat.le_of_ble_eq_true rfl), (Nat.le_of_ble_eq_true rfl)⟩ (Nat.le_of_ble_eq_true rfl) ⟨(Nat.le_of_ble_eq_true rfl), (Nat.le_of_ble_eq_true rfl)⟩ (fun _ _ hx => hx.elim) 26 rfl (fun v g8 h => ?_)
      obtain ⟨⟨r7, rfl, h⟩, rfl⟩ := h
      refine sx_iald C dX7_isNote_26 (by decide) lyM_4 h.1 27 rfl ?_
      replace h := h.2
      refine sx_iconst C dX7_isNote_27 1 (by decide) 28 rfl ?_
      refine sx_isub C dX7_isNote_28 29 rfl ?_
      refine sx_callS C ht hB (st := []) dX7_isNote_29 (c_X7_in hf h) mi_X7_in lk_X7_95 mt_X7_in rfl rfl ⟨⟨(Nat.le_of_ble_eq_true rfl), (Nat.le_of_ble_eq_true rfl)⟩, (Nat.le_of_ble_eq_true rfl), (Nat.le_of_ble_eq_true rfl)⟩ (Nat.le_of_ble_eq_true rfl) ⟨(Nat.le_of_ble_eq_true rfl), (Nat.le_of_ble_eq_true rfl)⟩ (fun _ _ hx => hx.elim) 32 rfl (fun v g10 h => ?_)
      obtain ⟨⟨r9, rfl, h⟩, rfl⟩ := h
      refine sx_if_eq C dX7_isNote_32 39 35 (by decide) rfl (fun c11 => ?_) (fun c11 => ?_)
      · replace h := h.1 c11
        refine sx_iconst C dX7_isNote_39 0 (by decide) 40 rfl ?_
        exact sx_zret C dX7_isNote_40 hr (Nat.le_of_ble_eq_true rfl) (Nat.le_of_ble_eq_true rfl) (Or.inl rfl) ⟨⟨_, rfl, h⟩, rfl⟩
      · replace h := h.2 c11
        refine sx_iconst C dX7_isNote_35 1 (by decide) 36 rfl ?_
        refine sx_goto C dX7_isNote_36 40 (by decide) ?_
        exact sx_zret C dX7_isNote_40 hr (Nat.le_of_ble_eq_true rfl) (Nat.le_of_ble_eq_true rfl) (Or.inr rfl) ⟨⟨_, rfl, h⟩, rfl⟩
set_option maxRecDepth 100000 in
set_option maxHeartbeats 4000000 in
theorem c_X7_mend {l : Launch} {D : va_G} {G : sx_G} {b : Nat} (hf : l.stackTraces = false) {f : sx_F} {x1 : Int32} {x2 : Int32} {x3 : Int32} {x4 : Int32} {Q : Int32 → sx_F → Prop}  (h : P_X7_mend f x1 x2 x3 x4 Q) : sx_Met l D G b 26 lyM yX7_mend cX7_mend 8 (some .int) 4 79 0 0 [.ref (b + 0), .int x1, .int x2, .int x3, .int x4] f (sx_qi Q) (fun _ _ => False) := by
  refine sx_enter (own := RX7) hf rfl rfl (Nat.le_of_ble_eq_true rfl) ?_
  intro p e s m args below meth c C hr ht
  have hB : ∀ k, k < 26 → sx_A b 26 s.heap.size (b + k) := fun k h => sx_A.in h
  unfold P_X7_mend at h
  replace h := h (fun (f : sx_F) (v7 : Int32) (s1 : Int32) (s2 : Int32) (s3 : Int32) => sx_J (sx_wp D G b lyM 26) p l e { frames := 4, cells := 0, slots := 0, locals := 79 } s m args below meth c (sx_A b 26 s.heap.size) 8 0 0 (sx_fin (sx_wp D G b lyM 26) (sx_A b 26 s.heap.size) below args s 0 0 (sx_qi Q) (fun _ _ => False)) f 84 [(7, .int v7)] [.int s3, .int s2, .int s1, .ref (b + 5)])
  replace h := h (by
    intro f v7 s1 s2 s3 h
    refine sx_iadd C dX7_mend_84 85 rfl ?_
    refine sx_iast C dX7_mend_85 hB (by decide) lyM_5 h.1 86 rfl (fun g1 eg1 => ?_)
    replace h := h.2 g1 eg1
    refine sx_iload C dX7_mend_86 0 rfl 88 rfl ?_
    exact sx_iret C dX7_mend_88 hr (Nat.le_of_ble_eq_true rfl) (Nat.le_of_ble_eq_true rfl) ⟨_, rfl, h⟩)
  refine sx_sub (lv' := [(0, .ref (b + 0)), (1, .int x1), (2, .int x2), (3, .int x3), (4, .int x4)]) [0, 1, 2, 3, 4] rfl ?_
  refine sx_aload_n C dX7_mend_0 0 0 rfl rfl 1 rfl ?_
  refine sx_iload_n C dX7_mend_1 1 1 rfl rfl 2 rfl ?_
  refine sx_iload_n C dX7_mend_2 2 2 rfl rfl 3 rfl ?_
  refine sx_iload_n C dX7_mend_3 3 3 rfl rfl 4 rfl ?_
  refine sx_callV C ht hB (st := []) dX7_mend_4 (c_X7_isNote hf h) mi_X7_isNote lk_X7_123 mn_X7_isNote ms_X7_isNote (by decide) lyM_0 rfl rfl rfl rfl ⟨⟨(Nat.le_of_ble_eq_true rfl), (Nat.le_of_ble_eq_true rfl)⟩, (Nat.le_of_ble_eq_true rfl), (Nat.le_of_ble_eq_true rfl)⟩ (Nat.le_of_ble_eq_true rfl) ⟨(Nat.le_of_ble_eq_true rfl), (Nat.le_of_ble_eq_true rfl)⟩ (fun _ _ hx => hx.elim) 7 rfl (fun v g3 h => ?_)
  obtain ⟨⟨r2, rfl, h⟩, rfl⟩ := h
  refine sx_istore C dX7_mend_7 [(5, .int r2), (0, .ref (b + 0)), (1, .int x1), (2, .int x2), (3, .int x3), (4, .int x4)] (by decide) rfl 9 rfl ?_
  refine sx_aload_n C dX7_mend_9 0 1 rfl rfl 10 rfl ?_
  refine sx_iload C dX7_mend_10 0 rfl 12 rfl ?_
  refine sx_iload C dX7_mend_12 5 rfl 14 rfl ?_
  refine sx_iconst C dX7_mend_14 0 (by decide) 15 rfl ?_
  refine sx_bipush C dX7_mend_15 60 (by decide) 17 rfl ?_
  refine sx_callS C ht hB (st := [.int r2, .ref (b + 0)]) dX7_mend_17 (c_X7_in hf h) mi_X7_in lk_X7_95 mt_X7_in rfl rfl ⟨⟨(Nat.le_of_ble_eq_true rfl), (Nat.le_of_ble_eq_true rfl)⟩, (Nat.le_of_ble_eq_true rfl), (Nat.le_of_ble_eq_true rfl)⟩ (Nat.le_of_ble_eq_true rfl) ⟨(Nat.le_of_ble_eq_true rfl), (Nat.le_of_ble_eq_true rfl)⟩ (fun _ _ hx => hx.elim) 20 rfl (fun v g5 h => ?_)
  obtain ⟨⟨r4, rfl, h⟩, rfl⟩ := h
  refine sx_iconst C dX7_mend_20 1 (by decide) 21 rfl ?_
  refine sx_callV C ht hB (st := []) dX7_mend_21 (c_X7_goes hf h) mi_X7_goes lk_X7_105 mn_X7_goes ms_X7_goes (by decide) lyM_0 rfl rfl rfl rfl ⟨⟨(Nat.le_of_ble_eq_true rfl), (Nat.le_of_ble_eq_true rfl)⟩, (Nat.le_of_ble_eq_true rfl), (Nat.le_of_ble_eq_true rfl)⟩ (Nat.le_of_ble_eq_true rfl) ⟨(Nat.le_of_ble_eq_true rfl), (Nat.le_of_ble_eq_true rfl)⟩ (fun _ _ hx => hx.elim) 24 rfl (fun v g6 h => ?_)
  obtain ⟨r7, rfl, h⟩ := h
  refine sx_if_ne C dX7_mend_24 29 27 (by decide) rfl (fun c8 => ?_) (fun c8 => ?_)
  · replace h := h.2 c8
    refine sx_iload_n C dX7_mend_29 1 2 rfl rfl 30 rfl ?_
    refine sx_iload_n C dX7_mend_30 2 3 rfl rfl 31 rfl ?_
    refine sx_callS C ht hB (st := []) dX7_mend_31 (c_X7_cell hf h) mi_X7_cell lk_X7_116 mt_X7_cell rfl rfl ⟨⟨(Nat.le_of_ble_eq_true rfl), (Nat.le_of_ble_eq_true rfl)⟩, (Nat.le_of_ble_eq_true rfl), (Nat.le_of_ble_eq_true rfl)⟩ (Nat.le_of_ble_eq_true rfl) ⟨(Nat.le_of_ble_eq_true rfl), (Nat.le_of_ble_eq_true rfl)⟩ (fun _ _ hx => hx.elim) 34 rfl (fun v g10 h => ?_)
    obtain ⟨⟨r9, rfl, h⟩, rfl⟩ := h
    refine sx_istore C dX7_mend_34 [(6, .int r9), (5, .int r2), (0, .ref (b + 0)), (1, .int x1), (2, .int x2), (3, .int x3), (4, .int x4)] (by decide) rfl 36 rfl ?_
    refine sx_aload_n C dX7_mend_36 0 2 rfl rfl 37 rfl ?_
    refine sx_getq C (T := TX7) (C0 := RX7) (N := 34) (j := 2) dX7_mend_37 fl_X7_16 inw_X7 rfl (by decide) rfl (by decide) lyM_0 rfl 40 rfl ?_
    refine sx_bipush C dX7_mend_40 8 (by decide) 42 rfl ?_
    refine sx_iload C dX7_mend_42 0 rfl 44 rfl ?_
    refine sx_imul C dX7_mend_44 45 rfl ?_
    refine sx_iload_n C dX7_mend_45 3 5 rfl rfl 46 rfl ?_
    refine sx_iadd C dX7_mend_46 47 rfl ?_
    refine sx_iald C dX7_mend_47 (by decide) lyM_3 h.1 48 rfl ?_
    replace h := h.2
    refine sx_topi (fun y11 ey11 => ?_)
    replace h := h y11 ey11
    refine sx_istore C dX7_mend_48 [(7, .int y11), (6, .int r9), (5, .int r2), (0, .ref (b + 0)), (1, .int x1), (2, .int x2), (3, .int x3), (4, .int x4)] (by decide) rfl 50 rfl ?_
    refine sx_aload_n C dX7_mend_50 0 3 rfl rfl 51 rfl ?_
    refine sx_getq C (T := TX7) (C0 := RX7) (N := 34) (j := 2) dX7_mend_51 fl_X7_16 inw_X7 rfl (by decide) rfl (by decide) lyM_0 rfl 54 rfl ?_
    refine sx_bipush C dX7_mend_54 8 (by decide) 56 rfl ?_
    refine sx_iload C dX7_mend_56 1 rfl 58 rfl ?_
    refine sx_imul C dX7_mend_58 59 rfl ?_
    refine sx_iload_n C dX7_mend_59 3 6 rfl rfl 60 rfl ?_
    refine sx_iadd C dX7_mend_60 61 rfl ?_
    refine sx_iload C dX7_mend_61 7 rfl 63 rfl ?_
    refine sx_iast C dX7_mend_63 hB (by decide) lyM_3 h.1 64 rfl (fun g12 eg12 => ?_)
    replace h := h.2 g12 eg12
    refine sx_aload_n C dX7_mend_64 0 3 rfl rfl 65 rfl ?_
    refine sx_getq C (T := TX7) (C0 := RX7) (N := 34) (j := 4) dX7_mend_65 fl_X7_22 inw_X7 rfl (by decide) rfl (by decide) lyM_0 rfl 68 rfl ?_
    refine sx_iload C dX7_mend_68 1 rfl 70 rfl ?_
    refine sx_dup2 C dX7_mend_70 rfl rfl 71 rfl ?_
    refine sx_iald C dX7_mend_71 (by decide) lyM_5 h.1 72 rfl ?_
    replace h := h.2
    refine sx_iload C dX7_mend_72 0 rfl 74 rfl ?_
    refine sx_iload C dX7_mend_74 7 rfl 76 rfl ?_
    refine sx_icmp_ne C dX7_mend_76 83 79 (by decide) rfl (fun c13 => ?_) (fun c13 => ?_)
    · replace h := h.2 c13
      refine sx_iconst C dX7_mend_83 1 (by decide) 84 rfl ?_
      exact sx_sub [0] rfl h
    · replace h := h.1 c13
      refine sx_iconst C dX7_mend_79 0 (by decide) 80 rfl ?_
      refine sx_goto C dX7_mend_80 84 (by decide) ?_
      exact sx_sub [0] rfl h
  · replace h := h.1 c8
    refine sx_iconst C dX7_mend_27 0 (by decide) 28 rfl ?_
    exact sx_iret C dX7_mend_28 hr (Nat.le_of_ble_eq_true rfl) (Nat.le_of_ble_eq_true rfl) ⟨_, rfl, h⟩
set_option maxRecDepth 100000 in
set_option maxHeartbeats 4000000 in
theorem c_X7_empty {l : Launch} {D : va_G} {G : sx_G} {b : Nat} (hf : l.stackTraces = false) {f : sx_F} {x1 : Int32} {x2 : Int32} {Q : Int32 → sx_F → Prop}  (h : P_X7_empty f x1 x2 Q) : sx_Met l D G b 26 lyM yX7_empty cX7_empty 5 (some .int) 3 56 0 0 [.ref (b + 0), .int x1, .int x2] f (sx_qi Q) (fun _ _ => False) := by
  refine sx_enter (own := RX7) hf rfl rfl (Nat.le_of_ble_eq_true rfl) ?_
  intro p e s m args below meth c C hr ht
  have hB : ∀ k, k < 26 → sx_A b 26 s.heap.size (b + k) := fun k h => sx_A.in h
  unfold P_X7_empty at h
  replace h := h (fun (f : sx_F) => sx_J (sx_wp D G b lyM 26) p l e { frames := 3, cells := 0, slots := 0, locals := 56 } s m args below meth c (sx_A b 26 s.heap.size) 5 0 0 (sx_fin (sx_wp D G b lyM 26) (sx_A b 26 s.heap.size) below args s 0 0 (sx_qi Q) (fun _ _ => False)) f 20 [(0, .ref (b + 0)), (1, .int x1), (2, .int x2)] [.ref (b + 0)])
  replace h := h (fun (f : sx_F) (s1 : Int32) => sx_J (sx_wp D G b lyM 26) p l e { frames := 3, cells := 0, slots := 0, locals := 56 } s m args below meth c (sx_A b 26 s.heap.size) 5 0 0 (sx_fin (sx_wp D G b lyM 26) (sx_A b 26 s.heap.size) below args s 0 0 (sx_qi Q) (fun _ _ => False)) f 21 [(0, .ref (b + 0)), (1, .int x1), (2, .int x2)] [.int s1, .ref (b + 0)])
  replace h := h (fun (f : sx_F) (v4 : Int32) (s1 : Int32) (s2 : Int32) (s3 : Int32) => sx_J (sx_wp D G b lyM 26) p l e { frames := 3, cells := 0, slots := 0, locals := 56 } s m args below meth c (sx_A b 26 s.heap.size) 5 0 0 (sx_fin (sx_wp D G b lyM 26) (sx_A b 26 s.heap.size) below args s 0 0 (sx_qi Q) (fun _ _ => False)) f 69 [(4, .int v4)] [.int s3, .int s2, .int s1, .ref (b + 5)])
  replace h := h (by
    intro f h
    refine sx_iconst C dX7_empty_20 0 (by decide) 21 rfl ?_
    exact sx_sub [0, 1, 2] rfl h)
  replace h := h (by
    intro f s1 h
    refine sx_iconst C dX7_empty_21 1 (by decide) 22 rfl ?_
    refine sx_iconst C dX7_empty_22 1 (by decide) 23 rfl ?_
    refine sx_callV C ht hB (st := []) dX7_empty_23 (c_X7_goes hf h) mi_X7_goes lk_X7_105 mn_X7_goes ms_X7_goes (by decide) lyM_0 rfl rfl rfl rfl ⟨⟨(Nat.le_of_ble_eq_true rfl), (Nat.le_of_ble_eq_true rfl)⟩, (Nat.le_of_ble_eq_true rfl), (Nat.le_of_ble_eq_true rfl)⟩ (Nat.le_of_ble_eq_true rfl) ⟨(Nat.le_of_ble_eq_true rfl), (Nat.le_of_ble_eq_true rfl)⟩ (fun _ _ hx => hx.elim) 26 rfl (fun v g1 h => ?_)
    obtain ⟨r2, rfl, h⟩ := h
    refine sx_if_ne C dX7_empty_26 31 29 (by decide) rfl (fun c3 => ?_) (fun c3 => ?_)
    · replace h := h.2 c3
      refine sx_iload_n C dX7_empty_31 1 1 rfl rfl 32 rfl ?_
      refine sx_iload_n C dX7_empty_32 2 2 rfl rfl 33 rfl ?_
      refine sx_callS C ht hB (st := []) dX7_empty_33 (c_X7_cell hf h) mi_X7_cell lk_X7_116 mt_X7_cell rfl rfl ⟨⟨(Nat.le_of_ble_eq_true rfl), (Nat.le_of_ble_eq_true rfl)⟩, (Nat.le_of_ble_eq_true rfl), (Nat.le_of_ble_eq_true rfl)⟩ (Nat.le_of_ble_eq_true rfl) ⟨(Nat.le_of_ble_eq_true rfl), (Nat.le_of_ble_eq_true rfl)⟩ (fun _ _ hx => hx.elim) 36 rfl (fun v g5 h => ?_)
      obtain ⟨⟨r4, rfl, h⟩, rfl⟩ := h
      refine sx_istore_n C dX7_empty_36 3 rfl [(3, .int r4), (0, .ref (b + 0)), (1, .int x1), (2, .int x2)] (by decide) rfl 37 rfl ?_
      refine sx_aload_n C dX7_empty_37 0 1 rfl rfl 38 rfl ?_
      refine sx_getq C (T := TX7) (C0 := RX7) (N := 34) (j := 3) dX7_empty_38 fl_X7_19 inw_X7 rfl (by decide) rfl (by decide) lyM_0 rfl 41 rfl ?_
      refine sx_iload_n C dX7_empty_41 3 0 rfl rfl 42 rfl ?_
      refine sx_iald C dX7_empty_42 (by decide) lyM_4 h.1 43 rfl ?_
      replace h := h.2
      refine sx_topi (fun y6 ey6 => ?_)
      replace h := h y6 ey6
      refine sx_istore C dX7_empty_43 [(4, .int y6), (3, .int r4), (0, .ref (b + 0)), (1, .int x1), (2, .int x2)] (by decide) rfl 45 rfl ?_
      refine sx_aload_n C dX7_empty_45 0 2 rfl rfl 46 rfl ?_
      refine sx_getq C (T := TX7) (C0 := RX7) (N := 34) (j := 3) dX7_empty_46 fl_X7_19 inw_X7 rfl (by decide) rfl (by decide) lyM_0 rfl 49 rfl ?_
      refine sx_iload_n C dX7_empty_49 3 1 rfl rfl 50 rfl ?_
      refine sx_iconst C dX7_empty_50 0 (by decide) 51 rfl ?_
      refine sx_iast C dX7_empty_51 hB (by decide) lyM_4 h.1 52 rfl (fun g7 eg7 => ?_)
      replace h := h.2 g7 eg7
      refine sx_aload_n C dX7_empty_52 0 2 rfl rfl 53 rfl ?_
      refine sx_getq C (T := TX7) (C0 := RX7) (N := 34) (j := 4) dX7_empty_53 fl_X7_22 inw_X7 rfl (by decide) rfl (by decide) lyM_0 rfl 56 rfl ?_
      refine sx_iload_n C dX7_empty_56 3 1 rfl rfl 57 rfl ?_
      refine sx_dup2 C dX7_empty_57 rfl rfl 58 rfl ?_
      refine sx_iald C dX7_empty_58 (by decide) lyM_5 h.1 59 rfl ?_
      replace h := h.2
      refine sx_iload C dX7_empty_59 0 rfl 61 rfl ?_
      refine sx_if_ne C dX7_empty_61 68 64 (by decide) rfl (fun c8 => ?_) (fun c8 => ?_)
      · replace h := h.2 c8
        refine sx_iconst C dX7_empty_68 1 (by decide) 69 rfl ?_
        exact sx_sub [0] rfl h
      · replace h := h.1 c8
        refine sx_iconst C dX7_empty_64 0 (by decide) 65 rfl ?_
        refine sx_goto C dX7_empty_65 69 (by decide) ?_
        exact sx_sub [0] rfl h
    · replace h := h.1 c3
      refine sx_iconst C dX7_empty_29 0 (by decide) 30 rfl ?_
      exact sx_iret C dX7_empty_30 hr (Nat.le_of_ble_eq_true rfl) (Nat.le_of_ble_eq_true rfl) ⟨_, rfl, h⟩)
  replace h := h (by
    intro f v4 s1 s2 s3 h
    refine sx_iadd C dX7_empty_69 70 rfl ?_
    refine sx_iast C dX7_empty_70 hB (by decide) lyM_5 h.1 71 rfl (fun g9 eg9 => ?_)
    replace h := h.2 g9 eg9
    refine sx_iload C dX7_empty_71 0 rfl 73 rfl ?_
    exact sx_iret C dX7_empty_73 hr (Nat.le_of_ble_eq_true rfl) (Nat.le_of_ble_eq_true rfl) ⟨_, rfl, h⟩)
  refine sx_sub (lv' := [(0, .ref (b + 0)), (1, .int x1), (2, .int x2)]) [0, 1, 2] rfl ?_
  refine sx_aload_n C dX7_empty_0 0 0 rfl rfl 1 rfl ?_
  refine sx_iload_n C dX7_empty_1 1 1 rfl rfl 2 rfl ?_
  refine sx_callS C ht hB (st := [.ref (b + 0)]) dX7_empty_2 (c_X7_isInstrument hf h) mi_X7_isInstrument lk_X7_109 mt_X7_isInstrument rfl rfl ⟨⟨(Nat.le_of_ble_eq_true rfl), (Nat.le_of_ble_eq_true rfl)⟩, (Nat.le_of_ble_eq_true rfl), (Nat.le_of_ble_eq_true rfl)⟩ (Nat.le_of_ble_eq_true rfl) ⟨(Nat.le_of_ble_eq_true rfl), (Nat.le_of_ble_eq_true rfl)⟩ (fun _ _ hx => hx.elim) 5 rfl (fun v g11 h => ?_)
  obtain ⟨⟨r10, rfl, h⟩, rfl⟩ := h
  refine sx_if_eq C dX7_empty_5 20 8 (by decide) rfl (fun c12 => ?_) (fun c12 => ?_)
  · replace h := h.1 c12
    exact sx_sub [0, 1, 2] rfl h
  · replace h := h.2 c12
    refine sx_aload_n C dX7_empty_8 0 0 rfl rfl 9 rfl ?_
    refine sx_iload_n C dX7_empty_9 2 2 rfl rfl 10 rfl ?_
    refine sx_callV C ht hB (st := [.ref (b + 0)]) dX7_empty_10 (c_X7_isBar hf h) mi_X7_isBar lk_X7_113 mn_X7_isBar ms_X7_isBar (by decide) lyM_0 rfl rfl rfl rfl ⟨⟨(Nat.le_of_ble_eq_true rfl), (Nat.le_of_ble_eq_true rfl)⟩, (Nat.le_of_ble_eq_true rfl), (Nat.le_of_ble_eq_true rfl)⟩ (Nat.le_of_ble_eq_true rfl) ⟨(Nat.le_of_ble_eq_true rfl), (Nat.le_of_ble_eq_true rfl)⟩ (fun _ _ hx => hx.elim) 13 rfl (fun v g14 h => ?_)
    obtain ⟨⟨r13, rfl, h⟩, rfl⟩ := h
    refine sx_if_eq C dX7_empty_13 20 16 (by decide) rfl (fun c15 => ?_) (fun c15 => ?_)
    · replace h := h.1 c15
      exact sx_sub [0, 1, 2] rfl h
    · replace h := h.2 c15
      refine sx_iconst C dX7_empty_16 1 (by decide) 17 rfl ?_
      refine sx_goto C dX7_empty_17 21 (by decide) ?_
      exact sx_sub [0, 1, 2] rfl h
set_option maxRecDepth 100000 in
set_option maxHeartbeats 4000000 in
theorem c_X7_setPaper {l : Launch} {D : va_G} {G : sx_G} {b : Nat} (hf : l.stackTraces = false) {f : sx_F} {x1 : Int32} {x2 : Int32} {Q : Int32 → sx_F → Prop}  (h : P_X7_setPaper f x1 x2 Q) : sx_Met l D G b 26 lyM yX7_setPaper cX7_setPaper 4 (some .int) 2 36 0 0 [.ref (b + 0), .int x1, .int x2] f (sx_qi Q) (fun _ _ => False) := by
  refine sx_enter (own := RX7) hf rfl rfl (Nat.le_of_ble_eq_true rfl) ?_
  intro p e s m args below meth c C hr ht
  have hB : ∀ k, k < 26 → sx_A b 26 s.heap.size (b + k) := fun k h => sx_A.in h
  unfold P_X7_setPaper at h
  replace h := h (fun (f : sx_F) => sx_J (sx_wp D G b lyM 26) p l e { frames := 2, cells := 0, slots := 0, locals := 36 } s m args below meth c (sx_A b 26 s.heap.size) 4 0 0 (sx_fin (sx_wp D G b lyM 26) (sx_A b 26 s.heap.size) below args s 0 0 (sx_qi Q) (fun _ _ => False)) f 27 [(0, .ref (b + 0)), (1, .int x1), (2, .int x2)] [.ref (b + 0)])
  replace h := h (fun (f : sx_F) (s1 : Int32) => sx_J (sx_wp D G b lyM 26) p l e { frames := 2, cells := 0, slots := 0, locals := 36 } s m args below meth c (sx_A b 26 s.heap.size) 4 0 0 (sx_fin (sx_wp D G b lyM 26) (sx_A b 26 s.heap.size) below args s 0 0 (sx_qi Q) (fun _ _ => False)) f 28 [(0, .ref (b + 0)), (1, .int x1), (2, .int x2)] [.int s1, .ref (b + 0)])
  replace h := h (by
    intro f h
    refine sx_iconst C dX7_setPaper_27 0 (by decide) 28 rfl ?_
    exact sx_sub [0, 1, 2] rfl h)
  replace h := h (by
    intro f s1 h
    refine sx_iconst C dX7_setPaper_28 1 (by decide) 29 rfl ?_
    refine sx_iconst C dX7_setPaper_29 1 (by decide) 30 rfl ?_
    refine sx_callV C ht hB (st := []) dX7_setPaper_30 (c_X7_goes hf h) mi_X7_goes lk_X7_105 mn_X7_goes ms_X7_goes (by decide) lyM_0 rfl rfl rfl rfl ⟨⟨(Nat.le_of_ble_eq_true rfl), (Nat.le_of_ble_eq_true rfl)⟩, (Nat.le_of_ble_eq_true rfl), (Nat.le_of_ble_eq_true rfl)⟩ (Nat.le_of_ble_eq_true rfl) ⟨(Nat.le_of_ble_eq_true rfl), (Nat.le_of_ble_eq_true rfl)⟩ (fun _ _ hx => hx.elim) 33 rfl (fun v g1 h => ?_)
    obtain ⟨r2, rfl, h⟩ := h
    refine sx_if_ne C dX7_setPaper_33 38 36 (by decide) rfl (fun c3 => ?_) (fun c3 => ?_)
    · replace h := h.2 c3
      refine sx_aload_n C dX7_setPaper_38 0 0 rfl rfl 39 rfl ?_
      refine sx_geti C (T := TX7) (C0 := RX7) (N := 34) (j := 6) dX7_setPaper_39 fl_X7_25 inw_X7 rfl (by decide) rfl (by decide) lyM_0 rfl 42 rfl ?_
      refine sx_topi (fun y4 ey4 => ?_)
      replace h := h y4 ey4
      refine sx_istore_n C dX7_setPaper_42 3 rfl [(3, .int y4), (0, .ref (b + 0)), (1, .int x1), (2, .int x2)] (by decide) rfl 43 rfl ?_
      refine sx_aload_n C dX7_setPaper_43 0 1 rfl rfl 44 rfl ?_
      refine sx_iload_n C dX7_setPaper_44 1 2 rfl rfl 45 rfl ?_
      refine sx_puti C (T := TX7) (C0 := RX7) (N := 34) (j := 6) dX7_setPaper_45 fl_X7_25 inw_X7 rfl tyX7 tyX7_ok nmX7 (by decide) rfl rfl rfl hB (by decide) lyM_0 rfl 48 rfl (fun g5 eg5 => ?_)
      replace h := h g5 eg5
      refine sx_aload_n C dX7_setPaper_48 0 1 rfl rfl 49 rfl ?_
      refine sx_iload_n C dX7_setPaper_49 2 3 rfl rfl 50 rfl ?_
      refine sx_puti C (T := TX7) (C0 := RX7) (N := 34) (j := 7) dX7_setPaper_50 fl_X7_29 inw_X7 rfl tyX7 tyX7_ok nmX7 (by decide) rfl rfl rfl hB (by decide) lyM_0 rfl 53 rfl (fun g6 eg6 => ?_)
      replace h := h g6 eg6
      refine sx_iload_n C dX7_setPaper_53 3 0 rfl rfl 54 rfl ?_
      exact sx_iret C dX7_setPaper_54 hr (Nat.le_of_ble_eq_true rfl) (Nat.le_of_ble_eq_true rfl) ⟨_, rfl, h⟩
    · replace h := h.1 c3
      refine sx_iconst C dX7_setPaper_36 0 (by decide) 37 rfl ?_
      exact sx_iret C dX7_setPaper_37 hr (Nat.le_of_ble_eq_true rfl) (Nat.le_of_ble_eq_true rfl) ⟨_, rfl, h⟩)
  refine sx_sub (lv' := [(0, .ref (b + 0)), (1, .int x1), (2, .int x2)]) [0, 1, 2] rfl ?_
  refine sx_aload_n C dX7_setPaper_0 0 0 rfl rfl 1 rfl ?_
  refine sx_iload_n C dX7_setPaper_1 1 1 rfl rfl 2 rfl ?_
  refine sx_bipush C dX7_setPaper_2 80 (by decide) 4 rfl ?_
  refine sx_sipush C dX7_setPaper_4 500 (by decide) 7 rfl ?_
  refine sx_callS C ht hB (st := [.ref (b + 0)]) dX7_setPaper_7 (c_X7_in hf h) mi_X7_in lk_X7_95 mt_X7_in rfl rfl ⟨⟨(Nat.le_of_ble_eq_true rfl), (Nat.le_of_ble_eq_true rfl)⟩, (Nat.le_of_ble_eq_true rfl), (Nat.le_of_ble_eq_true rfl)⟩ (Nat.le_of_ble_eq_true rfl) ⟨(Nat.le_of_ble_eq_true rfl), (Nat.le_of_ble_eq_true rfl)⟩ (fun _ _ hx => hx.elim) 10 rfl (fun v g8 h => ?_)
  obtain ⟨⟨r7, rfl, h⟩, rfl⟩ := h
  refine sx_if_eq C dX7_setPaper_10 27 13 (by decide) rfl (fun c9 => ?_) (fun c9 => ?_)
  · replace h := h.1 c9
    exact sx_sub [0, 1, 2] rfl h
  · replace h := h.2 c9
    refine sx_iload_n C dX7_setPaper_13 2 2 rfl rfl 14 rfl ?_
    refine sx_iconst C dX7_setPaper_14 1 (by decide) 15 rfl ?_
    refine sx_bipush C dX7_setPaper_15 6 (by decide) 17 rfl ?_
    refine sx_callS C ht hB (st := [.ref (b + 0)]) dX7_setPaper_17 (c_X7_in hf h) mi_X7_in lk_X7_95 mt_X7_in rfl rfl ⟨⟨(Nat.le_of_ble_eq_true rfl), (Nat.le_of_ble_eq_true rfl)⟩, (Nat.le_of_ble_eq_true rfl), (Nat.le_of_ble_eq_true rfl)⟩ (Nat.le_of_ble_eq_true rfl) ⟨(Nat.le_of_ble_eq_true rfl), (Nat.le_of_ble_eq_true rfl)⟩ (fun _ _ hx => hx.elim) 20 rfl (fun v g11 h => ?_)
    obtain ⟨⟨r10, rfl, h⟩, rfl⟩ := h
    refine sx_if_eq C dX7_setPaper_20 27 23 (by decide) rfl (fun c12 => ?_) (fun c12 => ?_)
    · replace h := h.1 c12
      exact sx_sub [0, 1, 2] rfl h
    · replace h := h.2 c12
      refine sx_iconst C dX7_setPaper_23 1 (by decide) 24 rfl ?_
      refine sx_goto C dX7_setPaper_24 28 (by decide) ?_
      exact sx_sub [0, 1, 2] rfl h
set_option maxRecDepth 100000 in
set_option maxHeartbeats 4000000 in
theorem c_X7_copy {l : Launch} {D : va_G} {G : sx_G} {b : Nat} (hf : l.stackTraces = false) {f : sx_F} {x1 : Int32} {Q : Int32 → sx_F → Prop}  (h : P_X7_copy f x1 Q) : sx_Met l D G b 26 lyM yX7_copy cX7_copy 2 (some .int) 3 55 0 0 [.ref (b + 0), .int x1] f (sx_qi Q) (fun _ _ => False) := by
  refine sx_enter (own := RX7) hf rfl rfl (Nat.le_of_ble_eq_true rfl) ?_
  intro p e s m args below meth c C hr ht
  have hB : ∀ k, k < 26 → sx_A b 26 s.heap.size (b + k) := fun k h => sx_A.in h
  unfold P_X7_copy at h
  replace h := h (fun (f : sx_F) (s1 : Int32) (s2 : Int32) => sx_J (sx_wp D G b lyM 26) p l e { frames := 3, cells := 0, slots := 0, locals := 55 } s m args below meth c (sx_A b 26 s.heap.size) 2 0 0 (sx_fin (sx_wp D G b lyM 26) (sx_A b 26 s.heap.size) below args s 0 0 (sx_qi Q) (fun _ _ => False)) f 19 [(0, .ref (b + 0)), (1, .int x1)] [.int s2, .int s1, .ref (b + 0)])
  replace h := h (by
    intro f s1 s2 h
    refine sx_iconst C dX7_copy_19 1 (by decide) 20 rfl ?_
    refine sx_callV C ht hB (st := []) dX7_copy_20 (c_X7_goes hf h) mi_X7_goes lk_X7_105 mn_X7_goes ms_X7_goes (by decide) lyM_0 rfl rfl rfl rfl ⟨⟨(Nat.le_of_ble_eq_true rfl), (Nat.le_of_ble_eq_true rfl)⟩, (Nat.le_of_ble_eq_true rfl), (Nat.le_of_ble_eq_true rfl)⟩ (Nat.le_of_ble_eq_true rfl) ⟨(Nat.le_of_ble_eq_true rfl), (Nat.le_of_ble_eq_true rfl)⟩ (fun _ _ hx => hx.elim) 23 rfl (fun v g1 h => ?_)
    obtain ⟨r2, rfl, h⟩ := h
    refine sx_if_ne C dX7_copy_23 28 26 (by decide) rfl (fun c3 => ?_) (fun c3 => ?_)
    · replace h := h.2 c3
      refine sx_aload_n C dX7_copy_28 0 0 rfl rfl 29 rfl ?_
      refine sx_getq C (T := TX7) (C0 := RX7) (N := 34) (j := 8) dX7_copy_29 fl_X7_32 inw_X7 rfl (by decide) rfl (by decide) lyM_0 rfl 32 rfl ?_
      refine sx_aload_n C dX7_copy_32 0 0 rfl rfl 33 rfl ?_
      refine sx_geti C (T := TX7) (C0 := RX7) (N := 34) (j := 11) dX7_copy_33 fl_X7_102 inw_X7 rfl (by decide) rfl (by decide) lyM_0 rfl 36 rfl ?_
      refine sx_iload_n C dX7_copy_36 1 1 rfl rfl 37 rfl ?_
      refine sx_iast C dX7_copy_37 hB (by decide) lyM_6 h.1 38 rfl (fun g4 eg4 => ?_)
      replace h := h.2 g4 eg4
      refine sx_aload_n C dX7_copy_38 0 0 rfl rfl 39 rfl ?_
      refine sx_getq C (T := TX7) (C0 := RX7) (N := 34) (j := 9) dX7_copy_39 fl_X7_35 inw_X7 rfl (by decide) rfl (by decide) lyM_0 rfl 42 rfl ?_
      refine sx_aload_n C dX7_copy_42 0 0 rfl rfl 43 rfl ?_
      refine sx_geti C (T := TX7) (C0 := RX7) (N := 34) (j := 11) dX7_copy_43 fl_X7_102 inw_X7 rfl (by decide) rfl (by decide) lyM_0 rfl 46 rfl ?_
      refine sx_iconst C dX7_copy_46 (-1) (by decide) 47 rfl ?_
      refine sx_iast C dX7_copy_47 hB (by decide) lyM_7 h.1 48 rfl (fun g5 eg5 => ?_)
      replace h := h.2 g5 eg5
      refine sx_aload_n C dX7_copy_48 0 0 rfl rfl 49 rfl ?_
      refine sx_dup C dX7_copy_49 rfl 50 rfl ?_
      refine sx_geti C (T := TX7) (C0 := RX7) (N := 34) (j := 11) dX7_copy_50 fl_X7_102 inw_X7 rfl (by decide) rfl (by decide) lyM_0 rfl 53 rfl ?_
      refine sx_iconst C dX7_copy_53 1 (by decide) 54 rfl ?_
      refine sx_iadd C dX7_copy_54 55 rfl ?_
      refine sx_puti C (T := TX7) (C0 := RX7) (N := 34) (j := 11) dX7_copy_55 fl_X7_102 inw_X7 rfl tyX7 tyX7_ok nmX7 (by decide) rfl rfl rfl hB (by decide) lyM_0 rfl 58 rfl (fun g6 eg6 => ?_)
      replace h := h g6 eg6
      refine sx_aload_n C dX7_copy_58 0 0 rfl rfl 59 rfl ?_
      refine sx_geti C (T := TX7) (C0 := RX7) (N := 34) (j := 11) dX7_copy_59 fl_X7_102 inw_X7 rfl (by decide) rfl (by decide) lyM_0 rfl 62 rfl ?_
      refine sx_iconst C dX7_copy_62 1 (by decide) 63 rfl ?_
      refine sx_isub C dX7_copy_63 64 rfl ?_
      exact sx_iret C dX7_copy_64 hr (Nat.le_of_ble_eq_true rfl) (Nat.le_of_ble_eq_true rfl) ⟨_, rfl, h⟩
    · replace h := h.1 c3
      refine sx_iconst C dX7_copy_26 0 (by decide) 27 rfl ?_
      exact sx_iret C dX7_copy_27 hr (Nat.le_of_ble_eq_true rfl) (Nat.le_of_ble_eq_true rfl) ⟨_, rfl, h⟩)
  refine sx_sub (lv' := [(0, .ref (b + 0)), (1, .int x1)]) [0, 1] rfl ?_
  refine sx_aload_n C dX7_copy_0 0 0 rfl rfl 1 rfl ?_
  refine sx_iload_n C dX7_copy_1 1 1 rfl rfl 2 rfl ?_
  refine sx_callS C ht hB (st := [.ref (b + 0)]) dX7_copy_2 (c_X7_isInstrument hf h) mi_X7_isInstrument lk_X7_109 mt_X7_isInstrument rfl rfl ⟨⟨(Nat.le_of_ble_eq_true rfl), (Nat.le_of_ble_eq_true rfl)⟩, (Nat.le_of_ble_eq_true rfl), (Nat.le_of_ble_eq_true rfl)⟩ (Nat.le_of_ble_eq_true rfl) ⟨(Nat.le_of_ble_eq_true rfl), (Nat.le_of_ble_eq_true rfl)⟩ (fun _ _ hx => hx.elim) 5 rfl (fun v g8 h => ?_)
  obtain ⟨⟨r7, rfl, h⟩, rfl⟩ := h
  refine sx_aload_n C dX7_copy_5 0 0 rfl rfl 6 rfl ?_
  refine sx_geti C (T := TX7) (C0 := RX7) (N := 34) (j := 11) dX7_copy_6 fl_X7_102 inw_X7 rfl (by decide) rfl (by decide) lyM_0 rfl 9 rfl ?_
  refine sx_bipush C dX7_copy_9 16 (by decide) 11 rfl ?_
  refine sx_icmp_ge C dX7_copy_11 18 14 (by decide) rfl (fun c9 => ?_) (fun c9 => ?_)
  · replace h := h.1 c9
    refine sx_iconst C dX7_copy_18 0 (by decide) 19 rfl ?_
    exact sx_sub [0, 1] rfl h
  · replace h := h.2 c9
    refine sx_iconst C dX7_copy_14 1 (by decide) 15 rfl ?_
    refine sx_goto C dX7_copy_15 19 (by decide) ?_
    exact sx_sub [0, 1] rfl h
set_option maxRecDepth 100000 in
set_option maxHeartbeats 4000000 in
theorem c_X7_away {l : Launch} {D : va_G} {G : sx_G} {b : Nat} (hf : l.stackTraces = false) {f : sx_F}  {Q : Int32 → Prop}  (h : P_X7_away f  Q) : sx_Met l D G b 26 lyM yX7_away cX7_away 3 (some .int) 1 13 0 0 [.ref (b + 0)] f (sx_pi f Q) (fun _ _ => False) := by
  refine sx_enter (own := RX7) hf rfl rfl (Nat.le_of_ble_eq_true rfl) ?_
  intro p e s m args below meth c C hr ht
  have hB : ∀ k, k < 26 → sx_A b 26 s.heap.size (b + k) := fun k h => sx_A.in h
  unfold P_X7_away at h
  replace h := h (fun (v1 : Int32) (v2 : Int32) => sx_J (sx_wp D G b lyM 26) p l e { frames := 1, cells := 0, slots := 0, locals := 13 } s m args below meth c (sx_A b 26 s.heap.size) 3 0 0 (sx_fin (sx_wp D G b lyM 26) (sx_A b 26 s.heap.size) below args s 0 0 (sx_pi f Q) (fun _ _ => False)) f 4 [(0, .ref (b + 0)), (1, .int v1), (2, .int v2)] [])
  replace h := h (fun (v2 : Int32) (s0 : Int32) (s1 : Int32) => sx_J (sx_wp D G b lyM 26) p l e { frames := 1, cells := 0, slots := 0, locals := 13 } s m args below meth c (sx_A b 26 s.heap.size) 3 0 0 (sx_fin (sx_wp D G b lyM 26) (sx_A b 26 s.heap.size) below args s 0 0 (sx_pi f Q) (fun _ _ => False)) f 28 [(0, .ref (b + 0)), (2, .int v2)] [.int s1, .int s0])
  replace h := h (by
    intro v1 v2 h
    refine sx_iload_n C dX7_away_4 2 2 rfl rfl 5 rfl ?_
    refine sx_aload_n C dX7_away_5 0 0 rfl rfl 6 rfl ?_
    refine sx_geti C (T := TX7) (C0 := RX7) (N := 34) (j := 11) dX7_away_6 fl_X7_102 inw_X7 rfl (by decide) rfl (by decide) lyM_0 rfl 9 rfl ?_
    refine sx_icmp_ge C dX7_away_9 36 12 (by decide) rfl (fun c1 => ?_) (fun c1 => ?_)
    · replace h := h.1 c1
      refine sx_iload_n C dX7_away_36 1 1 rfl rfl 37 rfl ?_
      exact sx_iret C dX7_away_37 hr (Nat.le_of_ble_eq_true rfl) (Nat.le_of_ble_eq_true rfl) ⟨⟨_, rfl, h⟩, rfl⟩
    · replace h := h.2 c1
      refine sx_iload_n C dX7_away_12 1 1 rfl rfl 13 rfl ?_
      refine sx_aload_n C dX7_away_13 0 0 rfl rfl 14 rfl ?_
      refine sx_getq C (T := TX7) (C0 := RX7) (N := 34) (j := 9) dX7_away_14 fl_X7_35 inw_X7 rfl (by decide) rfl (by decide) lyM_0 rfl 17 rfl ?_
      refine sx_iload_n C dX7_away_17 2 2 rfl rfl 18 rfl ?_
      refine sx_iald C dX7_away_18 (by decide) lyM_7 h.1 19 rfl ?_
      replace h := h.2
      refine sx_iconst C dX7_away_19 (-1) (by decide) 20 rfl ?_
      refine sx_icmp_ne C dX7_away_20 27 23 (by decide) rfl (fun c2 => ?_) (fun c2 => ?_)
      · replace h := h.2 c2
        refine sx_iconst C dX7_away_27 1 (by decide) 28 rfl ?_
        exact sx_sub [0, 2] rfl h
      · replace h := h.1 c2
        refine sx_iconst C dX7_away_23 0 (by decide) 24 rfl ?_
        refine sx_goto C dX7_away_24 28 (by decide) ?_
        exact sx_sub [0, 2] rfl h)
  replace h := h (by
    intro v2 s0 s1 h
    refine sx_iadd C dX7_away_28 29 rfl ?_
    refine sx_topi (fun y3 ey3 => ?_)
    replace h := h y3 ey3
    refine sx_istore_n C dX7_away_29 1 rfl [(1, .int y3), (0, .ref (b + 0)), (2, .int v2)] (by decide) rfl 30 rfl ?_
    obtain ⟨y4, ey4⟩ : ∃ w : Int32, w = v2 + 1 := ⟨_, rfl⟩
    replace h := h y4 ey4
    refine sx_iinc C dX7_away_30 2 rfl y4 (by rw [ey4]; rfl) [(2, .int y4), (1, .int y3), (0, .ref (b + 0))] (by decide) rfl 33 rfl ?_
    refine sx_goto C dX7_away_33 4 (by decide) ?_
    exact sx_sub [2, 1, 0] rfl h)
  refine sx_sub (lv' := [(0, .ref (b + 0))]) [0] rfl ?_
  refine sx_iconst C dX7_away_0 0 (by decide) 1 rfl ?_
  refine sx_istore_n C dX7_away_1 1 rfl [(1, .int 0), (0, .ref (b + 0))] (by decide) rfl 2 rfl ?_
  refine sx_iconst C dX7_away_2 0 (by decide) 3 rfl ?_
  refine sx_istore_n C dX7_away_3 2 rfl [(2, .int 0), (1, .int 0), (0, .ref (b + 0))] (by decide) rfl 4 rfl ?_
  exact sx_sub [2, 1, 0] rfl h
set_option maxRecDepth 100000 in
set_option maxHeartbeats 4000000 in
theorem c_X7_renews {l : Launch} {D : va_G} {G : sx_G} {b : Nat} (hf : l.stackTraces = false) {f : sx_F} {x1 : Int32} {Q : sx_F → Prop}  (h : P_X7_renews f x1 Q) : sx_Met l D G b 26 lyM yX7_renews cX7_renews 3 (none) 2 34 0 0 [.ref (b + 0), .int x1] f (sx_qv Q) (fun _ _ => False) := by
  refine sx_enter (own := RX7) hf rfl rfl (Nat.le_of_ble_eq_true rfl) ?_
  intro p e s m args below meth c C hr ht
  have hB : ∀ k, k < 26 → sx_A b 26 s.heap.size (b + k) := fun k h => sx_A.in h
  unfold P_X7_renews at h
  replace h := h (fun (f : sx_F) (v2 : Int32) => sx_J (sx_wp D G b lyM 26) p l e { frames := 2, cells := 0, slots := 0, locals := 34 } s m args below meth c (sx_A b 26 s.heap.size) 3 0 0 (sx_fin (sx_wp D G b lyM 26) (sx_A b 26 s.heap.size) below args s 0 0 (sx_qv Q) (fun _ _ => False)) f 2 [(0, .ref (b + 0)), (1, .int x1), (2, .int v2)] [])
  replace h := h (fun (f : sx_F) (v2 : Int32) (s1 : Int32) (s2 : Int32) => sx_J (sx_wp D G b lyM 26) p l e { frames := 2, cells := 0, slots := 0, locals := 34 } s m args below meth c (sx_A b 26 s.heap.size) 3 0 0 (sx_fin (sx_wp D G b lyM 26) (sx_A b 26 s.heap.size) below args s 0 0 (sx_qv Q) (fun _ _ => False)) f 45 [(0, .ref (b + 0)), (1, .int x1), (2, .int v2)] [.int s2, .int s1, .ref (b + 8)])
  replace h := h (by
    intro f v2 h
    refine sx_iload_n C dX7_renews_2 2 2 rfl rfl 3 rfl ?_
    refine sx_bipush C dX7_renews_3 12 (by decide) 5 rfl ?_
    refine sx_icmp_ge C dX7_renews_5 52 8 (by decide) rfl (fun c1 => ?_) (fun c1 => ?_)
    · replace h := h.1 c1
      exact sx_vret C dX7_renews_52 hr (Nat.le_of_ble_eq_true rfl) (Nat.le_of_ble_eq_true rfl) ⟨rfl, h⟩
    · replace h := h.2 c1
      refine sx_aload_n C dX7_renews_8 0 0 rfl rfl 9 rfl ?_
      refine sx_getq C (T := TX7) (C0 := RX7) (N := 34) (j := 10) dX7_renews_9 fl_X7_38 inw_X7 rfl (by decide) rfl (by decide) lyM_0 rfl 12 rfl ?_
      refine sx_bipush C dX7_renews_12 12 (by decide) 14 rfl ?_
      refine sx_iload_n C dX7_renews_14 1 1 rfl rfl 15 rfl ?_
      refine sx_imul C dX7_renews_15 16 rfl ?_
      refine sx_iload_n C dX7_renews_16 2 2 rfl rfl 17 rfl ?_
      refine sx_iadd C dX7_renews_17 18 rfl ?_
      refine sx_iload_n C dX7_renews_18 2 2 rfl rfl 19 rfl ?_
      refine sx_aload_n C dX7_renews_19 0 0 rfl rfl 20 rfl ?_
      refine sx_geti C (T := TX7) (C0 := RX7) (N := 34) (j := 5) dX7_renews_20 fl_X7_99 inw_X7 rfl (by decide) rfl (by decide) lyM_0 rfl 23 rfl ?_
      refine sx_icmp_ge C dX7_renews_23 44 26 (by decide) rfl (fun c2 => ?_) (fun c2 => ?_)
      · replace h := h.1 c2
        refine sx_iconst C dX7_renews_44 (-1) (by decide) 45 rfl ?_
        exact sx_sub [0, 1, 2] rfl h
      · replace h := h.2 c2
        refine sx_aload_n C dX7_renews_26 0 0 rfl rfl 27 rfl ?_
        refine sx_getq C (T := TX7) (C0 := RX7) (N := 34) (j := 4) dX7_renews_27 fl_X7_22 inw_X7 rfl (by decide) rfl (by decide) lyM_0 rfl 30 rfl ?_
        refine sx_aload_n C dX7_renews_30 0 0 rfl rfl 31 rfl ?_
        refine sx_getq C (T := TX7) (C0 := RX7) (N := 34) (j := 8) dX7_renews_31 fl_X7_32 inw_X7 rfl (by decide) rfl (by decide) lyM_0 rfl 34 rfl ?_
        refine sx_iload_n C dX7_renews_34 1 1 rfl rfl 35 rfl ?_
        refine sx_iald C dX7_renews_35 (by decide) lyM_6 h.1 36 rfl ?_
        replace h := h.2
        refine sx_iload_n C dX7_renews_36 2 2 rfl rfl 37 rfl ?_
        refine sx_callS C ht hB (st := [.ref (b + 5), .int ((12 * x1) + v2), .ref (b + 8)]) dX7_renews_37 (c_X7_cell hf h) mi_X7_cell lk_X7_116 mt_X7_cell rfl rfl ⟨⟨(Nat.le_of_ble_eq_true rfl), (Nat.le_of_ble_eq_true rfl)⟩, (Nat.le_of_ble_eq_true rfl), (Nat.le_of_ble_eq_true rfl)⟩ (Nat.le_of_ble_eq_true rfl) ⟨(Nat.le_of_ble_eq_true rfl), (Nat.le_of_ble_eq_true rfl)⟩ (fun _ _ hx => hx.elim) 40 rfl (fun v g4 h => ?_)
        obtain ⟨⟨r3, rfl, h⟩, rfl⟩ := h
        refine sx_iald C dX7_renews_40 (by decide) lyM_5 h.1 41 rfl ?_
        replace h := h.2
        refine sx_goto C dX7_renews_41 45 (by decide) ?_
        exact sx_sub [0, 1, 2] rfl h)
  replace h := h (by
    intro f v2 s1 s2 h
    refine sx_iast C dX7_renews_45 hB (by decide) lyM_8 h.1 46 rfl (fun g5 eg5 => ?_)
    replace h := h.2 g5 eg5
    obtain ⟨y6, ey6⟩ : ∃ w : Int32, w = v2 + 1 := ⟨_, rfl⟩
    replace h := h y6 ey6
    refine sx_iinc C dX7_renews_46 2 rfl y6 (by rw [ey6]; rfl) [(2, .int y6), (0, .ref (b + 0)), (1, .int x1)] (by decide) rfl 49 rfl ?_
    refine sx_goto C dX7_renews_49 2 (by decide) ?_
    exact sx_sub [1, 2, 0] rfl h)
  refine sx_sub (lv' := [(0, .ref (b + 0)), (1, .int x1)]) [0, 1] rfl ?_
  refine sx_iconst C dX7_renews_0 0 (by decide) 1 rfl ?_
  refine sx_istore_n C dX7_renews_1 2 rfl [(2, .int 0), (0, .ref (b + 0)), (1, .int x1)] (by decide) rfl 2 rfl ?_
  exact sx_sub [1, 2, 0] rfl h
set_option maxRecDepth 100000 in
set_option maxHeartbeats 4000000 in
theorem c_X7_lend {l : Launch} {D : va_G} {G : sx_G} {b : Nat} (hf : l.stackTraces = false) {f : sx_F} {x1 : Int32} {x2 : Int32} {Q : Int32 → sx_F → Prop}  (h : P_X7_lend f x1 x2 Q) : sx_Met l D G b 26 lyM yX7_lend cX7_lend 6 (some .int) 3 56 0 0 [.ref (b + 0), .int x1, .int x2] f (sx_qi Q) (fun _ _ => False) := by
  refine sx_enter (own := RX7) hf rfl rfl (Nat.le_of_ble_eq_true rfl) ?_
  intro p e s m args below meth c C hr ht
  have hB : ∀ k, k < 26 → sx_A b 26 s.heap.size (b + k) := fun k h => sx_A.in h
  unfold P_X7_lend at h
  replace h := h (fun (f : sx_F) => sx_J (sx_wp D G b lyM 26) p l e { frames := 3, cells := 0, slots := 0, locals := 56 } s m args below meth c (sx_A b 26 s.heap.size) 6 0 0 (sx_fin (sx_wp D G b lyM 26) (sx_A b 26 s.heap.size) below args s 0 0 (sx_qi Q) (fun _ _ => False)) f 21 [(0, .ref (b + 0)), (1, .int x1), (2, .int x2)] [])
  replace h := h (fun (f : sx_F) (s0 : Int32) => sx_J (sx_wp D G b lyM 26) p l e { frames := 3, cells := 0, slots := 0, locals := 56 } s m args below meth c (sx_A b 26 s.heap.size) 6 0 0 (sx_fin (sx_wp D G b lyM 26) (sx_A b 26 s.heap.size) below args s 0 0 (sx_qi Q) (fun _ _ => False)) f 22 [(0, .ref (b + 0)), (1, .int x1), (2, .int x2)] [.int s0])
  replace h := h (fun (f : sx_F) (v3 : Int32) => sx_J (sx_wp D G b lyM 26) p l e { frames := 3, cells := 0, slots := 0, locals := 56 } s m args below meth c (sx_A b 26 s.heap.size) 6 0 0 (sx_fin (sx_wp D G b lyM 26) (sx_A b 26 s.heap.size) below args s 0 0 (sx_qi Q) (fun _ _ => False)) f 41 [(0, .ref (b + 0)), (1, .int x1), (2, .int x2), (3, .int v3)] [])
  replace h := h (fun (f : sx_F) (v3 : Int32) (s0 : Int32) => sx_J (sx_wp D G b lyM 26) p l e { frames := 3, cells := 0, slots := 0, locals := 56 } s m args below meth c (sx_A b 26 s.heap.size) 6 0 0 (sx_fin (sx_wp D G b lyM 26) (sx_A b 26 s.heap.size) below args s 0 0 (sx_qi Q) (fun _ _ => False)) f 42 [(0, .ref (b + 0)), (1, .int x1), (2, .int x2), (3, .int v3)] [.int s0])
  replace h := h (fun (f : sx_F) (v3 : Int32) (v4 : Int32) (v5 : Int32) => sx_J (sx_wp D G b lyM 26) p l e { frames := 3, cells := 0, slots := 0, locals := 56 } s m args below meth c (sx_A b 26 s.heap.size) 6 0 0 (sx_fin (sx_wp D G b lyM 26) (sx_A b 26 s.heap.size) below args s 0 0 (sx_qi Q) (fun _ _ => False)) f 47 [(0, .ref (b + 0)), (1, .int x1), (2, .int x2), (3, .int v3), (4, .int v4), (5, .int v5)] [])
  replace h := h (fun (f : sx_F) (v3 : Int32) (v5 : Int32) => sx_J (sx_wp D G b lyM 26) p l e { frames := 3, cells := 0, slots := 0, locals := 56 } s m args below meth c (sx_A b 26 s.heap.size) 6 0 0 (sx_fin (sx_wp D G b lyM 26) (sx_A b 26 s.heap.size) below args s 0 0 (sx_qi Q) (fun _ _ => False)) f 92 [(0, .ref (b + 0)), (1, .int x1), (2, .int x2), (3, .int v3), (5, .int v5)] [])
  replace h := h (fun (f : sx_F) (v3 : Int32) (v5 : Int32) => sx_J (sx_wp D G b lyM 26) p l e { frames := 3, cells := 0, slots := 0, locals := 56 } s m args below meth c (sx_A b 26 s.heap.size) 6 0 0 (sx_fin (sx_wp D G b lyM 26) (sx_A b 26 s.heap.size) below args s 0 0 (sx_qi Q) (fun _ _ => False)) f 96 [(0, .ref (b + 0)), (1, .int x1), (2, .int x2), (3, .int v3), (5, .int v5)] [])
  replace h := h (fun (f : sx_F) (v3 : Int32) (v5 : Int32) (s0 : Int32) => sx_J (sx_wp D G b lyM 26) p l e { frames := 3, cells := 0, slots := 0, locals := 56 } s m args below meth c (sx_A b 26 s.heap.size) 6 0 0 (sx_fin (sx_wp D G b lyM 26) (sx_A b 26 s.heap.size) below args s 0 0 (sx_qi Q) (fun _ _ => False)) f 97 [(0, .ref (b + 0)), (1, .int x1), (2, .int x2), (3, .int v3), (5, .int v5)] [.int s0])
  replace h := h (fun (f : sx_F) (v3 : Int32) (v4 : Int32) => sx_J (sx_wp D G b lyM 26) p l e { frames := 3, cells := 0, slots := 0, locals := 56 } s m args below meth c (sx_A b 26 s.heap.size) 6 0 0 (sx_fin (sx_wp D G b lyM 26) (sx_A b 26 s.heap.size) below args s 0 0 (sx_qi Q) (fun _ _ => False)) f 105 [(0, .ref (b + 0)), (1, .int x1), (2, .int x2), (3, .int v3), (4, .int v4)] [])
  replace h := h (by
    intro f h
    refine sx_iconst C dX7_lend_21 0 (by decide) 22 rfl ?_
    exact sx_sub [0, 1, 2] rfl h)
  replace h := h (by
    intro f s0 h
    refine sx_istore_n C dX7_lend_22 3 rfl [(3, .int s0), (0, .ref (b + 0)), (1, .int x1), (2, .int x2)] (by decide) rfl 23 rfl ?_
    refine sx_iload_n C dX7_lend_23 3 0 rfl rfl 24 rfl ?_
    refine sx_if_eq C dX7_lend_24 41 27 (by decide) rfl (fun c1 => ?_) (fun c1 => ?_)
    · replace h := h.1 c1
      exact sx_sub [1, 2, 3, 0] rfl h
    · replace h := h.2 c1
      refine sx_aload_n C dX7_lend_27 0 1 rfl rfl 28 rfl ?_
      refine sx_getq C (T := TX7) (C0 := RX7) (N := 34) (j := 9) dX7_lend_28 fl_X7_35 inw_X7 rfl (by decide) rfl (by decide) lyM_0 rfl 31 rfl ?_
      refine sx_iload_n C dX7_lend_31 1 2 rfl rfl 32 rfl ?_
      refine sx_iald C dX7_lend_32 (by decide) lyM_7 h.1 33 rfl ?_
      replace h := h.2
      refine sx_iconst C dX7_lend_33 (-1) (by decide) 34 rfl ?_
      refine sx_icmp_ne C dX7_lend_34 41 37 (by decide) rfl (fun c2 => ?_) (fun c2 => ?_)
      · replace h := h.2 c2
        exact sx_sub [1, 2, 3, 0] rfl h
      · replace h := h.1 c2
        refine sx_iconst C dX7_lend_37 1 (by decide) 38 rfl ?_
        refine sx_goto C dX7_lend_38 42 (by decide) ?_
        exact sx_sub [1, 2, 3, 0] rfl h)
  replace h := h (by
    intro f v3 h
    refine sx_iconst C dX7_lend_41 0 (by decide) 42 rfl ?_
    exact sx_sub [0, 1, 2, 3] rfl h)
  replace h := h (by
    intro f v3 s0 h
    refine sx_istore C dX7_lend_42 [(4, .int s0), (0, .ref (b + 0)), (1, .int x1), (2, .int x2), (3, .int v3)] (by decide) rfl 44 rfl ?_
    refine sx_iconst C dX7_lend_44 0 (by decide) 45 rfl ?_
    refine sx_istore C dX7_lend_45 [(5, .int 0), (4, .int s0), (0, .ref (b + 0)), (1, .int x1), (2, .int x2), (3, .int v3)] (by decide) rfl 47 rfl ?_
    exact sx_sub [2, 3, 4, 5, 1, 0] rfl h)
  replace h := h (by
    intro f v3 v4 v5 h
    refine sx_iload C dX7_lend_47 5 rfl 49 rfl ?_
    refine sx_aload_n C dX7_lend_49 0 0 rfl rfl 50 rfl ?_
    refine sx_geti C (T := TX7) (C0 := RX7) (N := 34) (j := 11) dX7_lend_50 fl_X7_102 inw_X7 rfl (by decide) rfl (by decide) lyM_0 rfl 53 rfl ?_
    refine sx_icmp_ge C dX7_lend_53 105 56 (by decide) rfl (fun c3 => ?_) (fun c3 => ?_)
    · replace h := h.1 c3
      exact sx_sub [0, 1, 2, 3, 4] rfl h
    · replace h := h.2 c3
      refine sx_iload_n C dX7_lend_56 3 3 rfl rfl 57 rfl ?_
      refine sx_if_eq C dX7_lend_57 105 60 (by decide) rfl (fun c4 => ?_) (fun c4 => ?_)
      · replace h := h.1 c4
        exact sx_sub [0, 1, 2, 3, 4] rfl h
      · replace h := h.2 c4
        refine sx_iload C dX7_lend_60 4 rfl 62 rfl ?_
        refine sx_if_eq C dX7_lend_62 96 65 (by decide) rfl (fun c5 => ?_) (fun c5 => ?_)
        · replace h := h.1 c5
          exact sx_sub [0, 1, 2, 3, 5] rfl h
        · replace h := h.2 c5
          refine sx_aload_n C dX7_lend_65 0 0 rfl rfl 66 rfl ?_
          refine sx_getq C (T := TX7) (C0 := RX7) (N := 34) (j := 9) dX7_lend_66 fl_X7_35 inw_X7 rfl (by decide) rfl (by decide) lyM_0 rfl 69 rfl ?_
          refine sx_iload C dX7_lend_69 5 rfl 71 rfl ?_
          refine sx_iald C dX7_lend_71 (by decide) lyM_7 h.1 72 rfl ?_
          replace h := h.2
          refine sx_iload_n C dX7_lend_72 2 2 rfl rfl 73 rfl ?_
          refine sx_icmp_ne C dX7_lend_73 92 76 (by decide) rfl (fun c6 => ?_) (fun c6 => ?_)
          · replace h := h.2 c6
            exact sx_sub [0, 1, 2, 3, 5] rfl h
          · replace h := h.1 c6
            refine sx_aload_n C dX7_lend_76 0 0 rfl rfl 77 rfl ?_
            refine sx_getq C (T := TX7) (C0 := RX7) (N := 34) (j := 8) dX7_lend_77 fl_X7_32 inw_X7 rfl (by decide) rfl (by decide) lyM_0 rfl 80 rfl ?_
            refine sx_iload C dX7_lend_80 5 rfl 82 rfl ?_
            refine sx_iald C dX7_lend_82 (by decide) lyM_6 h.1 83 rfl ?_
            replace h := h.2
            refine sx_aload_n C dX7_lend_83 0 0 rfl rfl 84 rfl ?_
            refine sx_getq C (T := TX7) (C0 := RX7) (N := 34) (j := 8) dX7_lend_84 fl_X7_32 inw_X7 rfl (by decide) rfl (by decide) lyM_0 rfl 87 rfl ?_
            refine sx_iload_n C dX7_lend_87 1 1 rfl rfl 88 rfl ?_
            refine sx_iald C dX7_lend_88 (by decide) lyM_6 h.1 89 rfl ?_
            replace h := h.2
            refine sx_icmp_eq C dX7_lend_89 96 92 (by decide) rfl (fun c7 => ?_) (fun c7 => ?_)
            · replace h := h.1 c7
              exact sx_sub [0, 1, 2, 3, 5] rfl h
            · replace h := h.2 c7
              exact sx_sub [0, 1, 2, 3, 5] rfl h)
  replace h := h (by
    intro f v3 v5 h
    refine sx_iconst C dX7_lend_92 1 (by decide) 93 rfl ?_
    refine sx_goto C dX7_lend_93 97 (by decide) ?_
    exact sx_sub [0, 1, 2, 3, 4] rfl h)
  replace h := h (by
    intro f v3 v5 h
    refine sx_iconst C dX7_lend_96 0 (by decide) 97 rfl ?_
    exact sx_sub [0, 1, 2, 3, 4] rfl h)
  replace h := h (by
    intro f v3 v5 s0 h
    refine sx_istore C dX7_lend_97 [(4, .int s0), (0, .ref (b + 0)), (1, .int x1), (2, .int x2), (3, .int v3), (5, .int v5)] (by decide) rfl 99 rfl ?_
    obtain ⟨y8, ey8⟩ : ∃ w : Int32, w = v5 + 1 := ⟨_, rfl⟩
    replace h := h y8 ey8
    refine sx_iinc C dX7_lend_99 5 rfl y8 (by rw [ey8]; rfl) [(5, .int y8), (4, .int s0), (0, .ref (b + 0)), (1, .int x1), (2, .int x2), (3, .int v3)] (by decide) rfl 102 rfl ?_
    refine sx_goto C dX7_lend_102 47 (by decide) ?_
    exact sx_sub [2, 3, 4, 5, 1, 0] rfl h)
  replace h := h (by
    intro f v3 v4 h
    refine sx_aload_n C dX7_lend_105 0 0 rfl rfl 106 rfl ?_
    refine sx_iload_n C dX7_lend_106 3 3 rfl rfl 107 rfl ?_
    refine sx_iload C dX7_lend_107 4 rfl 109 rfl ?_
    refine sx_iconst C dX7_lend_109 1 (by decide) 110 rfl ?_
    refine sx_callV C ht hB (st := []) dX7_lend_110 (c_X7_goes hf h) mi_X7_goes lk_X7_105 mn_X7_goes ms_X7_goes (by decide) lyM_0 rfl rfl rfl rfl ⟨⟨(Nat.le_of_ble_eq_true rfl), (Nat.le_of_ble_eq_true rfl)⟩, (Nat.le_of_ble_eq_true rfl), (Nat.le_of_ble_eq_true rfl)⟩ (Nat.le_of_ble_eq_true rfl) ⟨(Nat.le_of_ble_eq_true rfl), (Nat.le_of_ble_eq_true rfl)⟩ (fun _ _ hx => hx.elim) 113 rfl (fun v g9 h => ?_)
    obtain ⟨r10, rfl, h⟩ := h
    refine sx_if_ne C dX7_lend_113 118 116 (by decide) rfl (fun c11 => ?_) (fun c11 => ?_)
    · replace h := h.2 c11
      refine sx_aload_n C dX7_lend_118 0 0 rfl rfl 119 rfl ?_
      refine sx_getq C (T := TX7) (C0 := RX7) (N := 34) (j := 9) dX7_lend_119 fl_X7_35 inw_X7 rfl (by decide) rfl (by decide) lyM_0 rfl 122 rfl ?_
      refine sx_iload_n C dX7_lend_122 1 1 rfl rfl 123 rfl ?_
      refine sx_iload_n C dX7_lend_123 2 2 rfl rfl 124 rfl ?_
      refine sx_iast C dX7_lend_124 hB (by decide) lyM_7 h.1 125 rfl (fun g12 eg12 => ?_)
      replace h := h.2 g12 eg12
      refine sx_aload_n C dX7_lend_125 0 0 rfl rfl 126 rfl ?_
      refine sx_iload_n C dX7_lend_126 1 1 rfl rfl 127 rfl ?_
      refine sx_callV C ht hB (st := []) dX7_lend_127 (c_X7_renews hf h) mi_X7_renews lk_X7_129 mn_X7_renews ms_X7_renews (by decide) lyM_0 rfl rfl rfl rfl ⟨⟨(Nat.le_of_ble_eq_true rfl), (Nat.le_of_ble_eq_true rfl)⟩, (Nat.le_of_ble_eq_true rfl), (Nat.le_of_ble_eq_true rfl)⟩ (Nat.le_of_ble_eq_true rfl) ⟨(Nat.le_of_ble_eq_true rfl), (Nat.le_of_ble_eq_true rfl)⟩ (fun _ _ hx => hx.elim) 130 rfl (fun v g13 h => ?_)
      obtain ⟨rfl, h⟩ := h
      refine sx_aload_n C dX7_lend_130 0 0 rfl rfl 131 rfl ?_
      refine sx_callV C ht hB (st := []) dX7_lend_131 (c_X7_away hf h) mi_X7_away lk_X7_133 mn_X7_away ms_X7_away (by decide) lyM_0 rfl rfl rfl rfl ⟨⟨(Nat.le_of_ble_eq_true rfl), (Nat.le_of_ble_eq_true rfl)⟩, (Nat.le_of_ble_eq_true rfl), (Nat.le_of_ble_eq_true rfl)⟩ (Nat.le_of_ble_eq_true rfl) ⟨(Nat.le_of_ble_eq_true rfl), (Nat.le_of_ble_eq_true rfl)⟩ (fun _ _ hx => hx.elim) 134 rfl (fun v g15 h => ?_)
      obtain ⟨⟨r14, rfl, h⟩, rfl⟩ := h
      exact sx_iret C dX7_lend_134 hr (Nat.le_of_ble_eq_true rfl) (Nat.le_of_ble_eq_true rfl) ⟨_, rfl, h⟩
    · replace h := h.1 c11
      refine sx_iconst C dX7_lend_116 0 (by decide) 117 rfl ?_
      exact sx_iret C dX7_lend_117 hr (Nat.le_of_ble_eq_true rfl) (Nat.le_of_ble_eq_true rfl) ⟨_, rfl, h⟩)
  refine sx_sub (lv' := [(0, .ref (b + 0)), (1, .int x1), (2, .int x2)]) [0, 1, 2] rfl ?_
  refine sx_aload_n C dX7_lend_0 0 0 rfl rfl 1 rfl ?_
  refine sx_iload_n C dX7_lend_1 1 1 rfl rfl 2 rfl ?_
  refine sx_callV C ht hB (st := []) dX7_lend_2 (c_X7_isCopy hf h) mi_X7_isCopy lk_X7_126 mn_X7_isCopy ms_X7_isCopy (by decide) lyM_0 rfl rfl rfl rfl ⟨⟨(Nat.le_of_ble_eq_true rfl), (Nat.le_of_ble_eq_true rfl)⟩, (Nat.le_of_ble_eq_true rfl), (Nat.le_of_ble_eq_true rfl)⟩ (Nat.le_of_ble_eq_true rfl) ⟨(Nat.le_of_ble_eq_true rfl), (Nat.le_of_ble_eq_true rfl)⟩ (fun _ _ hx => hx.elim) 5 rfl (fun v g17 h => ?_)
  obtain ⟨⟨r16, rfl, h⟩, rfl⟩ := h
  refine sx_if_eq C dX7_lend_5 21 8 (by decide) rfl (fun c18 => ?_) (fun c18 => ?_)
  · replace h := h.1 c18
    exact sx_sub [0, 1, 2] rfl h
  · replace h := h.2 c18
    refine sx_iload_n C dX7_lend_8 2 2 rfl rfl 9 rfl ?_
    refine sx_iconst C dX7_lend_9 0 (by decide) 10 rfl ?_
    refine sx_iconst C dX7_lend_10 5 (by decide) 11 rfl ?_
    refine sx_callS C ht hB (st := []) dX7_lend_11 (c_X7_in hf h) mi_X7_in lk_X7_95 mt_X7_in rfl rfl ⟨⟨(Nat.le_of_ble_eq_true rfl), (Nat.le_of_ble_eq_true rfl)⟩, (Nat.le_of_ble_eq_true rfl), (Nat.le_of_ble_eq_true rfl)⟩ (Nat.le_of_ble_eq_true rfl) ⟨(Nat.le_of_ble_eq_true rfl), (Nat.le_of_ble_eq_true rfl)⟩ (fun _ _ hx => hx.elim) 14 rfl (fun v g20 h => ?_)
    obtain ⟨⟨r19, rfl, h⟩, rfl⟩ := h
    refine sx_if_eq C dX7_lend_14 21 17 (by decide) rfl (fun c21 => ?_) (fun c21 => ?_)
    · replace h := h.1 c21
      exact sx_sub [0, 1, 2] rfl h
    · replace h := h.2 c21
      refine sx_iconst C dX7_lend_17 1 (by decide) 18 rfl ?_
      refine sx_goto C dX7_lend_18 22 (by decide) ?_
      exact sx_sub [0, 1, 2] rfl h
set_option maxRecDepth 100000 in
set_option maxHeartbeats 4000000 in
theorem c_X7_owes {l : Launch} {D : va_G} {G : sx_G} {b : Nat} (hf : l.stackTraces = false) {f : sx_F} {x1 : Int32} {x2 : Int32} {Q : Int32 → Prop}  (h : P_X7_owes f x1 x2 Q) : sx_Met l D G b 26 lyM yX7_owes cX7_owes 3 (some .boolean) 2 34 0 0 [.ref (b + 0), .int x1, .int x2] f (sx_pi f Q) (fun _ _ => False) := by
  refine sx_enter (own := RX7) hf rfl rfl (Nat.le_of_ble_eq_true rfl) ?_
  intro p e s m args below meth c C hr ht
  have hB : ∀ k, k < 26 → sx_A b 26 s.heap.size (b + k) := fun k h => sx_A.in h
  unfold P_X7_owes at h
  refine sx_sub (lv' := [(0, .ref (b + 0)), (1, .int x1), (2, .int x2)]) [0, 1, 2] rfl ?_
  refine sx_aload_n C dX7_owes_0 0 0 rfl rfl 1 rfl ?_
  refine sx_getq C (T := TX7) (C0 := RX7) (N := 34) (j := 9) dX7_owes_1 fl_X7_35 inw_X7 rfl (by decide) rfl (by decide) lyM_0 rfl 4 rfl ?_
  refine sx_iload_n C dX7_owes_4 1 1 rfl rfl 5 rfl ?_
  refine sx_iald C dX7_owes_5 (by decide) lyM_7 h.1 6 rfl ?_
  replace h := h.2
  refine sx_iconst C dX7_owes_6 (-1) (by decide) 7 rfl ?_
  refine sx_icmp_eq C dX7_owes_7 43 10 (by decide) rfl (fun c1 => ?_) (fun c1 => ?_)
  · replace h := h.1 c1
    refine sx_iconst C dX7_owes_43 0 (by decide) 44 rfl ?_
    exact sx_zret C dX7_owes_44 hr (Nat.le_of_ble_eq_true rfl) (Nat.le_of_ble_eq_true rfl) (Or.inl rfl) ⟨⟨_, rfl, h⟩, rfl⟩
  · replace h := h.2 c1
    refine sx_aload_n C dX7_owes_10 0 0 rfl rfl 11 rfl ?_
    refine sx_getq C (T := TX7) (C0 := RX7) (N := 34) (j := 10) dX7_owes_11 fl_X7_38 inw_X7 rfl (by decide) rfl (by decide) lyM_0 rfl 14 rfl ?_
    refine sx_bipush C dX7_owes_14 12 (by decide) 16 rfl ?_
    refine sx_iload_n C dX7_owes_16 1 1 rfl rfl 17 rfl ?_
    refine sx_imul C dX7_owes_17 18 rfl ?_
    refine sx_iload_n C dX7_owes_18 2 2 rfl rfl 19 rfl ?_
    refine sx_iadd C dX7_owes_19 20 rfl ?_
    refine sx_iald C dX7_owes_20 (by decide) lyM_8 h.1 21 rfl ?_
    replace h := h.2
    refine sx_aload_n C dX7_owes_21 0 0 rfl rfl 22 rfl ?_
    refine sx_getq C (T := TX7) (C0 := RX7) (N := 34) (j := 4) dX7_owes_22 fl_X7_22 inw_X7 rfl (by decide) rfl (by decide) lyM_0 rfl 25 rfl ?_
    refine sx_aload_n C dX7_owes_25 0 0 rfl rfl 26 rfl ?_
    refine sx_getq C (T := TX7) (C0 := RX7) (N := 34) (j := 8) dX7_owes_26 fl_X7_32 inw_X7 rfl (by decide) rfl (by decide) lyM_0 rfl 29 rfl ?_
    refine sx_iload_n C dX7_owes_29 1 1 rfl rfl 30 rfl ?_
    refine sx_iald C dX7_owes_30 (by decide) lyM_6 h.1 31 rfl ?_
    replace h := h.2
    refine sx_iload_n C dX7_owes_31 2 2 rfl rfl 32 rfl ?_
    refine sx_callS C ht hB (st := [.ref (b + 5), .int (f 8 ((12 * x1) + x2).toNatClampNeg)]) dX7_owes_32 (c_X7_cell hf h) mi_X7_cell lk_X7_116 mt_X7_cell rfl rfl ⟨⟨(Nat.le_of_ble_eq_true rfl), (Nat.le_of_ble_eq_true rfl)⟩, (Nat.le_of_ble_eq_true rfl), (Nat.le_of_ble_eq_true rfl)⟩ (Nat.le_of_ble_eq_true rfl) ⟨(Nat.le_of_ble_eq_true rfl), (Nat.le_of_ble_eq_true rfl)⟩ (fun _ _ hx => hx.elim) 35 rfl (fun v g3 h => ?_)
    obtain ⟨⟨r2, rfl, h⟩, rfl⟩ := h
    refine sx_iald C dX7_owes_35 (by decide) lyM_5 h.1 36 rfl ?_
    replace h := h.2
    refine sx_icmp_eq C dX7_owes_36 43 39 (by decide) rfl (fun c4 => ?_) (fun c4 => ?_)
    · replace h := h.1 c4
      refine sx_iconst C dX7_owes_43 0 (by decide) 44 rfl ?_
      exact sx_zret C dX7_owes_44 hr (Nat.le_of_ble_eq_true rfl) (Nat.le_of_ble_eq_true rfl) (Or.inl rfl) ⟨⟨_, rfl, h⟩, rfl⟩
    · replace h := h.2 c4
      refine sx_iconst C dX7_owes_39 1 (by decide) 40 rfl ?_
      refine sx_goto C dX7_owes_40 44 (by decide) ?_
      exact sx_zret C dX7_owes_44 hr (Nat.le_of_ble_eq_true rfl) (Nat.le_of_ble_eq_true rfl) (Or.inr rfl) ⟨⟨_, rfl, h⟩, rfl⟩
set_option maxRecDepth 100000 in
set_option maxHeartbeats 4000000 in
theorem c_X7_owedBy {l : Launch} {D : va_G} {G : sx_G} {b : Nat} (hf : l.stackTraces = false) {f : sx_F} {x1 : Int32} {Q : Int32 → Prop}  (h : P_X7_owedBy f x1 Q) : sx_Met l D G b 26 lyM yX7_owedBy cX7_owedBy 4 (some .int) 3 56 0 0 [.ref (b + 0), .int x1] f (sx_pi f Q) (fun _ _ => False) := by
  refine sx_enter (own := RX7) hf rfl rfl (Nat.le_of_ble_eq_true rfl) ?_
  intro p e s m args below meth c C hr ht
  have hB : ∀ k, k < 26 → sx_A b 26 s.heap.size (b + k) := fun k h => sx_A.in h
  unfold P_X7_owedBy at h
  replace h := h (fun (v2 : Int32) (v3 : Int32) => sx_J (sx_wp D G b lyM 26) p l e { frames := 3, cells := 0, slots := 0, locals := 56 } s m args below meth c (sx_A b 26 s.heap.size) 4 0 0 (sx_fin (sx_wp D G b lyM 26) (sx_A b 26 s.heap.size) below args s 0 0 (sx_pi f Q) (fun _ _ => False)) f 4 [(0, .ref (b + 0)), (1, .int x1), (2, .int v2), (3, .int v3)] [])
  replace h := h (fun (v3 : Int32) (s0 : Int32) (s1 : Int32) => sx_J (sx_wp D G b lyM 26) p l e { frames := 3, cells := 0, slots := 0, locals := 56 } s m args below meth c (sx_A b 26 s.heap.size) 4 0 0 (sx_fin (sx_wp D G b lyM 26) (sx_A b 26 s.heap.size) below args s 0 0 (sx_pi f Q) (fun _ _ => False)) f 27 [(0, .ref (b + 0)), (1, .int x1), (3, .int v3)] [.int s1, .int s0])
  replace h := h (by
    intro v2 v3 h
    refine sx_iload_n C dX7_owedBy_4 3 3 rfl rfl 5 rfl ?_
    refine sx_aload_n C dX7_owedBy_5 0 0 rfl rfl 6 rfl ?_
    refine sx_geti C (T := TX7) (C0 := RX7) (N := 34) (j := 5) dX7_owedBy_6 fl_X7_99 inw_X7 rfl (by decide) rfl (by decide) lyM_0 rfl 9 rfl ?_
    refine sx_icmp_ge C dX7_owedBy_9 35 12 (by decide) rfl (fun c1 => ?_) (fun c1 => ?_)
    · replace h := h.1 c1
      refine sx_iload_n C dX7_owedBy_35 2 2 rfl rfl 36 rfl ?_
      exact sx_iret C dX7_owedBy_36 hr (Nat.le_of_ble_eq_true rfl) (Nat.le_of_ble_eq_true rfl) ⟨⟨_, rfl, h⟩, rfl⟩
    · replace h := h.2 c1
      refine sx_iload_n C dX7_owedBy_12 2 2 rfl rfl 13 rfl ?_
      refine sx_aload_n C dX7_owedBy_13 0 0 rfl rfl 14 rfl ?_
      refine sx_iload_n C dX7_owedBy_14 1 1 rfl rfl 15 rfl ?_
      refine sx_iload_n C dX7_owedBy_15 3 3 rfl rfl 16 rfl ?_
      refine sx_callV C ht hB (st := [.int v2]) dX7_owedBy_16 (c_X7_owes hf h) mi_X7_owes lk_X7_137 mn_X7_owes ms_X7_owes (by decide) lyM_0 rfl rfl rfl rfl ⟨⟨(Nat.le_of_ble_eq_true rfl), (Nat.le_of_ble_eq_true rfl)⟩, (Nat.le_of_ble_eq_true rfl), (Nat.le_of_ble_eq_true rfl)⟩ (Nat.le_of_ble_eq_true rfl) ⟨(Nat.le_of_ble_eq_true rfl), (Nat.le_of_ble_eq_true rfl)⟩ (fun _ _ hx => hx.elim) 19 rfl (fun v g3 h => ?_)
      obtain ⟨⟨r2, rfl, h⟩, rfl⟩ := h
      refine sx_if_eq C dX7_owedBy_19 26 22 (by decide) rfl (fun c4 => ?_) (fun c4 => ?_)
      · replace h := h.1 c4
        refine sx_iconst C dX7_owedBy_26 0 (by decide) 27 rfl ?_
        exact sx_sub [0, 1, 3] rfl h
      · replace h := h.2 c4
        refine sx_iconst C dX7_owedBy_22 1 (by decide) 23 rfl ?_
        refine sx_goto C dX7_owedBy_23 27 (by decide) ?_
        exact sx_sub [0, 1, 3] rfl h)
  replace h := h (by
    intro v3 s0 s1 h
    refine sx_iadd C dX7_owedBy_27 28 rfl ?_
    refine sx_topi (fun y5 ey5 => ?_)
    replace h := h y5 ey5
    refine sx_istore_n C dX7_owedBy_28 2 rfl [(2, .int y5), (0, .ref (b + 0)), (1, .int x1), (3, .int v3)] (by decide) rfl 29 rfl ?_
    obtain ⟨y6, ey6⟩ : ∃ w : Int32, w = v3 + 1 := ⟨_, rfl⟩
    replace h := h y6 ey6
    refine sx_iinc C dX7_owedBy_29 3 rfl y6 (by rw [ey6]; rfl) [(3, .int y6), (2, .int y5), (0, .ref (b + 0)), (1, .int x1)] (by decide) rfl 32 rfl ?_
    refine sx_goto C dX7_owedBy_32 4 (by decide) ?_
    exact sx_sub [2, 3, 1, 0] rfl h)
  refine sx_sub (lv' := [(0, .ref (b + 0)), (1, .int x1)]) [0, 1] rfl ?_
  refine sx_iconst C dX7_owedBy_0 0 (by decide) 1 rfl ?_
  refine sx_istore_n C dX7_owedBy_1 2 rfl [(2, .int 0), (0, .ref (b + 0)), (1, .int x1)] (by decide) rfl 2 rfl ?_
  refine sx_iconst C dX7_owedBy_2 0 (by decide) 3 rfl ?_
  refine sx_istore_n C dX7_owedBy_3 3 rfl [(3, .int 0), (2, .int 0), (0, .ref (b + 0)), (1, .int x1)] (by decide) rfl 4 rfl ?_
  exact sx_sub [2, 3, 1, 0] rfl h
set_option maxRecDepth 100000 in
set_option maxHeartbeats 4000000 in
theorem c_X7_isAway {l : Launch} {D : va_G} {G : sx_G} {b : Nat} (hf : l.stackTraces = false) {f : sx_F} {x1 : Int32} {Q : Int32 → Prop}  (h : P_X7_isAway f x1 Q) : sx_Met l D G b 26 lyM yX7_isAway cX7_isAway 2 (some .boolean) 3 56 0 0 [.ref (b + 0), .int x1] f (sx_pi f Q) (fun _ _ => False) := by
  refine sx_enter (own := RX7) hf rfl rfl (Nat.le_of_ble_eq_true rfl) ?_
  intro p e s m args below meth c C hr ht
  have hB : ∀ k, k < 26 → sx_A b 26 s.heap.size (b + k) := fun k h => sx_A.in h
  unfold P_X7_isAway at h
  refine sx_sub (lv' := [(0, .ref (b + 0)), (1, .int x1)]) [0, 1] rfl ?_
  refine sx_aload_n C dX7_isAway_0 0 0 rfl rfl 1 rfl ?_
  refine sx_iload_n C dX7_isAway_1 1 1 rfl rfl 2 rfl ?_
  refine sx_callV C ht hB (st := []) dX7_isAway_2 (c_X7_isCopy hf h) mi_X7_isCopy lk_X7_126 mn_X7_isCopy ms_X7_isCopy (by decide) lyM_0 rfl rfl rfl rfl ⟨⟨(Nat.le_of_ble_eq_true rfl), (Nat.le_of_ble_eq_true rfl)⟩, (Nat.le_of_ble_eq_true rfl), (Nat.le_of_ble_eq_true rfl)⟩ (Nat.le_of_ble_eq_true rfl) ⟨(Nat.le_of_ble_eq_true rfl), (Nat.le_of_ble_eq_true rfl)⟩ (fun _ _ hx => hx.elim) 5 rfl (fun v g2 h => ?_)
  obtain ⟨⟨r1, rfl, h⟩, rfl⟩ := h
  refine sx_if_eq C dX7_isAway_5 22 8 (by decide) rfl (fun c3 => ?_) (fun c3 => ?_)
  · replace h := h.1 c3
    refine sx_iconst C dX7_isAway_22 0 (by decide) 23 rfl ?_
    exact sx_zret C dX7_isAway_23 hr (Nat.le_of_ble_eq_true rfl) (Nat.le_of_ble_eq_true rfl) (Or.inl rfl) ⟨⟨_, rfl, h⟩, rfl⟩
  · replace h := h.2 c3
    refine sx_aload_n C dX7_isAway_8 0 0 rfl rfl 9 rfl ?_
    refine sx_getq C (T := TX7) (C0 := RX7) (N := 34) (j := 9) dX7_isAway_9 fl_X7_35 inw_X7 rfl (by decide) rfl (by decide) lyM_0 rfl 12 rfl ?_
    refine sx_iload_n C dX7_isAway_12 1 1 rfl rfl 13 rfl ?_
    refine sx_iald C dX7_isAway_13 (by decide) lyM_7 h.1 14 rfl ?_
    replace h := h.2
    refine sx_iconst C dX7_isAway_14 (-1) (by decide) 15 rfl ?_
    refine sx_icmp_eq C dX7_isAway_15 22 18 (by decide) rfl (fun c4 => ?_) (fun c4 => ?_)
    · replace h := h.1 c4
      refine sx_iconst C dX7_isAway_22 0 (by decide) 23 rfl ?_
      exact sx_zret C dX7_isAway_23 hr (Nat.le_of_ble_eq_true rfl) (Nat.le_of_ble_eq_true rfl) (Or.inl rfl) ⟨⟨_, rfl, h⟩, rfl⟩
    · replace h := h.2 c4
      refine sx_iconst C dX7_isAway_18 1 (by decide) 19 rfl ?_
      refine sx_goto C dX7_isAway_19 23 (by decide) ?_
      exact sx_zret C dX7_isAway_23 hr (Nat.le_of_ble_eq_true rfl) (Nat.le_of_ble_eq_true rfl) (Or.inr rfl) ⟨⟨_, rfl, h⟩, rfl⟩
set_option maxRecDepth 100000 in
set_option maxHeartbeats 4000000 in
theorem c_X7_giveBack {l : Launch} {D : va_G} {G : sx_G} {b : Nat} (hf : l.stackTraces = false) {f : sx_F} {x1 : Int32} {Q : Int32 → sx_F → Prop}  (h : P_X7_giveBack f x1 Q) : sx_Met l D G b 26 lyM yX7_giveBack cX7_giveBack 3 (some .int) 4 79 0 0 [.ref (b + 0), .int x1] f (sx_qi Q) (fun _ _ => False) := by
  refine sx_enter (own := RX7) hf rfl rfl (Nat.le_of_ble_eq_true rfl) ?_
  intro p e s m args below meth c C hr ht
  have hB : ∀ k, k < 26 → sx_A b 26 s.heap.size (b + k) := fun k h => sx_A.in h
  unfold P_X7_giveBack at h
  refine sx_sub (lv' := [(0, .ref (b + 0)), (1, .int x1)]) [0, 1] rfl ?_
  refine sx_aload_n C dX7_giveBack_0 0 0 rfl rfl 1 rfl ?_
  refine sx_aload_n C dX7_giveBack_1 0 0 rfl rfl 2 rfl ?_
  refine sx_iload_n C dX7_giveBack_2 1 1 rfl rfl 3 rfl ?_
  refine sx_callV C ht hB (st := [.ref (b + 0)]) dX7_giveBack_3 (c_X7_isCopy hf h) mi_X7_isCopy lk_X7_126 mn_X7_isCopy ms_X7_isCopy (by decide) lyM_0 rfl rfl rfl rfl ⟨⟨(Nat.le_of_ble_eq_true rfl), (Nat.le_of_ble_eq_true rfl)⟩, (Nat.le_of_ble_eq_true rfl), (Nat.le_of_ble_eq_true rfl)⟩ (Nat.le_of_ble_eq_true rfl) ⟨(Nat.le_of_ble_eq_true rfl), (Nat.le_of_ble_eq_true rfl)⟩ (fun _ _ hx => hx.elim) 6 rfl (fun v g2 h => ?_)
  obtain ⟨⟨r1, rfl, h⟩, rfl⟩ := h
  refine sx_aload_n C dX7_giveBack_6 0 0 rfl rfl 7 rfl ?_
  refine sx_iload_n C dX7_giveBack_7 1 1 rfl rfl 8 rfl ?_
  refine sx_callV C ht hB (st := [.int r1, .ref (b + 0)]) dX7_giveBack_8 (c_X7_isAway hf h) mi_X7_isAway lk_X7_141 mn_X7_isAway ms_X7_isAway (by decide) lyM_0 rfl rfl rfl rfl ⟨⟨(Nat.le_of_ble_eq_true rfl), (Nat.le_of_ble_eq_true rfl)⟩, (Nat.le_of_ble_eq_true rfl), (Nat.le_of_ble_eq_true rfl)⟩ (Nat.le_of_ble_eq_true rfl) ⟨(Nat.le_of_ble_eq_true rfl), (Nat.le_of_ble_eq_true rfl)⟩ (fun _ _ hx => hx.elim) 11 rfl (fun v g4 h => ?_)
  obtain ⟨⟨r3, rfl, h⟩, rfl⟩ := h
  refine sx_iconst C dX7_giveBack_11 1 (by decide) 12 rfl ?_
  refine sx_callV C ht hB (st := []) dX7_giveBack_12 (c_X7_goes hf h) mi_X7_goes lk_X7_105 mn_X7_goes ms_X7_goes (by decide) lyM_0 rfl rfl rfl rfl ⟨⟨(Nat.le_of_ble_eq_true rfl), (Nat.le_of_ble_eq_true rfl)⟩, (Nat.le_of_ble_eq_true rfl), (Nat.le_of_ble_eq_true rfl)⟩ (Nat.le_of_ble_eq_true rfl) ⟨(Nat.le_of_ble_eq_true rfl), (Nat.le_of_ble_eq_true rfl)⟩ (fun _ _ hx => hx.elim) 15 rfl (fun v g5 h => ?_)
  obtain ⟨r6, rfl, h⟩ := h
  refine sx_if_ne C dX7_giveBack_15 20 18 (by decide) rfl (fun c7 => ?_) (fun c7 => ?_)
  · replace h := h.2 c7
    refine sx_aload_n C dX7_giveBack_20 0 0 rfl rfl 21 rfl ?_
    refine sx_iload_n C dX7_giveBack_21 1 1 rfl rfl 22 rfl ?_
    refine sx_callV C ht hB (st := []) dX7_giveBack_22 (c_X7_owedBy hf h) mi_X7_owedBy lk_X7_144 mn_X7_owedBy ms_X7_owedBy (by decide) lyM_0 rfl rfl rfl rfl ⟨⟨(Nat.le_of_ble_eq_true rfl), (Nat.le_of_ble_eq_true rfl)⟩, (Nat.le_of_ble_eq_true rfl), (Nat.le_of_ble_eq_true rfl)⟩ (Nat.le_of_ble_eq_true rfl) ⟨(Nat.le_of_ble_eq_true rfl), (Nat.le_of_ble_eq_true rfl)⟩ (fun _ _ hx => hx.elim) 25 rfl (fun v g9 h => ?_)
    obtain ⟨⟨r8, rfl, h⟩, rfl⟩ := h
    refine sx_istore_n C dX7_giveBack_25 2 rfl [(2, .int r8), (0, .ref (b + 0)), (1, .int x1)] (by decide) rfl 26 rfl ?_
    refine sx_aload_n C dX7_giveBack_26 0 1 rfl rfl 27 rfl ?_
    refine sx_getq C (T := TX7) (C0 := RX7) (N := 34) (j := 9) dX7_giveBack_27 fl_X7_35 inw_X7 rfl (by decide) rfl (by decide) lyM_0 rfl 30 rfl ?_
    refine sx_iload_n C dX7_giveBack_30 1 2 rfl rfl 31 rfl ?_
    refine sx_iconst C dX7_giveBack_31 (-1) (by decide) 32 rfl ?_
    refine sx_iast C dX7_giveBack_32 hB (by decide) lyM_7 h.1 33 rfl (fun g10 eg10 => ?_)
    replace h := h.2 g10 eg10
    refine sx_iload_n C dX7_giveBack_33 2 0 rfl rfl 34 rfl ?_
    exact sx_iret C dX7_giveBack_34 hr (Nat.le_of_ble_eq_true rfl) (Nat.le_of_ble_eq_true rfl) ⟨_, rfl, h⟩
  · replace h := h.1 c7
    refine sx_iconst C dX7_giveBack_18 0 (by decide) 19 rfl ?_
    exact sx_iret C dX7_giveBack_19 hr (Nat.le_of_ble_eq_true rfl) (Nat.le_of_ble_eq_true rfl) ⟨_, rfl, h⟩
set_option maxRecDepth 100000 in
set_option maxHeartbeats 4000000 in
theorem c_X7_paste {l : Launch} {D : va_G} {G : sx_G} {b : Nat} (hf : l.stackTraces = false) {f : sx_F} {x1 : Int32} {Q : Int32 → sx_F → Prop}  (h : P_X7_paste f x1 Q) : sx_Met l D G b 26 lyM yX7_paste cX7_paste 3 (some .int) 4 79 0 0 [.ref (b + 0), .int x1] f (sx_qi Q) (fun _ _ => False) := by
  refine sx_enter (own := RX7) hf rfl rfl (Nat.le_of_ble_eq_true rfl) ?_
  intro p e s m args below meth c C hr ht
  have hB : ∀ k, k < 26 → sx_A b 26 s.heap.size (b + k) := fun k h => sx_A.in h
  unfold P_X7_paste at h
  refine sx_sub (lv' := [(0, .ref (b + 0)), (1, .int x1)]) [0, 1] rfl ?_
  refine sx_aload_n C dX7_paste_0 0 0 rfl rfl 1 rfl ?_
  refine sx_aload_n C dX7_paste_1 0 0 rfl rfl 2 rfl ?_
  refine sx_iload_n C dX7_paste_2 1 1 rfl rfl 3 rfl ?_
  refine sx_callV C ht hB (st := [.ref (b + 0)]) dX7_paste_3 (c_X7_isCopy hf h) mi_X7_isCopy lk_X7_126 mn_X7_isCopy ms_X7_isCopy (by decide) lyM_0 rfl rfl rfl rfl ⟨⟨(Nat.le_of_ble_eq_true rfl), (Nat.le_of_ble_eq_true rfl)⟩, (Nat.le_of_ble_eq_true rfl), (Nat.le_of_ble_eq_true rfl)⟩ (Nat.le_of_ble_eq_true rfl) ⟨(Nat.le_of_ble_eq_true rfl), (Nat.le_of_ble_eq_true rfl)⟩ (fun _ _ hx => hx.elim) 6 rfl (fun v g2 h => ?_)
  obtain ⟨⟨r1, rfl, h⟩, rfl⟩ := h
  refine sx_aload_n C dX7_paste_6 0 0 rfl rfl 7 rfl ?_
  refine sx_iload_n C dX7_paste_7 1 1 rfl rfl 8 rfl ?_
  refine sx_callV C ht hB (st := [.int r1, .ref (b + 0)]) dX7_paste_8 (c_X7_isAway hf h) mi_X7_isAway lk_X7_141 mn_X7_isAway ms_X7_isAway (by decide) lyM_0 rfl rfl rfl rfl ⟨⟨(Nat.le_of_ble_eq_true rfl), (Nat.le_of_ble_eq_true rfl)⟩, (Nat.le_of_ble_eq_true rfl), (Nat.le_of_ble_eq_true rfl)⟩ (Nat.le_of_ble_eq_true rfl) ⟨(Nat.le_of_ble_eq_true rfl), (Nat.le_of_ble_eq_true rfl)⟩ (fun _ _ hx => hx.elim) 11 rfl (fun v g4 h => ?_)
  obtain ⟨⟨r3, rfl, h⟩, rfl⟩ := h
  refine sx_iconst C dX7_paste_11 1 (by decide) 12 rfl ?_
  refine sx_callV C ht hB (st := []) dX7_paste_12 (c_X7_goes hf h) mi_X7_goes lk_X7_105 mn_X7_goes ms_X7_goes (by decide) lyM_0 rfl rfl rfl rfl ⟨⟨(Nat.le_of_ble_eq_true rfl), (Nat.le_of_ble_eq_true rfl)⟩, (Nat.le_of_ble_eq_true rfl), (Nat.le_of_ble_eq_true rfl)⟩ (Nat.le_of_ble_eq_true rfl) ⟨(Nat.le_of_ble_eq_true rfl), (Nat.le_of_ble_eq_true rfl)⟩ (fun _ _ hx => hx.elim) 15 rfl (fun v g5 h => ?_)
  obtain ⟨r6, rfl, h⟩ := h
  refine sx_if_ne C dX7_paste_15 20 18 (by decide) rfl (fun c7 => ?_) (fun c7 => ?_)
  · replace h := h.2 c7
    refine sx_aload_n C dX7_paste_20 0 0 rfl rfl 21 rfl ?_
    refine sx_iload_n C dX7_paste_21 1 1 rfl rfl 22 rfl ?_
    refine sx_callV C ht hB (st := []) dX7_paste_22 (c_X7_owedBy hf h) mi_X7_owedBy lk_X7_144 mn_X7_owedBy ms_X7_owedBy (by decide) lyM_0 rfl rfl rfl rfl ⟨⟨(Nat.le_of_ble_eq_true rfl), (Nat.le_of_ble_eq_true rfl)⟩, (Nat.le_of_ble_eq_true rfl), (Nat.le_of_ble_eq_true rfl)⟩ (Nat.le_of_ble_eq_true rfl) ⟨(Nat.le_of_ble_eq_true rfl), (Nat.le_of_ble_eq_true rfl)⟩ (fun _ _ hx => hx.elim) 25 rfl (fun v g9 h => ?_)
    obtain ⟨⟨r8, rfl, h⟩, rfl⟩ := h
    refine sx_istore_n C dX7_paste_25 2 rfl [(2, .int r8), (0, .ref (b + 0)), (1, .int x1)] (by decide) rfl 26 rfl ?_
    refine sx_aload_n C dX7_paste_26 0 1 rfl rfl 27 rfl ?_
    refine sx_iload_n C dX7_paste_27 1 2 rfl rfl 28 rfl ?_
    refine sx_callV C ht hB (st := []) dX7_paste_28 (c_X7_renews hf h) mi_X7_renews lk_X7_129 mn_X7_renews ms_X7_renews (by decide) lyM_0 rfl rfl rfl rfl ⟨⟨(Nat.le_of_ble_eq_true rfl), (Nat.le_of_ble_eq_true rfl)⟩, (Nat.le_of_ble_eq_true rfl), (Nat.le_of_ble_eq_true rfl)⟩ (Nat.le_of_ble_eq_true rfl) ⟨(Nat.le_of_ble_eq_true rfl), (Nat.le_of_ble_eq_true rfl)⟩ (fun _ _ hx => hx.elim) 31 rfl (fun v g10 h => ?_)
    obtain ⟨rfl, h⟩ := h
    refine sx_iload_n C dX7_paste_31 2 0 rfl rfl 32 rfl ?_
    exact sx_iret C dX7_paste_32 hr (Nat.le_of_ble_eq_true rfl) (Nat.le_of_ble_eq_true rfl) ⟨_, rfl, h⟩
  · replace h := h.1 c7
    refine sx_iconst C dX7_paste_18 0 (by decide) 19 rfl ?_
    exact sx_iret C dX7_paste_19 hr (Nat.le_of_ble_eq_true rfl) (Nat.le_of_ble_eq_true rfl) ⟨_, rfl, h⟩
set_option maxRecDepth 100000 in
set_option maxHeartbeats 4000000 in
theorem c_X7_mark {l : Launch} {D : va_G} {G : sx_G} {b : Nat} (hf : l.stackTraces = false) {f : sx_F} {x1 : Int32} {x2 : Int32} {x3 : Int32} {Q : Int32 → sx_F → Prop}  (h : P_X7_mark f x1 x2 x3 Q) : sx_Met l D G b 26 lyM yX7_mark cX7_mark 8 (some .int) 3 56 0 0 [.ref (b + 0), .int x1, .int x2, .int x3] f (sx_qi Q) (fun _ _ => False) := by
  refine sx_enter (own := RX7) hf rfl rfl (Nat.le_of_ble_eq_true rfl) ?_
  intro p e s m args below meth c C hr ht
  have hB : ∀ k, k < 26 → sx_A b 26 s.heap.size (b + k) := fun k h => sx_A.in h
  unfold P_X7_mark at h
  replace h := h (fun (f : sx_F) => sx_J (sx_wp D G b lyM 26) p l e { frames := 3, cells := 0, slots := 0, locals := 56 } s m args below meth c (sx_A b 26 s.heap.size) 8 0 0 (sx_fin (sx_wp D G b lyM 26) (sx_A b 26 s.heap.size) below args s 0 0 (sx_qi Q) (fun _ _ => False)) f 20 [(0, .ref (b + 0)), (1, .int x1), (2, .int x2), (3, .int x3)] [])
  replace h := h (fun (f : sx_F) (s0 : Int32) => sx_J (sx_wp D G b lyM 26) p l e { frames := 3, cells := 0, slots := 0, locals := 56 } s m args below meth c (sx_A b 26 s.heap.size) 8 0 0 (sx_fin (sx_wp D G b lyM 26) (sx_A b 26 s.heap.size) below args s 0 0 (sx_qi Q) (fun _ _ => False)) f 21 [(0, .ref (b + 0)), (1, .int x1), (2, .int x2), (3, .int x3)] [.int s0])
  replace h := h (fun (f : sx_F) (v4 : Int32) => sx_J (sx_wp D G b lyM 26) p l e { frames := 3, cells := 0, slots := 0, locals := 56 } s m args below meth c (sx_A b 26 s.heap.size) 8 0 0 (sx_fin (sx_wp D G b lyM 26) (sx_A b 26 s.heap.size) below args s 0 0 (sx_qi Q) (fun _ _ => False)) f 57 [(0, .ref (b + 0)), (1, .int x1), (2, .int x2), (3, .int x3), (4, .int v4)] [])
  replace h := h (fun (f : sx_F) (v4 : Int32) (s0 : Int32) => sx_J (sx_wp D G b lyM 26) p l e { frames := 3, cells := 0, slots := 0, locals := 56 } s m args below meth c (sx_A b 26 s.heap.size) 8 0 0 (sx_fin (sx_wp D G b lyM 26) (sx_A b 26 s.heap.size) below args s 0 0 (sx_qi Q) (fun _ _ => False)) f 58 [(0, .ref (b + 0)), (1, .int x1), (2, .int x2), (3, .int x3), (4, .int v4)] [.int s0])
  replace h := h (by
    intro f h
    refine sx_iconst C dX7_mark_20 0 (by decide) 21 rfl ?_
    exact sx_sub [0, 1, 2, 3] rfl h)
  replace h := h (by
    intro f s0 h
    refine sx_istore C dX7_mark_21 [(4, .int s0), (0, .ref (b + 0)), (1, .int x1), (2, .int x2), (3, .int x3)] (by decide) rfl 23 rfl ?_
    refine sx_iload C dX7_mark_23 0 rfl 25 rfl ?_
    refine sx_if_eq C dX7_mark_25 57 28 (by decide) rfl (fun c1 => ?_) (fun c1 => ?_)
    · replace h := h.1 c1
      exact sx_sub [1, 2, 3, 4, 0] rfl h
    · replace h := h.2 c1
      refine sx_aload_n C dX7_mark_28 0 1 rfl rfl 29 rfl ?_
      refine sx_getq C (T := TX7) (C0 := RX7) (N := 34) (j := 9) dX7_mark_29 fl_X7_35 inw_X7 rfl (by decide) rfl (by decide) lyM_0 rfl 32 rfl ?_
      refine sx_iload_n C dX7_mark_32 1 2 rfl rfl 33 rfl ?_
      refine sx_iald C dX7_mark_33 (by decide) lyM_7 h.1 34 rfl ?_
      replace h := h.2
      refine sx_iconst C dX7_mark_34 (-1) (by decide) 35 rfl ?_
      refine sx_icmp_eq C dX7_mark_35 57 38 (by decide) rfl (fun c2 => ?_) (fun c2 => ?_)
      · replace h := h.1 c2
        exact sx_sub [1, 2, 3, 4, 0] rfl h
      · replace h := h.2 c2
        refine sx_aload_n C dX7_mark_38 0 1 rfl rfl 39 rfl ?_
        refine sx_getq C (T := TX7) (C0 := RX7) (N := 34) (j := 10) dX7_mark_39 fl_X7_38 inw_X7 rfl (by decide) rfl (by decide) lyM_0 rfl 42 rfl ?_
        refine sx_bipush C dX7_mark_42 12 (by decide) 44 rfl ?_
        refine sx_iload_n C dX7_mark_44 1 2 rfl rfl 45 rfl ?_
        refine sx_imul C dX7_mark_45 46 rfl ?_
        refine sx_iload_n C dX7_mark_46 2 3 rfl rfl 47 rfl ?_
        refine sx_iadd C dX7_mark_47 48 rfl ?_
        refine sx_iald C dX7_mark_48 (by decide) lyM_8 h.1 49 rfl ?_
        replace h := h.2
        refine sx_iconst C dX7_mark_49 (-1) (by decide) 50 rfl ?_
        refine sx_icmp_eq C dX7_mark_50 57 53 (by decide) rfl (fun c3 => ?_) (fun c3 => ?_)
        · replace h := h.1 c3
          exact sx_sub [1, 2, 3, 4, 0] rfl h
        · replace h := h.2 c3
          refine sx_iconst C dX7_mark_53 1 (by decide) 54 rfl ?_
          refine sx_goto C dX7_mark_54 58 (by decide) ?_
          exact sx_sub [1, 2, 3, 4, 0] rfl h)
  replace h := h (by
    intro f v4 h
    refine sx_iconst C dX7_mark_57 0 (by decide) 58 rfl ?_
    exact sx_sub [0, 1, 2, 3, 4] rfl h)
  replace h := h (by
    intro f v4 s0 h
    refine sx_istore C dX7_mark_58 [(5, .int s0), (0, .ref (b + 0)), (1, .int x1), (2, .int x2), (3, .int x3), (4, .int v4)] (by decide) rfl 60 rfl ?_
    refine sx_aload_n C dX7_mark_60 0 1 rfl rfl 61 rfl ?_
    refine sx_iload C dX7_mark_61 5 rfl 63 rfl ?_
    refine sx_iload_n C dX7_mark_63 3 4 rfl rfl 64 rfl ?_
    refine sx_iconst C dX7_mark_64 0 (by decide) 65 rfl ?_
    refine sx_bipush C dX7_mark_65 9 (by decide) 67 rfl ?_
    refine sx_callS C ht hB (st := [.int v4, .ref (b + 0)]) dX7_mark_67 (c_X7_in hf h) mi_X7_in lk_X7_95 mt_X7_in rfl rfl ⟨⟨(Nat.le_of_ble_eq_true rfl), (Nat.le_of_ble_eq_true rfl)⟩, (Nat.le_of_ble_eq_true rfl), (Nat.le_of_ble_eq_true rfl)⟩ (Nat.le_of_ble_eq_true rfl) ⟨(Nat.le_of_ble_eq_true rfl), (Nat.le_of_ble_eq_true rfl)⟩ (fun _ _ hx => hx.elim) 70 rfl (fun v g5 h => ?_)
    obtain ⟨⟨r4, rfl, h⟩, rfl⟩ := h
    refine sx_iload C dX7_mark_70 0 rfl 72 rfl ?_
    refine sx_callV C ht hB (st := []) dX7_mark_72 (c_X7_goes hf h) mi_X7_goes lk_X7_105 mn_X7_goes ms_X7_goes (by decide) lyM_0 rfl rfl rfl rfl ⟨⟨(Nat.le_of_ble_eq_true rfl), (Nat.le_of_ble_eq_true rfl)⟩, (Nat.le_of_ble_eq_true rfl), (Nat.le_of_ble_eq_true rfl)⟩ (Nat.le_of_ble_eq_true rfl) ⟨(Nat.le_of_ble_eq_true rfl), (Nat.le_of_ble_eq_true rfl)⟩ (fun _ _ hx => hx.elim) 75 rfl (fun v g6 h => ?_)
    obtain ⟨r7, rfl, h⟩ := h
    refine sx_if_ne C dX7_mark_75 80 78 (by decide) rfl (fun c8 => ?_) (fun c8 => ?_)
    · replace h := h.2 c8
      refine sx_bipush C dX7_mark_80 60 (by decide) 82 rfl ?_
      refine sx_aload_n C dX7_mark_82 0 1 rfl rfl 83 rfl ?_
      refine sx_getq C (T := TX7) (C0 := RX7) (N := 34) (j := 9) dX7_mark_83 fl_X7_35 inw_X7 rfl (by decide) rfl (by decide) lyM_0 rfl 86 rfl ?_
      refine sx_iload_n C dX7_mark_86 1 2 rfl rfl 87 rfl ?_
      refine sx_iald C dX7_mark_87 (by decide) lyM_7 h.1 88 rfl ?_
      replace h := h.2
      refine sx_imul C dX7_mark_88 89 rfl ?_
      refine sx_aload_n C dX7_mark_89 0 1 rfl rfl 90 rfl ?_
      refine sx_getq C (T := TX7) (C0 := RX7) (N := 34) (j := 8) dX7_mark_90 fl_X7_32 inw_X7 rfl (by decide) rfl (by decide) lyM_0 rfl 93 rfl ?_
      refine sx_iload_n C dX7_mark_93 1 2 rfl rfl 94 rfl ?_
      refine sx_iald C dX7_mark_94 (by decide) lyM_6 h.1 95 rfl ?_
      replace h := h.2
      refine sx_iload_n C dX7_mark_95 2 3 rfl rfl 96 rfl ?_
      refine sx_callS C ht hB (st := [.int (60 * (g6 7 x1.toNatClampNeg))]) dX7_mark_96 (c_X7_cell hf h) mi_X7_cell lk_X7_116 mt_X7_cell rfl rfl ⟨⟨(Nat.le_of_ble_eq_true rfl), (Nat.le_of_ble_eq_true rfl)⟩, (Nat.le_of_ble_eq_true rfl), (Nat.le_of_ble_eq_true rfl)⟩ (Nat.le_of_ble_eq_true rfl) ⟨(Nat.le_of_ble_eq_true rfl), (Nat.le_of_ble_eq_true rfl)⟩ (fun _ _ hx => hx.elim) 99 rfl (fun v g10 h => ?_)
      obtain ⟨⟨r9, rfl, h⟩, rfl⟩ := h
      refine sx_iadd C dX7_mark_99 100 rfl ?_
      refine sx_topi (fun y11 ey11 => ?_)
      replace h := h y11 ey11
      refine sx_istore C dX7_mark_100 [(6, .int y11), (5, .int s0), (0, .ref (b + 0)), (1, .int x1), (2, .int x2), (3, .int x3), (4, .int v4)] (by decide) rfl 102 rfl ?_
      refine sx_aload_n C dX7_mark_102 0 2 rfl rfl 103 rfl ?_
      refine sx_getq C (T := TX7) (C0 := RX7) (N := 34) (j := 13) dX7_mark_103 fl_X7_41 inw_X7 rfl (by decide) rfl (by decide) lyM_0 rfl 106 rfl ?_
      refine sx_iload C dX7_mark_106 0 rfl 108 rfl ?_
      refine sx_iald C dX7_mark_108 (by decide) lyM_9 h.1 109 rfl ?_
      replace h := h.2
      refine sx_topi (fun y12 ey12 => ?_)
      replace h := h y12 ey12
      refine sx_istore C dX7_mark_109 [(7, .int y12), (6, .int y11), (5, .int s0), (0, .ref (b + 0)), (1, .int x1), (2, .int x2), (3, .int x3), (4, .int v4)] (by decide) rfl 111 rfl ?_
      refine sx_aload_n C dX7_mark_111 0 3 rfl rfl 112 rfl ?_
      refine sx_getq C (T := TX7) (C0 := RX7) (N := 34) (j := 13) dX7_mark_112 fl_X7_41 inw_X7 rfl (by decide) rfl (by decide) lyM_0 rfl 115 rfl ?_
      refine sx_iload C dX7_mark_115 1 rfl 117 rfl ?_
      refine sx_iload_n C dX7_mark_117 3 6 rfl rfl 118 rfl ?_
      refine sx_iast C dX7_mark_118 hB (by decide) lyM_9 h.1 119 rfl (fun g13 eg13 => ?_)
      replace h := h.2 g13 eg13
      refine sx_aload_n C dX7_mark_119 0 3 rfl rfl 120 rfl ?_
      refine sx_getq C (T := TX7) (C0 := RX7) (N := 34) (j := 14) dX7_mark_120 fl_X7_44 inw_X7 rfl (by decide) rfl (by decide) lyM_0 rfl 123 rfl ?_
      refine sx_iload C dX7_mark_123 1 rfl 125 rfl ?_
      refine sx_aload_n C dX7_mark_125 0 3 rfl rfl 126 rfl ?_
      refine sx_getq C (T := TX7) (C0 := RX7) (N := 34) (j := 10) dX7_mark_126 fl_X7_38 inw_X7 rfl (by decide) rfl (by decide) lyM_0 rfl 129 rfl ?_
      refine sx_bipush C dX7_mark_129 12 (by decide) 131 rfl ?_
      refine sx_iload_n C dX7_mark_131 1 4 rfl rfl 132 rfl ?_
      refine sx_imul C dX7_mark_132 133 rfl ?_
      refine sx_iload_n C dX7_mark_133 2 5 rfl rfl 134 rfl ?_
      refine sx_iadd C dX7_mark_134 135 rfl ?_
      refine sx_iald C dX7_mark_135 (by decide) lyM_8 h.1 136 rfl ?_
      replace h := h.2
      refine sx_iast C dX7_mark_136 hB (by decide) lyM_10 h.1 137 rfl (fun g14 eg14 => ?_)
      replace h := h.2 g14 eg14
      refine sx_iload C dX7_mark_137 0 rfl 139 rfl ?_
      exact sx_iret C dX7_mark_139 hr (Nat.le_of_ble_eq_true rfl) (Nat.le_of_ble_eq_true rfl) ⟨_, rfl, h⟩
    · replace h := h.1 c8
      refine sx_iconst C dX7_mark_78 0 (by decide) 79 rfl ?_
      exact sx_iret C dX7_mark_79 hr (Nat.le_of_ble_eq_true rfl) (Nat.le_of_ble_eq_true rfl) ⟨_, rfl, h⟩)
  refine sx_sub (lv' := [(0, .ref (b + 0)), (1, .int x1), (2, .int x2), (3, .int x3)]) [0, 1, 2, 3] rfl ?_
  refine sx_aload_n C dX7_mark_0 0 0 rfl rfl 1 rfl ?_
  refine sx_iload_n C dX7_mark_1 1 1 rfl rfl 2 rfl ?_
  refine sx_callV C ht hB (st := []) dX7_mark_2 (c_X7_isCopy hf h) mi_X7_isCopy lk_X7_126 mn_X7_isCopy ms_X7_isCopy (by decide) lyM_0 rfl rfl rfl rfl ⟨⟨(Nat.le_of_ble_eq_true rfl), (Nat.le_of_ble_eq_true rfl)⟩, (Nat.le_of_ble_eq_true rfl), (Nat.le_of_ble_eq_true rfl)⟩ (Nat.le_of_ble_eq_true rfl) ⟨(Nat.le_of_ble_eq_true rfl), (Nat.le_of_ble_eq_true rfl)⟩ (fun _ _ hx => hx.elim) 5 rfl (fun v g16 h => ?_)
  obtain ⟨⟨r15, rfl, h⟩, rfl⟩ := h
  refine sx_if_eq C dX7_mark_5 20 8 (by decide) rfl (fun c17 => ?_) (fun c17 => ?_)
  · replace h := h.1 c17
    exact sx_sub [0, 1, 2, 3] rfl h
  · replace h := h.2 c17
    refine sx_aload_n C dX7_mark_8 0 0 rfl rfl 9 rfl ?_
    refine sx_iload_n C dX7_mark_9 2 2 rfl rfl 10 rfl ?_
    refine sx_callV C ht hB (st := []) dX7_mark_10 (c_X7_isBar hf h) mi_X7_isBar lk_X7_113 mn_X7_isBar ms_X7_isBar (by decide) lyM_0 rfl rfl rfl rfl ⟨⟨(Nat.le_of_ble_eq_true rfl), (Nat.le_of_ble_eq_true rfl)⟩, (Nat.le_of_ble_eq_true rfl), (Nat.le_of_ble_eq_true rfl)⟩ (Nat.le_of_ble_eq_true rfl) ⟨(Nat.le_of_ble_eq_true rfl), (Nat.le_of_ble_eq_true rfl)⟩ (fun _ _ hx => hx.elim) 13 rfl (fun v g19 h => ?_)
    obtain ⟨⟨r18, rfl, h⟩, rfl⟩ := h
    refine sx_if_eq C dX7_mark_13 20 16 (by decide) rfl (fun c20 => ?_) (fun c20 => ?_)
    · replace h := h.1 c20
      exact sx_sub [0, 1, 2, 3] rfl h
    · replace h := h.2 c20
      refine sx_iconst C dX7_mark_16 1 (by decide) 17 rfl ?_
      refine sx_goto C dX7_mark_17 21 (by decide) ?_
      exact sx_sub [0, 1, 2, 3] rfl h
set_option maxRecDepth 100000 in
set_option maxHeartbeats 4000000 in
theorem c_X7_bowing {l : Launch} {D : va_G} {G : sx_G} {b : Nat} (hf : l.stackTraces = false) {f : sx_F} {x1 : Int32} {x2 : Int32} {x3 : Int32} {Q : Int32 → Prop}  (h : P_X7_bowing f x1 x2 x3 Q) : sx_Met l D G b 26 lyM yX7_bowing cX7_bowing 5 (some .int) 1 13 0 0 [.ref (b + 0), .int x1, .int x2, .int x3] f (sx_pi f Q) (fun _ _ => False) := by
  refine sx_enter (own := RX7) hf rfl rfl (Nat.le_of_ble_eq_true rfl) ?_
  intro p e s m args below meth c C hr ht
  have hB : ∀ k, k < 26 → sx_A b 26 s.heap.size (b + k) := fun k h => sx_A.in h
  unfold P_X7_bowing at h
  refine sx_sub (lv' := [(0, .ref (b + 0)), (1, .int x1), (2, .int x2), (3, .int x3)]) [0, 1, 2, 3] rfl ?_
  refine sx_bipush C dX7_bowing_0 8 (by decide) 2 rfl ?_
  refine sx_bipush C dX7_bowing_2 60 (by decide) 4 rfl ?_
  refine sx_iload_n C dX7_bowing_4 1 1 rfl rfl 5 rfl ?_
  refine sx_imul C dX7_bowing_5 6 rfl ?_
  refine sx_iload_n C dX7_bowing_6 2 2 rfl rfl 7 rfl ?_
  refine sx_iadd C dX7_bowing_7 8 rfl ?_
  refine sx_imul C dX7_bowing_8 9 rfl ?_
  refine sx_iload_n C dX7_bowing_9 3 3 rfl rfl 10 rfl ?_
  refine sx_iadd C dX7_bowing_10 11 rfl ?_
  refine sx_topi (fun y1 ey1 => ?_)
  replace h := h y1 ey1
  refine sx_istore C dX7_bowing_11 [(4, .int y1), (0, .ref (b + 0)), (1, .int x1), (2, .int x2), (3, .int x3)] (by decide) rfl 13 rfl ?_
  refine sx_aload_n C dX7_bowing_13 0 1 rfl rfl 14 rfl ?_
  refine sx_getq C (T := TX7) (C0 := RX7) (N := 34) (j := 16) dX7_bowing_14 fl_X7_50 inw_X7 rfl (by decide) rfl (by decide) lyM_0 rfl 17 rfl ?_
  refine sx_iload C dX7_bowing_17 0 rfl 19 rfl ?_
  refine sx_iald C dX7_bowing_19 (by decide) lyM_12 h.1 20 rfl ?_
  replace h := h.2
  refine sx_aload_n C dX7_bowing_20 0 1 rfl rfl 21 rfl ?_
  refine sx_getq C (T := TX7) (C0 := RX7) (N := 34) (j := 4) dX7_bowing_21 fl_X7_22 inw_X7 rfl (by decide) rfl (by decide) lyM_0 rfl 24 rfl ?_
  refine sx_iload_n C dX7_bowing_24 2 3 rfl rfl 25 rfl ?_
  refine sx_iald C dX7_bowing_25 (by decide) lyM_5 h.1 26 rfl ?_
  replace h := h.2
  refine sx_icmp_ne C dX7_bowing_26 39 29 (by decide) rfl (fun c2 => ?_) (fun c2 => ?_)
  · replace h := h.2 c2
    refine sx_iconst C dX7_bowing_39 0 (by decide) 40 rfl ?_
    exact sx_iret C dX7_bowing_40 hr (Nat.le_of_ble_eq_true rfl) (Nat.le_of_ble_eq_true rfl) ⟨⟨_, rfl, h⟩, rfl⟩
  · replace h := h.1 c2
    refine sx_aload_n C dX7_bowing_29 0 1 rfl rfl 30 rfl ?_
    refine sx_getq C (T := TX7) (C0 := RX7) (N := 34) (j := 15) dX7_bowing_30 fl_X7_47 inw_X7 rfl (by decide) rfl (by decide) lyM_0 rfl 33 rfl ?_
    refine sx_iload C dX7_bowing_33 0 rfl 35 rfl ?_
    refine sx_iald C dX7_bowing_35 (by decide) lyM_11 h.1 36 rfl ?_
    replace h := h.2
    refine sx_goto C dX7_bowing_36 40 (by decide) ?_
    exact sx_iret C dX7_bowing_40 hr (Nat.le_of_ble_eq_true rfl) (Nat.le_of_ble_eq_true rfl) ⟨⟨_, rfl, h⟩, rfl⟩
