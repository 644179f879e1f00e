set_option maxRecDepth 100000 in
set_option maxHeartbeats 4000000 in
theorem c0_X6_needValue {l : Launch} {D : va_G} {G : sx_G} {b : Nat} (hf : l.stackTraces = false) {f : sx_F} {x0 : Int32} {x1 : Int32} {x2 : Int32} {Q : Prop}  (h : P_X6_needValue f x0 x1 x2 Q (fun _ => False)) : sx_Met l D G b 129 lyX yX6_needValue cX6_needValue 3 (none) 6 90 0 0 [.int x0, .int x1, .int x2] f (sx_pv f Q) (fun _ _ => False) := by
  refine sx_enter (own := RX6) hf rfl rfl (Nat.le_of_ble_eq_true rfl) ?_
  intro p e s m args below meth c C hr ht
  have hB : ∀ k, k < 129 → sx_A b 129 s.heap.size (b + k) := fun k h => sx_A.in h
  unfold P_X6_needValue at h
  replace h := h (sx_J (sx_wp D G b lyX 129) p l e { frames := 6, cells := 0, slots := 0, locals := 90 } s m args below meth c (sx_A b 129 s.heap.size) 3 0 0 (sx_fin (sx_wp D G b lyX 129) (sx_A b 129 s.heap.size) below args s 0 0 (sx_pv f Q) (fun _ _ => False)) f 10 [] [])
  replace h := h (by
    intro h
    exact False.elim h)
  refine sx_sub (lv' := [(0, .int x0), (1, .int x1), (2, .int x2)]) [0, 1, 2] rfl ?_
  refine sx_iload_n C dX6_needValue_0 0 0 rfl rfl 1 rfl ?_
  refine sx_iload_n C dX6_needValue_1 1 1 rfl rfl 2 rfl ?_
  refine sx_icmp_lt C dX6_needValue_2 10 5 (by decide) rfl (fun c1 => ?_) (fun c1 => ?_)
  · replace h := h.1 c1
    exact sx_sub [] rfl h
  · replace h := h.2 c1
    refine sx_iload_n C dX6_needValue_5 0 0 rfl rfl 6 rfl ?_
    refine sx_iload_n C dX6_needValue_6 2 2 rfl rfl 7 rfl ?_
    refine sx_icmp_le C dX6_needValue_7 20 10 (by decide) rfl (fun c2 => ?_) (fun c2 => ?_)
    · replace h := h.1 c2
      exact sx_vret C dX6_needValue_20 hr (Nat.le_of_ble_eq_true rfl) (Nat.le_of_ble_eq_true rfl) ⟨⟨rfl, h⟩, rfl⟩
    · replace h := h.2 c2
      exact sx_sub [] rfl h
set_option maxRecDepth 100000 in
set_option maxHeartbeats 4000000 in
theorem c0_X6_bar {l : Launch} {D : va_G} {G : sx_G} {b : Nat} (hf : l.stackTraces = false) {f : sx_F} {x1 : Int32} {Q : Int32 → sx_F → Prop}  (h : P_X6_bar f x1 Q (fun _ _ => False)) : sx_Met l D G b 129 lyX yX6_bar cX6_bar 2 (some .int) 7 112 0 0 [.ref (b + 0), .int x1] f (sx_qi Q) (fun _ _ => False) := by
  refine sx_enter (own := RX6) hf rfl rfl (Nat.le_of_ble_eq_true rfl) ?_
  intro p e s m args below meth c C hr ht
  have hB : ∀ k, k < 129 → sx_A b 129 s.heap.size (b + k) := fun k h => sx_A.in h
  unfold P_X6_bar at h
  refine sx_sub (lv' := [(0, .ref (b + 0)), (1, .int x1)]) [0, 1] rfl ?_
  refine sx_iload_n C dX6_bar_0 1 1 rfl rfl 1 rfl ?_
  refine sx_iconst C dX6_bar_1 1 (by decide) 2 rfl ?_
  refine sx_bipush C dX6_bar_2 32 (by decide) 4 rfl ?_
  refine sx_callS C ht hB (st := []) dX6_bar_4 (c0_X6_needValue hf h) mi_X6_needValue lk_X6_48 mt_X6_needValue rfl rfl ⟨⟨(Nat.le_of_ble_eq_true rfl), (Nat.le_of_ble_eq_true rfl)⟩, (Nat.le_of_ble_eq_true rfl), (Nat.le_of_ble_eq_true rfl)⟩ (Nat.le_of_ble_eq_true rfl) ⟨(Nat.le_of_ble_eq_true rfl), (Nat.le_of_ble_eq_true rfl)⟩ (fun _ _ hx => hx.elim) 7 rfl (fun v g1 h => ?_)
  obtain ⟨⟨rfl, h⟩, rfl⟩ := h
  refine sx_aload_n C dX6_bar_7 0 0 rfl rfl 8 rfl ?_
  refine sx_getq C (T := TX6) (C0 := RX6) (N := 7) (j := 0) dX6_bar_8 fl_X6_12 inw_X6 rfl (by decide) rfl (by decide) lyX_0 rfl 11 rfl ?_
  refine sx_getiN C (T := TX4) (C0 := RX4) (N := 7) (j := 0) dX6_bar_11 fln_X6_52 inw_X4 rfl (by decide) rfl (by decide) lyX_1 rfl 14 rfl ?_
  refine sx_bipush C dX6_bar_14 12 (by decide) 16 rfl ?_
  refine sx_icmp_lt C dX6_bar_16 29 19 (by decide) rfl (fun c2 => ?_) (fun c2 => ?_)
  · replace h := h.1 c2
    refine sx_aload_n C dX6_bar_29 0 0 rfl rfl 30 rfl ?_
    refine sx_getq C (T := TX6) (C0 := RX6) (N := 7) (j := 0) dX6_bar_30 fl_X6_12 inw_X6 rfl (by decide) rfl (by decide) lyX_0 rfl 33 rfl ?_
    refine sx_iload_n C dX6_bar_33 1 1 rfl rfl 34 rfl ?_
    refine sx_callV C ht hB (st := []) dX6_bar_34 (c_X4_addBar hf h) mi_X4_addBar lk_X6_63 mn_X4_addBar ms_X4_addBar (by decide) lyX_1 rfl rfl rfl rfl ⟨⟨(Nat.le_of_ble_eq_true rfl), (Nat.le_of_ble_eq_true rfl)⟩, (Nat.le_of_ble_eq_true rfl), (Nat.le_of_ble_eq_true rfl)⟩ (Nat.le_of_ble_eq_true rfl) ⟨(Nat.le_of_ble_eq_true rfl), (Nat.le_of_ble_eq_true rfl)⟩ (fun _ _ hx => hx.elim) 37 rfl (fun v g3 h => ?_)
    obtain ⟨r4, rfl, h⟩ := h
    exact sx_iret C dX6_bar_37 hr (Nat.le_of_ble_eq_true rfl) (Nat.le_of_ble_eq_true rfl) ⟨_, rfl, h⟩
  · replace h := h.2 c2
    exact False.elim h
set_option maxRecDepth 100000 in
set_option maxHeartbeats 4000000 in
theorem c0_X6_needIndex {l : Launch} {D : va_G} {G : sx_G} {b : Nat} (hf : l.stackTraces = false) {f : sx_F} {x0 : Int32} {x1 : Int32} {Q : Prop}  (h : P_X6_needIndex f x0 x1 Q (fun _ => False)) : sx_Met l D G b 129 lyX yX6_needIndex cX6_needIndex 2 (none) 6 90 0 0 [.int x0, .int x1] f (sx_pv f Q) (fun _ _ => False) := by
  refine sx_enter (own := RX6) hf rfl rfl (Nat.le_of_ble_eq_true rfl) ?_
  intro p e s m args below meth c C hr ht
  have hB : ∀ k, k < 129 → sx_A b 129 s.heap.size (b + k) := fun k h => sx_A.in h
  unfold P_X6_needIndex at h
  replace h := h (sx_J (sx_wp D G b lyX 129) p l e { frames := 6, cells := 0, slots := 0, locals := 90 } s m args below meth c (sx_A b 129 s.heap.size) 2 0 0 (sx_fin (sx_wp D G b lyX 129) (sx_A b 129 s.heap.size) below args s 0 0 (sx_pv f Q) (fun _ _ => False)) f 9 [] [])
  replace h := h (by
    intro h
    exact False.elim h)
  refine sx_sub (lv' := [(0, .int x0), (1, .int x1)]) [0, 1] rfl ?_
  refine sx_iload_n C dX6_needIndex_0 0 0 rfl rfl 1 rfl ?_
  refine sx_if_lt C dX6_needIndex_1 9 4 (by decide) rfl (fun c1 => ?_) (fun c1 => ?_)
  · replace h := h.1 c1
    exact sx_sub [] rfl h
  · replace h := h.2 c1
    refine sx_iload_n C dX6_needIndex_4 0 0 rfl rfl 5 rfl ?_
    refine sx_iload_n C dX6_needIndex_5 1 1 rfl rfl 6 rfl ?_
    refine sx_icmp_lt C dX6_needIndex_6 19 9 (by decide) rfl (fun c2 => ?_) (fun c2 => ?_)
    · replace h := h.1 c2
      exact sx_vret C dX6_needIndex_19 hr (Nat.le_of_ble_eq_true rfl) (Nat.le_of_ble_eq_true rfl) ⟨⟨rfl, h⟩, rfl⟩
    · replace h := h.2 c2
      exact sx_sub [] rfl h
set_option maxRecDepth 100000 in
set_option maxHeartbeats 4000000 in
theorem c0_X6_needSlot {l : Launch} {D : va_G} {G : sx_G} {b : Nat} (hf : l.stackTraces = false) {f : sx_F} {x1 : Int32} {x2 : Int32} {Q : Int32 → Prop}  (h : P_X6_needSlot f x1 x2 Q (fun _ => False)) : sx_Met l D G b 129 lyX yX6_needSlot cX6_needSlot 3 (some .int) 7 111 0 0 [.ref (b + 0), .int x1, .int x2] f (sx_pi f Q) (fun _ _ => False) := by
  refine sx_enter (own := RX6) hf rfl rfl (Nat.le_of_ble_eq_true rfl) ?_
  intro p e s m args below meth c C hr ht
  have hB : ∀ k, k < 129 → sx_A b 129 s.heap.size (b + k) := fun k h => sx_A.in h
  unfold P_X6_needSlot at h
  refine sx_sub (lv' := [(0, .ref (b + 0)), (1, .int x1), (2, .int x2)]) [0, 1, 2] rfl ?_
  refine sx_iload_n C dX6_needSlot_0 1 1 rfl rfl 1 rfl ?_
  refine sx_iconst C dX6_needSlot_1 5 (by decide) 2 rfl ?_
  refine sx_callS C ht hB (st := []) dX6_needSlot_2 (c0_X6_needIndex hf h) mi_X6_needIndex lk_X6_89 mt_X6_needIndex rfl rfl ⟨⟨(Nat.le_of_ble_eq_true rfl), (Nat.le_of_ble_eq_true rfl)⟩, (Nat.le_of_ble_eq_true rfl), (Nat.le_of_ble_eq_true rfl)⟩ (Nat.le_of_ble_eq_true rfl) ⟨(Nat.le_of_ble_eq_true rfl), (Nat.le_of_ble_eq_true rfl)⟩ (fun _ _ hx => hx.elim) 5 rfl (fun v g1 h => ?_)
  obtain ⟨⟨rfl, h⟩, rfl⟩ := h
  refine sx_iload_n C dX6_needSlot_5 2 2 rfl rfl 6 rfl ?_
  refine sx_aload_n C dX6_needSlot_6 0 0 rfl rfl 7 rfl ?_
  refine sx_getq C (T := TX6) (C0 := RX6) (N := 7) (j := 0) dX6_needSlot_7 fl_X6_12 inw_X6 rfl (by decide) rfl (by decide) lyX_0 rfl 10 rfl ?_
  refine sx_getiN C (T := TX4) (C0 := RX4) (N := 7) (j := 0) dX6_needSlot_10 fln_X6_52 inw_X4 rfl (by decide) rfl (by decide) lyX_1 rfl 13 rfl ?_
  refine sx_callS C ht hB (st := []) dX6_needSlot_13 (c0_X6_needIndex hf h) mi_X6_needIndex lk_X6_89 mt_X6_needIndex rfl rfl ⟨⟨(Nat.le_of_ble_eq_true rfl), (Nat.le_of_ble_eq_true rfl)⟩, (Nat.le_of_ble_eq_true rfl), (Nat.le_of_ble_eq_true rfl)⟩ (Nat.le_of_ble_eq_true rfl) ⟨(Nat.le_of_ble_eq_true rfl), (Nat.le_of_ble_eq_true rfl)⟩ (fun _ _ hx => hx.elim) 16 rfl (fun v g2 h => ?_)
  obtain ⟨⟨rfl, h⟩, rfl⟩ := h
  refine sx_iload_n C dX6_needSlot_16 1 1 rfl rfl 17 rfl ?_
  refine sx_iload_n C dX6_needSlot_17 2 2 rfl rfl 18 rfl ?_
  refine sx_callS C ht hB (st := []) dX6_needSlot_18 (c_X6_slotOf hf h) mi_X6_slotOf lk_X6_148 mt_X6_slotOf rfl rfl ⟨⟨(Nat.le_of_ble_eq_true rfl), (Nat.le_of_ble_eq_true rfl)⟩, (Nat.le_of_ble_eq_true rfl), (Nat.le_of_ble_eq_true rfl)⟩ (Nat.le_of_ble_eq_true rfl) ⟨(Nat.le_of_ble_eq_true rfl), (Nat.le_of_ble_eq_true rfl)⟩ (fun _ _ hx => hx.elim) 21 rfl (fun v g4 h => ?_)
  obtain ⟨⟨r3, rfl, h⟩, rfl⟩ := h
  exact sx_iret C dX6_needSlot_21 hr (Nat.le_of_ble_eq_true rfl) (Nat.le_of_ble_eq_true rfl) ⟨⟨_, rfl, h⟩, rfl⟩
set_option maxRecDepth 100000 in
set_option maxHeartbeats 4000000 in
theorem c0_X6_mend {l : Launch} {D : va_G} {G : sx_G} {b : Nat} (hf : l.stackTraces = false) {f : sx_F} {x1 : Int32} {x2 : Int32} {x3 : Int32} {x4 : Int32} {Q : Int32 → sx_F → Prop}  (h : P_X6_mend f x1 x2 x3 x4 Q (fun _ _ => False)) : sx_Met l D G b 129 lyX yX6_mend cX6_mend 6 (some .int) 8 133 0 0 [.ref (b + 0), .int x1, .int x2, .int x3, .int x4] f (sx_qi Q) (fun _ _ => False) := by
  refine sx_enter (own := RX6) hf rfl rfl (Nat.le_of_ble_eq_true rfl) ?_
  intro p e s m args below meth c C hr ht
  have hB : ∀ k, k < 129 → sx_A b 129 s.heap.size (b + k) := fun k h => sx_A.in h
  unfold P_X6_mend at h
  refine sx_sub (lv' := [(0, .ref (b + 0)), (1, .int x1), (2, .int x2), (3, .int x3), (4, .int x4)]) [0, 1, 2, 3, 4] rfl ?_
  refine sx_aload_n C dX6_mend_0 0 0 rfl rfl 1 rfl ?_
  refine sx_iload_n C dX6_mend_1 1 1 rfl rfl 2 rfl ?_
  refine sx_iload_n C dX6_mend_2 2 2 rfl rfl 3 rfl ?_
  refine sx_callV C ht hB (st := []) dX6_mend_3 (c0_X6_needSlot hf h) mi_X6_needSlot lk_X6_67 mn_X6_needSlot ms_X6_needSlot (by decide) lyX_0 rfl rfl rfl rfl ⟨⟨(Nat.le_of_ble_eq_true rfl), (Nat.le_of_ble_eq_true rfl)⟩, (Nat.le_of_ble_eq_true rfl), (Nat.le_of_ble_eq_true rfl)⟩ (Nat.le_of_ble_eq_true rfl) ⟨(Nat.le_of_ble_eq_true rfl), (Nat.le_of_ble_eq_true rfl)⟩ (fun _ _ hx => hx.elim) 6 rfl (fun v g2 h => ?_)
  obtain ⟨⟨r1, rfl, h⟩, rfl⟩ := h
  refine sx_istore C dX6_mend_6 [(5, .int r1), (0, .ref (b + 0)), (1, .int x1), (2, .int x2), (3, .int x3), (4, .int x4)] (by decide) rfl 8 rfl ?_
  refine sx_iload_n C dX6_mend_8 3 4 rfl rfl 9 rfl ?_
  refine sx_aload_n C dX6_mend_9 0 1 rfl rfl 10 rfl ?_
  refine sx_getq C (T := TX6) (C0 := RX6) (N := 7) (j := 0) dX6_mend_10 fl_X6_12 inw_X6 rfl (by decide) rfl (by decide) lyX_0 rfl 13 rfl ?_
  refine sx_getqN C (T := TX4) (C0 := RX4) (N := 7) (j := 4) dX6_mend_13 fln_X6_71 inw_X4 rfl (by decide) rfl (by decide) lyX_1 rfl 16 rfl ?_
  refine sx_iload C dX6_mend_16 0 rfl 18 rfl ?_
  refine sx_iald C dX6_mend_18 (by decide) lyX_5 h.1 19 rfl ?_
  replace h := h.2
  refine sx_callS C ht hB (st := []) dX6_mend_19 (c0_X6_needIndex hf h) mi_X6_needIndex lk_X6_89 mt_X6_needIndex rfl rfl ⟨⟨(Nat.le_of_ble_eq_true rfl), (Nat.le_of_ble_eq_true rfl)⟩, (Nat.le_of_ble_eq_true rfl), (Nat.le_of_ble_eq_true rfl)⟩ (Nat.le_of_ble_eq_true rfl) ⟨(Nat.le_of_ble_eq_true rfl), (Nat.le_of_ble_eq_true rfl)⟩ (fun _ _ hx => hx.elim) 22 rfl (fun v g3 h => ?_)
  obtain ⟨⟨rfl, h⟩, rfl⟩ := h
  refine sx_iload C dX6_mend_22 5 rfl 24 rfl ?_
  refine sx_iconst C dX6_mend_24 0 (by decide) 25 rfl ?_
  refine sx_bipush C dX6_mend_25 60 (by decide) 27 rfl ?_
  refine sx_callS C ht hB (st := []) dX6_mend_27 (c0_X6_needValue hf h) mi_X6_needValue lk_X6_48 mt_X6_needValue rfl rfl ⟨⟨(Nat.le_of_ble_eq_true rfl), (Nat.le_of_ble_eq_true rfl)⟩, (Nat.le_of_ble_eq_true rfl), (Nat.le_of_ble_eq_true rfl)⟩ (Nat.le_of_ble_eq_true rfl) ⟨(Nat.le_of_ble_eq_true rfl), (Nat.le_of_ble_eq_true rfl)⟩ (fun _ _ hx => hx.elim) 30 rfl (fun v g4 h => ?_)
  obtain ⟨⟨rfl, h⟩, rfl⟩ := h
  refine sx_aload_n C dX6_mend_30 0 1 rfl rfl 31 rfl ?_
  refine sx_getq C (T := TX6) (C0 := RX6) (N := 7) (j := 0) dX6_mend_31 fl_X6_12 inw_X6 rfl (by decide) rfl (by decide) lyX_0 rfl 34 rfl ?_
  refine sx_iload C dX6_mend_34 0 rfl 36 rfl ?_
  refine sx_iload_n C dX6_mend_36 3 4 rfl rfl 37 rfl ?_
  refine sx_iload C dX6_mend_37 5 rfl 39 rfl ?_
  refine sx_callV C ht hB (st := []) dX6_mend_39 (c_X4_changePitch hf h) mi_X4_changePitch lk_X6_93 mn_X4_changePitch ms_X4_changePitch (by decide) lyX_1 rfl rfl rfl rfl ⟨⟨(Nat.le_of_ble_eq_true rfl), (Nat.le_of_ble_eq_true rfl)⟩, (Nat.le_of_ble_eq_true rfl), (Nat.le_of_ble_eq_true rfl)⟩ (Nat.le_of_ble_eq_true rfl) ⟨(Nat.le_of_ble_eq_true rfl), (Nat.le_of_ble_eq_true rfl)⟩ (fun _ _ hx => hx.elim) 42 rfl (fun v g5 h => ?_)
  obtain ⟨r6, rfl, h⟩ := h
  exact sx_iret C dX6_mend_42 hr (Nat.le_of_ble_eq_true rfl) (Nat.le_of_ble_eq_true rfl) ⟨_, rfl, h⟩
set_option maxRecDepth 100000 in
set_option maxHeartbeats 4000000 in
theorem c0_X6_empty {l : Launch} {D : va_G} {G : sx_G} {b : Nat} (hf : l.stackTraces = false) {f : sx_F} {x1 : Int32} {x2 : Int32} {Q : Int32 → sx_F → Prop}  (h : P_X6_empty f x1 x2 Q (fun _ _ => False)) : sx_Met l D G b 129 lyX yX6_empty cX6_empty 3 (some .int) 8 133 0 0 [.ref (b + 0), .int x1, .int x2] f (sx_qi Q) (fun _ _ => False) := by
  refine sx_enter (own := RX6) hf rfl rfl (Nat.le_of_ble_eq_true rfl) ?_
  intro p e s m args below meth c C hr ht
  have hB : ∀ k, k < 129 → sx_A b 129 s.heap.size (b + k) := fun k h => sx_A.in h
  unfold P_X6_empty at h
  refine sx_sub (lv' := [(0, .ref (b + 0)), (1, .int x1), (2, .int x2)]) [0, 1, 2] rfl ?_
  refine sx_aload_n C dX6_empty_0 0 0 rfl rfl 1 rfl ?_
  refine sx_getq C (T := TX6) (C0 := RX6) (N := 7) (j := 0) dX6_empty_1 fl_X6_12 inw_X6 rfl (by decide) rfl (by decide) lyX_0 rfl 4 rfl ?_
  refine sx_aload_n C dX6_empty_4 0 0 rfl rfl 5 rfl ?_
  refine sx_iload_n C dX6_empty_5 1 1 rfl rfl 6 rfl ?_
  refine sx_iload_n C dX6_empty_6 2 2 rfl rfl 7 rfl ?_
  refine sx_callV C ht hB (st := [.ref (b + 1)]) dX6_empty_7 (c0_X6_needSlot hf h) mi_X6_needSlot lk_X6_67 mn_X6_needSlot ms_X6_needSlot (by decide) lyX_0 rfl rfl rfl rfl ⟨⟨(Nat.le_of_ble_eq_true rfl), (Nat.le_of_ble_eq_true rfl)⟩, (Nat.le_of_ble_eq_true rfl), (Nat.le_of_ble_eq_true rfl)⟩ (Nat.le_of_ble_eq_true rfl) ⟨(Nat.le_of_ble_eq_true rfl), (Nat.le_of_ble_eq_true rfl)⟩ (fun _ _ hx => hx.elim) 10 rfl (fun v g2 h => ?_)
  obtain ⟨⟨r1, rfl, h⟩, rfl⟩ := h
  refine sx_callV C ht hB (st := []) dX6_empty_10 (c_X4_takeNotes hf h) mi_X4_takeNotes lk_X6_96 mn_X4_takeNotes ms_X4_takeNotes (by decide) lyX_1 rfl rfl rfl rfl ⟨⟨(Nat.le_of_ble_eq_true rfl), (Nat.le_of_ble_eq_true rfl)⟩, (Nat.le_of_ble_eq_true rfl), (Nat.le_of_ble_eq_true rfl)⟩ (Nat.le_of_ble_eq_true rfl) ⟨(Nat.le_of_ble_eq_true rfl), (Nat.le_of_ble_eq_true rfl)⟩ (fun _ _ hx => hx.elim) 13 rfl (fun v g3 h => ?_)
  obtain ⟨r4, rfl, h⟩ := h
  exact sx_iret C dX6_empty_13 hr (Nat.le_of_ble_eq_true rfl) (Nat.le_of_ble_eq_true rfl) ⟨_, rfl, h⟩
set_option maxRecDepth 100000 in
set_option maxHeartbeats 4000000 in
theorem c0_X6_setPaper {l : Launch} {D : va_G} {G : sx_G} {b : Nat} (hf : l.stackTraces = false) {f : sx_F} {x1 : Int32} {x2 : Int32} {Q : Int32 → sx_F → Prop}  (h : P_X6_setPaper f x1 x2 Q (fun _ _ => False)) : sx_Met l D G b 129 lyX yX6_setPaper cX6_setPaper 4 (some .int) 7 112 0 0 [.ref (b + 0), .int x1, .int x2] f (sx_qi Q) (fun _ _ => False) := by
  refine sx_enter (own := RX6) hf rfl rfl (Nat.le_of_ble_eq_true rfl) ?_
  intro p e s m args below meth c C hr ht
  have hB : ∀ k, k < 129 → sx_A b 129 s.heap.size (b + k) := fun k h => sx_A.in h
  unfold P_X6_setPaper at h
  refine sx_sub (lv' := [(0, .ref (b + 0)), (1, .int x1), (2, .int x2)]) [0, 1, 2] rfl ?_
  refine sx_iload_n C dX6_setPaper_0 1 1 rfl rfl 1 rfl ?_
  refine sx_bipush C dX6_setPaper_1 80 (by decide) 3 rfl ?_
  refine sx_sipush C dX6_setPaper_3 500 (by decide) 6 rfl ?_
  refine sx_callS C ht hB (st := []) dX6_setPaper_6 (c0_X6_needValue hf h) mi_X6_needValue lk_X6_48 mt_X6_needValue rfl rfl ⟨⟨(Nat.le_of_ble_eq_true rfl), (Nat.le_of_ble_eq_true rfl)⟩, (Nat.le_of_ble_eq_true rfl), (Nat.le_of_ble_eq_true rfl)⟩ (Nat.le_of_ble_eq_true rfl) ⟨(Nat.le_of_ble_eq_true rfl), (Nat.le_of_ble_eq_true rfl)⟩ (fun _ _ hx => hx.elim) 9 rfl (fun v g1 h => ?_)
  obtain ⟨⟨rfl, h⟩, rfl⟩ := h
  refine sx_iload_n C dX6_setPaper_9 2 2 rfl rfl 10 rfl ?_
  refine sx_iconst C dX6_setPaper_10 1 (by decide) 11 rfl ?_
  refine sx_bipush C dX6_setPaper_11 6 (by decide) 13 rfl ?_
  refine sx_callS C ht hB (st := []) dX6_setPaper_13 (c0_X6_needValue hf h) mi_X6_needValue lk_X6_48 mt_X6_needValue rfl rfl ⟨⟨(Nat.le_of_ble_eq_true rfl), (Nat.le_of_ble_eq_true rfl)⟩, (Nat.le_of_ble_eq_true rfl), (Nat.le_of_ble_eq_true rfl)⟩ (Nat.le_of_ble_eq_true rfl) ⟨(Nat.le_of_ble_eq_true rfl), (Nat.le_of_ble_eq_true rfl)⟩ (fun _ _ hx => hx.elim) 16 rfl (fun v g2 h => ?_)
  obtain ⟨⟨rfl, h⟩, rfl⟩ := h
  refine sx_aload_n C dX6_setPaper_16 0 0 rfl rfl 17 rfl ?_
  refine sx_getq C (T := TX6) (C0 := RX6) (N := 7) (j := 2) dX6_setPaper_17 fl_X6_30 inw_X6 rfl (by decide) rfl (by decide) lyX_0 rfl 20 rfl ?_
  refine sx_getiN C (T := TX3) (C0 := RX3) (N := 11) (j := 1) dX6_setPaper_20 fln_X6_99 inw_X3 rfl (by decide) rfl (by decide) lyX_19 rfl 23 rfl ?_
  refine sx_topi (fun y3 ey3 => ?_)
  replace h := h y3 ey3
  refine sx_istore_n C dX6_setPaper_23 3 rfl [(3, .int y3), (0, .ref (b + 0)), (1, .int x1), (2, .int x2)] (by decide) rfl 24 rfl ?_
  refine sx_aload_n C dX6_setPaper_24 0 1 rfl rfl 25 rfl ?_
  refine sx_getq C (T := TX6) (C0 := RX6) (N := 7) (j := 2) dX6_setPaper_25 fl_X6_30 inw_X6 rfl (by decide) rfl (by decide) lyX_0 rfl 28 rfl ?_
  refine sx_iload_n C dX6_setPaper_28 1 2 rfl rfl 29 rfl ?_
  refine sx_putiN C (T := TX3) (C0 := RX3) (N := 11) (j := 1) dX6_setPaper_29 fln_X6_99 inw_X3 rfl tyX3 tyX3_ok nmX3 (by decide) rfl rfl rfl hB (by decide) lyX_19 rfl 32 rfl (fun g4 eg4 => ?_)
  replace h := h g4 eg4
  refine sx_aload_n C dX6_setPaper_32 0 1 rfl rfl 33 rfl ?_
  refine sx_getq C (T := TX6) (C0 := RX6) (N := 7) (j := 2) dX6_setPaper_33 fl_X6_30 inw_X6 rfl (by decide) rfl (by decide) lyX_0 rfl 36 rfl ?_
  refine sx_iload_n C dX6_setPaper_36 2 3 rfl rfl 37 rfl ?_
  refine sx_putiN C (T := TX3) (C0 := RX3) (N := 11) (j := 2) dX6_setPaper_37 fln_X6_102 inw_X3 rfl tyX3 tyX3_ok nmX3 (by decide) rfl rfl rfl hB (by decide) lyX_19 rfl 40 rfl (fun g5 eg5 => ?_)
  replace h := h g5 eg5
  refine sx_iload_n C dX6_setPaper_40 3 0 rfl rfl 41 rfl ?_
  exact sx_iret C dX6_setPaper_41 hr (Nat.le_of_ble_eq_true rfl) (Nat.le_of_ble_eq_true rfl) ⟨_, rfl, h⟩
set_option maxRecDepth 100000 in
set_option maxHeartbeats 4000000 in
theorem c0_X6_copy {l : Launch} {D : va_G} {G : sx_G} {b : Nat} (hf : l.stackTraces = false) {f : sx_F} {x1 : Int32} {Q : Int32 → sx_F → Prop}  (h : P_X6_copy f x1 Q (fun _ _ => False)) : sx_Met l D G b 129 lyX yX6_copy cX6_copy 2 (some .int) 7 111 0 0 [.ref (b + 0), .int x1] f (sx_qi Q) (fun _ _ => False) := by
  refine sx_enter (own := RX6) hf rfl rfl (Nat.le_of_ble_eq_true rfl) ?_
  intro p e s m args below meth c C hr ht
  have hB : ∀ k, k < 129 → sx_A b 129 s.heap.size (b + k) := fun k h => sx_A.in h
  unfold P_X6_copy at h
  refine sx_sub (lv' := [(0, .ref (b + 0)), (1, .int x1)]) [0, 1] rfl ?_
  refine sx_iload_n C dX6_copy_0 1 1 rfl rfl 1 rfl ?_
  refine sx_iconst C dX6_copy_1 5 (by decide) 2 rfl ?_
  refine sx_callS C ht hB (st := []) dX6_copy_2 (c0_X6_needIndex hf h) mi_X6_needIndex lk_X6_89 mt_X6_needIndex rfl rfl ⟨⟨(Nat.le_of_ble_eq_true rfl), (Nat.le_of_ble_eq_true rfl)⟩, (Nat.le_of_ble_eq_true rfl), (Nat.le_of_ble_eq_true rfl)⟩ (Nat.le_of_ble_eq_true rfl) ⟨(Nat.le_of_ble_eq_true rfl), (Nat.le_of_ble_eq_true rfl)⟩ (fun _ _ hx => hx.elim) 5 rfl (fun v g1 h => ?_)
  obtain ⟨⟨rfl, h⟩, rfl⟩ := h
  refine sx_aload_n C dX6_copy_5 0 0 rfl rfl 6 rfl ?_
  refine sx_geti C (T := TX6) (C0 := RX6) (N := 7) (j := 5) dX6_copy_6 fl_X6_105 inw_X6 rfl (by decide) rfl (by decide) lyX_0 rfl 9 rfl ?_
  refine sx_bipush C dX6_copy_9 16 (by decide) 11 rfl ?_
  refine sx_icmp_lt C dX6_copy_11 24 14 (by decide) rfl (fun c2 => ?_) (fun c2 => ?_)
  · replace h := h.1 c2
    refine sx_aload_n C dX6_copy_24 0 0 rfl rfl 25 rfl ?_
    refine sx_getq C (T := TX6) (C0 := RX6) (N := 7) (j := 3) dX6_copy_25 fl_X6_36 inw_X6 rfl (by decide) rfl (by decide) lyX_0 rfl 28 rfl ?_
    refine sx_aload_n C dX6_copy_28 0 0 rfl rfl 29 rfl ?_
    refine sx_geti C (T := TX6) (C0 := RX6) (N := 7) (j := 5) dX6_copy_29 fl_X6_105 inw_X6 rfl (by decide) rfl (by decide) lyX_0 rfl 32 rfl ?_
    have hn4 := h.1
    refine sx_aaldn C dX6_copy_32 (66 + 2 * (f 0 5).toNatClampNeg) (by decide) lyX_65 rfl rfl hn4 rfl 33 rfl (fun w3 ew3 => ?_)
    replace h := h.2 w3 ew3
    have hiw3 := isX1_of hn4 ew3
    refine sx_iload_n C dX6_copy_33 1 1 rfl rfl 34 rfl ?_
    refine sx_putiN C (T := TX1) (C0 := RX1) (N := 4) (j := 1) dX6_copy_34 fln_X6_110 inw_X1 rfl tyX1 tyX1_ok nmX1 (by decide) rfl rfl rfl hB (isX1_lt hiw3) (isX1_ly hiw3) rfl 37 rfl (fun g5 eg5 => ?_)
    replace h := h g5 eg5
    refine sx_aload_n C dX6_copy_37 0 0 rfl rfl 38 rfl ?_
    refine sx_dup C dX6_copy_38 rfl 39 rfl ?_
    refine sx_geti C (T := TX6) (C0 := RX6) (N := 7) (j := 5) dX6_copy_39 fl_X6_105 inw_X6 rfl (by decide) rfl (by decide) lyX_0 rfl 42 rfl ?_
    refine sx_iconst C dX6_copy_42 1 (by decide) 43 rfl ?_
    refine sx_iadd C dX6_copy_43 44 rfl ?_
    refine sx_puti C (T := TX6) (C0 := RX6) (N := 7) (j := 5) dX6_copy_44 fl_X6_105 inw_X6 rfl tyX6 tyX6_ok nmX6 (by decide) rfl rfl rfl hB (by decide) lyX_0 rfl 47 rfl (fun g6 eg6 => ?_)
    replace h := h g6 eg6
    refine sx_aload_n C dX6_copy_47 0 0 rfl rfl 48 rfl ?_
    refine sx_geti C (T := TX6) (C0 := RX6) (N := 7) (j := 5) dX6_copy_48 fl_X6_105 inw_X6 rfl (by decide) rfl (by decide) lyX_0 rfl 51 rfl ?_
    refine sx_iconst C dX6_copy_51 1 (by decide) 52 rfl ?_
    refine sx_isub C dX6_copy_52 53 rfl ?_
    exact sx_iret C dX6_copy_53 hr (Nat.le_of_ble_eq_true rfl) (Nat.le_of_ble_eq_true rfl) ⟨_, rfl, h⟩
  · replace h := h.2 c2
    exact False.elim h
set_option maxRecDepth 100000 in
set_option maxHeartbeats 4000000 in
theorem c0_X6_notes {l : Launch} {D : va_G} {G : sx_G} {b : Nat} (hf : l.stackTraces = false) {f : sx_F} {x1 : Int32} {x2 : Int32} {Q : Int32 → Prop}  (h : P_X6_notes f x1 x2 Q (fun _ => False)) : sx_Met l D G b 129 lyX yX6_notes cX6_notes 3 (some .int) 8 133 0 0 [.ref (b + 0), .int x1, .int x2] f (sx_pi f Q) (fun _ _ => False) := by
  refine sx_enter (own := RX6) hf rfl rfl (Nat.le_of_ble_eq_true rfl) ?_
  intro p e s m args below meth c C hr ht
  have hB : ∀ k, k < 129 → sx_A b 129 s.heap.size (b + k) := fun k h => sx_A.in h
  unfold P_X6_notes at h
  refine sx_sub (lv' := [(0, .ref (b + 0)), (1, .int x1), (2, .int x2)]) [0, 1, 2] rfl ?_
  refine sx_aload_n C dX6_notes_0 0 0 rfl rfl 1 rfl ?_
  refine sx_getq C (T := TX6) (C0 := RX6) (N := 7) (j := 0) dX6_notes_1 fl_X6_12 inw_X6 rfl (by decide) rfl (by decide) lyX_0 rfl 4 rfl ?_
  refine sx_getqN C (T := TX4) (C0 := RX4) (N := 7) (j := 4) dX6_notes_4 fln_X6_71 inw_X4 rfl (by decide) rfl (by decide) lyX_1 rfl 7 rfl ?_
  refine sx_aload_n C dX6_notes_7 0 0 rfl rfl 8 rfl ?_
  refine sx_iload_n C dX6_notes_8 1 1 rfl rfl 9 rfl ?_
  refine sx_iload_n C dX6_notes_9 2 2 rfl rfl 10 rfl ?_
  refine sx_callV C ht hB (st := [.ref (b + 5)]) dX6_notes_10 (c0_X6_needSlot hf h) mi_X6_needSlot lk_X6_67 mn_X6_needSlot ms_X6_needSlot (by decide) lyX_0 rfl rfl rfl rfl ⟨⟨(Nat.le_of_ble_eq_true rfl), (Nat.le_of_ble_eq_true rfl)⟩, (Nat.le_of_ble_eq_true rfl), (Nat.le_of_ble_eq_true rfl)⟩ (Nat.le_of_ble_eq_true rfl) ⟨(Nat.le_of_ble_eq_true rfl), (Nat.le_of_ble_eq_true rfl)⟩ (fun _ _ hx => hx.elim) 13 rfl (fun v g2 h => ?_)
  obtain ⟨⟨r1, rfl, h⟩, rfl⟩ := h
  refine sx_iald C dX6_notes_13 (by decide) lyX_5 h.1 14 rfl ?_
  replace h := h.2
  exact sx_iret C dX6_notes_14 hr (Nat.le_of_ble_eq_true rfl) (Nat.le_of_ble_eq_true rfl) ⟨⟨_, rfl, h⟩, rfl⟩
set_option maxRecDepth 100000 in
set_option maxHeartbeats 4000000 in
theorem c0_X6_noteAt {l : Launch} {D : va_G} {G : sx_G} {b : Nat} (hf : l.stackTraces = false) {f : sx_F} {x1 : Int32} {x2 : Int32} {x3 : Int32} {Q : Int32 → Prop}  (h : P_X6_noteAt f x1 x2 x3 Q (fun _ => False)) : sx_Met l D G b 129 lyX yX6_noteAt cX6_noteAt 5 (some .int) 8 133 0 0 [.ref (b + 0), .int x1, .int x2, .int x3] f (sx_pi f Q) (fun _ _ => False) := by
  refine sx_enter (own := RX6) hf rfl rfl (Nat.le_of_ble_eq_true rfl) ?_
  intro p e s m args below meth c C hr ht
  have hB : ∀ k, k < 129 → sx_A b 129 s.heap.size (b + k) := fun k h => sx_A.in h
  unfold P_X6_noteAt at h
  refine sx_sub (lv' := [(0, .ref (b + 0)), (1, .int x1), (2, .int x2), (3, .int x3)]) [0, 1, 2, 3] rfl ?_
  refine sx_aload_n C dX6_noteAt_0 0 0 rfl rfl 1 rfl ?_
  refine sx_iload_n C dX6_noteAt_1 1 1 rfl rfl 2 rfl ?_
  refine sx_iload_n C dX6_noteAt_2 2 2 rfl rfl 3 rfl ?_
  refine sx_callV C ht hB (st := []) dX6_noteAt_3 (c0_X6_needSlot hf h) mi_X6_needSlot lk_X6_67 mn_X6_needSlot ms_X6_needSlot (by decide) lyX_0 rfl rfl rfl rfl ⟨⟨(Nat.le_of_ble_eq_true rfl), (Nat.le_of_ble_eq_true rfl)⟩, (Nat.le_of_ble_eq_true rfl), (Nat.le_of_ble_eq_true rfl)⟩ (Nat.le_of_ble_eq_true rfl) ⟨(Nat.le_of_ble_eq_true rfl), (Nat.le_of_ble_eq_true rfl)⟩ (fun _ _ hx => hx.elim) 6 rfl (fun v g2 h => ?_)
  obtain ⟨⟨r1, rfl, h⟩, rfl⟩ := h
  refine sx_istore C dX6_noteAt_6 [(4, .int r1), (0, .ref (b + 0)), (1, .int x1), (2, .int x2), (3, .int x3)] (by decide) rfl 8 rfl ?_
  refine sx_iload_n C dX6_noteAt_8 3 4 rfl rfl 9 rfl ?_
  refine sx_aload_n C dX6_noteAt_9 0 1 rfl rfl 10 rfl ?_
  refine sx_getq C (T := TX6) (C0 := RX6) (N := 7) (j := 0) dX6_noteAt_10 fl_X6_12 inw_X6 rfl (by decide) rfl (by decide) lyX_0 rfl 13 rfl ?_
  refine sx_getqN C (T := TX4) (C0 := RX4) (N := 7) (j := 4) dX6_noteAt_13 fln_X6_71 inw_X4 rfl (by decide) rfl (by decide) lyX_1 rfl 16 rfl ?_
  refine sx_iload C dX6_noteAt_16 0 rfl 18 rfl ?_
  refine sx_iald C dX6_noteAt_18 (by decide) lyX_5 h.1 19 rfl ?_
  replace h := h.2
  refine sx_callS C ht hB (st := []) dX6_noteAt_19 (c0_X6_needIndex hf h) mi_X6_needIndex lk_X6_89 mt_X6_needIndex rfl rfl ⟨⟨(Nat.le_of_ble_eq_true rfl), (Nat.le_of_ble_eq_true rfl)⟩, (Nat.le_of_ble_eq_true rfl), (Nat.le_of_ble_eq_true rfl)⟩ (Nat.le_of_ble_eq_true rfl) ⟨(Nat.le_of_ble_eq_true rfl), (Nat.le_of_ble_eq_true rfl)⟩ (fun _ _ hx => hx.elim) 22 rfl (fun v g3 h => ?_)
  obtain ⟨⟨rfl, h⟩, rfl⟩ := h
  refine sx_bipush C dX6_noteAt_22 100 (by decide) 24 rfl ?_
  refine sx_aload_n C dX6_noteAt_24 0 1 rfl rfl 25 rfl ?_
  refine sx_getq C (T := TX6) (C0 := RX6) (N := 7) (j := 0) dX6_noteAt_25 fl_X6_12 inw_X6 rfl (by decide) rfl (by decide) lyX_0 rfl 28 rfl ?_
  refine sx_iload C dX6_noteAt_28 0 rfl 30 rfl ?_
  refine sx_iload_n C dX6_noteAt_30 3 4 rfl rfl 31 rfl ?_
  refine sx_callV C ht hB (st := [.int 100]) dX6_noteAt_31 (c_X4_lengthAt hf h) mi_X4_lengthAt lk_X6_179 mn_X4_lengthAt ms_X4_lengthAt (by decide) lyX_1 rfl rfl rfl rfl ⟨⟨(Nat.le_of_ble_eq_true rfl), (Nat.le_of_ble_eq_true rfl)⟩, (Nat.le_of_ble_eq_true rfl), (Nat.le_of_ble_eq_true rfl)⟩ (Nat.le_of_ble_eq_true rfl) ⟨(Nat.le_of_ble_eq_true rfl), (Nat.le_of_ble_eq_true rfl)⟩ (fun _ _ hx => hx.elim) 34 rfl (fun v g5 h => ?_)
  obtain ⟨⟨r4, rfl, h⟩, rfl⟩ := h
  refine sx_imul C dX6_noteAt_34 35 rfl ?_
  refine sx_aload_n C dX6_noteAt_35 0 1 rfl rfl 36 rfl ?_
  refine sx_getq C (T := TX6) (C0 := RX6) (N := 7) (j := 0) dX6_noteAt_36 fl_X6_12 inw_X6 rfl (by decide) rfl (by decide) lyX_0 rfl 39 rfl ?_
  refine sx_iload C dX6_noteAt_39 0 rfl 41 rfl ?_
  refine sx_iload_n C dX6_noteAt_41 3 4 rfl rfl 42 rfl ?_
  refine sx_callV C ht hB (st := [.int (100 * r4)]) dX6_noteAt_42 (c_X4_pitchAt hf h) mi_X4_pitchAt lk_X6_182 mn_X4_pitchAt ms_X4_pitchAt (by decide) lyX_1 rfl rfl rfl rfl ⟨⟨(Nat.le_of_ble_eq_true rfl), (Nat.le_of_ble_eq_true rfl)⟩, (Nat.le_of_ble_eq_true rfl), (Nat.le_of_ble_eq_true rfl)⟩ (Nat.le_of_ble_eq_true rfl) ⟨(Nat.le_of_ble_eq_true rfl), (Nat.le_of_ble_eq_true rfl)⟩ (fun _ _ hx => hx.elim) 45 rfl (fun v g7 h => ?_)
  obtain ⟨⟨r6, rfl, h⟩, rfl⟩ := h
  refine sx_iadd C dX6_noteAt_45 46 rfl ?_
  exact sx_iret C dX6_noteAt_46 hr (Nat.le_of_ble_eq_true rfl) (Nat.le_of_ble_eq_true rfl) ⟨⟨_, rfl, h⟩, rfl⟩
set_option maxRecDepth 100000 in
set_option maxHeartbeats 4000000 in
theorem c0_X6_version {l : Launch} {D : va_G} {G : sx_G} {b : Nat} (hf : l.stackTraces = false) {f : sx_F} {x1 : Int32} {x2 : Int32} {Q : Int32 → Prop}  (h : P_X6_version f x1 x2 Q (fun _ => False)) : sx_Met l D G b 129 lyX yX6_version cX6_version 3 (some .int) 8 133 0 0 [.ref (b + 0), .int x1, .int x2] f (sx_pi f Q) (fun _ _ => False) := by
  refine sx_enter (own := RX6) hf rfl rfl (Nat.le_of_ble_eq_true rfl) ?_
  intro p e s m args below meth c C hr ht
  have hB : ∀ k, k < 129 → sx_A b 129 s.heap.size (b + k) := fun k h => sx_A.in h
  unfold P_X6_version at h
  refine sx_sub (lv' := [(0, .ref (b + 0)), (1, .int x1), (2, .int x2)]) [0, 1, 2] rfl ?_
  refine sx_aload_n C dX6_version_0 0 0 rfl rfl 1 rfl ?_
  refine sx_getq C (T := TX6) (C0 := RX6) (N := 7) (j := 0) dX6_version_1 fl_X6_12 inw_X6 rfl (by decide) rfl (by decide) lyX_0 rfl 4 rfl ?_
  refine sx_getqN C (T := TX4) (C0 := RX4) (N := 7) (j := 3) dX6_version_4 fln_X6_162 inw_X4 rfl (by decide) rfl (by decide) lyX_1 rfl 7 rfl ?_
  refine sx_aload_n C dX6_version_7 0 0 rfl rfl 8 rfl ?_
  refine sx_iload_n C dX6_version_8 1 1 rfl rfl 9 rfl ?_
  refine sx_iload_n C dX6_version_9 2 2 rfl rfl 10 rfl ?_
  refine sx_callV C ht hB (st := [.ref (b + 4)]) dX6_version_10 (c0_X6_needSlot hf h) mi_X6_needSlot lk_X6_67 mn_X6_needSlot ms_X6_needSlot (by decide) lyX_0 rfl rfl rfl rfl ⟨⟨(Nat.le_of_ble_eq_true rfl), (Nat.le_of_ble_eq_true rfl)⟩, (Nat.le_of_ble_eq_true rfl), (Nat.le_of_ble_eq_true rfl)⟩ (Nat.le_of_ble_eq_true rfl) ⟨(Nat.le_of_ble_eq_true rfl), (Nat.le_of_ble_eq_true rfl)⟩ (fun _ _ hx => hx.elim) 13 rfl (fun v g2 h => ?_)
  obtain ⟨⟨r1, rfl, h⟩, rfl⟩ := h
  refine sx_iald C dX6_version_13 (by decide) lyX_4 h.1 14 rfl ?_
  replace h := h.2
  exact sx_iret C dX6_version_14 hr (Nat.le_of_ble_eq_true rfl) (Nat.le_of_ble_eq_true rfl) ⟨⟨_, rfl, h⟩, rfl⟩
set_option maxRecDepth 100000 in
set_option maxHeartbeats 4000000 in
theorem c0_X6_time {l : Launch} {D : va_G} {G : sx_G} {b : Nat} (hf : l.stackTraces = false) {f : sx_F} {x1 : Int32} {Q : Int32 → Prop}  (h : P_X6_time f x1 Q (fun _ => False)) : sx_Met l D G b 129 lyX yX6_time cX6_time 2 (some .int) 7 111 0 0 [.ref (b + 0), .int x1] f (sx_pi f Q) (fun _ _ => False) := by
  refine sx_enter (own := RX6) hf rfl rfl (Nat.le_of_ble_eq_true rfl) ?_
  intro p e s m args below meth c C hr ht
  have hB : ∀ k, k < 129 → sx_A b 129 s.heap.size (b + k) := fun k h => sx_A.in h
  unfold P_X6_time at h
  refine sx_sub (lv' := [(0, .ref (b + 0)), (1, .int x1)]) [0, 1] rfl ?_
  refine sx_iload_n C dX6_time_0 1 1 rfl rfl 1 rfl ?_
  refine sx_aload_n C dX6_time_1 0 0 rfl rfl 2 rfl ?_
  refine sx_getq C (T := TX6) (C0 := RX6) (N := 7) (j := 0) dX6_time_2 fl_X6_12 inw_X6 rfl (by decide) rfl (by decide) lyX_0 rfl 5 rfl ?_
  refine sx_getiN C (T := TX4) (C0 := RX4) (N := 7) (j := 0) dX6_time_5 fln_X6_52 inw_X4 rfl (by decide) rfl (by decide) lyX_1 rfl 8 rfl ?_
  refine sx_iconst C dX6_time_8 1 (by decide) 9 rfl ?_
  refine sx_iadd C dX6_time_9 10 rfl ?_
  refine sx_callS C ht hB (st := []) dX6_time_10 (c0_X6_needIndex hf h) mi_X6_needIndex lk_X6_89 mt_X6_needIndex rfl rfl ⟨⟨(Nat.le_of_ble_eq_true rfl), (Nat.le_of_ble_eq_true rfl)⟩, (Nat.le_of_ble_eq_true rfl), (Nat.le_of_ble_eq_true rfl)⟩ (Nat.le_of_ble_eq_true rfl) ⟨(Nat.le_of_ble_eq_true rfl), (Nat.le_of_ble_eq_true rfl)⟩ (fun _ _ hx => hx.elim) 13 rfl (fun v g1 h => ?_)
  obtain ⟨⟨rfl, h⟩, rfl⟩ := h
  refine sx_aload_n C dX6_time_13 0 0 rfl rfl 14 rfl ?_
  refine sx_getq C (T := TX6) (C0 := RX6) (N := 7) (j := 0) dX6_time_14 fl_X6_12 inw_X6 rfl (by decide) rfl (by decide) lyX_0 rfl 17 rfl ?_
  refine sx_getqN C (T := TX4) (C0 := RX4) (N := 7) (j := 2) dX6_time_17 fln_X6_185 inw_X4 rfl (by decide) rfl (by decide) lyX_1 rfl 20 rfl ?_
  refine sx_iload_n C dX6_time_20 1 1 rfl rfl 21 rfl ?_
  refine sx_iald C dX6_time_21 (by decide) lyX_3 h.1 22 rfl ?_
  replace h := h.2
  exact sx_iret C dX6_time_22 hr (Nat.le_of_ble_eq_true rfl) (Nat.le_of_ble_eq_true rfl) ⟨⟨_, rfl, h⟩, rfl⟩
set_option maxRecDepth 100000 in
set_option maxHeartbeats 4000000 in
theorem c0_X6_timeByBars {l : Launch} {D : va_G} {G : sx_G} {b : Nat} (hf : l.stackTraces = false) {f : sx_F} {x1 : Int32} {Q : Int32 → Prop}  (h : P_X6_timeByBars f x1 Q (fun _ => False)) : sx_Met l D G b 129 lyX yX6_timeByBars cX6_timeByBars 2 (some .int) 7 111 0 0 [.ref (b + 0), .int x1] f (sx_pi f Q) (fun _ _ => False) := by
  refine sx_enter (own := RX6) hf rfl rfl (Nat.le_of_ble_eq_true rfl) ?_
  intro p e s m args below meth c C hr ht
  have hB : ∀ k, k < 129 → sx_A b 129 s.heap.size (b + k) := fun k h => sx_A.in h
  unfold P_X6_timeByBars at h
  refine sx_sub (lv' := [(0, .ref (b + 0)), (1, .int x1)]) [0, 1] rfl ?_
  refine sx_iload_n C dX6_timeByBars_0 1 1 rfl rfl 1 rfl ?_
  refine sx_aload_n C dX6_timeByBars_1 0 0 rfl rfl 2 rfl ?_
  refine sx_getq C (T := TX6) (C0 := RX6) (N := 7) (j := 0) dX6_timeByBars_2 fl_X6_12 inw_X6 rfl (by decide) rfl (by decide) lyX_0 rfl 5 rfl ?_
  refine sx_getiN C (T := TX4) (C0 := RX4) (N := 7) (j := 0) dX6_timeByBars_5 fln_X6_52 inw_X4 rfl (by decide) rfl (by decide) lyX_1 rfl 8 rfl ?_
  refine sx_iconst C dX6_timeByBars_8 1 (by decide) 9 rfl ?_
  refine sx_iadd C dX6_timeByBars_9 10 rfl ?_
  refine sx_callS C ht hB (st := []) dX6_timeByBars_10 (c0_X6_needIndex hf h) mi_X6_needIndex lk_X6_89 mt_X6_needIndex rfl rfl ⟨⟨(Nat.le_of_ble_eq_true rfl), (Nat.le_of_ble_eq_true rfl)⟩, (Nat.le_of_ble_eq_true rfl), (Nat.le_of_ble_eq_true rfl)⟩ (Nat.le_of_ble_eq_true rfl) ⟨(Nat.le_of_ble_eq_true rfl), (Nat.le_of_ble_eq_true rfl)⟩ (fun _ _ hx => hx.elim) 13 rfl (fun v g1 h => ?_)
  obtain ⟨⟨rfl, h⟩, rfl⟩ := h
  refine sx_aload_n C dX6_timeByBars_13 0 0 rfl rfl 14 rfl ?_
  refine sx_getq C (T := TX6) (C0 := RX6) (N := 7) (j := 0) dX6_timeByBars_14 fl_X6_12 inw_X6 rfl (by decide) rfl (by decide) lyX_0 rfl 17 rfl ?_
  refine sx_iload_n C dX6_timeByBars_17 1 1 rfl rfl 18 rfl ?_
  refine sx_callV C ht hB (st := []) dX6_timeByBars_18 (c_X4_countTime hf h) mi_X4_countTime lk_X6_188 mn_X4_countTime ms_X4_countTime (by decide) lyX_1 rfl rfl rfl rfl ⟨⟨(Nat.le_of_ble_eq_true rfl), (Nat.le_of_ble_eq_true rfl)⟩, (Nat.le_of_ble_eq_true rfl), (Nat.le_of_ble_eq_true rfl)⟩ (Nat.le_of_ble_eq_true rfl) ⟨(Nat.le_of_ble_eq_true rfl), (Nat.le_of_ble_eq_true rfl)⟩ (fun _ _ hx => hx.elim) 21 rfl (fun v g3 h => ?_)
  obtain ⟨⟨r2, rfl, h⟩, rfl⟩ := h
  exact sx_iret C dX6_timeByBars_21 hr (Nat.le_of_ble_eq_true rfl) (Nat.le_of_ble_eq_true rfl) ⟨⟨_, rfl, h⟩, rfl⟩
set_option maxRecDepth 100000 in
set_option maxHeartbeats 4000000 in
theorem c0_X6_openBook {l : Launch} {D : va_G} {G : sx_G} {b : Nat} (hf : l.stackTraces = false) {f : sx_F} {x1 : Int32} {Q : sx_F → Prop}  (h : P_X6_openBook f x1 Q (fun _ _ => False)) : sx_Met l D G b 129 lyX yX6_openBook cX6_openBook 2 (none) 7 131 0 0 [.ref (b + 0), .int x1] f (sx_qv Q) (fun _ _ => False) := by
  refine sx_enter (own := RX6) hf rfl rfl (Nat.le_of_ble_eq_true rfl) ?_
  intro p e s m args below meth c C hr ht
  have hB : ∀ k, k < 129 → sx_A b 129 s.heap.size (b + k) := fun k h => sx_A.in h
  unfold P_X6_openBook at h
  refine sx_sub (lv' := [(0, .ref (b + 0)), (1, .int x1)]) [0, 1] rfl ?_
  refine sx_iload_n C dX6_openBook_0 1 1 rfl rfl 1 rfl ?_
  refine sx_bipush C dX6_openBook_1 6 (by decide) 3 rfl ?_
  refine sx_callS C ht hB (st := []) dX6_openBook_3 (c0_X6_needIndex hf h) mi_X6_needIndex lk_X6_89 mt_X6_needIndex rfl rfl ⟨⟨(Nat.le_of_ble_eq_true rfl), (Nat.le_of_ble_eq_true rfl)⟩, (Nat.le_of_ble_eq_true rfl), (Nat.le_of_ble_eq_true rfl)⟩ (Nat.le_of_ble_eq_true rfl) ⟨(Nat.le_of_ble_eq_true rfl), (Nat.le_of_ble_eq_true rfl)⟩ (fun _ _ hx => hx.elim) 6 rfl (fun v g1 h => ?_)
  obtain ⟨⟨rfl, h⟩, rfl⟩ := h
  refine sx_aload_n C dX6_openBook_6 0 0 rfl rfl 7 rfl ?_
  refine sx_getq C (T := TX6) (C0 := RX6) (N := 7) (j := 1) dX6_openBook_7 fl_X6_21 inw_X6 rfl (by decide) rfl (by decide) lyX_0 rfl 10 rfl ?_
  refine sx_iload_n C dX6_openBook_10 1 1 rfl rfl 11 rfl ?_
  refine sx_callV C ht hB (st := []) dX6_openBook_11 (c_X0_gather hf h) mi_X0_gather lk_X6_259 mn_X0_gather ms_X0_gather (by decide) lyX_8 rfl rfl rfl rfl ⟨⟨(Nat.le_of_ble_eq_true rfl), (Nat.le_of_ble_eq_true rfl)⟩, (Nat.le_of_ble_eq_true rfl), (Nat.le_of_ble_eq_true rfl)⟩ (Nat.le_of_ble_eq_true rfl) ⟨(Nat.le_of_ble_eq_true rfl), (Nat.le_of_ble_eq_true rfl)⟩ (fun _ _ hx => hx.elim) 14 rfl (fun v g2 h => ?_)
  obtain ⟨rfl, h⟩ := h
  exact sx_vret C dX6_openBook_14 hr (Nat.le_of_ble_eq_true rfl) (Nat.le_of_ble_eq_true rfl) ⟨rfl, h⟩
set_option maxRecDepth 100000 in
set_option maxHeartbeats 4000000 in
theorem c0_X6_items {l : Launch} {D : va_G} {G : sx_G} {b : Nat} (hf : l.stackTraces = false) {f : sx_F} {x1 : Int32} {Q : Int32 → sx_F → Prop}  (h : P_X6_items f x1 Q (fun _ _ => False)) : sx_Met l D G b 129 lyX yX6_items cX6_items 2 (some .int) 8 152 0 0 [.ref (b + 0), .int x1] f (sx_qi Q) (fun _ _ => False) := by
  refine sx_enter (own := RX6) hf rfl rfl (Nat.le_of_ble_eq_true rfl) ?_
  intro p e s m args below meth c C hr ht
  have hB : ∀ k, k < 129 → sx_A b 129 s.heap.size (b + k) := fun k h => sx_A.in h
  unfold P_X6_items at h
  refine sx_sub (lv' := [(0, .ref (b + 0)), (1, .int x1)]) [0, 1] rfl ?_
  refine sx_aload_n C dX6_items_0 0 0 rfl rfl 1 rfl ?_
  refine sx_iload_n C dX6_items_1 1 1 rfl rfl 2 rfl ?_
  refine sx_callV C ht hB (st := []) dX6_items_2 (c0_X6_openBook hf h) mi_X6_openBook lk_X6_191 mn_X6_openBook ms_X6_openBook (by decide) lyX_0 rfl rfl rfl rfl ⟨⟨(Nat.le_of_ble_eq_true rfl), (Nat.le_of_ble_eq_true rfl)⟩, (Nat.le_of_ble_eq_true rfl), (Nat.le_of_ble_eq_true rfl)⟩ (Nat.le_of_ble_eq_true rfl) ⟨(Nat.le_of_ble_eq_true rfl), (Nat.le_of_ble_eq_true rfl)⟩ (fun _ _ hx => hx.elim) 5 rfl (fun v g1 h => ?_)
  obtain ⟨rfl, h⟩ := h
  refine sx_aload_n C dX6_items_5 0 0 rfl rfl 6 rfl ?_
  refine sx_getq C (T := TX6) (C0 := RX6) (N := 7) (j := 1) dX6_items_6 fl_X6_21 inw_X6 rfl (by decide) rfl (by decide) lyX_0 rfl 9 rfl ?_
  refine sx_getiN C (T := TX0) (C0 := RX0) (N := 9) (j := 3) dX6_items_9 fln_X6_195 inw_X0 rfl (by decide) rfl (by decide) lyX_8 rfl 12 rfl ?_
  exact sx_iret C dX6_items_12 hr (Nat.le_of_ble_eq_true rfl) (Nat.le_of_ble_eq_true rfl) ⟨_, rfl, h⟩
set_option maxRecDepth 100000 in
set_option maxHeartbeats 4000000 in
theorem c0_X6_itemOf {l : Launch} {D : va_G} {G : sx_G} {b : Nat} (hf : l.stackTraces = false) {f : sx_F} {x1 : Int32} {x2 : Int32} {Q : Int32 → sx_F → Prop}  (h : P_X6_itemOf f x1 x2 Q (fun _ _ => False)) : sx_Met l D G b 129 lyX yX6_itemOf cX6_itemOf 3 (some .int) 8 152 0 0 [.ref (b + 0), .int x1, .int x2] f (sx_qi Q) (fun _ _ => False) := by
  refine sx_enter (own := RX6) hf rfl rfl (Nat.le_of_ble_eq_true rfl) ?_
  intro p e s m args below meth c C hr ht
  have hB : ∀ k, k < 129 → sx_A b 129 s.heap.size (b + k) := fun k h => sx_A.in h
  unfold P_X6_itemOf at h
  refine sx_sub (lv' := [(0, .ref (b + 0)), (1, .int x1), (2, .int x2)]) [0, 1, 2] rfl ?_
  refine sx_aload_n C dX6_itemOf_0 0 0 rfl rfl 1 rfl ?_
  refine sx_iload_n C dX6_itemOf_1 1 1 rfl rfl 2 rfl ?_
  refine sx_callV C ht hB (st := []) dX6_itemOf_2 (c0_X6_openBook hf h) mi_X6_openBook lk_X6_191 mn_X6_openBook ms_X6_openBook (by decide) lyX_0 rfl rfl rfl rfl ⟨⟨(Nat.le_of_ble_eq_true rfl), (Nat.le_of_ble_eq_true rfl)⟩, (Nat.le_of_ble_eq_true rfl), (Nat.le_of_ble_eq_true rfl)⟩ (Nat.le_of_ble_eq_true rfl) ⟨(Nat.le_of_ble_eq_true rfl), (Nat.le_of_ble_eq_true rfl)⟩ (fun _ _ hx => hx.elim) 5 rfl (fun v g1 h => ?_)
  obtain ⟨rfl, h⟩ := h
  refine sx_iload_n C dX6_itemOf_5 2 2 rfl rfl 6 rfl ?_
  refine sx_aload_n C dX6_itemOf_6 0 0 rfl rfl 7 rfl ?_
  refine sx_getq C (T := TX6) (C0 := RX6) (N := 7) (j := 0) dX6_itemOf_7 fl_X6_12 inw_X6 rfl (by decide) rfl (by decide) lyX_0 rfl 10 rfl ?_
  refine sx_getiN C (T := TX4) (C0 := RX4) (N := 7) (j := 0) dX6_itemOf_10 fln_X6_52 inw_X4 rfl (by decide) rfl (by decide) lyX_1 rfl 13 rfl ?_
  refine sx_callS C ht hB (st := []) dX6_itemOf_13 (c0_X6_needIndex hf h) mi_X6_needIndex lk_X6_89 mt_X6_needIndex rfl rfl ⟨⟨(Nat.le_of_ble_eq_true rfl), (Nat.le_of_ble_eq_true rfl)⟩, (Nat.le_of_ble_eq_true rfl), (Nat.le_of_ble_eq_true rfl)⟩ (Nat.le_of_ble_eq_true rfl) ⟨(Nat.le_of_ble_eq_true rfl), (Nat.le_of_ble_eq_true rfl)⟩ (fun _ _ hx => hx.elim) 16 rfl (fun v g2 h => ?_)
  obtain ⟨⟨rfl, h⟩, rfl⟩ := h
  refine sx_aload_n C dX6_itemOf_16 0 0 rfl rfl 17 rfl ?_
  refine sx_getq C (T := TX6) (C0 := RX6) (N := 7) (j := 1) dX6_itemOf_17 fl_X6_21 inw_X6 rfl (by decide) rfl (by decide) lyX_0 rfl 20 rfl ?_
  refine sx_getqN C (T := TX0) (C0 := RX0) (N := 9) (j := 5) dX6_itemOf_20 fln_X6_198 inw_X0 rfl (by decide) rfl (by decide) lyX_8 rfl 23 rfl ?_
  refine sx_iload_n C dX6_itemOf_23 2 2 rfl rfl 24 rfl ?_
  refine sx_iald C dX6_itemOf_24 (by decide) lyX_15 h.1 25 rfl ?_
  replace h := h.2
  exact sx_iret C dX6_itemOf_25 hr (Nat.le_of_ble_eq_true rfl) (Nat.le_of_ble_eq_true rfl) ⟨_, rfl, h⟩
set_option maxRecDepth 100000 in
set_option maxHeartbeats 4000000 in
theorem c0_X6_cue {l : Launch} {D : va_G} {G : sx_G} {b : Nat} (hf : l.stackTraces = false) {f : sx_F} {x1 : Int32} {x2 : Int32} {Q : Int32 → Prop}  (h : P_X6_cue f x1 x2 Q (fun _ => False)) : sx_Met l D G b 129 lyX yX6_cue cX6_cue 3 (some .int) 8 133 0 0 [.ref (b + 0), .int x1, .int x2] f (sx_pi f Q) (fun _ _ => False) := by
  refine sx_enter (own := RX6) hf rfl rfl (Nat.le_of_ble_eq_true rfl) ?_
  intro p e s m args below meth c C hr ht
  have hB : ∀ k, k < 129 → sx_A b 129 s.heap.size (b + k) := fun k h => sx_A.in h
  unfold P_X6_cue at h
  refine sx_sub (lv' := [(0, .ref (b + 0)), (1, .int x1), (2, .int x2)]) [0, 1, 2] rfl ?_
  refine sx_aload_n C dX6_cue_0 0 0 rfl rfl 1 rfl ?_
  refine sx_iload_n C dX6_cue_1 1 1 rfl rfl 2 rfl ?_
  refine sx_iload_n C dX6_cue_2 2 2 rfl rfl 3 rfl ?_
  refine sx_callV C ht hB (st := []) dX6_cue_3 (c0_X6_needSlot hf h) mi_X6_needSlot lk_X6_67 mn_X6_needSlot ms_X6_needSlot (by decide) lyX_0 rfl rfl rfl rfl ⟨⟨(Nat.le_of_ble_eq_true rfl), (Nat.le_of_ble_eq_true rfl)⟩, (Nat.le_of_ble_eq_true rfl), (Nat.le_of_ble_eq_true rfl)⟩ (Nat.le_of_ble_eq_true rfl) ⟨(Nat.le_of_ble_eq_true rfl), (Nat.le_of_ble_eq_true rfl)⟩ (fun _ _ hx => hx.elim) 6 rfl (fun v g2 h => ?_)
  obtain ⟨⟨r1, rfl, h⟩, rfl⟩ := h
  refine sx_pop C dX6_cue_6 rfl 7 rfl ?_
  refine sx_aload_n C dX6_cue_7 0 0 rfl rfl 8 rfl ?_
  refine sx_getq C (T := TX6) (C0 := RX6) (N := 7) (j := 0) dX6_cue_8 fl_X6_12 inw_X6 rfl (by decide) rfl (by decide) lyX_0 rfl 11 rfl ?_
  refine sx_iload_n C dX6_cue_11 1 1 rfl rfl 12 rfl ?_
  refine sx_iload_n C dX6_cue_12 2 2 rfl rfl 13 rfl ?_
  refine sx_callV C ht hB (st := []) dX6_cue_13 (c_X4_cuePlayer hf h) mi_X4_cuePlayer lk_X6_201 mn_X4_cuePlayer ms_X4_cuePlayer (by decide) lyX_1 rfl rfl rfl rfl ⟨⟨(Nat.le_of_ble_eq_true rfl), (Nat.le_of_ble_eq_true rfl)⟩, (Nat.le_of_ble_eq_true rfl), (Nat.le_of_ble_eq_true rfl)⟩ (Nat.le_of_ble_eq_true rfl) ⟨(Nat.le_of_ble_eq_true rfl), (Nat.le_of_ble_eq_true rfl)⟩ (fun _ _ hx => hx.elim) 16 rfl (fun v g4 h => ?_)
  obtain ⟨⟨r3, rfl, h⟩, rfl⟩ := h
  exact sx_iret C dX6_cue_16 hr (Nat.le_of_ble_eq_true rfl) (Nat.le_of_ble_eq_true rfl) ⟨⟨_, rfl, h⟩, rfl⟩
set_option maxRecDepth 100000 in
set_option maxHeartbeats 4000000 in
theorem c0_X6_width {l : Launch} {D : va_G} {G : sx_G} {b : Nat} (hf : l.stackTraces = false) {f : sx_F} {x1 : Int32} {x2 : Int32} {Q : Int32 → sx_F → Prop}  (h : P_X6_width f x1 x2 Q (fun _ _ => False)) : sx_Met l D G b 129 lyX yX6_width cX6_width 3 (some .int) 8 152 0 0 [.ref (b + 0), .int x1, .int x2] f (sx_qi Q) (fun _ _ => False) := by
  refine sx_enter (own := RX6) hf rfl rfl (Nat.le_of_ble_eq_true rfl) ?_
  intro p e s m args below meth c C hr ht
  have hB : ∀ k, k < 129 → sx_A b 129 s.heap.size (b + k) := fun k h => sx_A.in h
  unfold P_X6_width at h
  refine sx_sub (lv' := [(0, .ref (b + 0)), (1, .int x1), (2, .int x2)]) [0, 1, 2] rfl ?_
  refine sx_aload_n C dX6_width_0 0 0 rfl rfl 1 rfl ?_
  refine sx_iload_n C dX6_width_1 1 1 rfl rfl 2 rfl ?_
  refine sx_callV C ht hB (st := []) dX6_width_2 (c0_X6_openBook hf h) mi_X6_openBook lk_X6_191 mn_X6_openBook ms_X6_openBook (by decide) lyX_0 rfl rfl rfl rfl ⟨⟨(Nat.le_of_ble_eq_true rfl), (Nat.le_of_ble_eq_true rfl)⟩, (Nat.le_of_ble_eq_true rfl), (Nat.le_of_ble_eq_true rfl)⟩ (Nat.le_of_ble_eq_true rfl) ⟨(Nat.le_of_ble_eq_true rfl), (Nat.le_of_ble_eq_true rfl)⟩ (fun _ _ hx => hx.elim) 5 rfl (fun v g1 h => ?_)
  obtain ⟨rfl, h⟩ := h
  refine sx_iload_n C dX6_width_5 2 2 rfl rfl 6 rfl ?_
  refine sx_aload_n C dX6_width_6 0 0 rfl rfl 7 rfl ?_
  refine sx_getq C (T := TX6) (C0 := RX6) (N := 7) (j := 1) dX6_width_7 fl_X6_21 inw_X6 rfl (by decide) rfl (by decide) lyX_0 rfl 10 rfl ?_
  refine sx_getiN C (T := TX0) (C0 := RX0) (N := 9) (j := 3) dX6_width_10 fln_X6_195 inw_X0 rfl (by decide) rfl (by decide) lyX_8 rfl 13 rfl ?_
  refine sx_callS C ht hB (st := []) dX6_width_13 (c0_X6_needIndex hf h) mi_X6_needIndex lk_X6_89 mt_X6_needIndex rfl rfl ⟨⟨(Nat.le_of_ble_eq_true rfl), (Nat.le_of_ble_eq_true rfl)⟩, (Nat.le_of_ble_eq_true rfl), (Nat.le_of_ble_eq_true rfl)⟩ (Nat.le_of_ble_eq_true rfl) ⟨(Nat.le_of_ble_eq_true rfl), (Nat.le_of_ble_eq_true rfl)⟩ (fun _ _ hx => hx.elim) 16 rfl (fun v g2 h => ?_)
  obtain ⟨⟨rfl, h⟩, rfl⟩ := h
  refine sx_aload_n C dX6_width_16 0 0 rfl rfl 17 rfl ?_
  refine sx_getq C (T := TX6) (C0 := RX6) (N := 7) (j := 1) dX6_width_17 fl_X6_21 inw_X6 rfl (by decide) rfl (by decide) lyX_0 rfl 20 rfl ?_
  refine sx_iload_n C dX6_width_20 2 2 rfl rfl 21 rfl ?_
  refine sx_iload_n C dX6_width_21 2 2 rfl rfl 22 rfl ?_
  refine sx_iconst C dX6_width_22 1 (by decide) 23 rfl ?_
  refine sx_iadd C dX6_width_23 24 rfl ?_
  refine sx_callV C ht hB (st := []) dX6_width_24 (c_X0_widthOf hf h) mi_X0_widthOf lk_X6_204 mn_X0_widthOf ms_X0_widthOf (by decide) lyX_8 rfl rfl rfl rfl ⟨⟨(Nat.le_of_ble_eq_true rfl), (Nat.le_of_ble_eq_true rfl)⟩, (Nat.le_of_ble_eq_true rfl), (Nat.le_of_ble_eq_true rfl)⟩ (Nat.le_of_ble_eq_true rfl) ⟨(Nat.le_of_ble_eq_true rfl), (Nat.le_of_ble_eq_true rfl)⟩ (fun _ _ hx => hx.elim) 27 rfl (fun v g4 h => ?_)
  obtain ⟨⟨r3, rfl, h⟩, rfl⟩ := h
  exact sx_iret C dX6_width_27 hr (Nat.le_of_ble_eq_true rfl) (Nat.le_of_ble_eq_true rfl) ⟨_, rfl, h⟩
set_option maxRecDepth 100000 in
set_option maxHeartbeats 4000000 in
theorem c0_X6_breakBook {l : Launch} {D : va_G} {G : sx_G} {b : Nat} (hf : l.stackTraces = false) {f : sx_F} {x1 : Int32} {Q : sx_F → Prop}  (h : P_X6_breakBook f x1 Q (fun _ _ => False)) : sx_Met l D G b 129 lyX yX6_breakBook cX6_breakBook 2 (none) 7 131 0 0 [.ref (b + 0), .int x1] f (sx_qv Q) (fun _ _ => False) := by
  refine sx_enter (own := RX6) hf rfl rfl (Nat.le_of_ble_eq_true rfl) ?_
  intro p e s m args below meth c C hr ht
  have hB : ∀ k, k < 129 → sx_A b 129 s.heap.size (b + k) := fun k h => sx_A.in h
  unfold P_X6_breakBook at h
  refine sx_sub (lv' := [(0, .ref (b + 0)), (1, .int x1)]) [0, 1] rfl ?_
  refine sx_iload_n C dX6_breakBook_0 1 1 rfl rfl 1 rfl ?_
  refine sx_bipush C dX6_breakBook_1 6 (by decide) 3 rfl ?_
  refine sx_callS C ht hB (st := []) dX6_breakBook_3 (c0_X6_needIndex hf h) mi_X6_needIndex lk_X6_89 mt_X6_needIndex rfl rfl ⟨⟨(Nat.le_of_ble_eq_true rfl), (Nat.le_of_ble_eq_true rfl)⟩, (Nat.le_of_ble_eq_true rfl), (Nat.le_of_ble_eq_true rfl)⟩ (Nat.le_of_ble_eq_true rfl) ⟨(Nat.le_of_ble_eq_true rfl), (Nat.le_of_ble_eq_true rfl)⟩ (fun _ _ hx => hx.elim) 6 rfl (fun v g1 h => ?_)
  obtain ⟨⟨rfl, h⟩, rfl⟩ := h
  refine sx_aload_n C dX6_breakBook_6 0 0 rfl rfl 7 rfl ?_
  refine sx_getq C (T := TX6) (C0 := RX6) (N := 7) (j := 1) dX6_breakBook_7 fl_X6_21 inw_X6 rfl (by decide) rfl (by decide) lyX_0 rfl 10 rfl ?_
  refine sx_iload_n C dX6_breakBook_10 1 1 rfl rfl 11 rfl ?_
  refine sx_callV C ht hB (st := []) dX6_breakBook_11 (c_X0_gather hf h) mi_X0_gather lk_X6_259 mn_X0_gather ms_X0_gather (by decide) lyX_8 rfl rfl rfl rfl ⟨⟨(Nat.le_of_ble_eq_true rfl), (Nat.le_of_ble_eq_true rfl)⟩, (Nat.le_of_ble_eq_true rfl), (Nat.le_of_ble_eq_true rfl)⟩ (Nat.le_of_ble_eq_true rfl) ⟨(Nat.le_of_ble_eq_true rfl), (Nat.le_of_ble_eq_true rfl)⟩ (fun _ _ hx => hx.elim) 14 rfl (fun v g2 h => ?_)
  obtain ⟨rfl, h⟩ := h
  refine sx_aload_n C dX6_breakBook_14 0 0 rfl rfl 15 rfl ?_
  refine sx_getq C (T := TX6) (C0 := RX6) (N := 7) (j := 2) dX6_breakBook_15 fl_X6_30 inw_X6 rfl (by decide) rfl (by decide) lyX_0 rfl 18 rfl ?_
  refine sx_callV C ht hB (st := []) dX6_breakBook_18 (c_X3_breakLines hf h) mi_X3_breakLines lk_X6_262 mn_X3_breakLines ms_X3_breakLines (by decide) lyX_19 rfl rfl rfl rfl ⟨⟨(Nat.le_of_ble_eq_true rfl), (Nat.le_of_ble_eq_true rfl)⟩, (Nat.le_of_ble_eq_true rfl), (Nat.le_of_ble_eq_true rfl)⟩ (Nat.le_of_ble_eq_true rfl) ⟨(Nat.le_of_ble_eq_true rfl), (Nat.le_of_ble_eq_true rfl)⟩ (fun _ _ hx => hx.elim) 21 rfl (fun v g3 h => ?_)
  obtain ⟨rfl, h⟩ := h
  exact sx_vret C dX6_breakBook_21 hr (Nat.le_of_ble_eq_true rfl) (Nat.le_of_ble_eq_true rfl) ⟨rfl, h⟩
set_option maxRecDepth 100000 in
set_option maxHeartbeats 4000000 in
theorem c0_X6_lines {l : Launch} {D : va_G} {G : sx_G} {b : Nat} (hf : l.stackTraces = false) {f : sx_F} {x1 : Int32} {Q : Int32 → sx_F → Prop}  (h : P_X6_lines f x1 Q (fun _ _ => False)) : sx_Met l D G b 129 lyX yX6_lines cX6_lines 2 (some .int) 8 152 0 0 [.ref (b + 0), .int x1] f (sx_qi Q) (fun _ _ => False) := by
  refine sx_enter (own := RX6) hf rfl rfl (Nat.le_of_ble_eq_true rfl) ?_
  intro p e s m args below meth c C hr ht
  have hB : ∀ k, k < 129 → sx_A b 129 s.heap.size (b + k) := fun k h => sx_A.in h
  unfold P_X6_lines at h
  refine sx_sub (lv' := [(0, .ref (b + 0)), (1, .int x1)]) [0, 1] rfl ?_
  refine sx_aload_n C dX6_lines_0 0 0 rfl rfl 1 rfl ?_
  refine sx_iload_n C dX6_lines_1 1 1 rfl rfl 2 rfl ?_
  refine sx_callV C ht hB (st := []) dX6_lines_2 (c0_X6_breakBook hf h) mi_X6_breakBook lk_X6_207 mn_X6_breakBook ms_X6_breakBook (by decide) lyX_0 rfl rfl rfl rfl ⟨⟨(Nat.le_of_ble_eq_true rfl), (Nat.le_of_ble_eq_true rfl)⟩, (Nat.le_of_ble_eq_true rfl), (Nat.le_of_ble_eq_true rfl)⟩ (Nat.le_of_ble_eq_true rfl) ⟨(Nat.le_of_ble_eq_true rfl), (Nat.le_of_ble_eq_true rfl)⟩ (fun _ _ hx => hx.elim) 5 rfl (fun v g1 h => ?_)
  obtain ⟨rfl, h⟩ := h
  refine sx_aload_n C dX6_lines_5 0 0 rfl rfl 6 rfl ?_
  refine sx_getq C (T := TX6) (C0 := RX6) (N := 7) (j := 2) dX6_lines_6 fl_X6_30 inw_X6 rfl (by decide) rfl (by decide) lyX_0 rfl 9 rfl ?_
  refine sx_getiN C (T := TX3) (C0 := RX3) (N := 11) (j := 7) dX6_lines_9 fln_X6_210 inw_X3 rfl (by decide) rfl (by decide) lyX_19 rfl 12 rfl ?_
  exact sx_iret C dX6_lines_12 hr (Nat.le_of_ble_eq_true rfl) (Nat.le_of_ble_eq_true rfl) ⟨_, rfl, h⟩
set_option maxRecDepth 100000 in
set_option maxHeartbeats 4000000 in
theorem c0_X6_lineOf {l : Launch} {D : va_G} {G : sx_G} {b : Nat} (hf : l.stackTraces = false) {f : sx_F} {x1 : Int32} {x2 : Int32} {Q : Int32 → sx_F → Prop}  (h : P_X6_lineOf f x1 x2 Q (fun _ _ => False)) : sx_Met l D G b 129 lyX yX6_lineOf cX6_lineOf 3 (some .int) 8 152 0 0 [.ref (b + 0), .int x1, .int x2] f (sx_qi Q) (fun _ _ => False) := by
  refine sx_enter (own := RX6) hf rfl rfl (Nat.le_of_ble_eq_true rfl) ?_
  intro p e s m args below meth c C hr ht
  have hB : ∀ k, k < 129 → sx_A b 129 s.heap.size (b + k) := fun k h => sx_A.in h
  unfold P_X6_lineOf at h
  refine sx_sub (lv' := [(0, .ref (b + 0)), (1, .int x1), (2, .int x2)]) [0, 1, 2] rfl ?_
  refine sx_aload_n C dX6_lineOf_0 0 0 rfl rfl 1 rfl ?_
  refine sx_iload_n C dX6_lineOf_1 1 1 rfl rfl 2 rfl ?_
  refine sx_callV C ht hB (st := []) dX6_lineOf_2 (c0_X6_breakBook hf h) mi_X6_breakBook lk_X6_207 mn_X6_breakBook ms_X6_breakBook (by decide) lyX_0 rfl rfl rfl rfl ⟨⟨(Nat.le_of_ble_eq_true rfl), (Nat.le_of_ble_eq_true rfl)⟩, (Nat.le_of_ble_eq_true rfl), (Nat.le_of_ble_eq_true rfl)⟩ (Nat.le_of_ble_eq_true rfl) ⟨(Nat.le_of_ble_eq_true rfl), (Nat.le_of_ble_eq_true rfl)⟩ (fun _ _ hx => hx.elim) 5 rfl (fun v g1 h => ?_)
  obtain ⟨rfl, h⟩ := h
  refine sx_iload_n C dX6_lineOf_5 2 2 rfl rfl 6 rfl ?_
  refine sx_aload_n C dX6_lineOf_6 0 0 rfl rfl 7 rfl ?_
  refine sx_getq C (T := TX6) (C0 := RX6) (N := 7) (j := 0) dX6_lineOf_7 fl_X6_12 inw_X6 rfl (by decide) rfl (by decide) lyX_0 rfl 10 rfl ?_
  refine sx_getiN C (T := TX4) (C0 := RX4) (N := 7) (j := 0) dX6_lineOf_10 fln_X6_52 inw_X4 rfl (by decide) rfl (by decide) lyX_1 rfl 13 rfl ?_
  refine sx_callS C ht hB (st := []) dX6_lineOf_13 (c0_X6_needIndex hf h) mi_X6_needIndex lk_X6_89 mt_X6_needIndex rfl rfl ⟨⟨(Nat.le_of_ble_eq_true rfl), (Nat.le_of_ble_eq_true rfl)⟩, (Nat.le_of_ble_eq_true rfl), (Nat.le_of_ble_eq_true rfl)⟩ (Nat.le_of_ble_eq_true rfl) ⟨(Nat.le_of_ble_eq_true rfl), (Nat.le_of_ble_eq_true rfl)⟩ (fun _ _ hx => hx.elim) 16 rfl (fun v g2 h => ?_)
  obtain ⟨⟨rfl, h⟩, rfl⟩ := h
  refine sx_aload_n C dX6_lineOf_16 0 0 rfl rfl 17 rfl ?_
  refine sx_getq C (T := TX6) (C0 := RX6) (N := 7) (j := 2) dX6_lineOf_17 fl_X6_30 inw_X6 rfl (by decide) rfl (by decide) lyX_0 rfl 20 rfl ?_
  refine sx_getqN C (T := TX3) (C0 := RX3) (N := 11) (j := 10) dX6_lineOf_20 fln_X6_213 inw_X3 rfl (by decide) rfl (by decide) lyX_19 rfl 23 rfl ?_
  refine sx_aload_n C dX6_lineOf_23 0 0 rfl rfl 24 rfl ?_
  refine sx_getq C (T := TX6) (C0 := RX6) (N := 7) (j := 1) dX6_lineOf_24 fl_X6_21 inw_X6 rfl (by decide) rfl (by decide) lyX_0 rfl 27 rfl ?_
  refine sx_getqN C (T := TX0) (C0 := RX0) (N := 9) (j := 5) dX6_lineOf_27 fln_X6_198 inw_X0 rfl (by decide) rfl (by decide) lyX_8 rfl 30 rfl ?_
  refine sx_iload_n C dX6_lineOf_30 2 2 rfl rfl 31 rfl ?_
  refine sx_iald C dX6_lineOf_31 (by decide) lyX_15 h.1 32 rfl ?_
  replace h := h.2
  refine sx_iald C dX6_lineOf_32 (by decide) lyX_64 h.1 33 rfl ?_
  replace h := h.2
  exact sx_iret C dX6_lineOf_33 hr (Nat.le_of_ble_eq_true rfl) (Nat.le_of_ble_eq_true rfl) ⟨_, rfl, h⟩
set_option maxRecDepth 100000 in
set_option maxHeartbeats 4000000 in
theorem c0_X6_cost {l : Launch} {D : va_G} {G : sx_G} {b : Nat} (hf : l.stackTraces = false) {f : sx_F} {x1 : Int32} {Q : Int32 → sx_F → Prop}  (h : P_X6_cost f x1 Q (fun _ _ => False)) : sx_Met l D G b 129 lyX yX6_cost cX6_cost 2 (some .int) 8 152 0 0 [.ref (b + 0), .int x1] f (sx_qi Q) (fun _ _ => False) := by
  refine sx_enter (own := RX6) hf rfl rfl (Nat.le_of_ble_eq_true rfl) ?_
  intro p e s m args below meth c C hr ht
  have hB : ∀ k, k < 129 → sx_A b 129 s.heap.size (b + k) := fun k h => sx_A.in h
  unfold P_X6_cost at h
  refine sx_sub (lv' := [(0, .ref (b + 0)), (1, .int x1)]) [0, 1] rfl ?_
  refine sx_aload_n C dX6_cost_0 0 0 rfl rfl 1 rfl ?_
  refine sx_iload_n C dX6_cost_1 1 1 rfl rfl 2 rfl ?_
  refine sx_callV C ht hB (st := []) dX6_cost_2 (c0_X6_breakBook hf h) mi_X6_breakBook lk_X6_207 mn_X6_breakBook ms_X6_breakBook (by decide) lyX_0 rfl rfl rfl rfl ⟨⟨(Nat.le_of_ble_eq_true rfl), (Nat.le_of_ble_eq_true rfl)⟩, (Nat.le_of_ble_eq_true rfl), (Nat.le_of_ble_eq_true rfl)⟩ (Nat.le_of_ble_eq_true rfl) ⟨(Nat.le_of_ble_eq_true rfl), (Nat.le_of_ble_eq_true rfl)⟩ (fun _ _ hx => hx.elim) 5 rfl (fun v g1 h => ?_)
  obtain ⟨rfl, h⟩ := h
  refine sx_aload_n C dX6_cost_5 0 0 rfl rfl 6 rfl ?_
  refine sx_getq C (T := TX6) (C0 := RX6) (N := 7) (j := 2) dX6_cost_6 fl_X6_30 inw_X6 rfl (by decide) rfl (by decide) lyX_0 rfl 9 rfl ?_
  refine sx_callV C ht hB (st := []) dX6_cost_9 (c_X3_leastCost hf h) mi_X3_leastCost lk_X6_216 mn_X3_leastCost ms_X3_leastCost (by decide) lyX_19 rfl rfl rfl rfl ⟨⟨(Nat.le_of_ble_eq_true rfl), (Nat.le_of_ble_eq_true rfl)⟩, (Nat.le_of_ble_eq_true rfl), (Nat.le_of_ble_eq_true rfl)⟩ (Nat.le_of_ble_eq_true rfl) ⟨(Nat.le_of_ble_eq_true rfl), (Nat.le_of_ble_eq_true rfl)⟩ (fun _ _ hx => hx.elim) 12 rfl (fun v g3 h => ?_)
  obtain ⟨⟨r2, rfl, h⟩, rfl⟩ := h
  exact sx_iret C dX6_cost_12 hr (Nat.le_of_ble_eq_true rfl) (Nat.le_of_ble_eq_true rfl) ⟨_, rfl, h⟩
set_option maxRecDepth 100000 in
set_option maxHeartbeats 4000000 in
theorem c0_X6_costByAll {l : Launch} {D : va_G} {G : sx_G} {b : Nat} (hf : l.stackTraces = false) {f : sx_F} {x1 : Int32} {Q : Int32 → sx_F → Prop}  (h : P_X6_costByAll f x1 Q (fun _ _ => False)) : sx_Met l D G b 129 lyX yX6_costByAll cX6_costByAll 2 (some .int) 19 483 0 0 [.ref (b + 0), .int x1] f (sx_qi Q) (fun _ _ => False) := by
  refine sx_enter (own := RX6) hf rfl rfl (Nat.le_of_ble_eq_true rfl) ?_
  intro p e s m args below meth c C hr ht
  have hB : ∀ k, k < 129 → sx_A b 129 s.heap.size (b + k) := fun k h => sx_A.in h
  unfold P_X6_costByAll at h
  refine sx_sub (lv' := [(0, .ref (b + 0)), (1, .int x1)]) [0, 1] rfl ?_
  refine sx_aload_n C dX6_costByAll_0 0 0 rfl rfl 1 rfl ?_
  refine sx_iload_n C dX6_costByAll_1 1 1 rfl rfl 2 rfl ?_
  refine sx_callV C ht hB (st := []) dX6_costByAll_2 (c0_X6_openBook hf h) mi_X6_openBook lk_X6_191 mn_X6_openBook ms_X6_openBook (by decide) lyX_0 rfl rfl rfl rfl ⟨⟨(Nat.le_of_ble_eq_true rfl), (Nat.le_of_ble_eq_true rfl)⟩, (Nat.le_of_ble_eq_true rfl), (Nat.le_of_ble_eq_true rfl)⟩ (Nat.le_of_ble_eq_true rfl) ⟨(Nat.le_of_ble_eq_true rfl), (Nat.le_of_ble_eq_true rfl)⟩ (fun _ _ hx => hx.elim) 5 rfl (fun v g1 h => ?_)
  obtain ⟨rfl, h⟩ := h
  refine sx_aload_n C dX6_costByAll_5 0 0 rfl rfl 6 rfl ?_
  refine sx_getq C (T := TX6) (C0 := RX6) (N := 7) (j := 2) dX6_costByAll_6 fl_X6_30 inw_X6 rfl (by decide) rfl (by decide) lyX_0 rfl 9 rfl ?_
  refine sx_callV C ht hB (st := []) dX6_costByAll_9 (c_X3_leastByTrying hf h) mi_X3_leastByTrying lk_X6_219 mn_X3_leastByTrying ms_X3_leastByTrying (by decide) lyX_19 rfl rfl rfl rfl ⟨⟨(Nat.le_of_ble_eq_true rfl), (Nat.le_of_ble_eq_true rfl)⟩, (Nat.le_of_ble_eq_true rfl), (Nat.le_of_ble_eq_true rfl)⟩ (Nat.le_of_ble_eq_true rfl) ⟨(Nat.le_of_ble_eq_true rfl), (Nat.le_of_ble_eq_true rfl)⟩ (fun _ _ hx => hx.elim) 12 rfl (fun v g2 h => ?_)
  obtain ⟨r3, rfl, h⟩ := h
  exact sx_iret C dX6_costByAll_12 hr (Nat.le_of_ble_eq_true rfl) (Nat.le_of_ble_eq_true rfl) ⟨_, rfl, h⟩
set_option maxRecDepth 100000 in
set_option maxHeartbeats 4000000 in
theorem c0_X6_turns {l : Launch} {D : va_G} {G : sx_G} {b : Nat} (hf : l.stackTraces = false) {f : sx_F} {x1 : Int32} {Q : Int32 → sx_F → Prop}  (h : P_X6_turns f x1 Q (fun _ _ => False)) : sx_Met l D G b 129 lyX yX6_turns cX6_turns 2 (some .int) 8 152 0 0 [.ref (b + 0), .int x1] f (sx_qi Q) (fun _ _ => False) := by
  refine sx_enter (own := RX6) hf rfl rfl (Nat.le_of_ble_eq_true rfl) ?_
  intro p e s m args below meth c C hr ht
  have hB : ∀ k, k < 129 → sx_A b 129 s.heap.size (b + k) := fun k h => sx_A.in h
  unfold P_X6_turns at h
  refine sx_sub (lv' := [(0, .ref (b + 0)), (1, .int x1)]) [0, 1] rfl ?_
  refine sx_aload_n C dX6_turns_0 0 0 rfl rfl 1 rfl ?_
  refine sx_iload_n C dX6_turns_1 1 1 rfl rfl 2 rfl ?_
  refine sx_callV C ht hB (st := []) dX6_turns_2 (c0_X6_breakBook hf h) mi_X6_breakBook lk_X6_207 mn_X6_breakBook ms_X6_breakBook (by decide) lyX_0 rfl rfl rfl rfl ⟨⟨(Nat.le_of_ble_eq_true rfl), (Nat.le_of_ble_eq_true rfl)⟩, (Nat.le_of_ble_eq_true rfl), (Nat.le_of_ble_eq_true rfl)⟩ (Nat.le_of_ble_eq_true rfl) ⟨(Nat.le_of_ble_eq_true rfl), (Nat.le_of_ble_eq_true rfl)⟩ (fun _ _ hx => hx.elim) 5 rfl (fun v g1 h => ?_)
  obtain ⟨rfl, h⟩ := h
  refine sx_aload_n C dX6_turns_5 0 0 rfl rfl 6 rfl ?_
  refine sx_getq C (T := TX6) (C0 := RX6) (N := 7) (j := 2) dX6_turns_6 fl_X6_30 inw_X6 rfl (by decide) rfl (by decide) lyX_0 rfl 9 rfl ?_
  refine sx_getiN C (T := TX3) (C0 := RX3) (N := 11) (j := 8) dX6_turns_9 fln_X6_222 inw_X3 rfl (by decide) rfl (by decide) lyX_19 rfl 12 rfl ?_
  exact sx_iret C dX6_turns_12 hr (Nat.le_of_ble_eq_true rfl) (Nat.le_of_ble_eq_true rfl) ⟨_, rfl, h⟩
set_option maxRecDepth 100000 in
set_option maxHeartbeats 4000000 in
theorem c0_X6_deskOf {l : Launch} {D : va_G} {G : sx_G} {b : Nat} (hf : l.stackTraces = false) {f : sx_F} {x1 : Int32} {Q : Int32 → Prop}  (h : P_X6_deskOf f x1 Q (fun _ => False)) : sx_Met l D G b 129 lyX yX6_deskOf cX6_deskOf 2 (some .int) 7 111 0 0 [.ref (b + 0), .int x1] f (sx_pi f Q) (fun _ _ => False) := by
  refine sx_enter (own := RX6) hf rfl rfl (Nat.le_of_ble_eq_true rfl) ?_
  intro p e s m args below meth c C hr ht
  have hB : ∀ k, k < 129 → sx_A b 129 s.heap.size (b + k) := fun k h => sx_A.in h
  unfold P_X6_deskOf at h
  refine sx_sub (lv' := [(0, .ref (b + 0)), (1, .int x1)]) [0, 1] rfl ?_
  refine sx_iload_n C dX6_deskOf_0 1 1 rfl rfl 1 rfl ?_
  refine sx_aload_n C dX6_deskOf_1 0 0 rfl rfl 2 rfl ?_
  refine sx_geti C (T := TX6) (C0 := RX6) (N := 7) (j := 5) dX6_deskOf_2 fl_X6_105 inw_X6 rfl (by decide) rfl (by decide) lyX_0 rfl 5 rfl ?_
  refine sx_callS C ht hB (st := []) dX6_deskOf_5 (c0_X6_needIndex hf h) mi_X6_needIndex lk_X6_89 mt_X6_needIndex rfl rfl ⟨⟨(Nat.le_of_ble_eq_true rfl), (Nat.le_of_ble_eq_true rfl)⟩, (Nat.le_of_ble_eq_true rfl), (Nat.le_of_ble_eq_true rfl)⟩ (Nat.le_of_ble_eq_true rfl) ⟨(Nat.le_of_ble_eq_true rfl), (Nat.le_of_ble_eq_true rfl)⟩ (fun _ _ hx => hx.elim) 8 rfl (fun v g1 h => ?_)
  obtain ⟨⟨rfl, h⟩, rfl⟩ := h
  refine sx_aload_n C dX6_deskOf_8 0 0 rfl rfl 9 rfl ?_
  refine sx_getq C (T := TX6) (C0 := RX6) (N := 7) (j := 3) dX6_deskOf_9 fl_X6_36 inw_X6 rfl (by decide) rfl (by decide) lyX_0 rfl 12 rfl ?_
  refine sx_iload_n C dX6_deskOf_12 1 1 rfl rfl 13 rfl ?_
  have hn3 := h.1
  refine sx_aaldn C dX6_deskOf_13 (66 + 2 * x1.toNatClampNeg) (by decide) lyX_65 rfl rfl hn3 rfl 14 rfl (fun w2 ew2 => ?_)
  replace h := h.2 w2 ew2
  have hiw2 := isX1_of hn3 ew2
  refine sx_getiN C (T := TX1) (C0 := RX1) (N := 4) (j := 2) dX6_deskOf_14 fln_X6_125 inw_X1 rfl (by decide) rfl (isX1_lt hiw2) (isX1_ly hiw2) rfl 17 rfl ?_
  exact sx_iret C dX6_deskOf_17 hr (Nat.le_of_ble_eq_true rfl) (Nat.le_of_ble_eq_true rfl) ⟨⟨_, rfl, h⟩, rfl⟩
set_option maxRecDepth 100000 in
set_option maxHeartbeats 4000000 in
theorem c0_X6_has {l : Launch} {D : va_G} {G : sx_G} {b : Nat} (hf : l.stackTraces = false) {f : sx_F} {x1 : Int32} {x2 : Int32} {Q : Int32 → Prop}  (h : P_X6_has f x1 x2 Q (fun _ => False)) : sx_Met l D G b 129 lyX yX6_has cX6_has 3 (some .int) 7 111 0 0 [.ref (b + 0), .int x1, .int x2] f (sx_pi f Q) (fun _ _ => False) := by
  refine sx_enter (own := RX6) hf rfl rfl (Nat.le_of_ble_eq_true rfl) ?_
  intro p e s m args below meth c C hr ht
  have hB : ∀ k, k < 129 → sx_A b 129 s.heap.size (b + k) := fun k h => sx_A.in h
  unfold P_X6_has at h
  refine sx_sub (lv' := [(0, .ref (b + 0)), (1, .int x1), (2, .int x2)]) [0, 1, 2] rfl ?_
  refine sx_iload_n C dX6_has_0 1 1 rfl rfl 1 rfl ?_
  refine sx_aload_n C dX6_has_1 0 0 rfl rfl 2 rfl ?_
  refine sx_geti C (T := TX6) (C0 := RX6) (N := 7) (j := 5) dX6_has_2 fl_X6_105 inw_X6 rfl (by decide) rfl (by decide) lyX_0 rfl 5 rfl ?_
  refine sx_callS C ht hB (st := []) dX6_has_5 (c0_X6_needIndex hf h) mi_X6_needIndex lk_X6_89 mt_X6_needIndex rfl rfl ⟨⟨(Nat.le_of_ble_eq_true rfl), (Nat.le_of_ble_eq_true rfl)⟩, (Nat.le_of_ble_eq_true rfl), (Nat.le_of_ble_eq_true rfl)⟩ (Nat.le_of_ble_eq_true rfl) ⟨(Nat.le_of_ble_eq_true rfl), (Nat.le_of_ble_eq_true rfl)⟩ (fun _ _ hx => hx.elim) 8 rfl (fun v g1 h => ?_)
  obtain ⟨⟨rfl, h⟩, rfl⟩ := h
  refine sx_iload_n C dX6_has_8 2 2 rfl rfl 9 rfl ?_
  refine sx_aload_n C dX6_has_9 0 0 rfl rfl 10 rfl ?_
  refine sx_getq C (T := TX6) (C0 := RX6) (N := 7) (j := 0) dX6_has_10 fl_X6_12 inw_X6 rfl (by decide) rfl (by decide) lyX_0 rfl 13 rfl ?_
  refine sx_getiN C (T := TX4) (C0 := RX4) (N := 7) (j := 0) dX6_has_13 fln_X6_52 inw_X4 rfl (by decide) rfl (by decide) lyX_1 rfl 16 rfl ?_
  refine sx_callS C ht hB (st := []) dX6_has_16 (c0_X6_needIndex hf h) mi_X6_needIndex lk_X6_89 mt_X6_needIndex rfl rfl ⟨⟨(Nat.le_of_ble_eq_true rfl), (Nat.le_of_ble_eq_true rfl)⟩, (Nat.le_of_ble_eq_true rfl), (Nat.le_of_ble_eq_true rfl)⟩ (Nat.le_of_ble_eq_true rfl) ⟨(Nat.le_of_ble_eq_true rfl), (Nat.le_of_ble_eq_true rfl)⟩ (fun _ _ hx => hx.elim) 19 rfl (fun v g2 h => ?_)
  obtain ⟨⟨rfl, h⟩, rfl⟩ := h
  refine sx_aload_n C dX6_has_19 0 0 rfl rfl 20 rfl ?_
  refine sx_getq C (T := TX6) (C0 := RX6) (N := 7) (j := 3) dX6_has_20 fl_X6_36 inw_X6 rfl (by decide) rfl (by decide) lyX_0 rfl 23 rfl ?_
  refine sx_iload_n C dX6_has_23 1 1 rfl rfl 24 rfl ?_
  have hn4 := h.1
  refine sx_aaldn C dX6_has_24 (66 + 2 * x1.toNatClampNeg) (by decide) lyX_65 rfl rfl hn4 rfl 25 rfl (fun w3 ew3 => ?_)
  replace h := h.2 w3 ew3
  have hiw3 := isX1_of hn4 ew3
  refine sx_iload_n C dX6_has_25 2 2 rfl rfl 26 rfl ?_
  refine sx_callV C ht hB (st := []) dX6_has_26 (c_X1_versionOf hf hiw3 h) mi_X1_versionOf lk_X6_151 mn_X1_versionOf ms_X1_versionOf (isX1_lt hiw3) (isX1_ly hiw3) rfl rfl rfl rfl ⟨⟨(Nat.le_of_ble_eq_true rfl), (Nat.le_of_ble_eq_true rfl)⟩, (Nat.le_of_ble_eq_true rfl), (Nat.le_of_ble_eq_true rfl)⟩ (Nat.le_of_ble_eq_true rfl) ⟨(Nat.le_of_ble_eq_true rfl), (Nat.le_of_ble_eq_true rfl)⟩ (fun _ _ hx => hx.elim) 29 rfl (fun v g6 h => ?_)
  obtain ⟨⟨r5, rfl, h⟩, rfl⟩ := h
  exact sx_iret C dX6_has_29 hr (Nat.le_of_ble_eq_true rfl) (Nat.le_of_ble_eq_true rfl) ⟨⟨_, rfl, h⟩, rfl⟩
set_option maxRecDepth 100000 in
set_option maxHeartbeats 4000000 in
theorem c0_X6_owed {l : Launch} {D : va_G} {G : sx_G} {b : Nat} (hf : l.stackTraces = false) {f : sx_F} {x1 : Int32} {Q : Int32 → Prop}  (h : P_X6_owed f x1 Q (fun _ => False)) : sx_Met l D G b 129 lyX yX6_owed cX6_owed 2 (some .int) 7 119 0 0 [.ref (b + 0), .int x1] f (sx_pi f Q) (fun _ _ => False) := by
  refine sx_enter (own := RX6) hf rfl rfl (Nat.le_of_ble_eq_true rfl) ?_
  intro p e s m args below meth c C hr ht
  have hB : ∀ k, k < 129 → sx_A b 129 s.heap.size (b + k) := fun k h => sx_A.in h
  unfold P_X6_owed at h
  refine sx_sub (lv' := [(0, .ref (b + 0)), (1, .int x1)]) [0, 1] rfl ?_
  refine sx_iload_n C dX6_owed_0 1 1 rfl rfl 1 rfl ?_
  refine sx_aload_n C dX6_owed_1 0 0 rfl rfl 2 rfl ?_
  refine sx_geti C (T := TX6) (C0 := RX6) (N := 7) (j := 5) dX6_owed_2 fl_X6_105 inw_X6 rfl (by decide) rfl (by decide) lyX_0 rfl 5 rfl ?_
  refine sx_callS C ht hB (st := []) dX6_owed_5 (c0_X6_needIndex hf h) mi_X6_needIndex lk_X6_89 mt_X6_needIndex rfl rfl ⟨⟨(Nat.le_of_ble_eq_true rfl), (Nat.le_of_ble_eq_true rfl)⟩, (Nat.le_of_ble_eq_true rfl), (Nat.le_of_ble_eq_true rfl)⟩ (Nat.le_of_ble_eq_true rfl) ⟨(Nat.le_of_ble_eq_true rfl), (Nat.le_of_ble_eq_true rfl)⟩ (fun _ _ hx => hx.elim) 8 rfl (fun v g1 h => ?_)
  obtain ⟨⟨rfl, h⟩, rfl⟩ := h
  refine sx_aload_n C dX6_owed_8 0 0 rfl rfl 9 rfl ?_
  refine sx_getq C (T := TX6) (C0 := RX6) (N := 7) (j := 3) dX6_owed_9 fl_X6_36 inw_X6 rfl (by decide) rfl (by decide) lyX_0 rfl 12 rfl ?_
  refine sx_iload_n C dX6_owed_12 1 1 rfl rfl 13 rfl ?_
  have hn3 := h.1
  refine sx_aaldn C dX6_owed_13 (66 + 2 * x1.toNatClampNeg) (by decide) lyX_65 rfl rfl hn3 rfl 14 rfl (fun w2 ew2 => ?_)
  replace h := h.2 w2 ew2
  have hiw2 := isX1_of hn3 ew2
  refine sx_callV C ht hB (st := []) dX6_owed_14 (c_X1_countDebts hf hiw2 h) mi_X1_countDebts lk_X6_139 mn_X1_countDebts ms_X1_countDebts (isX1_lt hiw2) (isX1_ly hiw2) rfl rfl rfl rfl ⟨⟨(Nat.le_of_ble_eq_true rfl), (Nat.le_of_ble_eq_true rfl)⟩, (Nat.le_of_ble_eq_true rfl), (Nat.le_of_ble_eq_true rfl)⟩ (Nat.le_of_ble_eq_true rfl) ⟨(Nat.le_of_ble_eq_true rfl), (Nat.le_of_ble_eq_true rfl)⟩ (fun _ _ hx => hx.elim) 17 rfl (fun v g5 h => ?_)
  obtain ⟨⟨r4, rfl, h⟩, rfl⟩ := h
  exact sx_iret C dX6_owed_17 hr (Nat.le_of_ble_eq_true rfl) (Nat.le_of_ble_eq_true rfl) ⟨⟨_, rfl, h⟩, rfl⟩
set_option maxRecDepth 100000 in
set_option maxHeartbeats 4000000 in
theorem c0_X6_markOf {l : Launch} {D : va_G} {G : sx_G} {b : Nat} (hf : l.stackTraces = false) {f : sx_F} {x1 : Int32} {x2 : Int32} {x3 : Int32} {Q : Int32 → Prop}  (h : P_X6_markOf f x1 x2 x3 Q (fun _ => False)) : sx_Met l D G b 129 lyX yX6_markOf cX6_markOf 4 (some .int) 8 133 0 0 [.ref (b + 0), .int x1, .int x2, .int x3] f (sx_pi f Q) (fun _ _ => False) := by
  refine sx_enter (own := RX6) hf rfl rfl (Nat.le_of_ble_eq_true rfl) ?_
  intro p e s m args below meth c C hr ht
  have hB : ∀ k, k < 129 → sx_A b 129 s.heap.size (b + k) := fun k h => sx_A.in h
  unfold P_X6_markOf at h
  refine sx_sub (lv' := [(0, .ref (b + 0)), (1, .int x1), (2, .int x2), (3, .int x3)]) [0, 1, 2, 3] rfl ?_
  refine sx_iload_n C dX6_markOf_0 1 1 rfl rfl 1 rfl ?_
  refine sx_bipush C dX6_markOf_1 6 (by decide) 3 rfl ?_
  refine sx_callS C ht hB (st := []) dX6_markOf_3 (c0_X6_needIndex hf h) mi_X6_needIndex lk_X6_89 mt_X6_needIndex rfl rfl ⟨⟨(Nat.le_of_ble_eq_true rfl), (Nat.le_of_ble_eq_true rfl)⟩, (Nat.le_of_ble_eq_true rfl), (Nat.le_of_ble_eq_true rfl)⟩ (Nat.le_of_ble_eq_true rfl) ⟨(Nat.le_of_ble_eq_true rfl), (Nat.le_of_ble_eq_true rfl)⟩ (fun _ _ hx => hx.elim) 6 rfl (fun v g1 h => ?_)
  obtain ⟨⟨rfl, h⟩, rfl⟩ := h
  refine sx_aload_n C dX6_markOf_6 0 0 rfl rfl 7 rfl ?_
  refine sx_getq C (T := TX6) (C0 := RX6) (N := 7) (j := 4) dX6_markOf_7 fl_X6_43 inw_X6 rfl (by decide) rfl (by decide) lyX_0 rfl 10 rfl ?_
  refine sx_iload_n C dX6_markOf_10 1 1 rfl rfl 11 rfl ?_
  have hn3 := h.1
  refine sx_aaldn C dX6_markOf_11 (99 + 5 * x1.toNatClampNeg) (by decide) lyX_98 rfl rfl hn3 rfl 12 rfl (fun w2 ew2 => ?_)
  replace h := h.2 w2 ew2
  have hiw2 := isX2_of hn3 ew2
  refine sx_getqN C (T := TX2) (C0 := RX2) (N := 4) (j := 0) dX6_markOf_12 fln_X6_236 inw_X2 rfl (by decide) rfl (isX2_lt hiw2) (isX2_ly hiw2) rfl 15 rfl ?_
  refine sx_aload_n C dX6_markOf_15 0 0 rfl rfl 16 rfl ?_
  refine sx_iload_n C dX6_markOf_16 2 2 rfl rfl 17 rfl ?_
  refine sx_iload_n C dX6_markOf_17 3 3 rfl rfl 18 rfl ?_
  refine sx_callV C ht hB (st := [.ref (b + (w2 + 1))]) dX6_markOf_18 (c0_X6_needSlot hf h) mi_X6_needSlot lk_X6_67 mn_X6_needSlot ms_X6_needSlot (by decide) lyX_0 rfl rfl rfl rfl ⟨⟨(Nat.le_of_ble_eq_true rfl), (Nat.le_of_ble_eq_true rfl)⟩, (Nat.le_of_ble_eq_true rfl), (Nat.le_of_ble_eq_true rfl)⟩ (Nat.le_of_ble_eq_true rfl) ⟨(Nat.le_of_ble_eq_true rfl), (Nat.le_of_ble_eq_true rfl)⟩ (fun _ _ hx => hx.elim) 21 rfl (fun v g5 h => ?_)
  obtain ⟨⟨r4, rfl, h⟩, rfl⟩ := h
  refine sx_iald C dX6_markOf_21 (isX2_lt1 hiw2) (isX2_ly1 hiw2) h.1 22 rfl ?_
  replace h := h.2
  exact sx_iret C dX6_markOf_22 hr (Nat.le_of_ble_eq_true rfl) (Nat.le_of_ble_eq_true rfl) ⟨⟨_, rfl, h⟩, rfl⟩
set_option maxRecDepth 100000 in
set_option maxHeartbeats 4000000 in
theorem c0_X6_oldMarks {l : Launch} {D : va_G} {G : sx_G} {b : Nat} (hf : l.stackTraces = false) {f : sx_F} {x1 : Int32} {Q : Int32 → Prop}  (h : P_X6_oldMarks f x1 Q (fun _ => False)) : sx_Met l D G b 129 lyX yX6_oldMarks cX6_oldMarks 2 (some .int) 7 111 0 0 [.ref (b + 0), .int x1] f (sx_pi f Q) (fun _ _ => False) := by
  refine sx_enter (own := RX6) hf rfl rfl (Nat.le_of_ble_eq_true rfl) ?_
  intro p e s m args below meth c C hr ht
  have hB : ∀ k, k < 129 → sx_A b 129 s.heap.size (b + k) := fun k h => sx_A.in h
  unfold P_X6_oldMarks at h
  refine sx_sub (lv' := [(0, .ref (b + 0)), (1, .int x1)]) [0, 1] rfl ?_
  refine sx_iload_n C dX6_oldMarks_0 1 1 rfl rfl 1 rfl ?_
  refine sx_bipush C dX6_oldMarks_1 6 (by decide) 3 rfl ?_
  refine sx_callS C ht hB (st := []) dX6_oldMarks_3 (c0_X6_needIndex hf h) mi_X6_needIndex lk_X6_89 mt_X6_needIndex rfl rfl ⟨⟨(Nat.le_of_ble_eq_true rfl), (Nat.le_of_ble_eq_true rfl)⟩, (Nat.le_of_ble_eq_true rfl), (Nat.le_of_ble_eq_true rfl)⟩ (Nat.le_of_ble_eq_true rfl) ⟨(Nat.le_of_ble_eq_true rfl), (Nat.le_of_ble_eq_true rfl)⟩ (fun _ _ hx => hx.elim) 6 rfl (fun v g1 h => ?_)
  obtain ⟨⟨rfl, h⟩, rfl⟩ := h
  refine sx_aload_n C dX6_oldMarks_6 0 0 rfl rfl 7 rfl ?_
  refine sx_getq C (T := TX6) (C0 := RX6) (N := 7) (j := 4) dX6_oldMarks_7 fl_X6_43 inw_X6 rfl (by decide) rfl (by decide) lyX_0 rfl 10 rfl ?_
  refine sx_iload_n C dX6_oldMarks_10 1 1 rfl rfl 11 rfl ?_
  have hn3 := h.1
  refine sx_aaldn C dX6_oldMarks_11 (99 + 5 * x1.toNatClampNeg) (by decide) lyX_98 rfl rfl hn3 rfl 12 rfl (fun w2 ew2 => ?_)
  replace h := h.2 w2 ew2
  have hiw2 := isX2_of hn3 ew2
  refine sx_aload_n C dX6_oldMarks_12 0 0 rfl rfl 13 rfl ?_
  refine sx_getq C (T := TX6) (C0 := RX6) (N := 7) (j := 0) dX6_oldMarks_13 fl_X6_12 inw_X6 rfl (by decide) rfl (by decide) lyX_0 rfl 16 rfl ?_
  refine sx_callV C ht hB (st := []) dX6_oldMarks_16 (c_X2_countOldMarks hf hiw2 h) mi_X2_countOldMarks lk_X6_239 mn_X2_countOldMarks ms_X2_countOldMarks (isX2_lt hiw2) (isX2_ly hiw2) rfl rfl rfl rfl ⟨⟨(Nat.le_of_ble_eq_true rfl), (Nat.le_of_ble_eq_true rfl)⟩, (Nat.le_of_ble_eq_true rfl), (Nat.le_of_ble_eq_true rfl)⟩ (Nat.le_of_ble_eq_true rfl) ⟨(Nat.le_of_ble_eq_true rfl), (Nat.le_of_ble_eq_true rfl)⟩ (fun _ _ hx => hx.elim) 19 rfl (fun v g5 h => ?_)
  obtain ⟨⟨r4, rfl, h⟩, rfl⟩ := h
  exact sx_iret C dX6_oldMarks_19 hr (Nat.le_of_ble_eq_true rfl) (Nat.le_of_ble_eq_true rfl) ⟨⟨_, rfl, h⟩, rfl⟩
set_option maxRecDepth 100000 in
set_option maxHeartbeats 4000000 in
theorem c0_X6_clashes {l : Launch} {D : va_G} {G : sx_G} {b : Nat} (hf : l.stackTraces = false) {f : sx_F} {x1 : Int32} {Q : Int32 → Prop}  (h : P_X6_clashes f x1 Q (fun _ => False)) : sx_Met l D G b 129 lyX yX6_clashes cX6_clashes 4 (some .int) 7 111 0 0 [.ref (b + 0), .int x1] f (sx_pi f Q) (fun _ _ => False) := by
  refine sx_enter (own := RX6) hf rfl rfl (Nat.le_of_ble_eq_true rfl) ?_
  intro p e s m args below meth c C hr ht
  have hB : ∀ k, k < 129 → sx_A b 129 s.heap.size (b + k) := fun k h => sx_A.in h
  unfold P_X6_clashes at h
  replace h := h (fun (v2 : Int32) (v3 : Int32) => sx_J (sx_wp D G b lyX 129) p l e { frames := 7, cells := 0, slots := 0, locals := 111 } s m args below meth c (sx_A b 129 s.heap.size) 4 0 0 (sx_fin (sx_wp D G b lyX 129) (sx_A b 129 s.heap.size) below args s 0 0 (sx_pi f Q) (fun _ _ => False)) f 9 [(0, .ref (b + 0)), (1, .int x1), (2, .int v2), (3, .int v3)] [])
  replace h := h (by
    intro v2 v3 h
    refine sx_iload_n C dX6_clashes_9 3 3 rfl rfl 10 rfl ?_
    refine sx_iconst C dX6_clashes_10 3 (by decide) 11 rfl ?_
    refine sx_icmp_ge C dX6_clashes_11 46 14 (by decide) rfl (fun c1 => ?_) (fun c1 => ?_)
    · replace h := h.1 c1
      refine sx_iload_n C dX6_clashes_46 2 2 rfl rfl 47 rfl ?_
      exact sx_iret C dX6_clashes_47 hr (Nat.le_of_ble_eq_true rfl) (Nat.le_of_ble_eq_true rfl) ⟨⟨_, rfl, h⟩, rfl⟩
    · replace h := h.2 c1
      refine sx_iload_n C dX6_clashes_14 2 2 rfl rfl 15 rfl ?_
      refine sx_aload_n C dX6_clashes_15 0 0 rfl rfl 16 rfl ?_
      refine sx_aload_n C dX6_clashes_16 0 0 rfl rfl 17 rfl ?_
      refine sx_getq C (T := TX6) (C0 := RX6) (N := 7) (j := 4) dX6_clashes_17 fl_X6_43 inw_X6 rfl (by decide) rfl (by decide) lyX_0 rfl 20 rfl ?_
      refine sx_iconst C dX6_clashes_20 2 (by decide) 21 rfl ?_
      refine sx_iload_n C dX6_clashes_21 3 3 rfl rfl 22 rfl ?_
      refine sx_imul C dX6_clashes_22 23 rfl ?_
      have hn3 := h.1
      refine sx_aaldn C dX6_clashes_23 (99 + 5 * (2 * v3).toNatClampNeg) (by decide) lyX_98 rfl rfl hn3 rfl 24 rfl (fun w2 ew2 => ?_)
      replace h := h.2 w2 ew2
      have hiw2 := isX2_of hn3 ew2
      refine sx_aload_n C dX6_clashes_24 0 0 rfl rfl 25 rfl ?_
      refine sx_getq C (T := TX6) (C0 := RX6) (N := 7) (j := 4) dX6_clashes_25 fl_X6_43 inw_X6 rfl (by decide) rfl (by decide) lyX_0 rfl 28 rfl ?_
      refine sx_iconst C dX6_clashes_28 2 (by decide) 29 rfl ?_
      refine sx_iload_n C dX6_clashes_29 3 3 rfl rfl 30 rfl ?_
      refine sx_imul C dX6_clashes_30 31 rfl ?_
      refine sx_iconst C dX6_clashes_31 1 (by decide) 32 rfl ?_
      refine sx_iadd C dX6_clashes_32 33 rfl ?_
      have hn5 := h.1
      refine sx_aaldn C dX6_clashes_33 (99 + 5 * ((2 * v3) + 1).toNatClampNeg) (by decide) lyX_98 rfl rfl hn5 rfl 34 rfl (fun w4 ew4 => ?_)
      replace h := h.2 w4 ew4
      have hiw4 := isX2_of hn5 ew4
      refine sx_iload_n C dX6_clashes_34 1 1 rfl rfl 35 rfl ?_
      refine sx_callV C ht hB (st := [.int v2]) dX6_clashes_35 (c_X6_clashesAt hf hiw2 hiw4 h) mi_X6_clashesAt lk_X6_243 mn_X6_clashesAt ms_X6_clashesAt (by decide) lyX_0 rfl rfl rfl rfl ⟨⟨(Nat.le_of_ble_eq_true rfl), (Nat.le_of_ble_eq_true rfl)⟩, (Nat.le_of_ble_eq_true rfl), (Nat.le_of_ble_eq_true rfl)⟩ (Nat.le_of_ble_eq_true rfl) ⟨(Nat.le_of_ble_eq_true rfl), (Nat.le_of_ble_eq_true rfl)⟩ (fun _ _ hx => hx.elim) 38 rfl (fun v g7 h => ?_)
      obtain ⟨⟨r6, rfl, h⟩, rfl⟩ := h
      refine sx_iadd C dX6_clashes_38 39 rfl ?_
      refine sx_topi (fun y8 ey8 => ?_)
      replace h := h y8 ey8
      refine sx_istore_n C dX6_clashes_39 2 rfl [(2, .int y8), (0, .ref (b + 0)), (1, .int x1), (3, .int v3)] (by decide) rfl 40 rfl ?_
      obtain ⟨y9, ey9⟩ : ∃ w : Int32, w = v3 + 1 := ⟨_, rfl⟩
      replace h := h y9 ey9
      refine sx_iinc C dX6_clashes_40 3 rfl y9 (by rw [ey9]; rfl) [(3, .int y9), (2, .int y8), (0, .ref (b + 0)), (1, .int x1)] (by decide) rfl 43 rfl ?_
      refine sx_goto C dX6_clashes_43 9 (by decide) ?_
      exact sx_sub [2, 3, 1, 0] rfl h)
  refine sx_sub (lv' := [(0, .ref (b + 0)), (1, .int x1)]) [0, 1] rfl ?_
  refine sx_iload_n C dX6_clashes_0 1 1 rfl rfl 1 rfl ?_
  refine sx_iconst C dX6_clashes_1 5 (by decide) 2 rfl ?_
  refine sx_callS C ht hB (st := []) dX6_clashes_2 (c0_X6_needIndex hf h) mi_X6_needIndex lk_X6_89 mt_X6_needIndex rfl rfl ⟨⟨(Nat.le_of_ble_eq_true rfl), (Nat.le_of_ble_eq_true rfl)⟩, (Nat.le_of_ble_eq_true rfl), (Nat.le_of_ble_eq_true rfl)⟩ (Nat.le_of_ble_eq_true rfl) ⟨(Nat.le_of_ble_eq_true rfl), (Nat.le_of_ble_eq_true rfl)⟩ (fun _ _ hx => hx.elim) 5 rfl (fun v g10 h => ?_)
  obtain ⟨⟨rfl, h⟩, rfl⟩ := h
  refine sx_iconst C dX6_clashes_5 0 (by decide) 6 rfl ?_
  refine sx_istore_n C dX6_clashes_6 2 rfl [(2, .int 0), (0, .ref (b + 0)), (1, .int x1)] (by decide) rfl 7 rfl ?_
  refine sx_iconst C dX6_clashes_7 0 (by decide) 8 rfl ?_
  refine sx_istore_n C dX6_clashes_8 3 rfl [(3, .int 0), (2, .int 0), (0, .ref (b + 0)), (1, .int x1)] (by decide) rfl 9 rfl ?_
  exact sx_sub [2, 3, 1, 0] rfl h
