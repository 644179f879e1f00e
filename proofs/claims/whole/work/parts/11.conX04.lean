set_option maxRecDepth 100000 in
set_option maxHeartbeats 4000000 in
theorem c_X6_turns {l : Launch} {D : va_G} {G : sx_G} {b : Nat} (hf : l.stackTraces = false) {f : sx_F} {x1 : Int32} {Q : Int32 → sx_F → Prop} {X : String → sx_F → Prop}  (h : P_X6_turns f x1 Q X) : sx_Met l D G b 129 lyX yX6_turns cX6_turns 2 (some .int) 8 152 1 6 [.ref (b + 0), .int x1] f (sx_qi Q) (X) := by
  refine sx_enter (own := RX6) hf rfl rfl (Nat.le_of_ble_eq_true rfl) ?_
  intro p e s m args below meth c C hr ht
  have hB : ∀ k, k < 129 → sx_A b 129 s.heap.size (b + k) := fun k h => sx_A.in h
  unfold P_X6_turns at h
  refine sx_sub (lv' := [(0, .ref (b + 0)), (1, .int x1)]) [0, 1] rfl ?_
  refine sx_aload_n C dX6_turns_0 0 0 rfl rfl 1 rfl ?_
  refine sx_iload_n C dX6_turns_1 1 1 rfl rfl 2 rfl ?_
  refine sx_callV C ht hB (st := []) dX6_turns_2 (c_X6_breakBook hf h) mi_X6_breakBook lk_X6_207 mn_X6_breakBook ms_X6_breakBook (by decide) lyX_0 rfl rfl rfl rfl ⟨⟨(Nat.le_of_ble_eq_true rfl), (Nat.le_of_ble_eq_true rfl)⟩, (Nat.le_of_ble_eq_true rfl), (Nat.le_of_ble_eq_true rfl)⟩ (Nat.le_of_ble_eq_true rfl) ⟨(Nat.le_of_ble_eq_true rfl), (Nat.le_of_ble_eq_true rfl)⟩ (fun _ _ hx => hx) 5 rfl (fun v g1 h => ?_)
  obtain ⟨rfl, h⟩ := h
  refine sx_aload_n C dX6_turns_5 0 0 rfl rfl 6 rfl ?_
  refine sx_getq C (T := TX6) (C0 := RX6) (N := 7) (j := 2) dX6_turns_6 fl_X6_30 inw_X6 rfl (by decide) rfl (by decide) lyX_0 rfl 9 rfl ?_
  refine sx_getiN C (T := TX3) (C0 := RX3) (N := 11) (j := 8) dX6_turns_9 fln_X6_222 inw_X3 rfl (by decide) rfl (by decide) lyX_19 rfl 12 rfl ?_
  exact sx_iret C dX6_turns_12 hr (Nat.le_of_ble_eq_true rfl) (Nat.le_of_ble_eq_true rfl) ⟨_, rfl, h⟩
set_option maxRecDepth 100000 in
set_option maxHeartbeats 4000000 in
theorem c_X6_place {l : Launch} {D : va_G} {G : sx_G} {b : Nat} (hf : l.stackTraces = false) {f : sx_F} {x1 : Int32} {x2 : Int32} {x3 : Int32} {Q : Int32 → sx_F → Prop} {X : String → sx_F → Prop}  (h : P_X6_place f x1 x2 x3 Q X) : sx_Met l D G b 129 lyX yX6_place cX6_place 5 (some .int) 8 152 3 18 [.ref (b + 0), .int x1, .int x2, .int x3] f (sx_qi Q) (X) := by
  refine sx_enter (own := RX6) hf rfl rfl (Nat.le_of_ble_eq_true rfl) ?_
  intro p e s m args below meth c C hr ht
  have hB : ∀ k, k < 129 → sx_A b 129 s.heap.size (b + k) := fun k h => sx_A.in h
  unfold P_X6_place at h
  refine sx_sub (lv' := [(0, .ref (b + 0)), (1, .int x1), (2, .int x2), (3, .int x3)]) [0, 1, 2, 3] rfl ?_
  refine sx_aload_n C dX6_place_0 0 0 rfl rfl 1 rfl ?_
  refine sx_iload_n C dX6_place_1 1 1 rfl rfl 2 rfl ?_
  refine sx_callV C ht hB (st := []) dX6_place_2 (c_X6_breakBook hf h) mi_X6_breakBook lk_X6_207 mn_X6_breakBook ms_X6_breakBook (by decide) lyX_0 rfl rfl rfl rfl ⟨⟨(Nat.le_of_ble_eq_true rfl), (Nat.le_of_ble_eq_true rfl)⟩, (Nat.le_of_ble_eq_true rfl), (Nat.le_of_ble_eq_true rfl)⟩ (Nat.le_of_ble_eq_true rfl) ⟨(Nat.le_of_ble_eq_true rfl), (Nat.le_of_ble_eq_true rfl)⟩ (fun _ _ hx => hx) 5 rfl (fun v g1 h => ?_)
  obtain ⟨rfl, h⟩ := h
  refine sx_iload_n C dX6_place_5 2 2 rfl rfl 6 rfl ?_
  refine sx_aload_n C dX6_place_6 0 0 rfl rfl 7 rfl ?_
  refine sx_getq C (T := TX6) (C0 := RX6) (N := 7) (j := 0) dX6_place_7 fl_X6_12 inw_X6 rfl (by decide) rfl (by decide) lyX_0 rfl 10 rfl ?_
  refine sx_getiN C (T := TX4) (C0 := RX4) (N := 7) (j := 0) dX6_place_10 fln_X6_52 inw_X4 rfl (by decide) rfl (by decide) lyX_1 rfl 13 rfl ?_
  refine sx_callS C ht hB (st := []) dX6_place_13 (c_X6_needIndex hf h) mi_X6_needIndex lk_X6_89 mt_X6_needIndex rfl rfl ⟨⟨(Nat.le_of_ble_eq_true rfl), (Nat.le_of_ble_eq_true rfl)⟩, (Nat.le_of_ble_eq_true rfl), (Nat.le_of_ble_eq_true rfl)⟩ (Nat.le_of_ble_eq_true rfl) ⟨(Nat.le_of_ble_eq_true rfl), (Nat.le_of_ble_eq_true rfl)⟩ (fun E u hx => by obtain ⟨h1, rfl⟩ := hx; exact h1) 16 rfl (fun v g2 h => ?_)
  obtain ⟨⟨rfl, h⟩, rfl⟩ := h
  refine sx_aload_n C dX6_place_16 0 0 rfl rfl 17 rfl ?_
  refine sx_getq C (T := TX6) (C0 := RX6) (N := 7) (j := 1) dX6_place_17 fl_X6_21 inw_X6 rfl (by decide) rfl (by decide) lyX_0 rfl 20 rfl ?_
  refine sx_iload_n C dX6_place_20 2 2 rfl rfl 21 rfl ?_
  refine sx_iload_n C dX6_place_21 3 3 rfl rfl 22 rfl ?_
  refine sx_callV C ht hB (st := []) dX6_place_22 (c_X0_drawSpring hf h) mi_X0_drawSpring lk_X6_225 mn_X0_drawSpring ms_X0_drawSpring (by decide) lyX_8 rfl rfl rfl rfl ⟨⟨(Nat.le_of_ble_eq_true rfl), (Nat.le_of_ble_eq_true rfl)⟩, (Nat.le_of_ble_eq_true rfl), (Nat.le_of_ble_eq_true rfl)⟩ (Nat.le_of_ble_eq_true rfl) ⟨(Nat.le_of_ble_eq_true rfl), (Nat.le_of_ble_eq_true rfl)⟩ (fun _ _ hx => hx.elim) 25 rfl (fun v g3 h => ?_)
  obtain ⟨r4, rfl, h⟩ := h
  refine sx_istore C dX6_place_25 [(4, .int r4), (0, .ref (b + 0)), (1, .int x1), (2, .int x2), (3, .int x3)] (by decide) rfl 27 rfl ?_
  refine sx_iload C dX6_place_27 0 rfl 29 rfl ?_
  refine sx_iconst C dX6_place_29 (-1) (by decide) 30 rfl ?_
  refine sx_icmp_ne C dX6_place_30 43 33 (by decide) rfl (fun c5 => ?_) (fun c5 => ?_)
  · replace h := h.2 c5
    refine sx_aload_n C dX6_place_43 0 1 rfl rfl 44 rfl ?_
    refine sx_getq C (T := TX6) (C0 := RX6) (N := 7) (j := 2) dX6_place_44 fl_X6_30 inw_X6 rfl (by decide) rfl (by decide) lyX_0 rfl 47 rfl ?_
    refine sx_aload_n C dX6_place_47 0 1 rfl rfl 48 rfl ?_
    refine sx_getq C (T := TX6) (C0 := RX6) (N := 7) (j := 1) dX6_place_48 fl_X6_21 inw_X6 rfl (by decide) rfl (by decide) lyX_0 rfl 51 rfl ?_
    refine sx_getqN C (T := TX0) (C0 := RX0) (N := 9) (j := 5) dX6_place_51 fln_X6_198 inw_X0 rfl (by decide) rfl (by decide) lyX_8 rfl 54 rfl ?_
    refine sx_iload_n C dX6_place_54 2 3 rfl rfl 55 rfl ?_
    refine sx_iald C dX6_place_55 (by decide) lyX_15 h.1 56 rfl ?_
    replace h := h.2
    refine sx_iload C dX6_place_56 0 rfl 58 rfl ?_
    refine sx_callV C ht hB (st := []) dX6_place_58 (c_X3_springAt hf h) mi_X3_springAt lk_X6_233 mn_X3_springAt ms_X3_springAt (by decide) lyX_19 rfl rfl rfl rfl ⟨⟨(Nat.le_of_ble_eq_true rfl), (Nat.le_of_ble_eq_true rfl)⟩, (Nat.le_of_ble_eq_true rfl), (Nat.le_of_ble_eq_true rfl)⟩ (Nat.le_of_ble_eq_true rfl) ⟨(Nat.le_of_ble_eq_true rfl), (Nat.le_of_ble_eq_true rfl)⟩ (fun _ _ hx => hx.elim) 61 rfl (fun v g7 h => ?_)
    obtain ⟨⟨r6, rfl, h⟩, rfl⟩ := h
    exact sx_iret C dX6_place_61 hr (Nat.le_of_ble_eq_true rfl) (Nat.le_of_ble_eq_true rfl) ⟨_, rfl, h⟩
  · replace h := h.1 c5
    exact sx_throw C ht dX6_place_33 dX6_place_36 dX6_place_37 dX6_place_39 dX6_place_42 exf_IndexOutOfBoundsException exk_X6_IndexOutOfBoundsException exi_IndexOutOfBoundsException (List.mem_of_getElem? (i := 13) rfl) exa_X6_IndexOutOfBoundsException exg_X6_IndexOutOfBoundsException ⟨(Nat.le_of_ble_eq_true rfl), (Nat.le_of_ble_eq_true rfl), (Nat.le_of_ble_eq_true rfl), (Nat.le_of_ble_eq_true rfl)⟩ (Nat.le_of_ble_eq_true rfl) (Nat.le_of_ble_eq_true rfl) h
set_option maxRecDepth 100000 in
set_option maxHeartbeats 4000000 in
theorem c_X6_copies {l : Launch} {D : va_G} {G : sx_G} {b : Nat} (hf : l.stackTraces = false) {f : sx_F}  {Q : Int32 → Prop}  (h : P_X6_copies f  Q) : sx_Met l D G b 129 lyX yX6_copies cX6_copies 1 (some .int) 1 13 0 0 [.ref (b + 0)] f (sx_pi f Q) (fun _ _ => False) := by
  refine sx_enter (own := RX6) hf rfl rfl (Nat.le_of_ble_eq_true rfl) ?_
  intro p e s m args below meth c C hr ht
  have hB : ∀ k, k < 129 → sx_A b 129 s.heap.size (b + k) := fun k h => sx_A.in h
  unfold P_X6_copies at h
  refine sx_sub (lv' := [(0, .ref (b + 0))]) [0] rfl ?_
  refine sx_aload_n C dX6_copies_0 0 0 rfl rfl 1 rfl ?_
  refine sx_geti C (T := TX6) (C0 := RX6) (N := 7) (j := 5) dX6_copies_1 fl_X6_105 inw_X6 rfl (by decide) rfl (by decide) lyX_0 rfl 4 rfl ?_
  exact sx_iret C dX6_copies_4 hr (Nat.le_of_ble_eq_true rfl) (Nat.le_of_ble_eq_true rfl) ⟨⟨_, rfl, h⟩, rfl⟩
set_option maxRecDepth 100000 in
set_option maxHeartbeats 4000000 in
theorem c_X6_deskOf {l : Launch} {D : va_G} {G : sx_G} {b : Nat} (hf : l.stackTraces = false) {f : sx_F} {x1 : Int32} {Q : Int32 → Prop} {X : String → Prop}  (h : P_X6_deskOf f x1 Q X) : sx_Met l D G b 129 lyX yX6_deskOf cX6_deskOf 2 (some .int) 7 111 1 6 [.ref (b + 0), .int x1] f (sx_pi f Q) (sx_xp f X) := by
  refine sx_enter (own := RX6) hf rfl rfl (Nat.le_of_ble_eq_true rfl) ?_
  intro p e s m args below meth c C hr ht
  have hB : ∀ k, k < 129 → sx_A b 129 s.heap.size (b + k) := fun k h => sx_A.in h
  unfold P_X6_deskOf at h
  refine sx_sub (lv' := [(0, .ref (b + 0)), (1, .int x1)]) [0, 1] rfl ?_
  refine sx_iload_n C dX6_deskOf_0 1 1 rfl rfl 1 rfl ?_
  refine sx_aload_n C dX6_deskOf_1 0 0 rfl rfl 2 rfl ?_
  refine sx_geti C (T := TX6) (C0 := RX6) (N := 7) (j := 5) dX6_deskOf_2 fl_X6_105 inw_X6 rfl (by decide) rfl (by decide) lyX_0 rfl 5 rfl ?_
  refine sx_callS C ht hB (st := []) dX6_deskOf_5 (c_X6_needIndex hf h) mi_X6_needIndex lk_X6_89 mt_X6_needIndex rfl rfl ⟨⟨(Nat.le_of_ble_eq_true rfl), (Nat.le_of_ble_eq_true rfl)⟩, (Nat.le_of_ble_eq_true rfl), (Nat.le_of_ble_eq_true rfl)⟩ (Nat.le_of_ble_eq_true rfl) ⟨(Nat.le_of_ble_eq_true rfl), (Nat.le_of_ble_eq_true rfl)⟩ (fun _ _ hx => hx) 8 rfl (fun v g1 h => ?_)
  obtain ⟨⟨rfl, h⟩, rfl⟩ := h
  refine sx_aload_n C dX6_deskOf_8 0 0 rfl rfl 9 rfl ?_
  refine sx_getq C (T := TX6) (C0 := RX6) (N := 7) (j := 3) dX6_deskOf_9 fl_X6_36 inw_X6 rfl (by decide) rfl (by decide) lyX_0 rfl 12 rfl ?_
  refine sx_iload_n C dX6_deskOf_12 1 1 rfl rfl 13 rfl ?_
  have hn3 := h.1
  refine sx_aaldn C dX6_deskOf_13 (66 + 2 * x1.toNatClampNeg) (by decide) lyX_65 rfl rfl hn3 rfl 14 rfl (fun w2 ew2 => ?_)
  replace h := h.2 w2 ew2
  have hiw2 := isX1_of hn3 ew2
  refine sx_getiN C (T := TX1) (C0 := RX1) (N := 4) (j := 2) dX6_deskOf_14 fln_X6_125 inw_X1 rfl (by decide) rfl (isX1_lt hiw2) (isX1_ly hiw2) rfl 17 rfl ?_
  exact sx_iret C dX6_deskOf_17 hr (Nat.le_of_ble_eq_true rfl) (Nat.le_of_ble_eq_true rfl) ⟨⟨_, rfl, h⟩, rfl⟩
set_option maxRecDepth 100000 in
set_option maxHeartbeats 4000000 in
theorem c_X6_has {l : Launch} {D : va_G} {G : sx_G} {b : Nat} (hf : l.stackTraces = false) {f : sx_F} {x1 : Int32} {x2 : Int32} {Q : Int32 → Prop} {X : String → Prop}  (h : P_X6_has f x1 x2 Q X) : sx_Met l D G b 129 lyX yX6_has cX6_has 3 (some .int) 7 111 2 12 [.ref (b + 0), .int x1, .int x2] f (sx_pi f Q) (sx_xp f X) := by
  refine sx_enter (own := RX6) hf rfl rfl (Nat.le_of_ble_eq_true rfl) ?_
  intro p e s m args below meth c C hr ht
  have hB : ∀ k, k < 129 → sx_A b 129 s.heap.size (b + k) := fun k h => sx_A.in h
  unfold P_X6_has at h
  refine sx_sub (lv' := [(0, .ref (b + 0)), (1, .int x1), (2, .int x2)]) [0, 1, 2] rfl ?_
  refine sx_iload_n C dX6_has_0 1 1 rfl rfl 1 rfl ?_
  refine sx_aload_n C dX6_has_1 0 0 rfl rfl 2 rfl ?_
  refine sx_geti C (T := TX6) (C0 := RX6) (N := 7) (j := 5) dX6_has_2 fl_X6_105 inw_X6 rfl (by decide) rfl (by decide) lyX_0 rfl 5 rfl ?_
  refine sx_callS C ht hB (st := []) dX6_has_5 (c_X6_needIndex hf h) mi_X6_needIndex lk_X6_89 mt_X6_needIndex rfl rfl ⟨⟨(Nat.le_of_ble_eq_true rfl), (Nat.le_of_ble_eq_true rfl)⟩, (Nat.le_of_ble_eq_true rfl), (Nat.le_of_ble_eq_true rfl)⟩ (Nat.le_of_ble_eq_true rfl) ⟨(Nat.le_of_ble_eq_true rfl), (Nat.le_of_ble_eq_true rfl)⟩ (fun _ _ hx => hx) 8 rfl (fun v g1 h => ?_)
  obtain ⟨⟨rfl, h⟩, rfl⟩ := h
  refine sx_iload_n C dX6_has_8 2 2 rfl rfl 9 rfl ?_
  refine sx_aload_n C dX6_has_9 0 0 rfl rfl 10 rfl ?_
  refine sx_getq C (T := TX6) (C0 := RX6) (N := 7) (j := 0) dX6_has_10 fl_X6_12 inw_X6 rfl (by decide) rfl (by decide) lyX_0 rfl 13 rfl ?_
  refine sx_getiN C (T := TX4) (C0 := RX4) (N := 7) (j := 0) dX6_has_13 fln_X6_52 inw_X4 rfl (by decide) rfl (by decide) lyX_1 rfl 16 rfl ?_
  refine sx_callS C ht hB (st := []) dX6_has_16 (c_X6_needIndex hf h) mi_X6_needIndex lk_X6_89 mt_X6_needIndex rfl rfl ⟨⟨(Nat.le_of_ble_eq_true rfl), (Nat.le_of_ble_eq_true rfl)⟩, (Nat.le_of_ble_eq_true rfl), (Nat.le_of_ble_eq_true rfl)⟩ (Nat.le_of_ble_eq_true rfl) ⟨(Nat.le_of_ble_eq_true rfl), (Nat.le_of_ble_eq_true rfl)⟩ (fun _ _ hx => hx) 19 rfl (fun v g2 h => ?_)
  obtain ⟨⟨rfl, h⟩, rfl⟩ := h
  refine sx_aload_n C dX6_has_19 0 0 rfl rfl 20 rfl ?_
  refine sx_getq C (T := TX6) (C0 := RX6) (N := 7) (j := 3) dX6_has_20 fl_X6_36 inw_X6 rfl (by decide) rfl (by decide) lyX_0 rfl 23 rfl ?_
  refine sx_iload_n C dX6_has_23 1 1 rfl rfl 24 rfl ?_
  have hn4 := h.1
  refine sx_aaldn C dX6_has_24 (66 + 2 * x1.toNatClampNeg) (by decide) lyX_65 rfl rfl hn4 rfl 25 rfl (fun w3 ew3 => ?_)
  replace h := h.2 w3 ew3
  have hiw3 := isX1_of hn4 ew3
  refine sx_iload_n C dX6_has_25 2 2 rfl rfl 26 rfl ?_
  refine sx_callV C ht hB (st := []) dX6_has_26 (c_X1_versionOf hf hiw3 h) mi_X1_versionOf lk_X6_151 mn_X1_versionOf ms_X1_versionOf (isX1_lt hiw3) (isX1_ly hiw3) rfl rfl rfl rfl ⟨⟨(Nat.le_of_ble_eq_true rfl), (Nat.le_of_ble_eq_true rfl)⟩, (Nat.le_of_ble_eq_true rfl), (Nat.le_of_ble_eq_true rfl)⟩ (Nat.le_of_ble_eq_true rfl) ⟨(Nat.le_of_ble_eq_true rfl), (Nat.le_of_ble_eq_true rfl)⟩ (fun _ _ hx => hx.elim) 29 rfl (fun v g6 h => ?_)
  obtain ⟨⟨r5, rfl, h⟩, rfl⟩ := h
  exact sx_iret C dX6_has_29 hr (Nat.le_of_ble_eq_true rfl) (Nat.le_of_ble_eq_true rfl) ⟨⟨_, rfl, h⟩, rfl⟩
set_option maxRecDepth 100000 in
set_option maxHeartbeats 4000000 in
theorem c_X6_owed {l : Launch} {D : va_G} {G : sx_G} {b : Nat} (hf : l.stackTraces = false) {f : sx_F} {x1 : Int32} {Q : Int32 → Prop} {X : String → Prop}  (h : P_X6_owed f x1 Q X) : sx_Met l D G b 129 lyX yX6_owed cX6_owed 2 (some .int) 7 119 1 6 [.ref (b + 0), .int x1] f (sx_pi f Q) (sx_xp f X) := by
  refine sx_enter (own := RX6) hf rfl rfl (Nat.le_of_ble_eq_true rfl) ?_
  intro p e s m args below meth c C hr ht
  have hB : ∀ k, k < 129 → sx_A b 129 s.heap.size (b + k) := fun k h => sx_A.in h
  unfold P_X6_owed at h
  refine sx_sub (lv' := [(0, .ref (b + 0)), (1, .int x1)]) [0, 1] rfl ?_
  refine sx_iload_n C dX6_owed_0 1 1 rfl rfl 1 rfl ?_
  refine sx_aload_n C dX6_owed_1 0 0 rfl rfl 2 rfl ?_
  refine sx_geti C (T := TX6) (C0 := RX6) (N := 7) (j := 5) dX6_owed_2 fl_X6_105 inw_X6 rfl (by decide) rfl (by decide) lyX_0 rfl 5 rfl ?_
  refine sx_callS C ht hB (st := []) dX6_owed_5 (c_X6_needIndex hf h) mi_X6_needIndex lk_X6_89 mt_X6_needIndex rfl rfl ⟨⟨(Nat.le_of_ble_eq_true rfl), (Nat.le_of_ble_eq_true rfl)⟩, (Nat.le_of_ble_eq_true rfl), (Nat.le_of_ble_eq_true rfl)⟩ (Nat.le_of_ble_eq_true rfl) ⟨(Nat.le_of_ble_eq_true rfl), (Nat.le_of_ble_eq_true rfl)⟩ (fun _ _ hx => hx) 8 rfl (fun v g1 h => ?_)
  obtain ⟨⟨rfl, h⟩, rfl⟩ := h
  refine sx_aload_n C dX6_owed_8 0 0 rfl rfl 9 rfl ?_
  refine sx_getq C (T := TX6) (C0 := RX6) (N := 7) (j := 3) dX6_owed_9 fl_X6_36 inw_X6 rfl (by decide) rfl (by decide) lyX_0 rfl 12 rfl ?_
  refine sx_iload_n C dX6_owed_12 1 1 rfl rfl 13 rfl ?_
  have hn3 := h.1
  refine sx_aaldn C dX6_owed_13 (66 + 2 * x1.toNatClampNeg) (by decide) lyX_65 rfl rfl hn3 rfl 14 rfl (fun w2 ew2 => ?_)
  replace h := h.2 w2 ew2
  have hiw2 := isX1_of hn3 ew2
  refine sx_callV C ht hB (st := []) dX6_owed_14 (c_X1_countDebts hf hiw2 h) mi_X1_countDebts lk_X6_139 mn_X1_countDebts ms_X1_countDebts (isX1_lt hiw2) (isX1_ly hiw2) rfl rfl rfl rfl ⟨⟨(Nat.le_of_ble_eq_true rfl), (Nat.le_of_ble_eq_true rfl)⟩, (Nat.le_of_ble_eq_true rfl), (Nat.le_of_ble_eq_true rfl)⟩ (Nat.le_of_ble_eq_true rfl) ⟨(Nat.le_of_ble_eq_true rfl), (Nat.le_of_ble_eq_true rfl)⟩ (fun _ _ hx => hx.elim) 17 rfl (fun v g5 h => ?_)
  obtain ⟨⟨r4, rfl, h⟩, rfl⟩ := h
  exact sx_iret C dX6_owed_17 hr (Nat.le_of_ble_eq_true rfl) (Nat.le_of_ble_eq_true rfl) ⟨⟨_, rfl, h⟩, rfl⟩
set_option maxRecDepth 100000 in
set_option maxHeartbeats 4000000 in
theorem c_X6_markOf {l : Launch} {D : va_G} {G : sx_G} {b : Nat} (hf : l.stackTraces = false) {f : sx_F} {x1 : Int32} {x2 : Int32} {x3 : Int32} {Q : Int32 → Prop} {X : String → Prop}  (h : P_X6_markOf f x1 x2 x3 Q X) : sx_Met l D G b 129 lyX yX6_markOf cX6_markOf 4 (some .int) 8 133 3 18 [.ref (b + 0), .int x1, .int x2, .int x3] f (sx_pi f Q) (sx_xp f X) := by
  refine sx_enter (own := RX6) hf rfl rfl (Nat.le_of_ble_eq_true rfl) ?_
  intro p e s m args below meth c C hr ht
  have hB : ∀ k, k < 129 → sx_A b 129 s.heap.size (b + k) := fun k h => sx_A.in h
  unfold P_X6_markOf at h
  refine sx_sub (lv' := [(0, .ref (b + 0)), (1, .int x1), (2, .int x2), (3, .int x3)]) [0, 1, 2, 3] rfl ?_
  refine sx_iload_n C dX6_markOf_0 1 1 rfl rfl 1 rfl ?_
  refine sx_bipush C dX6_markOf_1 6 (by decide) 3 rfl ?_
  refine sx_callS C ht hB (st := []) dX6_markOf_3 (c_X6_needIndex hf h) mi_X6_needIndex lk_X6_89 mt_X6_needIndex rfl rfl ⟨⟨(Nat.le_of_ble_eq_true rfl), (Nat.le_of_ble_eq_true rfl)⟩, (Nat.le_of_ble_eq_true rfl), (Nat.le_of_ble_eq_true rfl)⟩ (Nat.le_of_ble_eq_true rfl) ⟨(Nat.le_of_ble_eq_true rfl), (Nat.le_of_ble_eq_true rfl)⟩ (fun _ _ hx => hx) 6 rfl (fun v g1 h => ?_)
  obtain ⟨⟨rfl, h⟩, rfl⟩ := h
  refine sx_aload_n C dX6_markOf_6 0 0 rfl rfl 7 rfl ?_
  refine sx_getq C (T := TX6) (C0 := RX6) (N := 7) (j := 4) dX6_markOf_7 fl_X6_43 inw_X6 rfl (by decide) rfl (by decide) lyX_0 rfl 10 rfl ?_
  refine sx_iload_n C dX6_markOf_10 1 1 rfl rfl 11 rfl ?_
  have hn3 := h.1
  refine sx_aaldn C dX6_markOf_11 (99 + 5 * x1.toNatClampNeg) (by decide) lyX_98 rfl rfl hn3 rfl 12 rfl (fun w2 ew2 => ?_)
  replace h := h.2 w2 ew2
  have hiw2 := isX2_of hn3 ew2
  refine sx_getqN C (T := TX2) (C0 := RX2) (N := 4) (j := 0) dX6_markOf_12 fln_X6_236 inw_X2 rfl (by decide) rfl (isX2_lt hiw2) (isX2_ly hiw2) rfl 15 rfl ?_
  refine sx_aload_n C dX6_markOf_15 0 0 rfl rfl 16 rfl ?_
  refine sx_iload_n C dX6_markOf_16 2 2 rfl rfl 17 rfl ?_
  refine sx_iload_n C dX6_markOf_17 3 3 rfl rfl 18 rfl ?_
  refine sx_callV C ht hB (st := [.ref (b + (w2 + 1))]) dX6_markOf_18 (c_X6_needSlot hf h) mi_X6_needSlot lk_X6_67 mn_X6_needSlot ms_X6_needSlot (by decide) lyX_0 rfl rfl rfl rfl ⟨⟨(Nat.le_of_ble_eq_true rfl), (Nat.le_of_ble_eq_true rfl)⟩, (Nat.le_of_ble_eq_true rfl), (Nat.le_of_ble_eq_true rfl)⟩ (Nat.le_of_ble_eq_true rfl) ⟨(Nat.le_of_ble_eq_true rfl), (Nat.le_of_ble_eq_true rfl)⟩ (fun _ _ hx => hx) 21 rfl (fun v g5 h => ?_)
  obtain ⟨⟨r4, rfl, h⟩, rfl⟩ := h
  refine sx_iald C dX6_markOf_21 (isX2_lt1 hiw2) (isX2_ly1 hiw2) h.1 22 rfl ?_
  replace h := h.2
  exact sx_iret C dX6_markOf_22 hr (Nat.le_of_ble_eq_true rfl) (Nat.le_of_ble_eq_true rfl) ⟨⟨_, rfl, h⟩, rfl⟩
set_option maxRecDepth 100000 in
set_option maxHeartbeats 4000000 in
theorem c_X6_oldMarks {l : Launch} {D : va_G} {G : sx_G} {b : Nat} (hf : l.stackTraces = false) {f : sx_F} {x1 : Int32} {Q : Int32 → Prop} {X : String → Prop}  (h : P_X6_oldMarks f x1 Q X) : sx_Met l D G b 129 lyX yX6_oldMarks cX6_oldMarks 2 (some .int) 7 111 1 6 [.ref (b + 0), .int x1] f (sx_pi f Q) (sx_xp f X) := by
  refine sx_enter (own := RX6) hf rfl rfl (Nat.le_of_ble_eq_true rfl) ?_
  intro p e s m args below meth c C hr ht
  have hB : ∀ k, k < 129 → sx_A b 129 s.heap.size (b + k) := fun k h => sx_A.in h
  unfold P_X6_oldMarks at h
  refine sx_sub (lv' := [(0, .ref (b + 0)), (1, .int x1)]) [0, 1] rfl ?_
  refine sx_iload_n C dX6_oldMarks_0 1 1 rfl rfl 1 rfl ?_
  refine sx_bipush C dX6_oldMarks_1 6 (by decide) 3 rfl ?_
  refine sx_callS C ht hB (st := []) dX6_oldMarks_3 (c_X6_needIndex hf h) mi_X6_needIndex lk_X6_89 mt_X6_needIndex rfl rfl ⟨⟨(Nat.le_of_ble_eq_true rfl), (Nat.le_of_ble_eq_true rfl)⟩, (Nat.le_of_ble_eq_true rfl), (Nat.le_of_ble_eq_true rfl)⟩ (Nat.le_of_ble_eq_true rfl) ⟨(Nat.le_of_ble_eq_true rfl), (Nat.le_of_ble_eq_true rfl)⟩ (fun _ _ hx => hx) 6 rfl (fun v g1 h => ?_)
  obtain ⟨⟨rfl, h⟩, rfl⟩ := h
  refine sx_aload_n C dX6_oldMarks_6 0 0 rfl rfl 7 rfl ?_
  refine sx_getq C (T := TX6) (C0 := RX6) (N := 7) (j := 4) dX6_oldMarks_7 fl_X6_43 inw_X6 rfl (by decide) rfl (by decide) lyX_0 rfl 10 rfl ?_
  refine sx_iload_n C dX6_oldMarks_10 1 1 rfl rfl 11 rfl ?_
  have hn3 := h.1
  refine sx_aaldn C dX6_oldMarks_11 (99 + 5 * x1.toNatClampNeg) (by decide) lyX_98 rfl rfl hn3 rfl 12 rfl (fun w2 ew2 => ?_)
  replace h := h.2 w2 ew2
  have hiw2 := isX2_of hn3 ew2
  refine sx_aload_n C dX6_oldMarks_12 0 0 rfl rfl 13 rfl ?_
  refine sx_getq C (T := TX6) (C0 := RX6) (N := 7) (j := 0) dX6_oldMarks_13 fl_X6_12 inw_X6 rfl (by decide) rfl (by decide) lyX_0 rfl 16 rfl ?_
  refine sx_callV C ht hB (st := []) dX6_oldMarks_16 (c_X2_countOldMarks hf hiw2 h) mi_X2_countOldMarks lk_X6_239 mn_X2_countOldMarks ms_X2_countOldMarks (isX2_lt hiw2) (isX2_ly hiw2) rfl rfl rfl rfl ⟨⟨(Nat.le_of_ble_eq_true rfl), (Nat.le_of_ble_eq_true rfl)⟩, (Nat.le_of_ble_eq_true rfl), (Nat.le_of_ble_eq_true rfl)⟩ (Nat.le_of_ble_eq_true rfl) ⟨(Nat.le_of_ble_eq_true rfl), (Nat.le_of_ble_eq_true rfl)⟩ (fun _ _ hx => hx.elim) 19 rfl (fun v g5 h => ?_)
  obtain ⟨⟨r4, rfl, h⟩, rfl⟩ := h
  exact sx_iret C dX6_oldMarks_19 hr (Nat.le_of_ble_eq_true rfl) (Nat.le_of_ble_eq_true rfl) ⟨⟨_, rfl, h⟩, rfl⟩
set_option maxRecDepth 100000 in
set_option maxHeartbeats 4000000 in
theorem c_X6_clashesAt {l : Launch} {D : va_G} {G : sx_G} {b : Nat} (hf : l.stackTraces = false) {f : sx_F} {o1 : Nat} {o2 : Nat} {x3 : Int32} {Q : Int32 → Prop} (ho1 : isX2 o1) (ho2 : isX2 o2) (h : P_X6_clashesAt f o1 o2 x3 Q) : sx_Met l D G b 129 lyX yX6_clashesAt cX6_clashesAt 11 (some .int) 2 36 0 0 [.ref (b + 0), .ref (b + o1), .ref (b + o2), .int x3] f (sx_pi f Q) (fun _ _ => False) := by
  refine sx_enter (own := RX6) hf rfl rfl (Nat.le_of_ble_eq_true rfl) ?_
  intro p e s m args below meth c C hr ht
  have hB : ∀ k, k < 129 → sx_A b 129 s.heap.size (b + k) := fun k h => sx_A.in h
  unfold P_X6_clashesAt at h
  replace h := h (fun (v4 : Int32) (v5 : Int32) => sx_J (sx_wp D G b lyX 129) p l e { frames := 2, cells := 0, slots := 0, locals := 36 } s m args below meth c (sx_A b 129 s.heap.size) 11 0 0 (sx_fin (sx_wp D G b lyX 129) (sx_A b 129 s.heap.size) below args s 0 0 (sx_pi f Q) (fun _ _ => False)) f 6 [(0, .ref (b + 0)), (1, .ref (b + o1)), (2, .ref (b + o2)), (3, .int x3), (4, .int v4), (5, .int v5)] [])
  replace h := h (fun (v4 : Int32) (v5 : Int32) (v6 : Int32) (v7 : Int32) (v8 : Int32) => sx_J (sx_wp D G b lyX 129) p l e { frames := 2, cells := 0, slots := 0, locals := 36 } s m args below meth c (sx_A b 129 s.heap.size) 11 0 0 (sx_fin (sx_wp D G b lyX 129) (sx_A b 129 s.heap.size) below args s 0 0 (sx_pi f Q) (fun _ _ => False)) f 41 [(0, .ref (b + 0)), (1, .ref (b + o1)), (2, .ref (b + o2)), (3, .int x3), (4, .int v4), (5, .int v5), (6, .int v6), (7, .int v7), (8, .int v8)] [])
  replace h := h (fun (v4 : Int32) (v5 : Int32) (v6 : Int32) (v7 : Int32) (v8 : Int32) => sx_J (sx_wp D G b lyX 129) p l e { frames := 2, cells := 0, slots := 0, locals := 36 } s m args below meth c (sx_A b 129 s.heap.size) 11 0 0 (sx_fin (sx_wp D G b lyX 129) (sx_A b 129 s.heap.size) below args s 0 0 (sx_pi f Q) (fun _ _ => False)) f 100 [(0, .ref (b + 0)), (1, .ref (b + o1)), (2, .ref (b + o2)), (3, .int x3), (4, .int v4), (5, .int v5), (6, .int v6), (7, .int v7), (8, .int v8)] [])
  replace h := h (by
    intro v4 v5 h
    refine sx_iload C dX6_clashesAt_6 5 rfl 8 rfl ?_
    refine sx_aload_n C dX6_clashesAt_8 0 0 rfl rfl 9 rfl ?_
    refine sx_getq C (T := TX6) (C0 := RX6) (N := 7) (j := 0) dX6_clashesAt_9 fl_X6_12 inw_X6 rfl (by decide) rfl (by decide) lyX_0 rfl 12 rfl ?_
    refine sx_getiN C (T := TX4) (C0 := RX4) (N := 7) (j := 0) dX6_clashesAt_12 fln_X6_52 inw_X4 rfl (by decide) rfl (by decide) lyX_1 rfl 15 rfl ?_
    refine sx_icmp_ge C dX6_clashesAt_15 112 18 (by decide) rfl (fun c1 => ?_) (fun c1 => ?_)
    · replace h := h.1 c1
      refine sx_iload C dX6_clashesAt_112 4 rfl 114 rfl ?_
      exact sx_iret C dX6_clashesAt_114 hr (Nat.le_of_ble_eq_true rfl) (Nat.le_of_ble_eq_true rfl) ⟨⟨_, rfl, h⟩, rfl⟩
    · replace h := h.2 c1
      refine sx_iload_n C dX6_clashesAt_18 3 3 rfl rfl 19 rfl ?_
      refine sx_iload C dX6_clashesAt_19 5 rfl 21 rfl ?_
      refine sx_callS C ht hB (st := []) dX6_clashesAt_21 (c_X6_slotOf hf h) mi_X6_slotOf lk_X6_148 mt_X6_slotOf rfl rfl ⟨⟨(Nat.le_of_ble_eq_true rfl), (Nat.le_of_ble_eq_true rfl)⟩, (Nat.le_of_ble_eq_true rfl), (Nat.le_of_ble_eq_true rfl)⟩ (Nat.le_of_ble_eq_true rfl) ⟨(Nat.le_of_ble_eq_true rfl), (Nat.le_of_ble_eq_true rfl)⟩ (fun _ _ hx => hx.elim) 24 rfl (fun v g3 h => ?_)
      obtain ⟨⟨r2, rfl, h⟩, rfl⟩ := h
      refine sx_istore C dX6_clashesAt_24 [(6, .int r2), (0, .ref (b + 0)), (1, .ref (b + o1)), (2, .ref (b + o2)), (3, .int x3), (4, .int v4), (5, .int v5)] (by decide) rfl 26 rfl ?_
      refine sx_aload_n C dX6_clashesAt_26 0 1 rfl rfl 27 rfl ?_
      refine sx_getq C (T := TX6) (C0 := RX6) (N := 7) (j := 0) dX6_clashesAt_27 fl_X6_12 inw_X6 rfl (by decide) rfl (by decide) lyX_0 rfl 30 rfl ?_
      refine sx_getqN C (T := TX4) (C0 := RX4) (N := 7) (j := 3) dX6_clashesAt_30 fln_X6_162 inw_X4 rfl (by decide) rfl (by decide) lyX_1 rfl 33 rfl ?_
      refine sx_iload C dX6_clashesAt_33 0 rfl 35 rfl ?_
      refine sx_iald C dX6_clashesAt_35 (by decide) lyX_4 h.1 36 rfl ?_
      replace h := h.2
      refine sx_topi (fun y4 ey4 => ?_)
      replace h := h y4 ey4
      refine sx_istore C dX6_clashesAt_36 [(7, .int y4), (6, .int r2), (0, .ref (b + 0)), (1, .ref (b + o1)), (2, .ref (b + o2)), (3, .int x3), (4, .int v4), (5, .int v5)] (by decide) rfl 38 rfl ?_
      refine sx_iconst C dX6_clashesAt_38 0 (by decide) 39 rfl ?_
      refine sx_istore C dX6_clashesAt_39 [(8, .int 0), (7, .int y4), (6, .int r2), (0, .ref (b + 0)), (1, .ref (b + o1)), (2, .ref (b + o2)), (3, .int x3), (4, .int v4), (5, .int v5)] (by decide) rfl 41 rfl ?_
      exact sx_sub [3, 4, 5, 6, 7, 8, 2, 1, 0] rfl h)
  replace h := h (by
    intro v4 v5 v6 v7 v8 h
    refine sx_iload C dX6_clashesAt_41 8 rfl 43 rfl ?_
    refine sx_aload_n C dX6_clashesAt_43 0 0 rfl rfl 44 rfl ?_
    refine sx_getq C (T := TX6) (C0 := RX6) (N := 7) (j := 0) dX6_clashesAt_44 fl_X6_12 inw_X6 rfl (by decide) rfl (by decide) lyX_0 rfl 47 rfl ?_
    refine sx_getqN C (T := TX4) (C0 := RX4) (N := 7) (j := 4) dX6_clashesAt_47 fln_X6_71 inw_X4 rfl (by decide) rfl (by decide) lyX_1 rfl 50 rfl ?_
    refine sx_iload C dX6_clashesAt_50 6 rfl 52 rfl ?_
    refine sx_iald C dX6_clashesAt_52 (by decide) lyX_5 h.1 53 rfl ?_
    replace h := h.2
    refine sx_icmp_ge C dX6_clashesAt_53 106 56 (by decide) rfl (fun c5 => ?_) (fun c5 => ?_)
    · replace h := h.1 c5
      obtain ⟨y6, ey6⟩ : ∃ w : Int32, w = v5 + 1 := ⟨_, rfl⟩
      replace h := h y6 ey6
      refine sx_iinc C dX6_clashesAt_106 5 rfl y6 (by rw [ey6]; rfl) [(5, .int y6), (0, .ref (b + 0)), (1, .ref (b + o1)), (2, .ref (b + o2)), (3, .int x3), (4, .int v4), (6, .int v6), (7, .int v7), (8, .int v8)] (by decide) rfl 109 rfl ?_
      refine sx_goto C dX6_clashesAt_109 6 (by decide) ?_
      exact sx_sub [1, 2, 3, 4, 5, 0] rfl h
    · replace h := h.2 c5
      refine sx_aload_n C dX6_clashesAt_56 1 1 rfl rfl 57 rfl ?_
      refine sx_iload C dX6_clashesAt_57 6 rfl 59 rfl ?_
      refine sx_iload C dX6_clashesAt_59 8 rfl 61 rfl ?_
      refine sx_iload C dX6_clashesAt_61 7 rfl 63 rfl ?_
      refine sx_callV C ht hB (st := []) dX6_clashesAt_63 (c_X2_bowingAt hf ho1 h) mi_X2_bowingAt lk_X6_256 mn_X2_bowingAt ms_X2_bowingAt (isX2_lt ho1) (isX2_ly ho1) rfl rfl rfl rfl ⟨⟨(Nat.le_of_ble_eq_true rfl), (Nat.le_of_ble_eq_true rfl)⟩, (Nat.le_of_ble_eq_true rfl), (Nat.le_of_ble_eq_true rfl)⟩ (Nat.le_of_ble_eq_true rfl) ⟨(Nat.le_of_ble_eq_true rfl), (Nat.le_of_ble_eq_true rfl)⟩ (fun _ _ hx => hx.elim) 66 rfl (fun v g8 h => ?_)
      obtain ⟨⟨r7, rfl, h⟩, rfl⟩ := h
      refine sx_istore C dX6_clashesAt_66 [(9, .int r7), (0, .ref (b + 0)), (1, .ref (b + o1)), (2, .ref (b + o2)), (3, .int x3), (4, .int v4), (5, .int v5), (6, .int v6), (7, .int v7), (8, .int v8)] (by decide) rfl 68 rfl ?_
      refine sx_aload_n C dX6_clashesAt_68 2 3 rfl rfl 69 rfl ?_
      refine sx_iload C dX6_clashesAt_69 7 rfl 71 rfl ?_
      refine sx_iload C dX6_clashesAt_71 9 rfl 73 rfl ?_
      refine sx_iload C dX6_clashesAt_73 8 rfl 75 rfl ?_
      refine sx_callV C ht hB (st := []) dX6_clashesAt_75 (c_X2_bowingAt hf ho2 h) mi_X2_bowingAt lk_X6_256 mn_X2_bowingAt ms_X2_bowingAt (isX2_lt ho2) (isX2_ly ho2) rfl rfl rfl rfl ⟨⟨(Nat.le_of_ble_eq_true rfl), (Nat.le_of_ble_eq_true rfl)⟩, (Nat.le_of_ble_eq_true rfl), (Nat.le_of_ble_eq_true rfl)⟩ (Nat.le_of_ble_eq_true rfl) ⟨(Nat.le_of_ble_eq_true rfl), (Nat.le_of_ble_eq_true rfl)⟩ (fun _ _ hx => hx.elim) 78 rfl (fun v g10 h => ?_)
      obtain ⟨⟨r9, rfl, h⟩, rfl⟩ := h
      refine sx_istore C dX6_clashesAt_78 [(10, .int r9), (9, .int r7), (0, .ref (b + 0)), (1, .ref (b + o1)), (2, .ref (b + o2)), (3, .int x3), (4, .int v4), (5, .int v5), (6, .int v6), (7, .int v7), (8, .int v8)] (by decide) rfl 80 rfl ?_
      refine sx_iload C dX6_clashesAt_80 1 rfl 82 rfl ?_
      refine sx_if_eq C dX6_clashesAt_82 100 85 (by decide) rfl (fun c11 => ?_) (fun c11 => ?_)
      · replace h := h.1 c11
        exact sx_sub [2, 3, 4, 5, 6, 7, 8, 9, 10] rfl h
      · replace h := h.2 c11
        refine sx_iload C dX6_clashesAt_85 0 rfl 87 rfl ?_
        refine sx_if_eq C dX6_clashesAt_87 100 90 (by decide) rfl (fun c12 => ?_) (fun c12 => ?_)
        · replace h := h.1 c12
          exact sx_sub [2, 3, 4, 5, 6, 7, 8, 9, 10] rfl h
        · replace h := h.2 c12
          refine sx_iload C dX6_clashesAt_90 1 rfl 92 rfl ?_
          refine sx_iload C dX6_clashesAt_92 0 rfl 94 rfl ?_
          refine sx_icmp_eq C dX6_clashesAt_94 100 97 (by decide) rfl (fun c13 => ?_) (fun c13 => ?_)
          · replace h := h.1 c13
            exact sx_sub [2, 3, 4, 5, 6, 7, 8, 9, 10] rfl h
          · replace h := h.2 c13
            obtain ⟨y14, ey14⟩ : ∃ w : Int32, w = v4 + 1 := ⟨_, rfl⟩
            replace h := h y14 ey14
            refine sx_iinc C dX6_clashesAt_97 6 rfl y14 (by rw [ey14]; rfl) [(4, .int y14), (10, .int r9), (9, .int r7), (0, .ref (b + 0)), (1, .ref (b + o1)), (2, .ref (b + o2)), (3, .int x3), (5, .int v5), (6, .int v6), (7, .int v7), (8, .int v8)] (by decide) rfl 100 rfl ?_
            exact sx_sub [3, 4, 5, 6, 0, 7, 8, 9, 10] rfl h)
  replace h := h (by
    intro v4 v5 v6 v7 v8 h
    obtain ⟨y15, ey15⟩ : ∃ w : Int32, w = v8 + 1 := ⟨_, rfl⟩
    replace h := h y15 ey15
    refine sx_iinc C dX6_clashesAt_100 8 rfl y15 (by rw [ey15]; rfl) [(8, .int y15), (0, .ref (b + 0)), (1, .ref (b + o1)), (2, .ref (b + o2)), (3, .int x3), (4, .int v4), (5, .int v5), (6, .int v6), (7, .int v7)] (by decide) rfl 103 rfl ?_
    refine sx_goto C dX6_clashesAt_103 41 (by decide) ?_
    exact sx_sub [1, 2, 3, 4, 5, 6, 7, 8, 0] rfl h)
  refine sx_sub (lv' := [(0, .ref (b + 0)), (1, .ref (b + o1)), (2, .ref (b + o2)), (3, .int x3)]) [0, 1, 2, 3] rfl ?_
  refine sx_iconst C dX6_clashesAt_0 0 (by decide) 1 rfl ?_
  refine sx_istore C dX6_clashesAt_1 [(4, .int 0), (0, .ref (b + 0)), (1, .ref (b + o1)), (2, .ref (b + o2)), (3, .int x3)] (by decide) rfl 3 rfl ?_
  refine sx_iconst C dX6_clashesAt_3 0 (by decide) 4 rfl ?_
  refine sx_istore C dX6_clashesAt_4 [(5, .int 0), (4, .int 0), (0, .ref (b + 0)), (1, .ref (b + o1)), (2, .ref (b + o2)), (3, .int x3)] (by decide) rfl 6 rfl ?_
  exact sx_sub [2, 3, 4, 5, 1, 0] rfl h
set_option maxRecDepth 100000 in
set_option maxHeartbeats 4000000 in
theorem c_X6_clashes {l : Launch} {D : va_G} {G : sx_G} {b : Nat} (hf : l.stackTraces = false) {f : sx_F} {x1 : Int32} {Q : Int32 → Prop} {X : String → Prop}  (h : P_X6_clashes f x1 Q X) : sx_Met l D G b 129 lyX yX6_clashes cX6_clashes 4 (some .int) 7 111 1 6 [.ref (b + 0), .int x1] f (sx_pi f Q) (sx_xp f X) := by
  refine sx_enter (own := RX6) hf rfl rfl (Nat.le_of_ble_eq_true rfl) ?_
  intro p e s m args below meth c C hr ht
  have hB : ∀ k, k < 129 → sx_A b 129 s.heap.size (b + k) := fun k h => sx_A.in h
  unfold P_X6_clashes at h
  replace h := h (fun (v2 : Int32) (v3 : Int32) => sx_J (sx_wp D G b lyX 129) p l e { frames := 7, cells := 1, slots := 6, locals := 111 } s m args below meth c (sx_A b 129 s.heap.size) 4 1 6 (sx_fin (sx_wp D G b lyX 129) (sx_A b 129 s.heap.size) below args s 1 6 (sx_pi f Q) (sx_xp f X)) f 9 [(0, .ref (b + 0)), (1, .int x1), (2, .int v2), (3, .int v3)] [])
  replace h := h (by
    intro v2 v3 h
    refine sx_iload_n C dX6_clashes_9 3 3 rfl rfl 10 rfl ?_
    refine sx_iconst C dX6_clashes_10 3 (by decide) 11 rfl ?_
    refine sx_icmp_ge C dX6_clashes_11 46 14 (by decide) rfl (fun c1 => ?_) (fun c1 => ?_)
    · replace h := h.1 c1
      refine sx_iload_n C dX6_clashes_46 2 2 rfl rfl 47 rfl ?_
      exact sx_iret C dX6_clashes_47 hr (Nat.le_of_ble_eq_true rfl) (Nat.le_of_ble_eq_true rfl) ⟨⟨_, rfl, h⟩, rfl⟩
    · replace h := h.2 c1
      refine sx_iload_n C dX6_clashes_14 2 2 rfl rfl 15 rfl ?_
      refine sx_aload_n C dX6_clashes_15 0 0 rfl rfl 16 rfl ?_
      refine sx_aload_n C dX6_clashes_16 0 0 rfl rfl 17 rfl ?_
      refine sx_getq C (T := TX6) (C0 := RX6) (N := 7) (j := 4) dX6_clashes_17 fl_X6_43 inw_X6 rfl (by decide) rfl (by decide) lyX_0 rfl 20 rfl ?_
      refine sx_iconst C dX6_clashes_20 2 (by decide) 21 rfl ?_
      refine sx_iload_n C dX6_clashes_21 3 3 rfl rfl 22 rfl ?_
      refine sx_imul C dX6_clashes_22 23 rfl ?_
      have hn3 := h.1
      refine sx_aaldn C dX6_clashes_23 (99 + 5 * (2 * v3).toNatClampNeg) (by decide) lyX_98 rfl rfl hn3 rfl 24 rfl (fun w2 ew2 => ?_)
      replace h := h.2 w2 ew2
      have hiw2 := isX2_of hn3 ew2
      refine sx_aload_n C dX6_clashes_24 0 0 rfl rfl 25 rfl ?_
      refine sx_getq C (T := TX6) (C0 := RX6) (N := 7) (j := 4) dX6_clashes_25 fl_X6_43 inw_X6 rfl (by decide) rfl (by decide) lyX_0 rfl 28 rfl ?_
      refine sx_iconst C dX6_clashes_28 2 (by decide) 29 rfl ?_
      refine sx_iload_n C dX6_clashes_29 3 3 rfl rfl 30 rfl ?_
      refine sx_imul C dX6_clashes_30 31 rfl ?_
      refine sx_iconst C dX6_clashes_31 1 (by decide) 32 rfl ?_
      refine sx_iadd C dX6_clashes_32 33 rfl ?_
      have hn5 := h.1
      refine sx_aaldn C dX6_clashes_33 (99 + 5 * ((2 * v3) + 1).toNatClampNeg) (by decide) lyX_98 rfl rfl hn5 rfl 34 rfl (fun w4 ew4 => ?_)
      replace h := h.2 w4 ew4
      have hiw4 := isX2_of hn5 ew4
      refine sx_iload_n C dX6_clashes_34 1 1 rfl rfl 35 rfl ?_
      refine sx_callV C ht hB (st := [.int v2]) dX6_clashes_35 (c_X6_clashesAt hf hiw2 hiw4 h) mi_X6_clashesAt lk_X6_243 mn_X6_clashesAt ms_X6_clashesAt (by decide) lyX_0 rfl rfl rfl rfl ⟨⟨(Nat.le_of_ble_eq_true rfl), (Nat.le_of_ble_eq_true rfl)⟩, (Nat.le_of_ble_eq_true rfl), (Nat.le_of_ble_eq_true rfl)⟩ (Nat.le_of_ble_eq_true rfl) ⟨(Nat.le_of_ble_eq_true rfl), (Nat.le_of_ble_eq_true rfl)⟩ (fun _ _ hx => hx.elim) 38 rfl (fun v g7 h => ?_)
      obtain ⟨⟨r6, rfl, h⟩, rfl⟩ := h
      refine sx_iadd C dX6_clashes_38 39 rfl ?_
      refine sx_topi (fun y8 ey8 => ?_)
      replace h := h y8 ey8
      refine sx_istore_n C dX6_clashes_39 2 rfl [(2, .int y8), (0, .ref (b + 0)), (1, .int x1), (3, .int v3)] (by decide) rfl 40 rfl ?_
      obtain ⟨y9, ey9⟩ : ∃ w : Int32, w = v3 + 1 := ⟨_, rfl⟩
      replace h := h y9 ey9
      refine sx_iinc C dX6_clashes_40 3 rfl y9 (by rw [ey9]; rfl) [(3, .int y9), (2, .int y8), (0, .ref (b + 0)), (1, .int x1)] (by decide) rfl 43 rfl ?_
      refine sx_goto C dX6_clashes_43 9 (by decide) ?_
      exact sx_sub [2, 3, 1, 0] rfl h)
  refine sx_sub (lv' := [(0, .ref (b + 0)), (1, .int x1)]) [0, 1] rfl ?_
  refine sx_iload_n C dX6_clashes_0 1 1 rfl rfl 1 rfl ?_
  refine sx_iconst C dX6_clashes_1 5 (by decide) 2 rfl ?_
  refine sx_callS C ht hB (st := []) dX6_clashes_2 (c_X6_needIndex hf h) mi_X6_needIndex lk_X6_89 mt_X6_needIndex rfl rfl ⟨⟨(Nat.le_of_ble_eq_true rfl), (Nat.le_of_ble_eq_true rfl)⟩, (Nat.le_of_ble_eq_true rfl), (Nat.le_of_ble_eq_true rfl)⟩ (Nat.le_of_ble_eq_true rfl) ⟨(Nat.le_of_ble_eq_true rfl), (Nat.le_of_ble_eq_true rfl)⟩ (fun _ _ hx => hx) 5 rfl (fun v g10 h => ?_)
  obtain ⟨⟨rfl, h⟩, rfl⟩ := h
  refine sx_iconst C dX6_clashes_5 0 (by decide) 6 rfl ?_
  refine sx_istore_n C dX6_clashes_6 2 rfl [(2, .int 0), (0, .ref (b + 0)), (1, .int x1)] (by decide) rfl 7 rfl ?_
  refine sx_iconst C dX6_clashes_7 0 (by decide) 8 rfl ?_
  refine sx_istore_n C dX6_clashes_8 3 rfl [(3, .int 0), (2, .int 0), (0, .ref (b + 0)), (1, .int x1)] (by decide) rfl 9 rfl ?_
  exact sx_sub [2, 3, 1, 0] rfl h
set_option maxRecDepth 100000 in
set_option maxHeartbeats 4000000 in
theorem c_X6_concerts {l : Launch} {D : va_G} {G : sx_G} {b : Nat} (hf : l.stackTraces = false) {f : sx_F}  {Q : Int32 → Prop}  (h : P_X6_concerts f  Q) : sx_Met l D G b 129 lyX yX6_concerts cX6_concerts 1 (some .int) 1 13 0 0 [.ref (b + 0)] f (sx_pi f Q) (fun _ _ => False) := by
  refine sx_enter (own := RX6) hf rfl rfl (Nat.le_of_ble_eq_true rfl) ?_
  intro p e s m args below meth c C hr ht
  have hB : ∀ k, k < 129 → sx_A b 129 s.heap.size (b + k) := fun k h => sx_A.in h
  unfold P_X6_concerts at h
  refine sx_sub (lv' := [(0, .ref (b + 0))]) [0] rfl ?_
  refine sx_aload_n C dX6_concerts_0 0 0 rfl rfl 1 rfl ?_
  refine sx_geti C (T := TX6) (C0 := RX6) (N := 7) (j := 6) dX6_concerts_1 fl_X6_176 inw_X6 rfl (by decide) rfl (by decide) lyX_0 rfl 4 rfl ?_
  exact sx_iret C dX6_concerts_4 hr (Nat.le_of_ble_eq_true rfl) (Nat.le_of_ble_eq_true rfl) ⟨⟨_, rfl, h⟩, rfl⟩
