set_option maxRecDepth 100000 in
set_option maxHeartbeats 4000000 in
theorem c_X2_changeBowing {l : Launch} {D : va_G} {G : sx_G} {b : Nat} (hf : l.stackTraces = false) {f : sx_F} {o0 : Nat} {x1 : Int32} {x2 : Int32} {x3 : Int32} {x4 : Int32} {Q : Int32 → sx_F → Prop} (ho0 : isX2 o0) (h : P_X2_changeBowing f o0 x1 x2 x3 x4 Q) : sx_Met l D G b 129 lyX yX2_changeBowing cX2_changeBowing 6 (some .int) 2 36 0 0 [.ref (b + o0), .int x1, .int x2, .int x3, .int x4] f (sx_qi Q) (fun _ _ => False) := by
  refine sx_enter (own := RX2) hf rfl rfl (Nat.le_of_ble_eq_true rfl) ?_
  intro p e s m args below meth c C hr ht
  have hB : ∀ k, k < 129 → sx_A b 129 s.heap.size (b + k) := fun k h => sx_A.in h
  unfold P_X2_changeBowing at h
  replace h := h (fun (f : sx_F) (v5 : Int32) => sx_J (sx_wp D G b lyX 129) p l e { frames := 2, cells := 0, slots := 0, locals := 36 } s m args below meth c (sx_A b 129 s.heap.size) 6 0 0 (sx_fin (sx_wp D G b lyX 129) (sx_A b 129 s.heap.size) below args s 0 0 (sx_qi Q) (fun _ _ => False)) f 36 [(0, .ref (b + o0)), (1, .int x1), (2, .int x2), (3, .int x3), (5, .int v5)] [])
  replace h := h (by
    intro f v5 h
    refine sx_aload_n C dX2_changeBowing_36 0 0 rfl rfl 37 rfl ?_
    refine sx_getq C (T := TX2) (C0 := RX2) (N := 4) (j := 2) dX2_changeBowing_37 fl_X2_18 inw_X2 rfl (by decide) rfl (isX2_lt ho0) (isX2_ly ho0) rfl 40 rfl ?_
    refine sx_iload_n C dX2_changeBowing_40 1 1 rfl rfl 41 rfl ?_
    refine sx_aload_n C dX2_changeBowing_41 0 0 rfl rfl 42 rfl ?_
    refine sx_getq C (T := TX2) (C0 := RX2) (N := 4) (j := 2) dX2_changeBowing_42 fl_X2_18 inw_X2 rfl (by decide) rfl (isX2_lt ho0) (isX2_ly ho0) rfl 45 rfl ?_
    refine sx_iload_n C dX2_changeBowing_45 1 1 rfl rfl 46 rfl ?_
    refine sx_iald C dX2_changeBowing_46 (isX2_lt3 ho0) (isX2_ly3 ho0) h.1 47 rfl ?_
    replace h := h.2
    refine sx_iconst C dX2_changeBowing_47 3 (by decide) 48 rfl ?_
    refine sx_iconst C dX2_changeBowing_48 2 (by decide) 49 rfl ?_
    refine sx_iload_n C dX2_changeBowing_49 2 2 rfl rfl 50 rfl ?_
    refine sx_imul C dX2_changeBowing_50 51 rfl ?_
    refine sx_ishl C dX2_changeBowing_51 52 rfl ?_
    refine sx_iconst C dX2_changeBowing_52 (-1) (by decide) 53 rfl ?_
    refine sx_ixor C dX2_changeBowing_53 54 rfl ?_
    refine sx_iand C dX2_changeBowing_54 55 rfl ?_
    refine sx_iload_n C dX2_changeBowing_55 3 3 rfl rfl 56 rfl ?_
    refine sx_iconst C dX2_changeBowing_56 2 (by decide) 57 rfl ?_
    refine sx_iload_n C dX2_changeBowing_57 2 2 rfl rfl 58 rfl ?_
    refine sx_imul C dX2_changeBowing_58 59 rfl ?_
    refine sx_ishl C dX2_changeBowing_59 60 rfl ?_
    refine sx_ior C dX2_changeBowing_60 61 rfl ?_
    refine sx_iast C dX2_changeBowing_61 hB (isX2_lt3 ho0) (isX2_ly3 ho0) h.1 62 rfl (fun g1 eg1 => ?_)
    replace h := h.2 g1 eg1
    refine sx_iload C dX2_changeBowing_62 4 rfl 64 rfl ?_
    exact sx_iret C dX2_changeBowing_64 hr (Nat.le_of_ble_eq_true rfl) (Nat.le_of_ble_eq_true rfl) ⟨_, rfl, h⟩)
  refine sx_sub (lv' := [(0, .ref (b + o0)), (1, .int x1), (2, .int x2), (3, .int x3), (4, .int x4)]) [0, 1, 2, 3, 4] rfl ?_
  refine sx_aload_n C dX2_changeBowing_0 0 0 rfl rfl 1 rfl ?_
  refine sx_iload_n C dX2_changeBowing_1 1 1 rfl rfl 2 rfl ?_
  refine sx_iload_n C dX2_changeBowing_2 2 2 rfl rfl 3 rfl ?_
  refine sx_iload C dX2_changeBowing_3 4 rfl 5 rfl ?_
  refine sx_callV C ht hB (st := []) dX2_changeBowing_5 (c_X2_bowingAt hf ho0 h) mi_X2_bowingAt lk_X2_29 mn_X2_bowingAt ms_X2_bowingAt (isX2_lt ho0) (isX2_ly ho0) rfl rfl rfl rfl ⟨⟨(Nat.le_of_ble_eq_true rfl), (Nat.le_of_ble_eq_true rfl)⟩, (Nat.le_of_ble_eq_true rfl), (Nat.le_of_ble_eq_true rfl)⟩ (Nat.le_of_ble_eq_true rfl) ⟨(Nat.le_of_ble_eq_true rfl), (Nat.le_of_ble_eq_true rfl)⟩ (fun _ _ hx => hx.elim) 8 rfl (fun v g3 h => ?_)
  obtain ⟨⟨r2, rfl, h⟩, rfl⟩ := h
  refine sx_istore C dX2_changeBowing_8 [(5, .int r2), (0, .ref (b + o0)), (1, .int x1), (2, .int x2), (3, .int x3), (4, .int x4)] (by decide) rfl 10 rfl ?_
  refine sx_aload_n C dX2_changeBowing_10 0 1 rfl rfl 11 rfl ?_
  refine sx_getq C (T := TX2) (C0 := RX2) (N := 4) (j := 3) dX2_changeBowing_11 fl_X2_21 inw_X2 rfl (by decide) rfl (isX2_lt ho0) (isX2_ly ho0) rfl 14 rfl ?_
  refine sx_iload_n C dX2_changeBowing_14 1 2 rfl rfl 15 rfl ?_
  refine sx_iald C dX2_changeBowing_15 (isX2_lt4 ho0) (isX2_ly4 ho0) h.1 16 rfl ?_
  replace h := h.2
  refine sx_iload C dX2_changeBowing_16 5 rfl 18 rfl ?_
  refine sx_icmp_eq C dX2_changeBowing_18 36 21 (by decide) rfl (fun c4 => ?_) (fun c4 => ?_)
  · replace h := h.1 c4
    exact sx_sub [1, 2, 3, 4, 0] rfl h
  · replace h := h.2 c4
    refine sx_aload_n C dX2_changeBowing_21 0 1 rfl rfl 22 rfl ?_
    refine sx_getq C (T := TX2) (C0 := RX2) (N := 4) (j := 3) dX2_changeBowing_22 fl_X2_21 inw_X2 rfl (by decide) rfl (isX2_lt ho0) (isX2_ly ho0) rfl 25 rfl ?_
    refine sx_iload_n C dX2_changeBowing_25 1 2 rfl rfl 26 rfl ?_
    refine sx_iload C dX2_changeBowing_26 5 rfl 28 rfl ?_
    refine sx_iast C dX2_changeBowing_28 hB (isX2_lt4 ho0) (isX2_ly4 ho0) h.1 29 rfl (fun g5 eg5 => ?_)
    replace h := h.2 g5 eg5
    refine sx_aload_n C dX2_changeBowing_29 0 1 rfl rfl 30 rfl ?_
    refine sx_getq C (T := TX2) (C0 := RX2) (N := 4) (j := 2) dX2_changeBowing_30 fl_X2_18 inw_X2 rfl (by decide) rfl (isX2_lt ho0) (isX2_ly ho0) rfl 33 rfl ?_
    refine sx_iload_n C dX2_changeBowing_33 1 2 rfl rfl 34 rfl ?_
    refine sx_iconst C dX2_changeBowing_34 0 (by decide) 35 rfl ?_
    refine sx_iast C dX2_changeBowing_35 hB (isX2_lt3 ho0) (isX2_ly3 ho0) h.1 36 rfl (fun g6 eg6 => ?_)
    replace h := h.2 g6 eg6
    exact sx_sub [1, 2, 3, 4, 0] rfl h
set_option maxRecDepth 100000 in
set_option maxHeartbeats 4000000 in
theorem c_X4_silenceAtEnd {l : Launch} {D : va_G} {G : sx_G} {b : Nat} (hf : l.stackTraces = false) {f : sx_F} {x1 : Int32} {x2 : Int32} {Q : Int32 → Prop}  (h : P_X4_silenceAtEnd f x1 x2 Q) : sx_Met l D G b 129 lyX yX4_silenceAtEnd cX4_silenceAtEnd 7 (some .int) 2 35 0 0 [.ref (b + 1), .int x1, .int x2] f (sx_pi f Q) (fun _ _ => False) := by
  refine sx_enter (own := RX4) hf rfl rfl (Nat.le_of_ble_eq_true rfl) ?_
  intro p e s m args below meth c C hr ht
  have hB : ∀ k, k < 129 → sx_A b 129 s.heap.size (b + k) := fun k h => sx_A.in h
  unfold P_X4_silenceAtEnd at h
  replace h := h (fun (v3 : Int32) (v4 : Int32) (v5 : Int32) (v6 : Int32) => sx_J (sx_wp D G b lyX 129) p l e { frames := 2, cells := 0, slots := 0, locals := 35 } s m args below meth c (sx_A b 129 s.heap.size) 7 0 0 (sx_fin (sx_wp D G b lyX 129) (sx_A b 129 s.heap.size) below args s 0 0 (sx_pi f Q) (fun _ _ => False)) f 15 [(0, .ref (b + 1)), (2, .int x2), (3, .int v3), (4, .int v4), (5, .int v5), (6, .int v6)] [])
  replace h := h (fun (v3 : Int32) (v4 : Int32) (v5 : Int32) (v6 : Int32) => sx_J (sx_wp D G b lyX 129) p l e { frames := 2, cells := 0, slots := 0, locals := 35 } s m args below meth c (sx_A b 129 s.heap.size) 7 0 0 (sx_fin (sx_wp D G b lyX 129) (sx_A b 129 s.heap.size) below args s 0 0 (sx_pi f Q) (fun _ _ => False)) f 52 [(0, .ref (b + 1)), (2, .int x2), (3, .int v3), (4, .int v4), (5, .int v5), (6, .int v6)] [])
  replace h := h (by
    intro v3 v4 v5 v6 h
    refine sx_iload C dX4_silenceAtEnd_15 5 rfl 17 rfl ?_
    refine sx_aload_n C dX4_silenceAtEnd_17 0 0 rfl rfl 18 rfl ?_
    refine sx_getq C (T := TX4) (C0 := RX4) (N := 7) (j := 4) dX4_silenceAtEnd_18 fl_X4_21 inw_X4 rfl (by decide) rfl (by decide) lyX_1 rfl 21 rfl ?_
    refine sx_iload_n C dX4_silenceAtEnd_21 3 2 rfl rfl 22 rfl ?_
    refine sx_iald C dX4_silenceAtEnd_22 (by decide) lyX_5 h.1 23 rfl ?_
    replace h := h.2
    refine sx_icmp_ge C dX4_silenceAtEnd_23 58 26 (by decide) rfl (fun c1 => ?_) (fun c1 => ?_)
    · replace h := h.1 c1
      refine sx_aload_n C dX4_silenceAtEnd_58 0 0 rfl rfl 59 rfl ?_
      refine sx_getq C (T := TX4) (C0 := RX4) (N := 7) (j := 1) dX4_silenceAtEnd_59 fl_X4_9 inw_X4 rfl (by decide) rfl (by decide) lyX_1 rfl 62 rfl ?_
      refine sx_iload_n C dX4_silenceAtEnd_62 2 1 rfl rfl 63 rfl ?_
      refine sx_iald C dX4_silenceAtEnd_63 (by decide) lyX_2 h.1 64 rfl ?_
      replace h := h.2
      refine sx_iload C dX4_silenceAtEnd_64 4 rfl 66 rfl ?_
      refine sx_isub C dX4_silenceAtEnd_66 67 rfl ?_
      exact sx_iret C dX4_silenceAtEnd_67 hr (Nat.le_of_ble_eq_true rfl) (Nat.le_of_ble_eq_true rfl) ⟨⟨_, rfl, h⟩, rfl⟩
    · replace h := h.2 c1
      refine sx_iload C dX4_silenceAtEnd_26 3 rfl 28 rfl ?_
      refine sx_aload_n C dX4_silenceAtEnd_28 0 0 rfl rfl 29 rfl ?_
      refine sx_iload_n C dX4_silenceAtEnd_29 3 2 rfl rfl 30 rfl ?_
      refine sx_iload C dX4_silenceAtEnd_30 5 rfl 32 rfl ?_
      refine sx_callV C ht hB (st := [.int v4]) dX4_silenceAtEnd_32 (c_X4_lengthAt hf h) mi_X4_lengthAt lk_X4_34 mn_X4_lengthAt ms_X4_lengthAt (by decide) lyX_1 rfl rfl rfl rfl ⟨⟨(Nat.le_of_ble_eq_true rfl), (Nat.le_of_ble_eq_true rfl)⟩, (Nat.le_of_ble_eq_true rfl), (Nat.le_of_ble_eq_true rfl)⟩ (Nat.le_of_ble_eq_true rfl) ⟨(Nat.le_of_ble_eq_true rfl), (Nat.le_of_ble_eq_true rfl)⟩ (fun _ _ hx => hx.elim) 35 rfl (fun v g3 h => ?_)
      obtain ⟨⟨r2, rfl, h⟩, rfl⟩ := h
      refine sx_iadd C dX4_silenceAtEnd_35 36 rfl ?_
      refine sx_topi (fun y4 ey4 => ?_)
      replace h := h y4 ey4
      refine sx_istore C dX4_silenceAtEnd_36 [(4, .int y4), (0, .ref (b + 1)), (2, .int x2), (3, .int v3), (5, .int v5), (6, .int v6)] (by decide) rfl 38 rfl ?_
      refine sx_aload_n C dX4_silenceAtEnd_38 0 1 rfl rfl 39 rfl ?_
      refine sx_iload_n C dX4_silenceAtEnd_39 3 3 rfl rfl 40 rfl ?_
      refine sx_iload C dX4_silenceAtEnd_40 5 rfl 42 rfl ?_
      refine sx_callV C ht hB (st := []) dX4_silenceAtEnd_42 (c_X4_pitchAt hf h) mi_X4_pitchAt lk_X4_41 mn_X4_pitchAt ms_X4_pitchAt (by decide) lyX_1 rfl rfl rfl rfl ⟨⟨(Nat.le_of_ble_eq_true rfl), (Nat.le_of_ble_eq_true rfl)⟩, (Nat.le_of_ble_eq_true rfl), (Nat.le_of_ble_eq_true rfl)⟩ (Nat.le_of_ble_eq_true rfl) ⟨(Nat.le_of_ble_eq_true rfl), (Nat.le_of_ble_eq_true rfl)⟩ (fun _ _ hx => hx.elim) 45 rfl (fun v g6 h => ?_)
      obtain ⟨⟨r5, rfl, h⟩, rfl⟩ := h
      refine sx_if_le C dX4_silenceAtEnd_45 52 48 (by decide) rfl (fun c7 => ?_) (fun c7 => ?_)
      · replace h := h.1 c7
        exact sx_sub [1, 2, 3, 0, 4, 5] rfl h
      · replace h := h.2 c7
        refine sx_iload C dX4_silenceAtEnd_48 0 rfl 50 rfl ?_
        refine sx_istore C dX4_silenceAtEnd_50 [(5, .int y4), (4, .int y4), (0, .ref (b + 1)), (2, .int x2), (3, .int v3), (6, .int v6)] (by decide) rfl 52 rfl ?_
        exact sx_sub [2, 3, 4, 1, 0, 5] rfl h)
  replace h := h (by
    intro v3 v4 v5 v6 h
    obtain ⟨y8, ey8⟩ : ∃ w : Int32, w = v6 + 1 := ⟨_, rfl⟩
    replace h := h y8 ey8
    refine sx_iinc C dX4_silenceAtEnd_52 5 rfl y8 (by rw [ey8]; rfl) [(6, .int y8), (0, .ref (b + 1)), (2, .int x2), (3, .int v3), (4, .int v4), (5, .int v5)] (by decide) rfl 55 rfl ?_
    refine sx_goto C dX4_silenceAtEnd_55 15 (by decide) ?_
    exact sx_sub [1, 2, 3, 4, 5, 0] rfl h)
  refine sx_sub (lv' := [(0, .ref (b + 1)), (1, .int x1), (2, .int x2)]) [0, 1, 2] rfl ?_
  refine sx_iload_n C dX4_silenceAtEnd_0 1 1 rfl rfl 1 rfl ?_
  refine sx_iload_n C dX4_silenceAtEnd_1 2 2 rfl rfl 2 rfl ?_
  refine sx_callSN C hB (st := []) dX4_silenceAtEnd_2 (cn_X6_slotOf hf h) mi_X6_slotOf lkn_X4_38 mt_X6_slotOf rfl rfl ⟨⟨(Nat.le_of_ble_eq_true rfl), (Nat.le_of_ble_eq_true rfl)⟩, (Nat.le_of_ble_eq_true rfl), (Nat.le_of_ble_eq_true rfl)⟩ (Nat.le_of_ble_eq_true rfl) 5 rfl (fun v g10 h => ?_)
  obtain ⟨⟨r9, rfl, h⟩, rfl⟩ := h
  refine sx_istore_n C dX4_silenceAtEnd_5 3 rfl [(3, .int r9), (0, .ref (b + 1)), (1, .int x1), (2, .int x2)] (by decide) rfl 6 rfl ?_
  refine sx_iconst C dX4_silenceAtEnd_6 0 (by decide) 7 rfl ?_
  refine sx_istore C dX4_silenceAtEnd_7 [(4, .int 0), (3, .int r9), (0, .ref (b + 1)), (1, .int x1), (2, .int x2)] (by decide) rfl 9 rfl ?_
  refine sx_iconst C dX4_silenceAtEnd_9 0 (by decide) 10 rfl ?_
  refine sx_istore C dX4_silenceAtEnd_10 [(5, .int 0), (4, .int 0), (3, .int r9), (0, .ref (b + 1)), (1, .int x1), (2, .int x2)] (by decide) rfl 12 rfl ?_
  refine sx_iconst C dX4_silenceAtEnd_12 0 (by decide) 13 rfl ?_
  refine sx_istore C dX4_silenceAtEnd_13 [(6, .int 0), (5, .int 0), (4, .int 0), (3, .int r9), (0, .ref (b + 1)), (1, .int x1), (2, .int x2)] (by decide) rfl 15 rfl ?_
  exact sx_sub [4, 6, 3, 2, 1, 0] rfl h
set_option maxRecDepth 100000 in
set_option maxHeartbeats 4000000 in
theorem c_X4_silenceAtBeginning {l : Launch} {D : va_G} {G : sx_G} {b : Nat} (hf : l.stackTraces = false) {f : sx_F} {x1 : Int32} {x2 : Int32} {Q : Int32 → Prop}  (h : P_X4_silenceAtBeginning f x1 x2 Q) : sx_Met l D G b 129 lyX yX4_silenceAtBeginning cX4_silenceAtBeginning 6 (some .int) 2 35 0 0 [.ref (b + 1), .int x1, .int x2] f (sx_pi f Q) (fun _ _ => False) := by
  refine sx_enter (own := RX4) hf rfl rfl (Nat.le_of_ble_eq_true rfl) ?_
  intro p e s m args below meth c C hr ht
  have hB : ∀ k, k < 129 → sx_A b 129 s.heap.size (b + k) := fun k h => sx_A.in h
  unfold P_X4_silenceAtBeginning at h
  replace h := h (fun (v3 : Int32) (v4 : Int32) (v5 : Int32) => sx_J (sx_wp D G b lyX 129) p l e { frames := 2, cells := 0, slots := 0, locals := 35 } s m args below meth c (sx_A b 129 s.heap.size) 6 0 0 (sx_fin (sx_wp D G b lyX 129) (sx_A b 129 s.heap.size) below args s 0 0 (sx_pi f Q) (fun _ _ => False)) f 12 [(0, .ref (b + 1)), (2, .int x2), (3, .int v3), (4, .int v4), (5, .int v5)] [])
  replace h := h (by
    intro v3 v4 v5 h
    refine sx_iload C dX4_silenceAtBeginning_12 4 rfl 14 rfl ?_
    refine sx_aload_n C dX4_silenceAtBeginning_14 0 0 rfl rfl 15 rfl ?_
    refine sx_getq C (T := TX4) (C0 := RX4) (N := 7) (j := 4) dX4_silenceAtBeginning_15 fl_X4_21 inw_X4 rfl (by decide) rfl (by decide) lyX_1 rfl 18 rfl ?_
    refine sx_iload_n C dX4_silenceAtBeginning_18 3 2 rfl rfl 19 rfl ?_
    refine sx_iald C dX4_silenceAtBeginning_19 (by decide) lyX_5 h.1 20 rfl ?_
    replace h := h.2
    refine sx_icmp_ge C dX4_silenceAtBeginning_20 54 23 (by decide) rfl (fun c1 => ?_) (fun c1 => ?_)
    · replace h := h.1 c1
      refine sx_aload_n C dX4_silenceAtBeginning_54 0 0 rfl rfl 55 rfl ?_
      refine sx_getq C (T := TX4) (C0 := RX4) (N := 7) (j := 1) dX4_silenceAtBeginning_55 fl_X4_9 inw_X4 rfl (by decide) rfl (by decide) lyX_1 rfl 58 rfl ?_
      refine sx_iload_n C dX4_silenceAtBeginning_58 2 1 rfl rfl 59 rfl ?_
      refine sx_iald C dX4_silenceAtBeginning_59 (by decide) lyX_2 h.1 60 rfl ?_
      replace h := h.2
      exact sx_iret C dX4_silenceAtBeginning_60 hr (Nat.le_of_ble_eq_true rfl) (Nat.le_of_ble_eq_true rfl) ⟨⟨_, rfl, h⟩, rfl⟩
    · replace h := h.2 c1
      refine sx_aload_n C dX4_silenceAtBeginning_23 0 0 rfl rfl 24 rfl ?_
      refine sx_iload_n C dX4_silenceAtBeginning_24 3 2 rfl rfl 25 rfl ?_
      refine sx_iload C dX4_silenceAtBeginning_25 4 rfl 27 rfl ?_
      refine sx_callV C ht hB (st := []) dX4_silenceAtBeginning_27 (c_X4_pitchAt hf h) mi_X4_pitchAt lk_X4_41 mn_X4_pitchAt ms_X4_pitchAt (by decide) lyX_1 rfl rfl rfl rfl ⟨⟨(Nat.le_of_ble_eq_true rfl), (Nat.le_of_ble_eq_true rfl)⟩, (Nat.le_of_ble_eq_true rfl), (Nat.le_of_ble_eq_true rfl)⟩ (Nat.le_of_ble_eq_true rfl) ⟨(Nat.le_of_ble_eq_true rfl), (Nat.le_of_ble_eq_true rfl)⟩ (fun _ _ hx => hx.elim) 30 rfl (fun v g3 h => ?_)
      obtain ⟨⟨r2, rfl, h⟩, rfl⟩ := h
      refine sx_if_le C dX4_silenceAtBeginning_30 36 33 (by decide) rfl (fun c4 => ?_) (fun c4 => ?_)
      · replace h := h.1 c4
        refine sx_iload C dX4_silenceAtBeginning_36 3 rfl 38 rfl ?_
        refine sx_aload_n C dX4_silenceAtBeginning_38 0 0 rfl rfl 39 rfl ?_
        refine sx_iload_n C dX4_silenceAtBeginning_39 3 2 rfl rfl 40 rfl ?_
        refine sx_iload C dX4_silenceAtBeginning_40 4 rfl 42 rfl ?_
        refine sx_callV C ht hB (st := [.int v4]) dX4_silenceAtBeginning_42 (c_X4_lengthAt hf h) mi_X4_lengthAt lk_X4_34 mn_X4_lengthAt ms_X4_lengthAt (by decide) lyX_1 rfl rfl rfl rfl ⟨⟨(Nat.le_of_ble_eq_true rfl), (Nat.le_of_ble_eq_true rfl)⟩, (Nat.le_of_ble_eq_true rfl), (Nat.le_of_ble_eq_true rfl)⟩ (Nat.le_of_ble_eq_true rfl) ⟨(Nat.le_of_ble_eq_true rfl), (Nat.le_of_ble_eq_true rfl)⟩ (fun _ _ hx => hx.elim) 45 rfl (fun v g6 h => ?_)
        obtain ⟨⟨r5, rfl, h⟩, rfl⟩ := h
        refine sx_iadd C dX4_silenceAtBeginning_45 46 rfl ?_
        refine sx_topi (fun y7 ey7 => ?_)
        replace h := h y7 ey7
        refine sx_istore C dX4_silenceAtBeginning_46 [(4, .int y7), (0, .ref (b + 1)), (2, .int x2), (3, .int v3), (5, .int v5)] (by decide) rfl 48 rfl ?_
        obtain ⟨y8, ey8⟩ : ∃ w : Int32, w = v5 + 1 := ⟨_, rfl⟩
        replace h := h y8 ey8
        refine sx_iinc C dX4_silenceAtBeginning_48 4 rfl y8 (by rw [ey8]; rfl) [(5, .int y8), (4, .int y7), (0, .ref (b + 1)), (2, .int x2), (3, .int v3)] (by decide) rfl 51 rfl ?_
        refine sx_goto C dX4_silenceAtBeginning_51 12 (by decide) ?_
        exact sx_sub [2, 3, 4, 1, 0] rfl h
      · replace h := h.2 c4
        refine sx_iload C dX4_silenceAtBeginning_33 3 rfl 35 rfl ?_
        exact sx_iret C dX4_silenceAtBeginning_35 hr (Nat.le_of_ble_eq_true rfl) (Nat.le_of_ble_eq_true rfl) ⟨⟨_, rfl, h⟩, rfl⟩)
  refine sx_sub (lv' := [(0, .ref (b + 1)), (1, .int x1), (2, .int x2)]) [0, 1, 2] rfl ?_
  refine sx_iload_n C dX4_silenceAtBeginning_0 1 1 rfl rfl 1 rfl ?_
  refine sx_iload_n C dX4_silenceAtBeginning_1 2 2 rfl rfl 2 rfl ?_
  refine sx_callSN C hB (st := []) dX4_silenceAtBeginning_2 (cn_X6_slotOf hf h) mi_X6_slotOf lkn_X4_38 mt_X6_slotOf rfl rfl ⟨⟨(Nat.le_of_ble_eq_true rfl), (Nat.le_of_ble_eq_true rfl)⟩, (Nat.le_of_ble_eq_true rfl), (Nat.le_of_ble_eq_true rfl)⟩ (Nat.le_of_ble_eq_true rfl) 5 rfl (fun v g10 h => ?_)
  obtain ⟨⟨r9, rfl, h⟩, rfl⟩ := h
  refine sx_istore_n C dX4_silenceAtBeginning_5 3 rfl [(3, .int r9), (0, .ref (b + 1)), (1, .int x1), (2, .int x2)] (by decide) rfl 6 rfl ?_
  refine sx_iconst C dX4_silenceAtBeginning_6 0 (by decide) 7 rfl ?_
  refine sx_istore C dX4_silenceAtBeginning_7 [(4, .int 0), (3, .int r9), (0, .ref (b + 1)), (1, .int x1), (2, .int x2)] (by decide) rfl 9 rfl ?_
  refine sx_iconst C dX4_silenceAtBeginning_9 0 (by decide) 10 rfl ?_
  refine sx_istore C dX4_silenceAtBeginning_10 [(5, .int 0), (4, .int 0), (3, .int r9), (0, .ref (b + 1)), (1, .int x1), (2, .int x2)] (by decide) rfl 12 rfl ?_
  exact sx_sub [3, 5, 2, 1, 0] rfl h
set_option maxRecDepth 100000 in
set_option maxHeartbeats 4000000 in
theorem c_X4_silenceAround {l : Launch} {D : va_G} {G : sx_G} {b : Nat} (hf : l.stackTraces = false) {f : sx_F} {x1 : Int32} {x2 : Int32} {Q : Int32 → Prop}  (h : P_X4_silenceAround f x1 x2 Q) : sx_Met l D G b 129 lyX yX4_silenceAround cX4_silenceAround 6 (some .int) 3 61 0 0 [.ref (b + 1), .int x1, .int x2] f (sx_pi f Q) (fun _ _ => False) := by
  refine sx_enter (own := RX4) hf rfl rfl (Nat.le_of_ble_eq_true rfl) ?_
  intro p e s m args below meth c C hr ht
  have hB : ∀ k, k < 129 → sx_A b 129 s.heap.size (b + k) := fun k h => sx_A.in h
  unfold P_X4_silenceAround at h
  replace h := h (fun (v3 : Int32) (v4 : Int32) => sx_J (sx_wp D G b lyX 129) p l e { frames := 3, cells := 0, slots := 0, locals := 61 } s m args below meth c (sx_A b 129 s.heap.size) 6 0 0 (sx_fin (sx_wp D G b lyX 129) (sx_A b 129 s.heap.size) below args s 0 0 (sx_pi f Q) (fun _ _ => False)) f 7 [(0, .ref (b + 1)), (1, .int x1), (2, .int x2), (3, .int v3), (4, .int v4)] [])
  replace h := h (fun (v3 : Int32) => sx_J (sx_wp D G b lyX 129) p l e { frames := 3, cells := 0, slots := 0, locals := 61 } s m args below meth c (sx_A b 129 s.heap.size) 6 0 0 (sx_fin (sx_wp D G b lyX 129) (sx_A b 129 s.heap.size) below args s 0 0 (sx_pi f Q) (fun _ _ => False)) f 47 [(0, .ref (b + 1)), (1, .int x1), (2, .int x2), (3, .int v3)] [])
  replace h := h (fun (v3 : Int32) (v4 : Int32) => sx_J (sx_wp D G b lyX 129) p l e { frames := 3, cells := 0, slots := 0, locals := 61 } s m args below meth c (sx_A b 129 s.heap.size) 6 0 0 (sx_fin (sx_wp D G b lyX 129) (sx_A b 129 s.heap.size) below args s 0 0 (sx_pi f Q) (fun _ _ => False)) f 50 [(0, .ref (b + 1)), (1, .int x1), (3, .int v3), (4, .int v4)] [])
  replace h := h (by
    intro v3 v4 h
    refine sx_iload C dX4_silenceAround_7 4 rfl 9 rfl ?_
    refine sx_if_lt C dX4_silenceAround_9 47 12 (by decide) rfl (fun c1 => ?_) (fun c1 => ?_)
    · replace h := h.1 c1
      exact sx_sub [0, 1, 2, 3] rfl h
    · replace h := h.2 c1
      refine sx_aload_n C dX4_silenceAround_12 0 0 rfl rfl 13 rfl ?_
      refine sx_iload_n C dX4_silenceAround_13 1 1 rfl rfl 14 rfl ?_
      refine sx_iload C dX4_silenceAround_14 4 rfl 16 rfl ?_
      refine sx_callV C ht hB (st := []) dX4_silenceAround_16 (c_X4_silenceAtEnd hf h) mi_X4_silenceAtEnd lk_X4_48 mn_X4_silenceAtEnd ms_X4_silenceAtEnd (by decide) lyX_1 rfl rfl rfl rfl ⟨⟨(Nat.le_of_ble_eq_true rfl), (Nat.le_of_ble_eq_true rfl)⟩, (Nat.le_of_ble_eq_true rfl), (Nat.le_of_ble_eq_true rfl)⟩ (Nat.le_of_ble_eq_true rfl) ⟨(Nat.le_of_ble_eq_true rfl), (Nat.le_of_ble_eq_true rfl)⟩ (fun _ _ hx => hx.elim) 19 rfl (fun v g3 h => ?_)
      obtain ⟨⟨r2, rfl, h⟩, rfl⟩ := h
      refine sx_istore C dX4_silenceAround_19 [(5, .int r2), (0, .ref (b + 1)), (1, .int x1), (2, .int x2), (3, .int v3), (4, .int v4)] (by decide) rfl 21 rfl ?_
      refine sx_iload_n C dX4_silenceAround_21 3 4 rfl rfl 22 rfl ?_
      refine sx_iload C dX4_silenceAround_22 0 rfl 24 rfl ?_
      refine sx_iadd C dX4_silenceAround_24 25 rfl ?_
      refine sx_topi (fun y4 ey4 => ?_)
      replace h := h y4 ey4
      refine sx_istore_n C dX4_silenceAround_25 3 rfl [(3, .int y4), (5, .int r2), (0, .ref (b + 1)), (1, .int x1), (2, .int x2), (4, .int v4)] (by decide) rfl 26 rfl ?_
      refine sx_iload C dX4_silenceAround_26 1 rfl 28 rfl ?_
      refine sx_aload_n C dX4_silenceAround_28 0 2 rfl rfl 29 rfl ?_
      refine sx_getq C (T := TX4) (C0 := RX4) (N := 7) (j := 1) dX4_silenceAround_29 fl_X4_9 inw_X4 rfl (by decide) rfl (by decide) lyX_1 rfl 32 rfl ?_
      refine sx_iload C dX4_silenceAround_32 5 rfl 34 rfl ?_
      refine sx_iald C dX4_silenceAround_34 (by decide) lyX_2 h.1 35 rfl ?_
      replace h := h.2
      refine sx_icmp_ge C dX4_silenceAround_35 41 38 (by decide) rfl (fun c5 => ?_) (fun c5 => ?_)
      · replace h := h.1 c5
        obtain ⟨y6, ey6⟩ : ∃ w : Int32, w = v4 + (-1) := ⟨_, rfl⟩
        replace h := h y6 ey6
        refine sx_iinc C dX4_silenceAround_41 5 rfl y6 (by rw [ey6]; rfl) [(4, .int y6), (3, .int y4), (5, .int r2), (0, .ref (b + 1)), (1, .int x1), (2, .int x2)] (by decide) rfl 44 rfl ?_
        refine sx_goto C dX4_silenceAround_44 7 (by decide) ?_
        exact sx_sub [3, 4, 5, 1, 0] rfl h
      · replace h := h.2 c5
        refine sx_goto C dX4_silenceAround_38 47 (by decide) ?_
        exact sx_sub [2, 3, 4, 0] rfl h)
  replace h := h (by
    intro v3 h
    refine sx_iload_n C dX4_silenceAround_47 2 2 rfl rfl 48 rfl ?_
    refine sx_istore C dX4_silenceAround_48 [(4, .int x2), (0, .ref (b + 1)), (1, .int x1), (2, .int x2), (3, .int v3)] (by decide) rfl 50 rfl ?_
    exact sx_sub [1, 2, 4, 0] rfl h)
  replace h := h (by
    intro v3 v4 h
    refine sx_iload C dX4_silenceAround_50 3 rfl 52 rfl ?_
    refine sx_aload_n C dX4_silenceAround_52 0 0 rfl rfl 53 rfl ?_
    refine sx_geti C (T := TX4) (C0 := RX4) (N := 7) (j := 0) dX4_silenceAround_53 fl_X4_30 inw_X4 rfl (by decide) rfl (by decide) lyX_1 rfl 56 rfl ?_
    refine sx_icmp_ge C dX4_silenceAround_56 94 59 (by decide) rfl (fun c7 => ?_) (fun c7 => ?_)
    · replace h := h.1 c7
      refine sx_iload_n C dX4_silenceAround_94 3 2 rfl rfl 95 rfl ?_
      exact sx_iret C dX4_silenceAround_95 hr (Nat.le_of_ble_eq_true rfl) (Nat.le_of_ble_eq_true rfl) ⟨⟨_, rfl, h⟩, rfl⟩
    · replace h := h.2 c7
      refine sx_aload_n C dX4_silenceAround_59 0 0 rfl rfl 60 rfl ?_
      refine sx_iload_n C dX4_silenceAround_60 1 1 rfl rfl 61 rfl ?_
      refine sx_iload C dX4_silenceAround_61 3 rfl 63 rfl ?_
      refine sx_callV C ht hB (st := []) dX4_silenceAround_63 (c_X4_silenceAtBeginning hf h) mi_X4_silenceAtBeginning lk_X4_51 mn_X4_silenceAtBeginning ms_X4_silenceAtBeginning (by decide) lyX_1 rfl rfl rfl rfl ⟨⟨(Nat.le_of_ble_eq_true rfl), (Nat.le_of_ble_eq_true rfl)⟩, (Nat.le_of_ble_eq_true rfl), (Nat.le_of_ble_eq_true rfl)⟩ (Nat.le_of_ble_eq_true rfl) ⟨(Nat.le_of_ble_eq_true rfl), (Nat.le_of_ble_eq_true rfl)⟩ (fun _ _ hx => hx.elim) 66 rfl (fun v g9 h => ?_)
      obtain ⟨⟨r8, rfl, h⟩, rfl⟩ := h
      refine sx_istore C dX4_silenceAround_66 [(5, .int r8), (0, .ref (b + 1)), (1, .int x1), (3, .int v3), (4, .int v4)] (by decide) rfl 68 rfl ?_
      refine sx_iload_n C dX4_silenceAround_68 3 3 rfl rfl 69 rfl ?_
      refine sx_iload C dX4_silenceAround_69 0 rfl 71 rfl ?_
      refine sx_iadd C dX4_silenceAround_71 72 rfl ?_
      refine sx_topi (fun y10 ey10 => ?_)
      replace h := h y10 ey10
      refine sx_istore_n C dX4_silenceAround_72 3 rfl [(3, .int y10), (5, .int r8), (0, .ref (b + 1)), (1, .int x1), (4, .int v4)] (by decide) rfl 73 rfl ?_
      refine sx_iload C dX4_silenceAround_73 1 rfl 75 rfl ?_
      refine sx_aload_n C dX4_silenceAround_75 0 2 rfl rfl 76 rfl ?_
      refine sx_getq C (T := TX4) (C0 := RX4) (N := 7) (j := 1) dX4_silenceAround_76 fl_X4_9 inw_X4 rfl (by decide) rfl (by decide) lyX_1 rfl 79 rfl ?_
      refine sx_iload C dX4_silenceAround_79 4 rfl 81 rfl ?_
      refine sx_iald C dX4_silenceAround_81 (by decide) lyX_2 h.1 82 rfl ?_
      replace h := h.2
      refine sx_icmp_ge C dX4_silenceAround_82 88 85 (by decide) rfl (fun c11 => ?_) (fun c11 => ?_)
      · replace h := h.1 c11
        obtain ⟨y12, ey12⟩ : ∃ w : Int32, w = v4 + 1 := ⟨_, rfl⟩
        replace h := h y12 ey12
        refine sx_iinc C dX4_silenceAround_88 4 rfl y12 (by rw [ey12]; rfl) [(4, .int y12), (3, .int y10), (5, .int r8), (0, .ref (b + 1)), (1, .int x1)] (by decide) rfl 91 rfl ?_
        refine sx_goto C dX4_silenceAround_91 50 (by decide) ?_
        exact sx_sub [3, 4, 1, 0] rfl h
      · replace h := h.2 c11
        refine sx_goto C dX4_silenceAround_85 94 (by decide) ?_
        refine sx_iload_n C dX4_silenceAround_94 3 0 rfl rfl 95 rfl ?_
        exact sx_iret C dX4_silenceAround_95 hr (Nat.le_of_ble_eq_true rfl) (Nat.le_of_ble_eq_true rfl) ⟨⟨_, rfl, h⟩, rfl⟩)
  refine sx_sub (lv' := [(0, .ref (b + 1)), (1, .int x1), (2, .int x2)]) [0, 1, 2] rfl ?_
  refine sx_iconst C dX4_silenceAround_0 0 (by decide) 1 rfl ?_
  refine sx_istore_n C dX4_silenceAround_1 3 rfl [(3, .int 0), (0, .ref (b + 1)), (1, .int x1), (2, .int x2)] (by decide) rfl 2 rfl ?_
  refine sx_iload_n C dX4_silenceAround_2 2 3 rfl rfl 3 rfl ?_
  refine sx_iconst C dX4_silenceAround_3 1 (by decide) 4 rfl ?_
  refine sx_isub C dX4_silenceAround_4 5 rfl ?_
  refine sx_topi (fun y13 ey13 => ?_)
  replace h := h y13 ey13
  refine sx_istore C dX4_silenceAround_5 [(4, .int y13), (3, .int 0), (0, .ref (b + 1)), (1, .int x1), (2, .int x2)] (by decide) rfl 7 rfl ?_
  exact sx_sub [2, 3, 4, 1, 0] rfl h
set_option maxRecDepth 100000 in
set_option maxHeartbeats 4000000 in
theorem c_X3_priceTurns {l : Launch} {D : va_G} {G : sx_G} {b : Nat} (hf : l.stackTraces = false) {f : sx_F}  {Q : sx_F → Prop}  (h : P_X3_priceTurns f  Q) : sx_Met l D G b 129 lyX yX3_priceTurns cX3_priceTurns 3 (none) 4 86 0 0 [.ref (b + 19)] f (sx_qv Q) (fun _ _ => False) := by
  refine sx_enter (own := RX3) hf rfl rfl (Nat.le_of_ble_eq_true rfl) ?_
  intro p e s m args below meth c C hr ht
  have hB : ∀ k, k < 129 → sx_A b 129 s.heap.size (b + k) := fun k h => sx_A.in h
  unfold P_X3_priceTurns at h
  replace h := h (fun (f : sx_F) (v1 : Int32) => sx_J (sx_wp D G b lyX 129) p l e { frames := 4, cells := 0, slots := 0, locals := 86 } s m args below meth c (sx_A b 129 s.heap.size) 3 0 0 (sx_fin (sx_wp D G b lyX 129) (sx_A b 129 s.heap.size) below args s 0 0 (sx_qv Q) (fun _ _ => False)) f 22 [(0, .ref (b + 19)), (1, .int v1)] [])
  replace h := h (by
    intro f v1 h
    refine sx_iload_n C dX3_priceTurns_22 1 1 rfl rfl 23 rfl ?_
    refine sx_aload_n C dX3_priceTurns_23 0 0 rfl rfl 24 rfl ?_
    refine sx_getq C (T := TX3) (C0 := RX3) (N := 11) (j := 0) dX3_priceTurns_24 fl_X3_39 inw_X3 rfl (by decide) rfl (by decide) lyX_19 rfl 27 rfl ?_
    refine sx_getiN C (T := TX0) (C0 := RX0) (N := 9) (j := 3) dX3_priceTurns_27 fln_X3_46 inw_X0 rfl (by decide) rfl (by decide) lyX_8 rfl 30 rfl ?_
    refine sx_icmp_ge C dX3_priceTurns_30 83 33 (by decide) rfl (fun c1 => ?_) (fun c1 => ?_)
    · replace h := h.1 c1
      exact sx_vret C dX3_priceTurns_83 hr (Nat.le_of_ble_eq_true rfl) (Nat.le_of_ble_eq_true rfl) ⟨rfl, h⟩
    · replace h := h.2 c1
      refine sx_aload_n C dX3_priceTurns_33 0 0 rfl rfl 34 rfl ?_
      refine sx_getq C (T := TX3) (C0 := RX3) (N := 11) (j := 0) dX3_priceTurns_34 fl_X3_39 inw_X3 rfl (by decide) rfl (by decide) lyX_19 rfl 37 rfl ?_
      refine sx_getqN C (T := TX0) (C0 := RX0) (N := 9) (j := 0) dX3_priceTurns_37 fln_X3_67 inw_X0 rfl (by decide) rfl (by decide) lyX_8 rfl 40 rfl ?_
      refine sx_aload_n C dX3_priceTurns_40 0 0 rfl rfl 41 rfl ?_
      refine sx_getq C (T := TX3) (C0 := RX3) (N := 11) (j := 0) dX3_priceTurns_41 fl_X3_39 inw_X3 rfl (by decide) rfl (by decide) lyX_19 rfl 44 rfl ?_
      refine sx_getiN C (T := TX0) (C0 := RX0) (N := 9) (j := 2) dX3_priceTurns_44 fln_X3_64 inw_X0 rfl (by decide) rfl (by decide) lyX_8 rfl 47 rfl ?_
      refine sx_aload_n C dX3_priceTurns_47 0 0 rfl rfl 48 rfl ?_
      refine sx_getq C (T := TX3) (C0 := RX3) (N := 11) (j := 0) dX3_priceTurns_48 fl_X3_39 inw_X3 rfl (by decide) rfl (by decide) lyX_19 rfl 51 rfl ?_
      refine sx_getqN C (T := TX0) (C0 := RX0) (N := 9) (j := 4) dX3_priceTurns_51 fln_X3_71 inw_X0 rfl (by decide) rfl (by decide) lyX_8 rfl 54 rfl ?_
      refine sx_iload_n C dX3_priceTurns_54 1 1 rfl rfl 55 rfl ?_
      refine sx_iald C dX3_priceTurns_55 (by decide) lyX_14 h.1 56 rfl ?_
      replace h := h.2
      refine sx_callV C ht hB (st := []) dX3_priceTurns_56 (c_X4_silenceAround hf h) mi_X4_silenceAround lk_X3_74 mn_X4_silenceAround ms_X4_silenceAround (by decide) lyX_1 rfl rfl rfl rfl ⟨⟨(Nat.le_of_ble_eq_true rfl), (Nat.le_of_ble_eq_true rfl)⟩, (Nat.le_of_ble_eq_true rfl), (Nat.le_of_ble_eq_true rfl)⟩ (Nat.le_of_ble_eq_true rfl) ⟨(Nat.le_of_ble_eq_true rfl), (Nat.le_of_ble_eq_true rfl)⟩ (fun _ _ hx => hx.elim) 59 rfl (fun v g3 h => ?_)
      obtain ⟨⟨r2, rfl, h⟩, rfl⟩ := h
      refine sx_istore_n C dX3_priceTurns_59 2 rfl [(2, .int r2), (0, .ref (b + 19)), (1, .int v1)] (by decide) rfl 60 rfl ?_
      refine sx_aload_n C dX3_priceTurns_60 0 1 rfl rfl 61 rfl ?_
      refine sx_getq C (T := TX3) (C0 := RX3) (N := 11) (j := 3) dX3_priceTurns_61 fl_X3_18 inw_X3 rfl (by decide) rfl (by decide) lyX_19 rfl 64 rfl ?_
      refine sx_iload_n C dX3_priceTurns_64 1 2 rfl rfl 65 rfl ?_
      refine sx_bipush C dX3_priceTurns_65 100 (by decide) 67 rfl ?_
      refine sx_iconst C dX3_priceTurns_67 0 (by decide) 68 rfl ?_
      refine sx_bipush C dX3_priceTurns_68 16 (by decide) 70 rfl ?_
      refine sx_iload_n C dX3_priceTurns_70 2 0 rfl rfl 71 rfl ?_
      refine sx_isub C dX3_priceTurns_71 72 rfl ?_
      refine sx_mmax C dX3_priceTurns_72 lk_X3_80 mth_max.1 mth_max.2.1 mth_max.2.2 ⟨(Nat.le_of_ble_eq_true rfl), (Nat.le_of_ble_eq_true rfl), (Nat.le_of_ble_eq_true rfl), (Nat.le_of_ble_eq_true rfl)⟩ 75 rfl ?_
      refine sx_imul C dX3_priceTurns_75 76 rfl ?_
      refine sx_iast C dX3_priceTurns_76 hB (by decide) lyX_20 h.1 77 rfl (fun g4 eg4 => ?_)
      replace h := h.2 g4 eg4
      obtain ⟨y5, ey5⟩ : ∃ w : Int32, w = v1 + 1 := ⟨_, rfl⟩
      replace h := h y5 ey5
      refine sx_iinc C dX3_priceTurns_77 2 rfl y5 (by rw [ey5]; rfl) [(1, .int y5), (2, .int r2), (0, .ref (b + 19))] (by decide) rfl 80 rfl ?_
      refine sx_goto C dX3_priceTurns_80 22 (by decide) ?_
      exact sx_sub [2, 0] rfl h)
  refine sx_sub (lv' := [(0, .ref (b + 19))]) [0] rfl ?_
  refine sx_aload_n C dX3_priceTurns_0 0 0 rfl rfl 1 rfl ?_
  refine sx_getq C (T := TX3) (C0 := RX3) (N := 11) (j := 3) dX3_priceTurns_1 fl_X3_18 inw_X3 rfl (by decide) rfl (by decide) lyX_19 rfl 4 rfl ?_
  refine sx_iconst C dX3_priceTurns_4 0 (by decide) 5 rfl ?_
  refine sx_callS C ht hB (st := []) dX3_priceTurns_5 (c_J7_fill_53178 hf (by decide) lyX_20 h) mi_J7_fill_53178 lk_X3_58 mt_J7_fill_53178 rfl rfl ⟨⟨(Nat.le_of_ble_eq_true rfl), (Nat.le_of_ble_eq_true rfl)⟩, (Nat.le_of_ble_eq_true rfl), (Nat.le_of_ble_eq_true rfl)⟩ (Nat.le_of_ble_eq_true rfl) ⟨(Nat.le_of_ble_eq_true rfl), (Nat.le_of_ble_eq_true rfl)⟩ (fun _ _ hx => hx.elim) 8 rfl (fun v g6 h => ?_)
  obtain ⟨rfl, h⟩ := h
  refine sx_aload_n C dX3_priceTurns_8 0 0 rfl rfl 9 rfl ?_
  refine sx_getq C (T := TX3) (C0 := RX3) (N := 11) (j := 0) dX3_priceTurns_9 fl_X3_39 inw_X3 rfl (by decide) rfl (by decide) lyX_19 rfl 12 rfl ?_
  refine sx_getiN C (T := TX0) (C0 := RX0) (N := 9) (j := 2) dX3_priceTurns_12 fln_X3_64 inw_X0 rfl (by decide) rfl (by decide) lyX_8 rfl 15 rfl ?_
  refine sx_iconst C dX3_priceTurns_15 5 (by decide) 16 rfl ?_
  refine sx_icmp_ne C dX3_priceTurns_16 20 19 (by decide) rfl (fun c7 => ?_) (fun c7 => ?_)
  · replace h := h.2 c7
    refine sx_iconst C dX3_priceTurns_20 0 (by decide) 21 rfl ?_
    refine sx_istore_n C dX3_priceTurns_21 1 rfl [(1, .int 0), (0, .ref (b + 19))] (by decide) rfl 22 rfl ?_
    exact sx_sub [1, 0] rfl h
  · replace h := h.1 c7
    exact sx_vret C dX3_priceTurns_19 hr (Nat.le_of_ble_eq_true rfl) (Nat.le_of_ble_eq_true rfl) ⟨rfl, h⟩
set_option maxRecDepth 100000 in
set_option maxHeartbeats 4000000 in
theorem c_X3_nextOnPage {l : Launch} {D : va_G} {G : sx_G} {b : Nat} (hf : l.stackTraces = false) {f : sx_F} {x1 : Int32} {Q : Int32 → Prop}  (h : P_X3_nextOnPage f x1 Q) : sx_Met l D G b 129 lyX yX3_nextOnPage cX3_nextOnPage 2 (some .int) 1 13 0 0 [.ref (b + 19), .int x1] f (sx_pi f Q) (fun _ _ => False) := by
  refine sx_enter (own := RX3) hf rfl rfl (Nat.le_of_ble_eq_true rfl) ?_
  intro p e s m args below meth c C hr ht
  have hB : ∀ k, k < 129 → sx_A b 129 s.heap.size (b + k) := fun k h => sx_A.in h
  unfold P_X3_nextOnPage at h
  refine sx_sub (lv' := [(0, .ref (b + 19)), (1, .int x1)]) [0, 1] rfl ?_
  refine sx_iload_n C dX3_nextOnPage_0 1 1 rfl rfl 1 rfl ?_
  refine sx_iconst C dX3_nextOnPage_1 1 (by decide) 2 rfl ?_
  refine sx_iadd C dX3_nextOnPage_2 3 rfl ?_
  refine sx_aload_n C dX3_nextOnPage_3 0 0 rfl rfl 4 rfl ?_
  refine sx_geti C (T := TX3) (C0 := RX3) (N := 11) (j := 2) dX3_nextOnPage_4 fl_X3_15 inw_X3 rfl (by decide) rfl (by decide) lyX_19 rfl 7 rfl ?_
  refine sx_icmp_ge C dX3_nextOnPage_7 16 10 (by decide) rfl (fun c1 => ?_) (fun c1 => ?_)
  · replace h := h.1 c1
    refine sx_iconst C dX3_nextOnPage_16 0 (by decide) 17 rfl ?_
    exact sx_iret C dX3_nextOnPage_17 hr (Nat.le_of_ble_eq_true rfl) (Nat.le_of_ble_eq_true rfl) ⟨⟨_, rfl, h⟩, rfl⟩
  · replace h := h.2 c1
    refine sx_iload_n C dX3_nextOnPage_10 1 1 rfl rfl 11 rfl ?_
    refine sx_iconst C dX3_nextOnPage_11 1 (by decide) 12 rfl ?_
    refine sx_iadd C dX3_nextOnPage_12 13 rfl ?_
    refine sx_goto C dX3_nextOnPage_13 17 (by decide) ?_
    exact sx_iret C dX3_nextOnPage_17 hr (Nat.le_of_ble_eq_true rfl) (Nat.le_of_ble_eq_true rfl) ⟨⟨_, rfl, h⟩, rfl⟩
set_option maxRecDepth 100000 in
set_option maxHeartbeats 4000000 in
theorem c_X3_mayBeLine {l : Launch} {D : va_G} {G : sx_G} {b : Nat} (hf : l.stackTraces = false) {f : sx_F} {x1 : Int32} {x2 : Int32} {Q : Int32 → Prop}  (h : P_X3_mayBeLine f x1 x2 Q) : sx_Met l D G b 129 lyX yX3_mayBeLine cX3_mayBeLine 3 (some .boolean) 2 35 0 0 [.ref (b + 19), .int x1, .int x2] f (sx_pi f Q) (fun _ _ => False) := by
  refine sx_enter (own := RX3) hf rfl rfl (Nat.le_of_ble_eq_true rfl) ?_
  intro p e s m args below meth c C hr ht
  have hB : ∀ k, k < 129 → sx_A b 129 s.heap.size (b + k) := fun k h => sx_A.in h
  unfold P_X3_mayBeLine at h
  replace h := h (sx_J (sx_wp D G b lyX 129) p l e { frames := 2, cells := 0, slots := 0, locals := 35 } s m args below meth c (sx_A b 129 s.heap.size) 3 0 0 (sx_fin (sx_wp D G b lyX 129) (sx_A b 129 s.heap.size) below args s 0 0 (sx_pi f Q) (fun _ _ => False)) f 23 [] [])
  replace h := h (by
    intro h
    refine sx_iconst C dX3_mayBeLine_23 1 (by decide) 24 rfl ?_
    refine sx_goto C dX3_mayBeLine_24 28 (by decide) ?_
    exact sx_zret C dX3_mayBeLine_28 hr (Nat.le_of_ble_eq_true rfl) (Nat.le_of_ble_eq_true rfl) (Or.inr rfl) ⟨⟨_, rfl, h⟩, rfl⟩)
  refine sx_sub (lv' := [(0, .ref (b + 19)), (1, .int x1), (2, .int x2)]) [0, 1, 2] rfl ?_
  refine sx_iload_n C dX3_mayBeLine_0 2 2 rfl rfl 1 rfl ?_
  refine sx_iload_n C dX3_mayBeLine_1 1 1 rfl rfl 2 rfl ?_
  refine sx_isub C dX3_mayBeLine_2 3 rfl ?_
  refine sx_iconst C dX3_mayBeLine_3 1 (by decide) 4 rfl ?_
  refine sx_icmp_eq C dX3_mayBeLine_4 23 7 (by decide) rfl (fun c1 => ?_) (fun c1 => ?_)
  · replace h := h.1 c1
    exact sx_sub [] rfl h
  · replace h := h.2 c1
    refine sx_aload_n C dX3_mayBeLine_7 0 0 rfl rfl 8 rfl ?_
    refine sx_getq C (T := TX3) (C0 := RX3) (N := 11) (j := 0) dX3_mayBeLine_8 fl_X3_39 inw_X3 rfl (by decide) rfl (by decide) lyX_19 rfl 11 rfl ?_
    refine sx_iload_n C dX3_mayBeLine_11 1 1 rfl rfl 12 rfl ?_
    refine sx_iload_n C dX3_mayBeLine_12 2 2 rfl rfl 13 rfl ?_
    refine sx_callV C ht hB (st := []) dX3_mayBeLine_13 (c_X0_leastOf hf h) mi_X0_leastOf lk_X3_106 mn_X0_leastOf ms_X0_leastOf (by decide) lyX_8 rfl rfl rfl rfl ⟨⟨(Nat.le_of_ble_eq_true rfl), (Nat.le_of_ble_eq_true rfl)⟩, (Nat.le_of_ble_eq_true rfl), (Nat.le_of_ble_eq_true rfl)⟩ (Nat.le_of_ble_eq_true rfl) ⟨(Nat.le_of_ble_eq_true rfl), (Nat.le_of_ble_eq_true rfl)⟩ (fun _ _ hx => hx.elim) 16 rfl (fun v g3 h => ?_)
    obtain ⟨⟨r2, rfl, h⟩, rfl⟩ := h
    refine sx_aload_n C dX3_mayBeLine_16 0 0 rfl rfl 17 rfl ?_
    refine sx_geti C (T := TX3) (C0 := RX3) (N := 11) (j := 1) dX3_mayBeLine_17 fl_X3_9 inw_X3 rfl (by decide) rfl (by decide) lyX_19 rfl 20 rfl ?_
    refine sx_icmp_gt C dX3_mayBeLine_20 27 23 (by decide) rfl (fun c4 => ?_) (fun c4 => ?_)
    · replace h := h.1 c4
      refine sx_iconst C dX3_mayBeLine_27 0 (by decide) 28 rfl ?_
      exact sx_zret C dX3_mayBeLine_28 hr (Nat.le_of_ble_eq_true rfl) (Nat.le_of_ble_eq_true rfl) (Or.inl rfl) ⟨⟨_, rfl, h⟩, rfl⟩
    · replace h := h.2 c4
      exact sx_sub [] rfl h
set_option maxRecDepth 100000 in
set_option maxHeartbeats 4000000 in
theorem c_X3_badness {l : Launch} {D : va_G} {G : sx_G} {b : Nat} (hf : l.stackTraces = false) {f : sx_F} {x1 : Int32} {x2 : Int32} {Q : Int32 → Prop}  (h : P_X3_badness f x1 x2 Q) : sx_Met l D G b 129 lyX yX3_badness cX3_badness 4 (some .int) 2 35 0 0 [.ref (b + 19), .int x1, .int x2] f (sx_pi f Q) (fun _ _ => False) := by
  refine sx_enter (own := RX3) hf rfl rfl (Nat.le_of_ble_eq_true rfl) ?_
  intro p e s m args below meth c C hr ht
  have hB : ∀ k, k < 129 → sx_A b 129 s.heap.size (b + k) := fun k h => sx_A.in h
  unfold P_X3_badness at h
  refine sx_sub (lv' := [(0, .ref (b + 19)), (1, .int x1), (2, .int x2)]) [0, 1, 2] rfl ?_
  refine sx_aload_n C dX3_badness_0 0 0 rfl rfl 1 rfl ?_
  refine sx_getq C (T := TX3) (C0 := RX3) (N := 11) (j := 0) dX3_badness_1 fl_X3_39 inw_X3 rfl (by decide) rfl (by decide) lyX_19 rfl 4 rfl ?_
  refine sx_iload_n C dX3_badness_4 1 1 rfl rfl 5 rfl ?_
  refine sx_iload_n C dX3_badness_5 2 2 rfl rfl 6 rfl ?_
  refine sx_callV C ht hB (st := []) dX3_badness_6 (c_X0_widthOf hf h) mi_X0_widthOf lk_X3_109 mn_X0_widthOf ms_X0_widthOf (by decide) lyX_8 rfl rfl rfl rfl ⟨⟨(Nat.le_of_ble_eq_true rfl), (Nat.le_of_ble_eq_true rfl)⟩, (Nat.le_of_ble_eq_true rfl), (Nat.le_of_ble_eq_true rfl)⟩ (Nat.le_of_ble_eq_true rfl) ⟨(Nat.le_of_ble_eq_true rfl), (Nat.le_of_ble_eq_true rfl)⟩ (fun _ _ hx => hx.elim) 9 rfl (fun v g2 h => ?_)
  obtain ⟨⟨r1, rfl, h⟩, rfl⟩ := h
  refine sx_aload_n C dX3_badness_9 0 0 rfl rfl 10 rfl ?_
  refine sx_geti C (T := TX3) (C0 := RX3) (N := 11) (j := 1) dX3_badness_10 fl_X3_9 inw_X3 rfl (by decide) rfl (by decide) lyX_19 rfl 13 rfl ?_
  refine sx_isub C dX3_badness_13 14 rfl ?_
  refine sx_topi (fun y3 ey3 => ?_)
  replace h := h y3 ey3
  refine sx_istore_n C dX3_badness_14 3 rfl [(3, .int y3), (0, .ref (b + 19)), (1, .int x1), (2, .int x2)] (by decide) rfl 15 rfl ?_
  refine sx_iload_n C dX3_badness_15 3 0 rfl rfl 16 rfl ?_
  refine sx_if_le C dX3_badness_16 27 19 (by decide) rfl (fun c4 => ?_) (fun c4 => ?_)
  · replace h := h.1 c4
    refine sx_iload_n C dX3_badness_27 2 3 rfl rfl 28 rfl ?_
    refine sx_aload_n C dX3_badness_28 0 1 rfl rfl 29 rfl ?_
    refine sx_getq C (T := TX3) (C0 := RX3) (N := 11) (j := 0) dX3_badness_29 fl_X3_39 inw_X3 rfl (by decide) rfl (by decide) lyX_19 rfl 32 rfl ?_
    refine sx_getiN C (T := TX0) (C0 := RX0) (N := 9) (j := 3) dX3_badness_32 fln_X3_46 inw_X0 rfl (by decide) rfl (by decide) lyX_8 rfl 35 rfl ?_
    refine sx_icmp_ne C dX3_badness_35 42 38 (by decide) rfl (fun c5 => ?_) (fun c5 => ?_)
    · replace h := h.2 c5
      refine sx_iload_n C dX3_badness_42 3 0 rfl rfl 43 rfl ?_
      refine sx_iload_n C dX3_badness_43 3 0 rfl rfl 44 rfl ?_
      refine sx_imul C dX3_badness_44 45 rfl ?_
      exact sx_iret C dX3_badness_45 hr (Nat.le_of_ble_eq_true rfl) (Nat.le_of_ble_eq_true rfl) ⟨⟨_, rfl, h⟩, rfl⟩
    · replace h := h.1 c5
      refine sx_iconst C dX3_badness_38 0 (by decide) 39 rfl ?_
      refine sx_goto C dX3_badness_39 45 (by decide) ?_
      exact sx_iret C dX3_badness_45 hr (Nat.le_of_ble_eq_true rfl) (Nat.le_of_ble_eq_true rfl) ⟨⟨_, rfl, h⟩, rfl⟩
  · replace h := h.2 c4
    refine sx_iconst C dX3_badness_19 2 (by decide) 20 rfl ?_
    refine sx_iload_n C dX3_badness_20 3 0 rfl rfl 21 rfl ?_
    refine sx_imul C dX3_badness_21 22 rfl ?_
    refine sx_iconst C dX3_badness_22 2 (by decide) 23 rfl ?_
    refine sx_imul C dX3_badness_23 24 rfl ?_
    refine sx_iload_n C dX3_badness_24 3 0 rfl rfl 25 rfl ?_
    refine sx_imul C dX3_badness_25 26 rfl ?_
    exact sx_iret C dX3_badness_26 hr (Nat.le_of_ble_eq_true rfl) (Nat.le_of_ble_eq_true rfl) ⟨⟨_, rfl, h⟩, rfl⟩
set_option maxRecDepth 100000 in
set_option maxHeartbeats 4000000 in
theorem c_X3_turnAhead {l : Launch} {D : va_G} {G : sx_G} {b : Nat} (hf : l.stackTraces = false) {f : sx_F} {x1 : Int32} {x2 : Int32} {Q : Int32 → Prop}  (h : P_X3_turnAhead f x1 x2 Q) : sx_Met l D G b 129 lyX yX3_turnAhead cX3_turnAhead 3 (some .int) 1 13 0 0 [.ref (b + 19), .int x1, .int x2] f (sx_pi f Q) (fun _ _ => False) := by
  refine sx_enter (own := RX3) hf rfl rfl (Nat.le_of_ble_eq_true rfl) ?_
  intro p e s m args below meth c C hr ht
  have hB : ∀ k, k < 129 → sx_A b 129 s.heap.size (b + k) := fun k h => sx_A.in h
  unfold P_X3_turnAhead at h
  refine sx_sub (lv' := [(0, .ref (b + 19)), (1, .int x1), (2, .int x2)]) [0, 1, 2] rfl ?_
  refine sx_iload_n C dX3_turnAhead_0 2 2 rfl rfl 1 rfl ?_
  refine sx_if_ne C dX3_turnAhead_1 13 4 (by decide) rfl (fun c1 => ?_) (fun c1 => ?_)
  · replace h := h.2 c1
    refine sx_iconst C dX3_turnAhead_13 0 (by decide) 14 rfl ?_
    exact sx_iret C dX3_turnAhead_14 hr (Nat.le_of_ble_eq_true rfl) (Nat.le_of_ble_eq_true rfl) ⟨⟨_, rfl, h⟩, rfl⟩
  · replace h := h.1 c1
    refine sx_aload_n C dX3_turnAhead_4 0 0 rfl rfl 5 rfl ?_
    refine sx_getq C (T := TX3) (C0 := RX3) (N := 11) (j := 3) dX3_turnAhead_5 fl_X3_18 inw_X3 rfl (by decide) rfl (by decide) lyX_19 rfl 8 rfl ?_
    refine sx_iload_n C dX3_turnAhead_8 1 1 rfl rfl 9 rfl ?_
    refine sx_iald C dX3_turnAhead_9 (by decide) lyX_20 h.1 10 rfl ?_
    replace h := h.2
    refine sx_goto C dX3_turnAhead_10 14 (by decide) ?_
    exact sx_iret C dX3_turnAhead_14 hr (Nat.le_of_ble_eq_true rfl) (Nat.le_of_ble_eq_true rfl) ⟨⟨_, rfl, h⟩, rfl⟩
set_option maxRecDepth 100000 in
set_option maxHeartbeats 4000000 in
theorem c_X3_chooseLine {l : Launch} {D : va_G} {G : sx_G} {b : Nat} (hf : l.stackTraces = false) {f : sx_F} {x1 : Int32} {x2 : Int32} {Q : sx_F → Prop}  (h : P_X3_chooseLine f x1 x2 Q) : sx_Met l D G b 129 lyX yX3_chooseLine cX3_chooseLine 7 (none) 3 58 0 0 [.ref (b + 19), .int x1, .int x2] f (sx_qv Q) (fun _ _ => False) := by
  refine sx_enter (own := RX3) hf rfl rfl (Nat.le_of_ble_eq_true rfl) ?_
  intro p e s m args below meth c C hr ht
  have hB : ∀ k, k < 129 → sx_A b 129 s.heap.size (b + k) := fun k h => sx_A.in h
  unfold P_X3_chooseLine at h
  replace h := h (fun (f : sx_F) (v3 : Int32) (v4 : Int32) => sx_J (sx_wp D G b lyX 129) p l e { frames := 3, cells := 0, slots := 0, locals := 58 } s m args below meth c (sx_A b 129 s.heap.size) 7 0 0 (sx_fin (sx_wp D G b lyX 129) (sx_A b 129 s.heap.size) below args s 0 0 (sx_qv Q) (fun _ _ => False)) f 30 [(0, .ref (b + 19)), (1, .int x1), (2, .int x2), (3, .int v3), (4, .int v4)] [])
  replace h := h (fun (f : sx_F) (v3 : Int32) (v4 : Int32) (v5 : Int32) (v6 : Int32) => sx_J (sx_wp D G b lyX 129) p l e { frames := 3, cells := 0, slots := 0, locals := 58 } s m args below meth c (sx_A b 129 s.heap.size) 7 0 0 (sx_fin (sx_wp D G b lyX 129) (sx_A b 129 s.heap.size) below args s 0 0 (sx_qv Q) (fun _ _ => False)) f 134 [(0, .ref (b + 19)), (1, .int x1), (2, .int x2), (3, .int v3), (4, .int v4), (5, .int v5), (6, .int v6)] [])
  replace h := h (fun (f : sx_F) (v3 : Int32) (v4 : Int32) => sx_J (sx_wp D G b lyX 129) p l e { frames := 3, cells := 0, slots := 0, locals := 58 } s m args below meth c (sx_A b 129 s.heap.size) 7 0 0 (sx_fin (sx_wp D G b lyX 129) (sx_A b 129 s.heap.size) below args s 0 0 (sx_qv Q) (fun _ _ => False)) f 164 [(0, .ref (b + 19)), (1, .int x1), (2, .int x2), (3, .int v3), (4, .int v4)] [])
  replace h := h (by
    intro f v3 v4 h
    refine sx_iload C dX3_chooseLine_30 4 rfl 32 rfl ?_
    refine sx_aload_n C dX3_chooseLine_32 0 0 rfl rfl 33 rfl ?_
    refine sx_getq C (T := TX3) (C0 := RX3) (N := 11) (j := 0) dX3_chooseLine_33 fl_X3_39 inw_X3 rfl (by decide) rfl (by decide) lyX_19 rfl 36 rfl ?_
    refine sx_getiN C (T := TX0) (C0 := RX0) (N := 9) (j := 3) dX3_chooseLine_36 fln_X3_46 inw_X0 rfl (by decide) rfl (by decide) lyX_8 rfl 39 rfl ?_
    refine sx_icmp_gt C dX3_chooseLine_39 170 42 (by decide) rfl (fun c1 => ?_) (fun c1 => ?_)
    · replace h := h.1 c1
      exact sx_vret C dX3_chooseLine_170 hr (Nat.le_of_ble_eq_true rfl) (Nat.le_of_ble_eq_true rfl) ⟨rfl, h⟩
    · replace h := h.2 c1
      refine sx_aload_n C dX3_chooseLine_42 0 0 rfl rfl 43 rfl ?_
      refine sx_iload_n C dX3_chooseLine_43 1 1 rfl rfl 44 rfl ?_
      refine sx_iload C dX3_chooseLine_44 4 rfl 46 rfl ?_
      refine sx_callV C ht hB (st := []) dX3_chooseLine_46 (c_X3_mayBeLine hf h) mi_X3_mayBeLine lk_X3_90 mn_X3_mayBeLine ms_X3_mayBeLine (by decide) lyX_19 rfl rfl rfl rfl ⟨⟨(Nat.le_of_ble_eq_true rfl), (Nat.le_of_ble_eq_true rfl)⟩, (Nat.le_of_ble_eq_true rfl), (Nat.le_of_ble_eq_true rfl)⟩ (Nat.le_of_ble_eq_true rfl) ⟨(Nat.le_of_ble_eq_true rfl), (Nat.le_of_ble_eq_true rfl)⟩ (fun _ _ hx => hx.elim) 49 rfl (fun v g3 h => ?_)
      obtain ⟨⟨r2, rfl, h⟩, rfl⟩ := h
      refine sx_if_ne C dX3_chooseLine_49 55 52 (by decide) rfl (fun c4 => ?_) (fun c4 => ?_)
      · replace h := h.2 c4
        refine sx_aload_n C dX3_chooseLine_55 0 0 rfl rfl 56 rfl ?_
        refine sx_iload_n C dX3_chooseLine_56 1 1 rfl rfl 57 rfl ?_
        refine sx_iload C dX3_chooseLine_57 4 rfl 59 rfl ?_
        refine sx_callV C ht hB (st := []) dX3_chooseLine_59 (c_X3_badness hf h) mi_X3_badness lk_X3_94 mn_X3_badness ms_X3_badness (by decide) lyX_19 rfl rfl rfl rfl ⟨⟨(Nat.le_of_ble_eq_true rfl), (Nat.le_of_ble_eq_true rfl)⟩, (Nat.le_of_ble_eq_true rfl), (Nat.le_of_ble_eq_true rfl)⟩ (Nat.le_of_ble_eq_true rfl) ⟨(Nat.le_of_ble_eq_true rfl), (Nat.le_of_ble_eq_true rfl)⟩ (fun _ _ hx => hx.elim) 62 rfl (fun v g6 h => ?_)
        obtain ⟨⟨r5, rfl, h⟩, rfl⟩ := h
        refine sx_aload_n C dX3_chooseLine_62 0 0 rfl rfl 63 rfl ?_
        refine sx_iload C dX3_chooseLine_63 4 rfl 65 rfl ?_
        refine sx_iload_n C dX3_chooseLine_65 3 3 rfl rfl 66 rfl ?_
        refine sx_callV C ht hB (st := [.int r5]) dX3_chooseLine_66 (c_X3_turnAhead hf h) mi_X3_turnAhead lk_X3_97 mn_X3_turnAhead ms_X3_turnAhead (by decide) lyX_19 rfl rfl rfl rfl ⟨⟨(Nat.le_of_ble_eq_true rfl), (Nat.le_of_ble_eq_true rfl)⟩, (Nat.le_of_ble_eq_true rfl), (Nat.le_of_ble_eq_true rfl)⟩ (Nat.le_of_ble_eq_true rfl) ⟨(Nat.le_of_ble_eq_true rfl), (Nat.le_of_ble_eq_true rfl)⟩ (fun _ _ hx => hx.elim) 69 rfl (fun v g8 h => ?_)
        obtain ⟨⟨r7, rfl, h⟩, rfl⟩ := h
        refine sx_iadd C dX3_chooseLine_69 70 rfl ?_
        refine sx_aload_n C dX3_chooseLine_70 0 0 rfl rfl 71 rfl ?_
        refine sx_getq C (T := TX3) (C0 := RX3) (N := 11) (j := 4) dX3_chooseLine_71 fl_X3_24 inw_X3 rfl (by decide) rfl (by decide) lyX_19 rfl 74 rfl ?_
        refine sx_iload C dX3_chooseLine_74 4 rfl 76 rfl ?_
        have hn10 := h.1
        refine sx_aaldn C dX3_chooseLine_76 (22 + v4.toNatClampNeg) (by decide) lyX_21 rfl rfl hn10 rfl 77 rfl (fun w9 ew9 => ?_)
        replace h := h.2 w9 ew9
        refine sx_iload_n C dX3_chooseLine_77 3 3 rfl rfl 78 rfl ?_
        refine sx_iald C dX3_chooseLine_78 (rowX_21_lt hn10 ew9) (rowX_21_ly hn10 ew9) h.1 79 rfl ?_
        replace h := h.2
        refine sx_iadd C dX3_chooseLine_79 80 rfl ?_
        refine sx_topi (fun y11 ey11 => ?_)
        replace h := h y11 ey11
        refine sx_istore C dX3_chooseLine_80 [(5, .int y11), (0, .ref (b + 19)), (1, .int x1), (2, .int x2), (3, .int v3), (4, .int v4)] (by decide) rfl 82 rfl ?_
        refine sx_iconst C dX3_chooseLine_82 1 (by decide) 83 rfl ?_
        refine sx_aload_n C dX3_chooseLine_83 0 1 rfl rfl 84 rfl ?_
        refine sx_getq C (T := TX3) (C0 := RX3) (N := 11) (j := 5) dX3_chooseLine_84 fl_X3_27 inw_X3 rfl (by decide) rfl (by decide) lyX_19 rfl 87 rfl ?_
        refine sx_iload C dX3_chooseLine_87 5 rfl 89 rfl ?_
        have hn13 := h.1
        refine sx_aaldn C dX3_chooseLine_89 (36 + v4.toNatClampNeg) (by decide) lyX_35 rfl rfl hn13 rfl 90 rfl (fun w12 ew12 => ?_)
        replace h := h.2 w12 ew12
        refine sx_iload_n C dX3_chooseLine_90 3 4 rfl rfl 91 rfl ?_
        refine sx_iald C dX3_chooseLine_91 (rowX_35_lt hn13 ew12) (rowX_35_ly hn13 ew12) h.1 92 rfl ?_
        replace h := h.2
        refine sx_iadd C dX3_chooseLine_92 93 rfl ?_
        refine sx_topi (fun y14 ey14 => ?_)
        replace h := h y14 ey14
        refine sx_istore C dX3_chooseLine_93 [(6, .int y14), (5, .int y11), (0, .ref (b + 19)), (1, .int x1), (2, .int x2), (3, .int v3), (4, .int v4)] (by decide) rfl 95 rfl ?_
        refine sx_iload C dX3_chooseLine_95 1 rfl 97 rfl ?_
        refine sx_aload_n C dX3_chooseLine_97 0 2 rfl rfl 98 rfl ?_
        refine sx_getq C (T := TX3) (C0 := RX3) (N := 11) (j := 4) dX3_chooseLine_98 fl_X3_24 inw_X3 rfl (by decide) rfl (by decide) lyX_19 rfl 101 rfl ?_
        refine sx_iload_n C dX3_chooseLine_101 1 3 rfl rfl 102 rfl ?_
        have hn16 := h.1
        refine sx_aaldn C dX3_chooseLine_102 (22 + x1.toNatClampNeg) (by decide) lyX_21 rfl rfl hn16 rfl 103 rfl (fun w15 ew15 => ?_)
        replace h := h.2 w15 ew15
        refine sx_iload_n C dX3_chooseLine_103 2 4 rfl rfl 104 rfl ?_
        refine sx_iald C dX3_chooseLine_104 (rowX_21_lt hn16 ew15) (rowX_21_ly hn16 ew15) h.1 105 rfl ?_
        replace h := h.2
        refine sx_icmp_lt C dX3_chooseLine_105 134 108 (by decide) rfl (fun c17 => ?_) (fun c17 => ?_)
        · replace h := h.1 c17
          exact sx_sub [2, 3, 4, 5, 6, 1, 0] rfl h
        · replace h := h.2 c17
          refine sx_iload C dX3_chooseLine_108 1 rfl 110 rfl ?_
          refine sx_aload_n C dX3_chooseLine_110 0 2 rfl rfl 111 rfl ?_
          refine sx_getq C (T := TX3) (C0 := RX3) (N := 11) (j := 4) dX3_chooseLine_111 fl_X3_24 inw_X3 rfl (by decide) rfl (by decide) lyX_19 rfl 114 rfl ?_
          refine sx_iload_n C dX3_chooseLine_114 1 3 rfl rfl 115 rfl ?_
          have hn19 := h.1
          refine sx_aaldn C dX3_chooseLine_115 (22 + x1.toNatClampNeg) (by decide) lyX_21 rfl rfl hn19 rfl 116 rfl (fun w18 ew18 => ?_)
          replace h := h.2 w18 ew18
          refine sx_iload_n C dX3_chooseLine_116 2 4 rfl rfl 117 rfl ?_
          refine sx_iald C dX3_chooseLine_117 (rowX_21_lt hn19 ew18) (rowX_21_ly hn19 ew18) h.1 118 rfl ?_
          replace h := h.2
          refine sx_icmp_ne C dX3_chooseLine_118 164 121 (by decide) rfl (fun c20 => ?_) (fun c20 => ?_)
          · replace h := h.2 c20
            exact sx_sub [2, 3, 4, 5, 6] rfl h
          · replace h := h.1 c20
            refine sx_iload C dX3_chooseLine_121 0 rfl 123 rfl ?_
            refine sx_aload_n C dX3_chooseLine_123 0 2 rfl rfl 124 rfl ?_
            refine sx_getq C (T := TX3) (C0 := RX3) (N := 11) (j := 5) dX3_chooseLine_124 fl_X3_27 inw_X3 rfl (by decide) rfl (by decide) lyX_19 rfl 127 rfl ?_
            refine sx_iload_n C dX3_chooseLine_127 1 3 rfl rfl 128 rfl ?_
            have hn22 := h.1
            refine sx_aaldn C dX3_chooseLine_128 (36 + x1.toNatClampNeg) (by decide) lyX_35 rfl rfl hn22 rfl 129 rfl (fun w21 ew21 => ?_)
            replace h := h.2 w21 ew21
            refine sx_iload_n C dX3_chooseLine_129 2 4 rfl rfl 130 rfl ?_
            refine sx_iald C dX3_chooseLine_130 (rowX_35_lt hn22 ew21) (rowX_35_ly hn22 ew21) h.1 131 rfl ?_
            replace h := h.2
            refine sx_icmp_ge C dX3_chooseLine_131 164 134 (by decide) rfl (fun c23 => ?_) (fun c23 => ?_)
            · replace h := h.1 c23
              exact sx_sub [2, 3, 4, 5, 6] rfl h
            · replace h := h.2 c23
              exact sx_sub [2, 3, 4, 5, 6, 1, 0] rfl h
      · replace h := h.1 c4
        refine sx_goto C dX3_chooseLine_52 170 (by decide) ?_
        exact sx_vret C dX3_chooseLine_170 hr (Nat.le_of_ble_eq_true rfl) (Nat.le_of_ble_eq_true rfl) ⟨rfl, h⟩)
  replace h := h (by
    intro f v3 v4 v5 v6 h
    refine sx_aload_n C dX3_chooseLine_134 0 0 rfl rfl 135 rfl ?_
    refine sx_getq C (T := TX3) (C0 := RX3) (N := 11) (j := 4) dX3_chooseLine_135 fl_X3_24 inw_X3 rfl (by decide) rfl (by decide) lyX_19 rfl 138 rfl ?_
    refine sx_iload_n C dX3_chooseLine_138 1 1 rfl rfl 139 rfl ?_
    have hn25 := h.1
    refine sx_aaldn C dX3_chooseLine_139 (22 + x1.toNatClampNeg) (by decide) lyX_21 rfl rfl hn25 rfl 140 rfl (fun w24 ew24 => ?_)
    replace h := h.2 w24 ew24
    refine sx_iload_n C dX3_chooseLine_140 2 2 rfl rfl 141 rfl ?_
    refine sx_iload C dX3_chooseLine_141 5 rfl 143 rfl ?_
    refine sx_iast C dX3_chooseLine_143 hB (rowX_21_lt hn25 ew24) (rowX_21_ly hn25 ew24) h.1 144 rfl (fun g26 eg26 => ?_)
    replace h := h.2 g26 eg26
    refine sx_aload_n C dX3_chooseLine_144 0 0 rfl rfl 145 rfl ?_
    refine sx_getq C (T := TX3) (C0 := RX3) (N := 11) (j := 5) dX3_chooseLine_145 fl_X3_27 inw_X3 rfl (by decide) rfl (by decide) lyX_19 rfl 148 rfl ?_
    refine sx_iload_n C dX3_chooseLine_148 1 1 rfl rfl 149 rfl ?_
    have hn28 := h.1
    refine sx_aaldn C dX3_chooseLine_149 (36 + x1.toNatClampNeg) (by decide) lyX_35 rfl rfl hn28 rfl 150 rfl (fun w27 ew27 => ?_)
    replace h := h.2 w27 ew27
    refine sx_iload_n C dX3_chooseLine_150 2 2 rfl rfl 151 rfl ?_
    refine sx_iload C dX3_chooseLine_151 6 rfl 153 rfl ?_
    refine sx_iast C dX3_chooseLine_153 hB (rowX_35_lt hn28 ew27) (rowX_35_ly hn28 ew27) h.1 154 rfl (fun g29 eg29 => ?_)
    replace h := h.2 g29 eg29
    refine sx_aload_n C dX3_chooseLine_154 0 0 rfl rfl 155 rfl ?_
    refine sx_getq C (T := TX3) (C0 := RX3) (N := 11) (j := 6) dX3_chooseLine_155 fl_X3_30 inw_X3 rfl (by decide) rfl (by decide) lyX_19 rfl 158 rfl ?_
    refine sx_iload_n C dX3_chooseLine_158 1 1 rfl rfl 159 rfl ?_
    have hn31 := h.1
    refine sx_aaldn C dX3_chooseLine_159 (50 + x1.toNatClampNeg) (by decide) lyX_49 rfl rfl hn31 rfl 160 rfl (fun w30 ew30 => ?_)
    replace h := h.2 w30 ew30
    refine sx_iload_n C dX3_chooseLine_160 2 2 rfl rfl 161 rfl ?_
    refine sx_iload C dX3_chooseLine_161 4 rfl 163 rfl ?_
    refine sx_iast C dX3_chooseLine_163 hB (rowX_49_lt hn31 ew30) (rowX_49_ly hn31 ew30) h.1 164 rfl (fun g32 eg32 => ?_)
    replace h := h.2 g32 eg32
    exact sx_sub [0, 1, 2, 3, 4] rfl h)
  replace h := h (by
    intro f v3 v4 h
    obtain ⟨y33, ey33⟩ : ∃ w : Int32, w = v4 + 1 := ⟨_, rfl⟩
    replace h := h y33 ey33
    refine sx_iinc C dX3_chooseLine_164 4 rfl y33 (by rw [ey33]; rfl) [(4, .int y33), (0, .ref (b + 19)), (1, .int x1), (2, .int x2), (3, .int v3)] (by decide) rfl 167 rfl ?_
    refine sx_goto C dX3_chooseLine_167 30 (by decide) ?_
    exact sx_sub [1, 2, 3, 4, 0] rfl h)
  refine sx_sub (lv' := [(0, .ref (b + 19)), (1, .int x1), (2, .int x2)]) [0, 1, 2] rfl ?_
  refine sx_aload_n C dX3_chooseLine_0 0 0 rfl rfl 1 rfl ?_
  refine sx_iload_n C dX3_chooseLine_1 2 2 rfl rfl 2 rfl ?_
  refine sx_callV C ht hB (st := []) dX3_chooseLine_2 (c_X3_nextOnPage hf h) mi_X3_nextOnPage lk_X3_85 mn_X3_nextOnPage ms_X3_nextOnPage (by decide) lyX_19 rfl rfl rfl rfl ⟨⟨(Nat.le_of_ble_eq_true rfl), (Nat.le_of_ble_eq_true rfl)⟩, (Nat.le_of_ble_eq_true rfl), (Nat.le_of_ble_eq_true rfl)⟩ (Nat.le_of_ble_eq_true rfl) ⟨(Nat.le_of_ble_eq_true rfl), (Nat.le_of_ble_eq_true rfl)⟩ (fun _ _ hx => hx.elim) 5 rfl (fun v g35 h => ?_)
  obtain ⟨⟨r34, rfl, h⟩, rfl⟩ := h
  refine sx_istore_n C dX3_chooseLine_5 3 rfl [(3, .int r34), (0, .ref (b + 19)), (1, .int x1), (2, .int x2)] (by decide) rfl 6 rfl ?_
  refine sx_aload_n C dX3_chooseLine_6 0 1 rfl rfl 7 rfl ?_
  refine sx_getq C (T := TX3) (C0 := RX3) (N := 11) (j := 4) dX3_chooseLine_7 fl_X3_24 inw_X3 rfl (by decide) rfl (by decide) lyX_19 rfl 10 rfl ?_
  refine sx_iload_n C dX3_chooseLine_10 1 2 rfl rfl 11 rfl ?_
  have hn37 := h.1
  refine sx_aaldn C dX3_chooseLine_11 (22 + x1.toNatClampNeg) (by decide) lyX_21 rfl rfl hn37 rfl 12 rfl (fun w36 ew36 => ?_)
  replace h := h.2 w36 ew36
  refine sx_iload_n C dX3_chooseLine_12 2 3 rfl rfl 13 rfl ?_
  refine sx_ldci C dX3_chooseLine_13 1000000000 kc_X3_89 15 rfl ?_
  refine sx_iast C dX3_chooseLine_15 hB (rowX_21_lt hn37 ew36) (rowX_21_ly hn37 ew36) h.1 16 rfl (fun g38 eg38 => ?_)
  replace h := h.2 g38 eg38
  refine sx_aload_n C dX3_chooseLine_16 0 1 rfl rfl 17 rfl ?_
  refine sx_getq C (T := TX3) (C0 := RX3) (N := 11) (j := 5) dX3_chooseLine_17 fl_X3_27 inw_X3 rfl (by decide) rfl (by decide) lyX_19 rfl 20 rfl ?_
  refine sx_iload_n C dX3_chooseLine_20 1 2 rfl rfl 21 rfl ?_
  have hn40 := h.1
  refine sx_aaldn C dX3_chooseLine_21 (36 + x1.toNatClampNeg) (by decide) lyX_35 rfl rfl hn40 rfl 22 rfl (fun w39 ew39 => ?_)
  replace h := h.2 w39 ew39
  refine sx_iload_n C dX3_chooseLine_22 2 3 rfl rfl 23 rfl ?_
  refine sx_iconst C dX3_chooseLine_23 0 (by decide) 24 rfl ?_
  refine sx_iast C dX3_chooseLine_24 hB (rowX_35_lt hn40 ew39) (rowX_35_ly hn40 ew39) h.1 25 rfl (fun g41 eg41 => ?_)
  replace h := h.2 g41 eg41
  refine sx_iload_n C dX3_chooseLine_25 1 2 rfl rfl 26 rfl ?_
  refine sx_iconst C dX3_chooseLine_26 1 (by decide) 27 rfl ?_
  refine sx_iadd C dX3_chooseLine_27 28 rfl ?_
  refine sx_topi (fun y42 ey42 => ?_)
  replace h := h y42 ey42
  refine sx_istore C dX3_chooseLine_28 [(4, .int y42), (3, .int r34), (0, .ref (b + 19)), (1, .int x1), (2, .int x2)] (by decide) rfl 30 rfl ?_
  exact sx_sub [2, 3, 4, 1, 0] rfl h
set_option maxRecDepth 100000 in
set_option maxHeartbeats 4000000 in
theorem c_X3_setLines {l : Launch} {D : va_G} {G : sx_G} {b : Nat} (hf : l.stackTraces = false) {f : sx_F}  {Q : sx_F → Prop}  (h : P_X3_setLines f  Q) : sx_Met l D G b 129 lyX yX3_setLines cX3_setLines 6 (none) 2 35 0 0 [.ref (b + 19)] f (sx_qv Q) (fun _ _ => False) := by
  refine sx_enter (own := RX3) hf rfl rfl (Nat.le_of_ble_eq_true rfl) ?_
  intro p e s m args below meth c C hr ht
  have hB : ∀ k, k < 129 → sx_A b 129 s.heap.size (b + k) := fun k h => sx_A.in h
  unfold P_X3_setLines at h
  replace h := h (fun (f : sx_F) (v1 : Int32) (v2 : Int32) (v3 : Int32) => sx_J (sx_wp D G b lyX 129) p l e { frames := 2, cells := 0, slots := 0, locals := 35 } s m args below meth c (sx_A b 129 s.heap.size) 6 0 0 (sx_fin (sx_wp D G b lyX 129) (sx_A b 129 s.heap.size) below args s 0 0 (sx_qv Q) (fun _ _ => False)) f 23 [(0, .ref (b + 19)), (1, .int v1), (2, .int v2), (3, .int v3)] [])
  replace h := h (fun (f : sx_F) (v2 : Int32) (v3 : Int32) (v4 : Int32) (v5 : Int32) => sx_J (sx_wp D G b lyX 129) p l e { frames := 2, cells := 0, slots := 0, locals := 35 } s m args below meth c (sx_A b 129 s.heap.size) 6 0 0 (sx_fin (sx_wp D G b lyX 129) (sx_A b 129 s.heap.size) below args s 0 0 (sx_qv Q) (fun _ _ => False)) f 51 [(0, .ref (b + 19)), (2, .int v2), (3, .int v3), (4, .int v4), (5, .int v5)] [])
  replace h := h (by
    intro f v1 v2 v3 h
    refine sx_iload_n C dX3_setLines_23 3 3 rfl rfl 24 rfl ?_
    refine sx_aload_n C dX3_setLines_24 0 0 rfl rfl 25 rfl ?_
    refine sx_geti C (T := TX3) (C0 := RX3) (N := 11) (j := 7) dX3_setLines_25 fl_X3_100 inw_X3 rfl (by decide) rfl (by decide) lyX_19 rfl 28 rfl ?_
    refine sx_icmp_ge C dX3_setLines_28 103 31 (by decide) rfl (fun c1 => ?_) (fun c1 => ?_)
    · replace h := h.1 c1
      refine sx_aload_n C dX3_setLines_103 0 0 rfl rfl 104 rfl ?_
      refine sx_getq C (T := TX3) (C0 := RX3) (N := 11) (j := 9) dX3_setLines_104 fl_X3_33 inw_X3 rfl (by decide) rfl (by decide) lyX_19 rfl 107 rfl ?_
      refine sx_aload_n C dX3_setLines_107 0 0 rfl rfl 108 rfl ?_
      refine sx_geti C (T := TX3) (C0 := RX3) (N := 11) (j := 7) dX3_setLines_108 fl_X3_100 inw_X3 rfl (by decide) rfl (by decide) lyX_19 rfl 111 rfl ?_
      refine sx_iload_n C dX3_setLines_111 1 1 rfl rfl 112 rfl ?_
      refine sx_iast C dX3_setLines_112 hB (by decide) lyX_63 h.1 113 rfl (fun g2 eg2 => ?_)
      replace h := h.2 g2 eg2
      exact sx_vret C dX3_setLines_113 hr (Nat.le_of_ble_eq_true rfl) (Nat.le_of_ble_eq_true rfl) ⟨rfl, h⟩
    · replace h := h.2 c1
      refine sx_aload_n C dX3_setLines_31 0 0 rfl rfl 32 rfl ?_
      refine sx_getq C (T := TX3) (C0 := RX3) (N := 11) (j := 9) dX3_setLines_32 fl_X3_33 inw_X3 rfl (by decide) rfl (by decide) lyX_19 rfl 35 rfl ?_
      refine sx_iload_n C dX3_setLines_35 3 3 rfl rfl 36 rfl ?_
      refine sx_iload_n C dX3_setLines_36 1 1 rfl rfl 37 rfl ?_
      refine sx_iast C dX3_setLines_37 hB (by decide) lyX_63 h.1 38 rfl (fun g3 eg3 => ?_)
      replace h := h.2 g3 eg3
      refine sx_aload_n C dX3_setLines_38 0 0 rfl rfl 39 rfl ?_
      refine sx_getq C (T := TX3) (C0 := RX3) (N := 11) (j := 6) dX3_setLines_39 fl_X3_30 inw_X3 rfl (by decide) rfl (by decide) lyX_19 rfl 42 rfl ?_
      refine sx_iload_n C dX3_setLines_42 1 1 rfl rfl 43 rfl ?_
      have hn5 := h.1
      refine sx_aaldn C dX3_setLines_43 (50 + v1.toNatClampNeg) (by decide) lyX_49 rfl rfl hn5 rfl 44 rfl (fun w4 ew4 => ?_)
      replace h := h.2 w4 ew4
      refine sx_iload_n C dX3_setLines_44 2 2 rfl rfl 45 rfl ?_
      refine sx_iald C dX3_setLines_45 (rowX_49_lt hn5 ew4) (rowX_49_ly hn5 ew4) h.1 46 rfl ?_
      replace h := h.2
      refine sx_topi (fun y6 ey6 => ?_)
      replace h := h y6 ey6
      refine sx_istore C dX3_setLines_46 [(4, .int y6), (0, .ref (b + 19)), (1, .int v1), (2, .int v2), (3, .int v3)] (by decide) rfl 48 rfl ?_
      refine sx_iload_n C dX3_setLines_48 1 2 rfl rfl 49 rfl ?_
      refine sx_istore C dX3_setLines_49 [(5, .int v1), (4, .int y6), (0, .ref (b + 19)), (1, .int v1), (2, .int v2), (3, .int v3)] (by decide) rfl 51 rfl ?_
      exact sx_sub [2, 4, 5, 1, 0] rfl h)
  replace h := h (by
    intro f v2 v3 v4 v5 h
    refine sx_iload C dX3_setLines_51 4 rfl 53 rfl ?_
    refine sx_iload C dX3_setLines_53 3 rfl 55 rfl ?_
    refine sx_icmp_ge C dX3_setLines_55 72 58 (by decide) rfl (fun c7 => ?_) (fun c7 => ?_)
    · replace h := h.1 c7
      refine sx_aload_n C dX3_setLines_72 0 0 rfl rfl 73 rfl ?_
      refine sx_iload_n C dX3_setLines_73 2 1 rfl rfl 74 rfl ?_
      refine sx_callV C ht hB (st := []) dX3_setLines_74 (c_X3_nextOnPage hf h) mi_X3_nextOnPage lk_X3_85 mn_X3_nextOnPage ms_X3_nextOnPage (by decide) lyX_19 rfl rfl rfl rfl ⟨⟨(Nat.le_of_ble_eq_true rfl), (Nat.le_of_ble_eq_true rfl)⟩, (Nat.le_of_ble_eq_true rfl), (Nat.le_of_ble_eq_true rfl)⟩ (Nat.le_of_ble_eq_true rfl) ⟨(Nat.le_of_ble_eq_true rfl), (Nat.le_of_ble_eq_true rfl)⟩ (fun _ _ hx => hx.elim) 77 rfl (fun v g9 h => ?_)
      obtain ⟨⟨r8, rfl, h⟩, rfl⟩ := h
      refine sx_istore_n C dX3_setLines_77 2 rfl [(2, .int r8), (0, .ref (b + 19)), (3, .int v3), (4, .int v4), (5, .int v5)] (by decide) rfl 78 rfl ?_
      refine sx_aload_n C dX3_setLines_78 0 1 rfl rfl 79 rfl ?_
      refine sx_dup C dX3_setLines_79 rfl 80 rfl ?_
      refine sx_geti C (T := TX3) (C0 := RX3) (N := 11) (j := 8) dX3_setLines_80 fl_X3_103 inw_X3 rfl (by decide) rfl (by decide) lyX_19 rfl 83 rfl ?_
      refine sx_aload_n C dX3_setLines_83 0 1 rfl rfl 84 rfl ?_
      refine sx_iload C dX3_setLines_84 3 rfl 86 rfl ?_
      refine sx_iload_n C dX3_setLines_86 2 0 rfl rfl 87 rfl ?_
      refine sx_callV C ht hB (st := [.int (f 19 8), .ref (b + 19)]) dX3_setLines_87 (c_X3_turnAhead hf h) mi_X3_turnAhead lk_X3_97 mn_X3_turnAhead ms_X3_turnAhead (by decide) lyX_19 rfl rfl rfl rfl ⟨⟨(Nat.le_of_ble_eq_true rfl), (Nat.le_of_ble_eq_true rfl)⟩, (Nat.le_of_ble_eq_true rfl), (Nat.le_of_ble_eq_true rfl)⟩ (Nat.le_of_ble_eq_true rfl) ⟨(Nat.le_of_ble_eq_true rfl), (Nat.le_of_ble_eq_true rfl)⟩ (fun _ _ hx => hx.elim) 90 rfl (fun v g11 h => ?_)
      obtain ⟨⟨r10, rfl, h⟩, rfl⟩ := h
      refine sx_iadd C dX3_setLines_90 91 rfl ?_
      refine sx_puti C (T := TX3) (C0 := RX3) (N := 11) (j := 8) dX3_setLines_91 fl_X3_103 inw_X3 rfl tyX3 tyX3_ok nmX3 (by decide) rfl rfl rfl hB (by decide) lyX_19 rfl 94 rfl (fun g12 eg12 => ?_)
      replace h := h g12 eg12
      refine sx_iload C dX3_setLines_94 3 rfl 96 rfl ?_
      refine sx_istore_n C dX3_setLines_96 1 rfl [(1, .int v4), (2, .int r8), (0, .ref (b + 19)), (3, .int v3), (4, .int v4), (5, .int v5)] (by decide) rfl 97 rfl ?_
      obtain ⟨y13, ey13⟩ : ∃ w : Int32, w = v3 + 1 := ⟨_, rfl⟩
      replace h := h y13 ey13
      refine sx_iinc C dX3_setLines_97 3 rfl y13 (by rw [ey13]; rfl) [(3, .int y13), (1, .int v4), (2, .int r8), (0, .ref (b + 19)), (4, .int v4), (5, .int v5)] (by decide) rfl 100 rfl ?_
      refine sx_goto C dX3_setLines_100 23 (by decide) ?_
      exact sx_sub [3, 1, 2, 0] rfl h
    · replace h := h.2 c7
      refine sx_aload_n C dX3_setLines_58 0 0 rfl rfl 59 rfl ?_
      refine sx_getq C (T := TX3) (C0 := RX3) (N := 11) (j := 10) dX3_setLines_59 fl_X3_36 inw_X3 rfl (by decide) rfl (by decide) lyX_19 rfl 62 rfl ?_
      refine sx_iload C dX3_setLines_62 4 rfl 64 rfl ?_
      refine sx_iload_n C dX3_setLines_64 3 2 rfl rfl 65 rfl ?_
      refine sx_iast C dX3_setLines_65 hB (by decide) lyX_64 h.1 66 rfl (fun g14 eg14 => ?_)
      replace h := h.2 g14 eg14
      obtain ⟨y15, ey15⟩ : ∃ w : Int32, w = v5 + 1 := ⟨_, rfl⟩
      replace h := h y15 ey15
      refine sx_iinc C dX3_setLines_66 4 rfl y15 (by rw [ey15]; rfl) [(5, .int y15), (0, .ref (b + 19)), (2, .int v2), (3, .int v3), (4, .int v4)] (by decide) rfl 69 rfl ?_
      refine sx_goto C dX3_setLines_69 51 (by decide) ?_
      exact sx_sub [1, 2, 3, 4, 0] rfl h)
  refine sx_sub (lv' := [(0, .ref (b + 19))]) [0] rfl ?_
  refine sx_aload_n C dX3_setLines_0 0 0 rfl rfl 1 rfl ?_
  refine sx_aload_n C dX3_setLines_1 0 0 rfl rfl 2 rfl ?_
  refine sx_getq C (T := TX3) (C0 := RX3) (N := 11) (j := 5) dX3_setLines_2 fl_X3_27 inw_X3 rfl (by decide) rfl (by decide) lyX_19 rfl 5 rfl ?_
  refine sx_iconst C dX3_setLines_5 0 (by decide) 6 rfl ?_
  have hn17 := h.1
  refine sx_aaldn C dX3_setLines_6 (36 + (0 : Int32).toNatClampNeg) (by decide) lyX_35 rfl rfl hn17 rfl 7 rfl (fun w16 ew16 => ?_)
  replace h := h.2 w16 ew16
  refine sx_iconst C dX3_setLines_7 0 (by decide) 8 rfl ?_
  refine sx_iald C dX3_setLines_8 (rowX_35_lt hn17 ew16) (rowX_35_ly hn17 ew16) h.1 9 rfl ?_
  replace h := h.2
  refine sx_puti C (T := TX3) (C0 := RX3) (N := 11) (j := 7) dX3_setLines_9 fl_X3_100 inw_X3 rfl tyX3 tyX3_ok nmX3 (by decide) rfl rfl rfl hB (by decide) lyX_19 rfl 12 rfl (fun g18 eg18 => ?_)
  replace h := h g18 eg18
  refine sx_aload_n C dX3_setLines_12 0 0 rfl rfl 13 rfl ?_
  refine sx_iconst C dX3_setLines_13 0 (by decide) 14 rfl ?_
  refine sx_puti C (T := TX3) (C0 := RX3) (N := 11) (j := 8) dX3_setLines_14 fl_X3_103 inw_X3 rfl tyX3 tyX3_ok nmX3 (by decide) rfl rfl rfl hB (by decide) lyX_19 rfl 17 rfl (fun g19 eg19 => ?_)
  replace h := h g19 eg19
  refine sx_iconst C dX3_setLines_17 0 (by decide) 18 rfl ?_
  refine sx_istore_n C dX3_setLines_18 1 rfl [(1, .int 0), (0, .ref (b + 19))] (by decide) rfl 19 rfl ?_
  refine sx_iconst C dX3_setLines_19 0 (by decide) 20 rfl ?_
  refine sx_istore_n C dX3_setLines_20 2 rfl [(2, .int 0), (1, .int 0), (0, .ref (b + 19))] (by decide) rfl 21 rfl ?_
  refine sx_iconst C dX3_setLines_21 0 (by decide) 22 rfl ?_
  refine sx_istore_n C dX3_setLines_22 3 rfl [(3, .int 0), (2, .int 0), (1, .int 0), (0, .ref (b + 19))] (by decide) rfl 23 rfl ?_
  exact sx_sub [3, 2, 1, 0] rfl h
set_option maxRecDepth 100000 in
set_option maxHeartbeats 4000000 in
theorem c_X3_breakLines {l : Launch} {D : va_G} {G : sx_G} {b : Nat} (hf : l.stackTraces = false) {f : sx_F}  {Q : sx_F → Prop}  (h : P_X3_breakLines f  Q) : sx_Met l D G b 129 lyX yX3_breakLines cX3_breakLines 3 (none) 5 108 0 0 [.ref (b + 19)] f (sx_qv Q) (fun _ _ => False) := by
  refine sx_enter (own := RX3) hf rfl rfl (Nat.le_of_ble_eq_true rfl) ?_
  intro p e s m args below meth c C hr ht
  have hB : ∀ k, k < 129 → sx_A b 129 s.heap.size (b + k) := fun k h => sx_A.in h
  unfold P_X3_breakLines at h
  replace h := h (fun (f : sx_F) (v1 : Int32) => sx_J (sx_wp D G b lyX 129) p l e { frames := 5, cells := 0, slots := 0, locals := 108 } s m args below meth c (sx_A b 129 s.heap.size) 3 0 0 (sx_fin (sx_wp D G b lyX 129) (sx_A b 129 s.heap.size) below args s 0 0 (sx_qv Q) (fun _ _ => False)) f 6 [(0, .ref (b + 19)), (1, .int v1)] [])
  replace h := h (fun (f : sx_F) (v1 : Int32) => sx_J (sx_wp D G b lyX 129) p l e { frames := 5, cells := 0, slots := 0, locals := 108 } s m args below meth c (sx_A b 129 s.heap.size) 3 0 0 (sx_fin (sx_wp D G b lyX 129) (sx_A b 129 s.heap.size) below args s 0 0 (sx_qv Q) (fun _ _ => False)) f 60 [(0, .ref (b + 19)), (1, .int v1)] [])
  replace h := h (fun (f : sx_F) (v1 : Int32) (v2 : Int32) => sx_J (sx_wp D G b lyX 129) p l e { frames := 5, cells := 0, slots := 0, locals := 108 } s m args below meth c (sx_A b 129 s.heap.size) 3 0 0 (sx_fin (sx_wp D G b lyX 129) (sx_A b 129 s.heap.size) below args s 0 0 (sx_qv Q) (fun _ _ => False)) f 66 [(0, .ref (b + 19)), (1, .int v1), (2, .int v2)] [])
  replace h := h (by
    intro f v1 h
    refine sx_iload_n C dX3_breakLines_6 1 1 rfl rfl 7 rfl ?_
    refine sx_aload_n C dX3_breakLines_7 0 0 rfl rfl 8 rfl ?_
    refine sx_geti C (T := TX3) (C0 := RX3) (N := 11) (j := 2) dX3_breakLines_8 fl_X3_15 inw_X3 rfl (by decide) rfl (by decide) lyX_19 rfl 11 rfl ?_
    refine sx_icmp_ge C dX3_breakLines_11 50 14 (by decide) rfl (fun c1 => ?_) (fun c1 => ?_)
    · replace h := h.1 c1
      refine sx_aload_n C dX3_breakLines_50 0 0 rfl rfl 51 rfl ?_
      refine sx_getq C (T := TX3) (C0 := RX3) (N := 11) (j := 0) dX3_breakLines_51 fl_X3_39 inw_X3 rfl (by decide) rfl (by decide) lyX_19 rfl 54 rfl ?_
      refine sx_getiN C (T := TX0) (C0 := RX0) (N := 9) (j := 3) dX3_breakLines_54 fln_X3_46 inw_X0 rfl (by decide) rfl (by decide) lyX_8 rfl 57 rfl ?_
      refine sx_iconst C dX3_breakLines_57 1 (by decide) 58 rfl ?_
      refine sx_isub C dX3_breakLines_58 59 rfl ?_
      refine sx_topi (fun y2 ey2 => ?_)
      replace h := h y2 ey2
      refine sx_istore_n C dX3_breakLines_59 1 rfl [(1, .int y2), (0, .ref (b + 19))] (by decide) rfl 60 rfl ?_
      exact sx_sub [1, 0] rfl h
    · replace h := h.2 c1
      refine sx_aload_n C dX3_breakLines_14 0 0 rfl rfl 15 rfl ?_
      refine sx_getq C (T := TX3) (C0 := RX3) (N := 11) (j := 4) dX3_breakLines_15 fl_X3_24 inw_X3 rfl (by decide) rfl (by decide) lyX_19 rfl 18 rfl ?_
      refine sx_aload_n C dX3_breakLines_18 0 0 rfl rfl 19 rfl ?_
      refine sx_getq C (T := TX3) (C0 := RX3) (N := 11) (j := 0) dX3_breakLines_19 fl_X3_39 inw_X3 rfl (by decide) rfl (by decide) lyX_19 rfl 22 rfl ?_
      refine sx_getiN C (T := TX0) (C0 := RX0) (N := 9) (j := 3) dX3_breakLines_22 fln_X3_46 inw_X0 rfl (by decide) rfl (by decide) lyX_8 rfl 25 rfl ?_
      have hn4 := h.1
      refine sx_aaldn C dX3_breakLines_25 (22 + (f 8 3).toNatClampNeg) (by decide) lyX_21 rfl rfl hn4 rfl 26 rfl (fun w3 ew3 => ?_)
      replace h := h.2 w3 ew3
      refine sx_iload_n C dX3_breakLines_26 1 1 rfl rfl 27 rfl ?_
      refine sx_iconst C dX3_breakLines_27 0 (by decide) 28 rfl ?_
      refine sx_iast C dX3_breakLines_28 hB (rowX_21_lt hn4 ew3) (rowX_21_ly hn4 ew3) h.1 29 rfl (fun g5 eg5 => ?_)
      replace h := h.2 g5 eg5
      refine sx_aload_n C dX3_breakLines_29 0 0 rfl rfl 30 rfl ?_
      refine sx_getq C (T := TX3) (C0 := RX3) (N := 11) (j := 5) dX3_breakLines_30 fl_X3_27 inw_X3 rfl (by decide) rfl (by decide) lyX_19 rfl 33 rfl ?_
      refine sx_aload_n C dX3_breakLines_33 0 0 rfl rfl 34 rfl ?_
      refine sx_getq C (T := TX3) (C0 := RX3) (N := 11) (j := 0) dX3_breakLines_34 fl_X3_39 inw_X3 rfl (by decide) rfl (by decide) lyX_19 rfl 37 rfl ?_
      refine sx_getiN C (T := TX0) (C0 := RX0) (N := 9) (j := 3) dX3_breakLines_37 fln_X3_46 inw_X0 rfl (by decide) rfl (by decide) lyX_8 rfl 40 rfl ?_
      have hn7 := h.1
      refine sx_aaldn C dX3_breakLines_40 (36 + (g5 8 3).toNatClampNeg) (by decide) lyX_35 rfl rfl hn7 rfl 41 rfl (fun w6 ew6 => ?_)
      replace h := h.2 w6 ew6
      refine sx_iload_n C dX3_breakLines_41 1 1 rfl rfl 42 rfl ?_
      refine sx_iconst C dX3_breakLines_42 0 (by decide) 43 rfl ?_
      refine sx_iast C dX3_breakLines_43 hB (rowX_35_lt hn7 ew6) (rowX_35_ly hn7 ew6) h.1 44 rfl (fun g8 eg8 => ?_)
      replace h := h.2 g8 eg8
      obtain ⟨y9, ey9⟩ : ∃ w : Int32, w = v1 + 1 := ⟨_, rfl⟩
      replace h := h y9 ey9
      refine sx_iinc C dX3_breakLines_44 1 rfl y9 (by rw [ey9]; rfl) [(1, .int y9), (0, .ref (b + 19))] (by decide) rfl 47 rfl ?_
      refine sx_goto C dX3_breakLines_47 6 (by decide) ?_
      exact sx_sub [1, 0] rfl h)
  replace h := h (by
    intro f v1 h
    refine sx_iload_n C dX3_breakLines_60 1 1 rfl rfl 61 rfl ?_
    refine sx_if_lt C dX3_breakLines_61 92 64 (by decide) rfl (fun c10 => ?_) (fun c10 => ?_)
    · replace h := h.1 c10
      refine sx_aload_n C dX3_breakLines_92 0 0 rfl rfl 93 rfl ?_
      refine sx_callV C ht hB (st := []) dX3_breakLines_93 (c_X3_setLines hf h) mi_X3_setLines lk_X3_55 mn_X3_setLines ms_X3_setLines (by decide) lyX_19 rfl rfl rfl rfl ⟨⟨(Nat.le_of_ble_eq_true rfl), (Nat.le_of_ble_eq_true rfl)⟩, (Nat.le_of_ble_eq_true rfl), (Nat.le_of_ble_eq_true rfl)⟩ (Nat.le_of_ble_eq_true rfl) ⟨(Nat.le_of_ble_eq_true rfl), (Nat.le_of_ble_eq_true rfl)⟩ (fun _ _ hx => hx.elim) 96 rfl (fun v g11 h => ?_)
      obtain ⟨rfl, h⟩ := h
      exact sx_vret C dX3_breakLines_96 hr (Nat.le_of_ble_eq_true rfl) (Nat.le_of_ble_eq_true rfl) ⟨rfl, h⟩
    · replace h := h.2 c10
      refine sx_iconst C dX3_breakLines_64 0 (by decide) 65 rfl ?_
      refine sx_istore_n C dX3_breakLines_65 2 rfl [(2, .int 0), (0, .ref (b + 19)), (1, .int v1)] (by decide) rfl 66 rfl ?_
      exact sx_sub [1, 2, 0] rfl h)
  replace h := h (by
    intro f v1 v2 h
    refine sx_iload_n C dX3_breakLines_66 2 2 rfl rfl 67 rfl ?_
    refine sx_aload_n C dX3_breakLines_67 0 0 rfl rfl 68 rfl ?_
    refine sx_geti C (T := TX3) (C0 := RX3) (N := 11) (j := 2) dX3_breakLines_68 fl_X3_15 inw_X3 rfl (by decide) rfl (by decide) lyX_19 rfl 71 rfl ?_
    refine sx_icmp_ge C dX3_breakLines_71 86 74 (by decide) rfl (fun c12 => ?_) (fun c12 => ?_)
    · replace h := h.1 c12
      obtain ⟨y13, ey13⟩ : ∃ w : Int32, w = v1 + (-1) := ⟨_, rfl⟩
      replace h := h y13 ey13
      refine sx_iinc C dX3_breakLines_86 1 rfl y13 (by rw [ey13]; rfl) [(1, .int y13), (0, .ref (b + 19)), (2, .int v2)] (by decide) rfl 89 rfl ?_
      refine sx_goto C dX3_breakLines_89 60 (by decide) ?_
      exact sx_sub [1, 0] rfl h
    · replace h := h.2 c12
      refine sx_aload_n C dX3_breakLines_74 0 0 rfl rfl 75 rfl ?_
      refine sx_iload_n C dX3_breakLines_75 1 1 rfl rfl 76 rfl ?_
      refine sx_iload_n C dX3_breakLines_76 2 2 rfl rfl 77 rfl ?_
      refine sx_callV C ht hB (st := []) dX3_breakLines_77 (c_X3_chooseLine hf h) mi_X3_chooseLine lk_X3_51 mn_X3_chooseLine ms_X3_chooseLine (by decide) lyX_19 rfl rfl rfl rfl ⟨⟨(Nat.le_of_ble_eq_true rfl), (Nat.le_of_ble_eq_true rfl)⟩, (Nat.le_of_ble_eq_true rfl), (Nat.le_of_ble_eq_true rfl)⟩ (Nat.le_of_ble_eq_true rfl) ⟨(Nat.le_of_ble_eq_true rfl), (Nat.le_of_ble_eq_true rfl)⟩ (fun _ _ hx => hx.elim) 80 rfl (fun v g14 h => ?_)
      obtain ⟨rfl, h⟩ := h
      obtain ⟨y15, ey15⟩ : ∃ w : Int32, w = v2 + 1 := ⟨_, rfl⟩
      replace h := h y15 ey15
      refine sx_iinc C dX3_breakLines_80 2 rfl y15 (by rw [ey15]; rfl) [(2, .int y15), (0, .ref (b + 19)), (1, .int v1)] (by decide) rfl 83 rfl ?_
      refine sx_goto C dX3_breakLines_83 66 (by decide) ?_
      exact sx_sub [1, 2, 0] rfl h)
  refine sx_sub (lv' := [(0, .ref (b + 19))]) [0] rfl ?_
  refine sx_aload_n C dX3_breakLines_0 0 0 rfl rfl 1 rfl ?_
  refine sx_callV C ht hB (st := []) dX3_breakLines_1 (c_X3_priceTurns hf h) mi_X3_priceTurns lk_X3_43 mn_X3_priceTurns ms_X3_priceTurns (by decide) lyX_19 rfl rfl rfl rfl ⟨⟨(Nat.le_of_ble_eq_true rfl), (Nat.le_of_ble_eq_true rfl)⟩, (Nat.le_of_ble_eq_true rfl), (Nat.le_of_ble_eq_true rfl)⟩ (Nat.le_of_ble_eq_true rfl) ⟨(Nat.le_of_ble_eq_true rfl), (Nat.le_of_ble_eq_true rfl)⟩ (fun _ _ hx => hx.elim) 4 rfl (fun v g16 h => ?_)
  obtain ⟨rfl, h⟩ := h
  refine sx_iconst C dX3_breakLines_4 0 (by decide) 5 rfl ?_
  refine sx_istore_n C dX3_breakLines_5 1 rfl [(1, .int 0), (0, .ref (b + 19))] (by decide) rfl 6 rfl ?_
  exact sx_sub [1, 0] rfl h
set_option maxRecDepth 100000 in
set_option maxHeartbeats 4000000 in
theorem c_X3_leastCost {l : Launch} {D : va_G} {G : sx_G} {b : Nat} (hf : l.stackTraces = false) {f : sx_F}  {Q : Int32 → Prop}  (h : P_X3_leastCost f  Q) : sx_Met l D G b 129 lyX yX3_leastCost cX3_leastCost 1 (some .int) 1 13 0 0 [.ref (b + 19)] f (sx_pi f Q) (fun _ _ => False) := by
  refine sx_enter (own := RX3) hf rfl rfl (Nat.le_of_ble_eq_true rfl) ?_
  intro p e s m args below meth c C hr ht
  have hB : ∀ k, k < 129 → sx_A b 129 s.heap.size (b + k) := fun k h => sx_A.in h
  unfold P_X3_leastCost at h
  refine sx_sub (lv' := [(0, .ref (b + 19))]) [0] rfl ?_
  refine sx_aload_n C dX3_leastCost_0 0 0 rfl rfl 1 rfl ?_
  refine sx_getq C (T := TX3) (C0 := RX3) (N := 11) (j := 4) dX3_leastCost_1 fl_X3_24 inw_X3 rfl (by decide) rfl (by decide) lyX_19 rfl 4 rfl ?_
  refine sx_iconst C dX3_leastCost_4 0 (by decide) 5 rfl ?_
  have hn2 := h.1
  refine sx_aaldn C dX3_leastCost_5 (22 + (0 : Int32).toNatClampNeg) (by decide) lyX_21 rfl rfl hn2 rfl 6 rfl (fun w1 ew1 => ?_)
  replace h := h.2 w1 ew1
  refine sx_iconst C dX3_leastCost_6 0 (by decide) 7 rfl ?_
  refine sx_iald C dX3_leastCost_7 (rowX_21_lt hn2 ew1) (rowX_21_ly hn2 ew1) h.1 8 rfl ?_
  replace h := h.2
  exact sx_iret C dX3_leastCost_8 hr (Nat.le_of_ble_eq_true rfl) (Nat.le_of_ble_eq_true rfl) ⟨⟨_, rfl, h⟩, rfl⟩
set_option maxRecDepth 100000 in
set_option maxHeartbeats 4000000 in
theorem c_X3_leastOfAllWays {l : Launch} {D : va_G} {G : sx_G} {b : Nat} (hf : l.stackTraces = false) (n : Nat) : ∀ (f : sx_F) (x1 : Int32) (x2 : Int32) (x3 : Int32) (Q : Int32 → Prop), P_X3_leastOfAllWays n f x1 x2 x3 Q → sx_Met l D G b 129 lyX yX3_leastOfAllWays cX3_leastOfAllWays 8 (some .int) (n + 3) (27 * n + 58) 0 0 [.ref (b + 19), .int x1, .int x2, .int x3] f (sx_pi f Q) (fun _ _ => False) := by
  induction n with
  | zero =>
    intro f x1 x2 x3 Q h
    exact h.elim
  | succ n ih =>
    intro f x1 x2 x3 Q h
    refine sx_enter (own := RX3) hf rfl rfl (Nat.le_of_ble_eq_true rfl) ?_
    intro p e s m args below meth c C hr ht
    have hB : ∀ k, k < 129 → sx_A b 129 s.heap.size (b + k) := fun k h => sx_A.in h
    unfold P_X3_leastOfAllWays at h
    replace h := h (fun (v4 : Int32) (v5 : Int32) (v6 : Int32) => sx_J (sx_wp D G b lyX 129) p l e { frames := (n + 1 + 3), cells := 0, slots := 0, locals := (27 * (n + 1) + 58) } s m args below meth c (sx_A b 129 s.heap.size) 8 0 0 (sx_fin (sx_wp D G b lyX 129) (sx_A b 129 s.heap.size) below args s 0 0 (sx_pi f Q) (fun _ _ => False)) f 35 [(0, .ref (b + 19)), (1, .int x1), (3, .int x3), (4, .int v4), (5, .int v5), (6, .int v6)] [])
    replace h := h (fun (v4 : Int32) (v5 : Int32) (v6 : Int32) => sx_J (sx_wp D G b lyX 129) p l e { frames := (n + 1 + 3), cells := 0, slots := 0, locals := (27 * (n + 1) + 58) } s m args below meth c (sx_A b 129 s.heap.size) 8 0 0 (sx_fin (sx_wp D G b lyX 129) (sx_A b 129 s.heap.size) below args s 0 0 (sx_pi f Q) (fun _ _ => False)) f 96 [(0, .ref (b + 19)), (1, .int x1), (3, .int x3), (4, .int v4), (5, .int v5), (6, .int v6)] [])
    replace h := h (by
      intro v4 v5 v6 h
      refine sx_iload C dX3_leastOfAllWays_35 5 rfl 37 rfl ?_
      refine sx_aload_n C dX3_leastOfAllWays_37 0 0 rfl rfl 38 rfl ?_
      refine sx_getq C (T := TX3) (C0 := RX3) (N := 11) (j := 0) dX3_leastOfAllWays_38 fl_X3_39 inw_X3 rfl (by decide) rfl (by decide) lyX_19 rfl 41 rfl ?_
      refine sx_getiN C (T := TX0) (C0 := RX0) (N := 9) (j := 3) dX3_leastOfAllWays_41 fln_X3_46 inw_X0 rfl (by decide) rfl (by decide) lyX_8 rfl 44 rfl ?_
      refine sx_icmp_gt C dX3_leastOfAllWays_44 102 47 (by decide) rfl (fun c1 => ?_) (fun c1 => ?_)
      · replace h := h.1 c1
        refine sx_iload C dX3_leastOfAllWays_102 4 rfl 104 rfl ?_
        exact sx_iret C dX3_leastOfAllWays_104 hr (Nat.le_of_ble_eq_true rfl) (Nat.le_of_ble_eq_true rfl) ⟨⟨_, rfl, h⟩, rfl⟩
      · replace h := h.2 c1
        refine sx_aload_n C dX3_leastOfAllWays_47 0 0 rfl rfl 48 rfl ?_
        refine sx_iload_n C dX3_leastOfAllWays_48 1 1 rfl rfl 49 rfl ?_
        refine sx_iload C dX3_leastOfAllWays_49 5 rfl 51 rfl ?_
        refine sx_callV C ht hB (st := []) dX3_leastOfAllWays_51 (c_X3_mayBeLine hf h) mi_X3_mayBeLine lk_X3_90 mn_X3_mayBeLine ms_X3_mayBeLine (by decide) lyX_19 rfl rfl rfl rfl ⟨⟨by dsimp only; omega, by dsimp only; omega⟩, by dsimp only; omega, by dsimp only; omega⟩ (Nat.le_of_ble_eq_true rfl) ⟨(Nat.le_of_ble_eq_true rfl), (Nat.le_of_ble_eq_true rfl)⟩ (fun _ _ hx => hx.elim) 54 rfl (fun v g3 h => ?_)
        obtain ⟨⟨r2, rfl, h⟩, rfl⟩ := h
        refine sx_if_eq C dX3_leastOfAllWays_54 96 57 (by decide) rfl (fun c4 => ?_) (fun c4 => ?_)
        · replace h := h.1 c4
          exact sx_sub [0, 1, 2, 3, 4, 5] rfl h
        · replace h := h.2 c4
          refine sx_aload_n C dX3_leastOfAllWays_57 0 0 rfl rfl 58 rfl ?_
          refine sx_iload_n C dX3_leastOfAllWays_58 1 1 rfl rfl 59 rfl ?_
          refine sx_iload C dX3_leastOfAllWays_59 5 rfl 61 rfl ?_
          refine sx_callV C ht hB (st := []) dX3_leastOfAllWays_61 (c_X3_badness hf h) mi_X3_badness lk_X3_94 mn_X3_badness ms_X3_badness (by decide) lyX_19 rfl rfl rfl rfl ⟨⟨by dsimp only; omega, by dsimp only; omega⟩, by dsimp only; omega, by dsimp only; omega⟩ (Nat.le_of_ble_eq_true rfl) ⟨(Nat.le_of_ble_eq_true rfl), (Nat.le_of_ble_eq_true rfl)⟩ (fun _ _ hx => hx.elim) 64 rfl (fun v g6 h => ?_)
          obtain ⟨⟨r5, rfl, h⟩, rfl⟩ := h
          refine sx_aload_n C dX3_leastOfAllWays_64 0 0 rfl rfl 65 rfl ?_
          refine sx_iload C dX3_leastOfAllWays_65 5 rfl 67 rfl ?_
          refine sx_iload C dX3_leastOfAllWays_67 3 rfl 69 rfl ?_
          refine sx_callV C ht hB (st := [.int r5]) dX3_leastOfAllWays_69 (c_X3_turnAhead hf h) mi_X3_turnAhead lk_X3_97 mn_X3_turnAhead ms_X3_turnAhead (by decide) lyX_19 rfl rfl rfl rfl ⟨⟨by dsimp only; omega, by dsimp only; omega⟩, by dsimp only; omega, by dsimp only; omega⟩ (Nat.le_of_ble_eq_true rfl) ⟨(Nat.le_of_ble_eq_true rfl), (Nat.le_of_ble_eq_true rfl)⟩ (fun _ _ hx => hx.elim) 72 rfl (fun v g8 h => ?_)
          obtain ⟨⟨r7, rfl, h⟩, rfl⟩ := h
          refine sx_iadd C dX3_leastOfAllWays_72 73 rfl ?_
          refine sx_topi (fun y9 ey9 => ?_)
          replace h := h y9 ey9
          refine sx_istore C dX3_leastOfAllWays_73 [(7, .int y9), (0, .ref (b + 19)), (1, .int x1), (3, .int x3), (4, .int v4), (5, .int v5), (6, .int v6)] (by decide) rfl 75 rfl ?_
          refine sx_iload C dX3_leastOfAllWays_75 5 rfl 77 rfl ?_
          refine sx_iload C dX3_leastOfAllWays_77 0 rfl 79 rfl ?_
          refine sx_aload_n C dX3_leastOfAllWays_79 0 1 rfl rfl 80 rfl ?_
          refine sx_iload C dX3_leastOfAllWays_80 6 rfl 82 rfl ?_
          refine sx_iload C dX3_leastOfAllWays_82 4 rfl 84 rfl ?_
          refine sx_iload_n C dX3_leastOfAllWays_84 3 3 rfl rfl 85 rfl ?_
          refine sx_iconst C dX3_leastOfAllWays_85 1 (by decide) 86 rfl ?_
          refine sx_iadd C dX3_leastOfAllWays_86 87 rfl ?_
          refine sx_callV C ht hB (st := [.int y9, .int v5]) dX3_leastOfAllWays_87 (ih _ _ _ _ _ h) mi_X3_leastOfAllWays lk_X3_112 mn_X3_leastOfAllWays ms_X3_leastOfAllWays (by decide) lyX_19 rfl rfl rfl rfl ⟨⟨by dsimp only; omega, by dsimp only; omega⟩, by dsimp only; omega, by dsimp only; omega⟩ (Nat.le_of_ble_eq_true rfl) ⟨(Nat.le_of_ble_eq_true rfl), (Nat.le_of_ble_eq_true rfl)⟩ (fun _ _ hx => hx.elim) 90 rfl (fun v g11 h => ?_)
          obtain ⟨⟨r10, rfl, h⟩, rfl⟩ := h
          refine sx_iadd C dX3_leastOfAllWays_90 91 rfl ?_
          refine sx_mmin C dX3_leastOfAllWays_91 lk_X3_116 mth_min.1 mth_min.2.1 mth_min.2.2 ⟨by dsimp only; omega, by simp [Value.category]; first | done | omega, by dsimp only; omega, by dsimp only; omega⟩ 94 rfl ?_
          refine sx_topi (fun y12 ey12 => ?_)
          replace h := h y12 ey12
          refine sx_istore C dX3_leastOfAllWays_94 [(5, .int y12), (7, .int y9), (0, .ref (b + 19)), (1, .int x1), (3, .int x3), (4, .int v4), (6, .int v6)] (by decide) rfl 96 rfl ?_
          exact sx_sub [2, 3, 4, 5, 0, 6] rfl h)
    replace h := h (by
      intro v4 v5 v6 h
      obtain ⟨y13, ey13⟩ : ∃ w : Int32, w = v6 + 1 := ⟨_, rfl⟩
      replace h := h y13 ey13
      refine sx_iinc C dX3_leastOfAllWays_96 5 rfl y13 (by rw [ey13]; rfl) [(6, .int y13), (0, .ref (b + 19)), (1, .int x1), (3, .int x3), (4, .int v4), (5, .int v5)] (by decide) rfl 99 rfl ?_
      refine sx_goto C dX3_leastOfAllWays_99 35 (by decide) ?_
      exact sx_sub [1, 2, 3, 4, 5, 0] rfl h)
    refine sx_sub (lv' := [(0, .ref (b + 19)), (1, .int x1), (2, .int x2), (3, .int x3)]) [0, 1, 2, 3] rfl ?_
    refine sx_iload_n C dX3_leastOfAllWays_0 1 1 rfl rfl 1 rfl ?_
    refine sx_aload_n C dX3_leastOfAllWays_1 0 0 rfl rfl 2 rfl ?_
    refine sx_getq C (T := TX3) (C0 := RX3) (N := 11) (j := 0) dX3_leastOfAllWays_2 fl_X3_39 inw_X3 rfl (by decide) rfl (by decide) lyX_19 rfl 5 rfl ?_
    refine sx_getiN C (T := TX0) (C0 := RX0) (N := 9) (j := 3) dX3_leastOfAllWays_5 fln_X3_46 inw_X0 rfl (by decide) rfl (by decide) lyX_8 rfl 8 rfl ?_
    refine sx_icmp_ge C dX3_leastOfAllWays_8 17 11 (by decide) rfl (fun c14 => ?_) (fun c14 => ?_)
    · replace h := h.1 c14
      refine sx_iconst C dX3_leastOfAllWays_17 0 (by decide) 18 rfl ?_
      exact sx_iret C dX3_leastOfAllWays_18 hr (Nat.le_of_ble_eq_true rfl) (Nat.le_of_ble_eq_true rfl) ⟨⟨_, rfl, h⟩, rfl⟩
    · replace h := h.2 c14
      refine sx_iload_n C dX3_leastOfAllWays_11 3 3 rfl rfl 12 rfl ?_
      refine sx_bipush C dX3_leastOfAllWays_12 12 (by decide) 14 rfl ?_
      refine sx_icmp_lt C dX3_leastOfAllWays_14 19 17 (by decide) rfl (fun c15 => ?_) (fun c15 => ?_)
      · replace h := h.1 c15
        refine sx_aload_n C dX3_leastOfAllWays_19 0 0 rfl rfl 20 rfl ?_
        refine sx_iload_n C dX3_leastOfAllWays_20 2 2 rfl rfl 21 rfl ?_
        refine sx_callV C ht hB (st := []) dX3_leastOfAllWays_21 (c_X3_nextOnPage hf h) mi_X3_nextOnPage lk_X3_85 mn_X3_nextOnPage ms_X3_nextOnPage (by decide) lyX_19 rfl rfl rfl rfl ⟨⟨by dsimp only; omega, by dsimp only; omega⟩, by dsimp only; omega, by dsimp only; omega⟩ (Nat.le_of_ble_eq_true rfl) ⟨(Nat.le_of_ble_eq_true rfl), (Nat.le_of_ble_eq_true rfl)⟩ (fun _ _ hx => hx.elim) 24 rfl (fun v g17 h => ?_)
        obtain ⟨⟨r16, rfl, h⟩, rfl⟩ := h
        refine sx_istore C dX3_leastOfAllWays_24 [(4, .int r16), (0, .ref (b + 19)), (1, .int x1), (2, .int x2), (3, .int x3)] (by decide) rfl 26 rfl ?_
        refine sx_ldci C dX3_leastOfAllWays_26 1000000000 kc_X3_89 28 rfl ?_
        refine sx_istore C dX3_leastOfAllWays_28 [(5, .int 1000000000), (4, .int r16), (0, .ref (b + 19)), (1, .int x1), (2, .int x2), (3, .int x3)] (by decide) rfl 30 rfl ?_
        refine sx_iload_n C dX3_leastOfAllWays_30 1 3 rfl rfl 31 rfl ?_
        refine sx_iconst C dX3_leastOfAllWays_31 1 (by decide) 32 rfl ?_
        refine sx_iadd C dX3_leastOfAllWays_32 33 rfl ?_
        refine sx_topi (fun y18 ey18 => ?_)
        replace h := h y18 ey18
        refine sx_istore C dX3_leastOfAllWays_33 [(6, .int y18), (5, .int 1000000000), (4, .int r16), (0, .ref (b + 19)), (1, .int x1), (2, .int x2), (3, .int x3)] (by decide) rfl 35 rfl ?_
        exact sx_sub [3, 4, 6, 2, 1, 0] rfl h
      · replace h := h.2 c15
        refine sx_iconst C dX3_leastOfAllWays_17 0 (by decide) 18 rfl ?_
        exact sx_iret C dX3_leastOfAllWays_18 hr (Nat.le_of_ble_eq_true rfl) (Nat.le_of_ble_eq_true rfl) ⟨⟨_, rfl, h⟩, rfl⟩
set_option maxRecDepth 100000 in
set_option maxHeartbeats 4000000 in
theorem c_X3_leastByTrying {l : Launch} {D : va_G} {G : sx_G} {b : Nat} (hf : l.stackTraces = false) {f : sx_F}  {Q : Int32 → sx_F → Prop}  (h : P_X3_leastByTrying f  Q) : sx_Met l D G b 129 lyX yX3_leastByTrying cX3_leastByTrying 1 (some .int) 18 463 0 0 [.ref (b + 19)] f (sx_qi Q) (fun _ _ => False) := by
  refine sx_enter (own := RX3) hf rfl rfl (Nat.le_of_ble_eq_true rfl) ?_
  intro p e s m args below meth c C hr ht
  have hB : ∀ k, k < 129 → sx_A b 129 s.heap.size (b + k) := fun k h => sx_A.in h
  unfold P_X3_leastByTrying at h
  refine sx_sub (lv' := [(0, .ref (b + 19))]) [0] rfl ?_
  refine sx_aload_n C dX3_leastByTrying_0 0 0 rfl rfl 1 rfl ?_
  refine sx_callV C ht hB (st := []) dX3_leastByTrying_1 (c_X3_priceTurns hf h) mi_X3_priceTurns lk_X3_43 mn_X3_priceTurns ms_X3_priceTurns (by decide) lyX_19 rfl rfl rfl rfl ⟨⟨(Nat.le_of_ble_eq_true rfl), (Nat.le_of_ble_eq_true rfl)⟩, (Nat.le_of_ble_eq_true rfl), (Nat.le_of_ble_eq_true rfl)⟩ (Nat.le_of_ble_eq_true rfl) ⟨(Nat.le_of_ble_eq_true rfl), (Nat.le_of_ble_eq_true rfl)⟩ (fun _ _ hx => hx.elim) 4 rfl (fun v g1 h => ?_)
  obtain ⟨rfl, h⟩ := h
  refine sx_aload_n C dX3_leastByTrying_4 0 0 rfl rfl 5 rfl ?_
  refine sx_iconst C dX3_leastByTrying_5 0 (by decide) 6 rfl ?_
  refine sx_iconst C dX3_leastByTrying_6 0 (by decide) 7 rfl ?_
  refine sx_iconst C dX3_leastByTrying_7 0 (by decide) 8 rfl ?_
  refine sx_callV C ht hB (st := []) dX3_leastByTrying_8 (c_X3_leastOfAllWays hf 14 _ _ _ _ _ h) mi_X3_leastOfAllWays lk_X3_112 mn_X3_leastOfAllWays ms_X3_leastOfAllWays (by decide) lyX_19 rfl rfl rfl rfl ⟨⟨(Nat.le_of_ble_eq_true rfl), (Nat.le_of_ble_eq_true rfl)⟩, (Nat.le_of_ble_eq_true rfl), (Nat.le_of_ble_eq_true rfl)⟩ (Nat.le_of_ble_eq_true rfl) ⟨(Nat.le_of_ble_eq_true rfl), (Nat.le_of_ble_eq_true rfl)⟩ (fun _ _ hx => hx.elim) 11 rfl (fun v g3 h => ?_)
  obtain ⟨⟨r2, rfl, h⟩, rfl⟩ := h
  exact sx_iret C dX3_leastByTrying_11 hr (Nat.le_of_ble_eq_true rfl) (Nat.le_of_ble_eq_true rfl) ⟨_, rfl, h⟩
set_option maxRecDepth 100000 in
set_option maxHeartbeats 4000000 in
theorem c_X3_shrunkAhead {l : Launch} {D : va_G} {G : sx_G} {b : Nat} (hf : l.stackTraces = false) {f : sx_F} {x1 : Int32} {x2 : Int32} {x3 : Int32} {x4 : Int32} {Q : Int32 → Prop}  (h : P_X3_shrunkAhead f x1 x2 x3 x4 Q) : sx_Met l D G b 129 lyX yX3_shrunkAhead cX3_shrunkAhead 6 (some .int) 2 35 0 0 [.ref (b + 19), .int x1, .int x2, .int x3, .int x4] f (sx_pi f Q) (fun _ _ => False) := by
  refine sx_enter (own := RX3) hf rfl rfl (Nat.le_of_ble_eq_true rfl) ?_
  intro p e s m args below meth c C hr ht
  have hB : ∀ k, k < 129 → sx_A b 129 s.heap.size (b + k) := fun k h => sx_A.in h
  unfold P_X3_shrunkAhead at h
  refine sx_sub (lv' := [(0, .ref (b + 19)), (1, .int x1), (2, .int x2), (3, .int x3), (4, .int x4)]) [0, 1, 2, 3, 4] rfl ?_
  refine sx_aload_n C dX3_shrunkAhead_0 0 0 rfl rfl 1 rfl ?_
  refine sx_getq C (T := TX3) (C0 := RX3) (N := 11) (j := 0) dX3_shrunkAhead_1 fl_X3_39 inw_X3 rfl (by decide) rfl (by decide) lyX_19 rfl 4 rfl ?_
  refine sx_iload_n C dX3_shrunkAhead_4 1 1 rfl rfl 5 rfl ?_
  refine sx_iload_n C dX3_shrunkAhead_5 2 2 rfl rfl 6 rfl ?_
  refine sx_callV C ht hB (st := []) dX3_shrunkAhead_6 (c_X0_widthOf hf h) mi_X0_widthOf lk_X3_109 mn_X0_widthOf ms_X0_widthOf (by decide) lyX_8 rfl rfl rfl rfl ⟨⟨(Nat.le_of_ble_eq_true rfl), (Nat.le_of_ble_eq_true rfl)⟩, (Nat.le_of_ble_eq_true rfl), (Nat.le_of_ble_eq_true rfl)⟩ (Nat.le_of_ble_eq_true rfl) ⟨(Nat.le_of_ble_eq_true rfl), (Nat.le_of_ble_eq_true rfl)⟩ (fun _ _ hx => hx.elim) 9 rfl (fun v g2 h => ?_)
  obtain ⟨⟨r1, rfl, h⟩, rfl⟩ := h
  refine sx_aload_n C dX3_shrunkAhead_9 0 0 rfl rfl 10 rfl ?_
  refine sx_getq C (T := TX3) (C0 := RX3) (N := 11) (j := 0) dX3_shrunkAhead_10 fl_X3_39 inw_X3 rfl (by decide) rfl (by decide) lyX_19 rfl 13 rfl ?_
  refine sx_iload_n C dX3_shrunkAhead_13 1 1 rfl rfl 14 rfl ?_
  refine sx_iload_n C dX3_shrunkAhead_14 2 2 rfl rfl 15 rfl ?_
  refine sx_callV C ht hB (st := [.int r1]) dX3_shrunkAhead_15 (c_X0_leastOf hf h) mi_X0_leastOf lk_X3_106 mn_X0_leastOf ms_X0_leastOf (by decide) lyX_8 rfl rfl rfl rfl ⟨⟨(Nat.le_of_ble_eq_true rfl), (Nat.le_of_ble_eq_true rfl)⟩, (Nat.le_of_ble_eq_true rfl), (Nat.le_of_ble_eq_true rfl)⟩ (Nat.le_of_ble_eq_true rfl) ⟨(Nat.le_of_ble_eq_true rfl), (Nat.le_of_ble_eq_true rfl)⟩ (fun _ _ hx => hx.elim) 18 rfl (fun v g4 h => ?_)
  obtain ⟨⟨r3, rfl, h⟩, rfl⟩ := h
  refine sx_isub C dX3_shrunkAhead_18 19 rfl ?_
  refine sx_topi (fun y5 ey5 => ?_)
  replace h := h y5 ey5
  refine sx_istore C dX3_shrunkAhead_19 [(5, .int y5), (0, .ref (b + 19)), (1, .int x1), (2, .int x2), (3, .int x3), (4, .int x4)] (by decide) rfl 21 rfl ?_
  refine sx_iload C dX3_shrunkAhead_21 0 rfl 23 rfl ?_
  refine sx_if_le C dX3_shrunkAhead_23 41 26 (by decide) rfl (fun c6 => ?_) (fun c6 => ?_)
  · replace h := h.1 c6
    refine sx_iconst C dX3_shrunkAhead_41 0 (by decide) 42 rfl ?_
    exact sx_iret C dX3_shrunkAhead_42 hr (Nat.le_of_ble_eq_true rfl) (Nat.le_of_ble_eq_true rfl) ⟨⟨_, rfl, h⟩, rfl⟩
  · replace h := h.2 c6
    refine sx_iload_n C dX3_shrunkAhead_26 3 4 rfl rfl 27 rfl ?_
    refine sx_iload C dX3_shrunkAhead_27 0 rfl 29 rfl ?_
    refine sx_mmin C dX3_shrunkAhead_29 lk_X3_116 mth_min.1 mth_min.2.1 mth_min.2.2 ⟨(Nat.le_of_ble_eq_true rfl), (Nat.le_of_ble_eq_true rfl), (Nat.le_of_ble_eq_true rfl), (Nat.le_of_ble_eq_true rfl)⟩ 32 rfl ?_
    refine sx_iload C dX3_shrunkAhead_32 5 rfl 34 rfl ?_
    refine sx_imul C dX3_shrunkAhead_34 35 rfl ?_
    refine sx_iload C dX3_shrunkAhead_35 0 rfl 37 rfl ?_
    refine sx_idiv C dX3_shrunkAhead_37 h.1 38 rfl ?_
    replace h := h.2
    refine sx_goto C dX3_shrunkAhead_38 42 (by decide) ?_
    exact sx_iret C dX3_shrunkAhead_42 hr (Nat.le_of_ble_eq_true rfl) (Nat.le_of_ble_eq_true rfl) ⟨⟨_, rfl, h⟩, rfl⟩
set_option maxRecDepth 100000 in
set_option maxHeartbeats 4000000 in
theorem c_X3_stretchedAhead {l : Launch} {D : va_G} {G : sx_G} {b : Nat} (hf : l.stackTraces = false) {f : sx_F} {x1 : Int32} {x2 : Int32} {x3 : Int32} {x4 : Int32} {Q : Int32 → Prop}  (h : P_X3_stretchedAhead f x1 x2 x3 x4 Q) : sx_Met l D G b 129 lyX yX3_stretchedAhead cX3_stretchedAhead 6 (some .int) 1 13 0 0 [.ref (b + 19), .int x1, .int x2, .int x3, .int x4] f (sx_pi f Q) (fun _ _ => False) := by
  refine sx_enter (own := RX3) hf rfl rfl (Nat.le_of_ble_eq_true rfl) ?_
  intro p e s m args below meth c C hr ht
  have hB : ∀ k, k < 129 → sx_A b 129 s.heap.size (b + k) := fun k h => sx_A.in h
  unfold P_X3_stretchedAhead at h
  refine sx_sub (lv' := [(0, .ref (b + 19)), (1, .int x1), (2, .int x2), (3, .int x3), (4, .int x4)]) [0, 1, 2, 3, 4] rfl ?_
  refine sx_aload_n C dX3_stretchedAhead_0 0 0 rfl rfl 1 rfl ?_
  refine sx_getq C (T := TX3) (C0 := RX3) (N := 11) (j := 0) dX3_stretchedAhead_1 fl_X3_39 inw_X3 rfl (by decide) rfl (by decide) lyX_19 rfl 4 rfl ?_
  refine sx_getqN C (T := TX0) (C0 := RX0) (N := 9) (j := 7) dX3_stretchedAhead_4 fln_X3_119 inw_X0 rfl (by decide) rfl (by decide) lyX_8 rfl 7 rfl ?_
  refine sx_iload_n C dX3_stretchedAhead_7 2 2 rfl rfl 8 rfl ?_
  refine sx_iald C dX3_stretchedAhead_8 (by decide) lyX_17 h.1 9 rfl ?_
  replace h := h.2
  refine sx_aload_n C dX3_stretchedAhead_9 0 0 rfl rfl 10 rfl ?_
  refine sx_getq C (T := TX3) (C0 := RX3) (N := 11) (j := 0) dX3_stretchedAhead_10 fl_X3_39 inw_X3 rfl (by decide) rfl (by decide) lyX_19 rfl 13 rfl ?_
  refine sx_getqN C (T := TX0) (C0 := RX0) (N := 9) (j := 7) dX3_stretchedAhead_13 fln_X3_119 inw_X0 rfl (by decide) rfl (by decide) lyX_8 rfl 16 rfl ?_
  refine sx_iload_n C dX3_stretchedAhead_16 1 1 rfl rfl 17 rfl ?_
  refine sx_iald C dX3_stretchedAhead_17 (by decide) lyX_17 h.1 18 rfl ?_
  replace h := h.2
  refine sx_isub C dX3_stretchedAhead_18 19 rfl ?_
  refine sx_topi (fun y1 ey1 => ?_)
  replace h := h y1 ey1
  refine sx_istore C dX3_stretchedAhead_19 [(5, .int y1), (0, .ref (b + 19)), (1, .int x1), (2, .int x2), (3, .int x3), (4, .int x4)] (by decide) rfl 21 rfl ?_
  refine sx_iload C dX3_stretchedAhead_21 0 rfl 23 rfl ?_
  refine sx_if_le C dX3_stretchedAhead_23 36 26 (by decide) rfl (fun c2 => ?_) (fun c2 => ?_)
  · replace h := h.1 c2
    refine sx_iconst C dX3_stretchedAhead_36 0 (by decide) 37 rfl ?_
    exact sx_iret C dX3_stretchedAhead_37 hr (Nat.le_of_ble_eq_true rfl) (Nat.le_of_ble_eq_true rfl) ⟨⟨_, rfl, h⟩, rfl⟩
  · replace h := h.2 c2
    refine sx_iload_n C dX3_stretchedAhead_26 3 4 rfl rfl 27 rfl ?_
    refine sx_iload C dX3_stretchedAhead_27 5 rfl 29 rfl ?_
    refine sx_imul C dX3_stretchedAhead_29 30 rfl ?_
    refine sx_iload C dX3_stretchedAhead_30 0 rfl 32 rfl ?_
    refine sx_idiv C dX3_stretchedAhead_32 h.1 33 rfl ?_
    replace h := h.2
    refine sx_goto C dX3_stretchedAhead_33 37 (by decide) ?_
    exact sx_iret C dX3_stretchedAhead_37 hr (Nat.le_of_ble_eq_true rfl) (Nat.le_of_ble_eq_true rfl) ⟨⟨_, rfl, h⟩, rfl⟩
set_option maxRecDepth 100000 in
set_option maxHeartbeats 4000000 in
theorem c_X3_springAt {l : Launch} {D : va_G} {G : sx_G} {b : Nat} (hf : l.stackTraces = false) {f : sx_F} {x1 : Int32} {x2 : Int32} {Q : Int32 → Prop}  (h : P_X3_springAt f x1 x2 Q) : sx_Met l D G b 129 lyX yX3_springAt cX3_springAt 10 (some .int) 3 60 0 0 [.ref (b + 19), .int x1, .int x2] f (sx_pi f Q) (fun _ _ => False) := by
  refine sx_enter (own := RX3) hf rfl rfl (Nat.le_of_ble_eq_true rfl) ?_
  intro p e s m args below meth c C hr ht
  have hB : ∀ k, k < 129 → sx_A b 129 s.heap.size (b + k) := fun k h => sx_A.in h
  unfold P_X3_springAt at h
  refine sx_sub (lv' := [(0, .ref (b + 19)), (1, .int x1), (2, .int x2)]) [0, 1, 2] rfl ?_
  refine sx_aload_n C dX3_springAt_0 0 0 rfl rfl 1 rfl ?_
  refine sx_getq C (T := TX3) (C0 := RX3) (N := 11) (j := 10) dX3_springAt_1 fl_X3_36 inw_X3 rfl (by decide) rfl (by decide) lyX_19 rfl 4 rfl ?_
  refine sx_iload_n C dX3_springAt_4 1 1 rfl rfl 5 rfl ?_
  refine sx_iald C dX3_springAt_5 (by decide) lyX_64 h.1 6 rfl ?_
  replace h := h.2
  refine sx_topi (fun y1 ey1 => ?_)
  replace h := h y1 ey1
  refine sx_istore_n C dX3_springAt_6 3 rfl [(3, .int y1), (0, .ref (b + 19)), (1, .int x1), (2, .int x2)] (by decide) rfl 7 rfl ?_
  refine sx_aload_n C dX3_springAt_7 0 1 rfl rfl 8 rfl ?_
  refine sx_getq C (T := TX3) (C0 := RX3) (N := 11) (j := 9) dX3_springAt_8 fl_X3_33 inw_X3 rfl (by decide) rfl (by decide) lyX_19 rfl 11 rfl ?_
  refine sx_iload_n C dX3_springAt_11 3 0 rfl rfl 12 rfl ?_
  refine sx_iald C dX3_springAt_12 (by decide) lyX_63 h.1 13 rfl ?_
  replace h := h.2
  refine sx_topi (fun y2 ey2 => ?_)
  replace h := h y2 ey2
  refine sx_istore C dX3_springAt_13 [(4, .int y2), (3, .int y1), (0, .ref (b + 19)), (1, .int x1), (2, .int x2)] (by decide) rfl 15 rfl ?_
  refine sx_aload_n C dX3_springAt_15 0 2 rfl rfl 16 rfl ?_
  refine sx_getq C (T := TX3) (C0 := RX3) (N := 11) (j := 9) dX3_springAt_16 fl_X3_33 inw_X3 rfl (by decide) rfl (by decide) lyX_19 rfl 19 rfl ?_
  refine sx_iload_n C dX3_springAt_19 3 1 rfl rfl 20 rfl ?_
  refine sx_iconst C dX3_springAt_20 1 (by decide) 21 rfl ?_
  refine sx_iadd C dX3_springAt_21 22 rfl ?_
  refine sx_iald C dX3_springAt_22 (by decide) lyX_63 h.1 23 rfl ?_
  replace h := h.2
  refine sx_topi (fun y3 ey3 => ?_)
  replace h := h y3 ey3
  refine sx_istore C dX3_springAt_23 [(5, .int y3), (4, .int y2), (3, .int y1), (0, .ref (b + 19)), (1, .int x1), (2, .int x2)] (by decide) rfl 25 rfl ?_
  refine sx_aload_n C dX3_springAt_25 0 3 rfl rfl 26 rfl ?_
  refine sx_getq C (T := TX3) (C0 := RX3) (N := 11) (j := 0) dX3_springAt_26 fl_X3_39 inw_X3 rfl (by decide) rfl (by decide) lyX_19 rfl 29 rfl ?_
  refine sx_getqN C (T := TX0) (C0 := RX0) (N := 9) (j := 7) dX3_springAt_29 fln_X3_119 inw_X0 rfl (by decide) rfl (by decide) lyX_8 rfl 32 rfl ?_
  refine sx_iload_n C dX3_springAt_32 1 4 rfl rfl 33 rfl ?_
  refine sx_iald C dX3_springAt_33 (by decide) lyX_17 h.1 34 rfl ?_
  replace h := h.2
  refine sx_aload_n C dX3_springAt_34 0 3 rfl rfl 35 rfl ?_
  refine sx_getq C (T := TX3) (C0 := RX3) (N := 11) (j := 0) dX3_springAt_35 fl_X3_39 inw_X3 rfl (by decide) rfl (by decide) lyX_19 rfl 38 rfl ?_
  refine sx_getqN C (T := TX0) (C0 := RX0) (N := 9) (j := 7) dX3_springAt_38 fln_X3_119 inw_X0 rfl (by decide) rfl (by decide) lyX_8 rfl 41 rfl ?_
  refine sx_iload C dX3_springAt_41 1 rfl 43 rfl ?_
  refine sx_iald C dX3_springAt_43 (by decide) lyX_17 h.1 44 rfl ?_
  replace h := h.2
  refine sx_isub C dX3_springAt_44 45 rfl ?_
  refine sx_aload_n C dX3_springAt_45 0 3 rfl rfl 46 rfl ?_
  refine sx_getq C (T := TX3) (C0 := RX3) (N := 11) (j := 0) dX3_springAt_46 fl_X3_39 inw_X3 rfl (by decide) rfl (by decide) lyX_19 rfl 49 rfl ?_
  refine sx_getqN C (T := TX0) (C0 := RX0) (N := 9) (j := 1) dX3_springAt_49 fln_X3_122 inw_X0 rfl (by decide) rfl (by decide) lyX_8 rfl 52 rfl ?_
  refine sx_getqN C (T := TX5) (C0 := RX5) (N := 5) (j := 2) dX3_springAt_52 fln_X3_126 inw_X5 rfl (by decide) rfl (by decide) lyX_9 rfl 55 rfl ?_
  refine sx_iload_n C dX3_springAt_55 2 5 rfl rfl 56 rfl ?_
  refine sx_iald C dX3_springAt_56 (by decide) lyX_11 h.1 57 rfl ?_
  replace h := h.2
  refine sx_iadd C dX3_springAt_57 58 rfl ?_
  refine sx_topi (fun y4 ey4 => ?_)
  replace h := h y4 ey4
  refine sx_istore C dX3_springAt_58 [(6, .int y4), (5, .int y3), (4, .int y2), (3, .int y1), (0, .ref (b + 19)), (1, .int x1), (2, .int x2)] (by decide) rfl 60 rfl ?_
  refine sx_aload_n C dX3_springAt_60 0 4 rfl rfl 61 rfl ?_
  refine sx_getq C (T := TX3) (C0 := RX3) (N := 11) (j := 0) dX3_springAt_61 fl_X3_39 inw_X3 rfl (by decide) rfl (by decide) lyX_19 rfl 64 rfl ?_
  refine sx_getqN C (T := TX0) (C0 := RX0) (N := 9) (j := 8) dX3_springAt_64 fln_X3_131 inw_X0 rfl (by decide) rfl (by decide) lyX_8 rfl 67 rfl ?_
  refine sx_iload_n C dX3_springAt_67 1 5 rfl rfl 68 rfl ?_
  refine sx_iald C dX3_springAt_68 (by decide) lyX_18 h.1 69 rfl ?_
  replace h := h.2
  refine sx_aload_n C dX3_springAt_69 0 4 rfl rfl 70 rfl ?_
  refine sx_getq C (T := TX3) (C0 := RX3) (N := 11) (j := 0) dX3_springAt_70 fl_X3_39 inw_X3 rfl (by decide) rfl (by decide) lyX_19 rfl 73 rfl ?_
  refine sx_getqN C (T := TX0) (C0 := RX0) (N := 9) (j := 8) dX3_springAt_73 fln_X3_131 inw_X0 rfl (by decide) rfl (by decide) lyX_8 rfl 76 rfl ?_
  refine sx_iload C dX3_springAt_76 2 rfl 78 rfl ?_
  refine sx_iald C dX3_springAt_78 (by decide) lyX_18 h.1 79 rfl ?_
  replace h := h.2
  refine sx_isub C dX3_springAt_79 80 rfl ?_
  refine sx_aload_n C dX3_springAt_80 0 4 rfl rfl 81 rfl ?_
  refine sx_getq C (T := TX3) (C0 := RX3) (N := 11) (j := 0) dX3_springAt_81 fl_X3_39 inw_X3 rfl (by decide) rfl (by decide) lyX_19 rfl 84 rfl ?_
  refine sx_getqN C (T := TX0) (C0 := RX0) (N := 9) (j := 1) dX3_springAt_84 fln_X3_122 inw_X0 rfl (by decide) rfl (by decide) lyX_8 rfl 87 rfl ?_
  refine sx_getqN C (T := TX5) (C0 := RX5) (N := 5) (j := 3) dX3_springAt_87 fln_X3_134 inw_X5 rfl (by decide) rfl (by decide) lyX_9 rfl 90 rfl ?_
  refine sx_iload_n C dX3_springAt_90 2 6 rfl rfl 91 rfl ?_
  refine sx_iald C dX3_springAt_91 (by decide) lyX_12 h.1 92 rfl ?_
  replace h := h.2
  refine sx_iadd C dX3_springAt_92 93 rfl ?_
  refine sx_topi (fun y5 ey5 => ?_)
  replace h := h y5 ey5
  refine sx_istore C dX3_springAt_93 [(7, .int y5), (6, .int y4), (5, .int y3), (4, .int y2), (3, .int y1), (0, .ref (b + 19)), (1, .int x1), (2, .int x2)] (by decide) rfl 95 rfl ?_
  refine sx_bipush C dX3_springAt_95 8 (by decide) 97 rfl ?_
  refine sx_iload_n C dX3_springAt_97 1 6 rfl rfl 98 rfl ?_
  refine sx_iload C dX3_springAt_98 3 rfl 100 rfl ?_
  refine sx_isub C dX3_springAt_100 101 rfl ?_
  refine sx_imul C dX3_springAt_101 102 rfl ?_
  refine sx_iconst C dX3_springAt_102 4 (by decide) 103 rfl ?_
  refine sx_iadd C dX3_springAt_103 104 rfl ?_
  refine sx_iload C dX3_springAt_104 1 rfl 106 rfl ?_
  refine sx_iadd C dX3_springAt_106 107 rfl ?_
  refine sx_topi (fun y6 ey6 => ?_)
  replace h := h y6 ey6
  refine sx_istore C dX3_springAt_107 [(8, .int y6), (7, .int y5), (6, .int y4), (5, .int y3), (4, .int y2), (3, .int y1), (0, .ref (b + 19)), (1, .int x1), (2, .int x2)] (by decide) rfl 109 rfl ?_
  refine sx_aload_n C dX3_springAt_109 0 6 rfl rfl 110 rfl ?_
  refine sx_getq C (T := TX3) (C0 := RX3) (N := 11) (j := 0) dX3_springAt_110 fl_X3_39 inw_X3 rfl (by decide) rfl (by decide) lyX_19 rfl 113 rfl ?_
  refine sx_iload C dX3_springAt_113 4 rfl 115 rfl ?_
  refine sx_iload C dX3_springAt_115 3 rfl 117 rfl ?_
  refine sx_callV C ht hB (st := []) dX3_springAt_117 (c_X0_widthOf hf h) mi_X0_widthOf lk_X3_109 mn_X0_widthOf ms_X0_widthOf (by decide) lyX_8 rfl rfl rfl rfl ⟨⟨(Nat.le_of_ble_eq_true rfl), (Nat.le_of_ble_eq_true rfl)⟩, (Nat.le_of_ble_eq_true rfl), (Nat.le_of_ble_eq_true rfl)⟩ (Nat.le_of_ble_eq_true rfl) ⟨(Nat.le_of_ble_eq_true rfl), (Nat.le_of_ble_eq_true rfl)⟩ (fun _ _ hx => hx.elim) 120 rfl (fun v g8 h => ?_)
  obtain ⟨⟨r7, rfl, h⟩, rfl⟩ := h
  refine sx_aload_n C dX3_springAt_120 0 6 rfl rfl 121 rfl ?_
  refine sx_geti C (T := TX3) (C0 := RX3) (N := 11) (j := 1) dX3_springAt_121 fl_X3_9 inw_X3 rfl (by decide) rfl (by decide) lyX_19 rfl 124 rfl ?_
  refine sx_isub C dX3_springAt_124 125 rfl ?_
  refine sx_topi (fun y9 ey9 => ?_)
  replace h := h y9 ey9
  refine sx_istore C dX3_springAt_125 [(9, .int y9), (8, .int y6), (7, .int y5), (6, .int y4), (5, .int y3), (4, .int y2), (3, .int y1), (0, .ref (b + 19)), (1, .int x1), (2, .int x2)] (by decide) rfl 127 rfl ?_
  refine sx_iload C dX3_springAt_127 0 rfl 129 rfl ?_
  refine sx_if_le C dX3_springAt_129 151 132 (by decide) rfl (fun c10 => ?_) (fun c10 => ?_)
  · replace h := h.1 c10
    refine sx_iload C dX3_springAt_151 4 rfl 153 rfl ?_
    refine sx_aload_n C dX3_springAt_153 0 7 rfl rfl 154 rfl ?_
    refine sx_getq C (T := TX3) (C0 := RX3) (N := 11) (j := 0) dX3_springAt_154 fl_X3_39 inw_X3 rfl (by decide) rfl (by decide) lyX_19 rfl 157 rfl ?_
    refine sx_getiN C (T := TX0) (C0 := RX0) (N := 9) (j := 3) dX3_springAt_157 fln_X3_46 inw_X0 rfl (by decide) rfl (by decide) lyX_8 rfl 160 rfl ?_
    refine sx_icmp_ne C dX3_springAt_160 168 163 (by decide) rfl (fun c11 => ?_) (fun c11 => ?_)
    · replace h := h.2 c11
      refine sx_iload C dX3_springAt_168 1 rfl 170 rfl ?_
      refine sx_aload_n C dX3_springAt_170 0 7 rfl rfl 171 rfl ?_
      refine sx_iload C dX3_springAt_171 5 rfl 173 rfl ?_
      refine sx_iload C dX3_springAt_173 4 rfl 175 rfl ?_
      refine sx_iload C dX3_springAt_175 0 rfl 177 rfl ?_
      refine sx_ineg C dX3_springAt_177 178 rfl ?_
      refine sx_iload C dX3_springAt_178 3 rfl 180 rfl ?_
      refine sx_callV C ht hB (st := [.int y6]) dX3_springAt_180 (c_X3_stretchedAhead hf h) mi_X3_stretchedAhead lk_X3_139 mn_X3_stretchedAhead ms_X3_stretchedAhead (by decide) lyX_19 rfl rfl rfl rfl ⟨⟨(Nat.le_of_ble_eq_true rfl), (Nat.le_of_ble_eq_true rfl)⟩, (Nat.le_of_ble_eq_true rfl), (Nat.le_of_ble_eq_true rfl)⟩ (Nat.le_of_ble_eq_true rfl) ⟨(Nat.le_of_ble_eq_true rfl), (Nat.le_of_ble_eq_true rfl)⟩ (fun _ _ hx => hx.elim) 183 rfl (fun v g13 h => ?_)
      obtain ⟨⟨r12, rfl, h⟩, rfl⟩ := h
      refine sx_iadd C dX3_springAt_183 184 rfl ?_
      exact sx_iret C dX3_springAt_184 hr (Nat.le_of_ble_eq_true rfl) (Nat.le_of_ble_eq_true rfl) ⟨⟨_, rfl, h⟩, rfl⟩
    · replace h := h.1 c11
      refine sx_iload C dX3_springAt_163 1 rfl 165 rfl ?_
      refine sx_goto C dX3_springAt_165 184 (by decide) ?_
      exact sx_iret C dX3_springAt_184 hr (Nat.le_of_ble_eq_true rfl) (Nat.le_of_ble_eq_true rfl) ⟨⟨_, rfl, h⟩, rfl⟩
  · replace h := h.2 c10
    refine sx_iload C dX3_springAt_132 1 rfl 134 rfl ?_
    refine sx_aload_n C dX3_springAt_134 0 7 rfl rfl 135 rfl ?_
    refine sx_iload C dX3_springAt_135 5 rfl 137 rfl ?_
    refine sx_iload C dX3_springAt_137 4 rfl 139 rfl ?_
    refine sx_iload C dX3_springAt_139 0 rfl 141 rfl ?_
    refine sx_iload C dX3_springAt_141 3 rfl 143 rfl ?_
    refine sx_iload C dX3_springAt_143 2 rfl 145 rfl ?_
    refine sx_isub C dX3_springAt_145 146 rfl ?_
    refine sx_callV C ht hB (st := [.int y6]) dX3_springAt_146 (c_X3_shrunkAhead hf h) mi_X3_shrunkAhead lk_X3_135 mn_X3_shrunkAhead ms_X3_shrunkAhead (by decide) lyX_19 rfl rfl rfl rfl ⟨⟨(Nat.le_of_ble_eq_true rfl), (Nat.le_of_ble_eq_true rfl)⟩, (Nat.le_of_ble_eq_true rfl), (Nat.le_of_ble_eq_true rfl)⟩ (Nat.le_of_ble_eq_true rfl) ⟨(Nat.le_of_ble_eq_true rfl), (Nat.le_of_ble_eq_true rfl)⟩ (fun _ _ hx => hx.elim) 149 rfl (fun v g15 h => ?_)
    obtain ⟨⟨r14, rfl, h⟩, rfl⟩ := h
    refine sx_isub C dX3_springAt_149 150 rfl ?_
    exact sx_iret C dX3_springAt_150 hr (Nat.le_of_ble_eq_true rfl) (Nat.le_of_ble_eq_true rfl) ⟨⟨_, rfl, h⟩, rfl⟩
set_option maxRecDepth 100000 in
set_option maxHeartbeats 4000000 in
theorem c_X4_addBar {l : Launch} {D : va_G} {G : sx_G} {b : Nat} (hf : l.stackTraces = false) {f : sx_F} {x1 : Int32} {Q : Int32 → sx_F → Prop}  (h : P_X4_addBar f x1 Q) : sx_Met l D G b 129 lyX yX4_addBar cX4_addBar 2 (some .int) 1 13 0 0 [.ref (b + 1), .int x1] f (sx_qi Q) (fun _ _ => False) := by
  refine sx_enter (own := RX4) hf rfl rfl (Nat.le_of_ble_eq_true rfl) ?_
  intro p e s m args below meth c C hr ht
  have hB : ∀ k, k < 129 → sx_A b 129 s.heap.size (b + k) := fun k h => sx_A.in h
  unfold P_X4_addBar at h
  refine sx_sub (lv' := [(0, .ref (b + 1)), (1, .int x1)]) [0, 1] rfl ?_
  refine sx_aload_n C dX4_addBar_0 0 0 rfl rfl 1 rfl ?_
  refine sx_getq C (T := TX4) (C0 := RX4) (N := 7) (j := 1) dX4_addBar_1 fl_X4_9 inw_X4 rfl (by decide) rfl (by decide) lyX_1 rfl 4 rfl ?_
  refine sx_aload_n C dX4_addBar_4 0 0 rfl rfl 5 rfl ?_
  refine sx_geti C (T := TX4) (C0 := RX4) (N := 7) (j := 0) dX4_addBar_5 fl_X4_30 inw_X4 rfl (by decide) rfl (by decide) lyX_1 rfl 8 rfl ?_
  refine sx_iload_n C dX4_addBar_8 1 1 rfl rfl 9 rfl ?_
  refine sx_iast C dX4_addBar_9 hB (by decide) lyX_2 h.1 10 rfl (fun g1 eg1 => ?_)
  replace h := h.2 g1 eg1
  refine sx_aload_n C dX4_addBar_10 0 0 rfl rfl 11 rfl ?_
  refine sx_getq C (T := TX4) (C0 := RX4) (N := 7) (j := 2) dX4_addBar_11 fl_X4_15 inw_X4 rfl (by decide) rfl (by decide) lyX_1 rfl 14 rfl ?_
  refine sx_aload_n C dX4_addBar_14 0 0 rfl rfl 15 rfl ?_
  refine sx_geti C (T := TX4) (C0 := RX4) (N := 7) (j := 0) dX4_addBar_15 fl_X4_30 inw_X4 rfl (by decide) rfl (by decide) lyX_1 rfl 18 rfl ?_
  refine sx_iconst C dX4_addBar_18 1 (by decide) 19 rfl ?_
  refine sx_iadd C dX4_addBar_19 20 rfl ?_
  refine sx_aload_n C dX4_addBar_20 0 0 rfl rfl 21 rfl ?_
  refine sx_getq C (T := TX4) (C0 := RX4) (N := 7) (j := 2) dX4_addBar_21 fl_X4_15 inw_X4 rfl (by decide) rfl (by decide) lyX_1 rfl 24 rfl ?_
  refine sx_aload_n C dX4_addBar_24 0 0 rfl rfl 25 rfl ?_
  refine sx_geti C (T := TX4) (C0 := RX4) (N := 7) (j := 0) dX4_addBar_25 fl_X4_30 inw_X4 rfl (by decide) rfl (by decide) lyX_1 rfl 28 rfl ?_
  refine sx_iald C dX4_addBar_28 (by decide) lyX_3 h.1 29 rfl ?_
  replace h := h.2
  refine sx_iload_n C dX4_addBar_29 1 1 rfl rfl 30 rfl ?_
  refine sx_iadd C dX4_addBar_30 31 rfl ?_
  refine sx_iast C dX4_addBar_31 hB (by decide) lyX_3 h.1 32 rfl (fun g2 eg2 => ?_)
  replace h := h.2 g2 eg2
  refine sx_aload_n C dX4_addBar_32 0 0 rfl rfl 33 rfl ?_
  refine sx_dup C dX4_addBar_33 rfl 34 rfl ?_
  refine sx_geti C (T := TX4) (C0 := RX4) (N := 7) (j := 0) dX4_addBar_34 fl_X4_30 inw_X4 rfl (by decide) rfl (by decide) lyX_1 rfl 37 rfl ?_
  refine sx_iconst C dX4_addBar_37 1 (by decide) 38 rfl ?_
  refine sx_iadd C dX4_addBar_38 39 rfl ?_
  refine sx_puti C (T := TX4) (C0 := RX4) (N := 7) (j := 0) dX4_addBar_39 fl_X4_30 inw_X4 rfl tyX4 tyX4_ok nmX4 (by decide) rfl rfl rfl hB (by decide) lyX_1 rfl 42 rfl (fun g3 eg3 => ?_)
  replace h := h g3 eg3
  refine sx_aload_n C dX4_addBar_42 0 0 rfl rfl 43 rfl ?_
  refine sx_geti C (T := TX4) (C0 := RX4) (N := 7) (j := 0) dX4_addBar_43 fl_X4_30 inw_X4 rfl (by decide) rfl (by decide) lyX_1 rfl 46 rfl ?_
  refine sx_iconst C dX4_addBar_46 1 (by decide) 47 rfl ?_
  refine sx_isub C dX4_addBar_47 48 rfl ?_
  exact sx_iret C dX4_addBar_48 hr (Nat.le_of_ble_eq_true rfl) (Nat.le_of_ble_eq_true rfl) ⟨_, rfl, h⟩
set_option maxRecDepth 100000 in
set_option maxHeartbeats 4000000 in
theorem c_X4_addNote {l : Launch} {D : va_G} {G : sx_G} {b : Nat} (hf : l.stackTraces = false) {f : sx_F} {x1 : Int32} {x2 : Int32} {x3 : Int32} {Q : Int32 → sx_F → Prop}  (h : P_X4_addNote f x1 x2 x3 Q) : sx_Met l D G b 129 lyX yX4_addNote cX4_addNote 5 (some .int) 1 13 0 0 [.ref (b + 1), .int x1, .int x2, .int x3] f (sx_qi Q) (fun _ _ => False) := by
  refine sx_enter (own := RX4) hf rfl rfl (Nat.le_of_ble_eq_true rfl) ?_
  intro p e s m args below meth c C hr ht
  have hB : ∀ k, k < 129 → sx_A b 129 s.heap.size (b + k) := fun k h => sx_A.in h
  unfold P_X4_addNote at h
  refine sx_sub (lv' := [(0, .ref (b + 1)), (1, .int x1), (2, .int x2), (3, .int x3)]) [0, 1, 2, 3] rfl ?_
  refine sx_iload_n C dX4_addNote_0 1 1 rfl rfl 1 rfl ?_
  refine sx_bipush C dX4_addNote_1 8 (by decide) 3 rfl ?_
  refine sx_imul C dX4_addNote_3 4 rfl ?_
  refine sx_aload_n C dX4_addNote_4 0 0 rfl rfl 5 rfl ?_
  refine sx_getq C (T := TX4) (C0 := RX4) (N := 7) (j := 4) dX4_addNote_5 fl_X4_21 inw_X4 rfl (by decide) rfl (by decide) lyX_1 rfl 8 rfl ?_
  refine sx_iload_n C dX4_addNote_8 1 1 rfl rfl 9 rfl ?_
  refine sx_iald C dX4_addNote_9 (by decide) lyX_5 h.1 10 rfl ?_
  replace h := h.2
  refine sx_iadd C dX4_addNote_10 11 rfl ?_
  refine sx_topi (fun y1 ey1 => ?_)
  replace h := h y1 ey1
  refine sx_istore C dX4_addNote_11 [(4, .int y1), (0, .ref (b + 1)), (1, .int x1), (2, .int x2), (3, .int x3)] (by decide) rfl 13 rfl ?_
  refine sx_aload_n C dX4_addNote_13 0 1 rfl rfl 14 rfl ?_
  refine sx_getq C (T := TX4) (C0 := RX4) (N := 7) (j := 5) dX4_addNote_14 fl_X4_24 inw_X4 rfl (by decide) rfl (by decide) lyX_1 rfl 17 rfl ?_
  refine sx_iload C dX4_addNote_17 0 rfl 19 rfl ?_
  refine sx_iload_n C dX4_addNote_19 2 3 rfl rfl 20 rfl ?_
  refine sx_iast C dX4_addNote_20 hB (by decide) lyX_6 h.1 21 rfl (fun g2 eg2 => ?_)
  replace h := h.2 g2 eg2
  refine sx_aload_n C dX4_addNote_21 0 1 rfl rfl 22 rfl ?_
  refine sx_getq C (T := TX4) (C0 := RX4) (N := 7) (j := 6) dX4_addNote_22 fl_X4_27 inw_X4 rfl (by decide) rfl (by decide) lyX_1 rfl 25 rfl ?_
  refine sx_iload C dX4_addNote_25 0 rfl 27 rfl ?_
  refine sx_iload_n C dX4_addNote_27 3 4 rfl rfl 28 rfl ?_
  refine sx_iast C dX4_addNote_28 hB (by decide) lyX_7 h.1 29 rfl (fun g3 eg3 => ?_)
  replace h := h.2 g3 eg3
  refine sx_aload_n C dX4_addNote_29 0 1 rfl rfl 30 rfl ?_
  refine sx_getq C (T := TX4) (C0 := RX4) (N := 7) (j := 4) dX4_addNote_30 fl_X4_21 inw_X4 rfl (by decide) rfl (by decide) lyX_1 rfl 33 rfl ?_
  refine sx_iload_n C dX4_addNote_33 1 2 rfl rfl 34 rfl ?_
  refine sx_dup2 C dX4_addNote_34 rfl rfl 35 rfl ?_
  refine sx_iald C dX4_addNote_35 (by decide) lyX_5 h.1 36 rfl ?_
  replace h := h.2
  refine sx_iconst C dX4_addNote_36 1 (by decide) 37 rfl ?_
  refine sx_iadd C dX4_addNote_37 38 rfl ?_
  refine sx_iast C dX4_addNote_38 hB (by decide) lyX_5 h.1 39 rfl (fun g4 eg4 => ?_)
  replace h := h.2 g4 eg4
  refine sx_aload_n C dX4_addNote_39 0 1 rfl rfl 40 rfl ?_
  refine sx_getq C (T := TX4) (C0 := RX4) (N := 7) (j := 3) dX4_addNote_40 fl_X4_18 inw_X4 rfl (by decide) rfl (by decide) lyX_1 rfl 43 rfl ?_
  refine sx_iload_n C dX4_addNote_43 1 2 rfl rfl 44 rfl ?_
  refine sx_dup2 C dX4_addNote_44 rfl rfl 45 rfl ?_
  refine sx_iald C dX4_addNote_45 (by decide) lyX_4 h.1 46 rfl ?_
  replace h := h.2
  refine sx_iconst C dX4_addNote_46 1 (by decide) 47 rfl ?_
  refine sx_iadd C dX4_addNote_47 48 rfl ?_
  refine sx_iast C dX4_addNote_48 hB (by decide) lyX_4 h.1 49 rfl (fun g5 eg5 => ?_)
  replace h := h.2 g5 eg5
  refine sx_aload_n C dX4_addNote_49 0 1 rfl rfl 50 rfl ?_
  refine sx_getq C (T := TX4) (C0 := RX4) (N := 7) (j := 4) dX4_addNote_50 fl_X4_21 inw_X4 rfl (by decide) rfl (by decide) lyX_1 rfl 53 rfl ?_
  refine sx_iload_n C dX4_addNote_53 1 2 rfl rfl 54 rfl ?_
  refine sx_iald C dX4_addNote_54 (by decide) lyX_5 h.1 55 rfl ?_
  replace h := h.2
  exact sx_iret C dX4_addNote_55 hr (Nat.le_of_ble_eq_true rfl) (Nat.le_of_ble_eq_true rfl) ⟨_, rfl, h⟩
set_option maxRecDepth 100000 in
set_option maxHeartbeats 4000000 in
theorem c_X4_changePitch {l : Launch} {D : va_G} {G : sx_G} {b : Nat} (hf : l.stackTraces = false) {f : sx_F} {x1 : Int32} {x2 : Int32} {x3 : Int32} {Q : Int32 → sx_F → Prop}  (h : P_X4_changePitch f x1 x2 x3 Q) : sx_Met l D G b 129 lyX yX4_changePitch cX4_changePitch 6 (some .int) 1 13 0 0 [.ref (b + 1), .int x1, .int x2, .int x3] f (sx_qi Q) (fun _ _ => False) := by
  refine sx_enter (own := RX4) hf rfl rfl (Nat.le_of_ble_eq_true rfl) ?_
  intro p e s m args below meth c C hr ht
  have hB : ∀ k, k < 129 → sx_A b 129 s.heap.size (b + k) := fun k h => sx_A.in h
  unfold P_X4_changePitch at h
  refine sx_sub (lv' := [(0, .ref (b + 1)), (1, .int x1), (2, .int x2), (3, .int x3)]) [0, 1, 2, 3] rfl ?_
  refine sx_iload_n C dX4_changePitch_0 1 1 rfl rfl 1 rfl ?_
  refine sx_bipush C dX4_changePitch_1 8 (by decide) 3 rfl ?_
  refine sx_imul C dX4_changePitch_3 4 rfl ?_
  refine sx_iload_n C dX4_changePitch_4 2 2 rfl rfl 5 rfl ?_
  refine sx_iadd C dX4_changePitch_5 6 rfl ?_
  refine sx_topi (fun y1 ey1 => ?_)
  replace h := h y1 ey1
  refine sx_istore C dX4_changePitch_6 [(4, .int y1), (0, .ref (b + 1)), (1, .int x1), (2, .int x2), (3, .int x3)] (by decide) rfl 8 rfl ?_
  refine sx_aload_n C dX4_changePitch_8 0 1 rfl rfl 9 rfl ?_
  refine sx_getq C (T := TX4) (C0 := RX4) (N := 7) (j := 6) dX4_changePitch_9 fl_X4_27 inw_X4 rfl (by decide) rfl (by decide) lyX_1 rfl 12 rfl ?_
  refine sx_iload C dX4_changePitch_12 0 rfl 14 rfl ?_
  refine sx_iald C dX4_changePitch_14 (by decide) lyX_7 h.1 15 rfl ?_
  replace h := h.2
  refine sx_topi (fun y2 ey2 => ?_)
  replace h := h y2 ey2
  refine sx_istore C dX4_changePitch_15 [(5, .int y2), (4, .int y1), (0, .ref (b + 1)), (1, .int x1), (2, .int x2), (3, .int x3)] (by decide) rfl 17 rfl ?_
  refine sx_iload C dX4_changePitch_17 0 rfl 19 rfl ?_
  refine sx_iload_n C dX4_changePitch_19 3 5 rfl rfl 20 rfl ?_
  refine sx_icmp_eq C dX4_changePitch_20 41 23 (by decide) rfl (fun c3 => ?_) (fun c3 => ?_)
  · replace h := h.1 c3
    refine sx_iload C dX4_changePitch_41 0 rfl 43 rfl ?_
    exact sx_iret C dX4_changePitch_43 hr (Nat.le_of_ble_eq_true rfl) (Nat.le_of_ble_eq_true rfl) ⟨_, rfl, h⟩
  · replace h := h.2 c3
    refine sx_aload_n C dX4_changePitch_23 0 2 rfl rfl 24 rfl ?_
    refine sx_getq C (T := TX4) (C0 := RX4) (N := 7) (j := 6) dX4_changePitch_24 fl_X4_27 inw_X4 rfl (by decide) rfl (by decide) lyX_1 rfl 27 rfl ?_
    refine sx_iload C dX4_changePitch_27 1 rfl 29 rfl ?_
    refine sx_iload_n C dX4_changePitch_29 3 5 rfl rfl 30 rfl ?_
    refine sx_iast C dX4_changePitch_30 hB (by decide) lyX_7 h.1 31 rfl (fun g4 eg4 => ?_)
    replace h := h.2 g4 eg4
    refine sx_aload_n C dX4_changePitch_31 0 2 rfl rfl 32 rfl ?_
    refine sx_getq C (T := TX4) (C0 := RX4) (N := 7) (j := 3) dX4_changePitch_32 fl_X4_18 inw_X4 rfl (by decide) rfl (by decide) lyX_1 rfl 35 rfl ?_
    refine sx_iload_n C dX4_changePitch_35 1 3 rfl rfl 36 rfl ?_
    refine sx_dup2 C dX4_changePitch_36 rfl rfl 37 rfl ?_
    refine sx_iald C dX4_changePitch_37 (by decide) lyX_4 h.1 38 rfl ?_
    replace h := h.2
    refine sx_iconst C dX4_changePitch_38 1 (by decide) 39 rfl ?_
    refine sx_iadd C dX4_changePitch_39 40 rfl ?_
    refine sx_iast C dX4_changePitch_40 hB (by decide) lyX_4 h.1 41 rfl (fun g5 eg5 => ?_)
    replace h := h.2 g5 eg5
    refine sx_iload C dX4_changePitch_41 0 rfl 43 rfl ?_
    exact sx_iret C dX4_changePitch_43 hr (Nat.le_of_ble_eq_true rfl) (Nat.le_of_ble_eq_true rfl) ⟨_, rfl, h⟩
set_option maxRecDepth 100000 in
set_option maxHeartbeats 4000000 in
theorem c_X4_takeNotes {l : Launch} {D : va_G} {G : sx_G} {b : Nat} (hf : l.stackTraces = false) {f : sx_F} {x1 : Int32} {Q : Int32 → sx_F → Prop}  (h : P_X4_takeNotes f x1 Q) : sx_Met l D G b 129 lyX yX4_takeNotes cX4_takeNotes 3 (some .int) 1 13 0 0 [.ref (b + 1), .int x1] f (sx_qi Q) (fun _ _ => False) := by
  refine sx_enter (own := RX4) hf rfl rfl (Nat.le_of_ble_eq_true rfl) ?_
  intro p e s m args below meth c C hr ht
  have hB : ∀ k, k < 129 → sx_A b 129 s.heap.size (b + k) := fun k h => sx_A.in h
  unfold P_X4_takeNotes at h
  refine sx_sub (lv' := [(0, .ref (b + 1)), (1, .int x1)]) [0, 1] rfl ?_
  refine sx_aload_n C dX4_takeNotes_0 0 0 rfl rfl 1 rfl ?_
  refine sx_getq C (T := TX4) (C0 := RX4) (N := 7) (j := 4) dX4_takeNotes_1 fl_X4_21 inw_X4 rfl (by decide) rfl (by decide) lyX_1 rfl 4 rfl ?_
  refine sx_iload_n C dX4_takeNotes_4 1 1 rfl rfl 5 rfl ?_
  refine sx_iald C dX4_takeNotes_5 (by decide) lyX_5 h.1 6 rfl ?_
  replace h := h.2
  refine sx_topi (fun y1 ey1 => ?_)
  replace h := h y1 ey1
  refine sx_istore_n C dX4_takeNotes_6 2 rfl [(2, .int y1), (0, .ref (b + 1)), (1, .int x1)] (by decide) rfl 7 rfl ?_
  refine sx_iload_n C dX4_takeNotes_7 2 0 rfl rfl 8 rfl ?_
  refine sx_if_le C dX4_takeNotes_8 28 11 (by decide) rfl (fun c2 => ?_) (fun c2 => ?_)
  · replace h := h.1 c2
    refine sx_iload_n C dX4_takeNotes_28 2 0 rfl rfl 29 rfl ?_
    exact sx_iret C dX4_takeNotes_29 hr (Nat.le_of_ble_eq_true rfl) (Nat.le_of_ble_eq_true rfl) ⟨_, rfl, h⟩
  · replace h := h.2 c2
    refine sx_aload_n C dX4_takeNotes_11 0 1 rfl rfl 12 rfl ?_
    refine sx_getq C (T := TX4) (C0 := RX4) (N := 7) (j := 4) dX4_takeNotes_12 fl_X4_21 inw_X4 rfl (by decide) rfl (by decide) lyX_1 rfl 15 rfl ?_
    refine sx_iload_n C dX4_takeNotes_15 1 2 rfl rfl 16 rfl ?_
    refine sx_iconst C dX4_takeNotes_16 0 (by decide) 17 rfl ?_
    refine sx_iast C dX4_takeNotes_17 hB (by decide) lyX_5 h.1 18 rfl (fun g3 eg3 => ?_)
    replace h := h.2 g3 eg3
    refine sx_aload_n C dX4_takeNotes_18 0 1 rfl rfl 19 rfl ?_
    refine sx_getq C (T := TX4) (C0 := RX4) (N := 7) (j := 3) dX4_takeNotes_19 fl_X4_18 inw_X4 rfl (by decide) rfl (by decide) lyX_1 rfl 22 rfl ?_
    refine sx_iload_n C dX4_takeNotes_22 1 2 rfl rfl 23 rfl ?_
    refine sx_dup2 C dX4_takeNotes_23 rfl rfl 24 rfl ?_
    refine sx_iald C dX4_takeNotes_24 (by decide) lyX_4 h.1 25 rfl ?_
    replace h := h.2
    refine sx_iconst C dX4_takeNotes_25 1 (by decide) 26 rfl ?_
    refine sx_iadd C dX4_takeNotes_26 27 rfl ?_
    refine sx_iast C dX4_takeNotes_27 hB (by decide) lyX_4 h.1 28 rfl (fun g4 eg4 => ?_)
    replace h := h.2 g4 eg4
    refine sx_iload_n C dX4_takeNotes_28 2 0 rfl rfl 29 rfl ?_
    exact sx_iret C dX4_takeNotes_29 hr (Nat.le_of_ble_eq_true rfl) (Nat.le_of_ble_eq_true rfl) ⟨_, rfl, h⟩
