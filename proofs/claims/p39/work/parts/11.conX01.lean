set_option maxRecDepth 100000 in
set_option maxHeartbeats 4000000 in
theorem c_X6_slotOf {l : Launch} {D : va_G} {G : sx_G} {b : Nat} (hf : l.stackTraces = false) {f : sx_F} {x0 : Int32} {x1 : Int32} {Q : Int32 → Prop}  (h : P_X6_slotOf f x0 x1 Q) : sx_Met l D G b 129 lyX yX6_slotOf cX6_slotOf 2 (some .int) 1 13 0 0 [.int x0, .int x1] f (sx_pi f Q) (fun _ _ => False) := by
  refine sx_enter (own := RX6) hf rfl rfl (Nat.le_of_ble_eq_true rfl) ?_
  intro p e s m args below meth c C hr ht
  have hB : ∀ k, k < 129 → sx_A b 129 s.heap.size (b + k) := fun k h => sx_A.in h
  unfold P_X6_slotOf at h
  refine sx_sub (lv' := [(0, .int x0), (1, .int x1)]) [0, 1] rfl ?_
  refine sx_iload_n C dX6_slotOf_0 0 0 rfl rfl 1 rfl ?_
  refine sx_bipush C dX6_slotOf_1 12 (by decide) 3 rfl ?_
  refine sx_imul C dX6_slotOf_3 4 rfl ?_
  refine sx_iload_n C dX6_slotOf_4 1 1 rfl rfl 5 rfl ?_
  refine sx_iadd C dX6_slotOf_5 6 rfl ?_
  exact sx_iret C dX6_slotOf_6 hr (Nat.le_of_ble_eq_true rfl) (Nat.le_of_ble_eq_true rfl) ⟨⟨_, rfl, h⟩, rfl⟩
set_option maxRecDepth 100000 in
set_option maxHeartbeats 4000000 in
theorem cn_X6_slotOf {l : Launch} {D : va_G} {G : sx_G} {b : Nat} (hf : l.stackTraces = false) {f : sx_F} {x0 : Int32} {x1 : Int32} {Q : Int32 → Prop}  (h : P_X6_slotOf f x0 x1 Q) : sx_MetN l D G b 129 lyX yX6_slotOf cX6_slotOf 2 (some .int) 1 13 [.int x0, .int x1] f (sx_pi f Q) := by
  refine sx_enterN (own := RX6) hf rfl rfl (Nat.le_of_ble_eq_true rfl) ?_
  intro p e s m args below meth c C hr
  have hB : ∀ k, k < 129 → sx_A b 129 s.heap.size (b + k) := fun k h => sx_A.in h
  unfold P_X6_slotOf at h
  refine sx_sub (lv' := [(0, .int x0), (1, .int x1)]) [0, 1] rfl ?_
  refine sx_iload_n C dX6_slotOf_0 0 0 rfl rfl 1 rfl ?_
  refine sx_bipush C dX6_slotOf_1 12 (by decide) 3 rfl ?_
  refine sx_imul C dX6_slotOf_3 4 rfl ?_
  refine sx_iload_n C dX6_slotOf_4 1 1 rfl rfl 5 rfl ?_
  refine sx_iadd C dX6_slotOf_5 6 rfl ?_
  exact sx_iretN C dX6_slotOf_6 hr ⟨⟨_, rfl, h⟩, rfl⟩
set_option maxRecDepth 100000 in
set_option maxHeartbeats 4000000 in
theorem c_X4_pitchAt {l : Launch} {D : va_G} {G : sx_G} {b : Nat} (hf : l.stackTraces = false) {f : sx_F} {x1 : Int32} {x2 : Int32} {Q : Int32 → Prop}  (h : P_X4_pitchAt f x1 x2 Q) : sx_Met l D G b 129 lyX yX4_pitchAt cX4_pitchAt 3 (some .int) 1 13 0 0 [.ref (b + 1), .int x1, .int x2] f (sx_pi f Q) (fun _ _ => False) := by
  refine sx_enter (own := RX4) hf rfl rfl (Nat.le_of_ble_eq_true rfl) ?_
  intro p e s m args below meth c C hr ht
  have hB : ∀ k, k < 129 → sx_A b 129 s.heap.size (b + k) := fun k h => sx_A.in h
  unfold P_X4_pitchAt at h
  refine sx_sub (lv' := [(0, .ref (b + 1)), (1, .int x1), (2, .int x2)]) [0, 1, 2] rfl ?_
  refine sx_aload_n C dX4_pitchAt_0 0 0 rfl rfl 1 rfl ?_
  refine sx_getq C (T := TX4) (C0 := RX4) (N := 7) (j := 6) dX4_pitchAt_1 fl_X4_27 inw_X4 rfl (by decide) rfl (by decide) lyX_1 rfl 4 rfl ?_
  refine sx_iload_n C dX4_pitchAt_4 1 1 rfl rfl 5 rfl ?_
  refine sx_bipush C dX4_pitchAt_5 8 (by decide) 7 rfl ?_
  refine sx_imul C dX4_pitchAt_7 8 rfl ?_
  refine sx_iload_n C dX4_pitchAt_8 2 2 rfl rfl 9 rfl ?_
  refine sx_iadd C dX4_pitchAt_9 10 rfl ?_
  refine sx_iald C dX4_pitchAt_10 (by decide) lyX_7 h.1 11 rfl ?_
  replace h := h.2
  exact sx_iret C dX4_pitchAt_11 hr (Nat.le_of_ble_eq_true rfl) (Nat.le_of_ble_eq_true rfl) ⟨⟨_, rfl, h⟩, rfl⟩
set_option maxRecDepth 100000 in
set_option maxHeartbeats 4000000 in
theorem c_X4_isSilent {l : Launch} {D : va_G} {G : sx_G} {b : Nat} (hf : l.stackTraces = false) {f : sx_F} {x1 : Int32} {x2 : Int32} {Q : Int32 → Prop}  (h : P_X4_isSilent f x1 x2 Q) : sx_Met l D G b 129 lyX yX4_isSilent cX4_isSilent 5 (some .boolean) 2 35 0 0 [.ref (b + 1), .int x1, .int x2] f (sx_pi f Q) (fun _ _ => False) := by
  refine sx_enter (own := RX4) hf rfl rfl (Nat.le_of_ble_eq_true rfl) ?_
  intro p e s m args below meth c C hr ht
  have hB : ∀ k, k < 129 → sx_A b 129 s.heap.size (b + k) := fun k h => sx_A.in h
  unfold P_X4_isSilent at h
  replace h := h (fun (v3 : Int32) (v4 : Int32) => sx_J (sx_wp D G b lyX 129) p l e { frames := 2, cells := 0, slots := 0, locals := 35 } s m args below meth c (sx_A b 129 s.heap.size) 5 0 0 (sx_fin (sx_wp D G b lyX 129) (sx_A b 129 s.heap.size) below args s 0 0 (sx_pi f Q) (fun _ _ => False)) f 9 [(0, .ref (b + 1)), (3, .int v3), (4, .int v4)] [])
  replace h := h (by
    intro v3 v4 h
    refine sx_iload C dX4_isSilent_9 2 rfl 11 rfl ?_
    refine sx_aload_n C dX4_isSilent_11 0 0 rfl rfl 12 rfl ?_
    refine sx_getq C (T := TX4) (C0 := RX4) (N := 7) (j := 4) dX4_isSilent_12 fl_X4_21 inw_X4 rfl (by decide) rfl (by decide) lyX_1 rfl 15 rfl ?_
    refine sx_iload_n C dX4_isSilent_15 3 1 rfl rfl 16 rfl ?_
    refine sx_iald C dX4_isSilent_16 (by decide) lyX_5 h.1 17 rfl ?_
    replace h := h.2
    refine sx_icmp_ge C dX4_isSilent_17 38 20 (by decide) rfl (fun c1 => ?_) (fun c1 => ?_)
    · replace h := h.1 c1
      refine sx_iconst C dX4_isSilent_38 1 (by decide) 39 rfl ?_
      exact sx_zret C dX4_isSilent_39 hr (Nat.le_of_ble_eq_true rfl) (Nat.le_of_ble_eq_true rfl) (Or.inr rfl) ⟨⟨_, rfl, h⟩, rfl⟩
    · replace h := h.2 c1
      refine sx_aload_n C dX4_isSilent_20 0 0 rfl rfl 21 rfl ?_
      refine sx_iload_n C dX4_isSilent_21 3 1 rfl rfl 22 rfl ?_
      refine sx_iload C dX4_isSilent_22 2 rfl 24 rfl ?_
      refine sx_callV C ht hB (st := []) dX4_isSilent_24 (c_X4_pitchAt hf h) mi_X4_pitchAt lk_X4_41 mn_X4_pitchAt ms_X4_pitchAt (by decide) lyX_1 rfl rfl rfl rfl ⟨⟨(Nat.le_of_ble_eq_true rfl), (Nat.le_of_ble_eq_true rfl)⟩, (Nat.le_of_ble_eq_true rfl), (Nat.le_of_ble_eq_true rfl)⟩ (Nat.le_of_ble_eq_true rfl) ⟨(Nat.le_of_ble_eq_true rfl), (Nat.le_of_ble_eq_true rfl)⟩ (fun _ _ hx => hx.elim) 27 rfl (fun v g3 h => ?_)
      obtain ⟨⟨r2, rfl, h⟩, rfl⟩ := h
      refine sx_if_le C dX4_isSilent_27 32 30 (by decide) rfl (fun c4 => ?_) (fun c4 => ?_)
      · replace h := h.1 c4
        obtain ⟨y5, ey5⟩ : ∃ w : Int32, w = v4 + 1 := ⟨_, rfl⟩
        replace h := h y5 ey5
        refine sx_iinc C dX4_isSilent_32 2 rfl y5 (by rw [ey5]; rfl) [(4, .int y5), (0, .ref (b + 1)), (3, .int v3)] (by decide) rfl 35 rfl ?_
        refine sx_goto C dX4_isSilent_35 9 (by decide) ?_
        exact sx_sub [1, 2, 0] rfl h
      · replace h := h.2 c4
        refine sx_iconst C dX4_isSilent_30 0 (by decide) 31 rfl ?_
        exact sx_zret C dX4_isSilent_31 hr (Nat.le_of_ble_eq_true rfl) (Nat.le_of_ble_eq_true rfl) (Or.inl rfl) ⟨⟨_, rfl, h⟩, rfl⟩)
  refine sx_sub (lv' := [(0, .ref (b + 1)), (1, .int x1), (2, .int x2)]) [0, 1, 2] rfl ?_
  refine sx_iload_n C dX4_isSilent_0 1 1 rfl rfl 1 rfl ?_
  refine sx_iload_n C dX4_isSilent_1 2 2 rfl rfl 2 rfl ?_
  refine sx_callSN C hB (st := []) dX4_isSilent_2 (cn_X6_slotOf hf h) mi_X6_slotOf lkn_X4_38 mt_X6_slotOf rfl rfl ⟨⟨(Nat.le_of_ble_eq_true rfl), (Nat.le_of_ble_eq_true rfl)⟩, (Nat.le_of_ble_eq_true rfl), (Nat.le_of_ble_eq_true rfl)⟩ (Nat.le_of_ble_eq_true rfl) 5 rfl (fun v g7 h => ?_)
  obtain ⟨⟨r6, rfl, h⟩, rfl⟩ := h
  refine sx_istore_n C dX4_isSilent_5 3 rfl [(3, .int r6), (0, .ref (b + 1)), (1, .int x1), (2, .int x2)] (by decide) rfl 6 rfl ?_
  refine sx_iconst C dX4_isSilent_6 0 (by decide) 7 rfl ?_
  refine sx_istore C dX4_isSilent_7 [(4, .int 0), (3, .int r6), (0, .ref (b + 1)), (1, .int x1), (2, .int x2)] (by decide) rfl 9 rfl ?_
  exact sx_sub [2, 1, 0] rfl h
set_option maxRecDepth 100000 in
set_option maxHeartbeats 4000000 in
theorem c_X4_cuePlayer {l : Launch} {D : va_G} {G : sx_G} {b : Nat} (hf : l.stackTraces = false) {f : sx_F} {x1 : Int32} {x2 : Int32} {Q : Int32 → Prop}  (h : P_X4_cuePlayer f x1 x2 Q) : sx_Met l D G b 129 lyX yX4_cuePlayer cX4_cuePlayer 8 (some .int) 3 59 0 0 [.ref (b + 1), .int x1, .int x2] f (sx_pi f Q) (fun _ _ => False) := by
  refine sx_enter (own := RX4) hf rfl rfl (Nat.le_of_ble_eq_true rfl) ?_
  intro p e s m args below meth c C hr ht
  have hB : ∀ k, k < 129 → sx_A b 129 s.heap.size (b + k) := fun k h => sx_A.in h
  unfold P_X4_cuePlayer at h
  replace h := h (sx_J (sx_wp D G b lyX 129) p l e { frames := 3, cells := 0, slots := 0, locals := 59 } s m args below meth c (sx_A b 129 s.heap.size) 8 0 0 (sx_fin (sx_wp D G b lyX 129) (sx_A b 129 s.heap.size) below args s 0 0 (sx_pi f Q) (fun _ _ => False)) f 61 [(0, .ref (b + 1)), (1, .int x1), (2, .int x2)] [])
  replace h := h (fun (s0 : Int32) => sx_J (sx_wp D G b lyX 129) p l e { frames := 3, cells := 0, slots := 0, locals := 59 } s m args below meth c (sx_A b 129 s.heap.size) 8 0 0 (sx_fin (sx_wp D G b lyX 129) (sx_A b 129 s.heap.size) below args s 0 0 (sx_pi f Q) (fun _ _ => False)) f 62 [(0, .ref (b + 1)), (1, .int x1), (2, .int x2)] [.int s0])
  replace h := h (fun (v4 : Int32) (v5 : Int32) (v6 : Int32) => sx_J (sx_wp D G b lyX 129) p l e { frames := 3, cells := 0, slots := 0, locals := 59 } s m args below meth c (sx_A b 129 s.heap.size) 8 0 0 (sx_fin (sx_wp D G b lyX 129) (sx_A b 129 s.heap.size) below args s 0 0 (sx_pi f Q) (fun _ _ => False)) f 78 [(0, .ref (b + 1)), (1, .int x1), (2, .int x2), (4, .int v4), (5, .int v5), (6, .int v6)] [])
  replace h := h (fun (v4 : Int32) (v5 : Int32) (v6 : Int32) => sx_J (sx_wp D G b lyX 129) p l e { frames := 3, cells := 0, slots := 0, locals := 59 } s m args below meth c (sx_A b 129 s.heap.size) 8 0 0 (sx_fin (sx_wp D G b lyX 129) (sx_A b 129 s.heap.size) below args s 0 0 (sx_pi f Q) (fun _ _ => False)) f 128 [(0, .ref (b + 1)), (1, .int x1), (2, .int x2), (4, .int v4), (5, .int v5), (6, .int v6)] [])
  replace h := h (by
    intro h
    refine sx_iconst C dX4_cuePlayer_61 0 (by decide) 62 rfl ?_
    exact sx_sub [0, 1, 2] rfl h)
  replace h := h (by
    intro s0 h
    refine sx_istore_n C dX4_cuePlayer_62 3 rfl [(3, .int s0), (0, .ref (b + 1)), (1, .int x1), (2, .int x2)] (by decide) rfl 63 rfl ?_
    refine sx_iload_n C dX4_cuePlayer_63 3 0 rfl rfl 64 rfl ?_
    refine sx_if_ne C dX4_cuePlayer_64 69 67 (by decide) rfl (fun c1 => ?_) (fun c1 => ?_)
    · replace h := h.2 c1
      refine sx_iconst C dX4_cuePlayer_69 (-1) (by decide) 70 rfl ?_
      refine sx_istore C dX4_cuePlayer_70 [(4, .int (-1)), (3, .int s0), (0, .ref (b + 1)), (1, .int x1), (2, .int x2)] (by decide) rfl 72 rfl ?_
      refine sx_iconst C dX4_cuePlayer_72 0 (by decide) 73 rfl ?_
      refine sx_istore C dX4_cuePlayer_73 [(5, .int 0), (4, .int (-1)), (3, .int s0), (0, .ref (b + 1)), (1, .int x1), (2, .int x2)] (by decide) rfl 75 rfl ?_
      refine sx_iconst C dX4_cuePlayer_75 0 (by decide) 76 rfl ?_
      refine sx_istore C dX4_cuePlayer_76 [(6, .int 0), (5, .int 0), (4, .int (-1)), (3, .int s0), (0, .ref (b + 1)), (1, .int x1), (2, .int x2)] (by decide) rfl 78 rfl ?_
      exact sx_sub [4, 5, 6, 2, 1, 0] rfl h
    · replace h := h.1 c1
      refine sx_iconst C dX4_cuePlayer_67 (-1) (by decide) 68 rfl ?_
      exact sx_iret C dX4_cuePlayer_68 hr (Nat.le_of_ble_eq_true rfl) (Nat.le_of_ble_eq_true rfl) ⟨⟨_, rfl, h⟩, rfl⟩)
  replace h := h (by
    intro v4 v5 v6 h
    refine sx_iload C dX4_cuePlayer_78 5 rfl 80 rfl ?_
    refine sx_iconst C dX4_cuePlayer_80 5 (by decide) 81 rfl ?_
    refine sx_icmp_ge C dX4_cuePlayer_81 134 84 (by decide) rfl (fun c2 => ?_) (fun c2 => ?_)
    · replace h := h.1 c2
      refine sx_iload C dX4_cuePlayer_134 3 rfl 136 rfl ?_
      exact sx_iret C dX4_cuePlayer_136 hr (Nat.le_of_ble_eq_true rfl) (Nat.le_of_ble_eq_true rfl) ⟨⟨_, rfl, h⟩, rfl⟩
    · replace h := h.2 c2
      refine sx_aload_n C dX4_cuePlayer_84 0 0 rfl rfl 85 rfl ?_
      refine sx_getq C (T := TX4) (C0 := RX4) (N := 7) (j := 4) dX4_cuePlayer_85 fl_X4_21 inw_X4 rfl (by decide) rfl (by decide) lyX_1 rfl 88 rfl ?_
      refine sx_iload C dX4_cuePlayer_88 5 rfl 90 rfl ?_
      refine sx_iload_n C dX4_cuePlayer_90 2 2 rfl rfl 91 rfl ?_
      refine sx_callSN C hB (st := [.ref (b + 5)]) dX4_cuePlayer_91 (cn_X6_slotOf hf h) mi_X6_slotOf lkn_X4_38 mt_X6_slotOf rfl rfl ⟨⟨(Nat.le_of_ble_eq_true rfl), (Nat.le_of_ble_eq_true rfl)⟩, (Nat.le_of_ble_eq_true rfl), (Nat.le_of_ble_eq_true rfl)⟩ (Nat.le_of_ble_eq_true rfl) 94 rfl (fun v g4 h => ?_)
      obtain ⟨⟨r3, rfl, h⟩, rfl⟩ := h
      refine sx_iald C dX4_cuePlayer_94 (by decide) lyX_5 h.1 95 rfl ?_
      replace h := h.2
      refine sx_topi (fun y5 ey5 => ?_)
      replace h := h y5 ey5
      refine sx_istore C dX4_cuePlayer_95 [(7, .int y5), (0, .ref (b + 1)), (1, .int x1), (2, .int x2), (4, .int v4), (5, .int v5), (6, .int v6)] (by decide) rfl 97 rfl ?_
      refine sx_iload C dX4_cuePlayer_97 6 rfl 99 rfl ?_
      refine sx_iload_n C dX4_cuePlayer_99 1 2 rfl rfl 100 rfl ?_
      refine sx_icmp_eq C dX4_cuePlayer_100 128 103 (by decide) rfl (fun c6 => ?_) (fun c6 => ?_)
      · replace h := h.1 c6
        exact sx_sub [1, 2, 3, 4, 5, 6] rfl h
      · replace h := h.2 c6
        refine sx_iload C dX4_cuePlayer_103 0 rfl 105 rfl ?_
        refine sx_iload C dX4_cuePlayer_105 5 rfl 107 rfl ?_
        refine sx_icmp_le C dX4_cuePlayer_107 128 110 (by decide) rfl (fun c7 => ?_) (fun c7 => ?_)
        · replace h := h.1 c7
          exact sx_sub [1, 2, 3, 4, 5, 6] rfl h
        · replace h := h.2 c7
          refine sx_aload_n C dX4_cuePlayer_110 0 1 rfl rfl 111 rfl ?_
          refine sx_iload C dX4_cuePlayer_111 6 rfl 113 rfl ?_
          refine sx_iload_n C dX4_cuePlayer_113 2 3 rfl rfl 114 rfl ?_
          refine sx_callV C ht hB (st := []) dX4_cuePlayer_114 (c_X4_isSilent hf h) mi_X4_isSilent lk_X4_44 mn_X4_isSilent ms_X4_isSilent (by decide) lyX_1 rfl rfl rfl rfl ⟨⟨(Nat.le_of_ble_eq_true rfl), (Nat.le_of_ble_eq_true rfl)⟩, (Nat.le_of_ble_eq_true rfl), (Nat.le_of_ble_eq_true rfl)⟩ (Nat.le_of_ble_eq_true rfl) ⟨(Nat.le_of_ble_eq_true rfl), (Nat.le_of_ble_eq_true rfl)⟩ (fun _ _ hx => hx.elim) 117 rfl (fun v g9 h => ?_)
          obtain ⟨⟨r8, rfl, h⟩, rfl⟩ := h
          refine sx_if_ne C dX4_cuePlayer_117 128 120 (by decide) rfl (fun c10 => ?_) (fun c10 => ?_)
          · replace h := h.2 c10
            exact sx_sub [1, 2, 3, 4, 5, 6] rfl h
          · replace h := h.1 c10
            refine sx_iload C dX4_cuePlayer_120 6 rfl 122 rfl ?_
            refine sx_istore C dX4_cuePlayer_122 [(4, .int v6), (7, .int y5), (0, .ref (b + 1)), (1, .int x1), (2, .int x2), (5, .int v5), (6, .int v6)] (by decide) rfl 124 rfl ?_
            refine sx_iload C dX4_cuePlayer_124 1 rfl 126 rfl ?_
            refine sx_istore C dX4_cuePlayer_126 [(5, .int y5), (4, .int v6), (7, .int y5), (0, .ref (b + 1)), (1, .int x1), (2, .int x2), (6, .int v6)] (by decide) rfl 128 rfl ?_
            exact sx_sub [3, 4, 5, 1, 0, 6] rfl h)
  replace h := h (by
    intro v4 v5 v6 h
    obtain ⟨y11, ey11⟩ : ∃ w : Int32, w = v6 + 1 := ⟨_, rfl⟩
    replace h := h y11 ey11
    refine sx_iinc C dX4_cuePlayer_128 5 rfl y11 (by rw [ey11]; rfl) [(6, .int y11), (0, .ref (b + 1)), (1, .int x1), (2, .int x2), (4, .int v4), (5, .int v5)] (by decide) rfl 131 rfl ?_
    refine sx_goto C dX4_cuePlayer_131 78 (by decide) ?_
    exact sx_sub [1, 2, 3, 4, 5, 0] rfl h)
  refine sx_sub (lv' := [(0, .ref (b + 1)), (1, .int x1), (2, .int x2)]) [0, 1, 2] rfl ?_
  refine sx_iload_n C dX4_cuePlayer_0 2 2 rfl rfl 1 rfl ?_
  refine sx_iconst C dX4_cuePlayer_1 2 (by decide) 2 rfl ?_
  refine sx_icmp_lt C dX4_cuePlayer_2 61 5 (by decide) rfl (fun c12 => ?_) (fun c12 => ?_)
  · replace h := h.1 c12
    exact sx_sub [0, 1, 2] rfl h
  · replace h := h.2 c12
    refine sx_iload_n C dX4_cuePlayer_5 2 2 rfl rfl 6 rfl ?_
    refine sx_iconst C dX4_cuePlayer_6 1 (by decide) 7 rfl ?_
    refine sx_iadd C dX4_cuePlayer_7 8 rfl ?_
    refine sx_aload_n C dX4_cuePlayer_8 0 0 rfl rfl 9 rfl ?_
    refine sx_geti C (T := TX4) (C0 := RX4) (N := 7) (j := 0) dX4_cuePlayer_9 fl_X4_30 inw_X4 rfl (by decide) rfl (by decide) lyX_1 rfl 12 rfl ?_
    refine sx_icmp_ge C dX4_cuePlayer_12 61 15 (by decide) rfl (fun c13 => ?_) (fun c13 => ?_)
    · replace h := h.1 c13
      exact sx_sub [0, 1, 2] rfl h
    · replace h := h.2 c13
      refine sx_aload_n C dX4_cuePlayer_15 0 0 rfl rfl 16 rfl ?_
      refine sx_iload_n C dX4_cuePlayer_16 1 1 rfl rfl 17 rfl ?_
      refine sx_iload_n C dX4_cuePlayer_17 2 2 rfl rfl 18 rfl ?_
      refine sx_iconst C dX4_cuePlayer_18 2 (by decide) 19 rfl ?_
      refine sx_isub C dX4_cuePlayer_19 20 rfl ?_
      refine sx_callV C ht hB (st := []) dX4_cuePlayer_20 (c_X4_isSilent hf h) mi_X4_isSilent lk_X4_44 mn_X4_isSilent ms_X4_isSilent (by decide) lyX_1 rfl rfl rfl rfl ⟨⟨(Nat.le_of_ble_eq_true rfl), (Nat.le_of_ble_eq_true rfl)⟩, (Nat.le_of_ble_eq_true rfl), (Nat.le_of_ble_eq_true rfl)⟩ (Nat.le_of_ble_eq_true rfl) ⟨(Nat.le_of_ble_eq_true rfl), (Nat.le_of_ble_eq_true rfl)⟩ (fun _ _ hx => hx.elim) 23 rfl (fun v g15 h => ?_)
      obtain ⟨⟨r14, rfl, h⟩, rfl⟩ := h
      refine sx_if_eq C dX4_cuePlayer_23 61 26 (by decide) rfl (fun c16 => ?_) (fun c16 => ?_)
      · replace h := h.1 c16
        exact sx_sub [0, 1, 2] rfl h
      · replace h := h.2 c16
        refine sx_aload_n C dX4_cuePlayer_26 0 0 rfl rfl 27 rfl ?_
        refine sx_iload_n C dX4_cuePlayer_27 1 1 rfl rfl 28 rfl ?_
        refine sx_iload_n C dX4_cuePlayer_28 2 2 rfl rfl 29 rfl ?_
        refine sx_iconst C dX4_cuePlayer_29 1 (by decide) 30 rfl ?_
        refine sx_isub C dX4_cuePlayer_30 31 rfl ?_
        refine sx_callV C ht hB (st := []) dX4_cuePlayer_31 (c_X4_isSilent hf h) mi_X4_isSilent lk_X4_44 mn_X4_isSilent ms_X4_isSilent (by decide) lyX_1 rfl rfl rfl rfl ⟨⟨(Nat.le_of_ble_eq_true rfl), (Nat.le_of_ble_eq_true rfl)⟩, (Nat.le_of_ble_eq_true rfl), (Nat.le_of_ble_eq_true rfl)⟩ (Nat.le_of_ble_eq_true rfl) ⟨(Nat.le_of_ble_eq_true rfl), (Nat.le_of_ble_eq_true rfl)⟩ (fun _ _ hx => hx.elim) 34 rfl (fun v g18 h => ?_)
        obtain ⟨⟨r17, rfl, h⟩, rfl⟩ := h
        refine sx_if_eq C dX4_cuePlayer_34 61 37 (by decide) rfl (fun c19 => ?_) (fun c19 => ?_)
        · replace h := h.1 c19
          exact sx_sub [0, 1, 2] rfl h
        · replace h := h.2 c19
          refine sx_aload_n C dX4_cuePlayer_37 0 0 rfl rfl 38 rfl ?_
          refine sx_iload_n C dX4_cuePlayer_38 1 1 rfl rfl 39 rfl ?_
          refine sx_iload_n C dX4_cuePlayer_39 2 2 rfl rfl 40 rfl ?_
          refine sx_callV C ht hB (st := []) dX4_cuePlayer_40 (c_X4_isSilent hf h) mi_X4_isSilent lk_X4_44 mn_X4_isSilent ms_X4_isSilent (by decide) lyX_1 rfl rfl rfl rfl ⟨⟨(Nat.le_of_ble_eq_true rfl), (Nat.le_of_ble_eq_true rfl)⟩, (Nat.le_of_ble_eq_true rfl), (Nat.le_of_ble_eq_true rfl)⟩ (Nat.le_of_ble_eq_true rfl) ⟨(Nat.le_of_ble_eq_true rfl), (Nat.le_of_ble_eq_true rfl)⟩ (fun _ _ hx => hx.elim) 43 rfl (fun v g21 h => ?_)
          obtain ⟨⟨r20, rfl, h⟩, rfl⟩ := h
          refine sx_if_eq C dX4_cuePlayer_43 61 46 (by decide) rfl (fun c22 => ?_) (fun c22 => ?_)
          · replace h := h.1 c22
            exact sx_sub [0, 1, 2] rfl h
          · replace h := h.2 c22
            refine sx_aload_n C dX4_cuePlayer_46 0 0 rfl rfl 47 rfl ?_
            refine sx_iload_n C dX4_cuePlayer_47 1 1 rfl rfl 48 rfl ?_
            refine sx_iload_n C dX4_cuePlayer_48 2 2 rfl rfl 49 rfl ?_
            refine sx_iconst C dX4_cuePlayer_49 1 (by decide) 50 rfl ?_
            refine sx_iadd C dX4_cuePlayer_50 51 rfl ?_
            refine sx_callV C ht hB (st := []) dX4_cuePlayer_51 (c_X4_isSilent hf h) mi_X4_isSilent lk_X4_44 mn_X4_isSilent ms_X4_isSilent (by decide) lyX_1 rfl rfl rfl rfl ⟨⟨(Nat.le_of_ble_eq_true rfl), (Nat.le_of_ble_eq_true rfl)⟩, (Nat.le_of_ble_eq_true rfl), (Nat.le_of_ble_eq_true rfl)⟩ (Nat.le_of_ble_eq_true rfl) ⟨(Nat.le_of_ble_eq_true rfl), (Nat.le_of_ble_eq_true rfl)⟩ (fun _ _ hx => hx.elim) 54 rfl (fun v g24 h => ?_)
            obtain ⟨⟨r23, rfl, h⟩, rfl⟩ := h
            refine sx_if_ne C dX4_cuePlayer_54 61 57 (by decide) rfl (fun c25 => ?_) (fun c25 => ?_)
            · replace h := h.2 c25
              exact sx_sub [0, 1, 2] rfl h
            · replace h := h.1 c25
              refine sx_iconst C dX4_cuePlayer_57 1 (by decide) 58 rfl ?_
              refine sx_goto C dX4_cuePlayer_58 62 (by decide) ?_
              exact sx_sub [0, 1, 2] rfl h
set_option maxRecDepth 100000 in
set_option maxHeartbeats 4000000 in
theorem c_X0_drawerOf {l : Launch} {D : va_G} {G : sx_G} {b : Nat} (hf : l.stackTraces = false) {f : sx_F} {x1 : Int32} {Q : Int32 → Prop}  (h : P_X0_drawerOf f x1 Q) : sx_Met l D G b 129 lyX yX0_drawerOf cX0_drawerOf 2 (some .int) 4 86 0 0 [.ref (b + 8), .int x1] f (sx_pi f Q) (fun _ _ => False) := by
  refine sx_enter (own := RX0) hf rfl rfl (Nat.le_of_ble_eq_true rfl) ?_
  intro p e s m args below meth c C hr ht
  have hB : ∀ k, k < 129 → sx_A b 129 s.heap.size (b + k) := fun k h => sx_A.in h
  unfold P_X0_drawerOf at h
  replace h := h (sx_J (sx_wp D G b lyX 129) p l e { frames := 4, cells := 0, slots := 0, locals := 86 } s m args below meth c (sx_A b 129 s.heap.size) 2 0 0 (sx_fin (sx_wp D G b lyX 129) (sx_A b 129 s.heap.size) below args s 0 0 (sx_pi f Q) (fun _ _ => False)) f 23 [(0, .ref (b + 8))] [])
  replace h := h (by
    intro h
    refine sx_aload_n C dX0_drawerOf_23 0 0 rfl rfl 24 rfl ?_
    refine sx_geti C (T := TX0) (C0 := RX0) (N := 9) (j := 2) dX0_drawerOf_24 fl_X0_38 inw_X0 rfl (by decide) rfl (by decide) lyX_8 rfl 27 rfl ?_
    exact sx_iret C dX0_drawerOf_27 hr (Nat.le_of_ble_eq_true rfl) (Nat.le_of_ble_eq_true rfl) ⟨⟨_, rfl, h⟩, rfl⟩)
  refine sx_sub (lv' := [(0, .ref (b + 8)), (1, .int x1)]) [0, 1] rfl ?_
  refine sx_aload_n C dX0_drawerOf_0 0 0 rfl rfl 1 rfl ?_
  refine sx_geti C (T := TX0) (C0 := RX0) (N := 9) (j := 2) dX0_drawerOf_1 fl_X0_38 inw_X0 rfl (by decide) rfl (by decide) lyX_8 rfl 4 rfl ?_
  refine sx_iconst C dX0_drawerOf_4 5 (by decide) 5 rfl ?_
  refine sx_icmp_eq C dX0_drawerOf_5 23 8 (by decide) rfl (fun c1 => ?_) (fun c1 => ?_)
  · replace h := h.1 c1
    exact sx_sub [0] rfl h
  · replace h := h.2 c1
    refine sx_aload_n C dX0_drawerOf_8 0 0 rfl rfl 9 rfl ?_
    refine sx_getq C (T := TX0) (C0 := RX0) (N := 9) (j := 0) dX0_drawerOf_9 fl_X0_34 inw_X0 rfl (by decide) rfl (by decide) lyX_8 rfl 12 rfl ?_
    refine sx_aload_n C dX0_drawerOf_12 0 0 rfl rfl 13 rfl ?_
    refine sx_geti C (T := TX0) (C0 := RX0) (N := 9) (j := 2) dX0_drawerOf_13 fl_X0_38 inw_X0 rfl (by decide) rfl (by decide) lyX_8 rfl 16 rfl ?_
    refine sx_iload_n C dX0_drawerOf_16 1 1 rfl rfl 17 rfl ?_
    refine sx_callV C ht hB (st := []) dX0_drawerOf_17 (c_X4_isSilent hf h) mi_X4_isSilent lk_X0_58 mn_X4_isSilent ms_X4_isSilent (by decide) lyX_1 rfl rfl rfl rfl ⟨⟨(Nat.le_of_ble_eq_true rfl), (Nat.le_of_ble_eq_true rfl)⟩, (Nat.le_of_ble_eq_true rfl), (Nat.le_of_ble_eq_true rfl)⟩ (Nat.le_of_ble_eq_true rfl) ⟨(Nat.le_of_ble_eq_true rfl), (Nat.le_of_ble_eq_true rfl)⟩ (fun _ _ hx => hx.elim) 20 rfl (fun v g3 h => ?_)
    obtain ⟨⟨r2, rfl, h⟩, rfl⟩ := h
    refine sx_if_ne C dX0_drawerOf_20 28 23 (by decide) rfl (fun c4 => ?_) (fun c4 => ?_)
    · replace h := h.2 c4
      refine sx_aload_n C dX0_drawerOf_28 0 0 rfl rfl 29 rfl ?_
      refine sx_getq C (T := TX0) (C0 := RX0) (N := 9) (j := 0) dX0_drawerOf_29 fl_X0_34 inw_X0 rfl (by decide) rfl (by decide) lyX_8 rfl 32 rfl ?_
      refine sx_aload_n C dX0_drawerOf_32 0 0 rfl rfl 33 rfl ?_
      refine sx_geti C (T := TX0) (C0 := RX0) (N := 9) (j := 2) dX0_drawerOf_33 fl_X0_38 inw_X0 rfl (by decide) rfl (by decide) lyX_8 rfl 36 rfl ?_
      refine sx_iload_n C dX0_drawerOf_36 1 1 rfl rfl 37 rfl ?_
      refine sx_callV C ht hB (st := []) dX0_drawerOf_37 (c_X4_cuePlayer hf h) mi_X4_cuePlayer lk_X0_62 mn_X4_cuePlayer ms_X4_cuePlayer (by decide) lyX_1 rfl rfl rfl rfl ⟨⟨(Nat.le_of_ble_eq_true rfl), (Nat.le_of_ble_eq_true rfl)⟩, (Nat.le_of_ble_eq_true rfl), (Nat.le_of_ble_eq_true rfl)⟩ (Nat.le_of_ble_eq_true rfl) ⟨(Nat.le_of_ble_eq_true rfl), (Nat.le_of_ble_eq_true rfl)⟩ (fun _ _ hx => hx.elim) 40 rfl (fun v g6 h => ?_)
      obtain ⟨⟨r5, rfl, h⟩, rfl⟩ := h
      exact sx_iret C dX0_drawerOf_40 hr (Nat.le_of_ble_eq_true rfl) (Nat.le_of_ble_eq_true rfl) ⟨⟨_, rfl, h⟩, rfl⟩
    · replace h := h.1 c4
      exact sx_sub [0] rfl h
set_option maxRecDepth 100000 in
set_option maxHeartbeats 4000000 in
theorem c_X5_addSpring {l : Launch} {D : va_G} {G : sx_G} {b : Nat} (hf : l.stackTraces = false) {f : sx_F} {x1 : Int32} {x2 : Int32} {x3 : Int32} {Q : sx_F → Prop}  (h : P_X5_addSpring f x1 x2 x3 Q) : sx_Met l D G b 129 lyX yX5_addSpring cX5_addSpring 4 (none) 1 13 0 0 [.ref (b + 9), .int x1, .int x2, .int x3] f (sx_qv Q) (fun _ _ => False) := by
  refine sx_enter (own := RX5) hf rfl rfl (Nat.le_of_ble_eq_true rfl) ?_
  intro p e s m args below meth c C hr ht
  have hB : ∀ k, k < 129 → sx_A b 129 s.heap.size (b + k) := fun k h => sx_A.in h
  unfold P_X5_addSpring at h
  refine sx_sub (lv' := [(0, .ref (b + 9)), (1, .int x1), (2, .int x2), (3, .int x3)]) [0, 1, 2, 3] rfl ?_
  refine sx_aload_n C dX5_addSpring_0 0 0 rfl rfl 1 rfl ?_
  refine sx_getq C (T := TX5) (C0 := RX5) (N := 5) (j := 1) dX5_addSpring_1 fl_X5_9 inw_X5 rfl (by decide) rfl (by decide) lyX_9 rfl 4 rfl ?_
  refine sx_aload_n C dX5_addSpring_4 0 0 rfl rfl 5 rfl ?_
  refine sx_geti C (T := TX5) (C0 := RX5) (N := 5) (j := 0) dX5_addSpring_5 fl_X5_24 inw_X5 rfl (by decide) rfl (by decide) lyX_9 rfl 8 rfl ?_
  refine sx_iload_n C dX5_addSpring_8 1 1 rfl rfl 9 rfl ?_
  refine sx_iast C dX5_addSpring_9 hB (by decide) lyX_10 h.1 10 rfl (fun g1 eg1 => ?_)
  replace h := h.2 g1 eg1
  refine sx_aload_n C dX5_addSpring_10 0 0 rfl rfl 11 rfl ?_
  refine sx_getq C (T := TX5) (C0 := RX5) (N := 5) (j := 2) dX5_addSpring_11 fl_X5_15 inw_X5 rfl (by decide) rfl (by decide) lyX_9 rfl 14 rfl ?_
  refine sx_aload_n C dX5_addSpring_14 0 0 rfl rfl 15 rfl ?_
  refine sx_geti C (T := TX5) (C0 := RX5) (N := 5) (j := 0) dX5_addSpring_15 fl_X5_24 inw_X5 rfl (by decide) rfl (by decide) lyX_9 rfl 18 rfl ?_
  refine sx_iconst C dX5_addSpring_18 1 (by decide) 19 rfl ?_
  refine sx_iadd C dX5_addSpring_19 20 rfl ?_
  refine sx_aload_n C dX5_addSpring_20 0 0 rfl rfl 21 rfl ?_
  refine sx_getq C (T := TX5) (C0 := RX5) (N := 5) (j := 2) dX5_addSpring_21 fl_X5_15 inw_X5 rfl (by decide) rfl (by decide) lyX_9 rfl 24 rfl ?_
  refine sx_aload_n C dX5_addSpring_24 0 0 rfl rfl 25 rfl ?_
  refine sx_geti C (T := TX5) (C0 := RX5) (N := 5) (j := 0) dX5_addSpring_25 fl_X5_24 inw_X5 rfl (by decide) rfl (by decide) lyX_9 rfl 28 rfl ?_
  refine sx_iald C dX5_addSpring_28 (by decide) lyX_11 h.1 29 rfl ?_
  replace h := h.2
  refine sx_iload_n C dX5_addSpring_29 2 2 rfl rfl 30 rfl ?_
  refine sx_iadd C dX5_addSpring_30 31 rfl ?_
  refine sx_iast C dX5_addSpring_31 hB (by decide) lyX_11 h.1 32 rfl (fun g2 eg2 => ?_)
  replace h := h.2 g2 eg2
  refine sx_aload_n C dX5_addSpring_32 0 0 rfl rfl 33 rfl ?_
  refine sx_getq C (T := TX5) (C0 := RX5) (N := 5) (j := 3) dX5_addSpring_33 fl_X5_18 inw_X5 rfl (by decide) rfl (by decide) lyX_9 rfl 36 rfl ?_
  refine sx_aload_n C dX5_addSpring_36 0 0 rfl rfl 37 rfl ?_
  refine sx_geti C (T := TX5) (C0 := RX5) (N := 5) (j := 0) dX5_addSpring_37 fl_X5_24 inw_X5 rfl (by decide) rfl (by decide) lyX_9 rfl 40 rfl ?_
  refine sx_iconst C dX5_addSpring_40 1 (by decide) 41 rfl ?_
  refine sx_iadd C dX5_addSpring_41 42 rfl ?_
  refine sx_aload_n C dX5_addSpring_42 0 0 rfl rfl 43 rfl ?_
  refine sx_getq C (T := TX5) (C0 := RX5) (N := 5) (j := 3) dX5_addSpring_43 fl_X5_18 inw_X5 rfl (by decide) rfl (by decide) lyX_9 rfl 46 rfl ?_
  refine sx_aload_n C dX5_addSpring_46 0 0 rfl rfl 47 rfl ?_
  refine sx_geti C (T := TX5) (C0 := RX5) (N := 5) (j := 0) dX5_addSpring_47 fl_X5_24 inw_X5 rfl (by decide) rfl (by decide) lyX_9 rfl 50 rfl ?_
  refine sx_iald C dX5_addSpring_50 (by decide) lyX_12 h.1 51 rfl ?_
  replace h := h.2
  refine sx_iload_n C dX5_addSpring_51 3 3 rfl rfl 52 rfl ?_
  refine sx_iadd C dX5_addSpring_52 53 rfl ?_
  refine sx_iast C dX5_addSpring_53 hB (by decide) lyX_12 h.1 54 rfl (fun g3 eg3 => ?_)
  replace h := h.2 g3 eg3
  refine sx_aload_n C dX5_addSpring_54 0 0 rfl rfl 55 rfl ?_
  refine sx_dup C dX5_addSpring_55 rfl 56 rfl ?_
  refine sx_geti C (T := TX5) (C0 := RX5) (N := 5) (j := 0) dX5_addSpring_56 fl_X5_24 inw_X5 rfl (by decide) rfl (by decide) lyX_9 rfl 59 rfl ?_
  refine sx_iconst C dX5_addSpring_59 1 (by decide) 60 rfl ?_
  refine sx_iadd C dX5_addSpring_60 61 rfl ?_
  refine sx_puti C (T := TX5) (C0 := RX5) (N := 5) (j := 0) dX5_addSpring_61 fl_X5_24 inw_X5 rfl tyX5 tyX5_ok nmX5 (by decide) rfl rfl rfl hB (by decide) lyX_9 rfl 64 rfl (fun g4 eg4 => ?_)
  replace h := h g4 eg4
  exact sx_vret C dX5_addSpring_64 hr (Nat.le_of_ble_eq_true rfl) (Nat.le_of_ble_eq_true rfl) ⟨rfl, h⟩
set_option maxRecDepth 100000 in
set_option maxHeartbeats 4000000 in
theorem c_J7_fill_53178 {l : Launch} {D : va_G} {G : sx_G} {b : Nat} (hf : l.stackTraces = false) {f : sx_F} {k0 : Nat} {Nk0 : Nat} {x1 : Int32} {Q : sx_F → Prop} (hkk0 : k0 < 129) (hlk0 : lyX k0 = .inl Nk0) (h : P_J7_fill_53178 f k0 Nk0 x1 Q) : sx_Met l D G b 129 lyX yJ7_fill_53178 cJ7_fill_53178 4 (none) 1 13 0 0 [.ref (b + k0), .int x1] f (sx_qv Q) (fun _ _ => False) := by
  refine sx_enter (own := RJ7) hf rfl rfl (Nat.le_of_ble_eq_true rfl) ?_
  intro p e s m args below meth c C hr ht
  have hB : ∀ k, k < 129 → sx_A b 129 s.heap.size (b + k) := fun k h => sx_A.in h
  unfold P_J7_fill_53178 at h
  replace h := h (fun (f : sx_F) (v2 : Int32) (v3 : Int32) => sx_J (sx_wp D G b lyX 129) p l e { frames := 1, cells := 0, slots := 0, locals := 13 } s m args below meth c (sx_A b 129 s.heap.size) 4 0 0 (sx_fin (sx_wp D G b lyX 129) (sx_A b 129 s.heap.size) below args s 0 0 (sx_qv Q) (fun _ _ => False)) f 5 [(0, .ref (b + k0)), (1, .int x1), (2, .int v2), (3, .int v3)] [])
  replace h := h (by
    intro f v2 v3 h
    refine sx_iload_n C dJ7_fill_53178_5 2 2 rfl rfl 6 rfl ?_
    refine sx_iload_n C dJ7_fill_53178_6 3 3 rfl rfl 7 rfl ?_
    refine sx_icmp_ge C dJ7_fill_53178_7 20 10 (by decide) rfl (fun c1 => ?_) (fun c1 => ?_)
    · replace h := h.1 c1
      exact sx_vret C dJ7_fill_53178_20 hr (Nat.le_of_ble_eq_true rfl) (Nat.le_of_ble_eq_true rfl) ⟨rfl, h⟩
    · replace h := h.2 c1
      refine sx_aload_n C dJ7_fill_53178_10 0 0 rfl rfl 11 rfl ?_
      refine sx_iload_n C dJ7_fill_53178_11 2 2 rfl rfl 12 rfl ?_
      refine sx_iload_n C dJ7_fill_53178_12 1 1 rfl rfl 13 rfl ?_
      refine sx_iast C dJ7_fill_53178_13 hB hkk0 hlk0 h.1 14 rfl (fun g2 eg2 => ?_)
      replace h := h.2 g2 eg2
      obtain ⟨y3, ey3⟩ : ∃ w : Int32, w = v2 + 1 := ⟨_, rfl⟩
      replace h := h y3 ey3
      refine sx_iinc C dJ7_fill_53178_14 2 rfl y3 (by rw [ey3]; rfl) [(2, .int y3), (0, .ref (b + k0)), (1, .int x1), (3, .int v3)] (by decide) rfl 17 rfl ?_
      refine sx_goto C dJ7_fill_53178_17 5 (by decide) ?_
      exact sx_sub [1, 2, 0, 3] rfl h)
  refine sx_sub (lv' := [(0, .ref (b + k0)), (1, .int x1)]) [0, 1] rfl ?_
  refine sx_iconst C dJ7_fill_53178_0 0 (by decide) 1 rfl ?_
  refine sx_istore_n C dJ7_fill_53178_1 2 rfl [(2, .int 0), (0, .ref (b + k0)), (1, .int x1)] (by decide) rfl 2 rfl ?_
  refine sx_aload_n C dJ7_fill_53178_2 0 1 rfl rfl 3 rfl ?_
  refine sx_alen C dJ7_fill_53178_3 hkk0 hlk0 (Int32.ofNat Nk0) rfl 4 rfl ?_
  refine sx_topi (fun y4 ey4 => ?_)
  replace h := h y4 ey4
  refine sx_istore_n C dJ7_fill_53178_4 3 rfl [(3, .int y4), (2, .int 0), (0, .ref (b + k0)), (1, .int x1)] (by decide) rfl 5 rfl ?_
  exact sx_sub [2, 3, 1, 0] rfl h
set_option maxRecDepth 100000 in
set_option maxHeartbeats 4000000 in
theorem c_X5_addPlace {l : Launch} {D : va_G} {G : sx_G} {b : Nat} (hf : l.stackTraces = false) {f : sx_F} {x1 : Int32} {x2 : Int32} {Q : sx_F → Prop}  (h : P_X5_addPlace f x1 x2 Q) : sx_Met l D G b 129 lyX yX5_addPlace cX5_addPlace 3 (none) 1 13 0 0 [.ref (b + 9), .int x1, .int x2] f (sx_qv Q) (fun _ _ => False) := by
  refine sx_enter (own := RX5) hf rfl rfl (Nat.le_of_ble_eq_true rfl) ?_
  intro p e s m args below meth c C hr ht
  have hB : ∀ k, k < 129 → sx_A b 129 s.heap.size (b + k) := fun k h => sx_A.in h
  unfold P_X5_addPlace at h
  replace h := h (fun (f : sx_F) => sx_J (sx_wp D G b lyX 129) p l e { frames := 1, cells := 0, slots := 0, locals := 13 } s m args below meth c (sx_A b 129 s.heap.size) 3 0 0 (sx_fin (sx_wp D G b lyX 129) (sx_A b 129 s.heap.size) below args s 0 0 (sx_qv Q) (fun _ _ => False)) f 17 [(0, .ref (b + 9)), (1, .int x1), (2, .int x2)] [])
  replace h := h (by
    intro f h
    refine sx_iload_n C dX5_addPlace_17 2 2 rfl rfl 18 rfl ?_
    refine sx_if_eq C dX5_addPlace_18 31 21 (by decide) rfl (fun c1 => ?_) (fun c1 => ?_)
    · replace h := h.1 c1
      exact sx_vret C dX5_addPlace_31 hr (Nat.le_of_ble_eq_true rfl) (Nat.le_of_ble_eq_true rfl) ⟨rfl, h⟩
    · replace h := h.2 c1
      refine sx_aload_n C dX5_addPlace_21 0 0 rfl rfl 22 rfl ?_
      refine sx_getq C (T := TX5) (C0 := RX5) (N := 5) (j := 4) dX5_addPlace_22 fl_X5_21 inw_X5 rfl (by decide) rfl (by decide) lyX_9 rfl 25 rfl ?_
      refine sx_iload_n C dX5_addPlace_25 1 1 rfl rfl 26 rfl ?_
      refine sx_dup2 C dX5_addPlace_26 rfl rfl 27 rfl ?_
      refine sx_iald C dX5_addPlace_27 (by decide) lyX_13 h.1 28 rfl ?_
      replace h := h.2
      refine sx_iconst C dX5_addPlace_28 1 (by decide) 29 rfl ?_
      refine sx_iadd C dX5_addPlace_29 30 rfl ?_
      refine sx_iast C dX5_addPlace_30 hB (by decide) lyX_13 h.1 31 rfl (fun g2 eg2 => ?_)
      replace h := h.2 g2 eg2
      exact sx_vret C dX5_addPlace_31 hr (Nat.le_of_ble_eq_true rfl) (Nat.le_of_ble_eq_true rfl) ⟨rfl, h⟩)
  refine sx_sub (lv' := [(0, .ref (b + 9)), (1, .int x1), (2, .int x2)]) [0, 1, 2] rfl ?_
  refine sx_aload_n C dX5_addPlace_0 0 0 rfl rfl 1 rfl ?_
  refine sx_getq C (T := TX5) (C0 := RX5) (N := 5) (j := 4) dX5_addPlace_1 fl_X5_21 inw_X5 rfl (by decide) rfl (by decide) lyX_9 rfl 4 rfl ?_
  refine sx_iload_n C dX5_addPlace_4 1 1 rfl rfl 5 rfl ?_
  refine sx_iald C dX5_addPlace_5 (by decide) lyX_13 h.1 6 rfl ?_
  replace h := h.2
  refine sx_iconst C dX5_addPlace_6 (-1) (by decide) 7 rfl ?_
  refine sx_icmp_ne C dX5_addPlace_7 17 10 (by decide) rfl (fun c3 => ?_) (fun c3 => ?_)
  · replace h := h.2 c3
    exact sx_sub [0, 1, 2] rfl h
  · replace h := h.1 c3
    refine sx_aload_n C dX5_addPlace_10 0 0 rfl rfl 11 rfl ?_
    refine sx_getq C (T := TX5) (C0 := RX5) (N := 5) (j := 4) dX5_addPlace_11 fl_X5_21 inw_X5 rfl (by decide) rfl (by decide) lyX_9 rfl 14 rfl ?_
    refine sx_iload_n C dX5_addPlace_14 1 1 rfl rfl 15 rfl ?_
    refine sx_iconst C dX5_addPlace_15 0 (by decide) 16 rfl ?_
    refine sx_iast C dX5_addPlace_16 hB (by decide) lyX_13 h.1 17 rfl (fun g4 eg4 => ?_)
    replace h := h.2 g4 eg4
    exact sx_sub [0, 1, 2] rfl h
set_option maxRecDepth 100000 in
set_option maxHeartbeats 4000000 in
theorem c_X4_lengthAt {l : Launch} {D : va_G} {G : sx_G} {b : Nat} (hf : l.stackTraces = false) {f : sx_F} {x1 : Int32} {x2 : Int32} {Q : Int32 → Prop}  (h : P_X4_lengthAt f x1 x2 Q) : sx_Met l D G b 129 lyX yX4_lengthAt cX4_lengthAt 3 (some .int) 1 13 0 0 [.ref (b + 1), .int x1, .int x2] f (sx_pi f Q) (fun _ _ => False) := by
  refine sx_enter (own := RX4) hf rfl rfl (Nat.le_of_ble_eq_true rfl) ?_
  intro p e s m args below meth c C hr ht
  have hB : ∀ k, k < 129 → sx_A b 129 s.heap.size (b + k) := fun k h => sx_A.in h
  unfold P_X4_lengthAt at h
  refine sx_sub (lv' := [(0, .ref (b + 1)), (1, .int x1), (2, .int x2)]) [0, 1, 2] rfl ?_
  refine sx_aload_n C dX4_lengthAt_0 0 0 rfl rfl 1 rfl ?_
  refine sx_getq C (T := TX4) (C0 := RX4) (N := 7) (j := 5) dX4_lengthAt_1 fl_X4_24 inw_X4 rfl (by decide) rfl (by decide) lyX_1 rfl 4 rfl ?_
  refine sx_iload_n C dX4_lengthAt_4 1 1 rfl rfl 5 rfl ?_
  refine sx_bipush C dX4_lengthAt_5 8 (by decide) 7 rfl ?_
  refine sx_imul C dX4_lengthAt_7 8 rfl ?_
  refine sx_iload_n C dX4_lengthAt_8 2 2 rfl rfl 9 rfl ?_
  refine sx_iadd C dX4_lengthAt_9 10 rfl ?_
  refine sx_iald C dX4_lengthAt_10 (by decide) lyX_6 h.1 11 rfl ?_
  replace h := h.2
  exact sx_iret C dX4_lengthAt_11 hr (Nat.le_of_ble_eq_true rfl) (Nat.le_of_ble_eq_true rfl) ⟨⟨_, rfl, h⟩, rfl⟩
set_option maxRecDepth 100000 in
set_option maxHeartbeats 4000000 in
theorem c_X5_addPlaces {l : Launch} {D : va_G} {G : sx_G} {b : Nat} (hf : l.stackTraces = false) {f : sx_F} {x2 : Int32} {x3 : Int32} {Q : sx_F → Prop}  (h : P_X5_addPlaces f x2 x3 Q) : sx_Met l D G b 129 lyX yX5_addPlaces cX5_addPlaces 6 (none) 2 35 0 0 [.ref (b + 9), .ref (b + 1), .int x2, .int x3] f (sx_qv Q) (fun _ _ => False) := by
  refine sx_enter (own := RX5) hf rfl rfl (Nat.le_of_ble_eq_true rfl) ?_
  intro p e s m args below meth c C hr ht
  have hB : ∀ k, k < 129 → sx_A b 129 s.heap.size (b + k) := fun k h => sx_A.in h
  unfold P_X5_addPlaces at h
  replace h := h (fun (f : sx_F) (v4 : Int32) (v5 : Int32) => sx_J (sx_wp D G b lyX 129) p l e { frames := 2, cells := 0, slots := 0, locals := 35 } s m args below meth c (sx_A b 129 s.heap.size) 6 0 0 (sx_fin (sx_wp D G b lyX 129) (sx_A b 129 s.heap.size) below args s 0 0 (sx_qv Q) (fun _ _ => False)) f 6 [(0, .ref (b + 9)), (1, .ref (b + 1)), (2, .int x2), (3, .int x3), (4, .int v4), (5, .int v5)] [])
  replace h := h (fun (f : sx_F) (v4 : Int32) (v5 : Int32) (s1 : Int32) (s2 : Int32) => sx_J (sx_wp D G b lyX 129) p l e { frames := 2, cells := 0, slots := 0, locals := 35 } s m args below meth c (sx_A b 129 s.heap.size) 6 0 0 (sx_fin (sx_wp D G b lyX 129) (sx_A b 129 s.heap.size) below args s 0 0 (sx_qv Q) (fun _ _ => False)) f 41 [(0, .ref (b + 9)), (1, .ref (b + 1)), (2, .int x2), (3, .int x3), (4, .int v4), (5, .int v5)] [.int s2, .int s1, .ref (b + 9)])
  replace h := h (fun (f : sx_F) (v4 : Int32) => sx_J (sx_wp D G b lyX 129) p l e { frames := 2, cells := 0, slots := 0, locals := 35 } s m args below meth c (sx_A b 129 s.heap.size) 6 0 0 (sx_fin (sx_wp D G b lyX 129) (sx_A b 129 s.heap.size) below args s 0 0 (sx_qv Q) (fun _ _ => False)) f 62 [(0, .ref (b + 9)), (3, .int x3), (4, .int v4)] [])
  replace h := h (by
    intro f v4 v5 h
    refine sx_iload C dX5_addPlaces_6 5 rfl 8 rfl ?_
    refine sx_aload_n C dX5_addPlaces_8 1 1 rfl rfl 9 rfl ?_
    refine sx_getqN C (T := TX4) (C0 := RX4) (N := 7) (j := 4) dX5_addPlaces_9 fln_X5_55 inw_X4 rfl (by decide) rfl (by decide) lyX_1 rfl 12 rfl ?_
    refine sx_iload_n C dX5_addPlaces_12 2 2 rfl rfl 13 rfl ?_
    refine sx_iald C dX5_addPlaces_13 (by decide) lyX_5 h.1 14 rfl ?_
    replace h := h.2
    refine sx_icmp_ge C dX5_addPlaces_14 62 17 (by decide) rfl (fun c1 => ?_) (fun c1 => ?_)
    · replace h := h.1 c1
      exact sx_sub [0, 3, 4] rfl h
    · replace h := h.2 c1
      refine sx_iload C dX5_addPlaces_17 4 rfl 19 rfl ?_
      refine sx_iload_n C dX5_addPlaces_19 3 3 rfl rfl 20 rfl ?_
      refine sx_icmp_ge C dX5_addPlaces_20 62 23 (by decide) rfl (fun c2 => ?_) (fun c2 => ?_)
      · replace h := h.1 c2
        exact sx_sub [0, 3, 4] rfl h
      · replace h := h.2 c2
        refine sx_aload_n C dX5_addPlaces_23 0 0 rfl rfl 24 rfl ?_
        refine sx_iload C dX5_addPlaces_24 4 rfl 26 rfl ?_
        refine sx_aload_n C dX5_addPlaces_26 1 1 rfl rfl 27 rfl ?_
        refine sx_iload_n C dX5_addPlaces_27 2 2 rfl rfl 28 rfl ?_
        refine sx_iload C dX5_addPlaces_28 5 rfl 30 rfl ?_
        refine sx_callV C ht hB (st := [.int v4, .ref (b + 9)]) dX5_addPlaces_30 (c_X4_pitchAt hf h) mi_X4_pitchAt lk_X5_58 mn_X4_pitchAt ms_X4_pitchAt (by decide) lyX_1 rfl rfl rfl rfl ⟨⟨(Nat.le_of_ble_eq_true rfl), (Nat.le_of_ble_eq_true rfl)⟩, (Nat.le_of_ble_eq_true rfl), (Nat.le_of_ble_eq_true rfl)⟩ (Nat.le_of_ble_eq_true rfl) ⟨(Nat.le_of_ble_eq_true rfl), (Nat.le_of_ble_eq_true rfl)⟩ (fun _ _ hx => hx.elim) 33 rfl (fun v g4 h => ?_)
        obtain ⟨⟨r3, rfl, h⟩, rfl⟩ := h
        refine sx_if_le C dX5_addPlaces_33 40 36 (by decide) rfl (fun c5 => ?_) (fun c5 => ?_)
        · replace h := h.1 c5
          refine sx_iconst C dX5_addPlaces_40 0 (by decide) 41 rfl ?_
          exact sx_sub [0, 1, 2, 3, 4, 5] rfl h
        · replace h := h.2 c5
          refine sx_iconst C dX5_addPlaces_36 1 (by decide) 37 rfl ?_
          refine sx_goto C dX5_addPlaces_37 41 (by decide) ?_
          exact sx_sub [0, 1, 2, 3, 4, 5] rfl h)
  replace h := h (by
    intro f v4 v5 s1 s2 h
    refine sx_callV C ht hB (st := []) dX5_addPlaces_41 (c_X5_addPlace hf h) mi_X5_addPlace lk_X5_61 mn_X5_addPlace ms_X5_addPlace (by decide) lyX_9 rfl rfl rfl rfl ⟨⟨(Nat.le_of_ble_eq_true rfl), (Nat.le_of_ble_eq_true rfl)⟩, (Nat.le_of_ble_eq_true rfl), (Nat.le_of_ble_eq_true rfl)⟩ (Nat.le_of_ble_eq_true rfl) ⟨(Nat.le_of_ble_eq_true rfl), (Nat.le_of_ble_eq_true rfl)⟩ (fun _ _ hx => hx.elim) 44 rfl (fun v g6 h => ?_)
    obtain ⟨rfl, h⟩ := h
    refine sx_iload C dX5_addPlaces_44 4 rfl 46 rfl ?_
    refine sx_aload_n C dX5_addPlaces_46 1 1 rfl rfl 47 rfl ?_
    refine sx_iload_n C dX5_addPlaces_47 2 2 rfl rfl 48 rfl ?_
    refine sx_iload C dX5_addPlaces_48 5 rfl 50 rfl ?_
    refine sx_callV C ht hB (st := [.int v4]) dX5_addPlaces_50 (c_X4_lengthAt hf h) mi_X4_lengthAt lk_X5_65 mn_X4_lengthAt ms_X4_lengthAt (by decide) lyX_1 rfl rfl rfl rfl ⟨⟨(Nat.le_of_ble_eq_true rfl), (Nat.le_of_ble_eq_true rfl)⟩, (Nat.le_of_ble_eq_true rfl), (Nat.le_of_ble_eq_true rfl)⟩ (Nat.le_of_ble_eq_true rfl) ⟨(Nat.le_of_ble_eq_true rfl), (Nat.le_of_ble_eq_true rfl)⟩ (fun _ _ hx => hx.elim) 53 rfl (fun v g8 h => ?_)
    obtain ⟨⟨r7, rfl, h⟩, rfl⟩ := h
    refine sx_iadd C dX5_addPlaces_53 54 rfl ?_
    refine sx_topi (fun y9 ey9 => ?_)
    replace h := h y9 ey9
    refine sx_istore C dX5_addPlaces_54 [(4, .int y9), (0, .ref (b + 9)), (1, .ref (b + 1)), (2, .int x2), (3, .int x3), (5, .int v5)] (by decide) rfl 56 rfl ?_
    obtain ⟨y10, ey10⟩ : ∃ w : Int32, w = v5 + 1 := ⟨_, rfl⟩
    replace h := h y10 ey10
    refine sx_iinc C dX5_addPlaces_56 5 rfl y10 (by rw [ey10]; rfl) [(5, .int y10), (4, .int y9), (0, .ref (b + 9)), (1, .ref (b + 1)), (2, .int x2), (3, .int x3)] (by decide) rfl 59 rfl ?_
    refine sx_goto C dX5_addPlaces_59 6 (by decide) ?_
    exact sx_sub [2, 3, 4, 5, 1, 0] rfl h)
  replace h := h (by
    intro f v4 h
    refine sx_iload C dX5_addPlaces_62 2 rfl 64 rfl ?_
    refine sx_iload_n C dX5_addPlaces_64 3 1 rfl rfl 65 rfl ?_
    refine sx_icmp_ge C dX5_addPlaces_65 75 68 (by decide) rfl (fun c11 => ?_) (fun c11 => ?_)
    · replace h := h.1 c11
      exact sx_vret C dX5_addPlaces_75 hr (Nat.le_of_ble_eq_true rfl) (Nat.le_of_ble_eq_true rfl) ⟨rfl, h⟩
    · replace h := h.2 c11
      refine sx_aload_n C dX5_addPlaces_68 0 0 rfl rfl 69 rfl ?_
      refine sx_iload C dX5_addPlaces_69 2 rfl 71 rfl ?_
      refine sx_iconst C dX5_addPlaces_71 0 (by decide) 72 rfl ?_
      refine sx_callV C ht hB (st := []) dX5_addPlaces_72 (c_X5_addPlace hf h) mi_X5_addPlace lk_X5_61 mn_X5_addPlace ms_X5_addPlace (by decide) lyX_9 rfl rfl rfl rfl ⟨⟨(Nat.le_of_ble_eq_true rfl), (Nat.le_of_ble_eq_true rfl)⟩, (Nat.le_of_ble_eq_true rfl), (Nat.le_of_ble_eq_true rfl)⟩ (Nat.le_of_ble_eq_true rfl) ⟨(Nat.le_of_ble_eq_true rfl), (Nat.le_of_ble_eq_true rfl)⟩ (fun _ _ hx => hx.elim) 75 rfl (fun v g12 h => ?_)
      obtain ⟨rfl, h⟩ := h
      exact sx_vret C dX5_addPlaces_75 hr (Nat.le_of_ble_eq_true rfl) (Nat.le_of_ble_eq_true rfl) ⟨rfl, h⟩)
  refine sx_sub (lv' := [(0, .ref (b + 9)), (1, .ref (b + 1)), (2, .int x2), (3, .int x3)]) [0, 1, 2, 3] rfl ?_
  refine sx_iconst C dX5_addPlaces_0 0 (by decide) 1 rfl ?_
  refine sx_istore C dX5_addPlaces_1 [(4, .int 0), (0, .ref (b + 9)), (1, .ref (b + 1)), (2, .int x2), (3, .int x3)] (by decide) rfl 3 rfl ?_
  refine sx_iconst C dX5_addPlaces_3 0 (by decide) 4 rfl ?_
  refine sx_istore C dX5_addPlaces_4 [(5, .int 0), (4, .int 0), (0, .ref (b + 9)), (1, .ref (b + 1)), (2, .int x2), (3, .int x3)] (by decide) rfl 6 rfl ?_
  exact sx_sub [2, 3, 4, 5, 1, 0] rfl h
set_option maxRecDepth 100000 in
set_option maxHeartbeats 4000000 in
theorem c_X5_nextPlace {l : Launch} {D : va_G} {G : sx_G} {b : Nat} (hf : l.stackTraces = false) {f : sx_F} {x1 : Int32} {x2 : Int32} {Q : Int32 → Prop}  (h : P_X5_nextPlace f x1 x2 Q) : sx_Met l D G b 129 lyX yX5_nextPlace cX5_nextPlace 4 (some .int) 1 13 0 0 [.ref (b + 9), .int x1, .int x2] f (sx_pi f Q) (fun _ _ => False) := by
  refine sx_enter (own := RX5) hf rfl rfl (Nat.le_of_ble_eq_true rfl) ?_
  intro p e s m args below meth c C hr ht
  have hB : ∀ k, k < 129 → sx_A b 129 s.heap.size (b + k) := fun k h => sx_A.in h
  unfold P_X5_nextPlace at h
  replace h := h (fun (v3 : Int32) => sx_J (sx_wp D G b lyX 129) p l e { frames := 1, cells := 0, slots := 0, locals := 13 } s m args below meth c (sx_A b 129 s.heap.size) 4 0 0 (sx_fin (sx_wp D G b lyX 129) (sx_A b 129 s.heap.size) below args s 0 0 (sx_pi f Q) (fun _ _ => False)) f 4 [(0, .ref (b + 9)), (2, .int x2), (3, .int v3)] [])
  replace h := h (by
    intro v3 h
    refine sx_iload_n C dX5_nextPlace_4 3 2 rfl rfl 5 rfl ?_
    refine sx_iload_n C dX5_nextPlace_5 2 1 rfl rfl 6 rfl ?_
    refine sx_icmp_ge C dX5_nextPlace_6 27 9 (by decide) rfl (fun c1 => ?_) (fun c1 => ?_)
    · replace h := h.1 c1
      refine sx_iload_n C dX5_nextPlace_27 2 1 rfl rfl 28 rfl ?_
      exact sx_iret C dX5_nextPlace_28 hr (Nat.le_of_ble_eq_true rfl) (Nat.le_of_ble_eq_true rfl) ⟨⟨_, rfl, h⟩, rfl⟩
    · replace h := h.2 c1
      refine sx_aload_n C dX5_nextPlace_9 0 0 rfl rfl 10 rfl ?_
      refine sx_getq C (T := TX5) (C0 := RX5) (N := 5) (j := 4) dX5_nextPlace_10 fl_X5_21 inw_X5 rfl (by decide) rfl (by decide) lyX_9 rfl 13 rfl ?_
      refine sx_iload_n C dX5_nextPlace_13 3 2 rfl rfl 14 rfl ?_
      refine sx_iald C dX5_nextPlace_14 (by decide) lyX_13 h.1 15 rfl ?_
      replace h := h.2
      refine sx_iconst C dX5_nextPlace_15 (-1) (by decide) 16 rfl ?_
      refine sx_icmp_eq C dX5_nextPlace_16 21 19 (by decide) rfl (fun c2 => ?_) (fun c2 => ?_)
      · replace h := h.1 c2
        obtain ⟨y3, ey3⟩ : ∃ w : Int32, w = v3 + 1 := ⟨_, rfl⟩
        replace h := h y3 ey3
        refine sx_iinc C dX5_nextPlace_21 2 rfl y3 (by rw [ey3]; rfl) [(3, .int y3), (0, .ref (b + 9)), (2, .int x2)] (by decide) rfl 24 rfl ?_
        refine sx_goto C dX5_nextPlace_24 4 (by decide) ?_
        exact sx_sub [1, 2, 0] rfl h
      · replace h := h.2 c2
        refine sx_iload_n C dX5_nextPlace_19 3 2 rfl rfl 20 rfl ?_
        exact sx_iret C dX5_nextPlace_20 hr (Nat.le_of_ble_eq_true rfl) (Nat.le_of_ble_eq_true rfl) ⟨⟨_, rfl, h⟩, rfl⟩)
  refine sx_sub (lv' := [(0, .ref (b + 9)), (1, .int x1), (2, .int x2)]) [0, 1, 2] rfl ?_
  refine sx_iload_n C dX5_nextPlace_0 1 1 rfl rfl 1 rfl ?_
  refine sx_iconst C dX5_nextPlace_1 1 (by decide) 2 rfl ?_
  refine sx_iadd C dX5_nextPlace_2 3 rfl ?_
  refine sx_topi (fun y4 ey4 => ?_)
  replace h := h y4 ey4
  refine sx_istore_n C dX5_nextPlace_3 3 rfl [(3, .int y4), (0, .ref (b + 9)), (1, .int x1), (2, .int x2)] (by decide) rfl 4 rfl ?_
  exact sx_sub [1, 3, 0] rfl h
set_option maxRecDepth 100000 in
set_option maxHeartbeats 4000000 in
theorem c_X5_naturalWidth {l : Launch} {D : va_G} {G : sx_G} {b : Nat} (hf : l.stackTraces = false) {f : sx_F} {x0 : Int32} {Q : Int32 → Prop}  (h : P_X5_naturalWidth f x0 Q) : sx_Met l D G b 129 lyX yX5_naturalWidth cX5_naturalWidth 3 (some .int) 1 13 0 0 [.int x0] f (sx_pi f Q) (fun _ _ => False) := by
  refine sx_enter (own := RX5) hf rfl rfl (Nat.le_of_ble_eq_true rfl) ?_
  intro p e s m args below meth c C hr ht
  have hB : ∀ k, k < 129 → sx_A b 129 s.heap.size (b + k) := fun k h => sx_A.in h
  unfold P_X5_naturalWidth at h
  replace h := h (fun (v1 : Int32) (v2 : Int32) => sx_J (sx_wp D G b lyX 129) p l e { frames := 1, cells := 0, slots := 0, locals := 13 } s m args below meth c (sx_A b 129 s.heap.size) 3 0 0 (sx_fin (sx_wp D G b lyX 129) (sx_A b 129 s.heap.size) below args s 0 0 (sx_pi f Q) (fun _ _ => False)) f 5 [(1, .int v1), (2, .int v2)] [])
  replace h := h (by
    intro v1 v2 h
    refine sx_iload_n C dX5_naturalWidth_5 2 1 rfl rfl 6 rfl ?_
    refine sx_iconst C dX5_naturalWidth_6 1 (by decide) 7 rfl ?_
    refine sx_icmp_le C dX5_naturalWidth_7 20 10 (by decide) rfl (fun c1 => ?_) (fun c1 => ?_)
    · replace h := h.1 c1
      refine sx_iload_n C dX5_naturalWidth_20 1 0 rfl rfl 21 rfl ?_
      exact sx_iret C dX5_naturalWidth_21 hr (Nat.le_of_ble_eq_true rfl) (Nat.le_of_ble_eq_true rfl) ⟨⟨_, rfl, h⟩, rfl⟩
    · replace h := h.2 c1
      obtain ⟨y2, ey2⟩ : ∃ w : Int32, w = v1 + 3 := ⟨_, rfl⟩
      replace h := h y2 ey2
      refine sx_iinc C dX5_naturalWidth_10 0 rfl y2 (by rw [ey2]; rfl) [(1, .int y2), (2, .int v2)] (by decide) rfl 13 rfl ?_
      refine sx_iload_n C dX5_naturalWidth_13 2 1 rfl rfl 14 rfl ?_
      refine sx_iconst C dX5_naturalWidth_14 2 (by decide) 15 rfl ?_
      refine sx_idiv C dX5_naturalWidth_15 (by decide) 16 rfl ?_
      refine sx_topi (fun y3 ey3 => ?_)
      replace h := h y3 ey3
      refine sx_istore_n C dX5_naturalWidth_16 2 rfl [(2, .int y3), (1, .int y2)] (by decide) rfl 17 rfl ?_
      refine sx_goto C dX5_naturalWidth_17 5 (by decide) ?_
      exact sx_sub [1, 0] rfl h)
  refine sx_sub (lv' := [(0, .int x0)]) [0] rfl ?_
  refine sx_bipush C dX5_naturalWidth_0 6 (by decide) 2 rfl ?_
  refine sx_istore_n C dX5_naturalWidth_2 1 rfl [(1, .int 6), (0, .int x0)] (by decide) rfl 3 rfl ?_
  refine sx_iload_n C dX5_naturalWidth_3 0 1 rfl rfl 4 rfl ?_
  refine sx_istore_n C dX5_naturalWidth_4 2 rfl [(2, .int x0), (1, .int 6), (0, .int x0)] (by decide) rfl 5 rfl ?_
  exact sx_sub [1, 0] rfl h
set_option maxRecDepth 100000 in
set_option maxHeartbeats 4000000 in
theorem c_X5_addSprings {l : Launch} {D : va_G} {G : sx_G} {b : Nat} (hf : l.stackTraces = false) {f : sx_F} {x1 : Int32} {Q : sx_F → Prop}  (h : P_X5_addSprings f x1 Q) : sx_Met l D G b 129 lyX yX5_addSprings cX5_addSprings 5 (none) 2 36 0 0 [.ref (b + 9), .int x1] f (sx_qv Q) (fun _ _ => False) := by
  refine sx_enter (own := RX5) hf rfl rfl (Nat.le_of_ble_eq_true rfl) ?_
  intro p e s m args below meth c C hr ht
  have hB : ∀ k, k < 129 → sx_A b 129 s.heap.size (b + k) := fun k h => sx_A.in h
  unfold P_X5_addSprings at h
  replace h := h (fun (f : sx_F) (v2 : Int32) => sx_J (sx_wp D G b lyX 129) p l e { frames := 2, cells := 0, slots := 0, locals := 36 } s m args below meth c (sx_A b 129 s.heap.size) 5 0 0 (sx_fin (sx_wp D G b lyX 129) (sx_A b 129 s.heap.size) below args s 0 0 (sx_qv Q) (fun _ _ => False)) f 2 [(0, .ref (b + 9)), (1, .int x1), (2, .int v2)] [])
  replace h := h (fun (f : sx_F) (v2 : Int32) => sx_J (sx_wp D G b lyX 129) p l e { frames := 2, cells := 0, slots := 0, locals := 36 } s m args below meth c (sx_A b 129 s.heap.size) 5 0 0 (sx_fin (sx_wp D G b lyX 129) (sx_A b 129 s.heap.size) below args s 0 0 (sx_qv Q) (fun _ _ => False)) f 51 [(0, .ref (b + 9)), (1, .int x1), (2, .int v2)] [])
  replace h := h (by
    intro f v2 h
    refine sx_iload_n C dX5_addSprings_2 2 2 rfl rfl 3 rfl ?_
    refine sx_iload_n C dX5_addSprings_3 1 1 rfl rfl 4 rfl ?_
    refine sx_icmp_ge C dX5_addSprings_4 57 7 (by decide) rfl (fun c1 => ?_) (fun c1 => ?_)
    · replace h := h.1 c1
      exact sx_vret C dX5_addSprings_57 hr (Nat.le_of_ble_eq_true rfl) (Nat.le_of_ble_eq_true rfl) ⟨rfl, h⟩
    · replace h := h.2 c1
      refine sx_aload_n C dX5_addSprings_7 0 0 rfl rfl 8 rfl ?_
      refine sx_getq C (T := TX5) (C0 := RX5) (N := 5) (j := 4) dX5_addSprings_8 fl_X5_21 inw_X5 rfl (by decide) rfl (by decide) lyX_9 rfl 11 rfl ?_
      refine sx_iload_n C dX5_addSprings_11 2 2 rfl rfl 12 rfl ?_
      refine sx_iald C dX5_addSprings_12 (by decide) lyX_13 h.1 13 rfl ?_
      replace h := h.2
      refine sx_iconst C dX5_addSprings_13 (-1) (by decide) 14 rfl ?_
      refine sx_icmp_eq C dX5_addSprings_14 51 17 (by decide) rfl (fun c2 => ?_) (fun c2 => ?_)
      · replace h := h.1 c2
        exact sx_sub [0, 1, 2] rfl h
      · replace h := h.2 c2
        refine sx_iconst C dX5_addSprings_17 4 (by decide) 18 rfl ?_
        refine sx_aload_n C dX5_addSprings_18 0 0 rfl rfl 19 rfl ?_
        refine sx_getq C (T := TX5) (C0 := RX5) (N := 5) (j := 4) dX5_addSprings_19 fl_X5_21 inw_X5 rfl (by decide) rfl (by decide) lyX_9 rfl 22 rfl ?_
        refine sx_iload_n C dX5_addSprings_22 2 2 rfl rfl 23 rfl ?_
        refine sx_iald C dX5_addSprings_23 (by decide) lyX_13 h.1 24 rfl ?_
        replace h := h.2
        refine sx_iadd C dX5_addSprings_24 25 rfl ?_
        refine sx_topi (fun y3 ey3 => ?_)
        replace h := h y3 ey3
        refine sx_istore_n C dX5_addSprings_25 3 rfl [(3, .int y3), (0, .ref (b + 9)), (1, .int x1), (2, .int v2)] (by decide) rfl 26 rfl ?_
        refine sx_aload_n C dX5_addSprings_26 0 1 rfl rfl 27 rfl ?_
        refine sx_iload_n C dX5_addSprings_27 2 3 rfl rfl 28 rfl ?_
        refine sx_iload_n C dX5_addSprings_28 1 2 rfl rfl 29 rfl ?_
        refine sx_callV C ht hB (st := []) dX5_addSprings_29 (c_X5_nextPlace hf h) mi_X5_nextPlace lk_X5_68 mn_X5_nextPlace ms_X5_nextPlace (by decide) lyX_9 rfl rfl rfl rfl ⟨⟨(Nat.le_of_ble_eq_true rfl), (Nat.le_of_ble_eq_true rfl)⟩, (Nat.le_of_ble_eq_true rfl), (Nat.le_of_ble_eq_true rfl)⟩ (Nat.le_of_ble_eq_true rfl) ⟨(Nat.le_of_ble_eq_true rfl), (Nat.le_of_ble_eq_true rfl)⟩ (fun _ _ hx => hx.elim) 32 rfl (fun v g5 h => ?_)
        obtain ⟨⟨r4, rfl, h⟩, rfl⟩ := h
        refine sx_iload_n C dX5_addSprings_32 2 3 rfl rfl 33 rfl ?_
        refine sx_isub C dX5_addSprings_33 34 rfl ?_
        refine sx_callS C ht hB (st := []) dX5_addSprings_34 (c_X5_naturalWidth hf h) mi_X5_naturalWidth lk_X5_71 mt_X5_naturalWidth rfl rfl ⟨⟨(Nat.le_of_ble_eq_true rfl), (Nat.le_of_ble_eq_true rfl)⟩, (Nat.le_of_ble_eq_true rfl), (Nat.le_of_ble_eq_true rfl)⟩ (Nat.le_of_ble_eq_true rfl) ⟨(Nat.le_of_ble_eq_true rfl), (Nat.le_of_ble_eq_true rfl)⟩ (fun _ _ hx => hx.elim) 37 rfl (fun v g7 h => ?_)
        obtain ⟨⟨r6, rfl, h⟩, rfl⟩ := h
        refine sx_istore C dX5_addSprings_37 [(4, .int r6), (3, .int y3), (0, .ref (b + 9)), (1, .int x1), (2, .int v2)] (by decide) rfl 39 rfl ?_
        refine sx_aload_n C dX5_addSprings_39 0 2 rfl rfl 40 rfl ?_
        refine sx_iload_n C dX5_addSprings_40 2 4 rfl rfl 41 rfl ?_
        refine sx_iload C dX5_addSprings_41 0 rfl 43 rfl ?_
        refine sx_iload_n C dX5_addSprings_43 3 1 rfl rfl 44 rfl ?_
        refine sx_mmax C dX5_addSprings_44 lk_X5_75 mth_max.1 mth_max.2.1 mth_max.2.2 ⟨(Nat.le_of_ble_eq_true rfl), (Nat.le_of_ble_eq_true rfl), (Nat.le_of_ble_eq_true rfl), (Nat.le_of_ble_eq_true rfl)⟩ 47 rfl ?_
        refine sx_iload_n C dX5_addSprings_47 3 1 rfl rfl 48 rfl ?_
        refine sx_callV C ht hB (st := []) dX5_addSprings_48 (c_X5_addSpring hf h) mi_X5_addSpring lk_X5_28 mn_X5_addSpring ms_X5_addSpring (by decide) lyX_9 rfl rfl rfl rfl ⟨⟨(Nat.le_of_ble_eq_true rfl), (Nat.le_of_ble_eq_true rfl)⟩, (Nat.le_of_ble_eq_true rfl), (Nat.le_of_ble_eq_true rfl)⟩ (Nat.le_of_ble_eq_true rfl) ⟨(Nat.le_of_ble_eq_true rfl), (Nat.le_of_ble_eq_true rfl)⟩ (fun _ _ hx => hx.elim) 51 rfl (fun v g8 h => ?_)
        obtain ⟨rfl, h⟩ := h
        exact sx_sub [2, 3, 4] rfl h)
  replace h := h (by
    intro f v2 h
    obtain ⟨y9, ey9⟩ : ∃ w : Int32, w = v2 + 1 := ⟨_, rfl⟩
    replace h := h y9 ey9
    refine sx_iinc C dX5_addSprings_51 2 rfl y9 (by rw [ey9]; rfl) [(2, .int y9), (0, .ref (b + 9)), (1, .int x1)] (by decide) rfl 54 rfl ?_
    refine sx_goto C dX5_addSprings_54 2 (by decide) ?_
    exact sx_sub [1, 2, 0] rfl h)
  refine sx_sub (lv' := [(0, .ref (b + 9)), (1, .int x1)]) [0, 1] rfl ?_
  refine sx_iconst C dX5_addSprings_0 0 (by decide) 1 rfl ?_
  refine sx_istore_n C dX5_addSprings_1 2 rfl [(2, .int 0), (0, .ref (b + 9)), (1, .int x1)] (by decide) rfl 2 rfl ?_
  exact sx_sub [1, 2, 0] rfl h
set_option maxRecDepth 100000 in
set_option maxHeartbeats 4000000 in
theorem c_X5_draw {l : Launch} {D : va_G} {G : sx_G} {b : Nat} (hf : l.stackTraces = false) {f : sx_F} {x2 : Int32} {x3 : Int32} {Q : sx_F → Prop}  (h : P_X5_draw f x2 x3 Q) : sx_Met l D G b 129 lyX yX5_draw cX5_draw 5 (none) 3 60 0 0 [.ref (b + 9), .ref (b + 1), .int x2, .int x3] f (sx_qv Q) (fun _ _ => False) := by
  refine sx_enter (own := RX5) hf rfl rfl (Nat.le_of_ble_eq_true rfl) ?_
  intro p e s m args below meth c C hr ht
  have hB : ∀ k, k < 129 → sx_A b 129 s.heap.size (b + k) := fun k h => sx_A.in h
  unfold P_X5_draw at h
  replace h := h (fun (f : sx_F) (v4 : Int32) => sx_J (sx_wp D G b lyX 129) p l e { frames := 3, cells := 0, slots := 0, locals := 60 } s m args below meth c (sx_A b 129 s.heap.size) 5 0 0 (sx_fin (sx_wp D G b lyX 129) (sx_A b 129 s.heap.size) below args s 0 0 (sx_qv Q) (fun _ _ => False)) f 31 [(0, .ref (b + 9)), (1, .ref (b + 1)), (2, .int x2), (3, .int x3), (4, .int v4)] [])
  replace h := h (fun (f : sx_F) (v4 : Int32) => sx_J (sx_wp D G b lyX 129) p l e { frames := 3, cells := 0, slots := 0, locals := 60 } s m args below meth c (sx_A b 129 s.heap.size) 5 0 0 (sx_fin (sx_wp D G b lyX 129) (sx_A b 129 s.heap.size) below args s 0 0 (sx_qv Q) (fun _ _ => False)) f 48 [(0, .ref (b + 9)), (1, .ref (b + 1)), (2, .int x2), (3, .int x3), (4, .int v4)] [])
  replace h := h (fun (f : sx_F) (v4 : Int32) => sx_J (sx_wp D G b lyX 129) p l e { frames := 3, cells := 0, slots := 0, locals := 60 } s m args below meth c (sx_A b 129 s.heap.size) 5 0 0 (sx_fin (sx_wp D G b lyX 129) (sx_A b 129 s.heap.size) below args s 0 0 (sx_qv Q) (fun _ _ => False)) f 65 [(0, .ref (b + 9)), (1, .ref (b + 1)), (2, .int x2), (3, .int x3), (4, .int v4)] [])
  replace h := h (by
    intro f v4 h
    refine sx_iload C dX5_draw_31 4 rfl 33 rfl ?_
    refine sx_iconst C dX5_draw_33 5 (by decide) 34 rfl ?_
    refine sx_icmp_ge C dX5_draw_34 71 37 (by decide) rfl (fun c1 => ?_) (fun c1 => ?_)
    · replace h := h.1 c1
      refine sx_aload_n C dX5_draw_71 0 0 rfl rfl 72 rfl ?_
      refine sx_aload_n C dX5_draw_72 1 1 rfl rfl 73 rfl ?_
      refine sx_getqN C (T := TX4) (C0 := RX4) (N := 7) (j := 1) dX5_draw_73 fln_X5_42 inw_X4 rfl (by decide) rfl (by decide) lyX_1 rfl 76 rfl ?_
      refine sx_iload_n C dX5_draw_76 3 3 rfl rfl 77 rfl ?_
      refine sx_iald C dX5_draw_77 (by decide) lyX_2 h.1 78 rfl ?_
      replace h := h.2
      refine sx_callV C ht hB (st := []) dX5_draw_78 (c_X5_addSprings hf h) mi_X5_addSprings lk_X5_51 mn_X5_addSprings ms_X5_addSprings (by decide) lyX_9 rfl rfl rfl rfl ⟨⟨(Nat.le_of_ble_eq_true rfl), (Nat.le_of_ble_eq_true rfl)⟩, (Nat.le_of_ble_eq_true rfl), (Nat.le_of_ble_eq_true rfl)⟩ (Nat.le_of_ble_eq_true rfl) ⟨(Nat.le_of_ble_eq_true rfl), (Nat.le_of_ble_eq_true rfl)⟩ (fun _ _ hx => hx.elim) 81 rfl (fun v g2 h => ?_)
      obtain ⟨rfl, h⟩ := h
      exact sx_vret C dX5_draw_81 hr (Nat.le_of_ble_eq_true rfl) (Nat.le_of_ble_eq_true rfl) ⟨rfl, h⟩
    · replace h := h.2 c1
      refine sx_iload_n C dX5_draw_37 2 2 rfl rfl 38 rfl ?_
      refine sx_iconst C dX5_draw_38 5 (by decide) 39 rfl ?_
      refine sx_icmp_eq C dX5_draw_39 48 42 (by decide) rfl (fun c3 => ?_) (fun c3 => ?_)
      · replace h := h.1 c3
        exact sx_sub [0, 1, 2, 3, 4] rfl h
      · replace h := h.2 c3
        refine sx_iload_n C dX5_draw_42 2 2 rfl rfl 43 rfl ?_
        refine sx_iload C dX5_draw_43 4 rfl 45 rfl ?_
        refine sx_icmp_ne C dX5_draw_45 65 48 (by decide) rfl (fun c4 => ?_) (fun c4 => ?_)
        · replace h := h.2 c4
          exact sx_sub [0, 1, 2, 3, 4] rfl h
        · replace h := h.1 c4
          exact sx_sub [0, 1, 2, 3, 4] rfl h)
  replace h := h (by
    intro f v4 h
    refine sx_aload_n C dX5_draw_48 0 0 rfl rfl 49 rfl ?_
    refine sx_aload_n C dX5_draw_49 1 1 rfl rfl 50 rfl ?_
    refine sx_iload C dX5_draw_50 4 rfl 52 rfl ?_
    refine sx_iload_n C dX5_draw_52 3 3 rfl rfl 53 rfl ?_
    refine sx_callSN C hB (st := [.ref (b + 1), .ref (b + 9)]) dX5_draw_53 (cn_X6_slotOf hf h) mi_X6_slotOf lkn_X5_38 mt_X6_slotOf rfl rfl ⟨⟨(Nat.le_of_ble_eq_true rfl), (Nat.le_of_ble_eq_true rfl)⟩, (Nat.le_of_ble_eq_true rfl), (Nat.le_of_ble_eq_true rfl)⟩ (Nat.le_of_ble_eq_true rfl) 56 rfl (fun v g6 h => ?_)
    obtain ⟨⟨r5, rfl, h⟩, rfl⟩ := h
    refine sx_aload_n C dX5_draw_56 1 1 rfl rfl 57 rfl ?_
    refine sx_getqN C (T := TX4) (C0 := RX4) (N := 7) (j := 1) dX5_draw_57 fln_X5_42 inw_X4 rfl (by decide) rfl (by decide) lyX_1 rfl 60 rfl ?_
    refine sx_iload_n C dX5_draw_60 3 3 rfl rfl 61 rfl ?_
    refine sx_iald C dX5_draw_61 (by decide) lyX_2 h.1 62 rfl ?_
    replace h := h.2
    refine sx_callV C ht hB (st := []) dX5_draw_62 (c_X5_addPlaces hf h) mi_X5_addPlaces lk_X5_47 mn_X5_addPlaces ms_X5_addPlaces (by decide) lyX_9 rfl rfl rfl rfl ⟨⟨(Nat.le_of_ble_eq_true rfl), (Nat.le_of_ble_eq_true rfl)⟩, (Nat.le_of_ble_eq_true rfl), (Nat.le_of_ble_eq_true rfl)⟩ (Nat.le_of_ble_eq_true rfl) ⟨(Nat.le_of_ble_eq_true rfl), (Nat.le_of_ble_eq_true rfl)⟩ (fun _ _ hx => hx.elim) 65 rfl (fun v g7 h => ?_)
    obtain ⟨rfl, h⟩ := h
    exact sx_sub [0, 1, 2, 3, 4] rfl h)
  replace h := h (by
    intro f v4 h
    obtain ⟨y8, ey8⟩ : ∃ w : Int32, w = v4 + 1 := ⟨_, rfl⟩
    replace h := h y8 ey8
    refine sx_iinc C dX5_draw_65 4 rfl y8 (by rw [ey8]; rfl) [(4, .int y8), (0, .ref (b + 9)), (1, .ref (b + 1)), (2, .int x2), (3, .int x3)] (by decide) rfl 68 rfl ?_
    refine sx_goto C dX5_draw_68 31 (by decide) ?_
    exact sx_sub [1, 2, 3, 4, 0] rfl h)
  refine sx_sub (lv' := [(0, .ref (b + 9)), (1, .ref (b + 1)), (2, .int x2), (3, .int x3)]) [0, 1, 2, 3] rfl ?_
  refine sx_aload_n C dX5_draw_0 0 0 rfl rfl 1 rfl ?_
  refine sx_iconst C dX5_draw_1 0 (by decide) 2 rfl ?_
  refine sx_puti C (T := TX5) (C0 := RX5) (N := 5) (j := 0) dX5_draw_2 fl_X5_24 inw_X5 rfl tyX5 tyX5_ok nmX5 (by decide) rfl rfl rfl hB (by decide) lyX_9 rfl 5 rfl (fun g9 eg9 => ?_)
  replace h := h g9 eg9
  refine sx_iload_n C dX5_draw_5 2 2 rfl rfl 6 rfl ?_
  refine sx_iconst C dX5_draw_6 (-1) (by decide) 7 rfl ?_
  refine sx_icmp_ne C dX5_draw_7 20 10 (by decide) rfl (fun c10 => ?_) (fun c10 => ?_)
  · replace h := h.2 c10
    refine sx_aload_n C dX5_draw_20 0 0 rfl rfl 21 rfl ?_
    refine sx_getq C (T := TX5) (C0 := RX5) (N := 5) (j := 4) dX5_draw_21 fl_X5_21 inw_X5 rfl (by decide) rfl (by decide) lyX_9 rfl 24 rfl ?_
    refine sx_iconst C dX5_draw_24 (-1) (by decide) 25 rfl ?_
    refine sx_callS C ht hB (st := []) dX5_draw_25 (c_J7_fill_53178 hf (by decide) lyX_13 h) mi_J7_fill_53178 lk_X5_32 mt_J7_fill_53178 rfl rfl ⟨⟨(Nat.le_of_ble_eq_true rfl), (Nat.le_of_ble_eq_true rfl)⟩, (Nat.le_of_ble_eq_true rfl), (Nat.le_of_ble_eq_true rfl)⟩ (Nat.le_of_ble_eq_true rfl) ⟨(Nat.le_of_ble_eq_true rfl), (Nat.le_of_ble_eq_true rfl)⟩ (fun _ _ hx => hx.elim) 28 rfl (fun v g11 h => ?_)
    obtain ⟨rfl, h⟩ := h
    refine sx_iconst C dX5_draw_28 0 (by decide) 29 rfl ?_
    refine sx_istore C dX5_draw_29 [(4, .int 0), (0, .ref (b + 9)), (1, .ref (b + 1)), (2, .int x2), (3, .int x3)] (by decide) rfl 31 rfl ?_
    exact sx_sub [1, 2, 3, 4, 0] rfl h
  · replace h := h.1 c10
    refine sx_aload_n C dX5_draw_10 0 0 rfl rfl 11 rfl ?_
    refine sx_iconst C dX5_draw_11 0 (by decide) 12 rfl ?_
    refine sx_bipush C dX5_draw_12 24 (by decide) 14 rfl ?_
    refine sx_bipush C dX5_draw_14 16 (by decide) 16 rfl ?_
    refine sx_callV C ht hB (st := []) dX5_draw_16 (c_X5_addSpring hf h) mi_X5_addSpring lk_X5_28 mn_X5_addSpring ms_X5_addSpring (by decide) lyX_9 rfl rfl rfl rfl ⟨⟨(Nat.le_of_ble_eq_true rfl), (Nat.le_of_ble_eq_true rfl)⟩, (Nat.le_of_ble_eq_true rfl), (Nat.le_of_ble_eq_true rfl)⟩ (Nat.le_of_ble_eq_true rfl) ⟨(Nat.le_of_ble_eq_true rfl), (Nat.le_of_ble_eq_true rfl)⟩ (fun _ _ hx => hx.elim) 19 rfl (fun v g12 h => ?_)
    obtain ⟨rfl, h⟩ := h
    exact sx_vret C dX5_draw_19 hr (Nat.le_of_ble_eq_true rfl) (Nat.le_of_ble_eq_true rfl) ⟨rfl, h⟩
set_option maxRecDepth 100000 in
set_option maxHeartbeats 4000000 in
theorem c_X5_widthOfAll {l : Launch} {D : va_G} {G : sx_G} {b : Nat} (hf : l.stackTraces = false) {f : sx_F}  {Q : Int32 → Prop}  (h : P_X5_widthOfAll f  Q) : sx_Met l D G b 129 lyX yX5_widthOfAll cX5_widthOfAll 1 (some .int) 1 13 0 0 [.ref (b + 9)] f (sx_pi f Q) (fun _ _ => False) := by
  refine sx_enter (own := RX5) hf rfl rfl (Nat.le_of_ble_eq_true rfl) ?_
  intro p e s m args below meth c C hr ht
  have hB : ∀ k, k < 129 → sx_A b 129 s.heap.size (b + k) := fun k h => sx_A.in h
  unfold P_X5_widthOfAll at h
  refine sx_sub (lv' := [(0, .ref (b + 9))]) [0] rfl ?_
  refine sx_aload_n C dX5_widthOfAll_0 0 0 rfl rfl 1 rfl ?_
  refine sx_getq C (T := TX5) (C0 := RX5) (N := 5) (j := 2) dX5_widthOfAll_1 fl_X5_15 inw_X5 rfl (by decide) rfl (by decide) lyX_9 rfl 4 rfl ?_
  refine sx_aload_n C dX5_widthOfAll_4 0 0 rfl rfl 5 rfl ?_
  refine sx_geti C (T := TX5) (C0 := RX5) (N := 5) (j := 0) dX5_widthOfAll_5 fl_X5_24 inw_X5 rfl (by decide) rfl (by decide) lyX_9 rfl 8 rfl ?_
  refine sx_iald C dX5_widthOfAll_8 (by decide) lyX_11 h.1 9 rfl ?_
  replace h := h.2
  exact sx_iret C dX5_widthOfAll_9 hr (Nat.le_of_ble_eq_true rfl) (Nat.le_of_ble_eq_true rfl) ⟨⟨_, rfl, h⟩, rfl⟩
set_option maxRecDepth 100000 in
set_option maxHeartbeats 4000000 in
theorem c_X5_leastOfAll {l : Launch} {D : va_G} {G : sx_G} {b : Nat} (hf : l.stackTraces = false) {f : sx_F}  {Q : Int32 → Prop}  (h : P_X5_leastOfAll f  Q) : sx_Met l D G b 129 lyX yX5_leastOfAll cX5_leastOfAll 1 (some .int) 1 13 0 0 [.ref (b + 9)] f (sx_pi f Q) (fun _ _ => False) := by
  refine sx_enter (own := RX5) hf rfl rfl (Nat.le_of_ble_eq_true rfl) ?_
  intro p e s m args below meth c C hr ht
  have hB : ∀ k, k < 129 → sx_A b 129 s.heap.size (b + k) := fun k h => sx_A.in h
  unfold P_X5_leastOfAll at h
  refine sx_sub (lv' := [(0, .ref (b + 9))]) [0] rfl ?_
  refine sx_aload_n C dX5_leastOfAll_0 0 0 rfl rfl 1 rfl ?_
  refine sx_getq C (T := TX5) (C0 := RX5) (N := 5) (j := 3) dX5_leastOfAll_1 fl_X5_18 inw_X5 rfl (by decide) rfl (by decide) lyX_9 rfl 4 rfl ?_
  refine sx_aload_n C dX5_leastOfAll_4 0 0 rfl rfl 5 rfl ?_
  refine sx_geti C (T := TX5) (C0 := RX5) (N := 5) (j := 0) dX5_leastOfAll_5 fl_X5_24 inw_X5 rfl (by decide) rfl (by decide) lyX_9 rfl 8 rfl ?_
  refine sx_iald C dX5_leastOfAll_8 (by decide) lyX_12 h.1 9 rfl ?_
  replace h := h.2
  exact sx_iret C dX5_leastOfAll_9 hr (Nat.le_of_ble_eq_true rfl) (Nat.le_of_ble_eq_true rfl) ⟨⟨_, rfl, h⟩, rfl⟩
set_option maxRecDepth 100000 in
set_option maxHeartbeats 4000000 in
theorem c_X0_addItem {l : Launch} {D : va_G} {G : sx_G} {b : Nat} (hf : l.stackTraces = false) {f : sx_F} {x1 : Int32} {x2 : Int32} {Q : sx_F → Prop}  (h : P_X0_addItem f x1 x2 Q) : sx_Met l D G b 129 lyX yX0_addItem cX0_addItem 3 (none) 4 84 0 0 [.ref (b + 8), .int x1, .int x2] f (sx_qv Q) (fun _ _ => False) := by
  refine sx_enter (own := RX0) hf rfl rfl (Nat.le_of_ble_eq_true rfl) ?_
  intro p e s m args below meth c C hr ht
  have hB : ∀ k, k < 129 → sx_A b 129 s.heap.size (b + k) := fun k h => sx_A.in h
  unfold P_X0_addItem at h
  refine sx_sub (lv' := [(0, .ref (b + 8)), (1, .int x1), (2, .int x2)]) [0, 1, 2] rfl ?_
  refine sx_aload_n C dX0_addItem_0 0 0 rfl rfl 1 rfl ?_
  refine sx_getq C (T := TX0) (C0 := RX0) (N := 9) (j := 4) dX0_addItem_1 fl_X0_18 inw_X0 rfl (by decide) rfl (by decide) lyX_8 rfl 4 rfl ?_
  refine sx_aload_n C dX0_addItem_4 0 0 rfl rfl 5 rfl ?_
  refine sx_geti C (T := TX0) (C0 := RX0) (N := 9) (j := 3) dX0_addItem_5 fl_X0_42 inw_X0 rfl (by decide) rfl (by decide) lyX_8 rfl 8 rfl ?_
  refine sx_iload_n C dX0_addItem_8 1 1 rfl rfl 9 rfl ?_
  refine sx_iast C dX0_addItem_9 hB (by decide) lyX_14 h.1 10 rfl (fun g1 eg1 => ?_)
  replace h := h.2 g1 eg1
  refine sx_aload_n C dX0_addItem_10 0 0 rfl rfl 11 rfl ?_
  refine sx_getq C (T := TX0) (C0 := RX0) (N := 9) (j := 6) dX0_addItem_11 fl_X0_25 inw_X0 rfl (by decide) rfl (by decide) lyX_8 rfl 14 rfl ?_
  refine sx_aload_n C dX0_addItem_14 0 0 rfl rfl 15 rfl ?_
  refine sx_geti C (T := TX0) (C0 := RX0) (N := 9) (j := 3) dX0_addItem_15 fl_X0_42 inw_X0 rfl (by decide) rfl (by decide) lyX_8 rfl 18 rfl ?_
  refine sx_iload_n C dX0_addItem_18 2 2 rfl rfl 19 rfl ?_
  refine sx_iast C dX0_addItem_19 hB (by decide) lyX_16 h.1 20 rfl (fun g2 eg2 => ?_)
  replace h := h.2 g2 eg2
  refine sx_aload_n C dX0_addItem_20 0 0 rfl rfl 21 rfl ?_
  refine sx_getq C (T := TX0) (C0 := RX0) (N := 9) (j := 1) dX0_addItem_21 fl_X0_12 inw_X0 rfl (by decide) rfl (by decide) lyX_8 rfl 24 rfl ?_
  refine sx_aload_n C dX0_addItem_24 0 0 rfl rfl 25 rfl ?_
  refine sx_getq C (T := TX0) (C0 := RX0) (N := 9) (j := 0) dX0_addItem_25 fl_X0_34 inw_X0 rfl (by decide) rfl (by decide) lyX_8 rfl 28 rfl ?_
  refine sx_iload_n C dX0_addItem_28 2 2 rfl rfl 29 rfl ?_
  refine sx_iload_n C dX0_addItem_29 1 1 rfl rfl 30 rfl ?_
  refine sx_callV C ht hB (st := []) dX0_addItem_30 (c_X5_draw hf h) mi_X5_draw lk_X0_66 mn_X5_draw ms_X5_draw (by decide) lyX_9 rfl rfl rfl rfl ⟨⟨(Nat.le_of_ble_eq_true rfl), (Nat.le_of_ble_eq_true rfl)⟩, (Nat.le_of_ble_eq_true rfl), (Nat.le_of_ble_eq_true rfl)⟩ (Nat.le_of_ble_eq_true rfl) ⟨(Nat.le_of_ble_eq_true rfl), (Nat.le_of_ble_eq_true rfl)⟩ (fun _ _ hx => hx.elim) 33 rfl (fun v g3 h => ?_)
  obtain ⟨rfl, h⟩ := h
  refine sx_aload_n C dX0_addItem_33 0 0 rfl rfl 34 rfl ?_
  refine sx_getq C (T := TX0) (C0 := RX0) (N := 9) (j := 7) dX0_addItem_34 fl_X0_28 inw_X0 rfl (by decide) rfl (by decide) lyX_8 rfl 37 rfl ?_
  refine sx_aload_n C dX0_addItem_37 0 0 rfl rfl 38 rfl ?_
  refine sx_geti C (T := TX0) (C0 := RX0) (N := 9) (j := 3) dX0_addItem_38 fl_X0_42 inw_X0 rfl (by decide) rfl (by decide) lyX_8 rfl 41 rfl ?_
  refine sx_iconst C dX0_addItem_41 1 (by decide) 42 rfl ?_
  refine sx_iadd C dX0_addItem_42 43 rfl ?_
  refine sx_aload_n C dX0_addItem_43 0 0 rfl rfl 44 rfl ?_
  refine sx_getq C (T := TX0) (C0 := RX0) (N := 9) (j := 7) dX0_addItem_44 fl_X0_28 inw_X0 rfl (by decide) rfl (by decide) lyX_8 rfl 47 rfl ?_
  refine sx_aload_n C dX0_addItem_47 0 0 rfl rfl 48 rfl ?_
  refine sx_geti C (T := TX0) (C0 := RX0) (N := 9) (j := 3) dX0_addItem_48 fl_X0_42 inw_X0 rfl (by decide) rfl (by decide) lyX_8 rfl 51 rfl ?_
  refine sx_iald C dX0_addItem_51 (by decide) lyX_17 h.1 52 rfl ?_
  replace h := h.2
  refine sx_aload_n C dX0_addItem_52 0 0 rfl rfl 53 rfl ?_
  refine sx_getq C (T := TX0) (C0 := RX0) (N := 9) (j := 1) dX0_addItem_53 fl_X0_12 inw_X0 rfl (by decide) rfl (by decide) lyX_8 rfl 56 rfl ?_
  refine sx_callV C ht hB (st := [.int (g3 17 (g3 8 3).toNatClampNeg), .int ((g3 8 3) + 1), .ref (b + 17)]) dX0_addItem_56 (c_X5_widthOfAll hf h) mi_X5_widthOfAll lk_X0_70 mn_X5_widthOfAll ms_X5_widthOfAll (by decide) lyX_9 rfl rfl rfl rfl ⟨⟨(Nat.le_of_ble_eq_true rfl), (Nat.le_of_ble_eq_true rfl)⟩, (Nat.le_of_ble_eq_true rfl), (Nat.le_of_ble_eq_true rfl)⟩ (Nat.le_of_ble_eq_true rfl) ⟨(Nat.le_of_ble_eq_true rfl), (Nat.le_of_ble_eq_true rfl)⟩ (fun _ _ hx => hx.elim) 59 rfl (fun v g5 h => ?_)
  obtain ⟨⟨r4, rfl, h⟩, rfl⟩ := h
  refine sx_iadd C dX0_addItem_59 60 rfl ?_
  refine sx_iast C dX0_addItem_60 hB (by decide) lyX_17 h.1 61 rfl (fun g6 eg6 => ?_)
  replace h := h.2 g6 eg6
  refine sx_aload_n C dX0_addItem_61 0 0 rfl rfl 62 rfl ?_
  refine sx_getq C (T := TX0) (C0 := RX0) (N := 9) (j := 8) dX0_addItem_62 fl_X0_31 inw_X0 rfl (by decide) rfl (by decide) lyX_8 rfl 65 rfl ?_
  refine sx_aload_n C dX0_addItem_65 0 0 rfl rfl 66 rfl ?_
  refine sx_geti C (T := TX0) (C0 := RX0) (N := 9) (j := 3) dX0_addItem_66 fl_X0_42 inw_X0 rfl (by decide) rfl (by decide) lyX_8 rfl 69 rfl ?_
  refine sx_iconst C dX0_addItem_69 1 (by decide) 70 rfl ?_
  refine sx_iadd C dX0_addItem_70 71 rfl ?_
  refine sx_aload_n C dX0_addItem_71 0 0 rfl rfl 72 rfl ?_
  refine sx_getq C (T := TX0) (C0 := RX0) (N := 9) (j := 8) dX0_addItem_72 fl_X0_31 inw_X0 rfl (by decide) rfl (by decide) lyX_8 rfl 75 rfl ?_
  refine sx_aload_n C dX0_addItem_75 0 0 rfl rfl 76 rfl ?_
  refine sx_geti C (T := TX0) (C0 := RX0) (N := 9) (j := 3) dX0_addItem_76 fl_X0_42 inw_X0 rfl (by decide) rfl (by decide) lyX_8 rfl 79 rfl ?_
  refine sx_iald C dX0_addItem_79 (by decide) lyX_18 h.1 80 rfl ?_
  replace h := h.2
  refine sx_aload_n C dX0_addItem_80 0 0 rfl rfl 81 rfl ?_
  refine sx_getq C (T := TX0) (C0 := RX0) (N := 9) (j := 1) dX0_addItem_81 fl_X0_12 inw_X0 rfl (by decide) rfl (by decide) lyX_8 rfl 84 rfl ?_
  refine sx_callV C ht hB (st := [.int (g6 18 (g6 8 3).toNatClampNeg), .int ((g6 8 3) + 1), .ref (b + 18)]) dX0_addItem_84 (c_X5_leastOfAll hf h) mi_X5_leastOfAll lk_X0_74 mn_X5_leastOfAll ms_X5_leastOfAll (by decide) lyX_9 rfl rfl rfl rfl ⟨⟨(Nat.le_of_ble_eq_true rfl), (Nat.le_of_ble_eq_true rfl)⟩, (Nat.le_of_ble_eq_true rfl), (Nat.le_of_ble_eq_true rfl)⟩ (Nat.le_of_ble_eq_true rfl) ⟨(Nat.le_of_ble_eq_true rfl), (Nat.le_of_ble_eq_true rfl)⟩ (fun _ _ hx => hx.elim) 87 rfl (fun v g8 h => ?_)
  obtain ⟨⟨r7, rfl, h⟩, rfl⟩ := h
  refine sx_iadd C dX0_addItem_87 88 rfl ?_
  refine sx_iast C dX0_addItem_88 hB (by decide) lyX_18 h.1 89 rfl (fun g9 eg9 => ?_)
  replace h := h.2 g9 eg9
  refine sx_aload_n C dX0_addItem_89 0 0 rfl rfl 90 rfl ?_
  refine sx_dup C dX0_addItem_90 rfl 91 rfl ?_
  refine sx_geti C (T := TX0) (C0 := RX0) (N := 9) (j := 3) dX0_addItem_91 fl_X0_42 inw_X0 rfl (by decide) rfl (by decide) lyX_8 rfl 94 rfl ?_
  refine sx_iconst C dX0_addItem_94 1 (by decide) 95 rfl ?_
  refine sx_iadd C dX0_addItem_95 96 rfl ?_
  refine sx_puti C (T := TX0) (C0 := RX0) (N := 9) (j := 3) dX0_addItem_96 fl_X0_42 inw_X0 rfl tyX0 tyX0_ok nmX0 (by decide) rfl rfl rfl hB (by decide) lyX_8 rfl 99 rfl (fun g10 eg10 => ?_)
  replace h := h g10 eg10
  exact sx_vret C dX0_addItem_99 hr (Nat.le_of_ble_eq_true rfl) (Nat.le_of_ble_eq_true rfl) ⟨rfl, h⟩
set_option maxRecDepth 100000 in
set_option maxHeartbeats 4000000 in
theorem c_X0_gather {l : Launch} {D : va_G} {G : sx_G} {b : Nat} (hf : l.stackTraces = false) {f : sx_F} {x1 : Int32} {Q : sx_F → Prop}  (h : P_X0_gather f x1 Q) : sx_Met l D G b 129 lyX yX0_gather cX0_gather 5 (none) 5 107 0 0 [.ref (b + 8), .int x1] f (sx_qv Q) (fun _ _ => False) := by
  refine sx_enter (own := RX0) hf rfl rfl (Nat.le_of_ble_eq_true rfl) ?_
  intro p e s m args below meth c C hr ht
  have hB : ∀ k, k < 129 → sx_A b 129 s.heap.size (b + k) := fun k h => sx_A.in h
  unfold P_X0_gather at h
  replace h := h (fun (f : sx_F) (v2 : Int32) => sx_J (sx_wp D G b lyX 129) p l e { frames := 5, cells := 0, slots := 0, locals := 107 } s m args below meth c (sx_A b 129 s.heap.size) 5 0 0 (sx_fin (sx_wp D G b lyX 129) (sx_A b 129 s.heap.size) below args s 0 0 (sx_qv Q) (fun _ _ => False)) f 12 [(0, .ref (b + 8)), (2, .int v2)] [])
  replace h := h (fun (f : sx_F) (v2 : Int32) (v3 : Int32) => sx_J (sx_wp D G b lyX 129) p l e { frames := 5, cells := 0, slots := 0, locals := 107 } s m args below meth c (sx_A b 129 s.heap.size) 5 0 0 (sx_fin (sx_wp D G b lyX 129) (sx_A b 129 s.heap.size) below args s 0 0 (sx_qv Q) (fun _ _ => False)) f 60 [(0, .ref (b + 8)), (2, .int v2), (3, .int v3)] [])
  replace h := h (fun (f : sx_F) (v2 : Int32) (v3 : Int32) (s0 : Int32) => sx_J (sx_wp D G b lyX 129) p l e { frames := 5, cells := 0, slots := 0, locals := 107 } s m args below meth c (sx_A b 129 s.heap.size) 5 0 0 (sx_fin (sx_wp D G b lyX 129) (sx_A b 129 s.heap.size) below args s 0 0 (sx_qv Q) (fun _ _ => False)) f 61 [(0, .ref (b + 8)), (2, .int v2), (3, .int v3)] [.int s0])
  replace h := h (fun (f : sx_F) (v2 : Int32) => sx_J (sx_wp D G b lyX 129) p l e { frames := 5, cells := 0, slots := 0, locals := 107 } s m args below meth c (sx_A b 129 s.heap.size) 5 0 0 (sx_fin (sx_wp D G b lyX 129) (sx_A b 129 s.heap.size) below args s 0 0 (sx_qv Q) (fun _ _ => False)) f 74 [(0, .ref (b + 8)), (2, .int v2)] [])
  replace h := h (by
    intro f v2 h
    refine sx_iload_n C dX0_gather_12 2 1 rfl rfl 13 rfl ?_
    refine sx_aload_n C dX0_gather_13 0 0 rfl rfl 14 rfl ?_
    refine sx_getq C (T := TX0) (C0 := RX0) (N := 9) (j := 0) dX0_gather_14 fl_X0_34 inw_X0 rfl (by decide) rfl (by decide) lyX_8 rfl 17 rfl ?_
    refine sx_getiN C (T := TX4) (C0 := RX4) (N := 7) (j := 0) dX0_gather_17 fln_X0_45 inw_X4 rfl (by decide) rfl (by decide) lyX_1 rfl 20 rfl ?_
    refine sx_icmp_ge C dX0_gather_20 92 23 (by decide) rfl (fun c1 => ?_) (fun c1 => ?_)
    · replace h := h.1 c1
      exact sx_vret C dX0_gather_92 hr (Nat.le_of_ble_eq_true rfl) (Nat.le_of_ble_eq_true rfl) ⟨rfl, h⟩
    · replace h := h.2 c1
      refine sx_aload_n C dX0_gather_23 0 0 rfl rfl 24 rfl ?_
      refine sx_iload_n C dX0_gather_24 2 1 rfl rfl 25 rfl ?_
      refine sx_callV C ht hB (st := []) dX0_gather_25 (c_X0_drawerOf hf h) mi_X0_drawerOf lk_X0_50 mn_X0_drawerOf ms_X0_drawerOf (by decide) lyX_8 rfl rfl rfl rfl ⟨⟨(Nat.le_of_ble_eq_true rfl), (Nat.le_of_ble_eq_true rfl)⟩, (Nat.le_of_ble_eq_true rfl), (Nat.le_of_ble_eq_true rfl)⟩ (Nat.le_of_ble_eq_true rfl) ⟨(Nat.le_of_ble_eq_true rfl), (Nat.le_of_ble_eq_true rfl)⟩ (fun _ _ hx => hx.elim) 28 rfl (fun v g3 h => ?_)
      obtain ⟨⟨r2, rfl, h⟩, rfl⟩ := h
      refine sx_istore_n C dX0_gather_28 3 rfl [(3, .int r2), (0, .ref (b + 8)), (2, .int v2)] (by decide) rfl 29 rfl ?_
      refine sx_iload_n C dX0_gather_29 3 0 rfl rfl 30 rfl ?_
      refine sx_iconst C dX0_gather_30 (-1) (by decide) 31 rfl ?_
      refine sx_icmp_ne C dX0_gather_31 60 34 (by decide) rfl (fun c4 => ?_) (fun c4 => ?_)
      · replace h := h.2 c4
        exact sx_sub [1, 2, 0] rfl h
      · replace h := h.1 c4
        refine sx_aload_n C dX0_gather_34 0 1 rfl rfl 35 rfl ?_
        refine sx_geti C (T := TX0) (C0 := RX0) (N := 9) (j := 3) dX0_gather_35 fl_X0_42 inw_X0 rfl (by decide) rfl (by decide) lyX_8 rfl 38 rfl ?_
        refine sx_if_le C dX0_gather_38 60 41 (by decide) rfl (fun c5 => ?_) (fun c5 => ?_)
        · replace h := h.1 c5
          exact sx_sub [1, 2, 0] rfl h
        · replace h := h.2 c5
          refine sx_aload_n C dX0_gather_41 0 1 rfl rfl 42 rfl ?_
          refine sx_getq C (T := TX0) (C0 := RX0) (N := 9) (j := 6) dX0_gather_42 fl_X0_25 inw_X0 rfl (by decide) rfl (by decide) lyX_8 rfl 45 rfl ?_
          refine sx_aload_n C dX0_gather_45 0 1 rfl rfl 46 rfl ?_
          refine sx_geti C (T := TX0) (C0 := RX0) (N := 9) (j := 3) dX0_gather_46 fl_X0_42 inw_X0 rfl (by decide) rfl (by decide) lyX_8 rfl 49 rfl ?_
          refine sx_iconst C dX0_gather_49 1 (by decide) 50 rfl ?_
          refine sx_isub C dX0_gather_50 51 rfl ?_
          refine sx_iald C dX0_gather_51 (by decide) lyX_16 h.1 52 rfl ?_
          replace h := h.2
          refine sx_iconst C dX0_gather_52 (-1) (by decide) 53 rfl ?_
          refine sx_icmp_ne C dX0_gather_53 60 56 (by decide) rfl (fun c6 => ?_) (fun c6 => ?_)
          · replace h := h.2 c6
            exact sx_sub [1, 2, 0] rfl h
          · replace h := h.1 c6
            refine sx_iconst C dX0_gather_56 1 (by decide) 57 rfl ?_
            refine sx_goto C dX0_gather_57 61 (by decide) ?_
            exact sx_sub [1, 2, 0] rfl h)
  replace h := h (by
    intro f v2 v3 h
    refine sx_iconst C dX0_gather_60 0 (by decide) 61 rfl ?_
    exact sx_sub [0, 1, 2] rfl h)
  replace h := h (by
    intro f v2 v3 s0 h
    refine sx_istore C dX0_gather_61 [(4, .int s0), (0, .ref (b + 8)), (2, .int v2), (3, .int v3)] (by decide) rfl 63 rfl ?_
    refine sx_iload C dX0_gather_63 0 rfl 65 rfl ?_
    refine sx_if_ne C dX0_gather_65 74 68 (by decide) rfl (fun c7 => ?_) (fun c7 => ?_)
    · replace h := h.2 c7
      exact sx_sub [1, 2] rfl h
    · replace h := h.1 c7
      refine sx_aload_n C dX0_gather_68 0 1 rfl rfl 69 rfl ?_
      refine sx_iload_n C dX0_gather_69 2 2 rfl rfl 70 rfl ?_
      refine sx_iload_n C dX0_gather_70 3 3 rfl rfl 71 rfl ?_
      refine sx_callV C ht hB (st := []) dX0_gather_71 (c_X0_addItem hf h) mi_X0_addItem lk_X0_54 mn_X0_addItem ms_X0_addItem (by decide) lyX_8 rfl rfl rfl rfl ⟨⟨(Nat.le_of_ble_eq_true rfl), (Nat.le_of_ble_eq_true rfl)⟩, (Nat.le_of_ble_eq_true rfl), (Nat.le_of_ble_eq_true rfl)⟩ (Nat.le_of_ble_eq_true rfl) ⟨(Nat.le_of_ble_eq_true rfl), (Nat.le_of_ble_eq_true rfl)⟩ (fun _ _ hx => hx.elim) 74 rfl (fun v g8 h => ?_)
      obtain ⟨rfl, h⟩ := h
      exact sx_sub [1, 2] rfl h)
  replace h := h (by
    intro f v2 h
    refine sx_aload_n C dX0_gather_74 0 0 rfl rfl 75 rfl ?_
    refine sx_getq C (T := TX0) (C0 := RX0) (N := 9) (j := 5) dX0_gather_75 fl_X0_22 inw_X0 rfl (by decide) rfl (by decide) lyX_8 rfl 78 rfl ?_
    refine sx_iload_n C dX0_gather_78 2 1 rfl rfl 79 rfl ?_
    refine sx_aload_n C dX0_gather_79 0 0 rfl rfl 80 rfl ?_
    refine sx_geti C (T := TX0) (C0 := RX0) (N := 9) (j := 3) dX0_gather_80 fl_X0_42 inw_X0 rfl (by decide) rfl (by decide) lyX_8 rfl 83 rfl ?_
    refine sx_iconst C dX0_gather_83 1 (by decide) 84 rfl ?_
    refine sx_isub C dX0_gather_84 85 rfl ?_
    refine sx_iast C dX0_gather_85 hB (by decide) lyX_15 h.1 86 rfl (fun g9 eg9 => ?_)
    replace h := h.2 g9 eg9
    obtain ⟨y10, ey10⟩ : ∃ w : Int32, w = v2 + 1 := ⟨_, rfl⟩
    replace h := h y10 ey10
    refine sx_iinc C dX0_gather_86 1 rfl y10 (by rw [ey10]; rfl) [(2, .int y10), (0, .ref (b + 8))] (by decide) rfl 89 rfl ?_
    refine sx_goto C dX0_gather_89 12 (by decide) ?_
    exact sx_sub [1, 0] rfl h)
  refine sx_sub (lv' := [(0, .ref (b + 8)), (1, .int x1)]) [0, 1] rfl ?_
  refine sx_aload_n C dX0_gather_0 0 0 rfl rfl 1 rfl ?_
  refine sx_iload_n C dX0_gather_1 1 1 rfl rfl 2 rfl ?_
  refine sx_puti C (T := TX0) (C0 := RX0) (N := 9) (j := 2) dX0_gather_2 fl_X0_38 inw_X0 rfl tyX0 tyX0_ok nmX0 (by decide) rfl rfl rfl hB (by decide) lyX_8 rfl 5 rfl (fun g11 eg11 => ?_)
  replace h := h g11 eg11
  refine sx_aload_n C dX0_gather_5 0 0 rfl rfl 6 rfl ?_
  refine sx_iconst C dX0_gather_6 0 (by decide) 7 rfl ?_
  refine sx_puti C (T := TX0) (C0 := RX0) (N := 9) (j := 3) dX0_gather_7 fl_X0_42 inw_X0 rfl tyX0 tyX0_ok nmX0 (by decide) rfl rfl rfl hB (by decide) lyX_8 rfl 10 rfl (fun g12 eg12 => ?_)
  replace h := h g12 eg12
  refine sx_iconst C dX0_gather_10 0 (by decide) 11 rfl ?_
  refine sx_istore_n C dX0_gather_11 2 rfl [(2, .int 0), (0, .ref (b + 8)), (1, .int x1)] (by decide) rfl 12 rfl ?_
  exact sx_sub [1, 0] rfl h
set_option maxRecDepth 100000 in
set_option maxHeartbeats 4000000 in
theorem c_X5_springFrom {l : Launch} {D : va_G} {G : sx_G} {b : Nat} (hf : l.stackTraces = false) {f : sx_F} {x1 : Int32} {Q : Int32 → Prop}  (h : P_X5_springFrom f x1 Q) : sx_Met l D G b 129 lyX yX5_springFrom cX5_springFrom 3 (some .int) 1 13 0 0 [.ref (b + 9), .int x1] f (sx_pi f Q) (fun _ _ => False) := by
  refine sx_enter (own := RX5) hf rfl rfl (Nat.le_of_ble_eq_true rfl) ?_
  intro p e s m args below meth c C hr ht
  have hB : ∀ k, k < 129 → sx_A b 129 s.heap.size (b + k) := fun k h => sx_A.in h
  unfold P_X5_springFrom at h
  replace h := h (fun (v2 : Int32) => sx_J (sx_wp D G b lyX 129) p l e { frames := 1, cells := 0, slots := 0, locals := 13 } s m args below meth c (sx_A b 129 s.heap.size) 3 0 0 (sx_fin (sx_wp D G b lyX 129) (sx_A b 129 s.heap.size) below args s 0 0 (sx_pi f Q) (fun _ _ => False)) f 2 [(0, .ref (b + 9)), (1, .int x1), (2, .int v2)] [])
  replace h := h (by
    intro v2 h
    refine sx_iload_n C dX5_springFrom_2 2 2 rfl rfl 3 rfl ?_
    refine sx_aload_n C dX5_springFrom_3 0 0 rfl rfl 4 rfl ?_
    refine sx_geti C (T := TX5) (C0 := RX5) (N := 5) (j := 0) dX5_springFrom_4 fl_X5_24 inw_X5 rfl (by decide) rfl (by decide) lyX_9 rfl 7 rfl ?_
    refine sx_icmp_ge C dX5_springFrom_7 28 10 (by decide) rfl (fun c1 => ?_) (fun c1 => ?_)
    · replace h := h.1 c1
      refine sx_iconst C dX5_springFrom_28 (-1) (by decide) 29 rfl ?_
      exact sx_iret C dX5_springFrom_29 hr (Nat.le_of_ble_eq_true rfl) (Nat.le_of_ble_eq_true rfl) ⟨⟨_, rfl, h⟩, rfl⟩
    · replace h := h.2 c1
      refine sx_aload_n C dX5_springFrom_10 0 0 rfl rfl 11 rfl ?_
      refine sx_getq C (T := TX5) (C0 := RX5) (N := 5) (j := 1) dX5_springFrom_11 fl_X5_9 inw_X5 rfl (by decide) rfl (by decide) lyX_9 rfl 14 rfl ?_
      refine sx_iload_n C dX5_springFrom_14 2 2 rfl rfl 15 rfl ?_
      refine sx_iald C dX5_springFrom_15 (by decide) lyX_10 h.1 16 rfl ?_
      replace h := h.2
      refine sx_iload_n C dX5_springFrom_16 1 1 rfl rfl 17 rfl ?_
      refine sx_icmp_ne C dX5_springFrom_17 22 20 (by decide) rfl (fun c2 => ?_) (fun c2 => ?_)
      · replace h := h.2 c2
        obtain ⟨y3, ey3⟩ : ∃ w : Int32, w = v2 + 1 := ⟨_, rfl⟩
        replace h := h y3 ey3
        refine sx_iinc C dX5_springFrom_22 2 rfl y3 (by rw [ey3]; rfl) [(2, .int y3), (0, .ref (b + 9)), (1, .int x1)] (by decide) rfl 25 rfl ?_
        refine sx_goto C dX5_springFrom_25 2 (by decide) ?_
        exact sx_sub [1, 2, 0] rfl h
      · replace h := h.1 c2
        refine sx_iload_n C dX5_springFrom_20 2 2 rfl rfl 21 rfl ?_
        exact sx_iret C dX5_springFrom_21 hr (Nat.le_of_ble_eq_true rfl) (Nat.le_of_ble_eq_true rfl) ⟨⟨_, rfl, h⟩, rfl⟩)
  refine sx_sub (lv' := [(0, .ref (b + 9)), (1, .int x1)]) [0, 1] rfl ?_
  refine sx_iconst C dX5_springFrom_0 0 (by decide) 1 rfl ?_
  refine sx_istore_n C dX5_springFrom_1 2 rfl [(2, .int 0), (0, .ref (b + 9)), (1, .int x1)] (by decide) rfl 2 rfl ?_
  exact sx_sub [1, 2, 0] rfl h
set_option maxRecDepth 100000 in
set_option maxHeartbeats 4000000 in
theorem c_X0_drawSpring {l : Launch} {D : va_G} {G : sx_G} {b : Nat} (hf : l.stackTraces = false) {f : sx_F} {x1 : Int32} {x2 : Int32} {Q : Int32 → sx_F → Prop}  (h : P_X0_drawSpring f x1 x2 Q) : sx_Met l D G b 129 lyX yX0_drawSpring cX0_drawSpring 4 (some .int) 4 84 0 0 [.ref (b + 8), .int x1, .int x2] f (sx_qi Q) (fun _ _ => False) := by
  refine sx_enter (own := RX0) hf rfl rfl (Nat.le_of_ble_eq_true rfl) ?_
  intro p e s m args below meth c C hr ht
  have hB : ∀ k, k < 129 → sx_A b 129 s.heap.size (b + k) := fun k h => sx_A.in h
  unfold P_X0_drawSpring at h
  refine sx_sub (lv' := [(0, .ref (b + 8)), (1, .int x1), (2, .int x2)]) [0, 1, 2] rfl ?_
  refine sx_aload_n C dX0_drawSpring_0 0 0 rfl rfl 1 rfl ?_
  refine sx_getq C (T := TX0) (C0 := RX0) (N := 9) (j := 5) dX0_drawSpring_1 fl_X0_22 inw_X0 rfl (by decide) rfl (by decide) lyX_8 rfl 4 rfl ?_
  refine sx_iload_n C dX0_drawSpring_4 1 1 rfl rfl 5 rfl ?_
  refine sx_iald C dX0_drawSpring_5 (by decide) lyX_15 h.1 6 rfl ?_
  replace h := h.2
  refine sx_topi (fun y1 ey1 => ?_)
  replace h := h y1 ey1
  refine sx_istore_n C dX0_drawSpring_6 3 rfl [(3, .int y1), (0, .ref (b + 8)), (1, .int x1), (2, .int x2)] (by decide) rfl 7 rfl ?_
  refine sx_aload_n C dX0_drawSpring_7 0 1 rfl rfl 8 rfl ?_
  refine sx_getq C (T := TX0) (C0 := RX0) (N := 9) (j := 1) dX0_drawSpring_8 fl_X0_12 inw_X0 rfl (by decide) rfl (by decide) lyX_8 rfl 11 rfl ?_
  refine sx_aload_n C dX0_drawSpring_11 0 1 rfl rfl 12 rfl ?_
  refine sx_getq C (T := TX0) (C0 := RX0) (N := 9) (j := 0) dX0_drawSpring_12 fl_X0_34 inw_X0 rfl (by decide) rfl (by decide) lyX_8 rfl 15 rfl ?_
  refine sx_aload_n C dX0_drawSpring_15 0 1 rfl rfl 16 rfl ?_
  refine sx_getq C (T := TX0) (C0 := RX0) (N := 9) (j := 6) dX0_drawSpring_16 fl_X0_25 inw_X0 rfl (by decide) rfl (by decide) lyX_8 rfl 19 rfl ?_
  refine sx_iload_n C dX0_drawSpring_19 3 0 rfl rfl 20 rfl ?_
  refine sx_iald C dX0_drawSpring_20 (by decide) lyX_16 h.1 21 rfl ?_
  replace h := h.2
  refine sx_aload_n C dX0_drawSpring_21 0 1 rfl rfl 22 rfl ?_
  refine sx_getq C (T := TX0) (C0 := RX0) (N := 9) (j := 4) dX0_drawSpring_22 fl_X0_18 inw_X0 rfl (by decide) rfl (by decide) lyX_8 rfl 25 rfl ?_
  refine sx_iload_n C dX0_drawSpring_25 3 0 rfl rfl 26 rfl ?_
  refine sx_iald C dX0_drawSpring_26 (by decide) lyX_14 h.1 27 rfl ?_
  replace h := h.2
  refine sx_callV C ht hB (st := []) dX0_drawSpring_27 (c_X5_draw hf h) mi_X5_draw lk_X0_66 mn_X5_draw ms_X5_draw (by decide) lyX_9 rfl rfl rfl rfl ⟨⟨(Nat.le_of_ble_eq_true rfl), (Nat.le_of_ble_eq_true rfl)⟩, (Nat.le_of_ble_eq_true rfl), (Nat.le_of_ble_eq_true rfl)⟩ (Nat.le_of_ble_eq_true rfl) ⟨(Nat.le_of_ble_eq_true rfl), (Nat.le_of_ble_eq_true rfl)⟩ (fun _ _ hx => hx.elim) 30 rfl (fun v g2 h => ?_)
  obtain ⟨rfl, h⟩ := h
  refine sx_aload_n C dX0_drawSpring_30 0 1 rfl rfl 31 rfl ?_
  refine sx_getq C (T := TX0) (C0 := RX0) (N := 9) (j := 4) dX0_drawSpring_31 fl_X0_18 inw_X0 rfl (by decide) rfl (by decide) lyX_8 rfl 34 rfl ?_
  refine sx_iload_n C dX0_drawSpring_34 3 0 rfl rfl 35 rfl ?_
  refine sx_iald C dX0_drawSpring_35 (by decide) lyX_14 h.1 36 rfl ?_
  replace h := h.2
  refine sx_iload_n C dX0_drawSpring_36 1 2 rfl rfl 37 rfl ?_
  refine sx_icmp_ne C dX0_drawSpring_37 51 40 (by decide) rfl (fun c3 => ?_) (fun c3 => ?_)
  · replace h := h.2 c3
    refine sx_iconst C dX0_drawSpring_51 (-1) (by decide) 52 rfl ?_
    exact sx_iret C dX0_drawSpring_52 hr (Nat.le_of_ble_eq_true rfl) (Nat.le_of_ble_eq_true rfl) ⟨_, rfl, h⟩
  · replace h := h.1 c3
    refine sx_aload_n C dX0_drawSpring_40 0 1 rfl rfl 41 rfl ?_
    refine sx_getq C (T := TX0) (C0 := RX0) (N := 9) (j := 1) dX0_drawSpring_41 fl_X0_12 inw_X0 rfl (by decide) rfl (by decide) lyX_8 rfl 44 rfl ?_
    refine sx_iload_n C dX0_drawSpring_44 2 3 rfl rfl 45 rfl ?_
    refine sx_callV C ht hB (st := []) dX0_drawSpring_45 (c_X5_springFrom hf h) mi_X5_springFrom lk_X0_77 mn_X5_springFrom ms_X5_springFrom (by decide) lyX_9 rfl rfl rfl rfl ⟨⟨(Nat.le_of_ble_eq_true rfl), (Nat.le_of_ble_eq_true rfl)⟩, (Nat.le_of_ble_eq_true rfl), (Nat.le_of_ble_eq_true rfl)⟩ (Nat.le_of_ble_eq_true rfl) ⟨(Nat.le_of_ble_eq_true rfl), (Nat.le_of_ble_eq_true rfl)⟩ (fun _ _ hx => hx.elim) 48 rfl (fun v g5 h => ?_)
    obtain ⟨⟨r4, rfl, h⟩, rfl⟩ := h
    refine sx_goto C dX0_drawSpring_48 52 (by decide) ?_
    exact sx_iret C dX0_drawSpring_52 hr (Nat.le_of_ble_eq_true rfl) (Nat.le_of_ble_eq_true rfl) ⟨_, rfl, h⟩
set_option maxRecDepth 100000 in
set_option maxHeartbeats 4000000 in
theorem c_X0_widthOf {l : Launch} {D : va_G} {G : sx_G} {b : Nat} (hf : l.stackTraces = false) {f : sx_F} {x1 : Int32} {x2 : Int32} {Q : Int32 → Prop}  (h : P_X0_widthOf f x1 x2 Q) : sx_Met l D G b 129 lyX yX0_widthOf cX0_widthOf 3 (some .int) 1 13 0 0 [.ref (b + 8), .int x1, .int x2] f (sx_pi f Q) (fun _ _ => False) := by
  refine sx_enter (own := RX0) hf rfl rfl (Nat.le_of_ble_eq_true rfl) ?_
  intro p e s m args below meth c C hr ht
  have hB : ∀ k, k < 129 → sx_A b 129 s.heap.size (b + k) := fun k h => sx_A.in h
  unfold P_X0_widthOf at h
  refine sx_sub (lv' := [(0, .ref (b + 8)), (1, .int x1), (2, .int x2)]) [0, 1, 2] rfl ?_
  refine sx_bipush C dX0_widthOf_0 8 (by decide) 2 rfl ?_
  refine sx_iload_n C dX0_widthOf_2 2 2 rfl rfl 3 rfl ?_
  refine sx_iload_n C dX0_widthOf_3 1 1 rfl rfl 4 rfl ?_
  refine sx_isub C dX0_widthOf_4 5 rfl ?_
  refine sx_imul C dX0_widthOf_5 6 rfl ?_
  refine sx_aload_n C dX0_widthOf_6 0 0 rfl rfl 7 rfl ?_
  refine sx_getq C (T := TX0) (C0 := RX0) (N := 9) (j := 7) dX0_widthOf_7 fl_X0_28 inw_X0 rfl (by decide) rfl (by decide) lyX_8 rfl 10 rfl ?_
  refine sx_iload_n C dX0_widthOf_10 2 2 rfl rfl 11 rfl ?_
  refine sx_iald C dX0_widthOf_11 (by decide) lyX_17 h.1 12 rfl ?_
  replace h := h.2
  refine sx_iadd C dX0_widthOf_12 13 rfl ?_
  refine sx_aload_n C dX0_widthOf_13 0 0 rfl rfl 14 rfl ?_
  refine sx_getq C (T := TX0) (C0 := RX0) (N := 9) (j := 7) dX0_widthOf_14 fl_X0_28 inw_X0 rfl (by decide) rfl (by decide) lyX_8 rfl 17 rfl ?_
  refine sx_iload_n C dX0_widthOf_17 1 1 rfl rfl 18 rfl ?_
  refine sx_iald C dX0_widthOf_18 (by decide) lyX_17 h.1 19 rfl ?_
  replace h := h.2
  refine sx_isub C dX0_widthOf_19 20 rfl ?_
  exact sx_iret C dX0_widthOf_20 hr (Nat.le_of_ble_eq_true rfl) (Nat.le_of_ble_eq_true rfl) ⟨⟨_, rfl, h⟩, rfl⟩
set_option maxRecDepth 100000 in
set_option maxHeartbeats 4000000 in
theorem c_X0_leastOf {l : Launch} {D : va_G} {G : sx_G} {b : Nat} (hf : l.stackTraces = false) {f : sx_F} {x1 : Int32} {x2 : Int32} {Q : Int32 → Prop}  (h : P_X0_leastOf f x1 x2 Q) : sx_Met l D G b 129 lyX yX0_leastOf cX0_leastOf 3 (some .int) 1 13 0 0 [.ref (b + 8), .int x1, .int x2] f (sx_pi f Q) (fun _ _ => False) := by
  refine sx_enter (own := RX0) hf rfl rfl (Nat.le_of_ble_eq_true rfl) ?_
  intro p e s m args below meth c C hr ht
  have hB : ∀ k, k < 129 → sx_A b 129 s.heap.size (b + k) := fun k h => sx_A.in h
  unfold P_X0_leastOf at h
  refine sx_sub (lv' := [(0, .ref (b + 8)), (1, .int x1), (2, .int x2)]) [0, 1, 2] rfl ?_
  refine sx_bipush C dX0_leastOf_0 8 (by decide) 2 rfl ?_
  refine sx_iload_n C dX0_leastOf_2 2 2 rfl rfl 3 rfl ?_
  refine sx_iload_n C dX0_leastOf_3 1 1 rfl rfl 4 rfl ?_
  refine sx_isub C dX0_leastOf_4 5 rfl ?_
  refine sx_imul C dX0_leastOf_5 6 rfl ?_
  refine sx_aload_n C dX0_leastOf_6 0 0 rfl rfl 7 rfl ?_
  refine sx_getq C (T := TX0) (C0 := RX0) (N := 9) (j := 8) dX0_leastOf_7 fl_X0_31 inw_X0 rfl (by decide) rfl (by decide) lyX_8 rfl 10 rfl ?_
  refine sx_iload_n C dX0_leastOf_10 2 2 rfl rfl 11 rfl ?_
  refine sx_iald C dX0_leastOf_11 (by decide) lyX_18 h.1 12 rfl ?_
  replace h := h.2
  refine sx_iadd C dX0_leastOf_12 13 rfl ?_
  refine sx_aload_n C dX0_leastOf_13 0 0 rfl rfl 14 rfl ?_
  refine sx_getq C (T := TX0) (C0 := RX0) (N := 9) (j := 8) dX0_leastOf_14 fl_X0_31 inw_X0 rfl (by decide) rfl (by decide) lyX_8 rfl 17 rfl ?_
  refine sx_iload_n C dX0_leastOf_17 1 1 rfl rfl 18 rfl ?_
  refine sx_iald C dX0_leastOf_18 (by decide) lyX_18 h.1 19 rfl ?_
  replace h := h.2
  refine sx_isub C dX0_leastOf_19 20 rfl ?_
  exact sx_iret C dX0_leastOf_20 hr (Nat.le_of_ble_eq_true rfl) (Nat.le_of_ble_eq_true rfl) ⟨⟨_, rfl, h⟩, rfl⟩
set_option maxRecDepth 100000 in
set_option maxHeartbeats 4000000 in
theorem c_X1_isOut {l : Launch} {D : va_G} {G : sx_G} {b : Nat} (hf : l.stackTraces = false) {f : sx_F} {o0 : Nat} {Q : Int32 → Prop} (ho0 : isX1 o0) (h : P_X1_isOut f o0 Q) : sx_Met l D G b 129 lyX yX1_isOut cX1_isOut 1 (some .boolean) 1 13 0 0 [.ref (b + o0)] f (sx_pi f Q) (fun _ _ => False) := by
  refine sx_enter (own := RX1) hf rfl rfl (Nat.le_of_ble_eq_true rfl) ?_
  intro p e s m args below meth c C hr ht
  have hB : ∀ k, k < 129 → sx_A b 129 s.heap.size (b + k) := fun k h => sx_A.in h
  unfold P_X1_isOut at h
  refine sx_sub (lv' := [(0, .ref (b + o0))]) [0] rfl ?_
  refine sx_aload_n C dX1_isOut_0 0 0 rfl rfl 1 rfl ?_
  refine sx_geti C (T := TX1) (C0 := RX1) (N := 4) (j := 2) dX1_isOut_1 fl_X1_9 inw_X1 rfl (by decide) rfl (isX1_lt ho0) (isX1_ly ho0) rfl 4 rfl ?_
  refine sx_iconst C dX1_isOut_4 (-1) (by decide) 5 rfl ?_
  refine sx_icmp_eq C dX1_isOut_5 12 8 (by decide) rfl (fun c1 => ?_) (fun c1 => ?_)
  · replace h := h.1 c1
    refine sx_iconst C dX1_isOut_12 0 (by decide) 13 rfl ?_
    exact sx_zret C dX1_isOut_13 hr (Nat.le_of_ble_eq_true rfl) (Nat.le_of_ble_eq_true rfl) (Or.inl rfl) ⟨⟨_, rfl, h⟩, rfl⟩
  · replace h := h.2 c1
    refine sx_iconst C dX1_isOut_8 1 (by decide) 9 rfl ?_
    refine sx_goto C dX1_isOut_9 13 (by decide) ?_
    exact sx_zret C dX1_isOut_13 hr (Nat.le_of_ble_eq_true rfl) (Nat.le_of_ble_eq_true rfl) (Or.inr rfl) ⟨⟨_, rfl, h⟩, rfl⟩
set_option maxRecDepth 100000 in
set_option maxHeartbeats 4000000 in
theorem c_X1_scoreVersion {l : Launch} {D : va_G} {G : sx_G} {b : Nat} (hf : l.stackTraces = false) {f : sx_F} {o0 : Nat} {x1 : Int32} {Q : Int32 → Prop} (ho0 : isX1 o0) (h : P_X1_scoreVersion f o0 x1 Q) : sx_Met l D G b 129 lyX yX1_scoreVersion cX1_scoreVersion 2 (some .int) 2 34 0 0 [.ref (b + o0), .int x1] f (sx_pi f Q) (fun _ _ => False) := by
  refine sx_enter (own := RX1) hf rfl rfl (Nat.le_of_ble_eq_true rfl) ?_
  intro p e s m args below meth c C hr ht
  have hB : ∀ k, k < 129 → sx_A b 129 s.heap.size (b + k) := fun k h => sx_A.in h
  unfold P_X1_scoreVersion at h
  refine sx_sub (lv' := [(0, .ref (b + o0)), (1, .int x1)]) [0, 1] rfl ?_
  refine sx_aload_n C dX1_scoreVersion_0 0 0 rfl rfl 1 rfl ?_
  refine sx_getq C (T := TX1) (C0 := RX1) (N := 4) (j := 0) dX1_scoreVersion_1 fl_X1_19 inw_X1 rfl (by decide) rfl (isX1_lt ho0) (isX1_ly ho0) rfl 4 rfl ?_
  refine sx_getqN C (T := TX4) (C0 := RX4) (N := 7) (j := 3) dX1_scoreVersion_4 fln_X1_32 inw_X4 rfl (by decide) rfl (by decide) lyX_1 rfl 7 rfl ?_
  refine sx_aload_n C dX1_scoreVersion_7 0 0 rfl rfl 8 rfl ?_
  refine sx_geti C (T := TX1) (C0 := RX1) (N := 4) (j := 1) dX1_scoreVersion_8 fl_X1_35 inw_X1 rfl (by decide) rfl (isX1_lt ho0) (isX1_ly ho0) rfl 11 rfl ?_
  refine sx_iload_n C dX1_scoreVersion_11 1 1 rfl rfl 12 rfl ?_
  refine sx_callSN C hB (st := [.ref (b + 4)]) dX1_scoreVersion_12 (cn_X6_slotOf hf h) mi_X6_slotOf lkn_X1_38 mt_X6_slotOf rfl rfl ⟨⟨(Nat.le_of_ble_eq_true rfl), (Nat.le_of_ble_eq_true rfl)⟩, (Nat.le_of_ble_eq_true rfl), (Nat.le_of_ble_eq_true rfl)⟩ (Nat.le_of_ble_eq_true rfl) 15 rfl (fun v g2 h => ?_)
  obtain ⟨⟨r1, rfl, h⟩, rfl⟩ := h
  refine sx_iald C dX1_scoreVersion_15 (by decide) lyX_4 h.1 16 rfl ?_
  replace h := h.2
  exact sx_iret C dX1_scoreVersion_16 hr (Nat.le_of_ble_eq_true rfl) (Nat.le_of_ble_eq_true rfl) ⟨⟨_, rfl, h⟩, rfl⟩
set_option maxRecDepth 100000 in
set_option maxHeartbeats 4000000 in
theorem c_X1_takeVersions {l : Launch} {D : va_G} {G : sx_G} {b : Nat} (hf : l.stackTraces = false) {f : sx_F} {o0 : Nat} {Q : sx_F → Prop} (ho0 : isX1 o0) (h : P_X1_takeVersions f o0 Q) : sx_Met l D G b 129 lyX yX1_takeVersions cX1_takeVersions 2 (none) 3 55 0 0 [.ref (b + o0)] f (sx_qv Q) (fun _ _ => False) := by
  refine sx_enter (own := RX1) hf rfl rfl (Nat.le_of_ble_eq_true rfl) ?_
  intro p e s m args below meth c C hr ht
  have hB : ∀ k, k < 129 → sx_A b 129 s.heap.size (b + k) := fun k h => sx_A.in h
  unfold P_X1_takeVersions at h
  replace h := h (fun (f : sx_F) (v1 : Int32) => sx_J (sx_wp D G b lyX 129) p l e { frames := 3, cells := 0, slots := 0, locals := 55 } s m args below meth c (sx_A b 129 s.heap.size) 2 0 0 (sx_fin (sx_wp D G b lyX 129) (sx_A b 129 s.heap.size) below args s 0 0 (sx_qv Q) (fun _ _ => False)) f 2 [(0, .ref (b + o0)), (1, .int v1)] [])
  replace h := h (fun (f : sx_F) (v1 : Int32) (s1 : Int32) (s2 : Int32) => sx_J (sx_wp D G b lyX 129) p l e { frames := 3, cells := 0, slots := 0, locals := 55 } s m args below meth c (sx_A b 129 s.heap.size) 2 0 0 (sx_fin (sx_wp D G b lyX 129) (sx_A b 129 s.heap.size) below args s 0 0 (sx_qv Q) (fun _ _ => False)) f 33 [(0, .ref (b + o0)), (1, .int v1)] [.int s2, .int s1, .ref (b + (o0 + 1))])
  replace h := h (by
    intro f v1 h
    refine sx_iload_n C dX1_takeVersions_2 1 1 rfl rfl 3 rfl ?_
    refine sx_bipush C dX1_takeVersions_3 12 (by decide) 5 rfl ?_
    refine sx_icmp_ge C dX1_takeVersions_5 40 8 (by decide) rfl (fun c1 => ?_) (fun c1 => ?_)
    · replace h := h.1 c1
      exact sx_vret C dX1_takeVersions_40 hr (Nat.le_of_ble_eq_true rfl) (Nat.le_of_ble_eq_true rfl) ⟨rfl, h⟩
    · replace h := h.2 c1
      refine sx_aload_n C dX1_takeVersions_8 0 0 rfl rfl 9 rfl ?_
      refine sx_getq C (T := TX1) (C0 := RX1) (N := 4) (j := 3) dX1_takeVersions_9 fl_X1_15 inw_X1 rfl (by decide) rfl (isX1_lt ho0) (isX1_ly ho0) rfl 12 rfl ?_
      refine sx_iload_n C dX1_takeVersions_12 1 1 rfl rfl 13 rfl ?_
      refine sx_iload_n C dX1_takeVersions_13 1 1 rfl rfl 14 rfl ?_
      refine sx_aload_n C dX1_takeVersions_14 0 0 rfl rfl 15 rfl ?_
      refine sx_getq C (T := TX1) (C0 := RX1) (N := 4) (j := 0) dX1_takeVersions_15 fl_X1_19 inw_X1 rfl (by decide) rfl (isX1_lt ho0) (isX1_ly ho0) rfl 18 rfl ?_
      refine sx_getiN C (T := TX4) (C0 := RX4) (N := 7) (j := 0) dX1_takeVersions_18 fln_X1_23 inw_X4 rfl (by decide) rfl (by decide) lyX_1 rfl 21 rfl ?_
      refine sx_icmp_ge C dX1_takeVersions_21 32 24 (by decide) rfl (fun c2 => ?_) (fun c2 => ?_)
      · replace h := h.1 c2
        refine sx_iconst C dX1_takeVersions_32 (-1) (by decide) 33 rfl ?_
        exact sx_sub [0, 1] rfl h
      · replace h := h.2 c2
        refine sx_aload_n C dX1_takeVersions_24 0 0 rfl rfl 25 rfl ?_
        refine sx_iload_n C dX1_takeVersions_25 1 1 rfl rfl 26 rfl ?_
        refine sx_callV C ht hB (st := [.int v1, .ref (b + (o0 + 1))]) dX1_takeVersions_26 (c_X1_scoreVersion hf ho0 h) mi_X1_scoreVersion lk_X1_28 mn_X1_scoreVersion ms_X1_scoreVersion (isX1_lt ho0) (isX1_ly ho0) rfl rfl rfl rfl ⟨⟨(Nat.le_of_ble_eq_true rfl), (Nat.le_of_ble_eq_true rfl)⟩, (Nat.le_of_ble_eq_true rfl), (Nat.le_of_ble_eq_true rfl)⟩ (Nat.le_of_ble_eq_true rfl) ⟨(Nat.le_of_ble_eq_true rfl), (Nat.le_of_ble_eq_true rfl)⟩ (fun _ _ hx => hx.elim) 29 rfl (fun v g4 h => ?_)
        obtain ⟨⟨r3, rfl, h⟩, rfl⟩ := h
        refine sx_goto C dX1_takeVersions_29 33 (by decide) ?_
        exact sx_sub [0, 1] rfl h)
  replace h := h (by
    intro f v1 s1 s2 h
    refine sx_iast C dX1_takeVersions_33 hB (isX1_lt1 ho0) (isX1_ly1 ho0) h.1 34 rfl (fun g5 eg5 => ?_)
    replace h := h.2 g5 eg5
    obtain ⟨y6, ey6⟩ : ∃ w : Int32, w = v1 + 1 := ⟨_, rfl⟩
    replace h := h y6 ey6
    refine sx_iinc C dX1_takeVersions_34 1 rfl y6 (by rw [ey6]; rfl) [(1, .int y6), (0, .ref (b + o0))] (by decide) rfl 37 rfl ?_
    refine sx_goto C dX1_takeVersions_37 2 (by decide) ?_
    exact sx_sub [1, 0] rfl h)
  refine sx_sub (lv' := [(0, .ref (b + o0))]) [0] rfl ?_
  refine sx_iconst C dX1_takeVersions_0 0 (by decide) 1 rfl ?_
  refine sx_istore_n C dX1_takeVersions_1 1 rfl [(1, .int 0), (0, .ref (b + o0))] (by decide) rfl 2 rfl ?_
  exact sx_sub [1, 0] rfl h
set_option maxRecDepth 100000 in
set_option maxHeartbeats 4000000 in
theorem c_X1_versionOf {l : Launch} {D : va_G} {G : sx_G} {b : Nat} (hf : l.stackTraces = false) {f : sx_F} {o0 : Nat} {x1 : Int32} {Q : Int32 → Prop} (ho0 : isX1 o0) (h : P_X1_versionOf f o0 x1 Q) : sx_Met l D G b 129 lyX yX1_versionOf cX1_versionOf 2 (some .int) 3 55 0 0 [.ref (b + o0), .int x1] f (sx_pi f Q) (fun _ _ => False) := by
  refine sx_enter (own := RX1) hf rfl rfl (Nat.le_of_ble_eq_true rfl) ?_
  intro p e s m args below meth c C hr ht
  have hB : ∀ k, k < 129 → sx_A b 129 s.heap.size (b + k) := fun k h => sx_A.in h
  unfold P_X1_versionOf at h
  refine sx_sub (lv' := [(0, .ref (b + o0)), (1, .int x1)]) [0, 1] rfl ?_
  refine sx_aload_n C dX1_versionOf_0 0 0 rfl rfl 1 rfl ?_
  refine sx_callV C ht hB (st := []) dX1_versionOf_1 (c_X1_isOut hf ho0 h) mi_X1_isOut lk_X1_42 mn_X1_isOut ms_X1_isOut (isX1_lt ho0) (isX1_ly ho0) rfl rfl rfl rfl ⟨⟨(Nat.le_of_ble_eq_true rfl), (Nat.le_of_ble_eq_true rfl)⟩, (Nat.le_of_ble_eq_true rfl), (Nat.le_of_ble_eq_true rfl)⟩ (Nat.le_of_ble_eq_true rfl) ⟨(Nat.le_of_ble_eq_true rfl), (Nat.le_of_ble_eq_true rfl)⟩ (fun _ _ hx => hx.elim) 4 rfl (fun v g2 h => ?_)
  obtain ⟨⟨r1, rfl, h⟩, rfl⟩ := h
  refine sx_if_eq C dX1_versionOf_4 16 7 (by decide) rfl (fun c3 => ?_) (fun c3 => ?_)
  · replace h := h.1 c3
    refine sx_aload_n C dX1_versionOf_16 0 0 rfl rfl 17 rfl ?_
    refine sx_iload_n C dX1_versionOf_17 1 1 rfl rfl 18 rfl ?_
    refine sx_callV C ht hB (st := []) dX1_versionOf_18 (c_X1_scoreVersion hf ho0 h) mi_X1_scoreVersion lk_X1_28 mn_X1_scoreVersion ms_X1_scoreVersion (isX1_lt ho0) (isX1_ly ho0) rfl rfl rfl rfl ⟨⟨(Nat.le_of_ble_eq_true rfl), (Nat.le_of_ble_eq_true rfl)⟩, (Nat.le_of_ble_eq_true rfl), (Nat.le_of_ble_eq_true rfl)⟩ (Nat.le_of_ble_eq_true rfl) ⟨(Nat.le_of_ble_eq_true rfl), (Nat.le_of_ble_eq_true rfl)⟩ (fun _ _ hx => hx.elim) 21 rfl (fun v g5 h => ?_)
    obtain ⟨⟨r4, rfl, h⟩, rfl⟩ := h
    exact sx_iret C dX1_versionOf_21 hr (Nat.le_of_ble_eq_true rfl) (Nat.le_of_ble_eq_true rfl) ⟨⟨_, rfl, h⟩, rfl⟩
  · replace h := h.2 c3
    refine sx_aload_n C dX1_versionOf_7 0 0 rfl rfl 8 rfl ?_
    refine sx_getq C (T := TX1) (C0 := RX1) (N := 4) (j := 3) dX1_versionOf_8 fl_X1_15 inw_X1 rfl (by decide) rfl (isX1_lt ho0) (isX1_ly ho0) rfl 11 rfl ?_
    refine sx_iload_n C dX1_versionOf_11 1 1 rfl rfl 12 rfl ?_
    refine sx_iald C dX1_versionOf_12 (isX1_lt1 ho0) (isX1_ly1 ho0) h.1 13 rfl ?_
    replace h := h.2
    refine sx_goto C dX1_versionOf_13 21 (by decide) ?_
    exact sx_iret C dX1_versionOf_21 hr (Nat.le_of_ble_eq_true rfl) (Nat.le_of_ble_eq_true rfl) ⟨⟨_, rfl, h⟩, rfl⟩
set_option maxRecDepth 100000 in
set_option maxHeartbeats 4000000 in
theorem c_X1_lacks {l : Launch} {D : va_G} {G : sx_G} {b : Nat} (hf : l.stackTraces = false) {f : sx_F} {o0 : Nat} {x1 : Int32} {Q : Int32 → Prop} (ho0 : isX1 o0) (h : P_X1_lacks f o0 x1 Q) : sx_Met l D G b 129 lyX yX1_lacks cX1_lacks 2 (some .boolean) 4 76 0 0 [.ref (b + o0), .int x1] f (sx_pi f Q) (fun _ _ => False) := by
  refine sx_enter (own := RX1) hf rfl rfl (Nat.le_of_ble_eq_true rfl) ?_
  intro p e s m args below meth c C hr ht
  have hB : ∀ k, k < 129 → sx_A b 129 s.heap.size (b + k) := fun k h => sx_A.in h
  unfold P_X1_lacks at h
  refine sx_sub (lv' := [(0, .ref (b + o0)), (1, .int x1)]) [0, 1] rfl ?_
  refine sx_aload_n C dX1_lacks_0 0 0 rfl rfl 1 rfl ?_
  refine sx_iload_n C dX1_lacks_1 1 1 rfl rfl 2 rfl ?_
  refine sx_callV C ht hB (st := []) dX1_lacks_2 (c_X1_versionOf hf ho0 h) mi_X1_versionOf lk_X1_46 mn_X1_versionOf ms_X1_versionOf (isX1_lt ho0) (isX1_ly ho0) rfl rfl rfl rfl ⟨⟨(Nat.le_of_ble_eq_true rfl), (Nat.le_of_ble_eq_true rfl)⟩, (Nat.le_of_ble_eq_true rfl), (Nat.le_of_ble_eq_true rfl)⟩ (Nat.le_of_ble_eq_true rfl) ⟨(Nat.le_of_ble_eq_true rfl), (Nat.le_of_ble_eq_true rfl)⟩ (fun _ _ hx => hx.elim) 5 rfl (fun v g2 h => ?_)
  obtain ⟨⟨r1, rfl, h⟩, rfl⟩ := h
  refine sx_iconst C dX1_lacks_5 (-1) (by decide) 6 rfl ?_
  refine sx_icmp_ne C dX1_lacks_6 13 9 (by decide) rfl (fun c3 => ?_) (fun c3 => ?_)
  · replace h := h.2 c3
    refine sx_iconst C dX1_lacks_13 0 (by decide) 14 rfl ?_
    exact sx_zret C dX1_lacks_14 hr (Nat.le_of_ble_eq_true rfl) (Nat.le_of_ble_eq_true rfl) (Or.inl rfl) ⟨⟨_, rfl, h⟩, rfl⟩
  · replace h := h.1 c3
    refine sx_iconst C dX1_lacks_9 1 (by decide) 10 rfl ?_
    refine sx_goto C dX1_lacks_10 14 (by decide) ?_
    exact sx_zret C dX1_lacks_14 hr (Nat.le_of_ble_eq_true rfl) (Nat.le_of_ble_eq_true rfl) (Or.inr rfl) ⟨⟨_, rfl, h⟩, rfl⟩
set_option maxRecDepth 100000 in
set_option maxHeartbeats 4000000 in
theorem c_X1_owes {l : Launch} {D : va_G} {G : sx_G} {b : Nat} (hf : l.stackTraces = false) {f : sx_F} {o0 : Nat} {x1 : Int32} {Q : Int32 → Prop} (ho0 : isX1 o0) (h : P_X1_owes f o0 x1 Q) : sx_Met l D G b 129 lyX yX1_owes cX1_owes 2 (some .boolean) 4 76 0 0 [.ref (b + o0), .int x1] f (sx_pi f Q) (fun _ _ => False) := by
  refine sx_enter (own := RX1) hf rfl rfl (Nat.le_of_ble_eq_true rfl) ?_
  intro p e s m args below meth c C hr ht
  have hB : ∀ k, k < 129 → sx_A b 129 s.heap.size (b + k) := fun k h => sx_A.in h
  unfold P_X1_owes at h
  refine sx_sub (lv' := [(0, .ref (b + o0)), (1, .int x1)]) [0, 1] rfl ?_
  refine sx_aload_n C dX1_owes_0 0 0 rfl rfl 1 rfl ?_
  refine sx_iload_n C dX1_owes_1 1 1 rfl rfl 2 rfl ?_
  refine sx_callV C ht hB (st := []) dX1_owes_2 (c_X1_versionOf hf ho0 h) mi_X1_versionOf lk_X1_46 mn_X1_versionOf ms_X1_versionOf (isX1_lt ho0) (isX1_ly ho0) rfl rfl rfl rfl ⟨⟨(Nat.le_of_ble_eq_true rfl), (Nat.le_of_ble_eq_true rfl)⟩, (Nat.le_of_ble_eq_true rfl), (Nat.le_of_ble_eq_true rfl)⟩ (Nat.le_of_ble_eq_true rfl) ⟨(Nat.le_of_ble_eq_true rfl), (Nat.le_of_ble_eq_true rfl)⟩ (fun _ _ hx => hx.elim) 5 rfl (fun v g2 h => ?_)
  obtain ⟨⟨r1, rfl, h⟩, rfl⟩ := h
  refine sx_aload_n C dX1_owes_5 0 0 rfl rfl 6 rfl ?_
  refine sx_iload_n C dX1_owes_6 1 1 rfl rfl 7 rfl ?_
  refine sx_callV C ht hB (st := [.int r1]) dX1_owes_7 (c_X1_scoreVersion hf ho0 h) mi_X1_scoreVersion lk_X1_28 mn_X1_scoreVersion ms_X1_scoreVersion (isX1_lt ho0) (isX1_ly ho0) rfl rfl rfl rfl ⟨⟨(Nat.le_of_ble_eq_true rfl), (Nat.le_of_ble_eq_true rfl)⟩, (Nat.le_of_ble_eq_true rfl), (Nat.le_of_ble_eq_true rfl)⟩ (Nat.le_of_ble_eq_true rfl) ⟨(Nat.le_of_ble_eq_true rfl), (Nat.le_of_ble_eq_true rfl)⟩ (fun _ _ hx => hx.elim) 10 rfl (fun v g4 h => ?_)
  obtain ⟨⟨r3, rfl, h⟩, rfl⟩ := h
  refine sx_icmp_eq C dX1_owes_10 17 13 (by decide) rfl (fun c5 => ?_) (fun c5 => ?_)
  · replace h := h.1 c5
    refine sx_iconst C dX1_owes_17 0 (by decide) 18 rfl ?_
    exact sx_zret C dX1_owes_18 hr (Nat.le_of_ble_eq_true rfl) (Nat.le_of_ble_eq_true rfl) (Or.inl rfl) ⟨⟨_, rfl, h⟩, rfl⟩
  · replace h := h.2 c5
    refine sx_iconst C dX1_owes_13 1 (by decide) 14 rfl ?_
    refine sx_goto C dX1_owes_14 18 (by decide) ?_
    exact sx_zret C dX1_owes_18 hr (Nat.le_of_ble_eq_true rfl) (Nat.le_of_ble_eq_true rfl) (Or.inr rfl) ⟨⟨_, rfl, h⟩, rfl⟩
set_option maxRecDepth 100000 in
set_option maxHeartbeats 4000000 in
theorem c_X1_countDebts {l : Launch} {D : va_G} {G : sx_G} {b : Nat} (hf : l.stackTraces = false) {f : sx_F} {o0 : Nat} {Q : Int32 → Prop} (ho0 : isX1 o0) (h : P_X1_countDebts f o0 Q) : sx_Met l D G b 129 lyX yX1_countDebts cX1_countDebts 3 (some .int) 5 97 0 0 [.ref (b + o0)] f (sx_pi f Q) (fun _ _ => False) := by
  refine sx_enter (own := RX1) hf rfl rfl (Nat.le_of_ble_eq_true rfl) ?_
  intro p e s m args below meth c C hr ht
  have hB : ∀ k, k < 129 → sx_A b 129 s.heap.size (b + k) := fun k h => sx_A.in h
  unfold P_X1_countDebts at h
  replace h := h (fun (v1 : Int32) (v2 : Int32) => sx_J (sx_wp D G b lyX 129) p l e { frames := 5, cells := 0, slots := 0, locals := 97 } s m args below meth c (sx_A b 129 s.heap.size) 3 0 0 (sx_fin (sx_wp D G b lyX 129) (sx_A b 129 s.heap.size) below args s 0 0 (sx_pi f Q) (fun _ _ => False)) f 4 [(0, .ref (b + o0)), (1, .int v1), (2, .int v2)] [])
  replace h := h (fun (v1 : Int32) (v2 : Int32) => sx_J (sx_wp D G b lyX 129) p l e { frames := 5, cells := 0, slots := 0, locals := 97 } s m args below meth c (sx_A b 129 s.heap.size) 3 0 0 (sx_fin (sx_wp D G b lyX 129) (sx_A b 129 s.heap.size) below args s 0 0 (sx_pi f Q) (fun _ _ => False)) f 26 [(0, .ref (b + o0)), (1, .int v1), (2, .int v2)] [])
  replace h := h (by
    intro v1 v2 h
    refine sx_iload_n C dX1_countDebts_4 2 2 rfl rfl 5 rfl ?_
    refine sx_aload_n C dX1_countDebts_5 0 0 rfl rfl 6 rfl ?_
    refine sx_getq C (T := TX1) (C0 := RX1) (N := 4) (j := 0) dX1_countDebts_6 fl_X1_19 inw_X1 rfl (by decide) rfl (isX1_lt ho0) (isX1_ly ho0) rfl 9 rfl ?_
    refine sx_getiN C (T := TX4) (C0 := RX4) (N := 7) (j := 0) dX1_countDebts_9 fln_X1_23 inw_X4 rfl (by decide) rfl (by decide) lyX_1 rfl 12 rfl ?_
    refine sx_icmp_ge C dX1_countDebts_12 32 15 (by decide) rfl (fun c1 => ?_) (fun c1 => ?_)
    · replace h := h.1 c1
      refine sx_iload_n C dX1_countDebts_32 1 1 rfl rfl 33 rfl ?_
      exact sx_iret C dX1_countDebts_33 hr (Nat.le_of_ble_eq_true rfl) (Nat.le_of_ble_eq_true rfl) ⟨⟨_, rfl, h⟩, rfl⟩
    · replace h := h.2 c1
      refine sx_aload_n C dX1_countDebts_15 0 0 rfl rfl 16 rfl ?_
      refine sx_iload_n C dX1_countDebts_16 2 2 rfl rfl 17 rfl ?_
      refine sx_callV C ht hB (st := []) dX1_countDebts_17 (c_X1_owes hf ho0 h) mi_X1_owes lk_X1_49 mn_X1_owes ms_X1_owes (isX1_lt ho0) (isX1_ly ho0) rfl rfl rfl rfl ⟨⟨(Nat.le_of_ble_eq_true rfl), (Nat.le_of_ble_eq_true rfl)⟩, (Nat.le_of_ble_eq_true rfl), (Nat.le_of_ble_eq_true rfl)⟩ (Nat.le_of_ble_eq_true rfl) ⟨(Nat.le_of_ble_eq_true rfl), (Nat.le_of_ble_eq_true rfl)⟩ (fun _ _ hx => hx.elim) 20 rfl (fun v g3 h => ?_)
      obtain ⟨⟨r2, rfl, h⟩, rfl⟩ := h
      refine sx_if_eq C dX1_countDebts_20 26 23 (by decide) rfl (fun c4 => ?_) (fun c4 => ?_)
      · replace h := h.1 c4
        exact sx_sub [0, 1, 2] rfl h
      · replace h := h.2 c4
        obtain ⟨y5, ey5⟩ : ∃ w : Int32, w = v1 + 1 := ⟨_, rfl⟩
        replace h := h y5 ey5
        refine sx_iinc C dX1_countDebts_23 1 rfl y5 (by rw [ey5]; rfl) [(1, .int y5), (0, .ref (b + o0)), (2, .int v2)] (by decide) rfl 26 rfl ?_
        exact sx_sub [1, 0, 2] rfl h)
  replace h := h (by
    intro v1 v2 h
    obtain ⟨y6, ey6⟩ : ∃ w : Int32, w = v2 + 1 := ⟨_, rfl⟩
    replace h := h y6 ey6
    refine sx_iinc C dX1_countDebts_26 2 rfl y6 (by rw [ey6]; rfl) [(2, .int y6), (0, .ref (b + o0)), (1, .int v1)] (by decide) rfl 29 rfl ?_
    refine sx_goto C dX1_countDebts_29 4 (by decide) ?_
    exact sx_sub [1, 2, 0] rfl h)
  refine sx_sub (lv' := [(0, .ref (b + o0))]) [0] rfl ?_
  refine sx_iconst C dX1_countDebts_0 0 (by decide) 1 rfl ?_
  refine sx_istore_n C dX1_countDebts_1 1 rfl [(1, .int 0), (0, .ref (b + o0))] (by decide) rfl 2 rfl ?_
  refine sx_iconst C dX1_countDebts_2 0 (by decide) 3 rfl ?_
  refine sx_istore_n C dX1_countDebts_3 2 rfl [(2, .int 0), (1, .int 0), (0, .ref (b + o0))] (by decide) rfl 4 rfl ?_
  exact sx_sub [2, 1, 0] rfl h
set_option maxRecDepth 100000 in
set_option maxHeartbeats 4000000 in
theorem c_X2_changeMark {l : Launch} {D : va_G} {G : sx_G} {b : Nat} (hf : l.stackTraces = false) {f : sx_F} {o0 : Nat} {x1 : Int32} {x2 : Int32} {x3 : Int32} {Q : Int32 → sx_F → Prop} (ho0 : isX2 o0) (h : P_X2_changeMark f o0 x1 x2 x3 Q) : sx_Met l D G b 129 lyX yX2_changeMark cX2_changeMark 5 (some .int) 1 13 0 0 [.ref (b + o0), .int x1, .int x2, .int x3] f (sx_qi Q) (fun _ _ => False) := by
  refine sx_enter (own := RX2) hf rfl rfl (Nat.le_of_ble_eq_true rfl) ?_
  intro p e s m args below meth c C hr ht
  have hB : ∀ k, k < 129 → sx_A b 129 s.heap.size (b + k) := fun k h => sx_A.in h
  unfold P_X2_changeMark at h
  refine sx_sub (lv' := [(0, .ref (b + o0)), (1, .int x1), (2, .int x2), (3, .int x3)]) [0, 1, 2, 3] rfl ?_
  refine sx_aload_n C dX2_changeMark_0 0 0 rfl rfl 1 rfl ?_
  refine sx_getq C (T := TX2) (C0 := RX2) (N := 4) (j := 0) dX2_changeMark_1 fl_X2_9 inw_X2 rfl (by decide) rfl (isX2_lt ho0) (isX2_ly ho0) rfl 4 rfl ?_
  refine sx_iload_n C dX2_changeMark_4 1 1 rfl rfl 5 rfl ?_
  refine sx_iald C dX2_changeMark_5 (isX2_lt1 ho0) (isX2_ly1 ho0) h.1 6 rfl ?_
  replace h := h.2
  refine sx_topi (fun y1 ey1 => ?_)
  replace h := h y1 ey1
  refine sx_istore C dX2_changeMark_6 [(4, .int y1), (0, .ref (b + o0)), (1, .int x1), (2, .int x2), (3, .int x3)] (by decide) rfl 8 rfl ?_
  refine sx_aload_n C dX2_changeMark_8 0 1 rfl rfl 9 rfl ?_
  refine sx_getq C (T := TX2) (C0 := RX2) (N := 4) (j := 0) dX2_changeMark_9 fl_X2_9 inw_X2 rfl (by decide) rfl (isX2_lt ho0) (isX2_ly ho0) rfl 12 rfl ?_
  refine sx_iload_n C dX2_changeMark_12 1 2 rfl rfl 13 rfl ?_
  refine sx_iload_n C dX2_changeMark_13 2 3 rfl rfl 14 rfl ?_
  refine sx_iast C dX2_changeMark_14 hB (isX2_lt1 ho0) (isX2_ly1 ho0) h.1 15 rfl (fun g2 eg2 => ?_)
  replace h := h.2 g2 eg2
  refine sx_aload_n C dX2_changeMark_15 0 1 rfl rfl 16 rfl ?_
  refine sx_getq C (T := TX2) (C0 := RX2) (N := 4) (j := 1) dX2_changeMark_16 fl_X2_15 inw_X2 rfl (by decide) rfl (isX2_lt ho0) (isX2_ly ho0) rfl 19 rfl ?_
  refine sx_iload_n C dX2_changeMark_19 1 2 rfl rfl 20 rfl ?_
  refine sx_iload_n C dX2_changeMark_20 3 4 rfl rfl 21 rfl ?_
  refine sx_iast C dX2_changeMark_21 hB (isX2_lt2 ho0) (isX2_ly2 ho0) h.1 22 rfl (fun g3 eg3 => ?_)
  replace h := h.2 g3 eg3
  refine sx_iload C dX2_changeMark_22 0 rfl 24 rfl ?_
  exact sx_iret C dX2_changeMark_24 hr (Nat.le_of_ble_eq_true rfl) (Nat.le_of_ble_eq_true rfl) ⟨_, rfl, h⟩
set_option maxRecDepth 100000 in
set_option maxHeartbeats 4000000 in
theorem c_X2_countOldMarks {l : Launch} {D : va_G} {G : sx_G} {b : Nat} (hf : l.stackTraces = false) {f : sx_F} {o0 : Nat} {Q : Int32 → Prop} (ho0 : isX2 o0) (h : P_X2_countOldMarks f o0 Q) : sx_Met l D G b 129 lyX yX2_countOldMarks cX2_countOldMarks 4 (some .int) 1 13 0 0 [.ref (b + o0), .ref (b + 1)] f (sx_pi f Q) (fun _ _ => False) := by
  refine sx_enter (own := RX2) hf rfl rfl (Nat.le_of_ble_eq_true rfl) ?_
  intro p e s m args below meth c C hr ht
  have hB : ∀ k, k < 129 → sx_A b 129 s.heap.size (b + k) := fun k h => sx_A.in h
  unfold P_X2_countOldMarks at h
  replace h := h (fun (v2 : Int32) (v3 : Int32) => sx_J (sx_wp D G b lyX 129) p l e { frames := 1, cells := 0, slots := 0, locals := 13 } s m args below meth c (sx_A b 129 s.heap.size) 4 0 0 (sx_fin (sx_wp D G b lyX 129) (sx_A b 129 s.heap.size) below args s 0 0 (sx_pi f Q) (fun _ _ => False)) f 4 [(0, .ref (b + o0)), (1, .ref (b + 1)), (2, .int v2), (3, .int v3)] [])
  replace h := h (fun (v2 : Int32) (v3 : Int32) => sx_J (sx_wp D G b lyX 129) p l e { frames := 1, cells := 0, slots := 0, locals := 13 } s m args below meth c (sx_A b 129 s.heap.size) 4 0 0 (sx_fin (sx_wp D G b lyX 129) (sx_A b 129 s.heap.size) below args s 0 0 (sx_pi f Q) (fun _ _ => False)) f 37 [(0, .ref (b + o0)), (1, .ref (b + 1)), (2, .int v2), (3, .int v3)] [])
  replace h := h (by
    intro v2 v3 h
    refine sx_iload_n C dX2_countOldMarks_4 3 3 rfl rfl 5 rfl ?_
    refine sx_bipush C dX2_countOldMarks_5 60 (by decide) 7 rfl ?_
    refine sx_icmp_ge C dX2_countOldMarks_7 43 10 (by decide) rfl (fun c1 => ?_) (fun c1 => ?_)
    · replace h := h.1 c1
      refine sx_iload_n C dX2_countOldMarks_43 2 2 rfl rfl 44 rfl ?_
      exact sx_iret C dX2_countOldMarks_44 hr (Nat.le_of_ble_eq_true rfl) (Nat.le_of_ble_eq_true rfl) ⟨⟨_, rfl, h⟩, rfl⟩
    · replace h := h.2 c1
      refine sx_aload_n C dX2_countOldMarks_10 0 0 rfl rfl 11 rfl ?_
      refine sx_getq C (T := TX2) (C0 := RX2) (N := 4) (j := 0) dX2_countOldMarks_11 fl_X2_9 inw_X2 rfl (by decide) rfl (isX2_lt ho0) (isX2_ly ho0) rfl 14 rfl ?_
      refine sx_iload_n C dX2_countOldMarks_14 3 3 rfl rfl 15 rfl ?_
      refine sx_iald C dX2_countOldMarks_15 (isX2_lt1 ho0) (isX2_ly1 ho0) h.1 16 rfl ?_
      replace h := h.2
      refine sx_if_eq C dX2_countOldMarks_16 37 19 (by decide) rfl (fun c2 => ?_) (fun c2 => ?_)
      · replace h := h.1 c2
        exact sx_sub [0, 1, 2, 3] rfl h
      · replace h := h.2 c2
        refine sx_aload_n C dX2_countOldMarks_19 0 0 rfl rfl 20 rfl ?_
        refine sx_getq C (T := TX2) (C0 := RX2) (N := 4) (j := 1) dX2_countOldMarks_20 fl_X2_15 inw_X2 rfl (by decide) rfl (isX2_lt ho0) (isX2_ly ho0) rfl 23 rfl ?_
        refine sx_iload_n C dX2_countOldMarks_23 3 3 rfl rfl 24 rfl ?_
        refine sx_iald C dX2_countOldMarks_24 (isX2_lt2 ho0) (isX2_ly2 ho0) h.1 25 rfl ?_
        replace h := h.2
        refine sx_aload_n C dX2_countOldMarks_25 1 1 rfl rfl 26 rfl ?_
        refine sx_getqN C (T := TX4) (C0 := RX4) (N := 7) (j := 3) dX2_countOldMarks_26 fln_X2_24 inw_X4 rfl (by decide) rfl (by decide) lyX_1 rfl 29 rfl ?_
        refine sx_iload_n C dX2_countOldMarks_29 3 3 rfl rfl 30 rfl ?_
        refine sx_iald C dX2_countOldMarks_30 (by decide) lyX_4 h.1 31 rfl ?_
        replace h := h.2
        refine sx_icmp_eq C dX2_countOldMarks_31 37 34 (by decide) rfl (fun c3 => ?_) (fun c3 => ?_)
        · replace h := h.1 c3
          exact sx_sub [0, 1, 2, 3] rfl h
        · replace h := h.2 c3
          obtain ⟨y4, ey4⟩ : ∃ w : Int32, w = v2 + 1 := ⟨_, rfl⟩
          replace h := h y4 ey4
          refine sx_iinc C dX2_countOldMarks_34 2 rfl y4 (by rw [ey4]; rfl) [(2, .int y4), (0, .ref (b + o0)), (1, .ref (b + 1)), (3, .int v3)] (by decide) rfl 37 rfl ?_
          exact sx_sub [1, 2, 0, 3] rfl h)
  replace h := h (by
    intro v2 v3 h
    obtain ⟨y5, ey5⟩ : ∃ w : Int32, w = v3 + 1 := ⟨_, rfl⟩
    replace h := h y5 ey5
    refine sx_iinc C dX2_countOldMarks_37 3 rfl y5 (by rw [ey5]; rfl) [(3, .int y5), (0, .ref (b + o0)), (1, .ref (b + 1)), (2, .int v2)] (by decide) rfl 40 rfl ?_
    refine sx_goto C dX2_countOldMarks_40 4 (by decide) ?_
    exact sx_sub [1, 2, 3, 0] rfl h)
  refine sx_sub (lv' := [(0, .ref (b + o0)), (1, .ref (b + 1))]) [0, 1] rfl ?_
  refine sx_iconst C dX2_countOldMarks_0 0 (by decide) 1 rfl ?_
  refine sx_istore_n C dX2_countOldMarks_1 2 rfl [(2, .int 0), (0, .ref (b + o0)), (1, .ref (b + 1))] (by decide) rfl 2 rfl ?_
  refine sx_iconst C dX2_countOldMarks_2 0 (by decide) 3 rfl ?_
  refine sx_istore_n C dX2_countOldMarks_3 3 rfl [(3, .int 0), (2, .int 0), (0, .ref (b + o0)), (1, .ref (b + 1))] (by decide) rfl 4 rfl ?_
  exact sx_sub [2, 3, 1, 0] rfl h
set_option maxRecDepth 100000 in
set_option maxHeartbeats 4000000 in
theorem c_X2_bowingAt {l : Launch} {D : va_G} {G : sx_G} {b : Nat} (hf : l.stackTraces = false) {f : sx_F} {o0 : Nat} {x1 : Int32} {x2 : Int32} {x3 : Int32} {Q : Int32 → Prop} (ho0 : isX2 o0) (h : P_X2_bowingAt f o0 x1 x2 x3 Q) : sx_Met l D G b 129 lyX yX2_bowingAt cX2_bowingAt 4 (some .int) 1 13 0 0 [.ref (b + o0), .int x1, .int x2, .int x3] f (sx_pi f Q) (fun _ _ => False) := by
  refine sx_enter (own := RX2) hf rfl rfl (Nat.le_of_ble_eq_true rfl) ?_
  intro p e s m args below meth c C hr ht
  have hB : ∀ k, k < 129 → sx_A b 129 s.heap.size (b + k) := fun k h => sx_A.in h
  unfold P_X2_bowingAt at h
  refine sx_sub (lv' := [(0, .ref (b + o0)), (1, .int x1), (2, .int x2), (3, .int x3)]) [0, 1, 2, 3] rfl ?_
  refine sx_aload_n C dX2_bowingAt_0 0 0 rfl rfl 1 rfl ?_
  refine sx_getq C (T := TX2) (C0 := RX2) (N := 4) (j := 3) dX2_bowingAt_1 fl_X2_21 inw_X2 rfl (by decide) rfl (isX2_lt ho0) (isX2_ly ho0) rfl 4 rfl ?_
  refine sx_iload_n C dX2_bowingAt_4 1 1 rfl rfl 5 rfl ?_
  refine sx_iald C dX2_bowingAt_5 (isX2_lt4 ho0) (isX2_ly4 ho0) h.1 6 rfl ?_
  replace h := h.2
  refine sx_iload_n C dX2_bowingAt_6 3 3 rfl rfl 7 rfl ?_
  refine sx_icmp_ne C dX2_bowingAt_7 25 10 (by decide) rfl (fun c1 => ?_) (fun c1 => ?_)
  · replace h := h.2 c1
    refine sx_iconst C dX2_bowingAt_25 0 (by decide) 26 rfl ?_
    exact sx_iret C dX2_bowingAt_26 hr (Nat.le_of_ble_eq_true rfl) (Nat.le_of_ble_eq_true rfl) ⟨⟨_, rfl, h⟩, rfl⟩
  · replace h := h.1 c1
    refine sx_aload_n C dX2_bowingAt_10 0 0 rfl rfl 11 rfl ?_
    refine sx_getq C (T := TX2) (C0 := RX2) (N := 4) (j := 2) dX2_bowingAt_11 fl_X2_18 inw_X2 rfl (by decide) rfl (isX2_lt ho0) (isX2_ly ho0) rfl 14 rfl ?_
    refine sx_iload_n C dX2_bowingAt_14 1 1 rfl rfl 15 rfl ?_
    refine sx_iald C dX2_bowingAt_15 (isX2_lt3 ho0) (isX2_ly3 ho0) h.1 16 rfl ?_
    replace h := h.2
    refine sx_iconst C dX2_bowingAt_16 2 (by decide) 17 rfl ?_
    refine sx_iload_n C dX2_bowingAt_17 2 2 rfl rfl 18 rfl ?_
    refine sx_imul C dX2_bowingAt_18 19 rfl ?_
    refine sx_ishr C dX2_bowingAt_19 20 rfl ?_
    refine sx_iconst C dX2_bowingAt_20 3 (by decide) 21 rfl ?_
    refine sx_iand C dX2_bowingAt_21 22 rfl ?_
    refine sx_goto C dX2_bowingAt_22 26 (by decide) ?_
    exact sx_iret C dX2_bowingAt_26 hr (Nat.le_of_ble_eq_true rfl) (Nat.le_of_ble_eq_true rfl) ⟨⟨_, rfl, h⟩, rfl⟩
