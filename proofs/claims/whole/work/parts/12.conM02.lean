set_option maxRecDepth 100000 in
set_option maxHeartbeats 4000000 in
theorem c_X7_bow {l : Launch} {D : va_G} {G : sx_G} {b : Nat} (hf : l.stackTraces = false) {f : sx_F} {x1 : Int32} {x2 : Int32} {x3 : Int32} {x4 : Int32} {Q : Int32 → sx_F → Prop}  (h : P_X7_bow f x1 x2 x3 x4 Q) : sx_Met l D G b 26 lyM yX7_bow cX7_bow 9 (some .int) 4 79 0 0 [.ref (b + 0), .int x1, .int x2, .int x3, .int x4] f (sx_qi Q) (fun _ _ => False) := by
  refine sx_enter (own := RX7) hf rfl rfl (Nat.le_of_ble_eq_true rfl) ?_
  intro p e s m args below meth c C hr ht
  have hB : ∀ k, k < 26 → sx_A b 26 s.heap.size (b + k) := fun k h => sx_A.in h
  unfold P_X7_bow at h
  replace h := h (fun (f : sx_F) => sx_J (sx_wp D G b lyM 26) p l e { frames := 4, cells := 0, slots := 0, locals := 79 } s m args below meth c (sx_A b 26 s.heap.size) 9 0 0 (sx_fin (sx_wp D G b lyM 26) (sx_A b 26 s.heap.size) below args s 0 0 (sx_qi Q) (fun _ _ => False)) f 31 [(0, .ref (b + 0)), (1, .int x1), (2, .int x2), (3, .int x3), (4, .int x4)] [])
  replace h := h (fun (f : sx_F) (s0 : Int32) => sx_J (sx_wp D G b lyM 26) p l e { frames := 4, cells := 0, slots := 0, locals := 79 } s m args below meth c (sx_A b 26 s.heap.size) 9 0 0 (sx_fin (sx_wp D G b lyM 26) (sx_A b 26 s.heap.size) below args s 0 0 (sx_qi Q) (fun _ _ => False)) f 32 [(0, .ref (b + 0)), (1, .int x1), (2, .int x2), (3, .int x3), (4, .int x4)] [.int s0])
  replace h := h (fun (f : sx_F) (s1 : Int32) (s2 : Int32) => sx_J (sx_wp D G b lyM 26) p l e { frames := 4, cells := 0, slots := 0, locals := 79 } s m args below meth c (sx_A b 26 s.heap.size) 9 0 0 (sx_fin (sx_wp D G b lyM 26) (sx_A b 26 s.heap.size) below args s 0 0 (sx_qi Q) (fun _ _ => False)) f 72 [(0, .ref (b + 0)), (1, .int x1), (2, .int x2), (3, .int x3), (4, .int x4)] [.int s2, .int s1, .ref (b + 0)])
  replace h := h (fun (f : sx_F) (s1 : Int32) (s2 : Int32) (s3 : Int32) => sx_J (sx_wp D G b lyM 26) p l e { frames := 4, cells := 0, slots := 0, locals := 79 } s m args below meth c (sx_A b 26 s.heap.size) 9 0 0 (sx_fin (sx_wp D G b lyM 26) (sx_A b 26 s.heap.size) below args s 0 0 (sx_qi Q) (fun _ _ => False)) f 73 [(0, .ref (b + 0)), (1, .int x1), (2, .int x2), (3, .int x3), (4, .int x4)] [.int s3, .int s2, .int s1, .ref (b + 0)])
  replace h := h (by
    intro f h
    refine sx_iconst C dX7_bow_31 0 (by decide) 32 rfl ?_
    exact sx_sub [0, 1, 2, 3, 4] rfl h)
  replace h := h (by
    intro f s0 h
    refine sx_istore C dX7_bow_32 [(5, .int s0), (0, .ref (b + 0)), (1, .int x1), (2, .int x2), (3, .int x3), (4, .int x4)] (by decide) rfl 34 rfl ?_
    refine sx_aload_n C dX7_bow_34 0 1 rfl rfl 35 rfl ?_
    refine sx_iload C dX7_bow_35 0 rfl 37 rfl ?_
    refine sx_iload C dX7_bow_37 5 rfl 39 rfl ?_
    refine sx_iconst C dX7_bow_39 0 (by decide) 40 rfl ?_
    refine sx_iconst C dX7_bow_40 2 (by decide) 41 rfl ?_
    refine sx_callS C ht hB (st := [.int s0, .ref (b + 0)]) dX7_bow_41 (c_X7_in hf h) mi_X7_in lk_X7_95 mt_X7_in rfl rfl ⟨⟨(Nat.le_of_ble_eq_true rfl), (Nat.le_of_ble_eq_true rfl)⟩, (Nat.le_of_ble_eq_true rfl), (Nat.le_of_ble_eq_true rfl)⟩ (Nat.le_of_ble_eq_true rfl) ⟨(Nat.le_of_ble_eq_true rfl), (Nat.le_of_ble_eq_true rfl)⟩ (fun _ _ hx => hx.elim) 44 rfl (fun v g2 h => ?_)
    obtain ⟨⟨r1, rfl, h⟩, rfl⟩ := h
    refine sx_iload C dX7_bow_44 0 rfl 46 rfl ?_
    refine sx_if_eq C dX7_bow_46 72 49 (by decide) rfl (fun c3 => ?_) (fun c3 => ?_)
    · replace h := h.1 c3
      exact sx_sub [1, 2, 3, 4, 5] rfl h
    · replace h := h.2 c3
      refine sx_aload_n C dX7_bow_49 0 1 rfl rfl 50 rfl ?_
      refine sx_getq C (T := TX7) (C0 := RX7) (N := 34) (j := 9) dX7_bow_50 fl_X7_35 inw_X7 rfl (by decide) rfl (by decide) lyM_0 rfl 53 rfl ?_
      refine sx_iload_n C dX7_bow_53 1 2 rfl rfl 54 rfl ?_
      refine sx_iald C dX7_bow_54 (by decide) lyM_7 h.1 55 rfl ?_
      replace h := h.2
      refine sx_iconst C dX7_bow_55 (-1) (by decide) 56 rfl ?_
      refine sx_icmp_eq C dX7_bow_56 72 59 (by decide) rfl (fun c4 => ?_) (fun c4 => ?_)
      · replace h := h.1 c4
        exact sx_sub [1, 2, 3, 4, 5] rfl h
      · replace h := h.2 c4
        refine sx_aload_n C dX7_bow_59 0 1 rfl rfl 60 rfl ?_
        refine sx_iload_n C dX7_bow_60 1 2 rfl rfl 61 rfl ?_
        refine sx_iload_n C dX7_bow_61 2 3 rfl rfl 62 rfl ?_
        refine sx_callV C ht hB (st := [.int r1, .int s0, .ref (b + 0)]) dX7_bow_62 (c_X7_owes hf h) mi_X7_owes lk_X7_137 mn_X7_owes ms_X7_owes (by decide) lyM_0 rfl rfl rfl rfl ⟨⟨(Nat.le_of_ble_eq_true rfl), (Nat.le_of_ble_eq_true rfl)⟩, (Nat.le_of_ble_eq_true rfl), (Nat.le_of_ble_eq_true rfl)⟩ (Nat.le_of_ble_eq_true rfl) ⟨(Nat.le_of_ble_eq_true rfl), (Nat.le_of_ble_eq_true rfl)⟩ (fun _ _ hx => hx.elim) 65 rfl (fun v g6 h => ?_)
        obtain ⟨⟨r5, rfl, h⟩, rfl⟩ := h
        refine sx_if_ne C dX7_bow_65 72 68 (by decide) rfl (fun c7 => ?_) (fun c7 => ?_)
        · replace h := h.2 c7
          exact sx_sub [1, 2, 3, 4, 5] rfl h
        · replace h := h.1 c7
          refine sx_iconst C dX7_bow_68 1 (by decide) 69 rfl ?_
          refine sx_goto C dX7_bow_69 73 (by decide) ?_
          exact sx_sub [1, 2, 3, 4, 5] rfl h)
  replace h := h (by
    intro f s1 s2 h
    refine sx_iconst C dX7_bow_72 0 (by decide) 73 rfl ?_
    exact sx_sub [0, 1, 2, 3, 4] rfl h)
  replace h := h (by
    intro f s1 s2 s3 h
    refine sx_callV C ht hB (st := []) dX7_bow_73 (c_X7_goes hf h) mi_X7_goes lk_X7_105 mn_X7_goes ms_X7_goes (by decide) lyM_0 rfl rfl rfl rfl ⟨⟨(Nat.le_of_ble_eq_true rfl), (Nat.le_of_ble_eq_true rfl)⟩, (Nat.le_of_ble_eq_true rfl), (Nat.le_of_ble_eq_true rfl)⟩ (Nat.le_of_ble_eq_true rfl) ⟨(Nat.le_of_ble_eq_true rfl), (Nat.le_of_ble_eq_true rfl)⟩ (fun _ _ hx => hx.elim) 76 rfl (fun v g8 h => ?_)
    obtain ⟨r9, rfl, h⟩ := h
    refine sx_if_ne C dX7_bow_76 81 79 (by decide) rfl (fun c10 => ?_) (fun c10 => ?_)
    · replace h := h.2 c10
      refine sx_aload_n C dX7_bow_81 0 0 rfl rfl 82 rfl ?_
      refine sx_getq C (T := TX7) (C0 := RX7) (N := 34) (j := 8) dX7_bow_82 fl_X7_32 inw_X7 rfl (by decide) rfl (by decide) lyM_0 rfl 85 rfl ?_
      refine sx_iload_n C dX7_bow_85 1 1 rfl rfl 86 rfl ?_
      refine sx_iald C dX7_bow_86 (by decide) lyM_6 h.1 87 rfl ?_
      replace h := h.2
      refine sx_iload_n C dX7_bow_87 2 2 rfl rfl 88 rfl ?_
      refine sx_callS C ht hB (st := []) dX7_bow_88 (c_X7_cell hf h) mi_X7_cell lk_X7_116 mt_X7_cell rfl rfl ⟨⟨(Nat.le_of_ble_eq_true rfl), (Nat.le_of_ble_eq_true rfl)⟩, (Nat.le_of_ble_eq_true rfl), (Nat.le_of_ble_eq_true rfl)⟩ (Nat.le_of_ble_eq_true rfl) ⟨(Nat.le_of_ble_eq_true rfl), (Nat.le_of_ble_eq_true rfl)⟩ (fun _ _ hx => hx.elim) 91 rfl (fun v g12 h => ?_)
      obtain ⟨⟨r11, rfl, h⟩, rfl⟩ := h
      refine sx_istore C dX7_bow_91 [(6, .int r11), (0, .ref (b + 0)), (1, .int x1), (2, .int x2), (3, .int x3), (4, .int x4)] (by decide) rfl 93 rfl ?_
      refine sx_bipush C dX7_bow_93 8 (by decide) 95 rfl ?_
      refine sx_bipush C dX7_bow_95 60 (by decide) 97 rfl ?_
      refine sx_aload_n C dX7_bow_97 0 1 rfl rfl 98 rfl ?_
      refine sx_getq C (T := TX7) (C0 := RX7) (N := 34) (j := 9) dX7_bow_98 fl_X7_35 inw_X7 rfl (by decide) rfl (by decide) lyM_0 rfl 101 rfl ?_
      refine sx_iload_n C dX7_bow_101 1 2 rfl rfl 102 rfl ?_
      refine sx_iald C dX7_bow_102 (by decide) lyM_7 h.1 103 rfl ?_
      replace h := h.2
      refine sx_imul C dX7_bow_103 104 rfl ?_
      refine sx_iload C dX7_bow_104 0 rfl 106 rfl ?_
      refine sx_iadd C dX7_bow_106 107 rfl ?_
      refine sx_imul C dX7_bow_107 108 rfl ?_
      refine sx_iload_n C dX7_bow_108 3 4 rfl rfl 109 rfl ?_
      refine sx_iadd C dX7_bow_109 110 rfl ?_
      refine sx_topi (fun y13 ey13 => ?_)
      replace h := h y13 ey13
      refine sx_istore C dX7_bow_110 [(7, .int y13), (6, .int r11), (0, .ref (b + 0)), (1, .int x1), (2, .int x2), (3, .int x3), (4, .int x4)] (by decide) rfl 112 rfl ?_
      refine sx_aload_n C dX7_bow_112 0 2 rfl rfl 113 rfl ?_
      refine sx_aload_n C dX7_bow_113 0 2 rfl rfl 114 rfl ?_
      refine sx_getq C (T := TX7) (C0 := RX7) (N := 34) (j := 9) dX7_bow_114 fl_X7_35 inw_X7 rfl (by decide) rfl (by decide) lyM_0 rfl 117 rfl ?_
      refine sx_iload_n C dX7_bow_117 1 3 rfl rfl 118 rfl ?_
      refine sx_iald C dX7_bow_118 (by decide) lyM_7 h.1 119 rfl ?_
      replace h := h.2
      refine sx_iload C dX7_bow_119 1 rfl 121 rfl ?_
      refine sx_iload_n C dX7_bow_121 3 5 rfl rfl 122 rfl ?_
      refine sx_callV C ht hB (st := []) dX7_bow_122 (c_X7_bowing hf h) mi_X7_bowing lk_X7_148 mn_X7_bowing ms_X7_bowing (by decide) lyM_0 rfl rfl rfl rfl ⟨⟨(Nat.le_of_ble_eq_true rfl), (Nat.le_of_ble_eq_true rfl)⟩, (Nat.le_of_ble_eq_true rfl), (Nat.le_of_ble_eq_true rfl)⟩ (Nat.le_of_ble_eq_true rfl) ⟨(Nat.le_of_ble_eq_true rfl), (Nat.le_of_ble_eq_true rfl)⟩ (fun _ _ hx => hx.elim) 125 rfl (fun v g15 h => ?_)
      obtain ⟨⟨r14, rfl, h⟩, rfl⟩ := h
      refine sx_istore C dX7_bow_125 [(8, .int r14), (7, .int y13), (6, .int r11), (0, .ref (b + 0)), (1, .int x1), (2, .int x2), (3, .int x3), (4, .int x4)] (by decide) rfl 127 rfl ?_
      refine sx_aload_n C dX7_bow_127 0 3 rfl rfl 128 rfl ?_
      refine sx_getq C (T := TX7) (C0 := RX7) (N := 34) (j := 15) dX7_bow_128 fl_X7_47 inw_X7 rfl (by decide) rfl (by decide) lyM_0 rfl 131 rfl ?_
      refine sx_iload C dX7_bow_131 1 rfl 133 rfl ?_
      refine sx_iload C dX7_bow_133 7 rfl 135 rfl ?_
      refine sx_iast C dX7_bow_135 hB (by decide) lyM_11 h.1 136 rfl (fun g16 eg16 => ?_)
      replace h := h.2 g16 eg16
      refine sx_aload_n C dX7_bow_136 0 3 rfl rfl 137 rfl ?_
      refine sx_getq C (T := TX7) (C0 := RX7) (N := 34) (j := 16) dX7_bow_137 fl_X7_50 inw_X7 rfl (by decide) rfl (by decide) lyM_0 rfl 140 rfl ?_
      refine sx_iload C dX7_bow_140 1 rfl 142 rfl ?_
      refine sx_aload_n C dX7_bow_142 0 3 rfl rfl 143 rfl ?_
      refine sx_getq C (T := TX7) (C0 := RX7) (N := 34) (j := 4) dX7_bow_143 fl_X7_22 inw_X7 rfl (by decide) rfl (by decide) lyM_0 rfl 146 rfl ?_
      refine sx_iload C dX7_bow_146 2 rfl 148 rfl ?_
      refine sx_iald C dX7_bow_148 (by decide) lyM_5 h.1 149 rfl ?_
      replace h := h.2
      refine sx_iast C dX7_bow_149 hB (by decide) lyM_12 h.1 150 rfl (fun g17 eg17 => ?_)
      replace h := h.2 g17 eg17
      refine sx_iload C dX7_bow_150 0 rfl 152 rfl ?_
      exact sx_iret C dX7_bow_152 hr (Nat.le_of_ble_eq_true rfl) (Nat.le_of_ble_eq_true rfl) ⟨_, rfl, h⟩
    · replace h := h.1 c10
      refine sx_iconst C dX7_bow_79 0 (by decide) 80 rfl ?_
      exact sx_iret C dX7_bow_80 hr (Nat.le_of_ble_eq_true rfl) (Nat.le_of_ble_eq_true rfl) ⟨_, rfl, h⟩)
  refine sx_sub (lv' := [(0, .ref (b + 0)), (1, .int x1), (2, .int x2), (3, .int x3), (4, .int x4)]) [0, 1, 2, 3, 4] rfl ?_
  refine sx_aload_n C dX7_bow_0 0 0 rfl rfl 1 rfl ?_
  refine sx_iload_n C dX7_bow_1 1 1 rfl rfl 2 rfl ?_
  refine sx_callV C ht hB (st := []) dX7_bow_2 (c_X7_isCopy hf h) mi_X7_isCopy lk_X7_126 mn_X7_isCopy ms_X7_isCopy (by decide) lyM_0 rfl rfl rfl rfl ⟨⟨(Nat.le_of_ble_eq_true rfl), (Nat.le_of_ble_eq_true rfl)⟩, (Nat.le_of_ble_eq_true rfl), (Nat.le_of_ble_eq_true rfl)⟩ (Nat.le_of_ble_eq_true rfl) ⟨(Nat.le_of_ble_eq_true rfl), (Nat.le_of_ble_eq_true rfl)⟩ (fun _ _ hx => hx.elim) 5 rfl (fun v g19 h => ?_)
  obtain ⟨⟨r18, rfl, h⟩, rfl⟩ := h
  refine sx_istore C dX7_bow_5 [(5, .int r18), (0, .ref (b + 0)), (1, .int x1), (2, .int x2), (3, .int x3), (4, .int x4)] (by decide) rfl 7 rfl ?_
  refine sx_iload C dX7_bow_7 0 rfl 9 rfl ?_
  refine sx_if_eq C dX7_bow_9 31 12 (by decide) rfl (fun c20 => ?_) (fun c20 => ?_)
  · replace h := h.1 c20
    exact sx_sub [1, 2, 3, 4, 5] rfl h
  · replace h := h.2 c20
    refine sx_aload_n C dX7_bow_12 0 1 rfl rfl 13 rfl ?_
    refine sx_aload_n C dX7_bow_13 0 1 rfl rfl 14 rfl ?_
    refine sx_getq C (T := TX7) (C0 := RX7) (N := 34) (j := 8) dX7_bow_14 fl_X7_32 inw_X7 rfl (by decide) rfl (by decide) lyM_0 rfl 17 rfl ?_
    refine sx_iload_n C dX7_bow_17 1 2 rfl rfl 18 rfl ?_
    refine sx_iald C dX7_bow_18 (by decide) lyM_6 h.1 19 rfl ?_
    replace h := h.2
    refine sx_iload_n C dX7_bow_19 2 3 rfl rfl 20 rfl ?_
    refine sx_iload_n C dX7_bow_20 3 4 rfl rfl 21 rfl ?_
    refine sx_callV C ht hB (st := []) dX7_bow_21 (c_X7_isNote hf h) mi_X7_isNote lk_X7_123 mn_X7_isNote ms_X7_isNote (by decide) lyM_0 rfl rfl rfl rfl ⟨⟨(Nat.le_of_ble_eq_true rfl), (Nat.le_of_ble_eq_true rfl)⟩, (Nat.le_of_ble_eq_true rfl), (Nat.le_of_ble_eq_true rfl)⟩ (Nat.le_of_ble_eq_true rfl) ⟨(Nat.le_of_ble_eq_true rfl), (Nat.le_of_ble_eq_true rfl)⟩ (fun _ _ hx => hx.elim) 24 rfl (fun v g22 h => ?_)
    obtain ⟨⟨r21, rfl, h⟩, rfl⟩ := h
    refine sx_if_eq C dX7_bow_24 31 27 (by decide) rfl (fun c23 => ?_) (fun c23 => ?_)
    · replace h := h.1 c23
      exact sx_sub [1, 2, 3, 4, 5] rfl h
    · replace h := h.2 c23
      refine sx_iconst C dX7_bow_27 1 (by decide) 28 rfl ?_
      refine sx_goto C dX7_bow_28 32 (by decide) ?_
      exact sx_sub [1, 2, 3, 4, 5] rfl h
set_option maxRecDepth 100000 in
set_option maxHeartbeats 4000000 in
theorem c_X7_play {l : Launch} {D : va_G} {G : sx_G} {b : Nat} (hf : l.stackTraces = false) {f : sx_F}  {Q : Int32 → sx_F → Prop}  (h : P_X7_play f  Q) : sx_Met l D G b 26 lyM yX7_play cX7_play 3 (some .int) 4 79 0 0 [.ref (b + 0)] f (sx_qi Q) (fun _ _ => False) := by
  refine sx_enter (own := RX7) hf rfl rfl (Nat.le_of_ble_eq_true rfl) ?_
  intro p e s m args below meth c C hr ht
  have hB : ∀ k, k < 26 → sx_A b 26 s.heap.size (b + k) := fun k h => sx_A.in h
  unfold P_X7_play at h
  replace h := h (fun (f : sx_F) (s0 : Int32) => sx_J (sx_wp D G b lyM 26) p l e { frames := 4, cells := 0, slots := 0, locals := 79 } s m args below meth c (sx_A b 26 s.heap.size) 3 0 0 (sx_fin (sx_wp D G b lyM 26) (sx_A b 26 s.heap.size) below args s 0 0 (sx_qi Q) (fun _ _ => False)) f 12 [(0, .ref (b + 0))] [.int s0])
  replace h := h (fun (f : sx_F) (v1 : Int32) (v2 : Int32) => sx_J (sx_wp D G b lyM 26) p l e { frames := 4, cells := 0, slots := 0, locals := 79 } s m args below meth c (sx_A b 26 s.heap.size) 3 0 0 (sx_fin (sx_wp D G b lyM 26) (sx_A b 26 s.heap.size) below args s 0 0 (sx_qi Q) (fun _ _ => False)) f 15 [(0, .ref (b + 0)), (1, .int v1), (2, .int v2)] [])
  replace h := h (fun (f : sx_F) (v2 : Int32) => sx_J (sx_wp D G b lyM 26) p l e { frames := 4, cells := 0, slots := 0, locals := 79 } s m args below meth c (sx_A b 26 s.heap.size) 3 0 0 (sx_fin (sx_wp D G b lyM 26) (sx_A b 26 s.heap.size) below args s 0 0 (sx_qi Q) (fun _ _ => False)) f 39 [(0, .ref (b + 0)), (2, .int v2)] [])
  replace h := h (fun (f : sx_F) (v2 : Int32) (s0 : Int32) => sx_J (sx_wp D G b lyM 26) p l e { frames := 4, cells := 0, slots := 0, locals := 79 } s m args below meth c (sx_A b 26 s.heap.size) 3 0 0 (sx_fin (sx_wp D G b lyM 26) (sx_A b 26 s.heap.size) below args s 0 0 (sx_qi Q) (fun _ _ => False)) f 40 [(0, .ref (b + 0)), (2, .int v2)] [.int s0])
  replace h := h (by
    intro f s0 h
    refine sx_istore_n C dX7_play_12 1 rfl [(1, .int s0), (0, .ref (b + 0))] (by decide) rfl 13 rfl ?_
    refine sx_iconst C dX7_play_13 0 (by decide) 14 rfl ?_
    refine sx_istore_n C dX7_play_14 2 rfl [(2, .int 0), (1, .int s0), (0, .ref (b + 0))] (by decide) rfl 15 rfl ?_
    exact sx_sub [2, 1, 0] rfl h)
  replace h := h (by
    intro f v1 v2 h
    refine sx_iload_n C dX7_play_15 2 2 rfl rfl 16 rfl ?_
    refine sx_aload_n C dX7_play_16 0 0 rfl rfl 17 rfl ?_
    refine sx_geti C (T := TX7) (C0 := RX7) (N := 34) (j := 11) dX7_play_17 fl_X7_102 inw_X7 rfl (by decide) rfl (by decide) lyM_0 rfl 20 rfl ?_
    refine sx_icmp_ge C dX7_play_20 47 23 (by decide) rfl (fun c1 => ?_) (fun c1 => ?_)
    · replace h := h.1 c1
      refine sx_aload_n C dX7_play_47 0 0 rfl rfl 48 rfl ?_
      refine sx_iload_n C dX7_play_48 1 1 rfl rfl 49 rfl ?_
      refine sx_iconst C dX7_play_49 1 (by decide) 50 rfl ?_
      refine sx_iconst C dX7_play_50 1 (by decide) 51 rfl ?_
      refine sx_callV C ht hB (st := []) dX7_play_51 (c_X7_goes hf h) mi_X7_goes lk_X7_105 mn_X7_goes ms_X7_goes (by decide) lyM_0 rfl rfl rfl rfl ⟨⟨(Nat.le_of_ble_eq_true rfl), (Nat.le_of_ble_eq_true rfl)⟩, (Nat.le_of_ble_eq_true rfl), (Nat.le_of_ble_eq_true rfl)⟩ (Nat.le_of_ble_eq_true rfl) ⟨(Nat.le_of_ble_eq_true rfl), (Nat.le_of_ble_eq_true rfl)⟩ (fun _ _ hx => hx.elim) 54 rfl (fun v g2 h => ?_)
      obtain ⟨r3, rfl, h⟩ := h
      refine sx_if_ne C dX7_play_54 59 57 (by decide) rfl (fun c4 => ?_) (fun c4 => ?_)
      · replace h := h.2 c4
        refine sx_aload_n C dX7_play_59 0 0 rfl rfl 60 rfl ?_
        refine sx_dup C dX7_play_60 rfl 61 rfl ?_
        refine sx_geti C (T := TX7) (C0 := RX7) (N := 34) (j := 12) dX7_play_61 fl_X7_152 inw_X7 rfl (by decide) rfl (by decide) lyM_0 rfl 64 rfl ?_
        refine sx_iconst C dX7_play_64 1 (by decide) 65 rfl ?_
        refine sx_iadd C dX7_play_65 66 rfl ?_
        refine sx_puti C (T := TX7) (C0 := RX7) (N := 34) (j := 12) dX7_play_66 fl_X7_152 inw_X7 rfl tyX7 tyX7_ok nmX7 (by decide) rfl rfl rfl hB (by decide) lyM_0 rfl 69 rfl (fun g5 eg5 => ?_)
        replace h := h g5 eg5
        refine sx_aload_n C dX7_play_69 0 0 rfl rfl 70 rfl ?_
        refine sx_callV C ht hB (st := []) dX7_play_70 (c_X7_away hf h) mi_X7_away lk_X7_133 mn_X7_away ms_X7_away (by decide) lyM_0 rfl rfl rfl rfl ⟨⟨(Nat.le_of_ble_eq_true rfl), (Nat.le_of_ble_eq_true rfl)⟩, (Nat.le_of_ble_eq_true rfl), (Nat.le_of_ble_eq_true rfl)⟩ (Nat.le_of_ble_eq_true rfl) ⟨(Nat.le_of_ble_eq_true rfl), (Nat.le_of_ble_eq_true rfl)⟩ (fun _ _ hx => hx.elim) 73 rfl (fun v g7 h => ?_)
        obtain ⟨⟨r6, rfl, h⟩, rfl⟩ := h
        exact sx_iret C dX7_play_73 hr (Nat.le_of_ble_eq_true rfl) (Nat.le_of_ble_eq_true rfl) ⟨_, rfl, h⟩
      · replace h := h.1 c4
        refine sx_iconst C dX7_play_57 0 (by decide) 58 rfl ?_
        exact sx_iret C dX7_play_58 hr (Nat.le_of_ble_eq_true rfl) (Nat.le_of_ble_eq_true rfl) ⟨_, rfl, h⟩
    · replace h := h.2 c1
      refine sx_iload_n C dX7_play_23 1 1 rfl rfl 24 rfl ?_
      refine sx_if_eq C dX7_play_24 39 27 (by decide) rfl (fun c8 => ?_) (fun c8 => ?_)
      · replace h := h.1 c8
        exact sx_sub [0, 2] rfl h
      · replace h := h.2 c8
        refine sx_aload_n C dX7_play_27 0 0 rfl rfl 28 rfl ?_
        refine sx_iload_n C dX7_play_28 2 2 rfl rfl 29 rfl ?_
        refine sx_callV C ht hB (st := []) dX7_play_29 (c_X7_owedBy hf h) mi_X7_owedBy lk_X7_144 mn_X7_owedBy ms_X7_owedBy (by decide) lyM_0 rfl rfl rfl rfl ⟨⟨(Nat.le_of_ble_eq_true rfl), (Nat.le_of_ble_eq_true rfl)⟩, (Nat.le_of_ble_eq_true rfl), (Nat.le_of_ble_eq_true rfl)⟩ (Nat.le_of_ble_eq_true rfl) ⟨(Nat.le_of_ble_eq_true rfl), (Nat.le_of_ble_eq_true rfl)⟩ (fun _ _ hx => hx.elim) 32 rfl (fun v g10 h => ?_)
        obtain ⟨⟨r9, rfl, h⟩, rfl⟩ := h
        refine sx_if_ne C dX7_play_32 39 35 (by decide) rfl (fun c11 => ?_) (fun c11 => ?_)
        · replace h := h.2 c11
          exact sx_sub [0, 2] rfl h
        · replace h := h.1 c11
          refine sx_iconst C dX7_play_35 1 (by decide) 36 rfl ?_
          refine sx_goto C dX7_play_36 40 (by decide) ?_
          exact sx_sub [0, 2] rfl h)
  replace h := h (by
    intro f v2 h
    refine sx_iconst C dX7_play_39 0 (by decide) 40 rfl ?_
    exact sx_sub [0, 1] rfl h)
  replace h := h (by
    intro f v2 s0 h
    refine sx_istore_n C dX7_play_40 1 rfl [(1, .int s0), (0, .ref (b + 0)), (2, .int v2)] (by decide) rfl 41 rfl ?_
    obtain ⟨y12, ey12⟩ : ∃ w : Int32, w = v2 + 1 := ⟨_, rfl⟩
    replace h := h y12 ey12
    refine sx_iinc C dX7_play_41 2 rfl y12 (by rw [ey12]; rfl) [(2, .int y12), (1, .int s0), (0, .ref (b + 0))] (by decide) rfl 44 rfl ?_
    refine sx_goto C dX7_play_44 15 (by decide) ?_
    exact sx_sub [2, 1, 0] rfl h)
  refine sx_sub (lv' := [(0, .ref (b + 0))]) [0] rfl ?_
  refine sx_aload_n C dX7_play_0 0 0 rfl rfl 1 rfl ?_
  refine sx_callV C ht hB (st := []) dX7_play_1 (c_X7_away hf h) mi_X7_away lk_X7_133 mn_X7_away ms_X7_away (by decide) lyM_0 rfl rfl rfl rfl ⟨⟨(Nat.le_of_ble_eq_true rfl), (Nat.le_of_ble_eq_true rfl)⟩, (Nat.le_of_ble_eq_true rfl), (Nat.le_of_ble_eq_true rfl)⟩ (Nat.le_of_ble_eq_true rfl) ⟨(Nat.le_of_ble_eq_true rfl), (Nat.le_of_ble_eq_true rfl)⟩ (fun _ _ hx => hx.elim) 4 rfl (fun v g14 h => ?_)
  obtain ⟨⟨r13, rfl, h⟩, rfl⟩ := h
  refine sx_if_le C dX7_play_4 11 7 (by decide) rfl (fun c15 => ?_) (fun c15 => ?_)
  · replace h := h.1 c15
    refine sx_iconst C dX7_play_11 0 (by decide) 12 rfl ?_
    exact sx_sub [0] rfl h
  · replace h := h.2 c15
    refine sx_iconst C dX7_play_7 1 (by decide) 8 rfl ?_
    refine sx_goto C dX7_play_8 12 (by decide) ?_
    exact sx_sub [0] rfl h
set_option maxRecDepth 100000 in
set_option maxHeartbeats 4000000 in
theorem c_X7_bars {l : Launch} {D : va_G} {G : sx_G} {b : Nat} (hf : l.stackTraces = false) {f : sx_F}  {Q : Int32 → sx_F → Prop}  (h : P_X7_bars f  Q) : sx_Met l D G b 26 lyM yX7_bars cX7_bars 1 (some .int) 1 13 0 0 [.ref (b + 0)] f (sx_qi Q) (fun _ _ => False) := by
  refine sx_enter (own := RX7) hf rfl rfl (Nat.le_of_ble_eq_true rfl) ?_
  intro p e s m args below meth c C hr ht
  have hB : ∀ k, k < 26 → sx_A b 26 s.heap.size (b + k) := fun k h => sx_A.in h
  unfold P_X7_bars at h
  refine sx_sub (lv' := [(0, .ref (b + 0))]) [0] rfl ?_
  refine sx_aload_n C dX7_bars_0 0 0 rfl rfl 1 rfl ?_
  refine sx_iconst C dX7_bars_1 0 (by decide) 2 rfl ?_
  refine sx_puti C (T := TX7) (C0 := RX7) (N := 34) (j := 33) dX7_bars_2 fl_X7_92 inw_X7 rfl tyX7 tyX7_ok nmX7 (by decide) rfl rfl rfl hB (by decide) lyM_0 rfl 5 rfl (fun g1 eg1 => ?_)
  replace h := h g1 eg1
  refine sx_aload_n C dX7_bars_5 0 0 rfl rfl 6 rfl ?_
  refine sx_geti C (T := TX7) (C0 := RX7) (N := 34) (j := 5) dX7_bars_6 fl_X7_99 inw_X7 rfl (by decide) rfl (by decide) lyM_0 rfl 9 rfl ?_
  exact sx_iret C dX7_bars_9 hr (Nat.le_of_ble_eq_true rfl) (Nat.le_of_ble_eq_true rfl) ⟨_, rfl, h⟩
set_option maxRecDepth 100000 in
set_option maxHeartbeats 4000000 in
theorem c_X7_notes {l : Launch} {D : va_G} {G : sx_G} {b : Nat} (hf : l.stackTraces = false) {f : sx_F} {x1 : Int32} {x2 : Int32} {Q : Int32 → sx_F → Prop}  (h : P_X7_notes f x1 x2 Q) : sx_Met l D G b 26 lyM yX7_notes cX7_notes 3 (some .int) 3 56 0 0 [.ref (b + 0), .int x1, .int x2] f (sx_qi Q) (fun _ _ => False) := by
  refine sx_enter (own := RX7) hf rfl rfl (Nat.le_of_ble_eq_true rfl) ?_
  intro p e s m args below meth c C hr ht
  have hB : ∀ k, k < 26 → sx_A b 26 s.heap.size (b + k) := fun k h => sx_A.in h
  unfold P_X7_notes at h
  replace h := h (fun (f : sx_F) => sx_J (sx_wp D G b lyM 26) p l e { frames := 3, cells := 0, slots := 0, locals := 56 } s m args below meth c (sx_A b 26 s.heap.size) 3 0 0 (sx_fin (sx_wp D G b lyM 26) (sx_A b 26 s.heap.size) below args s 0 0 (sx_qi Q) (fun _ _ => False)) f 20 [(0, .ref (b + 0)), (1, .int x1), (2, .int x2)] [.ref (b + 0)])
  replace h := h (fun (f : sx_F) (s1 : Int32) => sx_J (sx_wp D G b lyM 26) p l e { frames := 3, cells := 0, slots := 0, locals := 56 } s m args below meth c (sx_A b 26 s.heap.size) 3 0 0 (sx_fin (sx_wp D G b lyM 26) (sx_A b 26 s.heap.size) below args s 0 0 (sx_qi Q) (fun _ _ => False)) f 21 [(0, .ref (b + 0)), (1, .int x1), (2, .int x2)] [.int s1, .ref (b + 0)])
  replace h := h (by
    intro f h
    refine sx_iconst C dX7_notes_20 0 (by decide) 21 rfl ?_
    exact sx_sub [0, 1, 2] rfl h)
  replace h := h (by
    intro f s1 h
    refine sx_iconst C dX7_notes_21 1 (by decide) 22 rfl ?_
    refine sx_iconst C dX7_notes_22 1 (by decide) 23 rfl ?_
    refine sx_callV C ht hB (st := []) dX7_notes_23 (c_X7_goes hf h) mi_X7_goes lk_X7_105 mn_X7_goes ms_X7_goes (by decide) lyM_0 rfl rfl rfl rfl ⟨⟨(Nat.le_of_ble_eq_true rfl), (Nat.le_of_ble_eq_true rfl)⟩, (Nat.le_of_ble_eq_true rfl), (Nat.le_of_ble_eq_true rfl)⟩ (Nat.le_of_ble_eq_true rfl) ⟨(Nat.le_of_ble_eq_true rfl), (Nat.le_of_ble_eq_true rfl)⟩ (fun _ _ hx => hx.elim) 26 rfl (fun v g1 h => ?_)
    obtain ⟨r2, rfl, h⟩ := h
    refine sx_if_eq C dX7_notes_26 42 29 (by decide) rfl (fun c3 => ?_) (fun c3 => ?_)
    · replace h := h.1 c3
      refine sx_iconst C dX7_notes_42 0 (by decide) 43 rfl ?_
      exact sx_iret C dX7_notes_43 hr (Nat.le_of_ble_eq_true rfl) (Nat.le_of_ble_eq_true rfl) ⟨_, rfl, h⟩
    · replace h := h.2 c3
      refine sx_aload_n C dX7_notes_29 0 0 rfl rfl 30 rfl ?_
      refine sx_getq C (T := TX7) (C0 := RX7) (N := 34) (j := 3) dX7_notes_30 fl_X7_19 inw_X7 rfl (by decide) rfl (by decide) lyM_0 rfl 33 rfl ?_
      refine sx_iload_n C dX7_notes_33 1 1 rfl rfl 34 rfl ?_
      refine sx_iload_n C dX7_notes_34 2 2 rfl rfl 35 rfl ?_
      refine sx_callS C ht hB (st := [.ref (b + 4)]) dX7_notes_35 (c_X7_cell hf h) mi_X7_cell lk_X7_116 mt_X7_cell rfl rfl ⟨⟨(Nat.le_of_ble_eq_true rfl), (Nat.le_of_ble_eq_true rfl)⟩, (Nat.le_of_ble_eq_true rfl), (Nat.le_of_ble_eq_true rfl)⟩ (Nat.le_of_ble_eq_true rfl) ⟨(Nat.le_of_ble_eq_true rfl), (Nat.le_of_ble_eq_true rfl)⟩ (fun _ _ hx => hx.elim) 38 rfl (fun v g5 h => ?_)
      obtain ⟨⟨r4, rfl, h⟩, rfl⟩ := h
      refine sx_iald C dX7_notes_38 (by decide) lyM_4 h.1 39 rfl ?_
      replace h := h.2
      refine sx_goto C dX7_notes_39 43 (by decide) ?_
      exact sx_iret C dX7_notes_43 hr (Nat.le_of_ble_eq_true rfl) (Nat.le_of_ble_eq_true rfl) ⟨_, rfl, h⟩)
  refine sx_sub (lv' := [(0, .ref (b + 0)), (1, .int x1), (2, .int x2)]) [0, 1, 2] rfl ?_
  refine sx_aload_n C dX7_notes_0 0 0 rfl rfl 1 rfl ?_
  refine sx_iload_n C dX7_notes_1 1 1 rfl rfl 2 rfl ?_
  refine sx_callS C ht hB (st := [.ref (b + 0)]) dX7_notes_2 (c_X7_isInstrument hf h) mi_X7_isInstrument lk_X7_109 mt_X7_isInstrument rfl rfl ⟨⟨(Nat.le_of_ble_eq_true rfl), (Nat.le_of_ble_eq_true rfl)⟩, (Nat.le_of_ble_eq_true rfl), (Nat.le_of_ble_eq_true rfl)⟩ (Nat.le_of_ble_eq_true rfl) ⟨(Nat.le_of_ble_eq_true rfl), (Nat.le_of_ble_eq_true rfl)⟩ (fun _ _ hx => hx.elim) 5 rfl (fun v g7 h => ?_)
  obtain ⟨⟨r6, rfl, h⟩, rfl⟩ := h
  refine sx_if_eq C dX7_notes_5 20 8 (by decide) rfl (fun c8 => ?_) (fun c8 => ?_)
  · replace h := h.1 c8
    exact sx_sub [0, 1, 2] rfl h
  · replace h := h.2 c8
    refine sx_aload_n C dX7_notes_8 0 0 rfl rfl 9 rfl ?_
    refine sx_iload_n C dX7_notes_9 2 2 rfl rfl 10 rfl ?_
    refine sx_callV C ht hB (st := [.ref (b + 0)]) dX7_notes_10 (c_X7_isBar hf h) mi_X7_isBar lk_X7_113 mn_X7_isBar ms_X7_isBar (by decide) lyM_0 rfl rfl rfl rfl ⟨⟨(Nat.le_of_ble_eq_true rfl), (Nat.le_of_ble_eq_true rfl)⟩, (Nat.le_of_ble_eq_true rfl), (Nat.le_of_ble_eq_true rfl)⟩ (Nat.le_of_ble_eq_true rfl) ⟨(Nat.le_of_ble_eq_true rfl), (Nat.le_of_ble_eq_true rfl)⟩ (fun _ _ hx => hx.elim) 13 rfl (fun v g10 h => ?_)
    obtain ⟨⟨r9, rfl, h⟩, rfl⟩ := h
    refine sx_if_eq C dX7_notes_13 20 16 (by decide) rfl (fun c11 => ?_) (fun c11 => ?_)
    · replace h := h.1 c11
      exact sx_sub [0, 1, 2] rfl h
    · replace h := h.2 c11
      refine sx_iconst C dX7_notes_16 1 (by decide) 17 rfl ?_
      refine sx_goto C dX7_notes_17 21 (by decide) ?_
      exact sx_sub [0, 1, 2] rfl h
set_option maxRecDepth 100000 in
set_option maxHeartbeats 4000000 in
theorem c_X7_noteAt {l : Launch} {D : va_G} {G : sx_G} {b : Nat} (hf : l.stackTraces = false) {f : sx_F} {x1 : Int32} {x2 : Int32} {x3 : Int32} {Q : Int32 → sx_F → Prop}  (h : P_X7_noteAt f x1 x2 x3 Q) : sx_Met l D G b 26 lyM yX7_noteAt cX7_noteAt 5 (some .int) 4 79 0 0 [.ref (b + 0), .int x1, .int x2, .int x3] f (sx_qi Q) (fun _ _ => False) := by
  refine sx_enter (own := RX7) hf rfl rfl (Nat.le_of_ble_eq_true rfl) ?_
  intro p e s m args below meth c C hr ht
  have hB : ∀ k, k < 26 → sx_A b 26 s.heap.size (b + k) := fun k h => sx_A.in h
  unfold P_X7_noteAt at h
  refine sx_sub (lv' := [(0, .ref (b + 0)), (1, .int x1), (2, .int x2), (3, .int x3)]) [0, 1, 2, 3] rfl ?_
  refine sx_aload_n C dX7_noteAt_0 0 0 rfl rfl 1 rfl ?_
  refine sx_aload_n C dX7_noteAt_1 0 0 rfl rfl 2 rfl ?_
  refine sx_iload_n C dX7_noteAt_2 1 1 rfl rfl 3 rfl ?_
  refine sx_iload_n C dX7_noteAt_3 2 2 rfl rfl 4 rfl ?_
  refine sx_iload_n C dX7_noteAt_4 3 3 rfl rfl 5 rfl ?_
  refine sx_callV C ht hB (st := [.ref (b + 0)]) dX7_noteAt_5 (c_X7_isNote hf h) mi_X7_isNote lk_X7_123 mn_X7_isNote ms_X7_isNote (by decide) lyM_0 rfl rfl rfl rfl ⟨⟨(Nat.le_of_ble_eq_true rfl), (Nat.le_of_ble_eq_true rfl)⟩, (Nat.le_of_ble_eq_true rfl), (Nat.le_of_ble_eq_true rfl)⟩ (Nat.le_of_ble_eq_true rfl) ⟨(Nat.le_of_ble_eq_true rfl), (Nat.le_of_ble_eq_true rfl)⟩ (fun _ _ hx => hx.elim) 8 rfl (fun v g2 h => ?_)
  obtain ⟨⟨r1, rfl, h⟩, rfl⟩ := h
  refine sx_iconst C dX7_noteAt_8 1 (by decide) 9 rfl ?_
  refine sx_iconst C dX7_noteAt_9 1 (by decide) 10 rfl ?_
  refine sx_callV C ht hB (st := []) dX7_noteAt_10 (c_X7_goes hf h) mi_X7_goes lk_X7_105 mn_X7_goes ms_X7_goes (by decide) lyM_0 rfl rfl rfl rfl ⟨⟨(Nat.le_of_ble_eq_true rfl), (Nat.le_of_ble_eq_true rfl)⟩, (Nat.le_of_ble_eq_true rfl), (Nat.le_of_ble_eq_true rfl)⟩ (Nat.le_of_ble_eq_true rfl) ⟨(Nat.le_of_ble_eq_true rfl), (Nat.le_of_ble_eq_true rfl)⟩ (fun _ _ hx => hx.elim) 13 rfl (fun v g3 h => ?_)
  obtain ⟨r4, rfl, h⟩ := h
  refine sx_if_ne C dX7_noteAt_13 18 16 (by decide) rfl (fun c5 => ?_) (fun c5 => ?_)
  · replace h := h.2 c5
    refine sx_bipush C dX7_noteAt_18 8 (by decide) 20 rfl ?_
    refine sx_iload_n C dX7_noteAt_20 1 1 rfl rfl 21 rfl ?_
    refine sx_iload_n C dX7_noteAt_21 2 2 rfl rfl 22 rfl ?_
    refine sx_callS C ht hB (st := [.int 8]) dX7_noteAt_22 (c_X7_cell hf h) mi_X7_cell lk_X7_116 mt_X7_cell rfl rfl ⟨⟨(Nat.le_of_ble_eq_true rfl), (Nat.le_of_ble_eq_true rfl)⟩, (Nat.le_of_ble_eq_true rfl), (Nat.le_of_ble_eq_true rfl)⟩ (Nat.le_of_ble_eq_true rfl) ⟨(Nat.le_of_ble_eq_true rfl), (Nat.le_of_ble_eq_true rfl)⟩ (fun _ _ hx => hx.elim) 25 rfl (fun v g7 h => ?_)
    obtain ⟨⟨r6, rfl, h⟩, rfl⟩ := h
    refine sx_imul C dX7_noteAt_25 26 rfl ?_
    refine sx_iload_n C dX7_noteAt_26 3 3 rfl rfl 27 rfl ?_
    refine sx_iadd C dX7_noteAt_27 28 rfl ?_
    refine sx_topi (fun y8 ey8 => ?_)
    replace h := h y8 ey8
    refine sx_istore C dX7_noteAt_28 [(4, .int y8), (0, .ref (b + 0)), (1, .int x1), (2, .int x2), (3, .int x3)] (by decide) rfl 30 rfl ?_
    refine sx_bipush C dX7_noteAt_30 100 (by decide) 32 rfl ?_
    refine sx_aload_n C dX7_noteAt_32 0 1 rfl rfl 33 rfl ?_
    refine sx_getq C (T := TX7) (C0 := RX7) (N := 34) (j := 1) dX7_noteAt_33 fl_X7_13 inw_X7 rfl (by decide) rfl (by decide) lyM_0 rfl 36 rfl ?_
    refine sx_iload C dX7_noteAt_36 0 rfl 38 rfl ?_
    refine sx_iald C dX7_noteAt_38 (by decide) lyM_2 h.1 39 rfl ?_
    replace h := h.2
    refine sx_imul C dX7_noteAt_39 40 rfl ?_
    refine sx_aload_n C dX7_noteAt_40 0 1 rfl rfl 41 rfl ?_
    refine sx_getq C (T := TX7) (C0 := RX7) (N := 34) (j := 2) dX7_noteAt_41 fl_X7_16 inw_X7 rfl (by decide) rfl (by decide) lyM_0 rfl 44 rfl ?_
    refine sx_iload C dX7_noteAt_44 0 rfl 46 rfl ?_
    refine sx_iald C dX7_noteAt_46 (by decide) lyM_3 h.1 47 rfl ?_
    replace h := h.2
    refine sx_iadd C dX7_noteAt_47 48 rfl ?_
    exact sx_iret C dX7_noteAt_48 hr (Nat.le_of_ble_eq_true rfl) (Nat.le_of_ble_eq_true rfl) ⟨_, rfl, h⟩
  · replace h := h.1 c5
    refine sx_iconst C dX7_noteAt_16 0 (by decide) 17 rfl ?_
    exact sx_iret C dX7_noteAt_17 hr (Nat.le_of_ble_eq_true rfl) (Nat.le_of_ble_eq_true rfl) ⟨_, rfl, h⟩
set_option maxRecDepth 100000 in
set_option maxHeartbeats 4000000 in
theorem c_X7_version {l : Launch} {D : va_G} {G : sx_G} {b : Nat} (hf : l.stackTraces = false) {f : sx_F} {x1 : Int32} {x2 : Int32} {Q : Int32 → sx_F → Prop}  (h : P_X7_version f x1 x2 Q) : sx_Met l D G b 26 lyM yX7_version cX7_version 3 (some .int) 3 56 0 0 [.ref (b + 0), .int x1, .int x2] f (sx_qi Q) (fun _ _ => False) := by
  refine sx_enter (own := RX7) hf rfl rfl (Nat.le_of_ble_eq_true rfl) ?_
  intro p e s m args below meth c C hr ht
  have hB : ∀ k, k < 26 → sx_A b 26 s.heap.size (b + k) := fun k h => sx_A.in h
  unfold P_X7_version at h
  replace h := h (fun (f : sx_F) => sx_J (sx_wp D G b lyM 26) p l e { frames := 3, cells := 0, slots := 0, locals := 56 } s m args below meth c (sx_A b 26 s.heap.size) 3 0 0 (sx_fin (sx_wp D G b lyM 26) (sx_A b 26 s.heap.size) below args s 0 0 (sx_qi Q) (fun _ _ => False)) f 20 [(0, .ref (b + 0)), (1, .int x1), (2, .int x2)] [.ref (b + 0)])
  replace h := h (fun (f : sx_F) (s1 : Int32) => sx_J (sx_wp D G b lyM 26) p l e { frames := 3, cells := 0, slots := 0, locals := 56 } s m args below meth c (sx_A b 26 s.heap.size) 3 0 0 (sx_fin (sx_wp D G b lyM 26) (sx_A b 26 s.heap.size) below args s 0 0 (sx_qi Q) (fun _ _ => False)) f 21 [(0, .ref (b + 0)), (1, .int x1), (2, .int x2)] [.int s1, .ref (b + 0)])
  replace h := h (by
    intro f h
    refine sx_iconst C dX7_version_20 0 (by decide) 21 rfl ?_
    exact sx_sub [0, 1, 2] rfl h)
  replace h := h (by
    intro f s1 h
    refine sx_iconst C dX7_version_21 1 (by decide) 22 rfl ?_
    refine sx_iconst C dX7_version_22 1 (by decide) 23 rfl ?_
    refine sx_callV C ht hB (st := []) dX7_version_23 (c_X7_goes hf h) mi_X7_goes lk_X7_105 mn_X7_goes ms_X7_goes (by decide) lyM_0 rfl rfl rfl rfl ⟨⟨(Nat.le_of_ble_eq_true rfl), (Nat.le_of_ble_eq_true rfl)⟩, (Nat.le_of_ble_eq_true rfl), (Nat.le_of_ble_eq_true rfl)⟩ (Nat.le_of_ble_eq_true rfl) ⟨(Nat.le_of_ble_eq_true rfl), (Nat.le_of_ble_eq_true rfl)⟩ (fun _ _ hx => hx.elim) 26 rfl (fun v g1 h => ?_)
    obtain ⟨r2, rfl, h⟩ := h
    refine sx_if_eq C dX7_version_26 42 29 (by decide) rfl (fun c3 => ?_) (fun c3 => ?_)
    · replace h := h.1 c3
      refine sx_iconst C dX7_version_42 0 (by decide) 43 rfl ?_
      exact sx_iret C dX7_version_43 hr (Nat.le_of_ble_eq_true rfl) (Nat.le_of_ble_eq_true rfl) ⟨_, rfl, h⟩
    · replace h := h.2 c3
      refine sx_aload_n C dX7_version_29 0 0 rfl rfl 30 rfl ?_
      refine sx_getq C (T := TX7) (C0 := RX7) (N := 34) (j := 4) dX7_version_30 fl_X7_22 inw_X7 rfl (by decide) rfl (by decide) lyM_0 rfl 33 rfl ?_
      refine sx_iload_n C dX7_version_33 1 1 rfl rfl 34 rfl ?_
      refine sx_iload_n C dX7_version_34 2 2 rfl rfl 35 rfl ?_
      refine sx_callS C ht hB (st := [.ref (b + 5)]) dX7_version_35 (c_X7_cell hf h) mi_X7_cell lk_X7_116 mt_X7_cell rfl rfl ⟨⟨(Nat.le_of_ble_eq_true rfl), (Nat.le_of_ble_eq_true rfl)⟩, (Nat.le_of_ble_eq_true rfl), (Nat.le_of_ble_eq_true rfl)⟩ (Nat.le_of_ble_eq_true rfl) ⟨(Nat.le_of_ble_eq_true rfl), (Nat.le_of_ble_eq_true rfl)⟩ (fun _ _ hx => hx.elim) 38 rfl (fun v g5 h => ?_)
      obtain ⟨⟨r4, rfl, h⟩, rfl⟩ := h
      refine sx_iald C dX7_version_38 (by decide) lyM_5 h.1 39 rfl ?_
      replace h := h.2
      refine sx_goto C dX7_version_39 43 (by decide) ?_
      exact sx_iret C dX7_version_43 hr (Nat.le_of_ble_eq_true rfl) (Nat.le_of_ble_eq_true rfl) ⟨_, rfl, h⟩)
  refine sx_sub (lv' := [(0, .ref (b + 0)), (1, .int x1), (2, .int x2)]) [0, 1, 2] rfl ?_
  refine sx_aload_n C dX7_version_0 0 0 rfl rfl 1 rfl ?_
  refine sx_iload_n C dX7_version_1 1 1 rfl rfl 2 rfl ?_
  refine sx_callS C ht hB (st := [.ref (b + 0)]) dX7_version_2 (c_X7_isInstrument hf h) mi_X7_isInstrument lk_X7_109 mt_X7_isInstrument rfl rfl ⟨⟨(Nat.le_of_ble_eq_true rfl), (Nat.le_of_ble_eq_true rfl)⟩, (Nat.le_of_ble_eq_true rfl), (Nat.le_of_ble_eq_true rfl)⟩ (Nat.le_of_ble_eq_true rfl) ⟨(Nat.le_of_ble_eq_true rfl), (Nat.le_of_ble_eq_true rfl)⟩ (fun _ _ hx => hx.elim) 5 rfl (fun v g7 h => ?_)
  obtain ⟨⟨r6, rfl, h⟩, rfl⟩ := h
  refine sx_if_eq C dX7_version_5 20 8 (by decide) rfl (fun c8 => ?_) (fun c8 => ?_)
  · replace h := h.1 c8
    exact sx_sub [0, 1, 2] rfl h
  · replace h := h.2 c8
    refine sx_aload_n C dX7_version_8 0 0 rfl rfl 9 rfl ?_
    refine sx_iload_n C dX7_version_9 2 2 rfl rfl 10 rfl ?_
    refine sx_callV C ht hB (st := [.ref (b + 0)]) dX7_version_10 (c_X7_isBar hf h) mi_X7_isBar lk_X7_113 mn_X7_isBar ms_X7_isBar (by decide) lyM_0 rfl rfl rfl rfl ⟨⟨(Nat.le_of_ble_eq_true rfl), (Nat.le_of_ble_eq_true rfl)⟩, (Nat.le_of_ble_eq_true rfl), (Nat.le_of_ble_eq_true rfl)⟩ (Nat.le_of_ble_eq_true rfl) ⟨(Nat.le_of_ble_eq_true rfl), (Nat.le_of_ble_eq_true rfl)⟩ (fun _ _ hx => hx.elim) 13 rfl (fun v g10 h => ?_)
    obtain ⟨⟨r9, rfl, h⟩, rfl⟩ := h
    refine sx_if_eq C dX7_version_13 20 16 (by decide) rfl (fun c11 => ?_) (fun c11 => ?_)
    · replace h := h.1 c11
      exact sx_sub [0, 1, 2] rfl h
    · replace h := h.2 c11
      refine sx_iconst C dX7_version_16 1 (by decide) 17 rfl ?_
      refine sx_goto C dX7_version_17 21 (by decide) ?_
      exact sx_sub [0, 1, 2] rfl h
set_option maxRecDepth 100000 in
set_option maxHeartbeats 4000000 in
theorem c_X7_time {l : Launch} {D : va_G} {G : sx_G} {b : Nat} (hf : l.stackTraces = false) {f : sx_F} {x1 : Int32} {Q : Int32 → sx_F → Prop}  (h : P_X7_time f x1 Q) : sx_Met l D G b 26 lyM yX7_time cX7_time 5 (some .int) 2 36 0 0 [.ref (b + 0), .int x1] f (sx_qi Q) (fun _ _ => False) := by
  refine sx_enter (own := RX7) hf rfl rfl (Nat.le_of_ble_eq_true rfl) ?_
  intro p e s m args below meth c C hr ht
  have hB : ∀ k, k < 26 → sx_A b 26 s.heap.size (b + k) := fun k h => sx_A.in h
  unfold P_X7_time at h
  replace h := h (fun (f : sx_F) (v2 : Int32) (v3 : Int32) (v4 : Int32) => sx_J (sx_wp D G b lyM 26) p l e { frames := 2, cells := 0, slots := 0, locals := 36 } s m args below meth c (sx_A b 26 s.heap.size) 5 0 0 (sx_fin (sx_wp D G b lyM 26) (sx_A b 26 s.heap.size) below args s 0 0 (sx_qi Q) (fun _ _ => False)) f 21 [(0, .ref (b + 0)), (1, .int x1), (2, .int v2), (3, .int v3), (4, .int v4)] [])
  replace h := h (by
    intro f v2 v3 v4 h
    refine sx_iload_n C dX7_time_21 3 3 rfl rfl 22 rfl ?_
    refine sx_if_eq C dX7_time_22 47 25 (by decide) rfl (fun c1 => ?_) (fun c1 => ?_)
    · replace h := h.1 c1
      refine sx_iload_n C dX7_time_47 2 2 rfl rfl 48 rfl ?_
      exact sx_iret C dX7_time_48 hr (Nat.le_of_ble_eq_true rfl) (Nat.le_of_ble_eq_true rfl) ⟨_, rfl, h⟩
    · replace h := h.2 c1
      refine sx_iload C dX7_time_25 4 rfl 27 rfl ?_
      refine sx_iload_n C dX7_time_27 1 1 rfl rfl 28 rfl ?_
      refine sx_icmp_ge C dX7_time_28 47 31 (by decide) rfl (fun c2 => ?_) (fun c2 => ?_)
      · replace h := h.1 c2
        refine sx_iload_n C dX7_time_47 2 2 rfl rfl 48 rfl ?_
        exact sx_iret C dX7_time_48 hr (Nat.le_of_ble_eq_true rfl) (Nat.le_of_ble_eq_true rfl) ⟨_, rfl, h⟩
      · replace h := h.2 c2
        refine sx_iload_n C dX7_time_31 2 2 rfl rfl 32 rfl ?_
        refine sx_aload_n C dX7_time_32 0 0 rfl rfl 33 rfl ?_
        refine sx_getq C (T := TX7) (C0 := RX7) (N := 34) (j := 0) dX7_time_33 fl_X7_7 inw_X7 rfl (by decide) rfl (by decide) lyM_0 rfl 36 rfl ?_
        refine sx_iload C dX7_time_36 4 rfl 38 rfl ?_
        refine sx_iald C dX7_time_38 (by decide) lyM_1 h.1 39 rfl ?_
        replace h := h.2
        refine sx_iadd C dX7_time_39 40 rfl ?_
        refine sx_topi (fun y3 ey3 => ?_)
        replace h := h y3 ey3
        refine sx_istore_n C dX7_time_40 2 rfl [(2, .int y3), (0, .ref (b + 0)), (1, .int x1), (3, .int v3), (4, .int v4)] (by decide) rfl 41 rfl ?_
        obtain ⟨y4, ey4⟩ : ∃ w : Int32, w = v4 + 1 := ⟨_, rfl⟩
        replace h := h y4 ey4
        refine sx_iinc C dX7_time_41 4 rfl y4 (by rw [ey4]; rfl) [(4, .int y4), (2, .int y3), (0, .ref (b + 0)), (1, .int x1), (3, .int v3)] (by decide) rfl 44 rfl ?_
        refine sx_goto C dX7_time_44 21 (by decide) ?_
        exact sx_sub [2, 3, 1, 4, 0] rfl h)
  refine sx_sub (lv' := [(0, .ref (b + 0)), (1, .int x1)]) [0, 1] rfl ?_
  refine sx_iconst C dX7_time_0 0 (by decide) 1 rfl ?_
  refine sx_istore_n C dX7_time_1 2 rfl [(2, .int 0), (0, .ref (b + 0)), (1, .int x1)] (by decide) rfl 2 rfl ?_
  refine sx_aload_n C dX7_time_2 0 1 rfl rfl 3 rfl ?_
  refine sx_iload_n C dX7_time_3 1 2 rfl rfl 4 rfl ?_
  refine sx_iconst C dX7_time_4 0 (by decide) 5 rfl ?_
  refine sx_aload_n C dX7_time_5 0 1 rfl rfl 6 rfl ?_
  refine sx_geti C (T := TX7) (C0 := RX7) (N := 34) (j := 5) dX7_time_6 fl_X7_99 inw_X7 rfl (by decide) rfl (by decide) lyM_0 rfl 9 rfl ?_
  refine sx_callS C ht hB (st := [.ref (b + 0)]) dX7_time_9 (c_X7_in hf h) mi_X7_in lk_X7_95 mt_X7_in rfl rfl ⟨⟨(Nat.le_of_ble_eq_true rfl), (Nat.le_of_ble_eq_true rfl)⟩, (Nat.le_of_ble_eq_true rfl), (Nat.le_of_ble_eq_true rfl)⟩ (Nat.le_of_ble_eq_true rfl) ⟨(Nat.le_of_ble_eq_true rfl), (Nat.le_of_ble_eq_true rfl)⟩ (fun _ _ hx => hx.elim) 12 rfl (fun v g6 h => ?_)
  obtain ⟨⟨r5, rfl, h⟩, rfl⟩ := h
  refine sx_iconst C dX7_time_12 1 (by decide) 13 rfl ?_
  refine sx_iconst C dX7_time_13 1 (by decide) 14 rfl ?_
  refine sx_callV C ht hB (st := []) dX7_time_14 (c_X7_goes hf h) mi_X7_goes lk_X7_105 mn_X7_goes ms_X7_goes (by decide) lyM_0 rfl rfl rfl rfl ⟨⟨(Nat.le_of_ble_eq_true rfl), (Nat.le_of_ble_eq_true rfl)⟩, (Nat.le_of_ble_eq_true rfl), (Nat.le_of_ble_eq_true rfl)⟩ (Nat.le_of_ble_eq_true rfl) ⟨(Nat.le_of_ble_eq_true rfl), (Nat.le_of_ble_eq_true rfl)⟩ (fun _ _ hx => hx.elim) 17 rfl (fun v g7 h => ?_)
  obtain ⟨r8, rfl, h⟩ := h
  refine sx_istore_n C dX7_time_17 3 rfl [(3, .int r8), (2, .int 0), (0, .ref (b + 0)), (1, .int x1)] (by decide) rfl 18 rfl ?_
  refine sx_iconst C dX7_time_18 0 (by decide) 19 rfl ?_
  refine sx_istore C dX7_time_19 [(4, .int 0), (3, .int r8), (2, .int 0), (0, .ref (b + 0)), (1, .int x1)] (by decide) rfl 21 rfl ?_
  exact sx_sub [3, 4, 2, 1, 0] rfl h
set_option maxRecDepth 100000 in
set_option maxHeartbeats 4000000 in
theorem c_X7_timeByBars {l : Launch} {D : va_G} {G : sx_G} {b : Nat} (hf : l.stackTraces = false) {f : sx_F} {x1 : Int32} {Q : Int32 → sx_F → Prop}  (h : P_X7_timeByBars f x1 Q) : sx_Met l D G b 26 lyM yX7_timeByBars cX7_timeByBars 2 (some .int) 3 60 0 0 [.ref (b + 0), .int x1] f (sx_qi Q) (fun _ _ => False) := by
  refine sx_enter (own := RX7) hf rfl rfl (Nat.le_of_ble_eq_true rfl) ?_
  intro p e s m args below meth c C hr ht
  have hB : ∀ k, k < 26 → sx_A b 26 s.heap.size (b + k) := fun k h => sx_A.in h
  unfold P_X7_timeByBars at h
  refine sx_sub (lv' := [(0, .ref (b + 0)), (1, .int x1)]) [0, 1] rfl ?_
  refine sx_aload_n C dX7_timeByBars_0 0 0 rfl rfl 1 rfl ?_
  refine sx_iload_n C dX7_timeByBars_1 1 1 rfl rfl 2 rfl ?_
  refine sx_callV C ht hB (st := []) dX7_timeByBars_2 (c_X7_time hf h) mi_X7_time lk_X7_155 mn_X7_time ms_X7_time (by decide) lyM_0 rfl rfl rfl rfl ⟨⟨(Nat.le_of_ble_eq_true rfl), (Nat.le_of_ble_eq_true rfl)⟩, (Nat.le_of_ble_eq_true rfl), (Nat.le_of_ble_eq_true rfl)⟩ (Nat.le_of_ble_eq_true rfl) ⟨(Nat.le_of_ble_eq_true rfl), (Nat.le_of_ble_eq_true rfl)⟩ (fun _ _ hx => hx.elim) 5 rfl (fun v g1 h => ?_)
  obtain ⟨r2, rfl, h⟩ := h
  exact sx_iret C dX7_timeByBars_5 hr (Nat.le_of_ble_eq_true rfl) (Nat.le_of_ble_eq_true rfl) ⟨_, rfl, h⟩
set_option maxRecDepth 100000 in
set_option maxHeartbeats 4000000 in
theorem c_X7_isSilent {l : Launch} {D : va_G} {G : sx_G} {b : Nat} (hf : l.stackTraces = false) {f : sx_F} {x1 : Int32} {x2 : Int32} {Q : Int32 → Prop}  (h : P_X7_isSilent f x1 x2 Q) : sx_Met l D G b 26 lyM yX7_isSilent cX7_isSilent 6 (some .boolean) 2 34 0 0 [.ref (b + 0), .int x1, .int x2] f (sx_pi f Q) (fun _ _ => False) := by
  refine sx_enter (own := RX7) hf rfl rfl (Nat.le_of_ble_eq_true rfl) ?_
  intro p e s m args below meth c C hr ht
  have hB : ∀ k, k < 26 → sx_A b 26 s.heap.size (b + k) := fun k h => sx_A.in h
  unfold P_X7_isSilent at h
  replace h := h (fun (v3 : Int32) (v4 : Int32) (v5 : Int32) => sx_J (sx_wp D G b lyM 26) p l e { frames := 2, cells := 0, slots := 0, locals := 34 } s m args below meth c (sx_A b 26 s.heap.size) 6 0 0 (sx_fin (sx_wp D G b lyM 26) (sx_A b 26 s.heap.size) below args s 0 0 (sx_pi f Q) (fun _ _ => False)) f 12 [(0, .ref (b + 0)), (3, .int v3), (4, .int v4), (5, .int v5)] [])
  replace h := h (fun (v4 : Int32) (v5 : Int32) => sx_J (sx_wp D G b lyM 26) p l e { frames := 2, cells := 0, slots := 0, locals := 34 } s m args below meth c (sx_A b 26 s.heap.size) 6 0 0 (sx_fin (sx_wp D G b lyM 26) (sx_A b 26 s.heap.size) below args s 0 0 (sx_pi f Q) (fun _ _ => False)) f 48 [(0, .ref (b + 0)), (4, .int v4), (5, .int v5)] [])
  replace h := h (fun (v4 : Int32) (v5 : Int32) (s0 : Int32) => sx_J (sx_wp D G b lyM 26) p l e { frames := 2, cells := 0, slots := 0, locals := 34 } s m args below meth c (sx_A b 26 s.heap.size) 6 0 0 (sx_fin (sx_wp D G b lyM 26) (sx_A b 26 s.heap.size) below args s 0 0 (sx_pi f Q) (fun _ _ => False)) f 49 [(0, .ref (b + 0)), (4, .int v4), (5, .int v5)] [.int s0])
  replace h := h (by
    intro v3 v4 v5 h
    refine sx_iload C dX7_isSilent_12 3 rfl 14 rfl ?_
    refine sx_aload_n C dX7_isSilent_14 0 0 rfl rfl 15 rfl ?_
    refine sx_getq C (T := TX7) (C0 := RX7) (N := 34) (j := 3) dX7_isSilent_15 fl_X7_19 inw_X7 rfl (by decide) rfl (by decide) lyM_0 rfl 18 rfl ?_
    refine sx_iload C dX7_isSilent_18 2 rfl 20 rfl ?_
    refine sx_iald C dX7_isSilent_20 (by decide) lyM_4 h.1 21 rfl ?_
    replace h := h.2
    refine sx_icmp_ge C dX7_isSilent_21 56 24 (by decide) rfl (fun c1 => ?_) (fun c1 => ?_)
    · replace h := h.1 c1
      refine sx_iload_n C dX7_isSilent_56 3 1 rfl rfl 57 rfl ?_
      exact sx_zret C dX7_isSilent_57 hr (Nat.le_of_ble_eq_true rfl) (Nat.le_of_ble_eq_true rfl) h.1 ⟨⟨_, rfl, h.2⟩, rfl⟩
    · replace h := h.2 c1
      refine sx_iload_n C dX7_isSilent_24 3 1 rfl rfl 25 rfl ?_
      refine sx_if_eq C dX7_isSilent_25 48 28 (by decide) rfl (fun c2 => ?_) (fun c2 => ?_)
      · replace h := h.1 c2
        exact sx_sub [0, 2, 3] rfl h
      · replace h := h.2 c2
        refine sx_aload_n C dX7_isSilent_28 0 0 rfl rfl 29 rfl ?_
        refine sx_getq C (T := TX7) (C0 := RX7) (N := 34) (j := 2) dX7_isSilent_29 fl_X7_16 inw_X7 rfl (by decide) rfl (by decide) lyM_0 rfl 32 rfl ?_
        refine sx_bipush C dX7_isSilent_32 8 (by decide) 34 rfl ?_
        refine sx_iload C dX7_isSilent_34 2 rfl 36 rfl ?_
        refine sx_imul C dX7_isSilent_36 37 rfl ?_
        refine sx_iload C dX7_isSilent_37 3 rfl 39 rfl ?_
        refine sx_iadd C dX7_isSilent_39 40 rfl ?_
        refine sx_iald C dX7_isSilent_40 (by decide) lyM_3 h.1 41 rfl ?_
        replace h := h.2
        refine sx_if_ne C dX7_isSilent_41 48 44 (by decide) rfl (fun c3 => ?_) (fun c3 => ?_)
        · replace h := h.2 c3
          exact sx_sub [0, 2, 3] rfl h
        · replace h := h.1 c3
          refine sx_iconst C dX7_isSilent_44 1 (by decide) 45 rfl ?_
          refine sx_goto C dX7_isSilent_45 49 (by decide) ?_
          exact sx_sub [0, 2, 3] rfl h)
  replace h := h (by
    intro v4 v5 h
    refine sx_iconst C dX7_isSilent_48 0 (by decide) 49 rfl ?_
    exact sx_sub [0, 1, 2] rfl h)
  replace h := h (by
    intro v4 v5 s0 h
    refine sx_istore_n C dX7_isSilent_49 3 rfl [(3, .int s0), (0, .ref (b + 0)), (4, .int v4), (5, .int v5)] (by decide) rfl 50 rfl ?_
    obtain ⟨y4, ey4⟩ : ∃ w : Int32, w = v5 + 1 := ⟨_, rfl⟩
    replace h := h y4 ey4
    refine sx_iinc C dX7_isSilent_50 3 rfl y4 (by rw [ey4]; rfl) [(5, .int y4), (3, .int s0), (0, .ref (b + 0)), (4, .int v4)] (by decide) rfl 53 rfl ?_
    refine sx_goto C dX7_isSilent_53 12 (by decide) ?_
    exact sx_sub [2, 1, 3, 0] rfl h)
  refine sx_sub (lv' := [(0, .ref (b + 0)), (1, .int x1), (2, .int x2)]) [0, 1, 2] rfl ?_
  refine sx_iconst C dX7_isSilent_0 1 (by decide) 1 rfl ?_
  refine sx_istore_n C dX7_isSilent_1 3 rfl [(3, .int 1), (0, .ref (b + 0)), (1, .int x1), (2, .int x2)] (by decide) rfl 2 rfl ?_
  refine sx_iload_n C dX7_isSilent_2 1 2 rfl rfl 3 rfl ?_
  refine sx_iload_n C dX7_isSilent_3 2 3 rfl rfl 4 rfl ?_
  refine sx_callS C ht hB (st := []) dX7_isSilent_4 (c_X7_cell hf h) mi_X7_cell lk_X7_116 mt_X7_cell rfl rfl ⟨⟨(Nat.le_of_ble_eq_true rfl), (Nat.le_of_ble_eq_true rfl)⟩, (Nat.le_of_ble_eq_true rfl), (Nat.le_of_ble_eq_true rfl)⟩ (Nat.le_of_ble_eq_true rfl) ⟨(Nat.le_of_ble_eq_true rfl), (Nat.le_of_ble_eq_true rfl)⟩ (fun _ _ hx => hx.elim) 7 rfl (fun v g6 h => ?_)
  obtain ⟨⟨r5, rfl, h⟩, rfl⟩ := h
  refine sx_istore C dX7_isSilent_7 [(4, .int r5), (3, .int 1), (0, .ref (b + 0)), (1, .int x1), (2, .int x2)] (by decide) rfl 9 rfl ?_
  refine sx_iconst C dX7_isSilent_9 0 (by decide) 10 rfl ?_
  refine sx_istore C dX7_isSilent_10 [(5, .int 0), (4, .int r5), (3, .int 1), (0, .ref (b + 0)), (1, .int x1), (2, .int x2)] (by decide) rfl 12 rfl ?_
  exact sx_sub [3, 2, 1, 0] rfl h
set_option maxRecDepth 100000 in
set_option maxHeartbeats 4000000 in
theorem c_X7_cueFor {l : Launch} {D : va_G} {G : sx_G} {b : Nat} (hf : l.stackTraces = false) {f : sx_F} {x1 : Int32} {x2 : Int32} {Q : Int32 → Prop}  (h : P_X7_cueFor f x1 x2 Q) : sx_Met l D G b 26 lyM yX7_cueFor cX7_cueFor 6 (some .int) 3 59 0 0 [.ref (b + 0), .int x1, .int x2] f (sx_pi f Q) (fun _ _ => False) := by
  refine sx_enter (own := RX7) hf rfl rfl (Nat.le_of_ble_eq_true rfl) ?_
  intro p e s m args below meth c C hr ht
  have hB : ∀ k, k < 26 → sx_A b 26 s.heap.size (b + k) := fun k h => sx_A.in h
  unfold P_X7_cueFor at h
  replace h := h (fun (v3 : Int32) (v4 : Int32) => sx_J (sx_wp D G b lyM 26) p l e { frames := 3, cells := 0, slots := 0, locals := 59 } s m args below meth c (sx_A b 26 s.heap.size) 6 0 0 (sx_fin (sx_wp D G b lyM 26) (sx_A b 26 s.heap.size) below args s 0 0 (sx_pi f Q) (fun _ _ => False)) f 5 [(0, .ref (b + 0)), (1, .int x1), (2, .int x2), (3, .int v3), (4, .int v4)] [])
  replace h := h (fun (v3 : Int32) (v4 : Int32) => sx_J (sx_wp D G b lyM 26) p l e { frames := 3, cells := 0, slots := 0, locals := 59 } s m args below meth c (sx_A b 26 s.heap.size) 6 0 0 (sx_fin (sx_wp D G b lyM 26) (sx_A b 26 s.heap.size) below args s 0 0 (sx_pi f Q) (fun _ _ => False)) f 31 [(0, .ref (b + 0)), (1, .int x1), (2, .int x2), (3, .int v3), (4, .int v4)] [])
  replace h := h (fun (v3 : Int32) (v4 : Int32) (s0 : Int32) => sx_J (sx_wp D G b lyM 26) p l e { frames := 3, cells := 0, slots := 0, locals := 59 } s m args below meth c (sx_A b 26 s.heap.size) 6 0 0 (sx_fin (sx_wp D G b lyM 26) (sx_A b 26 s.heap.size) below args s 0 0 (sx_pi f Q) (fun _ _ => False)) f 32 [(0, .ref (b + 0)), (1, .int x1), (2, .int x2), (3, .int v3), (4, .int v4)] [.int s0])
  replace h := h (fun (v4 : Int32) => sx_J (sx_wp D G b lyM 26) p l e { frames := 3, cells := 0, slots := 0, locals := 59 } s m args below meth c (sx_A b 26 s.heap.size) 6 0 0 (sx_fin (sx_wp D G b lyM 26) (sx_A b 26 s.heap.size) below args s 0 0 (sx_pi f Q) (fun _ _ => False)) f 68 [(0, .ref (b + 0)), (1, .int x1), (2, .int x2), (4, .int v4)] [])
  replace h := h (fun (v3 : Int32) (v4 : Int32) => sx_J (sx_wp D G b lyM 26) p l e { frames := 3, cells := 0, slots := 0, locals := 59 } s m args below meth c (sx_A b 26 s.heap.size) 6 0 0 (sx_fin (sx_wp D G b lyM 26) (sx_A b 26 s.heap.size) below args s 0 0 (sx_pi f Q) (fun _ _ => False)) f 73 [(0, .ref (b + 0)), (1, .int x1), (2, .int x2), (3, .int v3), (4, .int v4)] [])
  replace h := h (fun (v4 : Int32) (s0 : Int32) => sx_J (sx_wp D G b lyM 26) p l e { frames := 3, cells := 0, slots := 0, locals := 59 } s m args below meth c (sx_A b 26 s.heap.size) 6 0 0 (sx_fin (sx_wp D G b lyM 26) (sx_A b 26 s.heap.size) below args s 0 0 (sx_pi f Q) (fun _ _ => False)) f 74 [(0, .ref (b + 0)), (1, .int x1), (2, .int x2), (4, .int v4)] [.int s0])
  replace h := h (by
    intro v3 v4 h
    refine sx_iload C dX7_cueFor_5 4 rfl 7 rfl ?_
    refine sx_iconst C dX7_cueFor_7 5 (by decide) 8 rfl ?_
    refine sx_icmp_ge C dX7_cueFor_8 81 11 (by decide) rfl (fun c1 => ?_) (fun c1 => ?_)
    · replace h := h.1 c1
      refine sx_iload_n C dX7_cueFor_81 3 3 rfl rfl 82 rfl ?_
      exact sx_iret C dX7_cueFor_82 hr (Nat.le_of_ble_eq_true rfl) (Nat.le_of_ble_eq_true rfl) ⟨⟨_, rfl, h⟩, rfl⟩
    · replace h := h.2 c1
      refine sx_iload C dX7_cueFor_11 4 rfl 13 rfl ?_
      refine sx_iload_n C dX7_cueFor_13 1 1 rfl rfl 14 rfl ?_
      refine sx_icmp_eq C dX7_cueFor_14 31 17 (by decide) rfl (fun c2 => ?_) (fun c2 => ?_)
      · replace h := h.1 c2
        exact sx_sub [0, 1, 2, 3, 4] rfl h
      · replace h := h.2 c2
        refine sx_aload_n C dX7_cueFor_17 0 0 rfl rfl 18 rfl ?_
        refine sx_iload C dX7_cueFor_18 4 rfl 20 rfl ?_
        refine sx_iload_n C dX7_cueFor_20 2 2 rfl rfl 21 rfl ?_
        refine sx_callV C ht hB (st := []) dX7_cueFor_21 (c_X7_isSilent hf h) mi_X7_isSilent lk_X7_158 mn_X7_isSilent ms_X7_isSilent (by decide) lyM_0 rfl rfl rfl rfl ⟨⟨(Nat.le_of_ble_eq_true rfl), (Nat.le_of_ble_eq_true rfl)⟩, (Nat.le_of_ble_eq_true rfl), (Nat.le_of_ble_eq_true rfl)⟩ (Nat.le_of_ble_eq_true rfl) ⟨(Nat.le_of_ble_eq_true rfl), (Nat.le_of_ble_eq_true rfl)⟩ (fun _ _ hx => hx.elim) 24 rfl (fun v g4 h => ?_)
        obtain ⟨⟨r3, rfl, h⟩, rfl⟩ := h
        refine sx_if_ne C dX7_cueFor_24 31 27 (by decide) rfl (fun c5 => ?_) (fun c5 => ?_)
        · replace h := h.2 c5
          exact sx_sub [0, 1, 2, 3, 4] rfl h
        · replace h := h.1 c5
          refine sx_iconst C dX7_cueFor_27 1 (by decide) 28 rfl ?_
          refine sx_goto C dX7_cueFor_28 32 (by decide) ?_
          exact sx_sub [0, 1, 2, 3, 4] rfl h)
  replace h := h (by
    intro v3 v4 h
    refine sx_iconst C dX7_cueFor_31 0 (by decide) 32 rfl ?_
    exact sx_sub [0, 1, 2, 3, 4] rfl h)
  replace h := h (by
    intro v3 v4 s0 h
    refine sx_istore C dX7_cueFor_32 [(5, .int s0), (0, .ref (b + 0)), (1, .int x1), (2, .int x2), (3, .int v3), (4, .int v4)] (by decide) rfl 34 rfl ?_
    refine sx_iload C dX7_cueFor_34 0 rfl 36 rfl ?_
    refine sx_if_eq C dX7_cueFor_36 73 39 (by decide) rfl (fun c6 => ?_) (fun c6 => ?_)
    · replace h := h.1 c6
      exact sx_sub [1, 2, 3, 4, 5] rfl h
    · replace h := h.2 c6
      refine sx_iload_n C dX7_cueFor_39 3 4 rfl rfl 40 rfl ?_
      refine sx_iconst C dX7_cueFor_40 (-1) (by decide) 41 rfl ?_
      refine sx_icmp_eq C dX7_cueFor_41 68 44 (by decide) rfl (fun c7 => ?_) (fun c7 => ?_)
      · replace h := h.1 c7
        exact sx_sub [1, 2, 3, 5] rfl h
      · replace h := h.2 c7
        refine sx_aload_n C dX7_cueFor_44 0 1 rfl rfl 45 rfl ?_
        refine sx_getq C (T := TX7) (C0 := RX7) (N := 34) (j := 3) dX7_cueFor_45 fl_X7_19 inw_X7 rfl (by decide) rfl (by decide) lyM_0 rfl 48 rfl ?_
        refine sx_iload C dX7_cueFor_48 5 rfl 50 rfl ?_
        refine sx_iload_n C dX7_cueFor_50 2 3 rfl rfl 51 rfl ?_
        refine sx_callS C ht hB (st := [.ref (b + 4)]) dX7_cueFor_51 (c_X7_cell hf h) mi_X7_cell lk_X7_116 mt_X7_cell rfl rfl ⟨⟨(Nat.le_of_ble_eq_true rfl), (Nat.le_of_ble_eq_true rfl)⟩, (Nat.le_of_ble_eq_true rfl), (Nat.le_of_ble_eq_true rfl)⟩ (Nat.le_of_ble_eq_true rfl) ⟨(Nat.le_of_ble_eq_true rfl), (Nat.le_of_ble_eq_true rfl)⟩ (fun _ _ hx => hx.elim) 54 rfl (fun v g9 h => ?_)
        obtain ⟨⟨r8, rfl, h⟩, rfl⟩ := h
        refine sx_iald C dX7_cueFor_54 (by decide) lyM_4 h.1 55 rfl ?_
        replace h := h.2
        refine sx_aload_n C dX7_cueFor_55 0 1 rfl rfl 56 rfl ?_
        refine sx_getq C (T := TX7) (C0 := RX7) (N := 34) (j := 3) dX7_cueFor_56 fl_X7_19 inw_X7 rfl (by decide) rfl (by decide) lyM_0 rfl 59 rfl ?_
        refine sx_iload_n C dX7_cueFor_59 3 4 rfl rfl 60 rfl ?_
        refine sx_iload_n C dX7_cueFor_60 2 3 rfl rfl 61 rfl ?_
        refine sx_callS C ht hB (st := [.ref (b + 4), .int (f 4 r8.toNatClampNeg)]) dX7_cueFor_61 (c_X7_cell hf h) mi_X7_cell lk_X7_116 mt_X7_cell rfl rfl ⟨⟨(Nat.le_of_ble_eq_true rfl), (Nat.le_of_ble_eq_true rfl)⟩, (Nat.le_of_ble_eq_true rfl), (Nat.le_of_ble_eq_true rfl)⟩ (Nat.le_of_ble_eq_true rfl) ⟨(Nat.le_of_ble_eq_true rfl), (Nat.le_of_ble_eq_true rfl)⟩ (fun _ _ hx => hx.elim) 64 rfl (fun v g11 h => ?_)
        obtain ⟨⟨r10, rfl, h⟩, rfl⟩ := h
        refine sx_iald C dX7_cueFor_64 (by decide) lyM_4 h.1 65 rfl ?_
        replace h := h.2
        refine sx_icmp_le C dX7_cueFor_65 73 68 (by decide) rfl (fun c12 => ?_) (fun c12 => ?_)
        · replace h := h.1 c12
          exact sx_sub [1, 2, 3, 4, 5] rfl h
        · replace h := h.2 c12
          exact sx_sub [1, 2, 3, 5] rfl h)
  replace h := h (by
    intro v4 h
    refine sx_iload C dX7_cueFor_68 3 rfl 70 rfl ?_
    refine sx_goto C dX7_cueFor_70 74 (by decide) ?_
    exact sx_sub [0, 1, 2, 3] rfl h)
  replace h := h (by
    intro v3 v4 h
    refine sx_iload_n C dX7_cueFor_73 3 3 rfl rfl 74 rfl ?_
    exact sx_sub [0, 1, 2, 4] rfl h)
  replace h := h (by
    intro v4 s0 h
    refine sx_istore_n C dX7_cueFor_74 3 rfl [(3, .int s0), (0, .ref (b + 0)), (1, .int x1), (2, .int x2), (4, .int v4)] (by decide) rfl 75 rfl ?_
    obtain ⟨y13, ey13⟩ : ∃ w : Int32, w = v4 + 1 := ⟨_, rfl⟩
    replace h := h y13 ey13
    refine sx_iinc C dX7_cueFor_75 4 rfl y13 (by rw [ey13]; rfl) [(4, .int y13), (3, .int s0), (0, .ref (b + 0)), (1, .int x1), (2, .int x2)] (by decide) rfl 78 rfl ?_
    refine sx_goto C dX7_cueFor_78 5 (by decide) ?_
    exact sx_sub [2, 3, 4, 1, 0] rfl h)
  refine sx_sub (lv' := [(0, .ref (b + 0)), (1, .int x1), (2, .int x2)]) [0, 1, 2] rfl ?_
  refine sx_iconst C dX7_cueFor_0 (-1) (by decide) 1 rfl ?_
  refine sx_istore_n C dX7_cueFor_1 3 rfl [(3, .int (-1)), (0, .ref (b + 0)), (1, .int x1), (2, .int x2)] (by decide) rfl 2 rfl ?_
  refine sx_iconst C dX7_cueFor_2 0 (by decide) 3 rfl ?_
  refine sx_istore C dX7_cueFor_3 [(4, .int 0), (3, .int (-1)), (0, .ref (b + 0)), (1, .int x1), (2, .int x2)] (by decide) rfl 5 rfl ?_
  exact sx_sub [2, 3, 4, 1, 0] rfl h
set_option maxRecDepth 100000 in
set_option maxHeartbeats 4000000 in
theorem c_X7_adds {l : Launch} {D : va_G} {G : sx_G} {b : Nat} (hf : l.stackTraces = false) {f : sx_F} {x1 : Int32} {x2 : Int32} {x3 : Int32} {Q : sx_F → Prop}  (h : P_X7_adds f x1 x2 x3 Q) : sx_Met l D G b 26 lyM yX7_adds cX7_adds 4 (none) 1 13 0 0 [.ref (b + 0), .int x1, .int x2, .int x3] f (sx_qv Q) (fun _ _ => False) := by
  refine sx_enter (own := RX7) hf rfl rfl (Nat.le_of_ble_eq_true rfl) ?_
  intro p e s m args below meth c C hr ht
  have hB : ∀ k, k < 26 → sx_A b 26 s.heap.size (b + k) := fun k h => sx_A.in h
  unfold P_X7_adds at h
  refine sx_sub (lv' := [(0, .ref (b + 0)), (1, .int x1), (2, .int x2), (3, .int x3)]) [0, 1, 2, 3] rfl ?_
  refine sx_aload_n C dX7_adds_0 0 0 rfl rfl 1 rfl ?_
  refine sx_getq C (T := TX7) (C0 := RX7) (N := 34) (j := 17) dX7_adds_1 fl_X7_53 inw_X7 rfl (by decide) rfl (by decide) lyM_0 rfl 4 rfl ?_
  refine sx_aload_n C dX7_adds_4 0 0 rfl rfl 5 rfl ?_
  refine sx_geti C (T := TX7) (C0 := RX7) (N := 34) (j := 20) dX7_adds_5 fl_X7_161 inw_X7 rfl (by decide) rfl (by decide) lyM_0 rfl 8 rfl ?_
  refine sx_iload_n C dX7_adds_8 1 1 rfl rfl 9 rfl ?_
  refine sx_iast C dX7_adds_9 hB (by decide) lyM_13 h.1 10 rfl (fun g1 eg1 => ?_)
  replace h := h.2 g1 eg1
  refine sx_aload_n C dX7_adds_10 0 0 rfl rfl 11 rfl ?_
  refine sx_getq C (T := TX7) (C0 := RX7) (N := 34) (j := 18) dX7_adds_11 fl_X7_56 inw_X7 rfl (by decide) rfl (by decide) lyM_0 rfl 14 rfl ?_
  refine sx_aload_n C dX7_adds_14 0 0 rfl rfl 15 rfl ?_
  refine sx_geti C (T := TX7) (C0 := RX7) (N := 34) (j := 20) dX7_adds_15 fl_X7_161 inw_X7 rfl (by decide) rfl (by decide) lyM_0 rfl 18 rfl ?_
  refine sx_iload_n C dX7_adds_18 2 2 rfl rfl 19 rfl ?_
  refine sx_iast C dX7_adds_19 hB (by decide) lyM_14 h.1 20 rfl (fun g2 eg2 => ?_)
  replace h := h.2 g2 eg2
  refine sx_aload_n C dX7_adds_20 0 0 rfl rfl 21 rfl ?_
  refine sx_getq C (T := TX7) (C0 := RX7) (N := 34) (j := 19) dX7_adds_21 fl_X7_59 inw_X7 rfl (by decide) rfl (by decide) lyM_0 rfl 24 rfl ?_
  refine sx_aload_n C dX7_adds_24 0 0 rfl rfl 25 rfl ?_
  refine sx_geti C (T := TX7) (C0 := RX7) (N := 34) (j := 20) dX7_adds_25 fl_X7_161 inw_X7 rfl (by decide) rfl (by decide) lyM_0 rfl 28 rfl ?_
  refine sx_iload_n C dX7_adds_28 3 3 rfl rfl 29 rfl ?_
  refine sx_iast C dX7_adds_29 hB (by decide) lyM_15 h.1 30 rfl (fun g3 eg3 => ?_)
  replace h := h.2 g3 eg3
  refine sx_aload_n C dX7_adds_30 0 0 rfl rfl 31 rfl ?_
  refine sx_dup C dX7_adds_31 rfl 32 rfl ?_
  refine sx_geti C (T := TX7) (C0 := RX7) (N := 34) (j := 20) dX7_adds_32 fl_X7_161 inw_X7 rfl (by decide) rfl (by decide) lyM_0 rfl 35 rfl ?_
  refine sx_iconst C dX7_adds_35 1 (by decide) 36 rfl ?_
  refine sx_iadd C dX7_adds_36 37 rfl ?_
  refine sx_puti C (T := TX7) (C0 := RX7) (N := 34) (j := 20) dX7_adds_37 fl_X7_161 inw_X7 rfl tyX7 tyX7_ok nmX7 (by decide) rfl rfl rfl hB (by decide) lyM_0 rfl 40 rfl (fun g4 eg4 => ?_)
  replace h := h g4 eg4
  exact sx_vret C dX7_adds_40 hr (Nat.le_of_ble_eq_true rfl) (Nat.le_of_ble_eq_true rfl) ⟨rfl, h⟩
set_option maxRecDepth 100000 in
set_option maxHeartbeats 4000000 in
theorem c_X7_laysItems {l : Launch} {D : va_G} {G : sx_G} {b : Nat} (hf : l.stackTraces = false) {f : sx_F} {x1 : Int32} {Q : sx_F → Prop}  (h : P_X7_laysItems f x1 Q) : sx_Met l D G b 26 lyM yX7_laysItems cX7_laysItems 5 (none) 4 84 0 0 [.ref (b + 0), .int x1] f (sx_qv Q) (fun _ _ => False) := by
  refine sx_enter (own := RX7) hf rfl rfl (Nat.le_of_ble_eq_true rfl) ?_
  intro p e s m args below meth c C hr ht
  have hB : ∀ k, k < 26 → sx_A b 26 s.heap.size (b + k) := fun k h => sx_A.in h
  unfold P_X7_laysItems at h
  replace h := h (fun (f : sx_F) (v2 : Int32) => sx_J (sx_wp D G b lyM 26) p l e { frames := 4, cells := 0, slots := 0, locals := 84 } s m args below meth c (sx_A b 26 s.heap.size) 5 0 0 (sx_fin (sx_wp D G b lyM 26) (sx_A b 26 s.heap.size) below args s 0 0 (sx_qv Q) (fun _ _ => False)) f 7 [(0, .ref (b + 0)), (1, .int x1), (2, .int v2)] [])
  replace h := h (fun (f : sx_F) (v2 : Int32) (v3 : Int32) => sx_J (sx_wp D G b lyM 26) p l e { frames := 4, cells := 0, slots := 0, locals := 84 } s m args below meth c (sx_A b 26 s.heap.size) 5 0 0 (sx_fin (sx_wp D G b lyM 26) (sx_A b 26 s.heap.size) below args s 0 0 (sx_qv Q) (fun _ _ => False)) f 17 [(0, .ref (b + 0)), (1, .int x1), (2, .int v2), (3, .int v3)] [])
  replace h := h (fun (f : sx_F) (v2 : Int32) (v3 : Int32) => sx_J (sx_wp D G b lyM 26) p l e { frames := 4, cells := 0, slots := 0, locals := 84 } s m args below meth c (sx_A b 26 s.heap.size) 5 0 0 (sx_fin (sx_wp D G b lyM 26) (sx_A b 26 s.heap.size) below args s 0 0 (sx_qv Q) (fun _ _ => False)) f 45 [(0, .ref (b + 0)), (1, .int x1), (2, .int v2), (3, .int v3)] [])
  replace h := h (fun (f : sx_F) (v2 : Int32) (v3 : Int32) => sx_J (sx_wp D G b lyM 26) p l e { frames := 4, cells := 0, slots := 0, locals := 84 } s m args below meth c (sx_A b 26 s.heap.size) 5 0 0 (sx_fin (sx_wp D G b lyM 26) (sx_A b 26 s.heap.size) below args s 0 0 (sx_qv Q) (fun _ _ => False)) f 89 [(0, .ref (b + 0)), (1, .int x1), (2, .int v2), (3, .int v3)] [])
  replace h := h (fun (f : sx_F) (v2 : Int32) (v3 : Int32) (s0 : Int32) => sx_J (sx_wp D G b lyM 26) p l e { frames := 4, cells := 0, slots := 0, locals := 84 } s m args below meth c (sx_A b 26 s.heap.size) 5 0 0 (sx_fin (sx_wp D G b lyM 26) (sx_A b 26 s.heap.size) below args s 0 0 (sx_qv Q) (fun _ _ => False)) f 90 [(0, .ref (b + 0)), (1, .int x1), (2, .int v2), (3, .int v3)] [.int s0])
  replace h := h (fun (f : sx_F) (v3 : Int32) (v4 : Int32) (s1 : Int32) (s2 : Int32) => sx_J (sx_wp D G b lyM 26) p l e { frames := 4, cells := 0, slots := 0, locals := 84 } s m args below meth c (sx_A b 26 s.heap.size) 5 0 0 (sx_fin (sx_wp D G b lyM 26) (sx_A b 26 s.heap.size) below args s 0 0 (sx_qv Q) (fun _ _ => False)) f 109 [(0, .ref (b + 0)), (1, .int x1), (3, .int v3), (4, .int v4)] [.int s2, .int s1, .ref (b + 0)])
  replace h := h (fun (f : sx_F) (v3 : Int32) => sx_J (sx_wp D G b lyM 26) p l e { frames := 4, cells := 0, slots := 0, locals := 84 } s m args below meth c (sx_A b 26 s.heap.size) 5 0 0 (sx_fin (sx_wp D G b lyM 26) (sx_A b 26 s.heap.size) below args s 0 0 (sx_qv Q) (fun _ _ => False)) f 131 [(0, .ref (b + 0)), (1, .int x1), (3, .int v3)] [])
  replace h := h (by
    intro f v2 h
    refine sx_iload_n C dX7_laysItems_7 2 2 rfl rfl 8 rfl ?_
    refine sx_aload_n C dX7_laysItems_8 0 0 rfl rfl 9 rfl ?_
    refine sx_geti C (T := TX7) (C0 := RX7) (N := 34) (j := 5) dX7_laysItems_9 fl_X7_99 inw_X7 rfl (by decide) rfl (by decide) lyM_0 rfl 12 rfl ?_
    refine sx_icmp_ge C dX7_laysItems_12 136 15 (by decide) rfl (fun c1 => ?_) (fun c1 => ?_)
    · replace h := h.1 c1
      exact sx_vret C dX7_laysItems_136 hr (Nat.le_of_ble_eq_true rfl) (Nat.le_of_ble_eq_true rfl) ⟨rfl, h⟩
    · replace h := h.2 c1
      refine sx_iload_n C dX7_laysItems_15 2 2 rfl rfl 16 rfl ?_
      refine sx_istore_n C dX7_laysItems_16 3 rfl [(3, .int v2), (0, .ref (b + 0)), (1, .int x1), (2, .int v2)] (by decide) rfl 17 rfl ?_
      exact sx_sub [1, 2, 3, 0] rfl h)
  replace h := h (by
    intro f v2 v3 h
    refine sx_iload_n C dX7_laysItems_17 1 1 rfl rfl 18 rfl ?_
    refine sx_iconst C dX7_laysItems_18 5 (by decide) 19 rfl ?_
    refine sx_icmp_eq C dX7_laysItems_19 45 22 (by decide) rfl (fun c2 => ?_) (fun c2 => ?_)
    · replace h := h.1 c2
      exact sx_sub [0, 1, 2, 3] rfl h
    · replace h := h.2 c2
      refine sx_iload_n C dX7_laysItems_22 3 3 rfl rfl 23 rfl ?_
      refine sx_aload_n C dX7_laysItems_23 0 0 rfl rfl 24 rfl ?_
      refine sx_geti C (T := TX7) (C0 := RX7) (N := 34) (j := 5) dX7_laysItems_24 fl_X7_99 inw_X7 rfl (by decide) rfl (by decide) lyM_0 rfl 27 rfl ?_
      refine sx_icmp_ge C dX7_laysItems_27 45 30 (by decide) rfl (fun c3 => ?_) (fun c3 => ?_)
      · replace h := h.1 c3
        exact sx_sub [0, 1, 2, 3] rfl h
      · replace h := h.2 c3
        refine sx_aload_n C dX7_laysItems_30 0 0 rfl rfl 31 rfl ?_
        refine sx_iload_n C dX7_laysItems_31 1 1 rfl rfl 32 rfl ?_
        refine sx_iload_n C dX7_laysItems_32 3 3 rfl rfl 33 rfl ?_
        refine sx_callV C ht hB (st := []) dX7_laysItems_33 (c_X7_isSilent hf h) mi_X7_isSilent lk_X7_158 mn_X7_isSilent ms_X7_isSilent (by decide) lyM_0 rfl rfl rfl rfl ⟨⟨(Nat.le_of_ble_eq_true rfl), (Nat.le_of_ble_eq_true rfl)⟩, (Nat.le_of_ble_eq_true rfl), (Nat.le_of_ble_eq_true rfl)⟩ (Nat.le_of_ble_eq_true rfl) ⟨(Nat.le_of_ble_eq_true rfl), (Nat.le_of_ble_eq_true rfl)⟩ (fun _ _ hx => hx.elim) 36 rfl (fun v g5 h => ?_)
        obtain ⟨⟨r4, rfl, h⟩, rfl⟩ := h
        refine sx_if_eq C dX7_laysItems_36 45 39 (by decide) rfl (fun c6 => ?_) (fun c6 => ?_)
        · replace h := h.1 c6
          exact sx_sub [0, 1, 2, 3] rfl h
        · replace h := h.2 c6
          obtain ⟨y7, ey7⟩ : ∃ w : Int32, w = v3 + 1 := ⟨_, rfl⟩
          replace h := h y7 ey7
          refine sx_iinc C dX7_laysItems_39 3 rfl y7 (by rw [ey7]; rfl) [(3, .int y7), (0, .ref (b + 0)), (1, .int x1), (2, .int v2)] (by decide) rfl 42 rfl ?_
          refine sx_goto C dX7_laysItems_42 17 (by decide) ?_
          exact sx_sub [1, 2, 3, 0] rfl h)
  replace h := h (by
    intro f v2 v3 h
    refine sx_iload_n C dX7_laysItems_45 3 3 rfl rfl 46 rfl ?_
    refine sx_iload_n C dX7_laysItems_46 2 2 rfl rfl 47 rfl ?_
    refine sx_icmp_ne C dX7_laysItems_47 63 50 (by decide) rfl (fun c8 => ?_) (fun c8 => ?_)
    · replace h := h.2 c8
      refine sx_iload_n C dX7_laysItems_63 3 3 rfl rfl 64 rfl ?_
      refine sx_iload_n C dX7_laysItems_64 2 2 rfl rfl 65 rfl ?_
      refine sx_isub C dX7_laysItems_65 66 rfl ?_
      refine sx_iconst C dX7_laysItems_66 3 (by decide) 67 rfl ?_
      refine sx_icmp_lt C dX7_laysItems_67 89 70 (by decide) rfl (fun c9 => ?_) (fun c9 => ?_)
      · replace h := h.1 c9
        exact sx_sub [0, 1, 2, 3] rfl h
      · replace h := h.2 c9
        refine sx_iload_n C dX7_laysItems_70 3 3 rfl rfl 71 rfl ?_
        refine sx_aload_n C dX7_laysItems_71 0 0 rfl rfl 72 rfl ?_
        refine sx_geti C (T := TX7) (C0 := RX7) (N := 34) (j := 5) dX7_laysItems_72 fl_X7_99 inw_X7 rfl (by decide) rfl (by decide) lyM_0 rfl 75 rfl ?_
        refine sx_icmp_ge C dX7_laysItems_75 89 78 (by decide) rfl (fun c10 => ?_) (fun c10 => ?_)
        · replace h := h.1 c10
          exact sx_sub [0, 1, 2, 3] rfl h
        · replace h := h.2 c10
          refine sx_aload_n C dX7_laysItems_78 0 0 rfl rfl 79 rfl ?_
          refine sx_iload_n C dX7_laysItems_79 1 1 rfl rfl 80 rfl ?_
          refine sx_iload_n C dX7_laysItems_80 3 3 rfl rfl 81 rfl ?_
          refine sx_iconst C dX7_laysItems_81 1 (by decide) 82 rfl ?_
          refine sx_isub C dX7_laysItems_82 83 rfl ?_
          refine sx_callV C ht hB (st := []) dX7_laysItems_83 (c_X7_cueFor hf h) mi_X7_cueFor lk_X7_168 mn_X7_cueFor ms_X7_cueFor (by decide) lyM_0 rfl rfl rfl rfl ⟨⟨(Nat.le_of_ble_eq_true rfl), (Nat.le_of_ble_eq_true rfl)⟩, (Nat.le_of_ble_eq_true rfl), (Nat.le_of_ble_eq_true rfl)⟩ (Nat.le_of_ble_eq_true rfl) ⟨(Nat.le_of_ble_eq_true rfl), (Nat.le_of_ble_eq_true rfl)⟩ (fun _ _ hx => hx.elim) 86 rfl (fun v g12 h => ?_)
          obtain ⟨⟨r11, rfl, h⟩, rfl⟩ := h
          refine sx_goto C dX7_laysItems_86 90 (by decide) ?_
          exact sx_sub [0, 1, 2, 3] rfl h
    · replace h := h.1 c8
      refine sx_aload_n C dX7_laysItems_50 0 0 rfl rfl 51 rfl ?_
      refine sx_iload_n C dX7_laysItems_51 2 2 rfl rfl 52 rfl ?_
      refine sx_iload_n C dX7_laysItems_52 2 2 rfl rfl 53 rfl ?_
      refine sx_iload_n C dX7_laysItems_53 1 1 rfl rfl 54 rfl ?_
      refine sx_callV C ht hB (st := []) dX7_laysItems_54 (c_X7_adds hf h) mi_X7_adds lk_X7_164 mn_X7_adds ms_X7_adds (by decide) lyM_0 rfl rfl rfl rfl ⟨⟨(Nat.le_of_ble_eq_true rfl), (Nat.le_of_ble_eq_true rfl)⟩, (Nat.le_of_ble_eq_true rfl), (Nat.le_of_ble_eq_true rfl)⟩ (Nat.le_of_ble_eq_true rfl) ⟨(Nat.le_of_ble_eq_true rfl), (Nat.le_of_ble_eq_true rfl)⟩ (fun _ _ hx => hx.elim) 57 rfl (fun v g13 h => ?_)
      obtain ⟨rfl, h⟩ := h
      obtain ⟨y14, ey14⟩ : ∃ w : Int32, w = v3 + 1 := ⟨_, rfl⟩
      replace h := h y14 ey14
      refine sx_iinc C dX7_laysItems_57 3 rfl y14 (by rw [ey14]; rfl) [(3, .int y14), (0, .ref (b + 0)), (1, .int x1), (2, .int v2)] (by decide) rfl 60 rfl ?_
      refine sx_goto C dX7_laysItems_60 131 (by decide) ?_
      exact sx_sub [1, 2, 0] rfl h)
  replace h := h (by
    intro f v2 v3 h
    refine sx_iconst C dX7_laysItems_89 (-1) (by decide) 90 rfl ?_
    exact sx_sub [0, 1, 2, 3] rfl h)
  replace h := h (by
    intro f v2 v3 s0 h
    refine sx_istore C dX7_laysItems_90 [(4, .int s0), (0, .ref (b + 0)), (1, .int x1), (2, .int v2), (3, .int v3)] (by decide) rfl 92 rfl ?_
    refine sx_aload_n C dX7_laysItems_92 0 1 rfl rfl 93 rfl ?_
    refine sx_iload_n C dX7_laysItems_93 2 3 rfl rfl 94 rfl ?_
    refine sx_iload C dX7_laysItems_94 0 rfl 96 rfl ?_
    refine sx_iconst C dX7_laysItems_96 (-1) (by decide) 97 rfl ?_
    refine sx_icmp_ne C dX7_laysItems_97 106 100 (by decide) rfl (fun c15 => ?_) (fun c15 => ?_)
    · replace h := h.2 c15
      refine sx_iload_n C dX7_laysItems_106 3 4 rfl rfl 107 rfl ?_
      refine sx_iconst C dX7_laysItems_107 2 (by decide) 108 rfl ?_
      refine sx_isub C dX7_laysItems_108 109 rfl ?_
      exact sx_sub [1, 2, 4, 0] rfl h
    · replace h := h.1 c15
      refine sx_iload_n C dX7_laysItems_100 3 4 rfl rfl 101 rfl ?_
      refine sx_iconst C dX7_laysItems_101 1 (by decide) 102 rfl ?_
      refine sx_isub C dX7_laysItems_102 103 rfl ?_
      refine sx_goto C dX7_laysItems_103 109 (by decide) ?_
      exact sx_sub [1, 2, 4, 0] rfl h)
  replace h := h (by
    intro f v3 v4 s1 s2 h
    refine sx_iconst C dX7_laysItems_109 (-1) (by decide) 110 rfl ?_
    refine sx_callV C ht hB (st := []) dX7_laysItems_110 (c_X7_adds hf h) mi_X7_adds lk_X7_164 mn_X7_adds ms_X7_adds (by decide) lyM_0 rfl rfl rfl rfl ⟨⟨(Nat.le_of_ble_eq_true rfl), (Nat.le_of_ble_eq_true rfl)⟩, (Nat.le_of_ble_eq_true rfl), (Nat.le_of_ble_eq_true rfl)⟩ (Nat.le_of_ble_eq_true rfl) ⟨(Nat.le_of_ble_eq_true rfl), (Nat.le_of_ble_eq_true rfl)⟩ (fun _ _ hx => hx.elim) 113 rfl (fun v g16 h => ?_)
    obtain ⟨rfl, h⟩ := h
    refine sx_iload C dX7_laysItems_113 3 rfl 115 rfl ?_
    refine sx_iconst C dX7_laysItems_115 (-1) (by decide) 116 rfl ?_
    refine sx_icmp_eq C dX7_laysItems_116 131 119 (by decide) rfl (fun c17 => ?_) (fun c17 => ?_)
    · replace h := h.1 c17
      exact sx_sub [0, 1, 2] rfl h
    · replace h := h.2 c17
      refine sx_aload_n C dX7_laysItems_119 0 0 rfl rfl 120 rfl ?_
      refine sx_iload_n C dX7_laysItems_120 3 2 rfl rfl 121 rfl ?_
      refine sx_iconst C dX7_laysItems_121 1 (by decide) 122 rfl ?_
      refine sx_isub C dX7_laysItems_122 123 rfl ?_
      refine sx_iload_n C dX7_laysItems_123 3 2 rfl rfl 124 rfl ?_
      refine sx_iconst C dX7_laysItems_124 1 (by decide) 125 rfl ?_
      refine sx_isub C dX7_laysItems_125 126 rfl ?_
      refine sx_iload C dX7_laysItems_126 3 rfl 128 rfl ?_
      refine sx_callV C ht hB (st := []) dX7_laysItems_128 (c_X7_adds hf h) mi_X7_adds lk_X7_164 mn_X7_adds ms_X7_adds (by decide) lyM_0 rfl rfl rfl rfl ⟨⟨(Nat.le_of_ble_eq_true rfl), (Nat.le_of_ble_eq_true rfl)⟩, (Nat.le_of_ble_eq_true rfl), (Nat.le_of_ble_eq_true rfl)⟩ (Nat.le_of_ble_eq_true rfl) ⟨(Nat.le_of_ble_eq_true rfl), (Nat.le_of_ble_eq_true rfl)⟩ (fun _ _ hx => hx.elim) 131 rfl (fun v g18 h => ?_)
      obtain ⟨rfl, h⟩ := h
      exact sx_sub [0, 1, 2] rfl h)
  replace h := h (by
    intro f v3 h
    refine sx_iload_n C dX7_laysItems_131 3 2 rfl rfl 132 rfl ?_
    refine sx_istore_n C dX7_laysItems_132 2 rfl [(2, .int v3), (0, .ref (b + 0)), (1, .int x1), (3, .int v3)] (by decide) rfl 133 rfl ?_
    refine sx_goto C dX7_laysItems_133 7 (by decide) ?_
    exact sx_sub [1, 2, 0] rfl h)
  refine sx_sub (lv' := [(0, .ref (b + 0)), (1, .int x1)]) [0, 1] rfl ?_
  refine sx_aload_n C dX7_laysItems_0 0 0 rfl rfl 1 rfl ?_
  refine sx_iconst C dX7_laysItems_1 0 (by decide) 2 rfl ?_
  refine sx_puti C (T := TX7) (C0 := RX7) (N := 34) (j := 20) dX7_laysItems_2 fl_X7_161 inw_X7 rfl tyX7 tyX7_ok nmX7 (by decide) rfl rfl rfl hB (by decide) lyM_0 rfl 5 rfl (fun g19 eg19 => ?_)
  replace h := h g19 eg19
  refine sx_iconst C dX7_laysItems_5 0 (by decide) 6 rfl ?_
  refine sx_istore_n C dX7_laysItems_6 2 rfl [(2, .int 0), (0, .ref (b + 0)), (1, .int x1)] (by decide) rfl 7 rfl ?_
  exact sx_sub [1, 2, 0] rfl h
set_option maxRecDepth 100000 in
set_option maxHeartbeats 4000000 in
theorem c_X7_begins {l : Launch} {D : va_G} {G : sx_G} {b : Nat} (hf : l.stackTraces = false) {f : sx_F} {x1 : Int32} {x2 : Int32} {x3 : Int32} {Q : Int32 → Prop}  (h : P_X7_begins f x1 x2 x3 Q) : sx_Met l D G b 26 lyM yX7_begins cX7_begins 7 (some .int) 2 34 0 0 [.ref (b + 0), .int x1, .int x2, .int x3] f (sx_pi f Q) (fun _ _ => False) := by
  refine sx_enter (own := RX7) hf rfl rfl (Nat.le_of_ble_eq_true rfl) ?_
  intro p e s m args below meth c C hr ht
  have hB : ∀ k, k < 26 → sx_A b 26 s.heap.size (b + k) := fun k h => sx_A.in h
  unfold P_X7_begins at h
  replace h := h (fun (v4 : Int32) (v5 : Int32) (v6 : Int32) => sx_J (sx_wp D G b lyM 26) p l e { frames := 2, cells := 0, slots := 0, locals := 34 } s m args below meth c (sx_A b 26 s.heap.size) 7 0 0 (sx_fin (sx_wp D G b lyM 26) (sx_A b 26 s.heap.size) below args s 0 0 (sx_pi f Q) (fun _ _ => False)) f 13 [(0, .ref (b + 0)), (2, .int x2), (3, .int x3), (4, .int v4), (5, .int v5), (6, .int v6)] [])
  replace h := h (by
    intro v4 v5 v6 h
    refine sx_iload C dX7_begins_13 5 rfl 15 rfl ?_
    refine sx_aload_n C dX7_begins_15 0 0 rfl rfl 16 rfl ?_
    refine sx_getq C (T := TX7) (C0 := RX7) (N := 34) (j := 3) dX7_begins_16 fl_X7_19 inw_X7 rfl (by decide) rfl (by decide) lyM_0 rfl 19 rfl ?_
    refine sx_iload C dX7_begins_19 3 rfl 21 rfl ?_
    refine sx_iald C dX7_begins_21 (by decide) lyM_4 h.1 22 rfl ?_
    replace h := h.2
    refine sx_icmp_ge C dX7_begins_22 77 25 (by decide) rfl (fun c1 => ?_) (fun c1 => ?_)
    · replace h := h.1 c1
      refine sx_iload C dX7_begins_77 4 rfl 79 rfl ?_
      refine sx_iload_n C dX7_begins_79 3 2 rfl rfl 80 rfl ?_
      refine sx_icmp_ne C dX7_begins_80 98 83 (by decide) rfl (fun c2 => ?_) (fun c2 => ?_)
      · replace h := h.2 c2
        refine sx_iconst C dX7_begins_98 0 (by decide) 99 rfl ?_
        exact sx_iret C dX7_begins_99 hr (Nat.le_of_ble_eq_true rfl) (Nat.le_of_ble_eq_true rfl) ⟨⟨_, rfl, h⟩, rfl⟩
      · replace h := h.1 c2
        refine sx_iload C dX7_begins_83 4 rfl 85 rfl ?_
        refine sx_aload_n C dX7_begins_85 0 0 rfl rfl 86 rfl ?_
        refine sx_getq C (T := TX7) (C0 := RX7) (N := 34) (j := 0) dX7_begins_86 fl_X7_7 inw_X7 rfl (by decide) rfl (by decide) lyM_0 rfl 89 rfl ?_
        refine sx_iload_n C dX7_begins_89 2 1 rfl rfl 90 rfl ?_
        refine sx_iald C dX7_begins_90 (by decide) lyM_1 h.1 91 rfl ?_
        replace h := h.2
        refine sx_icmp_ge C dX7_begins_91 98 94 (by decide) rfl (fun c3 => ?_) (fun c3 => ?_)
        · replace h := h.1 c3
          refine sx_iconst C dX7_begins_98 0 (by decide) 99 rfl ?_
          exact sx_iret C dX7_begins_99 hr (Nat.le_of_ble_eq_true rfl) (Nat.le_of_ble_eq_true rfl) ⟨⟨_, rfl, h⟩, rfl⟩
        · replace h := h.2 c3
          refine sx_iconst C dX7_begins_94 1 (by decide) 95 rfl ?_
          refine sx_goto C dX7_begins_95 99 (by decide) ?_
          exact sx_iret C dX7_begins_99 hr (Nat.le_of_ble_eq_true rfl) (Nat.le_of_ble_eq_true rfl) ⟨⟨_, rfl, h⟩, rfl⟩
    · replace h := h.2 c1
      refine sx_iload C dX7_begins_25 4 rfl 27 rfl ?_
      refine sx_iload_n C dX7_begins_27 3 2 rfl rfl 28 rfl ?_
      refine sx_icmp_ne C dX7_begins_28 53 31 (by decide) rfl (fun c4 => ?_) (fun c4 => ?_)
      · replace h := h.2 c4
        refine sx_iload C dX7_begins_53 4 rfl 55 rfl ?_
        refine sx_aload_n C dX7_begins_55 0 0 rfl rfl 56 rfl ?_
        refine sx_getq C (T := TX7) (C0 := RX7) (N := 34) (j := 1) dX7_begins_56 fl_X7_13 inw_X7 rfl (by decide) rfl (by decide) lyM_0 rfl 59 rfl ?_
        refine sx_bipush C dX7_begins_59 8 (by decide) 61 rfl ?_
        refine sx_iload C dX7_begins_61 3 rfl 63 rfl ?_
        refine sx_imul C dX7_begins_63 64 rfl ?_
        refine sx_iload C dX7_begins_64 5 rfl 66 rfl ?_
        refine sx_iadd C dX7_begins_66 67 rfl ?_
        refine sx_iald C dX7_begins_67 (by decide) lyM_2 h.1 68 rfl ?_
        replace h := h.2
        refine sx_iadd C dX7_begins_68 69 rfl ?_
        refine sx_topi (fun y5 ey5 => ?_)
        replace h := h y5 ey5
        refine sx_istore C dX7_begins_69 [(5, .int y5), (0, .ref (b + 0)), (2, .int x2), (3, .int x3), (4, .int v4), (6, .int v6)] (by decide) rfl 71 rfl ?_
        obtain ⟨y6, ey6⟩ : ∃ w : Int32, w = v6 + 1 := ⟨_, rfl⟩
        replace h := h y6 ey6
        refine sx_iinc C dX7_begins_71 5 rfl y6 (by rw [ey6]; rfl) [(6, .int y6), (5, .int y5), (0, .ref (b + 0)), (2, .int x2), (3, .int x3), (4, .int v4)] (by decide) rfl 74 rfl ?_
        refine sx_goto C dX7_begins_74 13 (by decide) ?_
        exact sx_sub [2, 3, 4, 5, 1, 0] rfl h
      · replace h := h.1 c4
        refine sx_aload_n C dX7_begins_31 0 0 rfl rfl 32 rfl ?_
        refine sx_getq C (T := TX7) (C0 := RX7) (N := 34) (j := 2) dX7_begins_32 fl_X7_16 inw_X7 rfl (by decide) rfl (by decide) lyM_0 rfl 35 rfl ?_
        refine sx_bipush C dX7_begins_35 8 (by decide) 37 rfl ?_
        refine sx_iload C dX7_begins_37 3 rfl 39 rfl ?_
        refine sx_imul C dX7_begins_39 40 rfl ?_
        refine sx_iload C dX7_begins_40 5 rfl 42 rfl ?_
        refine sx_iadd C dX7_begins_42 43 rfl ?_
        refine sx_iald C dX7_begins_43 (by decide) lyM_3 h.1 44 rfl ?_
        replace h := h.2
        refine sx_if_le C dX7_begins_44 51 47 (by decide) rfl (fun c7 => ?_) (fun c7 => ?_)
        · replace h := h.1 c7
          refine sx_iconst C dX7_begins_51 1 (by decide) 52 rfl ?_
          exact sx_iret C dX7_begins_52 hr (Nat.le_of_ble_eq_true rfl) (Nat.le_of_ble_eq_true rfl) ⟨⟨_, rfl, h⟩, rfl⟩
        · replace h := h.2 c7
          refine sx_iconst C dX7_begins_47 2 (by decide) 48 rfl ?_
          refine sx_goto C dX7_begins_48 52 (by decide) ?_
          exact sx_iret C dX7_begins_52 hr (Nat.le_of_ble_eq_true rfl) (Nat.le_of_ble_eq_true rfl) ⟨⟨_, rfl, h⟩, rfl⟩)
  refine sx_sub (lv' := [(0, .ref (b + 0)), (1, .int x1), (2, .int x2), (3, .int x3)]) [0, 1, 2, 3] rfl ?_
  refine sx_iload_n C dX7_begins_0 1 1 rfl rfl 1 rfl ?_
  refine sx_iload_n C dX7_begins_1 2 2 rfl rfl 2 rfl ?_
  refine sx_callS C ht hB (st := []) dX7_begins_2 (c_X7_cell hf h) mi_X7_cell lk_X7_116 mt_X7_cell rfl rfl ⟨⟨(Nat.le_of_ble_eq_true rfl), (Nat.le_of_ble_eq_true rfl)⟩, (Nat.le_of_ble_eq_true rfl), (Nat.le_of_ble_eq_true rfl)⟩ (Nat.le_of_ble_eq_true rfl) ⟨(Nat.le_of_ble_eq_true rfl), (Nat.le_of_ble_eq_true rfl)⟩ (fun _ _ hx => hx.elim) 5 rfl (fun v g9 h => ?_)
  obtain ⟨⟨r8, rfl, h⟩, rfl⟩ := h
  refine sx_istore C dX7_begins_5 [(4, .int r8), (0, .ref (b + 0)), (1, .int x1), (2, .int x2), (3, .int x3)] (by decide) rfl 7 rfl ?_
  refine sx_iconst C dX7_begins_7 0 (by decide) 8 rfl ?_
  refine sx_istore C dX7_begins_8 [(5, .int 0), (4, .int r8), (0, .ref (b + 0)), (1, .int x1), (2, .int x2), (3, .int x3)] (by decide) rfl 10 rfl ?_
  refine sx_iconst C dX7_begins_10 0 (by decide) 11 rfl ?_
  refine sx_istore C dX7_begins_11 [(6, .int 0), (5, .int 0), (4, .int r8), (0, .ref (b + 0)), (1, .int x1), (2, .int x2), (3, .int x3)] (by decide) rfl 13 rfl ?_
  exact sx_sub [3, 5, 6, 2, 1, 0] rfl h
set_option maxRecDepth 100000 in
set_option maxHeartbeats 4000000 in
theorem c_X7_halvings {l : Launch} {D : va_G} {G : sx_G} {b : Nat} (hf : l.stackTraces = false) {f : sx_F} {x0 : Int32} {Q : Int32 → Prop}  (h : P_X7_halvings f x0 Q) : sx_Met l D G b 26 lyM yX7_halvings cX7_halvings 3 (some .int) 1 13 0 0 [.int x0] f (sx_pi f Q) (fun _ _ => False) := by
  refine sx_enter (own := RX7) hf rfl rfl (Nat.le_of_ble_eq_true rfl) ?_
  intro p e s m args below meth c C hr ht
  have hB : ∀ k, k < 26 → sx_A b 26 s.heap.size (b + k) := fun k h => sx_A.in h
  unfold P_X7_halvings at h
  replace h := h (fun (v1 : Int32) (v2 : Int32) => sx_J (sx_wp D G b lyM 26) p l e { frames := 1, cells := 0, slots := 0, locals := 13 } s m args below meth c (sx_A b 26 s.heap.size) 3 0 0 (sx_fin (sx_wp D G b lyM 26) (sx_A b 26 s.heap.size) below args s 0 0 (sx_pi f Q) (fun _ _ => False)) f 4 [(1, .int v1), (2, .int v2)] [])
  replace h := h (by
    intro v1 v2 h
    refine sx_iload_n C dX7_halvings_4 2 1 rfl rfl 5 rfl ?_
    refine sx_iconst C dX7_halvings_5 1 (by decide) 6 rfl ?_
    refine sx_icmp_le C dX7_halvings_6 19 9 (by decide) rfl (fun c1 => ?_) (fun c1 => ?_)
    · replace h := h.1 c1
      refine sx_iload_n C dX7_halvings_19 1 0 rfl rfl 20 rfl ?_
      exact sx_iret C dX7_halvings_20 hr (Nat.le_of_ble_eq_true rfl) (Nat.le_of_ble_eq_true rfl) ⟨⟨_, rfl, h⟩, rfl⟩
    · replace h := h.2 c1
      refine sx_iload_n C dX7_halvings_9 2 1 rfl rfl 10 rfl ?_
      refine sx_iconst C dX7_halvings_10 2 (by decide) 11 rfl ?_
      refine sx_idiv C dX7_halvings_11 (by decide) 12 rfl ?_
      refine sx_topi (fun y2 ey2 => ?_)
      replace h := h y2 ey2
      refine sx_istore_n C dX7_halvings_12 2 rfl [(2, .int y2), (1, .int v1)] (by decide) rfl 13 rfl ?_
      obtain ⟨y3, ey3⟩ : ∃ w : Int32, w = v1 + 1 := ⟨_, rfl⟩
      replace h := h y3 ey3
      refine sx_iinc C dX7_halvings_13 1 rfl y3 (by rw [ey3]; rfl) [(1, .int y3), (2, .int y2)] (by decide) rfl 16 rfl ?_
      refine sx_goto C dX7_halvings_16 4 (by decide) ?_
      exact sx_sub [0, 1] rfl h)
  refine sx_sub (lv' := [(0, .int x0)]) [0] rfl ?_
  refine sx_iconst C dX7_halvings_0 0 (by decide) 1 rfl ?_
  refine sx_istore_n C dX7_halvings_1 1 rfl [(1, .int 0), (0, .int x0)] (by decide) rfl 2 rfl ?_
  refine sx_iload_n C dX7_halvings_2 0 1 rfl rfl 3 rfl ?_
  refine sx_istore_n C dX7_halvings_3 2 rfl [(2, .int x0), (1, .int 0), (0, .int x0)] (by decide) rfl 4 rfl ?_
  exact sx_sub [1, 0] rfl h
set_option maxRecDepth 100000 in
set_option maxHeartbeats 4000000 in
theorem c_X7_laysSprings {l : Launch} {D : va_G} {G : sx_G} {b : Nat} (hf : l.stackTraces = false) {f : sx_F}  {Q : sx_F → Prop}  (h : P_X7_laysSprings f  Q) : sx_Met l D G b 26 lyM yX7_laysSprings cX7_laysSprings 11 (none) 3 60 0 0 [.ref (b + 0)] f (sx_qv Q) (fun _ _ => False) := by
  refine sx_enter (own := RX7) hf rfl rfl (Nat.le_of_ble_eq_true rfl) ?_
  intro p e s m args below meth c C hr ht
  have hB : ∀ k, k < 26 → sx_A b 26 s.heap.size (b + k) := fun k h => sx_A.in h
  unfold P_X7_laysSprings at h
  replace h := h (fun (f : sx_F) (v1 : Int32) => sx_J (sx_wp D G b lyM 26) p l e { frames := 3, cells := 0, slots := 0, locals := 60 } s m args below meth c (sx_A b 26 s.heap.size) 11 0 0 (sx_fin (sx_wp D G b lyM 26) (sx_A b 26 s.heap.size) below args s 0 0 (sx_qv Q) (fun _ _ => False)) f 9 [(0, .ref (b + 0)), (1, .int v1)] [])
  replace h := h (fun (f : sx_F) (v1 : Int32) (v2 : Int32) (v3 : Int32) (s0 : Int32) => sx_J (sx_wp D G b lyM 26) p l e { frames := 3, cells := 0, slots := 0, locals := 60 } s m args below meth c (sx_A b 26 s.heap.size) 11 0 0 (sx_fin (sx_wp D G b lyM 26) (sx_A b 26 s.heap.size) below args s 0 0 (sx_qv Q) (fun _ _ => False)) f 51 [(0, .ref (b + 0)), (1, .int v1), (2, .int v2), (3, .int v3)] [.int s0])
  replace h := h (fun (f : sx_F) (v1 : Int32) (v2 : Int32) (v3 : Int32) (v4 : Int32) (s0 : Int32) => sx_J (sx_wp D G b lyM 26) p l e { frames := 3, cells := 0, slots := 0, locals := 60 } s m args below meth c (sx_A b 26 s.heap.size) 11 0 0 (sx_fin (sx_wp D G b lyM 26) (sx_A b 26 s.heap.size) below args s 0 0 (sx_qv Q) (fun _ _ => False)) f 73 [(0, .ref (b + 0)), (1, .int v1), (2, .int v2), (3, .int v3), (4, .int v4)] [.int s0])
  replace h := h (fun (f : sx_F) (v1 : Int32) (v2 : Int32) (v3 : Int32) (v4 : Int32) (v5 : Int32) (v6 : Int32) => sx_J (sx_wp D G b lyM 26) p l e { frames := 3, cells := 0, slots := 0, locals := 60 } s m args below meth c (sx_A b 26 s.heap.size) 11 0 0 (sx_fin (sx_wp D G b lyM 26) (sx_A b 26 s.heap.size) below args s 0 0 (sx_qv Q) (fun _ _ => False)) f 78 [(0, .ref (b + 0)), (1, .int v1), (2, .int v2), (3, .int v3), (4, .int v4), (5, .int v5), (6, .int v6)] [])
  replace h := h (fun (f : sx_F) (v1 : Int32) (v2 : Int32) (v3 : Int32) (v4 : Int32) (v5 : Int32) (v6 : Int32) (v7 : Int32) (v8 : Int32) (v9 : Int32) => sx_J (sx_wp D G b lyM 26) p l e { frames := 3, cells := 0, slots := 0, locals := 60 } s m args below meth c (sx_A b 26 s.heap.size) 11 0 0 (sx_fin (sx_wp D G b lyM 26) (sx_A b 26 s.heap.size) below args s 0 0 (sx_qv Q) (fun _ _ => False)) f 109 [(0, .ref (b + 0)), (1, .int v1), (2, .int v2), (3, .int v3), (4, .int v4), (5, .int v5), (6, .int v6), (7, .int v7), (8, .int v8), (9, .int v9)] [])
  replace h := h (fun (f : sx_F) (v1 : Int32) (v2 : Int32) (v3 : Int32) (v4 : Int32) (v5 : Int32) (v6 : Int32) (v8 : Int32) (v9 : Int32) (v10 : Int32) (s0 : Int32) (s1 : Int32) => sx_J (sx_wp D G b lyM 26) p l e { frames := 3, cells := 0, slots := 0, locals := 60 } s m args below meth c (sx_A b 26 s.heap.size) 11 0 0 (sx_fin (sx_wp D G b lyM 26) (sx_A b 26 s.heap.size) below args s 0 0 (sx_qv Q) (fun _ _ => False)) f 139 [(0, .ref (b + 0)), (1, .int v1), (2, .int v2), (3, .int v3), (4, .int v4), (5, .int v5), (6, .int v6), (8, .int v8), (9, .int v9), (10, .int v10)] [.int s1, .int s0])
  replace h := h (fun (f : sx_F) (v1 : Int32) (v2 : Int32) (v3 : Int32) (v4 : Int32) (v5 : Int32) (v6 : Int32) (v7 : Int32) (v9 : Int32) (s0 : Int32) (s1 : Int32) => sx_J (sx_wp D G b lyM 26) p l e { frames := 3, cells := 0, slots := 0, locals := 60 } s m args below meth c (sx_A b 26 s.heap.size) 11 0 0 (sx_fin (sx_wp D G b lyM 26) (sx_A b 26 s.heap.size) below args s 0 0 (sx_qv Q) (fun _ _ => False)) f 155 [(0, .ref (b + 0)), (1, .int v1), (2, .int v2), (3, .int v3), (4, .int v4), (5, .int v5), (6, .int v6), (7, .int v7), (9, .int v9)] [.int s1, .int s0])
  replace h := h (fun (f : sx_F) (v1 : Int32) (v2 : Int32) (v3 : Int32) (v4 : Int32) (v5 : Int32) (v6 : Int32) (v8 : Int32) => sx_J (sx_wp D G b lyM 26) p l e { frames := 3, cells := 0, slots := 0, locals := 60 } s m args below meth c (sx_A b 26 s.heap.size) 11 0 0 (sx_fin (sx_wp D G b lyM 26) (sx_A b 26 s.heap.size) below args s 0 0 (sx_qv Q) (fun _ _ => False)) f 174 [(0, .ref (b + 0)), (1, .int v1), (2, .int v2), (3, .int v3), (4, .int v4), (5, .int v5), (6, .int v6), (8, .int v8)] [])
  replace h := h (fun (f : sx_F) (v1 : Int32) (v2 : Int32) (v3 : Int32) (v4 : Int32) (v5 : Int32) (v6 : Int32) => sx_J (sx_wp D G b lyM 26) p l e { frames := 3, cells := 0, slots := 0, locals := 60 } s m args below meth c (sx_A b 26 s.heap.size) 11 0 0 (sx_fin (sx_wp D G b lyM 26) (sx_A b 26 s.heap.size) below args s 0 0 (sx_qv Q) (fun _ _ => False)) f 195 [(0, .ref (b + 0)), (1, .int v1), (2, .int v2), (3, .int v3), (4, .int v4), (5, .int v5), (6, .int v6)] [])
  replace h := h (fun (f : sx_F) (v1 : Int32) (v2 : Int32) (v3 : Int32) => sx_J (sx_wp D G b lyM 26) p l e { frames := 3, cells := 0, slots := 0, locals := 60 } s m args below meth c (sx_A b 26 s.heap.size) 11 0 0 (sx_fin (sx_wp D G b lyM 26) (sx_A b 26 s.heap.size) below args s 0 0 (sx_qv Q) (fun _ _ => False)) f 201 [(0, .ref (b + 0)), (1, .int v1), (2, .int v2), (3, .int v3)] [])
  replace h := h (fun (f : sx_F) (v1 : Int32) (v2 : Int32) (v3 : Int32) (v6 : Int32) => sx_J (sx_wp D G b lyM 26) p l e { frames := 3, cells := 0, slots := 0, locals := 60 } s m args below meth c (sx_A b 26 s.heap.size) 11 0 0 (sx_fin (sx_wp D G b lyM 26) (sx_A b 26 s.heap.size) below args s 0 0 (sx_qv Q) (fun _ _ => False)) f 209 [(0, .ref (b + 0)), (1, .int v1), (2, .int v2), (3, .int v3), (6, .int v6)] [])
  replace h := h (fun (f : sx_F) (v1 : Int32) (v2 : Int32) (v3 : Int32) (v6 : Int32) (s0 : Int32) => sx_J (sx_wp D G b lyM 26) p l e { frames := 3, cells := 0, slots := 0, locals := 60 } s m args below meth c (sx_A b 26 s.heap.size) 11 0 0 (sx_fin (sx_wp D G b lyM 26) (sx_A b 26 s.heap.size) below args s 0 0 (sx_qv Q) (fun _ _ => False)) f 241 [(0, .ref (b + 0)), (1, .int v1), (2, .int v2), (3, .int v3), (6, .int v6)] [.int s0])
  replace h := h (fun (f : sx_F) (v1 : Int32) (v2 : Int32) (v3 : Int32) (v6 : Int32) (s1 : Int32) (s2 : Int32) => sx_J (sx_wp D G b lyM 26) p l e { frames := 3, cells := 0, slots := 0, locals := 60 } s m args below meth c (sx_A b 26 s.heap.size) 11 0 0 (sx_fin (sx_wp D G b lyM 26) (sx_A b 26 s.heap.size) below args s 0 0 (sx_qv Q) (fun _ _ => False)) f 293 [(0, .ref (b + 0)), (1, .int v1), (2, .int v2), (3, .int v3), (6, .int v6)] [.int s2, .int s1, .ref (b + 18)])
  replace h := h (fun (f : sx_F) (v1 : Int32) (v2 : Int32) => sx_J (sx_wp D G b lyM 26) p l e { frames := 3, cells := 0, slots := 0, locals := 60 } s m args below meth c (sx_A b 26 s.heap.size) 11 0 0 (sx_fin (sx_wp D G b lyM 26) (sx_A b 26 s.heap.size) below args s 0 0 (sx_qv Q) (fun _ _ => False)) f 336 [(0, .ref (b + 0)), (1, .int v1), (2, .int v2)] [])
  replace h := h (fun (f : sx_F) (v1 : Int32) (v2 : Int32) (v6 : Int32) => sx_J (sx_wp D G b lyM 26) p l e { frames := 3, cells := 0, slots := 0, locals := 60 } s m args below meth c (sx_A b 26 s.heap.size) 11 0 0 (sx_fin (sx_wp D G b lyM 26) (sx_A b 26 s.heap.size) below args s 0 0 (sx_qv Q) (fun _ _ => False)) f 369 [(0, .ref (b + 0)), (1, .int v1), (2, .int v2), (6, .int v6)] [])
  replace h := h (by
    intro f v1 h
    refine sx_iload_n C dX7_laysSprings_9 1 1 rfl rfl 10 rfl ?_
    refine sx_aload_n C dX7_laysSprings_10 0 0 rfl rfl 11 rfl ?_
    refine sx_geti C (T := TX7) (C0 := RX7) (N := 34) (j := 20) dX7_laysSprings_11 fl_X7_161 inw_X7 rfl (by decide) rfl (by decide) lyM_0 rfl 14 rfl ?_
    refine sx_icmp_ge C dX7_laysSprings_14 419 17 (by decide) rfl (fun c1 => ?_) (fun c1 => ?_)
    · replace h := h.1 c1
      exact sx_vret C dX7_laysSprings_419 hr (Nat.le_of_ble_eq_true rfl) (Nat.le_of_ble_eq_true rfl) ⟨rfl, h⟩
    · replace h := h.2 c1
      refine sx_aload_n C dX7_laysSprings_17 0 0 rfl rfl 18 rfl ?_
      refine sx_getq C (T := TX7) (C0 := RX7) (N := 34) (j := 21) dX7_laysSprings_18 fl_X7_62 inw_X7 rfl (by decide) rfl (by decide) lyM_0 rfl 21 rfl ?_
      refine sx_iload_n C dX7_laysSprings_21 1 1 rfl rfl 22 rfl ?_
      refine sx_iald C dX7_laysSprings_22 (by decide) lyM_16 h.1 23 rfl ?_
      replace h := h.2
      refine sx_topi (fun y2 ey2 => ?_)
      replace h := h y2 ey2
      refine sx_istore_n C dX7_laysSprings_23 2 rfl [(2, .int y2), (0, .ref (b + 0)), (1, .int v1)] (by decide) rfl 24 rfl ?_
      refine sx_aload_n C dX7_laysSprings_24 0 1 rfl rfl 25 rfl ?_
      refine sx_getq C (T := TX7) (C0 := RX7) (N := 34) (j := 17) dX7_laysSprings_25 fl_X7_53 inw_X7 rfl (by decide) rfl (by decide) lyM_0 rfl 28 rfl ?_
      refine sx_iload_n C dX7_laysSprings_28 1 2 rfl rfl 29 rfl ?_
      refine sx_iald C dX7_laysSprings_29 (by decide) lyM_13 h.1 30 rfl ?_
      replace h := h.2
      refine sx_topi (fun y3 ey3 => ?_)
      replace h := h y3 ey3
      refine sx_istore_n C dX7_laysSprings_30 3 rfl [(3, .int y3), (2, .int y2), (0, .ref (b + 0)), (1, .int v1)] (by decide) rfl 31 rfl ?_
      refine sx_aload_n C dX7_laysSprings_31 0 2 rfl rfl 32 rfl ?_
      refine sx_getq C (T := TX7) (C0 := RX7) (N := 34) (j := 19) dX7_laysSprings_32 fl_X7_59 inw_X7 rfl (by decide) rfl (by decide) lyM_0 rfl 35 rfl ?_
      refine sx_iload_n C dX7_laysSprings_35 1 3 rfl rfl 36 rfl ?_
      refine sx_iald C dX7_laysSprings_36 (by decide) lyM_15 h.1 37 rfl ?_
      replace h := h.2
      refine sx_iconst C dX7_laysSprings_37 5 (by decide) 38 rfl ?_
      refine sx_icmp_ne C dX7_laysSprings_38 45 41 (by decide) rfl (fun c4 => ?_) (fun c4 => ?_)
      · replace h := h.2 c4
        refine sx_aload_n C dX7_laysSprings_45 0 2 rfl rfl 46 rfl ?_
        refine sx_getq C (T := TX7) (C0 := RX7) (N := 34) (j := 19) dX7_laysSprings_46 fl_X7_59 inw_X7 rfl (by decide) rfl (by decide) lyM_0 rfl 49 rfl ?_
        refine sx_iload_n C dX7_laysSprings_49 1 3 rfl rfl 50 rfl ?_
        refine sx_iald C dX7_laysSprings_50 (by decide) lyM_15 h.1 51 rfl ?_
        replace h := h.2
        exact sx_sub [2, 3, 1, 0] rfl h
      · replace h := h.1 c4
        refine sx_iconst C dX7_laysSprings_41 0 (by decide) 42 rfl ?_
        refine sx_goto C dX7_laysSprings_42 51 (by decide) ?_
        exact sx_sub [2, 3, 1, 0] rfl h)
  replace h := h (by
    intro f v1 v2 v3 s0 h
    refine sx_istore C dX7_laysSprings_51 [(4, .int s0), (0, .ref (b + 0)), (1, .int v1), (2, .int v2), (3, .int v3)] (by decide) rfl 53 rfl ?_
    refine sx_aload_n C dX7_laysSprings_53 0 1 rfl rfl 54 rfl ?_
    refine sx_getq C (T := TX7) (C0 := RX7) (N := 34) (j := 19) dX7_laysSprings_54 fl_X7_59 inw_X7 rfl (by decide) rfl (by decide) lyM_0 rfl 57 rfl ?_
    refine sx_iload_n C dX7_laysSprings_57 1 2 rfl rfl 58 rfl ?_
    refine sx_iald C dX7_laysSprings_58 (by decide) lyM_15 h.1 59 rfl ?_
    replace h := h.2
    refine sx_iconst C dX7_laysSprings_59 5 (by decide) 60 rfl ?_
    refine sx_icmp_ne C dX7_laysSprings_60 67 63 (by decide) rfl (fun c5 => ?_) (fun c5 => ?_)
    · replace h := h.2 c5
      refine sx_aload_n C dX7_laysSprings_67 0 1 rfl rfl 68 rfl ?_
      refine sx_getq C (T := TX7) (C0 := RX7) (N := 34) (j := 19) dX7_laysSprings_68 fl_X7_59 inw_X7 rfl (by decide) rfl (by decide) lyM_0 rfl 71 rfl ?_
      refine sx_iload_n C dX7_laysSprings_71 1 2 rfl rfl 72 rfl ?_
      refine sx_iald C dX7_laysSprings_72 (by decide) lyM_15 h.1 73 rfl ?_
      replace h := h.2
      exact sx_sub [1, 2, 3, 4, 0] rfl h
    · replace h := h.1 c5
      refine sx_iconst C dX7_laysSprings_63 4 (by decide) 64 rfl ?_
      refine sx_goto C dX7_laysSprings_64 73 (by decide) ?_
      exact sx_sub [1, 2, 3, 4, 0] rfl h)
  replace h := h (by
    intro f v1 v2 v3 v4 s0 h
    refine sx_istore C dX7_laysSprings_73 [(5, .int s0), (0, .ref (b + 0)), (1, .int v1), (2, .int v2), (3, .int v3), (4, .int v4)] (by decide) rfl 75 rfl ?_
    refine sx_iconst C dX7_laysSprings_75 0 (by decide) 76 rfl ?_
    refine sx_istore C dX7_laysSprings_76 [(6, .int 0), (5, .int s0), (0, .ref (b + 0)), (1, .int v1), (2, .int v2), (3, .int v3), (4, .int v4)] (by decide) rfl 78 rfl ?_
    exact sx_sub [2, 3, 4, 5, 6, 1, 0] rfl h)
  replace h := h (by
    intro f v1 v2 v3 v4 v5 v6 h
    refine sx_iload C dX7_laysSprings_78 6 rfl 80 rfl ?_
    refine sx_aload_n C dX7_laysSprings_80 0 0 rfl rfl 81 rfl ?_
    refine sx_getq C (T := TX7) (C0 := RX7) (N := 34) (j := 0) dX7_laysSprings_81 fl_X7_7 inw_X7 rfl (by decide) rfl (by decide) lyM_0 rfl 84 rfl ?_
    refine sx_iload_n C dX7_laysSprings_84 3 3 rfl rfl 85 rfl ?_
    refine sx_iald C dX7_laysSprings_85 (by decide) lyM_1 h.1 86 rfl ?_
    replace h := h.2
    refine sx_icmp_ge C dX7_laysSprings_86 201 89 (by decide) rfl (fun c6 => ?_) (fun c6 => ?_)
    · replace h := h.1 c6
      exact sx_sub [0, 1, 2, 3] rfl h
    · replace h := h.2 c6
      refine sx_aload_n C dX7_laysSprings_89 0 0 rfl rfl 90 rfl ?_
      refine sx_getq C (T := TX7) (C0 := RX7) (N := 34) (j := 19) dX7_laysSprings_90 fl_X7_59 inw_X7 rfl (by decide) rfl (by decide) lyM_0 rfl 93 rfl ?_
      refine sx_iload_n C dX7_laysSprings_93 1 1 rfl rfl 94 rfl ?_
      refine sx_iald C dX7_laysSprings_94 (by decide) lyM_15 h.1 95 rfl ?_
      replace h := h.2
      refine sx_iconst C dX7_laysSprings_95 (-1) (by decide) 96 rfl ?_
      refine sx_icmp_eq C dX7_laysSprings_96 201 99 (by decide) rfl (fun c7 => ?_) (fun c7 => ?_)
      · replace h := h.1 c7
        exact sx_sub [0, 1, 2, 3] rfl h
      · replace h := h.2 c7
        refine sx_iconst C dX7_laysSprings_99 0 (by decide) 100 rfl ?_
        refine sx_istore C dX7_laysSprings_100 [(7, .int 0), (0, .ref (b + 0)), (1, .int v1), (2, .int v2), (3, .int v3), (4, .int v4), (5, .int v5), (6, .int v6)] (by decide) rfl 102 rfl ?_
        refine sx_iconst C dX7_laysSprings_102 0 (by decide) 103 rfl ?_
        refine sx_istore C dX7_laysSprings_103 [(8, .int 0), (7, .int 0), (0, .ref (b + 0)), (1, .int v1), (2, .int v2), (3, .int v3), (4, .int v4), (5, .int v5), (6, .int v6)] (by decide) rfl 105 rfl ?_
        refine sx_iload C dX7_laysSprings_105 6 rfl 107 rfl ?_
        refine sx_istore C dX7_laysSprings_107 [(9, .int v4), (8, .int 0), (7, .int 0), (0, .ref (b + 0)), (1, .int v1), (2, .int v2), (3, .int v3), (4, .int v4), (5, .int v5), (6, .int v6)] (by decide) rfl 109 rfl ?_
        exact sx_sub [3, 4, 5, 6, 7, 8, 9, 2, 1, 0] rfl h)
  replace h := h (by
    intro f v1 v2 v3 v4 v5 v6 v7 v8 v9 h
    refine sx_iload C dX7_laysSprings_109 9 rfl 111 rfl ?_
    refine sx_iload C dX7_laysSprings_111 5 rfl 113 rfl ?_
    refine sx_icmp_gt C dX7_laysSprings_113 164 116 (by decide) rfl (fun c8 => ?_) (fun c8 => ?_)
    · replace h := h.1 c8
      refine sx_iload C dX7_laysSprings_164 6 rfl 166 rfl ?_
      refine sx_if_eq C dX7_laysSprings_166 174 169 (by decide) rfl (fun c9 => ?_) (fun c9 => ?_)
      · replace h := h.1 c9
        exact sx_sub [0, 1, 2, 3, 4, 5, 6, 8] rfl h
      · replace h := h.2 c9
        refine sx_iload C dX7_laysSprings_169 7 rfl 171 rfl ?_
        refine sx_if_le C dX7_laysSprings_171 195 174 (by decide) rfl (fun c10 => ?_) (fun c10 => ?_)
        · replace h := h.1 c10
          exact sx_sub [0, 1, 2, 3, 4, 5, 6] rfl h
        · replace h := h.2 c10
          exact sx_sub [0, 1, 2, 3, 4, 5, 6, 8] rfl h
    · replace h := h.2 c8
      refine sx_aload_n C dX7_laysSprings_116 0 0 rfl rfl 117 rfl ?_
      refine sx_iload C dX7_laysSprings_117 9 rfl 119 rfl ?_
      refine sx_iload_n C dX7_laysSprings_119 3 3 rfl rfl 120 rfl ?_
      refine sx_iload C dX7_laysSprings_120 6 rfl 122 rfl ?_
      refine sx_callV C ht hB (st := []) dX7_laysSprings_122 (c_X7_begins hf h) mi_X7_begins lk_X7_171 mn_X7_begins ms_X7_begins (by decide) lyM_0 rfl rfl rfl rfl ⟨⟨(Nat.le_of_ble_eq_true rfl), (Nat.le_of_ble_eq_true rfl)⟩, (Nat.le_of_ble_eq_true rfl), (Nat.le_of_ble_eq_true rfl)⟩ (Nat.le_of_ble_eq_true rfl) ⟨(Nat.le_of_ble_eq_true rfl), (Nat.le_of_ble_eq_true rfl)⟩ (fun _ _ hx => hx.elim) 125 rfl (fun v g12 h => ?_)
      obtain ⟨⟨r11, rfl, h⟩, rfl⟩ := h
      refine sx_istore C dX7_laysSprings_125 [(10, .int r11), (0, .ref (b + 0)), (1, .int v1), (2, .int v2), (3, .int v3), (4, .int v4), (5, .int v5), (6, .int v6), (7, .int v7), (8, .int v8), (9, .int v9)] (by decide) rfl 127 rfl ?_
      refine sx_iload C dX7_laysSprings_127 8 rfl 129 rfl ?_
      refine sx_iload C dX7_laysSprings_129 0 rfl 131 rfl ?_
      refine sx_if_le C dX7_laysSprings_131 138 134 (by decide) rfl (fun c13 => ?_) (fun c13 => ?_)
      · replace h := h.1 c13
        refine sx_iconst C dX7_laysSprings_138 0 (by decide) 139 rfl ?_
        exact sx_sub [1, 2, 3, 4, 5, 6, 7, 9, 10, 0] rfl h
      · replace h := h.2 c13
        refine sx_iconst C dX7_laysSprings_134 1 (by decide) 135 rfl ?_
        refine sx_goto C dX7_laysSprings_135 139 (by decide) ?_
        exact sx_sub [1, 2, 3, 4, 5, 6, 7, 9, 10, 0] rfl h)
  replace h := h (by
    intro f v1 v2 v3 v4 v5 v6 v8 v9 v10 s0 s1 h
    refine sx_iadd C dX7_laysSprings_139 140 rfl ?_
    refine sx_topi (fun y14 ey14 => ?_)
    replace h := h y14 ey14
    refine sx_istore C dX7_laysSprings_140 [(7, .int y14), (0, .ref (b + 0)), (1, .int v1), (2, .int v2), (3, .int v3), (4, .int v4), (5, .int v5), (6, .int v6), (8, .int v8), (9, .int v9), (10, .int v10)] (by decide) rfl 142 rfl ?_
    refine sx_iload C dX7_laysSprings_142 8 rfl 144 rfl ?_
    refine sx_iload C dX7_laysSprings_144 10 rfl 146 rfl ?_
    refine sx_iconst C dX7_laysSprings_146 2 (by decide) 147 rfl ?_
    refine sx_icmp_ne C dX7_laysSprings_147 154 150 (by decide) rfl (fun c15 => ?_) (fun c15 => ?_)
    · replace h := h.2 c15
      refine sx_iconst C dX7_laysSprings_154 0 (by decide) 155 rfl ?_
      exact sx_sub [1, 2, 3, 4, 5, 6, 7, 0, 9] rfl h
    · replace h := h.1 c15
      refine sx_iconst C dX7_laysSprings_150 1 (by decide) 151 rfl ?_
      refine sx_goto C dX7_laysSprings_151 155 (by decide) ?_
      exact sx_sub [1, 2, 3, 4, 5, 6, 7, 0, 9] rfl h)
  replace h := h (by
    intro f v1 v2 v3 v4 v5 v6 v7 v9 s0 s1 h
    refine sx_iadd C dX7_laysSprings_155 156 rfl ?_
    refine sx_topi (fun y16 ey16 => ?_)
    replace h := h y16 ey16
    refine sx_istore C dX7_laysSprings_156 [(8, .int y16), (0, .ref (b + 0)), (1, .int v1), (2, .int v2), (3, .int v3), (4, .int v4), (5, .int v5), (6, .int v6), (7, .int v7), (9, .int v9)] (by decide) rfl 158 rfl ?_
    obtain ⟨y17, ey17⟩ : ∃ w : Int32, w = v9 + 1 := ⟨_, rfl⟩
    replace h := h y17 ey17
    refine sx_iinc C dX7_laysSprings_158 9 rfl y17 (by rw [ey17]; rfl) [(9, .int y17), (8, .int y16), (0, .ref (b + 0)), (1, .int v1), (2, .int v2), (3, .int v3), (4, .int v4), (5, .int v5), (6, .int v6), (7, .int v7)] (by decide) rfl 161 rfl ?_
    refine sx_goto C dX7_laysSprings_161 109 (by decide) ?_
    exact sx_sub [2, 3, 4, 5, 6, 7, 8, 9, 1, 0] rfl h)
  replace h := h (by
    intro f v1 v2 v3 v4 v5 v6 v8 h
    refine sx_aload_n C dX7_laysSprings_174 0 0 rfl rfl 175 rfl ?_
    refine sx_getq C (T := TX7) (C0 := RX7) (N := 34) (j := 22) dX7_laysSprings_175 fl_X7_65 inw_X7 rfl (by decide) rfl (by decide) lyM_0 rfl 178 rfl ?_
    refine sx_iload_n C dX7_laysSprings_178 2 2 rfl rfl 179 rfl ?_
    refine sx_iload C dX7_laysSprings_179 6 rfl 181 rfl ?_
    refine sx_iast C dX7_laysSprings_181 hB (by decide) lyM_17 h.1 182 rfl (fun g18 eg18 => ?_)
    replace h := h.2 g18 eg18
    refine sx_aload_n C dX7_laysSprings_182 0 0 rfl rfl 183 rfl ?_
    refine sx_getq C (T := TX7) (C0 := RX7) (N := 34) (j := 24) dX7_laysSprings_183 fl_X7_71 inw_X7 rfl (by decide) rfl (by decide) lyM_0 rfl 186 rfl ?_
    refine sx_iload_n C dX7_laysSprings_186 2 2 rfl rfl 187 rfl ?_
    refine sx_iconst C dX7_laysSprings_187 4 (by decide) 188 rfl ?_
    refine sx_iload C dX7_laysSprings_188 7 rfl 190 rfl ?_
    refine sx_iadd C dX7_laysSprings_190 191 rfl ?_
    refine sx_iast C dX7_laysSprings_191 hB (by decide) lyM_19 h.1 192 rfl (fun g19 eg19 => ?_)
    replace h := h.2 g19 eg19
    obtain ⟨y20, ey20⟩ : ∃ w : Int32, w = v2 + 1 := ⟨_, rfl⟩
    replace h := h y20 ey20
    refine sx_iinc C dX7_laysSprings_192 2 rfl y20 (by rw [ey20]; rfl) [(2, .int y20), (0, .ref (b + 0)), (1, .int v1), (3, .int v3), (4, .int v4), (5, .int v5), (6, .int v6), (8, .int v8)] (by decide) rfl 195 rfl ?_
    exact sx_sub [1, 2, 0, 3, 4, 5, 6] rfl h)
  replace h := h (by
    intro f v1 v2 v3 v4 v5 v6 h
    obtain ⟨y21, ey21⟩ : ∃ w : Int32, w = v6 + 1 := ⟨_, rfl⟩
    replace h := h y21 ey21
    refine sx_iinc C dX7_laysSprings_195 6 rfl y21 (by rw [ey21]; rfl) [(6, .int y21), (0, .ref (b + 0)), (1, .int v1), (2, .int v2), (3, .int v3), (4, .int v4), (5, .int v5)] (by decide) rfl 198 rfl ?_
    refine sx_goto C dX7_laysSprings_198 78 (by decide) ?_
    exact sx_sub [1, 2, 3, 4, 5, 6, 0] rfl h)
  replace h := h (by
    intro f v1 v2 v3 h
    refine sx_aload_n C dX7_laysSprings_201 0 0 rfl rfl 202 rfl ?_
    refine sx_getq C (T := TX7) (C0 := RX7) (N := 34) (j := 21) dX7_laysSprings_202 fl_X7_62 inw_X7 rfl (by decide) rfl (by decide) lyM_0 rfl 205 rfl ?_
    refine sx_iload_n C dX7_laysSprings_205 1 1 rfl rfl 206 rfl ?_
    refine sx_iald C dX7_laysSprings_206 (by decide) lyM_16 h.1 207 rfl ?_
    replace h := h.2
    refine sx_topi (fun y22 ey22 => ?_)
    replace h := h y22 ey22
    refine sx_istore C dX7_laysSprings_207 [(6, .int y22), (0, .ref (b + 0)), (1, .int v1), (2, .int v2), (3, .int v3)] (by decide) rfl 209 rfl ?_
    exact sx_sub [1, 2, 3, 4, 0] rfl h)
  replace h := h (by
    intro f v1 v2 v3 v6 h
    refine sx_iload C dX7_laysSprings_209 4 rfl 211 rfl ?_
    refine sx_iload_n C dX7_laysSprings_211 2 2 rfl rfl 212 rfl ?_
    refine sx_icmp_ge C dX7_laysSprings_212 300 215 (by decide) rfl (fun c23 => ?_) (fun c23 => ?_)
    · replace h := h.1 c23
      refine sx_aload_n C dX7_laysSprings_300 0 0 rfl rfl 301 rfl ?_
      refine sx_getq C (T := TX7) (C0 := RX7) (N := 34) (j := 19) dX7_laysSprings_301 fl_X7_59 inw_X7 rfl (by decide) rfl (by decide) lyM_0 rfl 304 rfl ?_
      refine sx_iload_n C dX7_laysSprings_304 1 1 rfl rfl 305 rfl ?_
      refine sx_iald C dX7_laysSprings_305 (by decide) lyM_15 h.1 306 rfl ?_
      replace h := h.2
      refine sx_iconst C dX7_laysSprings_306 (-1) (by decide) 307 rfl ?_
      refine sx_icmp_ne C dX7_laysSprings_307 336 310 (by decide) rfl (fun c24 => ?_) (fun c24 => ?_)
      · replace h := h.2 c24
        exact sx_sub [0, 1, 2] rfl h
      · replace h := h.1 c24
        refine sx_aload_n C dX7_laysSprings_310 0 0 rfl rfl 311 rfl ?_
        refine sx_getq C (T := TX7) (C0 := RX7) (N := 34) (j := 22) dX7_laysSprings_311 fl_X7_65 inw_X7 rfl (by decide) rfl (by decide) lyM_0 rfl 314 rfl ?_
        refine sx_iload_n C dX7_laysSprings_314 2 2 rfl rfl 315 rfl ?_
        refine sx_iconst C dX7_laysSprings_315 0 (by decide) 316 rfl ?_
        refine sx_iast C dX7_laysSprings_316 hB (by decide) lyM_17 h.1 317 rfl (fun g25 eg25 => ?_)
        replace h := h.2 g25 eg25
        refine sx_aload_n C dX7_laysSprings_317 0 0 rfl rfl 318 rfl ?_
        refine sx_getq C (T := TX7) (C0 := RX7) (N := 34) (j := 23) dX7_laysSprings_318 fl_X7_68 inw_X7 rfl (by decide) rfl (by decide) lyM_0 rfl 321 rfl ?_
        refine sx_iload_n C dX7_laysSprings_321 2 2 rfl rfl 322 rfl ?_
        refine sx_bipush C dX7_laysSprings_322 24 (by decide) 324 rfl ?_
        refine sx_iast C dX7_laysSprings_324 hB (by decide) lyM_18 h.1 325 rfl (fun g26 eg26 => ?_)
        replace h := h.2 g26 eg26
        refine sx_aload_n C dX7_laysSprings_325 0 0 rfl rfl 326 rfl ?_
        refine sx_getq C (T := TX7) (C0 := RX7) (N := 34) (j := 24) dX7_laysSprings_326 fl_X7_71 inw_X7 rfl (by decide) rfl (by decide) lyM_0 rfl 329 rfl ?_
        refine sx_iload_n C dX7_laysSprings_329 2 2 rfl rfl 330 rfl ?_
        refine sx_bipush C dX7_laysSprings_330 16 (by decide) 332 rfl ?_
        refine sx_iast C dX7_laysSprings_332 hB (by decide) lyM_19 h.1 333 rfl (fun g27 eg27 => ?_)
        replace h := h.2 g27 eg27
        obtain ⟨y28, ey28⟩ : ∃ w : Int32, w = v2 + 1 := ⟨_, rfl⟩
        replace h := h y28 ey28
        refine sx_iinc C dX7_laysSprings_333 2 rfl y28 (by rw [ey28]; rfl) [(2, .int y28), (0, .ref (b + 0)), (1, .int v1), (3, .int v3), (6, .int v6)] (by decide) rfl 336 rfl ?_
        exact sx_sub [1, 2, 0] rfl h
    · replace h := h.2 c23
      refine sx_iload C dX7_laysSprings_215 4 rfl 217 rfl ?_
      refine sx_iconst C dX7_laysSprings_217 1 (by decide) 218 rfl ?_
      refine sx_iadd C dX7_laysSprings_218 219 rfl ?_
      refine sx_iload_n C dX7_laysSprings_219 2 2 rfl rfl 220 rfl ?_
      refine sx_icmp_ge C dX7_laysSprings_220 235 223 (by decide) rfl (fun c29 => ?_) (fun c29 => ?_)
      · replace h := h.1 c29
        refine sx_aload_n C dX7_laysSprings_235 0 0 rfl rfl 236 rfl ?_
        refine sx_getq C (T := TX7) (C0 := RX7) (N := 34) (j := 0) dX7_laysSprings_236 fl_X7_7 inw_X7 rfl (by decide) rfl (by decide) lyM_0 rfl 239 rfl ?_
        refine sx_iload_n C dX7_laysSprings_239 3 3 rfl rfl 240 rfl ?_
        refine sx_iald C dX7_laysSprings_240 (by decide) lyM_1 h.1 241 rfl ?_
        replace h := h.2
        exact sx_sub [0, 1, 2, 3, 4] rfl h
      · replace h := h.2 c29
        refine sx_aload_n C dX7_laysSprings_223 0 0 rfl rfl 224 rfl ?_
        refine sx_getq C (T := TX7) (C0 := RX7) (N := 34) (j := 22) dX7_laysSprings_224 fl_X7_65 inw_X7 rfl (by decide) rfl (by decide) lyM_0 rfl 227 rfl ?_
        refine sx_iload C dX7_laysSprings_227 4 rfl 229 rfl ?_
        refine sx_iconst C dX7_laysSprings_229 1 (by decide) 230 rfl ?_
        refine sx_iadd C dX7_laysSprings_230 231 rfl ?_
        refine sx_iald C dX7_laysSprings_231 (by decide) lyM_17 h.1 232 rfl ?_
        replace h := h.2
        refine sx_goto C dX7_laysSprings_232 241 (by decide) ?_
        exact sx_sub [0, 1, 2, 3, 4] rfl h)
  replace h := h (by
    intro f v1 v2 v3 v6 s0 h
    refine sx_aload_n C dX7_laysSprings_241 0 0 rfl rfl 242 rfl ?_
    refine sx_getq C (T := TX7) (C0 := RX7) (N := 34) (j := 22) dX7_laysSprings_242 fl_X7_65 inw_X7 rfl (by decide) rfl (by decide) lyM_0 rfl 245 rfl ?_
    refine sx_iload C dX7_laysSprings_245 4 rfl 247 rfl ?_
    refine sx_iald C dX7_laysSprings_247 (by decide) lyM_17 h.1 248 rfl ?_
    replace h := h.2
    refine sx_isub C dX7_laysSprings_248 249 rfl ?_
    refine sx_topi (fun y30 ey30 => ?_)
    replace h := h y30 ey30
    refine sx_istore C dX7_laysSprings_249 [(7, .int y30), (0, .ref (b + 0)), (1, .int v1), (2, .int v2), (3, .int v3), (6, .int v6)] (by decide) rfl 251 rfl ?_
    refine sx_bipush C dX7_laysSprings_251 6 (by decide) 253 rfl ?_
    refine sx_iconst C dX7_laysSprings_253 3 (by decide) 254 rfl ?_
    refine sx_iload C dX7_laysSprings_254 0 rfl 256 rfl ?_
    refine sx_callS C ht hB (st := [.int 3, .int 6]) dX7_laysSprings_256 (c_X7_halvings hf h) mi_X7_halvings lk_X7_174 mt_X7_halvings rfl rfl ⟨⟨(Nat.le_of_ble_eq_true rfl), (Nat.le_of_ble_eq_true rfl)⟩, (Nat.le_of_ble_eq_true rfl), (Nat.le_of_ble_eq_true rfl)⟩ (Nat.le_of_ble_eq_true rfl) ⟨(Nat.le_of_ble_eq_true rfl), (Nat.le_of_ble_eq_true rfl)⟩ (fun _ _ hx => hx.elim) 259 rfl (fun v g32 h => ?_)
    obtain ⟨⟨r31, rfl, h⟩, rfl⟩ := h
    refine sx_imul C dX7_laysSprings_259 260 rfl ?_
    refine sx_iadd C dX7_laysSprings_260 261 rfl ?_
    refine sx_topi (fun y33 ey33 => ?_)
    replace h := h y33 ey33
    refine sx_istore C dX7_laysSprings_261 [(8, .int y33), (7, .int y30), (0, .ref (b + 0)), (1, .int v1), (2, .int v2), (3, .int v3), (6, .int v6)] (by decide) rfl 263 rfl ?_
    refine sx_aload_n C dX7_laysSprings_263 0 2 rfl rfl 264 rfl ?_
    refine sx_getq C (T := TX7) (C0 := RX7) (N := 34) (j := 23) dX7_laysSprings_264 fl_X7_68 inw_X7 rfl (by decide) rfl (by decide) lyM_0 rfl 267 rfl ?_
    refine sx_iload C dX7_laysSprings_267 6 rfl 269 rfl ?_
    refine sx_iload C dX7_laysSprings_269 0 rfl 271 rfl ?_
    refine sx_aload_n C dX7_laysSprings_271 0 2 rfl rfl 272 rfl ?_
    refine sx_getq C (T := TX7) (C0 := RX7) (N := 34) (j := 24) dX7_laysSprings_272 fl_X7_71 inw_X7 rfl (by decide) rfl (by decide) lyM_0 rfl 275 rfl ?_
    refine sx_iload C dX7_laysSprings_275 6 rfl 277 rfl ?_
    refine sx_iald C dX7_laysSprings_277 (by decide) lyM_19 h.1 278 rfl ?_
    replace h := h.2
    refine sx_icmp_ge C dX7_laysSprings_278 291 281 (by decide) rfl (fun c34 => ?_) (fun c34 => ?_)
    · replace h := h.1 c34
      refine sx_iload C dX7_laysSprings_291 0 rfl 293 rfl ?_
      exact sx_sub [2, 3, 4, 5, 6] rfl h
    · replace h := h.2 c34
      refine sx_aload_n C dX7_laysSprings_281 0 2 rfl rfl 282 rfl ?_
      refine sx_getq C (T := TX7) (C0 := RX7) (N := 34) (j := 24) dX7_laysSprings_282 fl_X7_71 inw_X7 rfl (by decide) rfl (by decide) lyM_0 rfl 285 rfl ?_
      refine sx_iload C dX7_laysSprings_285 6 rfl 287 rfl ?_
      refine sx_iald C dX7_laysSprings_287 (by decide) lyM_19 h.1 288 rfl ?_
      replace h := h.2
      refine sx_goto C dX7_laysSprings_288 293 (by decide) ?_
      exact sx_sub [2, 3, 4, 5, 6] rfl h)
  replace h := h (by
    intro f v1 v2 v3 v6 s1 s2 h
    refine sx_iast C dX7_laysSprings_293 hB (by decide) lyM_18 h.1 294 rfl (fun g35 eg35 => ?_)
    replace h := h.2 g35 eg35
    obtain ⟨y36, ey36⟩ : ∃ w : Int32, w = v6 + 1 := ⟨_, rfl⟩
    replace h := h y36 ey36
    refine sx_iinc C dX7_laysSprings_294 4 rfl y36 (by rw [ey36]; rfl) [(6, .int y36), (0, .ref (b + 0)), (1, .int v1), (2, .int v2), (3, .int v3)] (by decide) rfl 297 rfl ?_
    refine sx_goto C dX7_laysSprings_297 209 (by decide) ?_
    exact sx_sub [1, 2, 3, 4, 0] rfl h)
  replace h := h (by
    intro f v1 v2 h
    refine sx_aload_n C dX7_laysSprings_336 0 0 rfl rfl 337 rfl ?_
    refine sx_getq C (T := TX7) (C0 := RX7) (N := 34) (j := 21) dX7_laysSprings_337 fl_X7_62 inw_X7 rfl (by decide) rfl (by decide) lyM_0 rfl 340 rfl ?_
    refine sx_iload_n C dX7_laysSprings_340 1 1 rfl rfl 341 rfl ?_
    refine sx_iconst C dX7_laysSprings_341 1 (by decide) 342 rfl ?_
    refine sx_iadd C dX7_laysSprings_342 343 rfl ?_
    refine sx_iload_n C dX7_laysSprings_343 2 2 rfl rfl 344 rfl ?_
    refine sx_iast C dX7_laysSprings_344 hB (by decide) lyM_16 h.1 345 rfl (fun g37 eg37 => ?_)
    replace h := h.2 g37 eg37
    refine sx_aload_n C dX7_laysSprings_345 0 0 rfl rfl 346 rfl ?_
    refine sx_getq C (T := TX7) (C0 := RX7) (N := 34) (j := 25) dX7_laysSprings_346 fl_X7_74 inw_X7 rfl (by decide) rfl (by decide) lyM_0 rfl 349 rfl ?_
    refine sx_iload_n C dX7_laysSprings_349 1 1 rfl rfl 350 rfl ?_
    refine sx_bipush C dX7_laysSprings_350 8 (by decide) 352 rfl ?_
    refine sx_iast C dX7_laysSprings_352 hB (by decide) lyM_20 h.1 353 rfl (fun g38 eg38 => ?_)
    replace h := h.2 g38 eg38
    refine sx_aload_n C dX7_laysSprings_353 0 0 rfl rfl 354 rfl ?_
    refine sx_getq C (T := TX7) (C0 := RX7) (N := 34) (j := 26) dX7_laysSprings_354 fl_X7_77 inw_X7 rfl (by decide) rfl (by decide) lyM_0 rfl 357 rfl ?_
    refine sx_iload_n C dX7_laysSprings_357 1 1 rfl rfl 358 rfl ?_
    refine sx_bipush C dX7_laysSprings_358 8 (by decide) 360 rfl ?_
    refine sx_iast C dX7_laysSprings_360 hB (by decide) lyM_21 h.1 361 rfl (fun g39 eg39 => ?_)
    replace h := h.2 g39 eg39
    refine sx_aload_n C dX7_laysSprings_361 0 0 rfl rfl 362 rfl ?_
    refine sx_getq C (T := TX7) (C0 := RX7) (N := 34) (j := 21) dX7_laysSprings_362 fl_X7_62 inw_X7 rfl (by decide) rfl (by decide) lyM_0 rfl 365 rfl ?_
    refine sx_iload_n C dX7_laysSprings_365 1 1 rfl rfl 366 rfl ?_
    refine sx_iald C dX7_laysSprings_366 (by decide) lyM_16 h.1 367 rfl ?_
    replace h := h.2
    refine sx_topi (fun y40 ey40 => ?_)
    replace h := h y40 ey40
    refine sx_istore C dX7_laysSprings_367 [(6, .int y40), (0, .ref (b + 0)), (1, .int v1), (2, .int v2)] (by decide) rfl 369 rfl ?_
    exact sx_sub [1, 2, 3, 0] rfl h)
  replace h := h (by
    intro f v1 v2 v6 h
    refine sx_iload C dX7_laysSprings_369 3 rfl 371 rfl ?_
    refine sx_iload_n C dX7_laysSprings_371 2 2 rfl rfl 372 rfl ?_
    refine sx_icmp_ge C dX7_laysSprings_372 413 375 (by decide) rfl (fun c41 => ?_) (fun c41 => ?_)
    · replace h := h.1 c41
      obtain ⟨y42, ey42⟩ : ∃ w : Int32, w = v1 + 1 := ⟨_, rfl⟩
      replace h := h y42 ey42
      refine sx_iinc C dX7_laysSprings_413 1 rfl y42 (by rw [ey42]; rfl) [(1, .int y42), (0, .ref (b + 0)), (2, .int v2), (6, .int v6)] (by decide) rfl 416 rfl ?_
      refine sx_goto C dX7_laysSprings_416 9 (by decide) ?_
      exact sx_sub [1, 0] rfl h
    · replace h := h.2 c41
      refine sx_aload_n C dX7_laysSprings_375 0 0 rfl rfl 376 rfl ?_
      refine sx_getq C (T := TX7) (C0 := RX7) (N := 34) (j := 25) dX7_laysSprings_376 fl_X7_74 inw_X7 rfl (by decide) rfl (by decide) lyM_0 rfl 379 rfl ?_
      refine sx_iload_n C dX7_laysSprings_379 1 1 rfl rfl 380 rfl ?_
      refine sx_dup2 C dX7_laysSprings_380 rfl rfl 381 rfl ?_
      refine sx_iald C dX7_laysSprings_381 (by decide) lyM_20 h.1 382 rfl ?_
      replace h := h.2
      refine sx_aload_n C dX7_laysSprings_382 0 0 rfl rfl 383 rfl ?_
      refine sx_getq C (T := TX7) (C0 := RX7) (N := 34) (j := 23) dX7_laysSprings_383 fl_X7_68 inw_X7 rfl (by decide) rfl (by decide) lyM_0 rfl 386 rfl ?_
      refine sx_iload C dX7_laysSprings_386 3 rfl 388 rfl ?_
      refine sx_iald C dX7_laysSprings_388 (by decide) lyM_18 h.1 389 rfl ?_
      replace h := h.2
      refine sx_iadd C dX7_laysSprings_389 390 rfl ?_
      refine sx_iast C dX7_laysSprings_390 hB (by decide) lyM_20 h.1 391 rfl (fun g43 eg43 => ?_)
      replace h := h.2 g43 eg43
      refine sx_aload_n C dX7_laysSprings_391 0 0 rfl rfl 392 rfl ?_
      refine sx_getq C (T := TX7) (C0 := RX7) (N := 34) (j := 26) dX7_laysSprings_392 fl_X7_77 inw_X7 rfl (by decide) rfl (by decide) lyM_0 rfl 395 rfl ?_
      refine sx_iload_n C dX7_laysSprings_395 1 1 rfl rfl 396 rfl ?_
      refine sx_dup2 C dX7_laysSprings_396 rfl rfl 397 rfl ?_
      refine sx_iald C dX7_laysSprings_397 (by decide) lyM_21 h.1 398 rfl ?_
      replace h := h.2
      refine sx_aload_n C dX7_laysSprings_398 0 0 rfl rfl 399 rfl ?_
      refine sx_getq C (T := TX7) (C0 := RX7) (N := 34) (j := 24) dX7_laysSprings_399 fl_X7_71 inw_X7 rfl (by decide) rfl (by decide) lyM_0 rfl 402 rfl ?_
      refine sx_iload C dX7_laysSprings_402 3 rfl 404 rfl ?_
      refine sx_iald C dX7_laysSprings_404 (by decide) lyM_19 h.1 405 rfl ?_
      replace h := h.2
      refine sx_iadd C dX7_laysSprings_405 406 rfl ?_
      refine sx_iast C dX7_laysSprings_406 hB (by decide) lyM_21 h.1 407 rfl (fun g44 eg44 => ?_)
      replace h := h.2 g44 eg44
      obtain ⟨y45, ey45⟩ : ∃ w : Int32, w = v6 + 1 := ⟨_, rfl⟩
      replace h := h y45 ey45
      refine sx_iinc C dX7_laysSprings_407 3 rfl y45 (by rw [ey45]; rfl) [(6, .int y45), (0, .ref (b + 0)), (1, .int v1), (2, .int v2)] (by decide) rfl 410 rfl ?_
      refine sx_goto C dX7_laysSprings_410 369 (by decide) ?_
      exact sx_sub [1, 2, 3, 0] rfl h)
  refine sx_sub (lv' := [(0, .ref (b + 0))]) [0] rfl ?_
  refine sx_aload_n C dX7_laysSprings_0 0 0 rfl rfl 1 rfl ?_
  refine sx_getq C (T := TX7) (C0 := RX7) (N := 34) (j := 21) dX7_laysSprings_1 fl_X7_62 inw_X7 rfl (by decide) rfl (by decide) lyM_0 rfl 4 rfl ?_
  refine sx_iconst C dX7_laysSprings_4 0 (by decide) 5 rfl ?_
  refine sx_iconst C dX7_laysSprings_5 0 (by decide) 6 rfl ?_
  refine sx_iast C dX7_laysSprings_6 hB (by decide) lyM_16 h.1 7 rfl (fun g46 eg46 => ?_)
  replace h := h.2 g46 eg46
  refine sx_iconst C dX7_laysSprings_7 0 (by decide) 8 rfl ?_
  refine sx_istore_n C dX7_laysSprings_8 1 rfl [(1, .int 0), (0, .ref (b + 0))] (by decide) rfl 9 rfl ?_
  exact sx_sub [1, 0] rfl h
set_option maxRecDepth 100000 in
set_option maxHeartbeats 4000000 in
theorem c_X7_silentTo {l : Launch} {D : va_G} {G : sx_G} {b : Nat} (hf : l.stackTraces = false) {f : sx_F} {x1 : Int32} {x2 : Int32} {Q : Int32 → Prop}  (h : P_X7_silentTo f x1 x2 Q) : sx_Met l D G b 26 lyM yX7_silentTo cX7_silentTo 8 (some .int) 2 37 0 0 [.ref (b + 0), .int x1, .int x2] f (sx_pi f Q) (fun _ _ => False) := by
  refine sx_enter (own := RX7) hf rfl rfl (Nat.le_of_ble_eq_true rfl) ?_
  intro p e s m args below meth c C hr ht
  have hB : ∀ k, k < 26 → sx_A b 26 s.heap.size (b + k) := fun k h => sx_A.in h
  unfold P_X7_silentTo at h
  replace h := h (fun (v3 : Int32) (v4 : Int32) => sx_J (sx_wp D G b lyM 26) p l e { frames := 2, cells := 0, slots := 0, locals := 37 } s m args below meth c (sx_A b 26 s.heap.size) 8 0 0 (sx_fin (sx_wp D G b lyM 26) (sx_A b 26 s.heap.size) below args s 0 0 (sx_pi f Q) (fun _ _ => False)) f 5 [(0, .ref (b + 0)), (1, .int x1), (3, .int v3), (4, .int v4)] [])
  replace h := h (fun (v3 : Int32) (v4 : Int32) (v5 : Int32) (v6 : Int32) (v7 : Int32) => sx_J (sx_wp D G b lyM 26) p l e { frames := 2, cells := 0, slots := 0, locals := 37 } s m args below meth c (sx_A b 26 s.heap.size) 8 0 0 (sx_fin (sx_wp D G b lyM 26) (sx_A b 26 s.heap.size) below args s 0 0 (sx_pi f Q) (fun _ _ => False)) f 24 [(0, .ref (b + 0)), (1, .int x1), (3, .int v3), (4, .int v4), (5, .int v5), (6, .int v6), (7, .int v7)] [])
  replace h := h (fun (v3 : Int32) (v4 : Int32) (v5 : Int32) (v7 : Int32) (s0 : Int32) => sx_J (sx_wp D G b lyM 26) p l e { frames := 2, cells := 0, slots := 0, locals := 37 } s m args below meth c (sx_A b 26 s.heap.size) 8 0 0 (sx_fin (sx_wp D G b lyM 26) (sx_A b 26 s.heap.size) below args s 0 0 (sx_pi f Q) (fun _ _ => False)) f 67 [(0, .ref (b + 0)), (1, .int x1), (3, .int v3), (4, .int v4), (5, .int v5), (7, .int v7)] [.int s0])
  replace h := h (by
    intro v3 v4 h
    refine sx_iload C dX7_silentTo_5 3 rfl 7 rfl ?_
    refine sx_if_lt C dX7_silentTo_7 101 10 (by decide) rfl (fun c1 => ?_) (fun c1 => ?_)
    · replace h := h.1 c1
      refine sx_iload_n C dX7_silentTo_101 3 2 rfl rfl 102 rfl ?_
      exact sx_iret C dX7_silentTo_102 hr (Nat.le_of_ble_eq_true rfl) (Nat.le_of_ble_eq_true rfl) ⟨⟨_, rfl, h⟩, rfl⟩
    · replace h := h.2 c1
      refine sx_iload_n C dX7_silentTo_10 1 1 rfl rfl 11 rfl ?_
      refine sx_iload C dX7_silentTo_11 3 rfl 13 rfl ?_
      refine sx_callS C ht hB (st := []) dX7_silentTo_13 (c_X7_cell hf h) mi_X7_cell lk_X7_116 mt_X7_cell rfl rfl ⟨⟨(Nat.le_of_ble_eq_true rfl), (Nat.le_of_ble_eq_true rfl)⟩, (Nat.le_of_ble_eq_true rfl), (Nat.le_of_ble_eq_true rfl)⟩ (Nat.le_of_ble_eq_true rfl) ⟨(Nat.le_of_ble_eq_true rfl), (Nat.le_of_ble_eq_true rfl)⟩ (fun _ _ hx => hx.elim) 16 rfl (fun v g3 h => ?_)
      obtain ⟨⟨r2, rfl, h⟩, rfl⟩ := h
      refine sx_istore C dX7_silentTo_16 [(5, .int r2), (0, .ref (b + 0)), (1, .int x1), (3, .int v3), (4, .int v4)] (by decide) rfl 18 rfl ?_
      refine sx_iconst C dX7_silentTo_18 0 (by decide) 19 rfl ?_
      refine sx_istore C dX7_silentTo_19 [(6, .int 0), (5, .int r2), (0, .ref (b + 0)), (1, .int x1), (3, .int v3), (4, .int v4)] (by decide) rfl 21 rfl ?_
      refine sx_iconst C dX7_silentTo_21 0 (by decide) 22 rfl ?_
      refine sx_istore C dX7_silentTo_22 [(7, .int 0), (6, .int 0), (5, .int r2), (0, .ref (b + 0)), (1, .int x1), (3, .int v3), (4, .int v4)] (by decide) rfl 24 rfl ?_
      exact sx_sub [3, 4, 5, 6, 2, 1, 0] rfl h)
  replace h := h (by
    intro v3 v4 v5 v6 v7 h
    refine sx_iload C dX7_silentTo_24 6 rfl 26 rfl ?_
    refine sx_aload_n C dX7_silentTo_26 0 0 rfl rfl 27 rfl ?_
    refine sx_getq C (T := TX7) (C0 := RX7) (N := 34) (j := 3) dX7_silentTo_27 fl_X7_19 inw_X7 rfl (by decide) rfl (by decide) lyM_0 rfl 30 rfl ?_
    refine sx_iload C dX7_silentTo_30 4 rfl 32 rfl ?_
    refine sx_iald C dX7_silentTo_32 (by decide) lyM_4 h.1 33 rfl ?_
    replace h := h.2
    refine sx_icmp_ge C dX7_silentTo_33 75 36 (by decide) rfl (fun c4 => ?_) (fun c4 => ?_)
    · replace h := h.1 c4
      refine sx_iload_n C dX7_silentTo_75 3 2 rfl rfl 76 rfl ?_
      refine sx_aload_n C dX7_silentTo_76 0 0 rfl rfl 77 rfl ?_
      refine sx_getq C (T := TX7) (C0 := RX7) (N := 34) (j := 0) dX7_silentTo_77 fl_X7_7 inw_X7 rfl (by decide) rfl (by decide) lyM_0 rfl 80 rfl ?_
      refine sx_iload C dX7_silentTo_80 3 rfl 82 rfl ?_
      refine sx_iald C dX7_silentTo_82 (by decide) lyM_1 h.1 83 rfl ?_
      replace h := h.2
      refine sx_iload C dX7_silentTo_83 5 rfl 85 rfl ?_
      refine sx_isub C dX7_silentTo_85 86 rfl ?_
      refine sx_iadd C dX7_silentTo_86 87 rfl ?_
      refine sx_topi (fun y5 ey5 => ?_)
      replace h := h y5 ey5
      refine sx_istore_n C dX7_silentTo_87 3 rfl [(3, .int y5), (0, .ref (b + 0)), (1, .int x1), (4, .int v4), (5, .int v5), (6, .int v6), (7, .int v7)] (by decide) rfl 88 rfl ?_
      refine sx_iload C dX7_silentTo_88 5 rfl 90 rfl ?_
      refine sx_if_le C dX7_silentTo_90 95 93 (by decide) rfl (fun c6 => ?_) (fun c6 => ?_)
      · replace h := h.1 c6
        obtain ⟨y7, ey7⟩ : ∃ w : Int32, w = v4 + (-1) := ⟨_, rfl⟩
        replace h := h y7 ey7
        refine sx_iinc C dX7_silentTo_95 3 rfl y7 (by rw [ey7]; rfl) [(4, .int y7), (3, .int y5), (0, .ref (b + 0)), (1, .int x1), (5, .int v5), (6, .int v6), (7, .int v7)] (by decide) rfl 98 rfl ?_
        refine sx_goto C dX7_silentTo_98 5 (by decide) ?_
        exact sx_sub [2, 3, 1, 0] rfl h
      · replace h := h.2 c6
        refine sx_iload_n C dX7_silentTo_93 3 0 rfl rfl 94 rfl ?_
        exact sx_iret C dX7_silentTo_94 hr (Nat.le_of_ble_eq_true rfl) (Nat.le_of_ble_eq_true rfl) ⟨⟨_, rfl, h⟩, rfl⟩
    · replace h := h.2 c4
      refine sx_aload_n C dX7_silentTo_36 0 0 rfl rfl 37 rfl ?_
      refine sx_getq C (T := TX7) (C0 := RX7) (N := 34) (j := 2) dX7_silentTo_37 fl_X7_16 inw_X7 rfl (by decide) rfl (by decide) lyM_0 rfl 40 rfl ?_
      refine sx_bipush C dX7_silentTo_40 8 (by decide) 42 rfl ?_
      refine sx_iload C dX7_silentTo_42 4 rfl 44 rfl ?_
      refine sx_imul C dX7_silentTo_44 45 rfl ?_
      refine sx_iload C dX7_silentTo_45 6 rfl 47 rfl ?_
      refine sx_iadd C dX7_silentTo_47 48 rfl ?_
      refine sx_iald C dX7_silentTo_48 (by decide) lyM_3 h.1 49 rfl ?_
      replace h := h.2
      refine sx_if_le C dX7_silentTo_49 65 52 (by decide) rfl (fun c8 => ?_) (fun c8 => ?_)
      · replace h := h.1 c8
        refine sx_iload C dX7_silentTo_65 5 rfl 67 rfl ?_
        exact sx_sub [0, 1, 2, 3, 4, 6] rfl h
      · replace h := h.2 c8
        refine sx_aload_n C dX7_silentTo_52 0 0 rfl rfl 53 rfl ?_
        refine sx_iload C dX7_silentTo_53 4 rfl 55 rfl ?_
        refine sx_iload C dX7_silentTo_55 6 rfl 57 rfl ?_
        refine sx_iconst C dX7_silentTo_57 1 (by decide) 58 rfl ?_
        refine sx_iadd C dX7_silentTo_58 59 rfl ?_
        refine sx_callV C ht hB (st := []) dX7_silentTo_59 (c_X7_filled hf h) mi_X7_filled lk_X7_120 mn_X7_filled ms_X7_filled (by decide) lyM_0 rfl rfl rfl rfl ⟨⟨(Nat.le_of_ble_eq_true rfl), (Nat.le_of_ble_eq_true rfl)⟩, (Nat.le_of_ble_eq_true rfl), (Nat.le_of_ble_eq_true rfl)⟩ (Nat.le_of_ble_eq_true rfl) ⟨(Nat.le_of_ble_eq_true rfl), (Nat.le_of_ble_eq_true rfl)⟩ (fun _ _ hx => hx.elim) 62 rfl (fun v g10 h => ?_)
        obtain ⟨⟨r9, rfl, h⟩, rfl⟩ := h
        refine sx_goto C dX7_silentTo_62 67 (by decide) ?_
        exact sx_sub [0, 1, 2, 3, 4, 6] rfl h)
  replace h := h (by
    intro v3 v4 v5 v7 s0 h
    refine sx_istore C dX7_silentTo_67 [(6, .int s0), (0, .ref (b + 0)), (1, .int x1), (3, .int v3), (4, .int v4), (5, .int v5), (7, .int v7)] (by decide) rfl 69 rfl ?_
    obtain ⟨y11, ey11⟩ : ∃ w : Int32, w = v7 + 1 := ⟨_, rfl⟩
    replace h := h y11 ey11
    refine sx_iinc C dX7_silentTo_69 6 rfl y11 (by rw [ey11]; rfl) [(7, .int y11), (6, .int s0), (0, .ref (b + 0)), (1, .int x1), (3, .int v3), (4, .int v4), (5, .int v5)] (by decide) rfl 72 rfl ?_
    refine sx_goto C dX7_silentTo_72 24 (by decide) ?_
    exact sx_sub [2, 3, 4, 5, 6, 1, 0] rfl h)
  refine sx_sub (lv' := [(0, .ref (b + 0)), (1, .int x1), (2, .int x2)]) [0, 1, 2] rfl ?_
  refine sx_iconst C dX7_silentTo_0 0 (by decide) 1 rfl ?_
  refine sx_istore_n C dX7_silentTo_1 3 rfl [(3, .int 0), (0, .ref (b + 0)), (1, .int x1), (2, .int x2)] (by decide) rfl 2 rfl ?_
  refine sx_iload_n C dX7_silentTo_2 2 3 rfl rfl 3 rfl ?_
  refine sx_istore C dX7_silentTo_3 [(4, .int x2), (3, .int 0), (0, .ref (b + 0)), (1, .int x1), (2, .int x2)] (by decide) rfl 5 rfl ?_
  exact sx_sub [2, 3, 1, 0] rfl h
