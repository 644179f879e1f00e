set_option maxRecDepth 100000 in
set_option maxHeartbeats 4000000 in
theorem c_X4_filled {l : Launch} {D : va_G} {G : sx_G} {b : Nat} (hf : l.stackTraces = false) {f : sx_F} {x1 : Int32} {Q : Int32 → Prop}  (h : P_X4_filled f x1 Q) : sx_Met l D G b 129 lyX yX4_filled cX4_filled 4 (some .int) 2 35 0 0 [.ref (b + 1), .int x1] f (sx_pi f Q) (fun _ _ => False) := by
  refine sx_enter (own := RX4) hf rfl rfl (Nat.le_of_ble_eq_true rfl) ?_
  intro p e s m args below meth c C hr ht
  have hB : ∀ k, k < 129 → sx_A b 129 s.heap.size (b + k) := fun k h => sx_A.in h
  unfold P_X4_filled at h
  replace h := h (fun (v2 : Int32) (v3 : Int32) => sx_J (sx_wp D G b lyX 129) p l e { frames := 2, cells := 0, slots := 0, locals := 35 } s m args below meth c (sx_A b 129 s.heap.size) 4 0 0 (sx_fin (sx_wp D G b lyX 129) (sx_A b 129 s.heap.size) below args s 0 0 (sx_pi f Q) (fun _ _ => False)) f 4 [(0, .ref (b + 1)), (1, .int x1), (2, .int v2), (3, .int v3)] [])
  replace h := h (by
    intro v2 v3 h
    refine sx_iload_n C dX4_filled_4 3 3 rfl rfl 5 rfl ?_
    refine sx_aload_n C dX4_filled_5 0 0 rfl rfl 6 rfl ?_
    refine sx_getq C (T := TX4) (C0 := RX4) (N := 7) (j := 4) dX4_filled_6 fl_X4_21 inw_X4 rfl (by decide) rfl (by decide) lyX_1 rfl 9 rfl ?_
    refine sx_iload_n C dX4_filled_9 1 1 rfl rfl 10 rfl ?_
    refine sx_iald C dX4_filled_10 (by decide) lyX_5 h.1 11 rfl ?_
    replace h := h.2
    refine sx_icmp_ge C dX4_filled_11 29 14 (by decide) rfl (fun c1 => ?_) (fun c1 => ?_)
    · replace h := h.1 c1
      refine sx_iload_n C dX4_filled_29 2 2 rfl rfl 30 rfl ?_
      exact sx_iret C dX4_filled_30 hr (Nat.le_of_ble_eq_true rfl) (Nat.le_of_ble_eq_true rfl) ⟨⟨_, rfl, h⟩, rfl⟩
    · replace h := h.2 c1
      refine sx_iload_n C dX4_filled_14 2 2 rfl rfl 15 rfl ?_
      refine sx_aload_n C dX4_filled_15 0 0 rfl rfl 16 rfl ?_
      refine sx_iload_n C dX4_filled_16 1 1 rfl rfl 17 rfl ?_
      refine sx_iload_n C dX4_filled_17 3 3 rfl rfl 18 rfl ?_
      refine sx_callV C ht hB (st := [.int v2]) dX4_filled_18 (c_X4_lengthAt hf h) mi_X4_lengthAt lk_X4_34 mn_X4_lengthAt ms_X4_lengthAt (by decide) lyX_1 rfl rfl rfl rfl ⟨⟨(Nat.le_of_ble_eq_true rfl), (Nat.le_of_ble_eq_true rfl)⟩, (Nat.le_of_ble_eq_true rfl), (Nat.le_of_ble_eq_true rfl)⟩ (Nat.le_of_ble_eq_true rfl) ⟨(Nat.le_of_ble_eq_true rfl), (Nat.le_of_ble_eq_true rfl)⟩ (fun _ _ hx => hx.elim) 21 rfl (fun v g3 h => ?_)
      obtain ⟨⟨r2, rfl, h⟩, rfl⟩ := h
      refine sx_iadd C dX4_filled_21 22 rfl ?_
      refine sx_topi (fun y4 ey4 => ?_)
      replace h := h y4 ey4
      refine sx_istore_n C dX4_filled_22 2 rfl [(2, .int y4), (0, .ref (b + 1)), (1, .int x1), (3, .int v3)] (by decide) rfl 23 rfl ?_
      obtain ⟨y5, ey5⟩ : ∃ w : Int32, w = v3 + 1 := ⟨_, rfl⟩
      replace h := h y5 ey5
      refine sx_iinc C dX4_filled_23 3 rfl y5 (by rw [ey5]; rfl) [(3, .int y5), (2, .int y4), (0, .ref (b + 1)), (1, .int x1)] (by decide) rfl 26 rfl ?_
      refine sx_goto C dX4_filled_26 4 (by decide) ?_
      exact sx_sub [2, 3, 1, 0] rfl h)
  refine sx_sub (lv' := [(0, .ref (b + 1)), (1, .int x1)]) [0, 1] rfl ?_
  refine sx_iconst C dX4_filled_0 0 (by decide) 1 rfl ?_
  refine sx_istore_n C dX4_filled_1 2 rfl [(2, .int 0), (0, .ref (b + 1)), (1, .int x1)] (by decide) rfl 2 rfl ?_
  refine sx_iconst C dX4_filled_2 0 (by decide) 3 rfl ?_
  refine sx_istore_n C dX4_filled_3 3 rfl [(3, .int 0), (2, .int 0), (0, .ref (b + 1)), (1, .int x1)] (by decide) rfl 4 rfl ?_
  exact sx_sub [2, 3, 1, 0] rfl h
set_option maxRecDepth 100000 in
set_option maxHeartbeats 4000000 in
theorem c_X4_countTime {l : Launch} {D : va_G} {G : sx_G} {b : Nat} (hf : l.stackTraces = false) {f : sx_F} {x1 : Int32} {Q : Int32 → Prop}  (h : P_X4_countTime f x1 Q) : sx_Met l D G b 129 lyX yX4_countTime cX4_countTime 4 (some .int) 1 13 0 0 [.ref (b + 1), .int x1] f (sx_pi f Q) (fun _ _ => False) := by
  refine sx_enter (own := RX4) hf rfl rfl (Nat.le_of_ble_eq_true rfl) ?_
  intro p e s m args below meth c C hr ht
  have hB : ∀ k, k < 129 → sx_A b 129 s.heap.size (b + k) := fun k h => sx_A.in h
  unfold P_X4_countTime at h
  replace h := h (fun (v2 : Int32) (v3 : Int32) => sx_J (sx_wp D G b lyX 129) p l e { frames := 1, cells := 0, slots := 0, locals := 13 } s m args below meth c (sx_A b 129 s.heap.size) 4 0 0 (sx_fin (sx_wp D G b lyX 129) (sx_A b 129 s.heap.size) below args s 0 0 (sx_pi f Q) (fun _ _ => False)) f 4 [(0, .ref (b + 1)), (1, .int x1), (2, .int v2), (3, .int v3)] [])
  replace h := h (by
    intro v2 v3 h
    refine sx_iload_n C dX4_countTime_4 3 3 rfl rfl 5 rfl ?_
    refine sx_iload_n C dX4_countTime_5 1 1 rfl rfl 6 rfl ?_
    refine sx_icmp_ge C dX4_countTime_6 24 9 (by decide) rfl (fun c1 => ?_) (fun c1 => ?_)
    · replace h := h.1 c1
      refine sx_iload_n C dX4_countTime_24 2 2 rfl rfl 25 rfl ?_
      exact sx_iret C dX4_countTime_25 hr (Nat.le_of_ble_eq_true rfl) (Nat.le_of_ble_eq_true rfl) ⟨⟨_, rfl, h⟩, rfl⟩
    · replace h := h.2 c1
      refine sx_iload_n C dX4_countTime_9 2 2 rfl rfl 10 rfl ?_
      refine sx_aload_n C dX4_countTime_10 0 0 rfl rfl 11 rfl ?_
      refine sx_getq C (T := TX4) (C0 := RX4) (N := 7) (j := 1) dX4_countTime_11 fl_X4_9 inw_X4 rfl (by decide) rfl (by decide) lyX_1 rfl 14 rfl ?_
      refine sx_iload_n C dX4_countTime_14 3 3 rfl rfl 15 rfl ?_
      refine sx_iald C dX4_countTime_15 (by decide) lyX_2 h.1 16 rfl ?_
      replace h := h.2
      refine sx_iadd C dX4_countTime_16 17 rfl ?_
      refine sx_topi (fun y2 ey2 => ?_)
      replace h := h y2 ey2
      refine sx_istore_n C dX4_countTime_17 2 rfl [(2, .int y2), (0, .ref (b + 1)), (1, .int x1), (3, .int v3)] (by decide) rfl 18 rfl ?_
      obtain ⟨y3, ey3⟩ : ∃ w : Int32, w = v3 + 1 := ⟨_, rfl⟩
      replace h := h y3 ey3
      refine sx_iinc C dX4_countTime_18 3 rfl y3 (by rw [ey3]; rfl) [(3, .int y3), (2, .int y2), (0, .ref (b + 1)), (1, .int x1)] (by decide) rfl 21 rfl ?_
      refine sx_goto C dX4_countTime_21 4 (by decide) ?_
      exact sx_sub [2, 3, 1, 0] rfl h)
  refine sx_sub (lv' := [(0, .ref (b + 1)), (1, .int x1)]) [0, 1] rfl ?_
  refine sx_iconst C dX4_countTime_0 0 (by decide) 1 rfl ?_
  refine sx_istore_n C dX4_countTime_1 2 rfl [(2, .int 0), (0, .ref (b + 1)), (1, .int x1)] (by decide) rfl 2 rfl ?_
  refine sx_iconst C dX4_countTime_2 0 (by decide) 3 rfl ?_
  refine sx_istore_n C dX4_countTime_3 3 rfl [(3, .int 0), (2, .int 0), (0, .ref (b + 1)), (1, .int x1)] (by decide) rfl 4 rfl ?_
  exact sx_sub [2, 3, 1, 0] rfl h
set_option maxRecDepth 100000 in
set_option maxHeartbeats 4000000 in
theorem c_X6_needValue {l : Launch} {D : va_G} {G : sx_G} {b : Nat} (hf : l.stackTraces = false) {f : sx_F} {x0 : Int32} {x1 : Int32} {x2 : Int32} {Q : Prop} {X : String → Prop}  (h : P_X6_needValue f x0 x1 x2 Q X) : sx_Met l D G b 129 lyX yX6_needValue cX6_needValue 3 (none) 6 90 1 6 [.int x0, .int x1, .int x2] f (sx_pv f Q) (sx_xp f X) := by
  refine sx_enter (own := RX6) hf rfl rfl (Nat.le_of_ble_eq_true rfl) ?_
  intro p e s m args below meth c C hr ht
  have hB : ∀ k, k < 129 → sx_A b 129 s.heap.size (b + k) := fun k h => sx_A.in h
  unfold P_X6_needValue at h
  replace h := h (sx_J (sx_wp D G b lyX 129) p l e { frames := 6, cells := 1, slots := 6, locals := 90 } s m args below meth c (sx_A b 129 s.heap.size) 3 0 0 (sx_fin (sx_wp D G b lyX 129) (sx_A b 129 s.heap.size) below args s 1 6 (sx_pv f Q) (sx_xp f X)) f 10 [] [])
  replace h := h (by
    intro h
    exact sx_throw C ht dX6_needValue_10 dX6_needValue_13 dX6_needValue_14 dX6_needValue_16 dX6_needValue_19 exf_IllegalArgumentException exk_X6_IllegalArgumentException exi_IllegalArgumentException (List.mem_of_getElem? (i := 0) rfl) exa_X6_IllegalArgumentException exg_X6_IllegalArgumentException ⟨(Nat.le_of_ble_eq_true rfl), (Nat.le_of_ble_eq_true rfl), (Nat.le_of_ble_eq_true rfl), (Nat.le_of_ble_eq_true rfl)⟩ (Nat.le_of_ble_eq_true rfl) (Nat.le_of_ble_eq_true rfl) ⟨h, rfl⟩)
  refine sx_sub (lv' := [(0, .int x0), (1, .int x1), (2, .int x2)]) [0, 1, 2] rfl ?_
  refine sx_iload_n C dX6_needValue_0 0 0 rfl rfl 1 rfl ?_
  refine sx_iload_n C dX6_needValue_1 1 1 rfl rfl 2 rfl ?_
  refine sx_icmp_lt C dX6_needValue_2 10 5 (by decide) rfl (fun c1 => ?_) (fun c1 => ?_)
  · replace h := h.1 c1
    exact sx_sub [] rfl h
  · replace h := h.2 c1
    refine sx_iload_n C dX6_needValue_5 0 0 rfl rfl 6 rfl ?_
    refine sx_iload_n C dX6_needValue_6 2 2 rfl rfl 7 rfl ?_
    refine sx_icmp_le C dX6_needValue_7 20 10 (by decide) rfl (fun c2 => ?_) (fun c2 => ?_)
    · replace h := h.1 c2
      exact sx_vret C dX6_needValue_20 hr (Nat.le_of_ble_eq_true rfl) (Nat.le_of_ble_eq_true rfl) ⟨⟨rfl, h⟩, rfl⟩
    · replace h := h.2 c2
      exact sx_sub [] rfl h
set_option maxRecDepth 100000 in
set_option maxHeartbeats 4000000 in
theorem c_X6_needIndex {l : Launch} {D : va_G} {G : sx_G} {b : Nat} (hf : l.stackTraces = false) {f : sx_F} {x0 : Int32} {x1 : Int32} {Q : Prop} {X : String → Prop}  (h : P_X6_needIndex f x0 x1 Q X) : sx_Met l D G b 129 lyX yX6_needIndex cX6_needIndex 2 (none) 6 90 1 6 [.int x0, .int x1] f (sx_pv f Q) (sx_xp f X) := by
  refine sx_enter (own := RX6) hf rfl rfl (Nat.le_of_ble_eq_true rfl) ?_
  intro p e s m args below meth c C hr ht
  have hB : ∀ k, k < 129 → sx_A b 129 s.heap.size (b + k) := fun k h => sx_A.in h
  unfold P_X6_needIndex at h
  replace h := h (sx_J (sx_wp D G b lyX 129) p l e { frames := 6, cells := 1, slots := 6, locals := 90 } s m args below meth c (sx_A b 129 s.heap.size) 2 0 0 (sx_fin (sx_wp D G b lyX 129) (sx_A b 129 s.heap.size) below args s 1 6 (sx_pv f Q) (sx_xp f X)) f 9 [] [])
  replace h := h (by
    intro h
    exact sx_throw C ht dX6_needIndex_9 dX6_needIndex_12 dX6_needIndex_13 dX6_needIndex_15 dX6_needIndex_18 exf_IndexOutOfBoundsException exk_X6_IndexOutOfBoundsException exi_IndexOutOfBoundsException (List.mem_of_getElem? (i := 2) rfl) exa_X6_IndexOutOfBoundsException exg_X6_IndexOutOfBoundsException ⟨(Nat.le_of_ble_eq_true rfl), (Nat.le_of_ble_eq_true rfl), (Nat.le_of_ble_eq_true rfl), (Nat.le_of_ble_eq_true rfl)⟩ (Nat.le_of_ble_eq_true rfl) (Nat.le_of_ble_eq_true rfl) ⟨h, rfl⟩)
  refine sx_sub (lv' := [(0, .int x0), (1, .int x1)]) [0, 1] rfl ?_
  refine sx_iload_n C dX6_needIndex_0 0 0 rfl rfl 1 rfl ?_
  refine sx_if_lt C dX6_needIndex_1 9 4 (by decide) rfl (fun c1 => ?_) (fun c1 => ?_)
  · replace h := h.1 c1
    exact sx_sub [] rfl h
  · replace h := h.2 c1
    refine sx_iload_n C dX6_needIndex_4 0 0 rfl rfl 5 rfl ?_
    refine sx_iload_n C dX6_needIndex_5 1 1 rfl rfl 6 rfl ?_
    refine sx_icmp_lt C dX6_needIndex_6 19 9 (by decide) rfl (fun c2 => ?_) (fun c2 => ?_)
    · replace h := h.1 c2
      exact sx_vret C dX6_needIndex_19 hr (Nat.le_of_ble_eq_true rfl) (Nat.le_of_ble_eq_true rfl) ⟨⟨rfl, h⟩, rfl⟩
    · replace h := h.2 c2
      exact sx_sub [] rfl h
set_option maxRecDepth 100000 in
set_option maxHeartbeats 4000000 in
theorem c_X6_needSlot {l : Launch} {D : va_G} {G : sx_G} {b : Nat} (hf : l.stackTraces = false) {f : sx_F} {x1 : Int32} {x2 : Int32} {Q : Int32 → Prop} {X : String → Prop}  (h : P_X6_needSlot f x1 x2 Q X) : sx_Met l D G b 129 lyX yX6_needSlot cX6_needSlot 3 (some .int) 7 111 2 12 [.ref (b + 0), .int x1, .int x2] f (sx_pi f Q) (sx_xp f X) := by
  refine sx_enter (own := RX6) hf rfl rfl (Nat.le_of_ble_eq_true rfl) ?_
  intro p e s m args below meth c C hr ht
  have hB : ∀ k, k < 129 → sx_A b 129 s.heap.size (b + k) := fun k h => sx_A.in h
  unfold P_X6_needSlot at h
  refine sx_sub (lv' := [(0, .ref (b + 0)), (1, .int x1), (2, .int x2)]) [0, 1, 2] rfl ?_
  refine sx_iload_n C dX6_needSlot_0 1 1 rfl rfl 1 rfl ?_
  refine sx_iconst C dX6_needSlot_1 5 (by decide) 2 rfl ?_
  refine sx_callS C ht hB (st := []) dX6_needSlot_2 (c_X6_needIndex hf h) mi_X6_needIndex lk_X6_89 mt_X6_needIndex rfl rfl ⟨⟨(Nat.le_of_ble_eq_true rfl), (Nat.le_of_ble_eq_true rfl)⟩, (Nat.le_of_ble_eq_true rfl), (Nat.le_of_ble_eq_true rfl)⟩ (Nat.le_of_ble_eq_true rfl) ⟨(Nat.le_of_ble_eq_true rfl), (Nat.le_of_ble_eq_true rfl)⟩ (fun _ _ hx => hx) 5 rfl (fun v g1 h => ?_)
  obtain ⟨⟨rfl, h⟩, rfl⟩ := h
  refine sx_iload_n C dX6_needSlot_5 2 2 rfl rfl 6 rfl ?_
  refine sx_aload_n C dX6_needSlot_6 0 0 rfl rfl 7 rfl ?_
  refine sx_getq C (T := TX6) (C0 := RX6) (N := 7) (j := 0) dX6_needSlot_7 fl_X6_12 inw_X6 rfl (by decide) rfl (by decide) lyX_0 rfl 10 rfl ?_
  refine sx_getiN C (T := TX4) (C0 := RX4) (N := 7) (j := 0) dX6_needSlot_10 fln_X6_52 inw_X4 rfl (by decide) rfl (by decide) lyX_1 rfl 13 rfl ?_
  refine sx_callS C ht hB (st := []) dX6_needSlot_13 (c_X6_needIndex hf h) mi_X6_needIndex lk_X6_89 mt_X6_needIndex rfl rfl ⟨⟨(Nat.le_of_ble_eq_true rfl), (Nat.le_of_ble_eq_true rfl)⟩, (Nat.le_of_ble_eq_true rfl), (Nat.le_of_ble_eq_true rfl)⟩ (Nat.le_of_ble_eq_true rfl) ⟨(Nat.le_of_ble_eq_true rfl), (Nat.le_of_ble_eq_true rfl)⟩ (fun _ _ hx => hx) 16 rfl (fun v g2 h => ?_)
  obtain ⟨⟨rfl, h⟩, rfl⟩ := h
  refine sx_iload_n C dX6_needSlot_16 1 1 rfl rfl 17 rfl ?_
  refine sx_iload_n C dX6_needSlot_17 2 2 rfl rfl 18 rfl ?_
  refine sx_callS C ht hB (st := []) dX6_needSlot_18 (c_X6_slotOf hf h) mi_X6_slotOf lk_X6_148 mt_X6_slotOf rfl rfl ⟨⟨(Nat.le_of_ble_eq_true rfl), (Nat.le_of_ble_eq_true rfl)⟩, (Nat.le_of_ble_eq_true rfl), (Nat.le_of_ble_eq_true rfl)⟩ (Nat.le_of_ble_eq_true rfl) ⟨(Nat.le_of_ble_eq_true rfl), (Nat.le_of_ble_eq_true rfl)⟩ (fun _ _ hx => hx.elim) 21 rfl (fun v g4 h => ?_)
  obtain ⟨⟨r3, rfl, h⟩, rfl⟩ := h
  exact sx_iret C dX6_needSlot_21 hr (Nat.le_of_ble_eq_true rfl) (Nat.le_of_ble_eq_true rfl) ⟨⟨_, rfl, h⟩, rfl⟩
set_option maxRecDepth 100000 in
set_option maxHeartbeats 4000000 in
theorem c_X6_note {l : Launch} {D : va_G} {G : sx_G} {b : Nat} (hf : l.stackTraces = false) {f : sx_F} {x1 : Int32} {x2 : Int32} {x3 : Int32} {x4 : Int32} {Q : Int32 → sx_F → Prop} {X : String → sx_F → Prop}  (h : P_X6_note f x1 x2 x3 x4 Q X) : sx_Met l D G b 129 lyX yX6_note cX6_note 6 (some .int) 8 133 5 30 [.ref (b + 0), .int x1, .int x2, .int x3, .int x4] f (sx_qi Q) (X) := by
  refine sx_enter (own := RX6) hf rfl rfl (Nat.le_of_ble_eq_true rfl) ?_
  intro p e s m args below meth c C hr ht
  have hB : ∀ k, k < 129 → sx_A b 129 s.heap.size (b + k) := fun k h => sx_A.in h
  unfold P_X6_note at h
  refine sx_sub (lv' := [(0, .ref (b + 0)), (1, .int x1), (2, .int x2), (3, .int x3), (4, .int x4)]) [0, 1, 2, 3, 4] rfl ?_
  refine sx_aload_n C dX6_note_0 0 0 rfl rfl 1 rfl ?_
  refine sx_iload_n C dX6_note_1 1 1 rfl rfl 2 rfl ?_
  refine sx_iload_n C dX6_note_2 2 2 rfl rfl 3 rfl ?_
  refine sx_callV C ht hB (st := []) dX6_note_3 (c_X6_needSlot hf h) mi_X6_needSlot lk_X6_67 mn_X6_needSlot ms_X6_needSlot (by decide) lyX_0 rfl rfl rfl rfl ⟨⟨(Nat.le_of_ble_eq_true rfl), (Nat.le_of_ble_eq_true rfl)⟩, (Nat.le_of_ble_eq_true rfl), (Nat.le_of_ble_eq_true rfl)⟩ (Nat.le_of_ble_eq_true rfl) ⟨(Nat.le_of_ble_eq_true rfl), (Nat.le_of_ble_eq_true rfl)⟩ (fun E u hx => by obtain ⟨h1, rfl⟩ := hx; exact h1) 6 rfl (fun v g2 h => ?_)
  obtain ⟨⟨r1, rfl, h⟩, rfl⟩ := h
  refine sx_istore C dX6_note_6 [(5, .int r1), (0, .ref (b + 0)), (1, .int x1), (2, .int x2), (3, .int x3), (4, .int x4)] (by decide) rfl 8 rfl ?_
  refine sx_iload_n C dX6_note_8 3 4 rfl rfl 9 rfl ?_
  refine sx_iconst C dX6_note_9 1 (by decide) 10 rfl ?_
  refine sx_bipush C dX6_note_10 32 (by decide) 12 rfl ?_
  refine sx_callS C ht hB (st := []) dX6_note_12 (c_X6_needValue hf h) mi_X6_needValue lk_X6_48 mt_X6_needValue rfl rfl ⟨⟨(Nat.le_of_ble_eq_true rfl), (Nat.le_of_ble_eq_true rfl)⟩, (Nat.le_of_ble_eq_true rfl), (Nat.le_of_ble_eq_true rfl)⟩ (Nat.le_of_ble_eq_true rfl) ⟨(Nat.le_of_ble_eq_true rfl), (Nat.le_of_ble_eq_true rfl)⟩ (fun E u hx => by obtain ⟨h1, rfl⟩ := hx; exact h1) 15 rfl (fun v g3 h => ?_)
  obtain ⟨⟨rfl, h⟩, rfl⟩ := h
  refine sx_iload C dX6_note_15 5 rfl 17 rfl ?_
  refine sx_iconst C dX6_note_17 0 (by decide) 18 rfl ?_
  refine sx_bipush C dX6_note_18 60 (by decide) 20 rfl ?_
  refine sx_callS C ht hB (st := []) dX6_note_20 (c_X6_needValue hf h) mi_X6_needValue lk_X6_48 mt_X6_needValue rfl rfl ⟨⟨(Nat.le_of_ble_eq_true rfl), (Nat.le_of_ble_eq_true rfl)⟩, (Nat.le_of_ble_eq_true rfl), (Nat.le_of_ble_eq_true rfl)⟩ (Nat.le_of_ble_eq_true rfl) ⟨(Nat.le_of_ble_eq_true rfl), (Nat.le_of_ble_eq_true rfl)⟩ (fun E u hx => by obtain ⟨h1, rfl⟩ := hx; exact h1) 23 rfl (fun v g4 h => ?_)
  obtain ⟨⟨rfl, h⟩, rfl⟩ := h
  refine sx_aload_n C dX6_note_23 0 1 rfl rfl 24 rfl ?_
  refine sx_getq C (T := TX6) (C0 := RX6) (N := 7) (j := 0) dX6_note_24 fl_X6_12 inw_X6 rfl (by decide) rfl (by decide) lyX_0 rfl 27 rfl ?_
  refine sx_getqN C (T := TX4) (C0 := RX4) (N := 7) (j := 4) dX6_note_27 fln_X6_71 inw_X4 rfl (by decide) rfl (by decide) lyX_1 rfl 30 rfl ?_
  refine sx_iload C dX6_note_30 0 rfl 32 rfl ?_
  refine sx_iald C dX6_note_32 (by decide) lyX_5 h.1 33 rfl ?_
  replace h := h.2
  refine sx_bipush C dX6_note_33 8 (by decide) 35 rfl ?_
  refine sx_icmp_lt C dX6_note_35 48 38 (by decide) rfl (fun c5 => ?_) (fun c5 => ?_)
  · replace h := h.1 c5
    refine sx_aload_n C dX6_note_48 0 1 rfl rfl 49 rfl ?_
    refine sx_getq C (T := TX6) (C0 := RX6) (N := 7) (j := 0) dX6_note_49 fl_X6_12 inw_X6 rfl (by decide) rfl (by decide) lyX_0 rfl 52 rfl ?_
    refine sx_iload C dX6_note_52 0 rfl 54 rfl ?_
    refine sx_callV C ht hB (st := []) dX6_note_54 (c_X4_filled hf h) mi_X4_filled lk_X6_77 mn_X4_filled ms_X4_filled (by decide) lyX_1 rfl rfl rfl rfl ⟨⟨(Nat.le_of_ble_eq_true rfl), (Nat.le_of_ble_eq_true rfl)⟩, (Nat.le_of_ble_eq_true rfl), (Nat.le_of_ble_eq_true rfl)⟩ (Nat.le_of_ble_eq_true rfl) ⟨(Nat.le_of_ble_eq_true rfl), (Nat.le_of_ble_eq_true rfl)⟩ (fun _ _ hx => hx.elim) 57 rfl (fun v g7 h => ?_)
    obtain ⟨⟨r6, rfl, h⟩, rfl⟩ := h
    refine sx_iload_n C dX6_note_57 3 4 rfl rfl 58 rfl ?_
    refine sx_iadd C dX6_note_58 59 rfl ?_
    refine sx_aload_n C dX6_note_59 0 1 rfl rfl 60 rfl ?_
    refine sx_getq C (T := TX6) (C0 := RX6) (N := 7) (j := 0) dX6_note_60 fl_X6_12 inw_X6 rfl (by decide) rfl (by decide) lyX_0 rfl 63 rfl ?_
    refine sx_getqN C (T := TX4) (C0 := RX4) (N := 7) (j := 1) dX6_note_63 fln_X6_80 inw_X4 rfl (by decide) rfl (by decide) lyX_1 rfl 66 rfl ?_
    refine sx_iload_n C dX6_note_66 2 3 rfl rfl 67 rfl ?_
    refine sx_iald C dX6_note_67 (by decide) lyX_2 h.1 68 rfl ?_
    replace h := h.2
    refine sx_icmp_le C dX6_note_68 81 71 (by decide) rfl (fun c8 => ?_) (fun c8 => ?_)
    · replace h := h.1 c8
      refine sx_aload_n C dX6_note_81 0 1 rfl rfl 82 rfl ?_
      refine sx_getq C (T := TX6) (C0 := RX6) (N := 7) (j := 0) dX6_note_82 fl_X6_12 inw_X6 rfl (by decide) rfl (by decide) lyX_0 rfl 85 rfl ?_
      refine sx_iload C dX6_note_85 0 rfl 87 rfl ?_
      refine sx_iload_n C dX6_note_87 3 4 rfl rfl 88 rfl ?_
      refine sx_iload C dX6_note_88 5 rfl 90 rfl ?_
      refine sx_callV C ht hB (st := []) dX6_note_90 (c_X4_addNote hf h) mi_X4_addNote lk_X6_85 mn_X4_addNote ms_X4_addNote (by decide) lyX_1 rfl rfl rfl rfl ⟨⟨(Nat.le_of_ble_eq_true rfl), (Nat.le_of_ble_eq_true rfl)⟩, (Nat.le_of_ble_eq_true rfl), (Nat.le_of_ble_eq_true rfl)⟩ (Nat.le_of_ble_eq_true rfl) ⟨(Nat.le_of_ble_eq_true rfl), (Nat.le_of_ble_eq_true rfl)⟩ (fun _ _ hx => hx.elim) 93 rfl (fun v g9 h => ?_)
      obtain ⟨r10, rfl, h⟩ := h
      exact sx_iret C dX6_note_93 hr (Nat.le_of_ble_eq_true rfl) (Nat.le_of_ble_eq_true rfl) ⟨_, rfl, h⟩
    · replace h := h.2 c8
      exact sx_throw C ht dX6_note_71 dX6_note_74 dX6_note_75 dX6_note_77 dX6_note_80 exf_IllegalStateException exk_X6_IllegalStateException exi_IllegalStateException (List.mem_of_getElem? (i := 4) rfl) exa_X6_IllegalStateException exg_X6_IllegalStateException ⟨(Nat.le_of_ble_eq_true rfl), (Nat.le_of_ble_eq_true rfl), (Nat.le_of_ble_eq_true rfl), (Nat.le_of_ble_eq_true rfl)⟩ (Nat.le_of_ble_eq_true rfl) (Nat.le_of_ble_eq_true rfl) h
  · replace h := h.2 c5
    exact sx_throw C ht dX6_note_38 dX6_note_41 dX6_note_42 dX6_note_44 dX6_note_47 exf_IllegalStateException exk_X6_IllegalStateException exi_IllegalStateException (List.mem_of_getElem? (i := 3) rfl) exa_X6_IllegalStateException exg_X6_IllegalStateException ⟨(Nat.le_of_ble_eq_true rfl), (Nat.le_of_ble_eq_true rfl), (Nat.le_of_ble_eq_true rfl), (Nat.le_of_ble_eq_true rfl)⟩ (Nat.le_of_ble_eq_true rfl) (Nat.le_of_ble_eq_true rfl) h
set_option maxRecDepth 100000 in
set_option maxHeartbeats 4000000 in
theorem c_X6_deskHasPart {l : Launch} {D : va_G} {G : sx_G} {b : Nat} (hf : l.stackTraces = false) {f : sx_F} {x1 : Int32} {x2 : Int32} {Q : Int32 → Prop}  (h : P_X6_deskHasPart f x1 x2 Q) : sx_Met l D G b 129 lyX yX6_deskHasPart cX6_deskHasPart 4 (some .boolean) 1 13 0 0 [.ref (b + 0), .int x1, .int x2] f (sx_pi f Q) (fun _ _ => False) := by
  refine sx_enter (own := RX6) hf rfl rfl (Nat.le_of_ble_eq_true rfl) ?_
  intro p e s m args below meth c C hr ht
  have hB : ∀ k, k < 129 → sx_A b 129 s.heap.size (b + k) := fun k h => sx_A.in h
  unfold P_X6_deskHasPart at h
  replace h := h (fun (v3 : Int32) => sx_J (sx_wp D G b lyX 129) p l e { frames := 1, cells := 0, slots := 0, locals := 13 } s m args below meth c (sx_A b 129 s.heap.size) 4 0 0 (sx_fin (sx_wp D G b lyX 129) (sx_A b 129 s.heap.size) below args s 0 0 (sx_pi f Q) (fun _ _ => False)) f 2 [(0, .ref (b + 0)), (1, .int x1), (2, .int x2), (3, .int v3)] [])
  replace h := h (fun (v3 : Int32) => sx_J (sx_wp D G b lyX 129) p l e { frames := 1, cells := 0, slots := 0, locals := 13 } s m args below meth c (sx_A b 129 s.heap.size) 4 0 0 (sx_fin (sx_wp D G b lyX 129) (sx_A b 129 s.heap.size) below args s 0 0 (sx_pi f Q) (fun _ _ => False)) f 38 [(0, .ref (b + 0)), (1, .int x1), (2, .int x2), (3, .int v3)] [])
  replace h := h (by
    intro v3 h
    refine sx_iload_n C dX6_deskHasPart_2 3 3 rfl rfl 3 rfl ?_
    refine sx_aload_n C dX6_deskHasPart_3 0 0 rfl rfl 4 rfl ?_
    refine sx_geti C (T := TX6) (C0 := RX6) (N := 7) (j := 5) dX6_deskHasPart_4 fl_X6_105 inw_X6 rfl (by decide) rfl (by decide) lyX_0 rfl 7 rfl ?_
    refine sx_icmp_ge C dX6_deskHasPart_7 44 10 (by decide) rfl (fun c1 => ?_) (fun c1 => ?_)
    · replace h := h.1 c1
      refine sx_iconst C dX6_deskHasPart_44 0 (by decide) 45 rfl ?_
      exact sx_zret C dX6_deskHasPart_45 hr (Nat.le_of_ble_eq_true rfl) (Nat.le_of_ble_eq_true rfl) (Or.inl rfl) ⟨⟨_, rfl, h⟩, rfl⟩
    · replace h := h.2 c1
      refine sx_aload_n C dX6_deskHasPart_10 0 0 rfl rfl 11 rfl ?_
      refine sx_getq C (T := TX6) (C0 := RX6) (N := 7) (j := 3) dX6_deskHasPart_11 fl_X6_36 inw_X6 rfl (by decide) rfl (by decide) lyX_0 rfl 14 rfl ?_
      refine sx_iload_n C dX6_deskHasPart_14 3 3 rfl rfl 15 rfl ?_
      have hn3 := h.1
      refine sx_aaldn C dX6_deskHasPart_15 (66 + 2 * v3.toNatClampNeg) (by decide) lyX_65 rfl rfl hn3 rfl 16 rfl (fun w2 ew2 => ?_)
      replace h := h.2 w2 ew2
      have hiw2 := isX1_of hn3 ew2
      refine sx_getiN C (T := TX1) (C0 := RX1) (N := 4) (j := 2) dX6_deskHasPart_16 fln_X6_125 inw_X1 rfl (by decide) rfl (isX1_lt hiw2) (isX1_ly hiw2) rfl 19 rfl ?_
      refine sx_iload_n C dX6_deskHasPart_19 1 1 rfl rfl 20 rfl ?_
      refine sx_icmp_ne C dX6_deskHasPart_20 38 23 (by decide) rfl (fun c4 => ?_) (fun c4 => ?_)
      · replace h := h.2 c4
        exact sx_sub [0, 1, 2, 3] rfl h
      · replace h := h.1 c4
        refine sx_aload_n C dX6_deskHasPart_23 0 0 rfl rfl 24 rfl ?_
        refine sx_getq C (T := TX6) (C0 := RX6) (N := 7) (j := 3) dX6_deskHasPart_24 fl_X6_36 inw_X6 rfl (by decide) rfl (by decide) lyX_0 rfl 27 rfl ?_
        refine sx_iload_n C dX6_deskHasPart_27 3 3 rfl rfl 28 rfl ?_
        have hn6 := h.1
        refine sx_aaldn C dX6_deskHasPart_28 (66 + 2 * v3.toNatClampNeg) (by decide) lyX_65 rfl rfl hn6 rfl 29 rfl (fun w5 ew5 => ?_)
        replace h := h.2 w5 ew5
        have hiw5 := isX1_of hn6 ew5
        refine sx_getiN C (T := TX1) (C0 := RX1) (N := 4) (j := 1) dX6_deskHasPart_29 fln_X6_110 inw_X1 rfl (by decide) rfl (isX1_lt hiw5) (isX1_ly hiw5) rfl 32 rfl ?_
        refine sx_iload_n C dX6_deskHasPart_32 2 2 rfl rfl 33 rfl ?_
        refine sx_icmp_ne C dX6_deskHasPart_33 38 36 (by decide) rfl (fun c7 => ?_) (fun c7 => ?_)
        · replace h := h.2 c7
          exact sx_sub [0, 1, 2, 3] rfl h
        · replace h := h.1 c7
          refine sx_iconst C dX6_deskHasPart_36 1 (by decide) 37 rfl ?_
          exact sx_zret C dX6_deskHasPart_37 hr (Nat.le_of_ble_eq_true rfl) (Nat.le_of_ble_eq_true rfl) (Or.inr rfl) ⟨⟨_, rfl, h⟩, rfl⟩)
  replace h := h (by
    intro v3 h
    obtain ⟨y8, ey8⟩ : ∃ w : Int32, w = v3 + 1 := ⟨_, rfl⟩
    replace h := h y8 ey8
    refine sx_iinc C dX6_deskHasPart_38 3 rfl y8 (by rw [ey8]; rfl) [(3, .int y8), (0, .ref (b + 0)), (1, .int x1), (2, .int x2)] (by decide) rfl 41 rfl ?_
    refine sx_goto C dX6_deskHasPart_41 2 (by decide) ?_
    exact sx_sub [1, 2, 3, 0] rfl h)
  refine sx_sub (lv' := [(0, .ref (b + 0)), (1, .int x1), (2, .int x2)]) [0, 1, 2] rfl ?_
  refine sx_iconst C dX6_deskHasPart_0 0 (by decide) 1 rfl ?_
  refine sx_istore_n C dX6_deskHasPart_1 3 rfl [(3, .int 0), (0, .ref (b + 0)), (1, .int x1), (2, .int x2)] (by decide) rfl 2 rfl ?_
  exact sx_sub [1, 2, 3, 0] rfl h
set_option maxRecDepth 100000 in
set_option maxHeartbeats 4000000 in
theorem c_X6_copiesOut {l : Launch} {D : va_G} {G : sx_G} {b : Nat} (hf : l.stackTraces = false) {f : sx_F}  {Q : Int32 → Prop}  (h : P_X6_copiesOut f  Q) : sx_Met l D G b 129 lyX yX6_copiesOut cX6_copiesOut 3 (some .int) 2 33 0 0 [.ref (b + 0)] f (sx_pi f Q) (fun _ _ => False) := by
  refine sx_enter (own := RX6) hf rfl rfl (Nat.le_of_ble_eq_true rfl) ?_
  intro p e s m args below meth c C hr ht
  have hB : ∀ k, k < 129 → sx_A b 129 s.heap.size (b + k) := fun k h => sx_A.in h
  unfold P_X6_copiesOut at h
  replace h := h (fun (v1 : Int32) (v2 : Int32) => sx_J (sx_wp D G b lyX 129) p l e { frames := 2, cells := 0, slots := 0, locals := 33 } s m args below meth c (sx_A b 129 s.heap.size) 3 0 0 (sx_fin (sx_wp D G b lyX 129) (sx_A b 129 s.heap.size) below args s 0 0 (sx_pi f Q) (fun _ _ => False)) f 4 [(0, .ref (b + 0)), (1, .int v1), (2, .int v2)] [])
  replace h := h (fun (v1 : Int32) (v2 : Int32) => sx_J (sx_wp D G b lyX 129) p l e { frames := 2, cells := 0, slots := 0, locals := 33 } s m args below meth c (sx_A b 129 s.heap.size) 3 0 0 (sx_fin (sx_wp D G b lyX 129) (sx_A b 129 s.heap.size) below args s 0 0 (sx_pi f Q) (fun _ _ => False)) f 27 [(0, .ref (b + 0)), (1, .int v1), (2, .int v2)] [])
  replace h := h (by
    intro v1 v2 h
    refine sx_iload_n C dX6_copiesOut_4 2 2 rfl rfl 5 rfl ?_
    refine sx_aload_n C dX6_copiesOut_5 0 0 rfl rfl 6 rfl ?_
    refine sx_geti C (T := TX6) (C0 := RX6) (N := 7) (j := 5) dX6_copiesOut_6 fl_X6_105 inw_X6 rfl (by decide) rfl (by decide) lyX_0 rfl 9 rfl ?_
    refine sx_icmp_ge C dX6_copiesOut_9 33 12 (by decide) rfl (fun c1 => ?_) (fun c1 => ?_)
    · replace h := h.1 c1
      refine sx_iload_n C dX6_copiesOut_33 1 1 rfl rfl 34 rfl ?_
      exact sx_iret C dX6_copiesOut_34 hr (Nat.le_of_ble_eq_true rfl) (Nat.le_of_ble_eq_true rfl) ⟨⟨_, rfl, h⟩, rfl⟩
    · replace h := h.2 c1
      refine sx_aload_n C dX6_copiesOut_12 0 0 rfl rfl 13 rfl ?_
      refine sx_getq C (T := TX6) (C0 := RX6) (N := 7) (j := 3) dX6_copiesOut_13 fl_X6_36 inw_X6 rfl (by decide) rfl (by decide) lyX_0 rfl 16 rfl ?_
      refine sx_iload_n C dX6_copiesOut_16 2 2 rfl rfl 17 rfl ?_
      have hn3 := h.1
      refine sx_aaldn C dX6_copiesOut_17 (66 + 2 * v2.toNatClampNeg) (by decide) lyX_65 rfl rfl hn3 rfl 18 rfl (fun w2 ew2 => ?_)
      replace h := h.2 w2 ew2
      have hiw2 := isX1_of hn3 ew2
      refine sx_callV C ht hB (st := []) dX6_copiesOut_18 (c_X1_isOut hf hiw2 h) mi_X1_isOut lk_X6_113 mn_X1_isOut ms_X1_isOut (isX1_lt hiw2) (isX1_ly hiw2) rfl rfl rfl rfl ⟨⟨(Nat.le_of_ble_eq_true rfl), (Nat.le_of_ble_eq_true rfl)⟩, (Nat.le_of_ble_eq_true rfl), (Nat.le_of_ble_eq_true rfl)⟩ (Nat.le_of_ble_eq_true rfl) ⟨(Nat.le_of_ble_eq_true rfl), (Nat.le_of_ble_eq_true rfl)⟩ (fun _ _ hx => hx.elim) 21 rfl (fun v g5 h => ?_)
      obtain ⟨⟨r4, rfl, h⟩, rfl⟩ := h
      refine sx_if_eq C dX6_copiesOut_21 27 24 (by decide) rfl (fun c6 => ?_) (fun c6 => ?_)
      · replace h := h.1 c6
        exact sx_sub [0, 1, 2] rfl h
      · replace h := h.2 c6
        obtain ⟨y7, ey7⟩ : ∃ w : Int32, w = v1 + 1 := ⟨_, rfl⟩
        replace h := h y7 ey7
        refine sx_iinc C dX6_copiesOut_24 1 rfl y7 (by rw [ey7]; rfl) [(1, .int y7), (0, .ref (b + 0)), (2, .int v2)] (by decide) rfl 27 rfl ?_
        exact sx_sub [1, 0, 2] rfl h)
  replace h := h (by
    intro v1 v2 h
    obtain ⟨y8, ey8⟩ : ∃ w : Int32, w = v2 + 1 := ⟨_, rfl⟩
    replace h := h y8 ey8
    refine sx_iinc C dX6_copiesOut_27 2 rfl y8 (by rw [ey8]; rfl) [(2, .int y8), (0, .ref (b + 0)), (1, .int v1)] (by decide) rfl 30 rfl ?_
    refine sx_goto C dX6_copiesOut_30 4 (by decide) ?_
    exact sx_sub [1, 2, 0] rfl h)
  refine sx_sub (lv' := [(0, .ref (b + 0))]) [0] rfl ?_
  refine sx_iconst C dX6_copiesOut_0 0 (by decide) 1 rfl ?_
  refine sx_istore_n C dX6_copiesOut_1 1 rfl [(1, .int 0), (0, .ref (b + 0))] (by decide) rfl 2 rfl ?_
  refine sx_iconst C dX6_copiesOut_2 0 (by decide) 3 rfl ?_
  refine sx_istore_n C dX6_copiesOut_3 2 rfl [(2, .int 0), (1, .int 0), (0, .ref (b + 0))] (by decide) rfl 4 rfl ?_
  exact sx_sub [2, 1, 0] rfl h
set_option maxRecDepth 100000 in
set_option maxHeartbeats 4000000 in
theorem c_X6_lend {l : Launch} {D : va_G} {G : sx_G} {b : Nat} (hf : l.stackTraces = false) {f : sx_F} {x1 : Int32} {x2 : Int32} {Q : Int32 → sx_F → Prop} {X : String → sx_F → Prop}  (h : P_X6_lend f x1 x2 Q X) : sx_Met l D G b 129 lyX yX6_lend cX6_lend 4 (some .int) 7 111 3 18 [.ref (b + 0), .int x1, .int x2] f (sx_qi Q) (X) := by
  refine sx_enter (own := RX6) hf rfl rfl (Nat.le_of_ble_eq_true rfl) ?_
  intro p e s m args below meth c C hr ht
  have hB : ∀ k, k < 129 → sx_A b 129 s.heap.size (b + k) := fun k h => sx_A.in h
  unfold P_X6_lend at h
  refine sx_sub (lv' := [(0, .ref (b + 0)), (1, .int x1), (2, .int x2)]) [0, 1, 2] rfl ?_
  refine sx_iload_n C dX6_lend_0 1 1 rfl rfl 1 rfl ?_
  refine sx_aload_n C dX6_lend_1 0 0 rfl rfl 2 rfl ?_
  refine sx_geti C (T := TX6) (C0 := RX6) (N := 7) (j := 5) dX6_lend_2 fl_X6_105 inw_X6 rfl (by decide) rfl (by decide) lyX_0 rfl 5 rfl ?_
  refine sx_callS C ht hB (st := []) dX6_lend_5 (c_X6_needIndex hf h) mi_X6_needIndex lk_X6_89 mt_X6_needIndex rfl rfl ⟨⟨(Nat.le_of_ble_eq_true rfl), (Nat.le_of_ble_eq_true rfl)⟩, (Nat.le_of_ble_eq_true rfl), (Nat.le_of_ble_eq_true rfl)⟩ (Nat.le_of_ble_eq_true rfl) ⟨(Nat.le_of_ble_eq_true rfl), (Nat.le_of_ble_eq_true rfl)⟩ (fun E u hx => by obtain ⟨h1, rfl⟩ := hx; exact h1) 8 rfl (fun v g1 h => ?_)
  obtain ⟨⟨rfl, h⟩, rfl⟩ := h
  refine sx_iload_n C dX6_lend_8 2 2 rfl rfl 9 rfl ?_
  refine sx_bipush C dX6_lend_9 6 (by decide) 11 rfl ?_
  refine sx_callS C ht hB (st := []) dX6_lend_11 (c_X6_needIndex hf h) mi_X6_needIndex lk_X6_89 mt_X6_needIndex rfl rfl ⟨⟨(Nat.le_of_ble_eq_true rfl), (Nat.le_of_ble_eq_true rfl)⟩, (Nat.le_of_ble_eq_true rfl), (Nat.le_of_ble_eq_true rfl)⟩ (Nat.le_of_ble_eq_true rfl) ⟨(Nat.le_of_ble_eq_true rfl), (Nat.le_of_ble_eq_true rfl)⟩ (fun E u hx => by obtain ⟨h1, rfl⟩ := hx; exact h1) 14 rfl (fun v g2 h => ?_)
  obtain ⟨⟨rfl, h⟩, rfl⟩ := h
  refine sx_aload_n C dX6_lend_14 0 0 rfl rfl 15 rfl ?_
  refine sx_getq C (T := TX6) (C0 := RX6) (N := 7) (j := 3) dX6_lend_15 fl_X6_36 inw_X6 rfl (by decide) rfl (by decide) lyX_0 rfl 18 rfl ?_
  refine sx_iload_n C dX6_lend_18 1 1 rfl rfl 19 rfl ?_
  have hn4 := h.1
  refine sx_aaldn C dX6_lend_19 (66 + 2 * x1.toNatClampNeg) (by decide) lyX_65 rfl rfl hn4 rfl 20 rfl (fun w3 ew3 => ?_)
  replace h := h.2 w3 ew3
  have hiw3 := isX1_of hn4 ew3
  refine sx_astore_n C dX6_lend_20 3 rfl [(3, .ref (b + w3)), (0, .ref (b + 0)), (1, .int x1), (2, .int x2)] (by decide) rfl 21 rfl ?_
  refine sx_aload_n C dX6_lend_21 3 0 rfl rfl 22 rfl ?_
  refine sx_callV C ht hB (st := []) dX6_lend_22 (c_X1_isOut hf hiw3 h) mi_X1_isOut lk_X6_113 mn_X1_isOut ms_X1_isOut (isX1_lt hiw3) (isX1_ly hiw3) rfl rfl rfl rfl ⟨⟨(Nat.le_of_ble_eq_true rfl), (Nat.le_of_ble_eq_true rfl)⟩, (Nat.le_of_ble_eq_true rfl), (Nat.le_of_ble_eq_true rfl)⟩ (Nat.le_of_ble_eq_true rfl) ⟨(Nat.le_of_ble_eq_true rfl), (Nat.le_of_ble_eq_true rfl)⟩ (fun _ _ hx => hx.elim) 25 rfl (fun v g6 h => ?_)
  obtain ⟨⟨r5, rfl, h⟩, rfl⟩ := h
  refine sx_if_eq C dX6_lend_25 38 28 (by decide) rfl (fun c7 => ?_) (fun c7 => ?_)
  · replace h := h.1 c7
    refine sx_aload_n C dX6_lend_38 0 1 rfl rfl 39 rfl ?_
    refine sx_iload_n C dX6_lend_39 2 3 rfl rfl 40 rfl ?_
    refine sx_aload_n C dX6_lend_40 3 0 rfl rfl 41 rfl ?_
    refine sx_getiN C (T := TX1) (C0 := RX1) (N := 4) (j := 1) dX6_lend_41 fln_X6_110 inw_X1 rfl (by decide) rfl (isX1_lt hiw3) (isX1_ly hiw3) rfl 44 rfl ?_
    refine sx_callV C ht hB (st := []) dX6_lend_44 (c_X6_deskHasPart hf h) mi_X6_deskHasPart lk_X6_119 mn_X6_deskHasPart ms_X6_deskHasPart (by decide) lyX_0 rfl rfl rfl rfl ⟨⟨(Nat.le_of_ble_eq_true rfl), (Nat.le_of_ble_eq_true rfl)⟩, (Nat.le_of_ble_eq_true rfl), (Nat.le_of_ble_eq_true rfl)⟩ (Nat.le_of_ble_eq_true rfl) ⟨(Nat.le_of_ble_eq_true rfl), (Nat.le_of_ble_eq_true rfl)⟩ (fun _ _ hx => hx.elim) 47 rfl (fun v g9 h => ?_)
    obtain ⟨⟨r8, rfl, h⟩, rfl⟩ := h
    refine sx_if_eq C dX6_lend_47 60 50 (by decide) rfl (fun c10 => ?_) (fun c10 => ?_)
    · replace h := h.1 c10
      refine sx_aload_n C dX6_lend_60 3 0 rfl rfl 61 rfl ?_
      refine sx_iload_n C dX6_lend_61 2 3 rfl rfl 62 rfl ?_
      refine sx_putiN C (T := TX1) (C0 := RX1) (N := 4) (j := 2) dX6_lend_62 fln_X6_125 inw_X1 rfl tyX1 tyX1_ok nmX1 (by decide) rfl rfl rfl hB (isX1_lt hiw3) (isX1_ly hiw3) rfl 65 rfl (fun g11 eg11 => ?_)
      replace h := h g11 eg11
      refine sx_aload_n C dX6_lend_65 3 0 rfl rfl 66 rfl ?_
      refine sx_callV C ht hB (st := []) dX6_lend_66 (c_X1_takeVersions hf hiw3 h) mi_X1_takeVersions lk_X6_128 mn_X1_takeVersions ms_X1_takeVersions (isX1_lt hiw3) (isX1_ly hiw3) rfl rfl rfl rfl ⟨⟨(Nat.le_of_ble_eq_true rfl), (Nat.le_of_ble_eq_true rfl)⟩, (Nat.le_of_ble_eq_true rfl), (Nat.le_of_ble_eq_true rfl)⟩ (Nat.le_of_ble_eq_true rfl) ⟨(Nat.le_of_ble_eq_true rfl), (Nat.le_of_ble_eq_true rfl)⟩ (fun _ _ hx => hx.elim) 69 rfl (fun v g12 h => ?_)
      obtain ⟨rfl, h⟩ := h
      refine sx_aload_n C dX6_lend_69 0 1 rfl rfl 70 rfl ?_
      refine sx_callV C ht hB (st := []) dX6_lend_70 (c_X6_copiesOut hf h) mi_X6_copiesOut lk_X6_131 mn_X6_copiesOut ms_X6_copiesOut (by decide) lyX_0 rfl rfl rfl rfl ⟨⟨(Nat.le_of_ble_eq_true rfl), (Nat.le_of_ble_eq_true rfl)⟩, (Nat.le_of_ble_eq_true rfl), (Nat.le_of_ble_eq_true rfl)⟩ (Nat.le_of_ble_eq_true rfl) ⟨(Nat.le_of_ble_eq_true rfl), (Nat.le_of_ble_eq_true rfl)⟩ (fun _ _ hx => hx.elim) 73 rfl (fun v g14 h => ?_)
      obtain ⟨⟨r13, rfl, h⟩, rfl⟩ := h
      exact sx_iret C dX6_lend_73 hr (Nat.le_of_ble_eq_true rfl) (Nat.le_of_ble_eq_true rfl) ⟨_, rfl, h⟩
    · replace h := h.2 c10
      exact sx_throw C ht dX6_lend_50 dX6_lend_53 dX6_lend_54 dX6_lend_56 dX6_lend_59 exf_IllegalStateException exk_X6_IllegalStateException exi_IllegalStateException (List.mem_of_getElem? (i := 7) rfl) exa_X6_IllegalStateException exg_X6_IllegalStateException ⟨(Nat.le_of_ble_eq_true rfl), (Nat.le_of_ble_eq_true rfl), (Nat.le_of_ble_eq_true rfl), (Nat.le_of_ble_eq_true rfl)⟩ (Nat.le_of_ble_eq_true rfl) (Nat.le_of_ble_eq_true rfl) h
  · replace h := h.2 c7
    exact sx_throw C ht dX6_lend_28 dX6_lend_31 dX6_lend_32 dX6_lend_34 dX6_lend_37 exf_IllegalStateException exk_X6_IllegalStateException exi_IllegalStateException (List.mem_of_getElem? (i := 6) rfl) exa_X6_IllegalStateException exg_X6_IllegalStateException ⟨(Nat.le_of_ble_eq_true rfl), (Nat.le_of_ble_eq_true rfl), (Nat.le_of_ble_eq_true rfl), (Nat.le_of_ble_eq_true rfl)⟩ (Nat.le_of_ble_eq_true rfl) (Nat.le_of_ble_eq_true rfl) h
set_option maxRecDepth 100000 in
set_option maxHeartbeats 4000000 in
theorem c_X6_needCopyOut {l : Launch} {D : va_G} {G : sx_G} {b : Nat} (hf : l.stackTraces = false) {f : sx_F} {x1 : Int32} {Q : Nat → Prop} {X : String → Prop}  (h : P_X6_needCopyOut f x1 Q X) : sx_Met l D G b 129 lyX yX6_needCopyOut cX6_needCopyOut 3 (some (.object "Stavehouse$Copy")) 7 111 2 12 [.ref (b + 0), .int x1] f (sx_pr b isX1 f Q) (sx_xp f X) := by
  refine sx_enter (own := RX6) hf rfl rfl (Nat.le_of_ble_eq_true rfl) ?_
  intro p e s m args below meth c C hr ht
  have hB : ∀ k, k < 129 → sx_A b 129 s.heap.size (b + k) := fun k h => sx_A.in h
  unfold P_X6_needCopyOut at h
  refine sx_sub (lv' := [(0, .ref (b + 0)), (1, .int x1)]) [0, 1] rfl ?_
  refine sx_iload_n C dX6_needCopyOut_0 1 1 rfl rfl 1 rfl ?_
  refine sx_aload_n C dX6_needCopyOut_1 0 0 rfl rfl 2 rfl ?_
  refine sx_geti C (T := TX6) (C0 := RX6) (N := 7) (j := 5) dX6_needCopyOut_2 fl_X6_105 inw_X6 rfl (by decide) rfl (by decide) lyX_0 rfl 5 rfl ?_
  refine sx_callS C ht hB (st := []) dX6_needCopyOut_5 (c_X6_needIndex hf h) mi_X6_needIndex lk_X6_89 mt_X6_needIndex rfl rfl ⟨⟨(Nat.le_of_ble_eq_true rfl), (Nat.le_of_ble_eq_true rfl)⟩, (Nat.le_of_ble_eq_true rfl), (Nat.le_of_ble_eq_true rfl)⟩ (Nat.le_of_ble_eq_true rfl) ⟨(Nat.le_of_ble_eq_true rfl), (Nat.le_of_ble_eq_true rfl)⟩ (fun _ _ hx => hx) 8 rfl (fun v g1 h => ?_)
  obtain ⟨⟨rfl, h⟩, rfl⟩ := h
  refine sx_aload_n C dX6_needCopyOut_8 0 0 rfl rfl 9 rfl ?_
  refine sx_getq C (T := TX6) (C0 := RX6) (N := 7) (j := 3) dX6_needCopyOut_9 fl_X6_36 inw_X6 rfl (by decide) rfl (by decide) lyX_0 rfl 12 rfl ?_
  refine sx_iload_n C dX6_needCopyOut_12 1 1 rfl rfl 13 rfl ?_
  have hn3 := h.1
  refine sx_aaldn C dX6_needCopyOut_13 (66 + 2 * x1.toNatClampNeg) (by decide) lyX_65 rfl rfl hn3 rfl 14 rfl (fun w2 ew2 => ?_)
  replace h := h.2 w2 ew2
  have hiw2 := isX1_of hn3 ew2
  refine sx_astore_n C dX6_needCopyOut_14 2 rfl [(2, .ref (b + w2)), (0, .ref (b + 0)), (1, .int x1)] (by decide) rfl 15 rfl ?_
  refine sx_aload_n C dX6_needCopyOut_15 2 0 rfl rfl 16 rfl ?_
  refine sx_callV C ht hB (st := []) dX6_needCopyOut_16 (c_X1_isOut hf hiw2 h) mi_X1_isOut lk_X6_113 mn_X1_isOut ms_X1_isOut (isX1_lt hiw2) (isX1_ly hiw2) rfl rfl rfl rfl ⟨⟨(Nat.le_of_ble_eq_true rfl), (Nat.le_of_ble_eq_true rfl)⟩, (Nat.le_of_ble_eq_true rfl), (Nat.le_of_ble_eq_true rfl)⟩ (Nat.le_of_ble_eq_true rfl) ⟨(Nat.le_of_ble_eq_true rfl), (Nat.le_of_ble_eq_true rfl)⟩ (fun _ _ hx => hx.elim) 19 rfl (fun v g5 h => ?_)
  obtain ⟨⟨r4, rfl, h⟩, rfl⟩ := h
  refine sx_if_ne C dX6_needCopyOut_19 32 22 (by decide) rfl (fun c6 => ?_) (fun c6 => ?_)
  · replace h := h.2 c6
    refine sx_aload_n C dX6_needCopyOut_32 2 0 rfl rfl 33 rfl ?_
    exact sx_aret C dX6_needCopyOut_33 hr (Nat.le_of_ble_eq_true rfl) (Nat.le_of_ble_eq_true rfl) ⟨⟨_, rfl, hiw2, h⟩, rfl⟩
  · replace h := h.1 c6
    exact sx_throw C ht dX6_needCopyOut_22 dX6_needCopyOut_25 dX6_needCopyOut_26 dX6_needCopyOut_28 dX6_needCopyOut_31 exf_IllegalStateException exk_X6_IllegalStateException exi_IllegalStateException (List.mem_of_getElem? (i := 8) rfl) exa_X6_IllegalStateException exg_X6_IllegalStateException ⟨(Nat.le_of_ble_eq_true rfl), (Nat.le_of_ble_eq_true rfl), (Nat.le_of_ble_eq_true rfl), (Nat.le_of_ble_eq_true rfl)⟩ (Nat.le_of_ble_eq_true rfl) (Nat.le_of_ble_eq_true rfl) ⟨h, rfl⟩
set_option maxRecDepth 100000 in
set_option maxHeartbeats 4000000 in
theorem c_X6_giveBack {l : Launch} {D : va_G} {G : sx_G} {b : Nat} (hf : l.stackTraces = false) {f : sx_F} {x1 : Int32} {Q : Int32 → sx_F → Prop} {X : String → sx_F → Prop}  (h : P_X6_giveBack f x1 Q X) : sx_Met l D G b 129 lyX yX6_giveBack cX6_giveBack 4 (some .int) 8 133 2 12 [.ref (b + 0), .int x1] f (sx_qi Q) (X) := by
  refine sx_enter (own := RX6) hf rfl rfl (Nat.le_of_ble_eq_true rfl) ?_
  intro p e s m args below meth c C hr ht
  have hB : ∀ k, k < 129 → sx_A b 129 s.heap.size (b + k) := fun k h => sx_A.in h
  unfold P_X6_giveBack at h
  refine sx_sub (lv' := [(0, .ref (b + 0)), (1, .int x1)]) [0, 1] rfl ?_
  refine sx_aload_n C dX6_giveBack_0 0 0 rfl rfl 1 rfl ?_
  refine sx_iload_n C dX6_giveBack_1 1 1 rfl rfl 2 rfl ?_
  refine sx_callV C ht hB (st := []) dX6_giveBack_2 (c_X6_needCopyOut hf h) mi_X6_needCopyOut lk_X6_135 mn_X6_needCopyOut ms_X6_needCopyOut (by decide) lyX_0 rfl rfl rfl rfl ⟨⟨(Nat.le_of_ble_eq_true rfl), (Nat.le_of_ble_eq_true rfl)⟩, (Nat.le_of_ble_eq_true rfl), (Nat.le_of_ble_eq_true rfl)⟩ (Nat.le_of_ble_eq_true rfl) ⟨(Nat.le_of_ble_eq_true rfl), (Nat.le_of_ble_eq_true rfl)⟩ (fun E u hx => by obtain ⟨h1, rfl⟩ := hx; exact h1) 5 rfl (fun v g2 h => ?_)
  obtain ⟨⟨r1, rfl, hir1, h⟩, rfl⟩ := h
  refine sx_astore_n C dX6_giveBack_5 2 rfl [(2, .ref (b + r1)), (0, .ref (b + 0)), (1, .int x1)] (by decide) rfl 6 rfl ?_
  refine sx_aload_n C dX6_giveBack_6 2 0 rfl rfl 7 rfl ?_
  refine sx_callV C ht hB (st := []) dX6_giveBack_7 (c_X1_countDebts hf hir1 h) mi_X1_countDebts lk_X6_139 mn_X1_countDebts ms_X1_countDebts (isX1_lt hir1) (isX1_ly hir1) rfl rfl rfl rfl ⟨⟨(Nat.le_of_ble_eq_true rfl), (Nat.le_of_ble_eq_true rfl)⟩, (Nat.le_of_ble_eq_true rfl), (Nat.le_of_ble_eq_true rfl)⟩ (Nat.le_of_ble_eq_true rfl) ⟨(Nat.le_of_ble_eq_true rfl), (Nat.le_of_ble_eq_true rfl)⟩ (fun _ _ hx => hx.elim) 10 rfl (fun v g4 h => ?_)
  obtain ⟨⟨r3, rfl, h⟩, rfl⟩ := h
  refine sx_istore_n C dX6_giveBack_10 3 rfl [(3, .int r3), (2, .ref (b + r1)), (0, .ref (b + 0)), (1, .int x1)] (by decide) rfl 11 rfl ?_
  refine sx_aload_n C dX6_giveBack_11 2 1 rfl rfl 12 rfl ?_
  refine sx_iconst C dX6_giveBack_12 (-1) (by decide) 13 rfl ?_
  refine sx_putiN C (T := TX1) (C0 := RX1) (N := 4) (j := 2) dX6_giveBack_13 fln_X6_125 inw_X1 rfl tyX1 tyX1_ok nmX1 (by decide) rfl rfl rfl hB (isX1_lt hir1) (isX1_ly hir1) rfl 16 rfl (fun g5 eg5 => ?_)
  replace h := h g5 eg5
  refine sx_iload_n C dX6_giveBack_16 3 0 rfl rfl 17 rfl ?_
  exact sx_iret C dX6_giveBack_17 hr (Nat.le_of_ble_eq_true rfl) (Nat.le_of_ble_eq_true rfl) ⟨_, rfl, h⟩
set_option maxRecDepth 100000 in
set_option maxHeartbeats 4000000 in
theorem c_X6_paste {l : Launch} {D : va_G} {G : sx_G} {b : Nat} (hf : l.stackTraces = false) {f : sx_F} {x1 : Int32} {Q : Int32 → sx_F → Prop} {X : String → sx_F → Prop}  (h : P_X6_paste f x1 Q X) : sx_Met l D G b 129 lyX yX6_paste cX6_paste 4 (some .int) 8 133 2 12 [.ref (b + 0), .int x1] f (sx_qi Q) (X) := by
  refine sx_enter (own := RX6) hf rfl rfl (Nat.le_of_ble_eq_true rfl) ?_
  intro p e s m args below meth c C hr ht
  have hB : ∀ k, k < 129 → sx_A b 129 s.heap.size (b + k) := fun k h => sx_A.in h
  unfold P_X6_paste at h
  refine sx_sub (lv' := [(0, .ref (b + 0)), (1, .int x1)]) [0, 1] rfl ?_
  refine sx_aload_n C dX6_paste_0 0 0 rfl rfl 1 rfl ?_
  refine sx_iload_n C dX6_paste_1 1 1 rfl rfl 2 rfl ?_
  refine sx_callV C ht hB (st := []) dX6_paste_2 (c_X6_needCopyOut hf h) mi_X6_needCopyOut lk_X6_135 mn_X6_needCopyOut ms_X6_needCopyOut (by decide) lyX_0 rfl rfl rfl rfl ⟨⟨(Nat.le_of_ble_eq_true rfl), (Nat.le_of_ble_eq_true rfl)⟩, (Nat.le_of_ble_eq_true rfl), (Nat.le_of_ble_eq_true rfl)⟩ (Nat.le_of_ble_eq_true rfl) ⟨(Nat.le_of_ble_eq_true rfl), (Nat.le_of_ble_eq_true rfl)⟩ (fun E u hx => by obtain ⟨h1, rfl⟩ := hx; exact h1) 5 rfl (fun v g2 h => ?_)
  obtain ⟨⟨r1, rfl, hir1, h⟩, rfl⟩ := h
  refine sx_astore_n C dX6_paste_5 2 rfl [(2, .ref (b + r1)), (0, .ref (b + 0)), (1, .int x1)] (by decide) rfl 6 rfl ?_
  refine sx_aload_n C dX6_paste_6 2 0 rfl rfl 7 rfl ?_
  refine sx_callV C ht hB (st := []) dX6_paste_7 (c_X1_countDebts hf hir1 h) mi_X1_countDebts lk_X6_139 mn_X1_countDebts ms_X1_countDebts (isX1_lt hir1) (isX1_ly hir1) rfl rfl rfl rfl ⟨⟨(Nat.le_of_ble_eq_true rfl), (Nat.le_of_ble_eq_true rfl)⟩, (Nat.le_of_ble_eq_true rfl), (Nat.le_of_ble_eq_true rfl)⟩ (Nat.le_of_ble_eq_true rfl) ⟨(Nat.le_of_ble_eq_true rfl), (Nat.le_of_ble_eq_true rfl)⟩ (fun _ _ hx => hx.elim) 10 rfl (fun v g4 h => ?_)
  obtain ⟨⟨r3, rfl, h⟩, rfl⟩ := h
  refine sx_istore_n C dX6_paste_10 3 rfl [(3, .int r3), (2, .ref (b + r1)), (0, .ref (b + 0)), (1, .int x1)] (by decide) rfl 11 rfl ?_
  refine sx_aload_n C dX6_paste_11 2 1 rfl rfl 12 rfl ?_
  refine sx_callV C ht hB (st := []) dX6_paste_12 (c_X1_takeVersions hf hir1 h) mi_X1_takeVersions lk_X6_128 mn_X1_takeVersions ms_X1_takeVersions (isX1_lt hir1) (isX1_ly hir1) rfl rfl rfl rfl ⟨⟨(Nat.le_of_ble_eq_true rfl), (Nat.le_of_ble_eq_true rfl)⟩, (Nat.le_of_ble_eq_true rfl), (Nat.le_of_ble_eq_true rfl)⟩ (Nat.le_of_ble_eq_true rfl) ⟨(Nat.le_of_ble_eq_true rfl), (Nat.le_of_ble_eq_true rfl)⟩ (fun _ _ hx => hx.elim) 15 rfl (fun v g5 h => ?_)
  obtain ⟨rfl, h⟩ := h
  refine sx_iload_n C dX6_paste_15 3 0 rfl rfl 16 rfl ?_
  exact sx_iret C dX6_paste_16 hr (Nat.le_of_ble_eq_true rfl) (Nat.le_of_ble_eq_true rfl) ⟨_, rfl, h⟩
set_option maxRecDepth 100000 in
set_option maxHeartbeats 4000000 in
theorem c_X6_mark {l : Launch} {D : va_G} {G : sx_G} {b : Nat} (hf : l.stackTraces = false) {f : sx_F} {x1 : Int32} {x2 : Int32} {x3 : Int32} {Q : Int32 → sx_F → Prop} {X : String → sx_F → Prop}  (h : P_X6_mark f x1 x2 x3 Q X) : sx_Met l D G b 129 lyX yX6_mark cX6_mark 6 (some .int) 8 133 6 36 [.ref (b + 0), .int x1, .int x2, .int x3] f (sx_qi Q) (X) := by
  refine sx_enter (own := RX6) hf rfl rfl (Nat.le_of_ble_eq_true rfl) ?_
  intro p e s m args below meth c C hr ht
  have hB : ∀ k, k < 129 → sx_A b 129 s.heap.size (b + k) := fun k h => sx_A.in h
  unfold P_X6_mark at h
  refine sx_sub (lv' := [(0, .ref (b + 0)), (1, .int x1), (2, .int x2), (3, .int x3)]) [0, 1, 2, 3] rfl ?_
  refine sx_iload_n C dX6_mark_0 1 1 rfl rfl 1 rfl ?_
  refine sx_aload_n C dX6_mark_1 0 0 rfl rfl 2 rfl ?_
  refine sx_geti C (T := TX6) (C0 := RX6) (N := 7) (j := 5) dX6_mark_2 fl_X6_105 inw_X6 rfl (by decide) rfl (by decide) lyX_0 rfl 5 rfl ?_
  refine sx_callS C ht hB (st := []) dX6_mark_5 (c_X6_needIndex hf h) mi_X6_needIndex lk_X6_89 mt_X6_needIndex rfl rfl ⟨⟨(Nat.le_of_ble_eq_true rfl), (Nat.le_of_ble_eq_true rfl)⟩, (Nat.le_of_ble_eq_true rfl), (Nat.le_of_ble_eq_true rfl)⟩ (Nat.le_of_ble_eq_true rfl) ⟨(Nat.le_of_ble_eq_true rfl), (Nat.le_of_ble_eq_true rfl)⟩ (fun E u hx => by obtain ⟨h1, rfl⟩ := hx; exact h1) 8 rfl (fun v g1 h => ?_)
  obtain ⟨⟨rfl, h⟩, rfl⟩ := h
  refine sx_iload_n C dX6_mark_8 2 2 rfl rfl 9 rfl ?_
  refine sx_aload_n C dX6_mark_9 0 0 rfl rfl 10 rfl ?_
  refine sx_getq C (T := TX6) (C0 := RX6) (N := 7) (j := 0) dX6_mark_10 fl_X6_12 inw_X6 rfl (by decide) rfl (by decide) lyX_0 rfl 13 rfl ?_
  refine sx_getiN C (T := TX4) (C0 := RX4) (N := 7) (j := 0) dX6_mark_13 fln_X6_52 inw_X4 rfl (by decide) rfl (by decide) lyX_1 rfl 16 rfl ?_
  refine sx_callS C ht hB (st := []) dX6_mark_16 (c_X6_needIndex hf h) mi_X6_needIndex lk_X6_89 mt_X6_needIndex rfl rfl ⟨⟨(Nat.le_of_ble_eq_true rfl), (Nat.le_of_ble_eq_true rfl)⟩, (Nat.le_of_ble_eq_true rfl), (Nat.le_of_ble_eq_true rfl)⟩ (Nat.le_of_ble_eq_true rfl) ⟨(Nat.le_of_ble_eq_true rfl), (Nat.le_of_ble_eq_true rfl)⟩ (fun E u hx => by obtain ⟨h1, rfl⟩ := hx; exact h1) 19 rfl (fun v g2 h => ?_)
  obtain ⟨⟨rfl, h⟩, rfl⟩ := h
  refine sx_iload_n C dX6_mark_19 3 3 rfl rfl 20 rfl ?_
  refine sx_iconst C dX6_mark_20 0 (by decide) 21 rfl ?_
  refine sx_bipush C dX6_mark_21 9 (by decide) 23 rfl ?_
  refine sx_callS C ht hB (st := []) dX6_mark_23 (c_X6_needValue hf h) mi_X6_needValue lk_X6_48 mt_X6_needValue rfl rfl ⟨⟨(Nat.le_of_ble_eq_true rfl), (Nat.le_of_ble_eq_true rfl)⟩, (Nat.le_of_ble_eq_true rfl), (Nat.le_of_ble_eq_true rfl)⟩ (Nat.le_of_ble_eq_true rfl) ⟨(Nat.le_of_ble_eq_true rfl), (Nat.le_of_ble_eq_true rfl)⟩ (fun E u hx => by obtain ⟨h1, rfl⟩ := hx; exact h1) 26 rfl (fun v g3 h => ?_)
  obtain ⟨⟨rfl, h⟩, rfl⟩ := h
  refine sx_aload_n C dX6_mark_26 0 0 rfl rfl 27 rfl ?_
  refine sx_iload_n C dX6_mark_27 1 1 rfl rfl 28 rfl ?_
  refine sx_callV C ht hB (st := []) dX6_mark_28 (c_X6_needCopyOut hf h) mi_X6_needCopyOut lk_X6_135 mn_X6_needCopyOut ms_X6_needCopyOut (by decide) lyX_0 rfl rfl rfl rfl ⟨⟨(Nat.le_of_ble_eq_true rfl), (Nat.le_of_ble_eq_true rfl)⟩, (Nat.le_of_ble_eq_true rfl), (Nat.le_of_ble_eq_true rfl)⟩ (Nat.le_of_ble_eq_true rfl) ⟨(Nat.le_of_ble_eq_true rfl), (Nat.le_of_ble_eq_true rfl)⟩ (fun E u hx => by obtain ⟨h1, rfl⟩ := hx; exact h1) 31 rfl (fun v g5 h => ?_)
  obtain ⟨⟨r4, rfl, hir4, h⟩, rfl⟩ := h
  refine sx_astore C dX6_mark_31 [(4, .ref (b + r4)), (0, .ref (b + 0)), (1, .int x1), (2, .int x2), (3, .int x3)] (by decide) rfl 33 rfl ?_
  refine sx_aload C dX6_mark_33 0 rfl 35 rfl ?_
  refine sx_iload_n C dX6_mark_35 2 3 rfl rfl 36 rfl ?_
  refine sx_callV C ht hB (st := []) dX6_mark_36 (c_X1_lacks hf hir4 h) mi_X1_lacks lk_X6_142 mn_X1_lacks ms_X1_lacks (isX1_lt hir4) (isX1_ly hir4) rfl rfl rfl rfl ⟨⟨(Nat.le_of_ble_eq_true rfl), (Nat.le_of_ble_eq_true rfl)⟩, (Nat.le_of_ble_eq_true rfl), (Nat.le_of_ble_eq_true rfl)⟩ (Nat.le_of_ble_eq_true rfl) ⟨(Nat.le_of_ble_eq_true rfl), (Nat.le_of_ble_eq_true rfl)⟩ (fun _ _ hx => hx.elim) 39 rfl (fun v g7 h => ?_)
  obtain ⟨⟨r6, rfl, h⟩, rfl⟩ := h
  refine sx_if_eq C dX6_mark_39 52 42 (by decide) rfl (fun c8 => ?_) (fun c8 => ?_)
  · replace h := h.1 c8
    refine sx_aload C dX6_mark_52 0 rfl 54 rfl ?_
    refine sx_getiN C (T := TX1) (C0 := RX1) (N := 4) (j := 1) dX6_mark_54 fln_X6_110 inw_X1 rfl (by decide) rfl (isX1_lt hir4) (isX1_ly hir4) rfl 57 rfl ?_
    refine sx_iload_n C dX6_mark_57 2 3 rfl rfl 58 rfl ?_
    refine sx_callS C ht hB (st := []) dX6_mark_58 (c_X6_slotOf hf h) mi_X6_slotOf lk_X6_148 mt_X6_slotOf rfl rfl ⟨⟨(Nat.le_of_ble_eq_true rfl), (Nat.le_of_ble_eq_true rfl)⟩, (Nat.le_of_ble_eq_true rfl), (Nat.le_of_ble_eq_true rfl)⟩ (Nat.le_of_ble_eq_true rfl) ⟨(Nat.le_of_ble_eq_true rfl), (Nat.le_of_ble_eq_true rfl)⟩ (fun _ _ hx => hx.elim) 61 rfl (fun v g10 h => ?_)
    obtain ⟨⟨r9, rfl, h⟩, rfl⟩ := h
    refine sx_istore C dX6_mark_61 [(5, .int r9), (4, .ref (b + r4)), (0, .ref (b + 0)), (1, .int x1), (2, .int x2), (3, .int x3)] (by decide) rfl 63 rfl ?_
    refine sx_aload_n C dX6_mark_63 0 2 rfl rfl 64 rfl ?_
    refine sx_getq C (T := TX6) (C0 := RX6) (N := 7) (j := 4) dX6_mark_64 fl_X6_43 inw_X6 rfl (by decide) rfl (by decide) lyX_0 rfl 67 rfl ?_
    refine sx_aload C dX6_mark_67 1 rfl 69 rfl ?_
    refine sx_getiN C (T := TX1) (C0 := RX1) (N := 4) (j := 2) dX6_mark_69 fln_X6_125 inw_X1 rfl (by decide) rfl (isX1_lt hir4) (isX1_ly hir4) rfl 72 rfl ?_
    have hn12 := h.1
    refine sx_aaldn C dX6_mark_72 (99 + 5 * (f r4 2).toNatClampNeg) (by decide) lyX_98 rfl rfl hn12 rfl 73 rfl (fun w11 ew11 => ?_)
    replace h := h.2 w11 ew11
    have hiw11 := isX2_of hn12 ew11
    refine sx_iload C dX6_mark_73 0 rfl 75 rfl ?_
    refine sx_iload_n C dX6_mark_75 3 5 rfl rfl 76 rfl ?_
    refine sx_aload C dX6_mark_76 1 rfl 78 rfl ?_
    refine sx_iload_n C dX6_mark_78 2 4 rfl rfl 79 rfl ?_
    refine sx_callV C ht hB (st := [.int x3, .int r9, .ref (b + w11)]) dX6_mark_79 (c_X1_versionOf hf hir4 h) mi_X1_versionOf lk_X6_151 mn_X1_versionOf ms_X1_versionOf (isX1_lt hir4) (isX1_ly hir4) rfl rfl rfl rfl ⟨⟨(Nat.le_of_ble_eq_true rfl), (Nat.le_of_ble_eq_true rfl)⟩, (Nat.le_of_ble_eq_true rfl), (Nat.le_of_ble_eq_true rfl)⟩ (Nat.le_of_ble_eq_true rfl) ⟨(Nat.le_of_ble_eq_true rfl), (Nat.le_of_ble_eq_true rfl)⟩ (fun _ _ hx => hx.elim) 82 rfl (fun v g14 h => ?_)
    obtain ⟨⟨r13, rfl, h⟩, rfl⟩ := h
    refine sx_callV C ht hB (st := []) dX6_mark_82 (c_X2_changeMark hf hiw11 h) mi_X2_changeMark lk_X6_154 mn_X2_changeMark ms_X2_changeMark (isX2_lt hiw11) (isX2_ly hiw11) rfl rfl rfl rfl ⟨⟨(Nat.le_of_ble_eq_true rfl), (Nat.le_of_ble_eq_true rfl)⟩, (Nat.le_of_ble_eq_true rfl), (Nat.le_of_ble_eq_true rfl)⟩ (Nat.le_of_ble_eq_true rfl) ⟨(Nat.le_of_ble_eq_true rfl), (Nat.le_of_ble_eq_true rfl)⟩ (fun _ _ hx => hx.elim) 85 rfl (fun v g15 h => ?_)
    obtain ⟨r16, rfl, h⟩ := h
    exact sx_iret C dX6_mark_85 hr (Nat.le_of_ble_eq_true rfl) (Nat.le_of_ble_eq_true rfl) ⟨_, rfl, h⟩
  · replace h := h.2 c8
    exact sx_throw C ht dX6_mark_42 dX6_mark_45 dX6_mark_46 dX6_mark_48 dX6_mark_51 exf_IllegalStateException exk_X6_IllegalStateException exi_IllegalStateException (List.mem_of_getElem? (i := 9) rfl) exa_X6_IllegalStateException exg_X6_IllegalStateException ⟨(Nat.le_of_ble_eq_true rfl), (Nat.le_of_ble_eq_true rfl), (Nat.le_of_ble_eq_true rfl), (Nat.le_of_ble_eq_true rfl)⟩ (Nat.le_of_ble_eq_true rfl) (Nat.le_of_ble_eq_true rfl) h
set_option maxRecDepth 100000 in
set_option maxHeartbeats 4000000 in
theorem c_X6_bow {l : Launch} {D : va_G} {G : sx_G} {b : Nat} (hf : l.stackTraces = false) {f : sx_F} {x1 : Int32} {x2 : Int32} {x3 : Int32} {x4 : Int32} {Q : Int32 → sx_F → Prop} {X : String → sx_F → Prop}  (h : P_X6_bow f x1 x2 x3 x4 Q X) : sx_Met l D G b 129 lyX yX6_bow cX6_bow 7 (some .int) 8 133 8 48 [.ref (b + 0), .int x1, .int x2, .int x3, .int x4] f (sx_qi Q) (X) := by
  refine sx_enter (own := RX6) hf rfl rfl (Nat.le_of_ble_eq_true rfl) ?_
  intro p e s m args below meth c C hr ht
  have hB : ∀ k, k < 129 → sx_A b 129 s.heap.size (b + k) := fun k h => sx_A.in h
  unfold P_X6_bow at h
  refine sx_sub (lv' := [(0, .ref (b + 0)), (1, .int x1), (2, .int x2), (3, .int x3), (4, .int x4)]) [0, 1, 2, 3, 4] rfl ?_
  refine sx_iload_n C dX6_bow_0 1 1 rfl rfl 1 rfl ?_
  refine sx_aload_n C dX6_bow_1 0 0 rfl rfl 2 rfl ?_
  refine sx_geti C (T := TX6) (C0 := RX6) (N := 7) (j := 5) dX6_bow_2 fl_X6_105 inw_X6 rfl (by decide) rfl (by decide) lyX_0 rfl 5 rfl ?_
  refine sx_callS C ht hB (st := []) dX6_bow_5 (c_X6_needIndex hf h) mi_X6_needIndex lk_X6_89 mt_X6_needIndex rfl rfl ⟨⟨(Nat.le_of_ble_eq_true rfl), (Nat.le_of_ble_eq_true rfl)⟩, (Nat.le_of_ble_eq_true rfl), (Nat.le_of_ble_eq_true rfl)⟩ (Nat.le_of_ble_eq_true rfl) ⟨(Nat.le_of_ble_eq_true rfl), (Nat.le_of_ble_eq_true rfl)⟩ (fun E u hx => by obtain ⟨h1, rfl⟩ := hx; exact h1) 8 rfl (fun v g1 h => ?_)
  obtain ⟨⟨rfl, h⟩, rfl⟩ := h
  refine sx_aload_n C dX6_bow_8 0 0 rfl rfl 9 rfl ?_
  refine sx_aload_n C dX6_bow_9 0 0 rfl rfl 10 rfl ?_
  refine sx_getq C (T := TX6) (C0 := RX6) (N := 7) (j := 3) dX6_bow_10 fl_X6_36 inw_X6 rfl (by decide) rfl (by decide) lyX_0 rfl 13 rfl ?_
  refine sx_iload_n C dX6_bow_13 1 1 rfl rfl 14 rfl ?_
  have hn3 := h.1
  refine sx_aaldn C dX6_bow_14 (66 + 2 * x1.toNatClampNeg) (by decide) lyX_65 rfl rfl hn3 rfl 15 rfl (fun w2 ew2 => ?_)
  replace h := h.2 w2 ew2
  have hiw2 := isX1_of hn3 ew2
  refine sx_getiN C (T := TX1) (C0 := RX1) (N := 4) (j := 1) dX6_bow_15 fln_X6_110 inw_X1 rfl (by decide) rfl (isX1_lt hiw2) (isX1_ly hiw2) rfl 18 rfl ?_
  refine sx_iload_n C dX6_bow_18 2 2 rfl rfl 19 rfl ?_
  refine sx_callV C ht hB (st := []) dX6_bow_19 (c_X6_needSlot hf h) mi_X6_needSlot lk_X6_67 mn_X6_needSlot ms_X6_needSlot (by decide) lyX_0 rfl rfl rfl rfl ⟨⟨(Nat.le_of_ble_eq_true rfl), (Nat.le_of_ble_eq_true rfl)⟩, (Nat.le_of_ble_eq_true rfl), (Nat.le_of_ble_eq_true rfl)⟩ (Nat.le_of_ble_eq_true rfl) ⟨(Nat.le_of_ble_eq_true rfl), (Nat.le_of_ble_eq_true rfl)⟩ (fun E u hx => by obtain ⟨h1, rfl⟩ := hx; exact h1) 22 rfl (fun v g5 h => ?_)
  obtain ⟨⟨r4, rfl, h⟩, rfl⟩ := h
  refine sx_istore C dX6_bow_22 [(5, .int r4), (0, .ref (b + 0)), (1, .int x1), (2, .int x2), (3, .int x3), (4, .int x4)] (by decide) rfl 24 rfl ?_
  refine sx_iload_n C dX6_bow_24 3 4 rfl rfl 25 rfl ?_
  refine sx_aload_n C dX6_bow_25 0 1 rfl rfl 26 rfl ?_
  refine sx_getq C (T := TX6) (C0 := RX6) (N := 7) (j := 0) dX6_bow_26 fl_X6_12 inw_X6 rfl (by decide) rfl (by decide) lyX_0 rfl 29 rfl ?_
  refine sx_getqN C (T := TX4) (C0 := RX4) (N := 7) (j := 4) dX6_bow_29 fln_X6_71 inw_X4 rfl (by decide) rfl (by decide) lyX_1 rfl 32 rfl ?_
  refine sx_iload C dX6_bow_32 0 rfl 34 rfl ?_
  refine sx_iald C dX6_bow_34 (by decide) lyX_5 h.1 35 rfl ?_
  replace h := h.2
  refine sx_callS C ht hB (st := []) dX6_bow_35 (c_X6_needIndex hf h) mi_X6_needIndex lk_X6_89 mt_X6_needIndex rfl rfl ⟨⟨(Nat.le_of_ble_eq_true rfl), (Nat.le_of_ble_eq_true rfl)⟩, (Nat.le_of_ble_eq_true rfl), (Nat.le_of_ble_eq_true rfl)⟩ (Nat.le_of_ble_eq_true rfl) ⟨(Nat.le_of_ble_eq_true rfl), (Nat.le_of_ble_eq_true rfl)⟩ (fun E u hx => by obtain ⟨h1, rfl⟩ := hx; exact h1) 38 rfl (fun v g6 h => ?_)
  obtain ⟨⟨rfl, h⟩, rfl⟩ := h
  refine sx_iload C dX6_bow_38 5 rfl 40 rfl ?_
  refine sx_iconst C dX6_bow_40 0 (by decide) 41 rfl ?_
  refine sx_iconst C dX6_bow_41 2 (by decide) 42 rfl ?_
  refine sx_callS C ht hB (st := []) dX6_bow_42 (c_X6_needValue hf h) mi_X6_needValue lk_X6_48 mt_X6_needValue rfl rfl ⟨⟨(Nat.le_of_ble_eq_true rfl), (Nat.le_of_ble_eq_true rfl)⟩, (Nat.le_of_ble_eq_true rfl), (Nat.le_of_ble_eq_true rfl)⟩ (Nat.le_of_ble_eq_true rfl) ⟨(Nat.le_of_ble_eq_true rfl), (Nat.le_of_ble_eq_true rfl)⟩ (fun E u hx => by obtain ⟨h1, rfl⟩ := hx; exact h1) 45 rfl (fun v g7 h => ?_)
  obtain ⟨⟨rfl, h⟩, rfl⟩ := h
  refine sx_aload_n C dX6_bow_45 0 1 rfl rfl 46 rfl ?_
  refine sx_iload_n C dX6_bow_46 1 2 rfl rfl 47 rfl ?_
  refine sx_callV C ht hB (st := []) dX6_bow_47 (c_X6_needCopyOut hf h) mi_X6_needCopyOut lk_X6_135 mn_X6_needCopyOut ms_X6_needCopyOut (by decide) lyX_0 rfl rfl rfl rfl ⟨⟨(Nat.le_of_ble_eq_true rfl), (Nat.le_of_ble_eq_true rfl)⟩, (Nat.le_of_ble_eq_true rfl), (Nat.le_of_ble_eq_true rfl)⟩ (Nat.le_of_ble_eq_true rfl) ⟨(Nat.le_of_ble_eq_true rfl), (Nat.le_of_ble_eq_true rfl)⟩ (fun E u hx => by obtain ⟨h1, rfl⟩ := hx; exact h1) 50 rfl (fun v g9 h => ?_)
  obtain ⟨⟨r8, rfl, hir8, h⟩, rfl⟩ := h
  refine sx_astore C dX6_bow_50 [(6, .ref (b + r8)), (5, .int r4), (0, .ref (b + 0)), (1, .int x1), (2, .int x2), (3, .int x3), (4, .int x4)] (by decide) rfl 52 rfl ?_
  refine sx_aload C dX6_bow_52 0 rfl 54 rfl ?_
  refine sx_iload_n C dX6_bow_54 2 4 rfl rfl 55 rfl ?_
  refine sx_callV C ht hB (st := []) dX6_bow_55 (c_X1_owes hf hir8 h) mi_X1_owes lk_X6_157 mn_X1_owes ms_X1_owes (isX1_lt hir8) (isX1_ly hir8) rfl rfl rfl rfl ⟨⟨(Nat.le_of_ble_eq_true rfl), (Nat.le_of_ble_eq_true rfl)⟩, (Nat.le_of_ble_eq_true rfl), (Nat.le_of_ble_eq_true rfl)⟩ (Nat.le_of_ble_eq_true rfl) ⟨(Nat.le_of_ble_eq_true rfl), (Nat.le_of_ble_eq_true rfl)⟩ (fun _ _ hx => hx.elim) 58 rfl (fun v g11 h => ?_)
  obtain ⟨⟨r10, rfl, h⟩, rfl⟩ := h
  refine sx_if_eq C dX6_bow_58 71 61 (by decide) rfl (fun c12 => ?_) (fun c12 => ?_)
  · replace h := h.1 c12
    refine sx_aload_n C dX6_bow_71 0 2 rfl rfl 72 rfl ?_
    refine sx_getq C (T := TX6) (C0 := RX6) (N := 7) (j := 4) dX6_bow_72 fl_X6_43 inw_X6 rfl (by decide) rfl (by decide) lyX_0 rfl 75 rfl ?_
    refine sx_aload C dX6_bow_75 0 rfl 77 rfl ?_
    refine sx_getiN C (T := TX1) (C0 := RX1) (N := 4) (j := 2) dX6_bow_77 fln_X6_125 inw_X1 rfl (by decide) rfl (isX1_lt hir8) (isX1_ly hir8) rfl 80 rfl ?_
    have hn14 := h.1
    refine sx_aaldn C dX6_bow_80 (99 + 5 * (f r8 2).toNatClampNeg) (by decide) lyX_98 rfl rfl hn14 rfl 81 rfl (fun w13 ew13 => ?_)
    replace h := h.2 w13 ew13
    have hiw13 := isX2_of hn14 ew13
    refine sx_iload C dX6_bow_81 1 rfl 83 rfl ?_
    refine sx_iload_n C dX6_bow_83 3 5 rfl rfl 84 rfl ?_
    refine sx_iload C dX6_bow_84 6 rfl 86 rfl ?_
    refine sx_aload_n C dX6_bow_86 0 2 rfl rfl 87 rfl ?_
    refine sx_getq C (T := TX6) (C0 := RX6) (N := 7) (j := 0) dX6_bow_87 fl_X6_12 inw_X6 rfl (by decide) rfl (by decide) lyX_0 rfl 90 rfl ?_
    refine sx_getqN C (T := TX4) (C0 := RX4) (N := 7) (j := 3) dX6_bow_90 fln_X6_162 inw_X4 rfl (by decide) rfl (by decide) lyX_1 rfl 93 rfl ?_
    refine sx_iload C dX6_bow_93 1 rfl 95 rfl ?_
    refine sx_iald C dX6_bow_95 (by decide) lyX_4 h.1 96 rfl ?_
    replace h := h.2
    refine sx_callV C ht hB (st := []) dX6_bow_96 (c_X2_changeBowing hf hiw13 h) mi_X2_changeBowing lk_X6_165 mn_X2_changeBowing ms_X2_changeBowing (isX2_lt hiw13) (isX2_ly hiw13) rfl rfl rfl rfl ⟨⟨(Nat.le_of_ble_eq_true rfl), (Nat.le_of_ble_eq_true rfl)⟩, (Nat.le_of_ble_eq_true rfl), (Nat.le_of_ble_eq_true rfl)⟩ (Nat.le_of_ble_eq_true rfl) ⟨(Nat.le_of_ble_eq_true rfl), (Nat.le_of_ble_eq_true rfl)⟩ (fun _ _ hx => hx.elim) 99 rfl (fun v g15 h => ?_)
    obtain ⟨r16, rfl, h⟩ := h
    exact sx_iret C dX6_bow_99 hr (Nat.le_of_ble_eq_true rfl) (Nat.le_of_ble_eq_true rfl) ⟨_, rfl, h⟩
  · replace h := h.2 c12
    exact sx_throw C ht dX6_bow_61 dX6_bow_64 dX6_bow_65 dX6_bow_67 dX6_bow_70 exf_IllegalStateException exk_X6_IllegalStateException exi_IllegalStateException (List.mem_of_getElem? (i := 10) rfl) exa_X6_IllegalStateException exg_X6_IllegalStateException ⟨(Nat.le_of_ble_eq_true rfl), (Nat.le_of_ble_eq_true rfl), (Nat.le_of_ble_eq_true rfl), (Nat.le_of_ble_eq_true rfl)⟩ (Nat.le_of_ble_eq_true rfl) (Nat.le_of_ble_eq_true rfl) h
set_option maxRecDepth 100000 in
set_option maxHeartbeats 4000000 in
theorem c_X6_anyCopyOwes {l : Launch} {D : va_G} {G : sx_G} {b : Nat} (hf : l.stackTraces = false) {f : sx_F}  {Q : Int32 → Prop}  (h : P_X6_anyCopyOwes f  Q) : sx_Met l D G b 129 lyX yX6_anyCopyOwes cX6_anyCopyOwes 2 (some .boolean) 6 119 0 0 [.ref (b + 0)] f (sx_pi f Q) (fun _ _ => False) := by
  refine sx_enter (own := RX6) hf rfl rfl (Nat.le_of_ble_eq_true rfl) ?_
  intro p e s m args below meth c C hr ht
  have hB : ∀ k, k < 129 → sx_A b 129 s.heap.size (b + k) := fun k h => sx_A.in h
  unfold P_X6_anyCopyOwes at h
  replace h := h (fun (v1 : Int32) => sx_J (sx_wp D G b lyX 129) p l e { frames := 6, cells := 0, slots := 0, locals := 119 } s m args below meth c (sx_A b 129 s.heap.size) 2 0 0 (sx_fin (sx_wp D G b lyX 129) (sx_A b 129 s.heap.size) below args s 0 0 (sx_pi f Q) (fun _ _ => False)) f 2 [(0, .ref (b + 0)), (1, .int v1)] [])
  replace h := h (by
    intro v1 h
    refine sx_iload_n C dX6_anyCopyOwes_2 1 1 rfl rfl 3 rfl ?_
    refine sx_aload_n C dX6_anyCopyOwes_3 0 0 rfl rfl 4 rfl ?_
    refine sx_geti C (T := TX6) (C0 := RX6) (N := 7) (j := 5) dX6_anyCopyOwes_4 fl_X6_105 inw_X6 rfl (by decide) rfl (by decide) lyX_0 rfl 7 rfl ?_
    refine sx_icmp_ge C dX6_anyCopyOwes_7 30 10 (by decide) rfl (fun c1 => ?_) (fun c1 => ?_)
    · replace h := h.1 c1
      refine sx_iconst C dX6_anyCopyOwes_30 0 (by decide) 31 rfl ?_
      exact sx_zret C dX6_anyCopyOwes_31 hr (Nat.le_of_ble_eq_true rfl) (Nat.le_of_ble_eq_true rfl) (Or.inl rfl) ⟨⟨_, rfl, h⟩, rfl⟩
    · replace h := h.2 c1
      refine sx_aload_n C dX6_anyCopyOwes_10 0 0 rfl rfl 11 rfl ?_
      refine sx_getq C (T := TX6) (C0 := RX6) (N := 7) (j := 3) dX6_anyCopyOwes_11 fl_X6_36 inw_X6 rfl (by decide) rfl (by decide) lyX_0 rfl 14 rfl ?_
      refine sx_iload_n C dX6_anyCopyOwes_14 1 1 rfl rfl 15 rfl ?_
      have hn3 := h.1
      refine sx_aaldn C dX6_anyCopyOwes_15 (66 + 2 * v1.toNatClampNeg) (by decide) lyX_65 rfl rfl hn3 rfl 16 rfl (fun w2 ew2 => ?_)
      replace h := h.2 w2 ew2
      have hiw2 := isX1_of hn3 ew2
      refine sx_callV C ht hB (st := []) dX6_anyCopyOwes_16 (c_X1_countDebts hf hiw2 h) mi_X1_countDebts lk_X6_139 mn_X1_countDebts ms_X1_countDebts (isX1_lt hiw2) (isX1_ly hiw2) rfl rfl rfl rfl ⟨⟨(Nat.le_of_ble_eq_true rfl), (Nat.le_of_ble_eq_true rfl)⟩, (Nat.le_of_ble_eq_true rfl), (Nat.le_of_ble_eq_true rfl)⟩ (Nat.le_of_ble_eq_true rfl) ⟨(Nat.le_of_ble_eq_true rfl), (Nat.le_of_ble_eq_true rfl)⟩ (fun _ _ hx => hx.elim) 19 rfl (fun v g5 h => ?_)
      obtain ⟨⟨r4, rfl, h⟩, rfl⟩ := h
      refine sx_if_le C dX6_anyCopyOwes_19 24 22 (by decide) rfl (fun c6 => ?_) (fun c6 => ?_)
      · replace h := h.1 c6
        obtain ⟨y7, ey7⟩ : ∃ w : Int32, w = v1 + 1 := ⟨_, rfl⟩
        replace h := h y7 ey7
        refine sx_iinc C dX6_anyCopyOwes_24 1 rfl y7 (by rw [ey7]; rfl) [(1, .int y7), (0, .ref (b + 0))] (by decide) rfl 27 rfl ?_
        refine sx_goto C dX6_anyCopyOwes_27 2 (by decide) ?_
        exact sx_sub [1, 0] rfl h
      · replace h := h.2 c6
        refine sx_iconst C dX6_anyCopyOwes_22 1 (by decide) 23 rfl ?_
        exact sx_zret C dX6_anyCopyOwes_23 hr (Nat.le_of_ble_eq_true rfl) (Nat.le_of_ble_eq_true rfl) (Or.inr rfl) ⟨⟨_, rfl, h⟩, rfl⟩)
  refine sx_sub (lv' := [(0, .ref (b + 0))]) [0] rfl ?_
  refine sx_iconst C dX6_anyCopyOwes_0 0 (by decide) 1 rfl ?_
  refine sx_istore_n C dX6_anyCopyOwes_1 1 rfl [(1, .int 0), (0, .ref (b + 0))] (by decide) rfl 2 rfl ?_
  exact sx_sub [1, 0] rfl h
set_option maxRecDepth 100000 in
set_option maxHeartbeats 4000000 in
theorem c_X6_play {l : Launch} {D : va_G} {G : sx_G} {b : Nat} (hf : l.stackTraces = false) {f : sx_F}  {Q : Int32 → sx_F → Prop} {X : String → sx_F → Prop}  (h : P_X6_play f  Q X) : sx_Met l D G b 129 lyX yX6_play cX6_play 2 (some .int) 7 140 1 6 [.ref (b + 0)] f (sx_qi Q) (X) := by
  refine sx_enter (own := RX6) hf rfl rfl (Nat.le_of_ble_eq_true rfl) ?_
  intro p e s m args below meth c C hr ht
  have hB : ∀ k, k < 129 → sx_A b 129 s.heap.size (b + k) := fun k h => sx_A.in h
  unfold P_X6_play at h
  refine sx_sub (lv' := [(0, .ref (b + 0))]) [0] rfl ?_
  refine sx_aload_n C dX6_play_0 0 0 rfl rfl 1 rfl ?_
  refine sx_callV C ht hB (st := []) dX6_play_1 (c_X6_copiesOut hf h) mi_X6_copiesOut lk_X6_131 mn_X6_copiesOut ms_X6_copiesOut (by decide) lyX_0 rfl rfl rfl rfl ⟨⟨(Nat.le_of_ble_eq_true rfl), (Nat.le_of_ble_eq_true rfl)⟩, (Nat.le_of_ble_eq_true rfl), (Nat.le_of_ble_eq_true rfl)⟩ (Nat.le_of_ble_eq_true rfl) ⟨(Nat.le_of_ble_eq_true rfl), (Nat.le_of_ble_eq_true rfl)⟩ (fun _ _ hx => hx.elim) 4 rfl (fun v g2 h => ?_)
  obtain ⟨⟨r1, rfl, h⟩, rfl⟩ := h
  refine sx_istore_n C dX6_play_4 1 rfl [(1, .int r1), (0, .ref (b + 0))] (by decide) rfl 5 rfl ?_
  refine sx_iload_n C dX6_play_5 1 0 rfl rfl 6 rfl ?_
  refine sx_if_ne C dX6_play_6 19 9 (by decide) rfl (fun c3 => ?_) (fun c3 => ?_)
  · replace h := h.2 c3
    refine sx_aload_n C dX6_play_19 0 1 rfl rfl 20 rfl ?_
    refine sx_callV C ht hB (st := []) dX6_play_20 (c_X6_anyCopyOwes hf h) mi_X6_anyCopyOwes lk_X6_171 mn_X6_anyCopyOwes ms_X6_anyCopyOwes (by decide) lyX_0 rfl rfl rfl rfl ⟨⟨(Nat.le_of_ble_eq_true rfl), (Nat.le_of_ble_eq_true rfl)⟩, (Nat.le_of_ble_eq_true rfl), (Nat.le_of_ble_eq_true rfl)⟩ (Nat.le_of_ble_eq_true rfl) ⟨(Nat.le_of_ble_eq_true rfl), (Nat.le_of_ble_eq_true rfl)⟩ (fun _ _ hx => hx.elim) 23 rfl (fun v g5 h => ?_)
    obtain ⟨⟨r4, rfl, h⟩, rfl⟩ := h
    refine sx_if_eq C dX6_play_23 36 26 (by decide) rfl (fun c6 => ?_) (fun c6 => ?_)
    · replace h := h.1 c6
      refine sx_aload_n C dX6_play_36 0 1 rfl rfl 37 rfl ?_
      refine sx_dup C dX6_play_37 rfl 38 rfl ?_
      refine sx_geti C (T := TX6) (C0 := RX6) (N := 7) (j := 6) dX6_play_38 fl_X6_176 inw_X6 rfl (by decide) rfl (by decide) lyX_0 rfl 41 rfl ?_
      refine sx_iconst C dX6_play_41 1 (by decide) 42 rfl ?_
      refine sx_iadd C dX6_play_42 43 rfl ?_
      refine sx_puti C (T := TX6) (C0 := RX6) (N := 7) (j := 6) dX6_play_43 fl_X6_176 inw_X6 rfl tyX6 tyX6_ok nmX6 (by decide) rfl rfl rfl hB (by decide) lyX_0 rfl 46 rfl (fun g7 eg7 => ?_)
      replace h := h g7 eg7
      refine sx_iload_n C dX6_play_46 1 0 rfl rfl 47 rfl ?_
      exact sx_iret C dX6_play_47 hr (Nat.le_of_ble_eq_true rfl) (Nat.le_of_ble_eq_true rfl) ⟨_, rfl, h⟩
    · replace h := h.2 c6
      exact sx_throw C ht dX6_play_26 dX6_play_29 dX6_play_30 dX6_play_32 dX6_play_35 exf_IllegalStateException exk_X6_IllegalStateException exi_IllegalStateException (List.mem_of_getElem? (i := 12) rfl) exa_X6_IllegalStateException exg_X6_IllegalStateException ⟨(Nat.le_of_ble_eq_true rfl), (Nat.le_of_ble_eq_true rfl), (Nat.le_of_ble_eq_true rfl), (Nat.le_of_ble_eq_true rfl)⟩ (Nat.le_of_ble_eq_true rfl) (Nat.le_of_ble_eq_true rfl) h
  · replace h := h.1 c3
    exact sx_throw C ht dX6_play_9 dX6_play_12 dX6_play_13 dX6_play_15 dX6_play_18 exf_IllegalStateException exk_X6_IllegalStateException exi_IllegalStateException (List.mem_of_getElem? (i := 11) rfl) exa_X6_IllegalStateException exg_X6_IllegalStateException ⟨(Nat.le_of_ble_eq_true rfl), (Nat.le_of_ble_eq_true rfl), (Nat.le_of_ble_eq_true rfl), (Nat.le_of_ble_eq_true rfl)⟩ (Nat.le_of_ble_eq_true rfl) (Nat.le_of_ble_eq_true rfl) h
set_option maxRecDepth 100000 in
set_option maxHeartbeats 4000000 in
theorem c_X6_bars {l : Launch} {D : va_G} {G : sx_G} {b : Nat} (hf : l.stackTraces = false) {f : sx_F}  {Q : Int32 → Prop}  (h : P_X6_bars f  Q) : sx_Met l D G b 129 lyX yX6_bars cX6_bars 1 (some .int) 1 13 0 0 [.ref (b + 0)] f (sx_pi f Q) (fun _ _ => False) := by
  refine sx_enter (own := RX6) hf rfl rfl (Nat.le_of_ble_eq_true rfl) ?_
  intro p e s m args below meth c C hr ht
  have hB : ∀ k, k < 129 → sx_A b 129 s.heap.size (b + k) := fun k h => sx_A.in h
  unfold P_X6_bars at h
  refine sx_sub (lv' := [(0, .ref (b + 0))]) [0] rfl ?_
  refine sx_aload_n C dX6_bars_0 0 0 rfl rfl 1 rfl ?_
  refine sx_getq C (T := TX6) (C0 := RX6) (N := 7) (j := 0) dX6_bars_1 fl_X6_12 inw_X6 rfl (by decide) rfl (by decide) lyX_0 rfl 4 rfl ?_
  refine sx_getiN C (T := TX4) (C0 := RX4) (N := 7) (j := 0) dX6_bars_4 fln_X6_52 inw_X4 rfl (by decide) rfl (by decide) lyX_1 rfl 7 rfl ?_
  exact sx_iret C dX6_bars_7 hr (Nat.le_of_ble_eq_true rfl) (Nat.le_of_ble_eq_true rfl) ⟨⟨_, rfl, h⟩, rfl⟩
set_option maxRecDepth 100000 in
set_option maxHeartbeats 4000000 in
theorem c_X6_breakBook {l : Launch} {D : va_G} {G : sx_G} {b : Nat} (hf : l.stackTraces = false) {f : sx_F} {x1 : Int32} {Q : sx_F → Prop} {X : String → sx_F → Prop}  (h : P_X6_breakBook f x1 Q X) : sx_Met l D G b 129 lyX yX6_breakBook cX6_breakBook 2 (none) 7 131 1 6 [.ref (b + 0), .int x1] f (sx_qv Q) (X) := by
  refine sx_enter (own := RX6) hf rfl rfl (Nat.le_of_ble_eq_true rfl) ?_
  intro p e s m args below meth c C hr ht
  have hB : ∀ k, k < 129 → sx_A b 129 s.heap.size (b + k) := fun k h => sx_A.in h
  unfold P_X6_breakBook at h
  refine sx_sub (lv' := [(0, .ref (b + 0)), (1, .int x1)]) [0, 1] rfl ?_
  refine sx_iload_n C dX6_breakBook_0 1 1 rfl rfl 1 rfl ?_
  refine sx_bipush C dX6_breakBook_1 6 (by decide) 3 rfl ?_
  refine sx_callS C ht hB (st := []) dX6_breakBook_3 (c_X6_needIndex hf h) mi_X6_needIndex lk_X6_89 mt_X6_needIndex rfl rfl ⟨⟨(Nat.le_of_ble_eq_true rfl), (Nat.le_of_ble_eq_true rfl)⟩, (Nat.le_of_ble_eq_true rfl), (Nat.le_of_ble_eq_true rfl)⟩ (Nat.le_of_ble_eq_true rfl) ⟨(Nat.le_of_ble_eq_true rfl), (Nat.le_of_ble_eq_true rfl)⟩ (fun E u hx => by obtain ⟨h1, rfl⟩ := hx; exact h1) 6 rfl (fun v g1 h => ?_)
  obtain ⟨⟨rfl, h⟩, rfl⟩ := h
  refine sx_aload_n C dX6_breakBook_6 0 0 rfl rfl 7 rfl ?_
  refine sx_getq C (T := TX6) (C0 := RX6) (N := 7) (j := 1) dX6_breakBook_7 fl_X6_21 inw_X6 rfl (by decide) rfl (by decide) lyX_0 rfl 10 rfl ?_
  refine sx_iload_n C dX6_breakBook_10 1 1 rfl rfl 11 rfl ?_
  refine sx_callV C ht hB (st := []) dX6_breakBook_11 (c_X0_gather hf h) mi_X0_gather lk_X6_259 mn_X0_gather ms_X0_gather (by decide) lyX_8 rfl rfl rfl rfl ⟨⟨(Nat.le_of_ble_eq_true rfl), (Nat.le_of_ble_eq_true rfl)⟩, (Nat.le_of_ble_eq_true rfl), (Nat.le_of_ble_eq_true rfl)⟩ (Nat.le_of_ble_eq_true rfl) ⟨(Nat.le_of_ble_eq_true rfl), (Nat.le_of_ble_eq_true rfl)⟩ (fun _ _ hx => hx.elim) 14 rfl (fun v g2 h => ?_)
  obtain ⟨rfl, h⟩ := h
  refine sx_aload_n C dX6_breakBook_14 0 0 rfl rfl 15 rfl ?_
  refine sx_getq C (T := TX6) (C0 := RX6) (N := 7) (j := 2) dX6_breakBook_15 fl_X6_30 inw_X6 rfl (by decide) rfl (by decide) lyX_0 rfl 18 rfl ?_
  refine sx_callV C ht hB (st := []) dX6_breakBook_18 (c_X3_breakLines hf h) mi_X3_breakLines lk_X6_262 mn_X3_breakLines ms_X3_breakLines (by decide) lyX_19 rfl rfl rfl rfl ⟨⟨(Nat.le_of_ble_eq_true rfl), (Nat.le_of_ble_eq_true rfl)⟩, (Nat.le_of_ble_eq_true rfl), (Nat.le_of_ble_eq_true rfl)⟩ (Nat.le_of_ble_eq_true rfl) ⟨(Nat.le_of_ble_eq_true rfl), (Nat.le_of_ble_eq_true rfl)⟩ (fun _ _ hx => hx.elim) 21 rfl (fun v g3 h => ?_)
  obtain ⟨rfl, h⟩ := h
  exact sx_vret C dX6_breakBook_21 hr (Nat.le_of_ble_eq_true rfl) (Nat.le_of_ble_eq_true rfl) ⟨rfl, h⟩
set_option maxRecDepth 100000 in
set_option maxHeartbeats 4000000 in
theorem c_X6_place {l : Launch} {D : va_G} {G : sx_G} {b : Nat} (hf : l.stackTraces = false) {f : sx_F} {x1 : Int32} {x2 : Int32} {x3 : Int32} {Q : Int32 → sx_F → Prop} {X : String → sx_F → Prop}  (h : P_X6_place f x1 x2 x3 Q X) : sx_Met l D G b 129 lyX yX6_place cX6_place 5 (some .int) 8 152 3 18 [.ref (b + 0), .int x1, .int x2, .int x3] f (sx_qi Q) (X) := by
  refine sx_enter (own := RX6) hf rfl rfl (Nat.le_of_ble_eq_true rfl) ?_
  intro p e s m args below meth c C hr ht
  have hB : ∀ k, k < 129 → sx_A b 129 s.heap.size (b + k) := fun k h => sx_A.in h
  unfold P_X6_place at h
  refine sx_sub (lv' := [(0, .ref (b + 0)), (1, .int x1), (2, .int x2), (3, .int x3)]) [0, 1, 2, 3] rfl ?_
  refine sx_aload_n C dX6_place_0 0 0 rfl rfl 1 rfl ?_
  refine sx_iload_n C dX6_place_1 1 1 rfl rfl 2 rfl ?_
  refine sx_callV C ht hB (st := []) dX6_place_2 (c_X6_breakBook hf h) mi_X6_breakBook lk_X6_207 mn_X6_breakBook ms_X6_breakBook (by decide) lyX_0 rfl rfl rfl rfl ⟨⟨(Nat.le_of_ble_eq_true rfl), (Nat.le_of_ble_eq_true rfl)⟩, (Nat.le_of_ble_eq_true rfl), (Nat.le_of_ble_eq_true rfl)⟩ (Nat.le_of_ble_eq_true rfl) ⟨(Nat.le_of_ble_eq_true rfl), (Nat.le_of_ble_eq_true rfl)⟩ (fun _ _ hx => hx) 5 rfl (fun v g1 h => ?_)
  obtain ⟨rfl, h⟩ := h
  refine sx_iload_n C dX6_place_5 2 2 rfl rfl 6 rfl ?_
  refine sx_aload_n C dX6_place_6 0 0 rfl rfl 7 rfl ?_
  refine sx_getq C (T := TX6) (C0 := RX6) (N := 7) (j := 0) dX6_place_7 fl_X6_12 inw_X6 rfl (by decide) rfl (by decide) lyX_0 rfl 10 rfl ?_
  refine sx_getiN C (T := TX4) (C0 := RX4) (N := 7) (j := 0) dX6_place_10 fln_X6_52 inw_X4 rfl (by decide) rfl (by decide) lyX_1 rfl 13 rfl ?_
  refine sx_callS C ht hB (st := []) dX6_place_13 (c_X6_needIndex hf h) mi_X6_needIndex lk_X6_89 mt_X6_needIndex rfl rfl ⟨⟨(Nat.le_of_ble_eq_true rfl), (Nat.le_of_ble_eq_true rfl)⟩, (Nat.le_of_ble_eq_true rfl), (Nat.le_of_ble_eq_true rfl)⟩ (Nat.le_of_ble_eq_true rfl) ⟨(Nat.le_of_ble_eq_true rfl), (Nat.le_of_ble_eq_true rfl)⟩ (fun E u hx => by obtain ⟨h1, rfl⟩ := hx; exact h1) 16 rfl (fun v g2 h => ?_)
  obtain ⟨⟨rfl, h⟩, rfl⟩ := h
  refine sx_aload_n C dX6_place_16 0 0 rfl rfl 17 rfl ?_
  refine sx_getq C (T := TX6) (C0 := RX6) (N := 7) (j := 1) dX6_place_17 fl_X6_21 inw_X6 rfl (by decide) rfl (by decide) lyX_0 rfl 20 rfl ?_
  refine sx_iload_n C dX6_place_20 2 2 rfl rfl 21 rfl ?_
  refine sx_iload_n C dX6_place_21 3 3 rfl rfl 22 rfl ?_
  refine sx_callV C ht hB (st := []) dX6_place_22 (c_X0_drawSpring hf h) mi_X0_drawSpring lk_X6_225 mn_X0_drawSpring ms_X0_drawSpring (by decide) lyX_8 rfl rfl rfl rfl ⟨⟨(Nat.le_of_ble_eq_true rfl), (Nat.le_of_ble_eq_true rfl)⟩, (Nat.le_of_ble_eq_true rfl), (Nat.le_of_ble_eq_true rfl)⟩ (Nat.le_of_ble_eq_true rfl) ⟨(Nat.le_of_ble_eq_true rfl), (Nat.le_of_ble_eq_true rfl)⟩ (fun _ _ hx => hx.elim) 25 rfl (fun v g3 h => ?_)
  obtain ⟨r4, rfl, h⟩ := h
  refine sx_istore C dX6_place_25 [(4, .int r4), (0, .ref (b + 0)), (1, .int x1), (2, .int x2), (3, .int x3)] (by decide) rfl 27 rfl ?_
  refine sx_iload C dX6_place_27 0 rfl 29 rfl ?_
  refine sx_iconst C dX6_place_29 (-1) (by decide) 30 rfl ?_
  refine sx_icmp_ne C dX6_place_30 43 33 (by decide) rfl (fun c5 => ?_) (fun c5 => ?_)
  · replace h := h.2 c5
    refine sx_aload_n C dX6_place_43 0 1 rfl rfl 44 rfl ?_
    refine sx_getq C (T := TX6) (C0 := RX6) (N := 7) (j := 2) dX6_place_44 fl_X6_30 inw_X6 rfl (by decide) rfl (by decide) lyX_0 rfl 47 rfl ?_
    refine sx_aload_n C dX6_place_47 0 1 rfl rfl 48 rfl ?_
    refine sx_getq C (T := TX6) (C0 := RX6) (N := 7) (j := 1) dX6_place_48 fl_X6_21 inw_X6 rfl (by decide) rfl (by decide) lyX_0 rfl 51 rfl ?_
    refine sx_getqN C (T := TX0) (C0 := RX0) (N := 9) (j := 5) dX6_place_51 fln_X6_198 inw_X0 rfl (by decide) rfl (by decide) lyX_8 rfl 54 rfl ?_
    refine sx_iload_n C dX6_place_54 2 3 rfl rfl 55 rfl ?_
    refine sx_iald C dX6_place_55 (by decide) lyX_15 h.1 56 rfl ?_
    replace h := h.2
    refine sx_iload C dX6_place_56 0 rfl 58 rfl ?_
    refine sx_callV C ht hB (st := []) dX6_place_58 (c_X3_springAt hf h) mi_X3_springAt lk_X6_233 mn_X3_springAt ms_X3_springAt (by decide) lyX_19 rfl rfl rfl rfl ⟨⟨(Nat.le_of_ble_eq_true rfl), (Nat.le_of_ble_eq_true rfl)⟩, (Nat.le_of_ble_eq_true rfl), (Nat.le_of_ble_eq_true rfl)⟩ (Nat.le_of_ble_eq_true rfl) ⟨(Nat.le_of_ble_eq_true rfl), (Nat.le_of_ble_eq_true rfl)⟩ (fun _ _ hx => hx.elim) 61 rfl (fun v g7 h => ?_)
    obtain ⟨⟨r6, rfl, h⟩, rfl⟩ := h
    exact sx_iret C dX6_place_61 hr (Nat.le_of_ble_eq_true rfl) (Nat.le_of_ble_eq_true rfl) ⟨_, rfl, h⟩
  · replace h := h.1 c5
    exact sx_throw C ht dX6_place_33 dX6_place_36 dX6_place_37 dX6_place_39 dX6_place_42 exf_IndexOutOfBoundsException exk_X6_IndexOutOfBoundsException exi_IndexOutOfBoundsException (List.mem_of_getElem? (i := 13) rfl) exa_X6_IndexOutOfBoundsException exg_X6_IndexOutOfBoundsException ⟨(Nat.le_of_ble_eq_true rfl), (Nat.le_of_ble_eq_true rfl), (Nat.le_of_ble_eq_true rfl), (Nat.le_of_ble_eq_true rfl)⟩ (Nat.le_of_ble_eq_true rfl) (Nat.le_of_ble_eq_true rfl) h
set_option maxRecDepth 100000 in
set_option maxHeartbeats 4000000 in
theorem c_X6_copies {l : Launch} {D : va_G} {G : sx_G} {b : Nat} (hf : l.stackTraces = false) {f : sx_F}  {Q : Int32 → Prop}  (h : P_X6_copies f  Q) : sx_Met l D G b 129 lyX yX6_copies cX6_copies 1 (some .int) 1 13 0 0 [.ref (b + 0)] f (sx_pi f Q) (fun _ _ => False) := by
  refine sx_enter (own := RX6) hf rfl rfl (Nat.le_of_ble_eq_true rfl) ?_
  intro p e s m args below meth c C hr ht
  have hB : ∀ k, k < 129 → sx_A b 129 s.heap.size (b + k) := fun k h => sx_A.in h
  unfold P_X6_copies at h
  refine sx_sub (lv' := [(0, .ref (b + 0))]) [0] rfl ?_
  refine sx_aload_n C dX6_copies_0 0 0 rfl rfl 1 rfl ?_
  refine sx_geti C (T := TX6) (C0 := RX6) (N := 7) (j := 5) dX6_copies_1 fl_X6_105 inw_X6 rfl (by decide) rfl (by decide) lyX_0 rfl 4 rfl ?_
  exact sx_iret C dX6_copies_4 hr (Nat.le_of_ble_eq_true rfl) (Nat.le_of_ble_eq_true rfl) ⟨⟨_, rfl, h⟩, rfl⟩
set_option maxRecDepth 100000 in
set_option maxHeartbeats 4000000 in
theorem c_X6_clashesAt {l : Launch} {D : va_G} {G : sx_G} {b : Nat} (hf : l.stackTraces = false) {f : sx_F} {o1 : Nat} {o2 : Nat} {x3 : Int32} {Q : Int32 → Prop} (ho1 : isX2 o1) (ho2 : isX2 o2) (h : P_X6_clashesAt f o1 o2 x3 Q) : sx_Met l D G b 129 lyX yX6_clashesAt cX6_clashesAt 11 (some .int) 2 36 0 0 [.ref (b + 0), .ref (b + o1), .ref (b + o2), .int x3] f (sx_pi f Q) (fun _ _ => False) := by
  refine sx_enter (own := RX6) hf rfl rfl (Nat.le_of_ble_eq_true rfl) ?_
  intro p e s m args below meth c C hr ht
  have hB : ∀ k, k < 129 → sx_A b 129 s.heap.size (b + k) := fun k h => sx_A.in h
  unfold P_X6_clashesAt at h
  replace h := h (fun (v4 : Int32) (v5 : Int32) => sx_J (sx_wp D G b lyX 129) p l e { frames := 2, cells := 0, slots := 0, locals := 36 } s m args below meth c (sx_A b 129 s.heap.size) 11 0 0 (sx_fin (sx_wp D G b lyX 129) (sx_A b 129 s.heap.size) below args s 0 0 (sx_pi f Q) (fun _ _ => False)) f 6 [(0, .ref (b + 0)), (1, .ref (b + o1)), (2, .ref (b + o2)), (3, .int x3), (4, .int v4), (5, .int v5)] [])
  replace h := h (fun (v4 : Int32) (v5 : Int32) (v6 : Int32) (v7 : Int32) (v8 : Int32) => sx_J (sx_wp D G b lyX 129) p l e { frames := 2, cells := 0, slots := 0, locals := 36 } s m args below meth c (sx_A b 129 s.heap.size) 11 0 0 (sx_fin (sx_wp D G b lyX 129) (sx_A b 129 s.heap.size) below args s 0 0 (sx_pi f Q) (fun _ _ => False)) f 41 [(0, .ref (b + 0)), (1, .ref (b + o1)), (2, .ref (b + o2)), (3, .int x3), (4, .int v4), (5, .int v5), (6, .int v6), (7, .int v7), (8, .int v8)] [])
  replace h := h (fun (v4 : Int32) (v5 : Int32) (v6 : Int32) (v7 : Int32) (v8 : Int32) => sx_J (sx_wp D G b lyX 129) p l e { frames := 2, cells := 0, slots := 0, locals := 36 } s m args below meth c (sx_A b 129 s.heap.size) 11 0 0 (sx_fin (sx_wp D G b lyX 129) (sx_A b 129 s.heap.size) below args s 0 0 (sx_pi f Q) (fun _ _ => False)) f 100 [(0, .ref (b + 0)), (1, .ref (b + o1)), (2, .ref (b + o2)), (3, .int x3), (4, .int v4), (5, .int v5), (6, .int v6), (7, .int v7), (8, .int v8)] [])
  replace h := h (by
    intro v4 v5 h
    refine sx_iload C dX6_clashesAt_6 5 rfl 8 rfl ?_
    refine sx_aload_n C dX6_clashesAt_8 0 0 rfl rfl 9 rfl ?_
    refine sx_getq C (T := TX6) (C0 := RX6) (N := 7) (j := 0) dX6_clashesAt_9 fl_X6_12 inw_X6 rfl (by decide) rfl (by decide) lyX_0 rfl 12 rfl ?_
    refine sx_getiN C (T := TX4) (C0 := RX4) (N := 7) (j := 0) dX6_clashesAt_12 fln_X6_52 inw_X4 rfl (by decide) rfl (by decide) lyX_1 rfl 15 rfl ?_
    refine sx_icmp_ge C dX6_clashesAt_15 112 18 (by decide) rfl (fun c1 => ?_) (fun c1 => ?_)
    · replace h := h.1 c1
      refine sx_iload C dX6_clashesAt_112 4 rfl 114 rfl ?_
      exact sx_iret C dX6_clashesAt_114 hr (Nat.le_of_ble_eq_true rfl) (Nat.le_of_ble_eq_true rfl) ⟨⟨_, rfl, h⟩, rfl⟩
    · replace h := h.2 c1
      refine sx_iload_n C dX6_clashesAt_18 3 3 rfl rfl 19 rfl ?_
      refine sx_iload C dX6_clashesAt_19 5 rfl 21 rfl ?_
      refine sx_callS C ht hB (st := []) dX6_clashesAt_21 (c_X6_slotOf hf h) mi_X6_slotOf lk_X6_148 mt_X6_slotOf rfl rfl ⟨⟨(Nat.le_of_ble_eq_true rfl), (Nat.le_of_ble_eq_true rfl)⟩, (Nat.le_of_ble_eq_true rfl), (Nat.le_of_ble_eq_true rfl)⟩ (Nat.le_of_ble_eq_true rfl) ⟨(Nat.le_of_ble_eq_true rfl), (Nat.le_of_ble_eq_true rfl)⟩ (fun _ _ hx => hx.elim) 24 rfl (fun v g3 h => ?_)
      obtain ⟨⟨r2, rfl, h⟩, rfl⟩ := h
      refine sx_istore C dX6_clashesAt_24 [(6, .int r2), (0, .ref (b + 0)), (1, .ref (b + o1)), (2, .ref (b + o2)), (3, .int x3), (4, .int v4), (5, .int v5)] (by decide) rfl 26 rfl ?_
      refine sx_aload_n C dX6_clashesAt_26 0 1 rfl rfl 27 rfl ?_
      refine sx_getq C (T := TX6) (C0 := RX6) (N := 7) (j := 0) dX6_clashesAt_27 fl_X6_12 inw_X6 rfl (by decide) rfl (by decide) lyX_0 rfl 30 rfl ?_
      refine sx_getqN C (T := TX4) (C0 := RX4) (N := 7) (j := 3) dX6_clashesAt_30 fln_X6_162 inw_X4 rfl (by decide) rfl (by decide) lyX_1 rfl 33 rfl ?_
      refine sx_iload C dX6_clashesAt_33 0 rfl 35 rfl ?_
      refine sx_iald C dX6_clashesAt_35 (by decide) lyX_4 h.1 36 rfl ?_
      replace h := h.2
      refine sx_topi (fun y4 ey4 => ?_)
      replace h := h y4 ey4
      refine sx_istore C dX6_clashesAt_36 [(7, .int y4), (6, .int r2), (0, .ref (b + 0)), (1, .ref (b + o1)), (2, .ref (b + o2)), (3, .int x3), (4, .int v4), (5, .int v5)] (by decide) rfl 38 rfl ?_
      refine sx_iconst C dX6_clashesAt_38 0 (by decide) 39 rfl ?_
      refine sx_istore C dX6_clashesAt_39 [(8, .int 0), (7, .int y4), (6, .int r2), (0, .ref (b + 0)), (1, .ref (b + o1)), (2, .ref (b + o2)), (3, .int x3), (4, .int v4), (5, .int v5)] (by decide) rfl 41 rfl ?_
      exact sx_sub [3, 4, 5, 6, 7, 8, 2, 1, 0] rfl h)
  replace h := h (by
    intro v4 v5 v6 v7 v8 h
    refine sx_iload C dX6_clashesAt_41 8 rfl 43 rfl ?_
    refine sx_aload_n C dX6_clashesAt_43 0 0 rfl rfl 44 rfl ?_
    refine sx_getq C (T := TX6) (C0 := RX6) (N := 7) (j := 0) dX6_clashesAt_44 fl_X6_12 inw_X6 rfl (by decide) rfl (by decide) lyX_0 rfl 47 rfl ?_
    refine sx_getqN C (T := TX4) (C0 := RX4) (N := 7) (j := 4) dX6_clashesAt_47 fln_X6_71 inw_X4 rfl (by decide) rfl (by decide) lyX_1 rfl 50 rfl ?_
    refine sx_iload C dX6_clashesAt_50 6 rfl 52 rfl ?_
    refine sx_iald C dX6_clashesAt_52 (by decide) lyX_5 h.1 53 rfl ?_
    replace h := h.2
    refine sx_icmp_ge C dX6_clashesAt_53 106 56 (by decide) rfl (fun c5 => ?_) (fun c5 => ?_)
    · replace h := h.1 c5
      obtain ⟨y6, ey6⟩ : ∃ w : Int32, w = v5 + 1 := ⟨_, rfl⟩
      replace h := h y6 ey6
      refine sx_iinc C dX6_clashesAt_106 5 rfl y6 (by rw [ey6]; rfl) [(5, .int y6), (0, .ref (b + 0)), (1, .ref (b + o1)), (2, .ref (b + o2)), (3, .int x3), (4, .int v4), (6, .int v6), (7, .int v7), (8, .int v8)] (by decide) rfl 109 rfl ?_
      refine sx_goto C dX6_clashesAt_109 6 (by decide) ?_
      exact sx_sub [1, 2, 3, 4, 5, 0] rfl h
    · replace h := h.2 c5
      refine sx_aload_n C dX6_clashesAt_56 1 1 rfl rfl 57 rfl ?_
      refine sx_iload C dX6_clashesAt_57 6 rfl 59 rfl ?_
      refine sx_iload C dX6_clashesAt_59 8 rfl 61 rfl ?_
      refine sx_iload C dX6_clashesAt_61 7 rfl 63 rfl ?_
      refine sx_callV C ht hB (st := []) dX6_clashesAt_63 (c_X2_bowingAt hf ho1 h) mi_X2_bowingAt lk_X6_256 mn_X2_bowingAt ms_X2_bowingAt (isX2_lt ho1) (isX2_ly ho1) rfl rfl rfl rfl ⟨⟨(Nat.le_of_ble_eq_true rfl), (Nat.le_of_ble_eq_true rfl)⟩, (Nat.le_of_ble_eq_true rfl), (Nat.le_of_ble_eq_true rfl)⟩ (Nat.le_of_ble_eq_true rfl) ⟨(Nat.le_of_ble_eq_true rfl), (Nat.le_of_ble_eq_true rfl)⟩ (fun _ _ hx => hx.elim) 66 rfl (fun v g8 h => ?_)
      obtain ⟨⟨r7, rfl, h⟩, rfl⟩ := h
      refine sx_istore C dX6_clashesAt_66 [(9, .int r7), (0, .ref (b + 0)), (1, .ref (b + o1)), (2, .ref (b + o2)), (3, .int x3), (4, .int v4), (5, .int v5), (6, .int v6), (7, .int v7), (8, .int v8)] (by decide) rfl 68 rfl ?_
      refine sx_aload_n C dX6_clashesAt_68 2 3 rfl rfl 69 rfl ?_
      refine sx_iload C dX6_clashesAt_69 7 rfl 71 rfl ?_
      refine sx_iload C dX6_clashesAt_71 9 rfl 73 rfl ?_
      refine sx_iload C dX6_clashesAt_73 8 rfl 75 rfl ?_
      refine sx_callV C ht hB (st := []) dX6_clashesAt_75 (c_X2_bowingAt hf ho2 h) mi_X2_bowingAt lk_X6_256 mn_X2_bowingAt ms_X2_bowingAt (isX2_lt ho2) (isX2_ly ho2) rfl rfl rfl rfl ⟨⟨(Nat.le_of_ble_eq_true rfl), (Nat.le_of_ble_eq_true rfl)⟩, (Nat.le_of_ble_eq_true rfl), (Nat.le_of_ble_eq_true rfl)⟩ (Nat.le_of_ble_eq_true rfl) ⟨(Nat.le_of_ble_eq_true rfl), (Nat.le_of_ble_eq_true rfl)⟩ (fun _ _ hx => hx.elim) 78 rfl (fun v g10 h => ?_)
      obtain ⟨⟨r9, rfl, h⟩, rfl⟩ := h
      refine sx_istore C dX6_clashesAt_78 [(10, .int r9), (9, .int r7), (0, .ref (b + 0)), (1, .ref (b + o1)), (2, .ref (b + o2)), (3, .int x3), (4, .int v4), (5, .int v5), (6, .int v6), (7, .int v7), (8, .int v8)] (by decide) rfl 80 rfl ?_
      refine sx_iload C dX6_clashesAt_80 1 rfl 82 rfl ?_
      refine sx_if_eq C dX6_clashesAt_82 100 85 (by decide) rfl (fun c11 => ?_) (fun c11 => ?_)
      · replace h := h.1 c11
        exact sx_sub [2, 3, 4, 5, 6, 7, 8, 9, 10] rfl h
      · replace h := h.2 c11
        refine sx_iload C dX6_clashesAt_85 0 rfl 87 rfl ?_
        refine sx_if_eq C dX6_clashesAt_87 100 90 (by decide) rfl (fun c12 => ?_) (fun c12 => ?_)
        · replace h := h.1 c12
          exact sx_sub [2, 3, 4, 5, 6, 7, 8, 9, 10] rfl h
        · replace h := h.2 c12
          refine sx_iload C dX6_clashesAt_90 1 rfl 92 rfl ?_
          refine sx_iload C dX6_clashesAt_92 0 rfl 94 rfl ?_
          refine sx_icmp_eq C dX6_clashesAt_94 100 97 (by decide) rfl (fun c13 => ?_) (fun c13 => ?_)
          · replace h := h.1 c13
            exact sx_sub [2, 3, 4, 5, 6, 7, 8, 9, 10] rfl h
          · replace h := h.2 c13
            obtain ⟨y14, ey14⟩ : ∃ w : Int32, w = v4 + 1 := ⟨_, rfl⟩
            replace h := h y14 ey14
            refine sx_iinc C dX6_clashesAt_97 6 rfl y14 (by rw [ey14]; rfl) [(4, .int y14), (10, .int r9), (9, .int r7), (0, .ref (b + 0)), (1, .ref (b + o1)), (2, .ref (b + o2)), (3, .int x3), (5, .int v5), (6, .int v6), (7, .int v7), (8, .int v8)] (by decide) rfl 100 rfl ?_
            exact sx_sub [3, 4, 5, 6, 0, 7, 8, 9, 10] rfl h)
  replace h := h (by
    intro v4 v5 v6 v7 v8 h
    obtain ⟨y15, ey15⟩ : ∃ w : Int32, w = v8 + 1 := ⟨_, rfl⟩
    replace h := h y15 ey15
    refine sx_iinc C dX6_clashesAt_100 8 rfl y15 (by rw [ey15]; rfl) [(8, .int y15), (0, .ref (b + 0)), (1, .ref (b + o1)), (2, .ref (b + o2)), (3, .int x3), (4, .int v4), (5, .int v5), (6, .int v6), (7, .int v7)] (by decide) rfl 103 rfl ?_
    refine sx_goto C dX6_clashesAt_103 41 (by decide) ?_
    exact sx_sub [1, 2, 3, 4, 5, 6, 7, 8, 0] rfl h)
  refine sx_sub (lv' := [(0, .ref (b + 0)), (1, .ref (b + o1)), (2, .ref (b + o2)), (3, .int x3)]) [0, 1, 2, 3] rfl ?_
  refine sx_iconst C dX6_clashesAt_0 0 (by decide) 1 rfl ?_
  refine sx_istore C dX6_clashesAt_1 [(4, .int 0), (0, .ref (b + 0)), (1, .ref (b + o1)), (2, .ref (b + o2)), (3, .int x3)] (by decide) rfl 3 rfl ?_
  refine sx_iconst C dX6_clashesAt_3 0 (by decide) 4 rfl ?_
  refine sx_istore C dX6_clashesAt_4 [(5, .int 0), (4, .int 0), (0, .ref (b + 0)), (1, .ref (b + o1)), (2, .ref (b + o2)), (3, .int x3)] (by decide) rfl 6 rfl ?_
  exact sx_sub [2, 3, 4, 5, 1, 0] rfl h
set_option maxRecDepth 100000 in
set_option maxHeartbeats 4000000 in
theorem c_X6_concerts {l : Launch} {D : va_G} {G : sx_G} {b : Nat} (hf : l.stackTraces = false) {f : sx_F}  {Q : Int32 → Prop}  (h : P_X6_concerts f  Q) : sx_Met l D G b 129 lyX yX6_concerts cX6_concerts 1 (some .int) 1 13 0 0 [.ref (b + 0)] f (sx_pi f Q) (fun _ _ => False) := by
  refine sx_enter (own := RX6) hf rfl rfl (Nat.le_of_ble_eq_true rfl) ?_
  intro p e s m args below meth c C hr ht
  have hB : ∀ k, k < 129 → sx_A b 129 s.heap.size (b + k) := fun k h => sx_A.in h
  unfold P_X6_concerts at h
  refine sx_sub (lv' := [(0, .ref (b + 0))]) [0] rfl ?_
  refine sx_aload_n C dX6_concerts_0 0 0 rfl rfl 1 rfl ?_
  refine sx_geti C (T := TX6) (C0 := RX6) (N := 7) (j := 6) dX6_concerts_1 fl_X6_176 inw_X6 rfl (by decide) rfl (by decide) lyX_0 rfl 4 rfl ?_
  exact sx_iret C dX6_concerts_4 hr (Nat.le_of_ble_eq_true rfl) (Nat.le_of_ble_eq_true rfl) ⟨⟨_, rfl, h⟩, rfl⟩
