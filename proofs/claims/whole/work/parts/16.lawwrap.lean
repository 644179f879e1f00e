set_option maxRecDepth 100000 in
set_option maxHeartbeats 4000000 in
theorem c_L_bar {l : Launch} {D : va_G} {G : sx_G} {b bo : Nat} (hf : l.stackTraces = false) (hbo : b + 129 ≤ bo) {f : sx_F} {o : Nat → Int64} {x1 : Int32} {QL : Int32 → sx_F → (Nat → Int64) → Prop} (h : P_L_bar f o x1 QL) : sx_MetW l D G b 129 lyX bo yL_bar cL_bar 4 [(0, 9, 12, 13), (0, 9, 15, 15)] 8 133 2 12 [.ref (b + 0), .int x1, .ref bo] (f, o) QL := by
  refine sx_enterW (own := RL) hf rfl rfl (Nat.le_of_ble_eq_true rfl) ?_
  intro p e s m args below meth c C hr htab hNC
  have hB : ∀ k, k < 129 → sx_AW b 129 bo s.heap.size (b + k) := fun k h => Or.inl ⟨by omega, by omega⟩
  have hA : sx_AW b 129 bo s.heap.size bo := Or.inr (Or.inl rfl)
  unfold P_L_bar at h
  refine sx_sub (lv' := [(0, .ref (b + 0)), (1, .int x1), (2, .ref bo)]) [0, 1, 2] rfl ?_
  refine sx_aload_n C dL_bar_0 2 2 rfl rfl 1 rfl ?_
  refine sx_iconst C dL_bar_1 0 (by decide) 2 rfl ?_
  refine sx_aload_n C dL_bar_2 0 0 rfl rfl 3 rfl ?_
  refine sx_iload_n C dL_bar_3 1 1 rfl rfl 4 rfl ?_
  refine sx_wcall C hB hbo (st := [.int 0, .ref bo]) dL_bar_4 (c_X6_bar hf h) mi_X6_bar lk_L_7 mn_X6_bar ms_X6_bar (by decide) lyX_0 rfl rfl rfl rfl ⟨⟨(Nat.le_of_ble_eq_true rfl), (Nat.le_of_ble_eq_true rfl)⟩, (Nat.le_of_ble_eq_true rfl), (Nat.le_of_ble_eq_true rfl)⟩ (Nat.le_of_ble_eq_true rfl) 7 rfl (fun v f1 h => ?_) (fun E ce q9 f1 H1 locs1 ls hx hw hS1 hls h1 h2 h3 => ?_)
  · obtain ⟨r, rfl, h⟩ := h
    refine sx_i2l C dL_bar_7 8 rfl ?_
    refine sx_last C hB hbo hA dL_bar_8 9 rfl (fun o1 eo => ?_)
    replace h := h o1 eo
    refine sx_goto C dL_bar_9 18 (by decide) ?_
    refine sx_iconst C dL_bar_18 0 (by decide) 19 rfl ?_
    exact sx_iret C dL_bar_19 hr (Nat.le_of_ble_eq_true rfl) (Nat.le_of_ble_eq_true rfl) ⟨_, rfl, h⟩
  · skip
    rcases hx with ⟨rfl, hx⟩ | ⟨rfl, hx⟩
    · refine sx_catch C htab [] (0, 9, 12, 13) [(0, 9, 15, 15)] rfl (fun z hz => absurd hz List.not_mem_nil) rfl (by decide) lkc_L_13 cst_IAE h1 h2 h3 hw hS1 hls ?_
      refine sx_astore_n C dL_bar_12 3 rfl [(3, .ref q9), (0, .ref (b + 0)), (1, .int x1), (2, .ref bo)] (by decide) rfl 13 rfl ?_
      refine sx_iconst C dL_bar_13 1 (by decide) 14 rfl ?_
      exact sx_iret C dL_bar_14 hr (Nat.le_of_ble_eq_true rfl) (Nat.le_of_ble_eq_true rfl) ⟨_, rfl, hx⟩
    · refine sx_catch C htab [(0, 9, 12, 13)] (0, 9, 15, 15) [] rfl (fun z hz => by
        simp only [List.mem_cons, List.not_mem_nil, or_false] at hz
        subst hz
        exact ⟨by decide, _, lkc_L_13, hNC ("java/lang/IllegalStateException", "java/lang/IllegalArgumentException") (by decide)⟩) rfl (by decide) lkc_L_15 cst_ISE h1 h2 h3 hw hS1 hls ?_
      refine sx_astore_n C dL_bar_15 3 rfl [(3, .ref q9), (0, .ref (b + 0)), (1, .int x1), (2, .ref bo)] (by decide) rfl 16 rfl ?_
      refine sx_iconst C dL_bar_16 2 (by decide) 17 rfl ?_
      exact sx_iret C dL_bar_17 hr (Nat.le_of_ble_eq_true rfl) (Nat.le_of_ble_eq_true rfl) ⟨_, rfl, hx⟩
set_option maxRecDepth 100000 in
set_option maxHeartbeats 4000000 in
theorem c_L_note {l : Launch} {D : va_G} {G : sx_G} {b bo : Nat} (hf : l.stackTraces = false) (hbo : b + 129 ≤ bo) {f : sx_F} {o : Nat → Int64} {x1 : Int32} {x2 : Int32} {x3 : Int32} {x4 : Int32} {QL : Int32 → sx_F → (Nat → Int64) → Prop} (h : P_L_note f o x1 x2 x3 x4 QL) : sx_MetW l D G b 129 lyX bo yL_note cL_note 7 [(0, 14, 17, 21), (0, 14, 21, 13), (0, 14, 25, 15)] 9 158 5 30 [.ref (b + 0), .int x1, .int x2, .int x3, .int x4, .ref bo] (f, o) QL := by
  refine sx_enterW (own := RL) hf rfl rfl (Nat.le_of_ble_eq_true rfl) ?_
  intro p e s m args below meth c C hr htab hNC
  have hB : ∀ k, k < 129 → sx_AW b 129 bo s.heap.size (b + k) := fun k h => Or.inl ⟨by omega, by omega⟩
  have hA : sx_AW b 129 bo s.heap.size bo := Or.inr (Or.inl rfl)
  unfold P_L_note at h
  refine sx_sub (lv' := [(0, .ref (b + 0)), (1, .int x1), (2, .int x2), (3, .int x3), (4, .int x4), (5, .ref bo)]) [0, 1, 2, 3, 4, 5] rfl ?_
  refine sx_aload C dL_note_0 5 rfl 2 rfl ?_
  refine sx_iconst C dL_note_2 0 (by decide) 3 rfl ?_
  refine sx_aload_n C dL_note_3 0 0 rfl rfl 4 rfl ?_
  refine sx_iload_n C dL_note_4 1 1 rfl rfl 5 rfl ?_
  refine sx_iload_n C dL_note_5 2 2 rfl rfl 6 rfl ?_
  refine sx_iload_n C dL_note_6 3 3 rfl rfl 7 rfl ?_
  refine sx_iload C dL_note_7 4 rfl 9 rfl ?_
  refine sx_wcall C hB hbo (st := [.int 0, .ref bo]) dL_note_9 (c_X6_note hf h) mi_X6_note lk_L_17 mn_X6_note ms_X6_note (by decide) lyX_0 rfl rfl rfl rfl ⟨⟨(Nat.le_of_ble_eq_true rfl), (Nat.le_of_ble_eq_true rfl)⟩, (Nat.le_of_ble_eq_true rfl), (Nat.le_of_ble_eq_true rfl)⟩ (Nat.le_of_ble_eq_true rfl) 12 rfl (fun v f1 h => ?_) (fun E ce q9 f1 H1 locs1 ls hx hw hS1 hls h1 h2 h3 => ?_)
  · obtain ⟨r, rfl, h⟩ := h
    refine sx_i2l C dL_note_12 13 rfl ?_
    refine sx_last C hB hbo hA dL_note_13 14 rfl (fun o1 eo => ?_)
    replace h := h o1 eo
    refine sx_goto C dL_note_14 29 (by decide) ?_
    refine sx_iconst C dL_note_29 0 (by decide) 30 rfl ?_
    exact sx_iret C dL_note_30 hr (Nat.le_of_ble_eq_true rfl) (Nat.le_of_ble_eq_true rfl) ⟨_, rfl, h⟩
  · skip
    rcases hx with ⟨rfl, hx⟩ | ⟨rfl, hx⟩ | ⟨rfl, hx⟩
    · refine sx_catch C htab [] (0, 14, 17, 21) [(0, 14, 21, 13), (0, 14, 25, 15)] rfl (fun z hz => absurd hz List.not_mem_nil) rfl (by decide) lkc_L_21 cst_IOOBE h1 h2 h3 hw hS1 hls ?_
      refine sx_astore C dL_note_17 [(6, .ref q9), (0, .ref (b + 0)), (1, .int x1), (2, .int x2), (3, .int x3), (4, .int x4), (5, .ref bo)] (by decide) rfl 19 rfl ?_
      refine sx_iconst C dL_note_19 1 (by decide) 20 rfl ?_
      exact sx_iret C dL_note_20 hr (Nat.le_of_ble_eq_true rfl) (Nat.le_of_ble_eq_true rfl) ⟨_, rfl, hx⟩
    · refine sx_catch C htab [(0, 14, 17, 21)] (0, 14, 21, 13) [(0, 14, 25, 15)] rfl (fun z hz => by
        simp only [List.mem_cons, List.not_mem_nil, or_false] at hz
        subst hz
        exact ⟨by decide, _, lkc_L_21, hNC ("java/lang/IllegalArgumentException", "java/lang/IndexOutOfBoundsException") (by decide)⟩) rfl (by decide) lkc_L_13 cst_IAE h1 h2 h3 hw hS1 hls ?_
      refine sx_astore C dL_note_21 [(6, .ref q9), (0, .ref (b + 0)), (1, .int x1), (2, .int x2), (3, .int x3), (4, .int x4), (5, .ref bo)] (by decide) rfl 23 rfl ?_
      refine sx_iconst C dL_note_23 2 (by decide) 24 rfl ?_
      exact sx_iret C dL_note_24 hr (Nat.le_of_ble_eq_true rfl) (Nat.le_of_ble_eq_true rfl) ⟨_, rfl, hx⟩
    · refine sx_catch C htab [(0, 14, 17, 21), (0, 14, 21, 13)] (0, 14, 25, 15) [] rfl (fun z hz => by
        simp only [List.mem_cons, List.not_mem_nil, or_false] at hz
        rcases hz with rfl | rfl
        · exact ⟨by decide, _, lkc_L_21, hNC ("java/lang/IllegalStateException", "java/lang/IndexOutOfBoundsException") (by decide)⟩
        · exact ⟨by decide, _, lkc_L_13, hNC ("java/lang/IllegalStateException", "java/lang/IllegalArgumentException") (by decide)⟩) rfl (by decide) lkc_L_15 cst_ISE h1 h2 h3 hw hS1 hls ?_
      refine sx_astore C dL_note_25 [(6, .ref q9), (0, .ref (b + 0)), (1, .int x1), (2, .int x2), (3, .int x3), (4, .int x4), (5, .ref bo)] (by decide) rfl 27 rfl ?_
      refine sx_iconst C dL_note_27 3 (by decide) 28 rfl ?_
      exact sx_iret C dL_note_28 hr (Nat.le_of_ble_eq_true rfl) (Nat.le_of_ble_eq_true rfl) ⟨_, rfl, hx⟩
set_option maxRecDepth 100000 in
set_option maxHeartbeats 4000000 in
theorem c_L_mend {l : Launch} {D : va_G} {G : sx_G} {b bo : Nat} (hf : l.stackTraces = false) (hbo : b + 129 ≤ bo) {f : sx_F} {o : Nat → Int64} {x1 : Int32} {x2 : Int32} {x3 : Int32} {x4 : Int32} {QL : Int32 → sx_F → (Nat → Int64) → Prop} (h : P_L_mend f o x1 x2 x3 x4 QL) : sx_MetW l D G b 129 lyX bo yL_mend cL_mend 7 [(0, 14, 17, 21), (0, 14, 21, 13)] 9 158 4 24 [.ref (b + 0), .int x1, .int x2, .int x3, .int x4, .ref bo] (f, o) QL := by
  refine sx_enterW (own := RL) hf rfl rfl (Nat.le_of_ble_eq_true rfl) ?_
  intro p e s m args below meth c C hr htab hNC
  have hB : ∀ k, k < 129 → sx_AW b 129 bo s.heap.size (b + k) := fun k h => Or.inl ⟨by omega, by omega⟩
  have hA : sx_AW b 129 bo s.heap.size bo := Or.inr (Or.inl rfl)
  unfold P_L_mend at h
  refine sx_sub (lv' := [(0, .ref (b + 0)), (1, .int x1), (2, .int x2), (3, .int x3), (4, .int x4), (5, .ref bo)]) [0, 1, 2, 3, 4, 5] rfl ?_
  refine sx_aload C dL_mend_0 5 rfl 2 rfl ?_
  refine sx_iconst C dL_mend_2 0 (by decide) 3 rfl ?_
  refine sx_aload_n C dL_mend_3 0 0 rfl rfl 4 rfl ?_
  refine sx_iload_n C dL_mend_4 1 1 rfl rfl 5 rfl ?_
  refine sx_iload_n C dL_mend_5 2 2 rfl rfl 6 rfl ?_
  refine sx_iload_n C dL_mend_6 3 3 rfl rfl 7 rfl ?_
  refine sx_iload C dL_mend_7 4 rfl 9 rfl ?_
  refine sx_wcall C hB hbo (st := [.int 0, .ref bo]) dL_mend_9 (c_X6_mend hf h) mi_X6_mend lk_L_23 mn_X6_mend ms_X6_mend (by decide) lyX_0 rfl rfl rfl rfl ⟨⟨(Nat.le_of_ble_eq_true rfl), (Nat.le_of_ble_eq_true rfl)⟩, (Nat.le_of_ble_eq_true rfl), (Nat.le_of_ble_eq_true rfl)⟩ (Nat.le_of_ble_eq_true rfl) 12 rfl (fun v f1 h => ?_) (fun E ce q9 f1 H1 locs1 ls hx hw hS1 hls h1 h2 h3 => ?_)
  · obtain ⟨r, rfl, h⟩ := h
    refine sx_i2l C dL_mend_12 13 rfl ?_
    refine sx_last C hB hbo hA dL_mend_13 14 rfl (fun o1 eo => ?_)
    replace h := h o1 eo
    refine sx_goto C dL_mend_14 25 (by decide) ?_
    refine sx_iconst C dL_mend_25 0 (by decide) 26 rfl ?_
    exact sx_iret C dL_mend_26 hr (Nat.le_of_ble_eq_true rfl) (Nat.le_of_ble_eq_true rfl) ⟨_, rfl, h⟩
  · skip
    rcases hx with ⟨rfl, hx⟩ | ⟨rfl, hx⟩
    · refine sx_catch C htab [] (0, 14, 17, 21) [(0, 14, 21, 13)] rfl (fun z hz => absurd hz List.not_mem_nil) rfl (by decide) lkc_L_21 cst_IOOBE h1 h2 h3 hw hS1 hls ?_
      refine sx_astore C dL_mend_17 [(6, .ref q9), (0, .ref (b + 0)), (1, .int x1), (2, .int x2), (3, .int x3), (4, .int x4), (5, .ref bo)] (by decide) rfl 19 rfl ?_
      refine sx_iconst C dL_mend_19 1 (by decide) 20 rfl ?_
      exact sx_iret C dL_mend_20 hr (Nat.le_of_ble_eq_true rfl) (Nat.le_of_ble_eq_true rfl) ⟨_, rfl, hx⟩
    · refine sx_catch C htab [(0, 14, 17, 21)] (0, 14, 21, 13) [] rfl (fun z hz => by
        simp only [List.mem_cons, List.not_mem_nil, or_false] at hz
        subst hz
        exact ⟨by decide, _, lkc_L_21, hNC ("java/lang/IllegalArgumentException", "java/lang/IndexOutOfBoundsException") (by decide)⟩) rfl (by decide) lkc_L_13 cst_IAE h1 h2 h3 hw hS1 hls ?_
      refine sx_astore C dL_mend_21 [(6, .ref q9), (0, .ref (b + 0)), (1, .int x1), (2, .int x2), (3, .int x3), (4, .int x4), (5, .ref bo)] (by decide) rfl 23 rfl ?_
      refine sx_iconst C dL_mend_23 2 (by decide) 24 rfl ?_
      exact sx_iret C dL_mend_24 hr (Nat.le_of_ble_eq_true rfl) (Nat.le_of_ble_eq_true rfl) ⟨_, rfl, hx⟩
set_option maxRecDepth 100000 in
set_option maxHeartbeats 4000000 in
theorem c_L_empty {l : Launch} {D : va_G} {G : sx_G} {b bo : Nat} (hf : l.stackTraces = false) (hbo : b + 129 ≤ bo) {f : sx_F} {o : Nat → Int64} {x1 : Int32} {x2 : Int32} {QL : Int32 → sx_F → (Nat → Int64) → Prop} (h : P_L_empty f o x1 x2 QL) : sx_MetW l D G b 129 lyX bo yL_empty cL_empty 5 [(0, 10, 13, 21)] 9 155 2 12 [.ref (b + 0), .int x1, .int x2, .ref bo] (f, o) QL := by
  refine sx_enterW (own := RL) hf rfl rfl (Nat.le_of_ble_eq_true rfl) ?_
  intro p e s m args below meth c C hr htab hNC
  have hB : ∀ k, k < 129 → sx_AW b 129 bo s.heap.size (b + k) := fun k h => Or.inl ⟨by omega, by omega⟩
  have hA : sx_AW b 129 bo s.heap.size bo := Or.inr (Or.inl rfl)
  unfold P_L_empty at h
  refine sx_sub (lv' := [(0, .ref (b + 0)), (1, .int x1), (2, .int x2), (3, .ref bo)]) [0, 1, 2, 3] rfl ?_
  refine sx_aload_n C dL_empty_0 3 3 rfl rfl 1 rfl ?_
  refine sx_iconst C dL_empty_1 0 (by decide) 2 rfl ?_
  refine sx_aload_n C dL_empty_2 0 0 rfl rfl 3 rfl ?_
  refine sx_iload_n C dL_empty_3 1 1 rfl rfl 4 rfl ?_
  refine sx_iload_n C dL_empty_4 2 2 rfl rfl 5 rfl ?_
  refine sx_wcall C hB hbo (st := [.int 0, .ref bo]) dL_empty_5 (c_X6_empty hf h) mi_X6_empty lk_L_26 mn_X6_empty ms_X6_empty (by decide) lyX_0 rfl rfl rfl rfl ⟨⟨(Nat.le_of_ble_eq_true rfl), (Nat.le_of_ble_eq_true rfl)⟩, (Nat.le_of_ble_eq_true rfl), (Nat.le_of_ble_eq_true rfl)⟩ (Nat.le_of_ble_eq_true rfl) 8 rfl (fun v f1 h => ?_) (fun E ce q9 f1 H1 locs1 ls hx hw hS1 hls h1 h2 h3 => ?_)
  · obtain ⟨r, rfl, h⟩ := h
    refine sx_i2l C dL_empty_8 9 rfl ?_
    refine sx_last C hB hbo hA dL_empty_9 10 rfl (fun o1 eo => ?_)
    replace h := h o1 eo
    refine sx_goto C dL_empty_10 17 (by decide) ?_
    refine sx_iconst C dL_empty_17 0 (by decide) 18 rfl ?_
    exact sx_iret C dL_empty_18 hr (Nat.le_of_ble_eq_true rfl) (Nat.le_of_ble_eq_true rfl) ⟨_, rfl, h⟩
  · skip
    obtain ⟨rfl, hx⟩ := hx
    refine sx_catch C htab [] (0, 10, 13, 21) [] rfl (fun z hz => absurd hz List.not_mem_nil) rfl (by decide) lkc_L_21 cst_IOOBE h1 h2 h3 hw hS1 hls ?_
    refine sx_astore C dL_empty_13 [(4, .ref q9), (0, .ref (b + 0)), (1, .int x1), (2, .int x2), (3, .ref bo)] (by decide) rfl 15 rfl ?_
    refine sx_iconst C dL_empty_15 1 (by decide) 16 rfl ?_
    exact sx_iret C dL_empty_16 hr (Nat.le_of_ble_eq_true rfl) (Nat.le_of_ble_eq_true rfl) ⟨_, rfl, hx⟩
set_option maxRecDepth 100000 in
set_option maxHeartbeats 4000000 in
theorem c_L_setPaper {l : Launch} {D : va_G} {G : sx_G} {b bo : Nat} (hf : l.stackTraces = false) (hbo : b + 129 ≤ bo) {f : sx_F} {o : Nat → Int64} {x1 : Int32} {x2 : Int32} {QL : Int32 → sx_F → (Nat → Int64) → Prop} (h : P_L_setPaper f o x1 x2 QL) : sx_MetW l D G b 129 lyX bo yL_setPaper cL_setPaper 5 [(0, 10, 13, 13)] 8 135 2 12 [.ref (b + 0), .int x1, .int x2, .ref bo] (f, o) QL := by
  refine sx_enterW (own := RL) hf rfl rfl (Nat.le_of_ble_eq_true rfl) ?_
  intro p e s m args below meth c C hr htab hNC
  have hB : ∀ k, k < 129 → sx_AW b 129 bo s.heap.size (b + k) := fun k h => Or.inl ⟨by omega, by omega⟩
  have hA : sx_AW b 129 bo s.heap.size bo := Or.inr (Or.inl rfl)
  unfold P_L_setPaper at h
  refine sx_sub (lv' := [(0, .ref (b + 0)), (1, .int x1), (2, .int x2), (3, .ref bo)]) [0, 1, 2, 3] rfl ?_
  refine sx_aload_n C dL_setPaper_0 3 3 rfl rfl 1 rfl ?_
  refine sx_iconst C dL_setPaper_1 0 (by decide) 2 rfl ?_
  refine sx_aload_n C dL_setPaper_2 0 0 rfl rfl 3 rfl ?_
  refine sx_iload_n C dL_setPaper_3 1 1 rfl rfl 4 rfl ?_
  refine sx_iload_n C dL_setPaper_4 2 2 rfl rfl 5 rfl ?_
  refine sx_wcall C hB hbo (st := [.int 0, .ref bo]) dL_setPaper_5 (c_X6_setPaper hf h) mi_X6_setPaper lk_L_30 mn_X6_setPaper ms_X6_setPaper (by decide) lyX_0 rfl rfl rfl rfl ⟨⟨(Nat.le_of_ble_eq_true rfl), (Nat.le_of_ble_eq_true rfl)⟩, (Nat.le_of_ble_eq_true rfl), (Nat.le_of_ble_eq_true rfl)⟩ (Nat.le_of_ble_eq_true rfl) 8 rfl (fun v f1 h => ?_) (fun E ce q9 f1 H1 locs1 ls hx hw hS1 hls h1 h2 h3 => ?_)
  · obtain ⟨r, rfl, h⟩ := h
    refine sx_i2l C dL_setPaper_8 9 rfl ?_
    refine sx_last C hB hbo hA dL_setPaper_9 10 rfl (fun o1 eo => ?_)
    replace h := h o1 eo
    refine sx_goto C dL_setPaper_10 17 (by decide) ?_
    refine sx_iconst C dL_setPaper_17 0 (by decide) 18 rfl ?_
    exact sx_iret C dL_setPaper_18 hr (Nat.le_of_ble_eq_true rfl) (Nat.le_of_ble_eq_true rfl) ⟨_, rfl, h⟩
  · skip
    obtain ⟨rfl, hx⟩ := hx
    refine sx_catch C htab [] (0, 10, 13, 13) [] rfl (fun z hz => absurd hz List.not_mem_nil) rfl (by decide) lkc_L_13 cst_IAE h1 h2 h3 hw hS1 hls ?_
    refine sx_astore C dL_setPaper_13 [(4, .ref q9), (0, .ref (b + 0)), (1, .int x1), (2, .int x2), (3, .ref bo)] (by decide) rfl 15 rfl ?_
    refine sx_iconst C dL_setPaper_15 1 (by decide) 16 rfl ?_
    exact sx_iret C dL_setPaper_16 hr (Nat.le_of_ble_eq_true rfl) (Nat.le_of_ble_eq_true rfl) ⟨_, rfl, hx⟩
set_option maxRecDepth 100000 in
set_option maxHeartbeats 4000000 in
theorem c_L_copy {l : Launch} {D : va_G} {G : sx_G} {b bo : Nat} (hf : l.stackTraces = false) (hbo : b + 129 ≤ bo) {f : sx_F} {o : Nat → Int64} {x1 : Int32} {QL : Int32 → sx_F → (Nat → Int64) → Prop} (h : P_L_copy f o x1 QL) : sx_MetW l D G b 129 lyX bo yL_copy cL_copy 4 [(0, 9, 12, 21), (0, 9, 15, 15)] 8 132 2 12 [.ref (b + 0), .int x1, .ref bo] (f, o) QL := by
  refine sx_enterW (own := RL) hf rfl rfl (Nat.le_of_ble_eq_true rfl) ?_
  intro p e s m args below meth c C hr htab hNC
  have hB : ∀ k, k < 129 → sx_AW b 129 bo s.heap.size (b + k) := fun k h => Or.inl ⟨by omega, by omega⟩
  have hA : sx_AW b 129 bo s.heap.size bo := Or.inr (Or.inl rfl)
  unfold P_L_copy at h
  refine sx_sub (lv' := [(0, .ref (b + 0)), (1, .int x1), (2, .ref bo)]) [0, 1, 2] rfl ?_
  refine sx_aload_n C dL_copy_0 2 2 rfl rfl 1 rfl ?_
  refine sx_iconst C dL_copy_1 0 (by decide) 2 rfl ?_
  refine sx_aload_n C dL_copy_2 0 0 rfl rfl 3 rfl ?_
  refine sx_iload_n C dL_copy_3 1 1 rfl rfl 4 rfl ?_
  refine sx_wcall C hB hbo (st := [.int 0, .ref bo]) dL_copy_4 (c_X6_copy hf h) mi_X6_copy lk_L_33 mn_X6_copy ms_X6_copy (by decide) lyX_0 rfl rfl rfl rfl ⟨⟨(Nat.le_of_ble_eq_true rfl), (Nat.le_of_ble_eq_true rfl)⟩, (Nat.le_of_ble_eq_true rfl), (Nat.le_of_ble_eq_true rfl)⟩ (Nat.le_of_ble_eq_true rfl) 7 rfl (fun v f1 h => ?_) (fun E ce q9 f1 H1 locs1 ls hx hw hS1 hls h1 h2 h3 => ?_)
  · obtain ⟨r, rfl, h⟩ := h
    refine sx_i2l C dL_copy_7 8 rfl ?_
    refine sx_last C hB hbo hA dL_copy_8 9 rfl (fun o1 eo => ?_)
    replace h := h o1 eo
    refine sx_goto C dL_copy_9 18 (by decide) ?_
    refine sx_iconst C dL_copy_18 0 (by decide) 19 rfl ?_
    exact sx_iret C dL_copy_19 hr (Nat.le_of_ble_eq_true rfl) (Nat.le_of_ble_eq_true rfl) ⟨_, rfl, h⟩
  · skip
    rcases hx with ⟨rfl, hx⟩ | ⟨rfl, hx⟩
    · refine sx_catch C htab [] (0, 9, 12, 21) [(0, 9, 15, 15)] rfl (fun z hz => absurd hz List.not_mem_nil) rfl (by decide) lkc_L_21 cst_IOOBE h1 h2 h3 hw hS1 hls ?_
      refine sx_astore_n C dL_copy_12 3 rfl [(3, .ref q9), (0, .ref (b + 0)), (1, .int x1), (2, .ref bo)] (by decide) rfl 13 rfl ?_
      refine sx_iconst C dL_copy_13 1 (by decide) 14 rfl ?_
      exact sx_iret C dL_copy_14 hr (Nat.le_of_ble_eq_true rfl) (Nat.le_of_ble_eq_true rfl) ⟨_, rfl, hx⟩
    · refine sx_catch C htab [(0, 9, 12, 21)] (0, 9, 15, 15) [] rfl (fun z hz => by
        simp only [List.mem_cons, List.not_mem_nil, or_false] at hz
        subst hz
        exact ⟨by decide, _, lkc_L_21, hNC ("java/lang/IllegalStateException", "java/lang/IndexOutOfBoundsException") (by decide)⟩) rfl (by decide) lkc_L_15 cst_ISE h1 h2 h3 hw hS1 hls ?_
      refine sx_astore_n C dL_copy_15 3 rfl [(3, .ref q9), (0, .ref (b + 0)), (1, .int x1), (2, .ref bo)] (by decide) rfl 16 rfl ?_
      refine sx_iconst C dL_copy_16 2 (by decide) 17 rfl ?_
      exact sx_iret C dL_copy_17 hr (Nat.le_of_ble_eq_true rfl) (Nat.le_of_ble_eq_true rfl) ⟨_, rfl, hx⟩
set_option maxRecDepth 100000 in
set_option maxHeartbeats 4000000 in
theorem c_L_lend {l : Launch} {D : va_G} {G : sx_G} {b bo : Nat} (hf : l.stackTraces = false) (hbo : b + 129 ≤ bo) {f : sx_F} {o : Nat → Int64} {x1 : Int32} {x2 : Int32} {QL : Int32 → sx_F → (Nat → Int64) → Prop} (h : P_L_lend f o x1 x2 QL) : sx_MetW l D G b 129 lyX bo yL_lend cL_lend 5 [(0, 10, 13, 21), (0, 10, 17, 15)] 8 134 3 18 [.ref (b + 0), .int x1, .int x2, .ref bo] (f, o) QL := by
  refine sx_enterW (own := RL) hf rfl rfl (Nat.le_of_ble_eq_true rfl) ?_
  intro p e s m args below meth c C hr htab hNC
  have hB : ∀ k, k < 129 → sx_AW b 129 bo s.heap.size (b + k) := fun k h => Or.inl ⟨by omega, by omega⟩
  have hA : sx_AW b 129 bo s.heap.size bo := Or.inr (Or.inl rfl)
  unfold P_L_lend at h
  refine sx_sub (lv' := [(0, .ref (b + 0)), (1, .int x1), (2, .int x2), (3, .ref bo)]) [0, 1, 2, 3] rfl ?_
  refine sx_aload_n C dL_lend_0 3 3 rfl rfl 1 rfl ?_
  refine sx_iconst C dL_lend_1 0 (by decide) 2 rfl ?_
  refine sx_aload_n C dL_lend_2 0 0 rfl rfl 3 rfl ?_
  refine sx_iload_n C dL_lend_3 1 1 rfl rfl 4 rfl ?_
  refine sx_iload_n C dL_lend_4 2 2 rfl rfl 5 rfl ?_
  refine sx_wcall C hB hbo (st := [.int 0, .ref bo]) dL_lend_5 (c_X6_lend hf h) mi_X6_lend lk_L_36 mn_X6_lend ms_X6_lend (by decide) lyX_0 rfl rfl rfl rfl ⟨⟨(Nat.le_of_ble_eq_true rfl), (Nat.le_of_ble_eq_true rfl)⟩, (Nat.le_of_ble_eq_true rfl), (Nat.le_of_ble_eq_true rfl)⟩ (Nat.le_of_ble_eq_true rfl) 8 rfl (fun v f1 h => ?_) (fun E ce q9 f1 H1 locs1 ls hx hw hS1 hls h1 h2 h3 => ?_)
  · obtain ⟨r, rfl, h⟩ := h
    refine sx_i2l C dL_lend_8 9 rfl ?_
    refine sx_last C hB hbo hA dL_lend_9 10 rfl (fun o1 eo => ?_)
    replace h := h o1 eo
    refine sx_goto C dL_lend_10 21 (by decide) ?_
    refine sx_iconst C dL_lend_21 0 (by decide) 22 rfl ?_
    exact sx_iret C dL_lend_22 hr (Nat.le_of_ble_eq_true rfl) (Nat.le_of_ble_eq_true rfl) ⟨_, rfl, h⟩
  · skip
    rcases hx with ⟨rfl, hx⟩ | ⟨rfl, hx⟩
    · refine sx_catch C htab [] (0, 10, 13, 21) [(0, 10, 17, 15)] rfl (fun z hz => absurd hz List.not_mem_nil) rfl (by decide) lkc_L_21 cst_IOOBE h1 h2 h3 hw hS1 hls ?_
      refine sx_astore C dL_lend_13 [(4, .ref q9), (0, .ref (b + 0)), (1, .int x1), (2, .int x2), (3, .ref bo)] (by decide) rfl 15 rfl ?_
      refine sx_iconst C dL_lend_15 1 (by decide) 16 rfl ?_
      exact sx_iret C dL_lend_16 hr (Nat.le_of_ble_eq_true rfl) (Nat.le_of_ble_eq_true rfl) ⟨_, rfl, hx⟩
    · refine sx_catch C htab [(0, 10, 13, 21)] (0, 10, 17, 15) [] rfl (fun z hz => by
        simp only [List.mem_cons, List.not_mem_nil, or_false] at hz
        subst hz
        exact ⟨by decide, _, lkc_L_21, hNC ("java/lang/IllegalStateException", "java/lang/IndexOutOfBoundsException") (by decide)⟩) rfl (by decide) lkc_L_15 cst_ISE h1 h2 h3 hw hS1 hls ?_
      refine sx_astore C dL_lend_17 [(4, .ref q9), (0, .ref (b + 0)), (1, .int x1), (2, .int x2), (3, .ref bo)] (by decide) rfl 19 rfl ?_
      refine sx_iconst C dL_lend_19 2 (by decide) 20 rfl ?_
      exact sx_iret C dL_lend_20 hr (Nat.le_of_ble_eq_true rfl) (Nat.le_of_ble_eq_true rfl) ⟨_, rfl, hx⟩
set_option maxRecDepth 100000 in
set_option maxHeartbeats 4000000 in
theorem c_L_giveBack {l : Launch} {D : va_G} {G : sx_G} {b bo : Nat} (hf : l.stackTraces = false) (hbo : b + 129 ≤ bo) {f : sx_F} {o : Nat → Int64} {x1 : Int32} {QL : Int32 → sx_F → (Nat → Int64) → Prop} (h : P_L_giveBack f o x1 QL) : sx_MetW l D G b 129 lyX bo yL_giveBack cL_giveBack 4 [(0, 9, 12, 21), (0, 9, 15, 15)] 9 156 2 12 [.ref (b + 0), .int x1, .ref bo] (f, o) QL := by
  refine sx_enterW (own := RL) hf rfl rfl (Nat.le_of_ble_eq_true rfl) ?_
  intro p e s m args below meth c C hr htab hNC
  have hB : ∀ k, k < 129 → sx_AW b 129 bo s.heap.size (b + k) := fun k h => Or.inl ⟨by omega, by omega⟩
  have hA : sx_AW b 129 bo s.heap.size bo := Or.inr (Or.inl rfl)
  unfold P_L_giveBack at h
  refine sx_sub (lv' := [(0, .ref (b + 0)), (1, .int x1), (2, .ref bo)]) [0, 1, 2] rfl ?_
  refine sx_aload_n C dL_giveBack_0 2 2 rfl rfl 1 rfl ?_
  refine sx_iconst C dL_giveBack_1 0 (by decide) 2 rfl ?_
  refine sx_aload_n C dL_giveBack_2 0 0 rfl rfl 3 rfl ?_
  refine sx_iload_n C dL_giveBack_3 1 1 rfl rfl 4 rfl ?_
  refine sx_wcall C hB hbo (st := [.int 0, .ref bo]) dL_giveBack_4 (c_X6_giveBack hf h) mi_X6_giveBack lk_L_39 mn_X6_giveBack ms_X6_giveBack (by decide) lyX_0 rfl rfl rfl rfl ⟨⟨(Nat.le_of_ble_eq_true rfl), (Nat.le_of_ble_eq_true rfl)⟩, (Nat.le_of_ble_eq_true rfl), (Nat.le_of_ble_eq_true rfl)⟩ (Nat.le_of_ble_eq_true rfl) 7 rfl (fun v f1 h => ?_) (fun E ce q9 f1 H1 locs1 ls hx hw hS1 hls h1 h2 h3 => ?_)
  · obtain ⟨r, rfl, h⟩ := h
    refine sx_i2l C dL_giveBack_7 8 rfl ?_
    refine sx_last C hB hbo hA dL_giveBack_8 9 rfl (fun o1 eo => ?_)
    replace h := h o1 eo
    refine sx_goto C dL_giveBack_9 18 (by decide) ?_
    refine sx_iconst C dL_giveBack_18 0 (by decide) 19 rfl ?_
    exact sx_iret C dL_giveBack_19 hr (Nat.le_of_ble_eq_true rfl) (Nat.le_of_ble_eq_true rfl) ⟨_, rfl, h⟩
  · skip
    rcases hx with ⟨rfl, hx⟩ | ⟨rfl, hx⟩
    · refine sx_catch C htab [] (0, 9, 12, 21) [(0, 9, 15, 15)] rfl (fun z hz => absurd hz List.not_mem_nil) rfl (by decide) lkc_L_21 cst_IOOBE h1 h2 h3 hw hS1 hls ?_
      refine sx_astore_n C dL_giveBack_12 3 rfl [(3, .ref q9), (0, .ref (b + 0)), (1, .int x1), (2, .ref bo)] (by decide) rfl 13 rfl ?_
      refine sx_iconst C dL_giveBack_13 1 (by decide) 14 rfl ?_
      exact sx_iret C dL_giveBack_14 hr (Nat.le_of_ble_eq_true rfl) (Nat.le_of_ble_eq_true rfl) ⟨_, rfl, hx⟩
    · refine sx_catch C htab [(0, 9, 12, 21)] (0, 9, 15, 15) [] rfl (fun z hz => by
        simp only [List.mem_cons, List.not_mem_nil, or_false] at hz
        subst hz
        exact ⟨by decide, _, lkc_L_21, hNC ("java/lang/IllegalStateException", "java/lang/IndexOutOfBoundsException") (by decide)⟩) rfl (by decide) lkc_L_15 cst_ISE h1 h2 h3 hw hS1 hls ?_
      refine sx_astore_n C dL_giveBack_15 3 rfl [(3, .ref q9), (0, .ref (b + 0)), (1, .int x1), (2, .ref bo)] (by decide) rfl 16 rfl ?_
      refine sx_iconst C dL_giveBack_16 2 (by decide) 17 rfl ?_
      exact sx_iret C dL_giveBack_17 hr (Nat.le_of_ble_eq_true rfl) (Nat.le_of_ble_eq_true rfl) ⟨_, rfl, hx⟩
set_option maxRecDepth 100000 in
set_option maxHeartbeats 4000000 in
theorem c_L_paste {l : Launch} {D : va_G} {G : sx_G} {b bo : Nat} (hf : l.stackTraces = false) (hbo : b + 129 ≤ bo) {f : sx_F} {o : Nat → Int64} {x1 : Int32} {QL : Int32 → sx_F → (Nat → Int64) → Prop} (h : P_L_paste f o x1 QL) : sx_MetW l D G b 129 lyX bo yL_paste cL_paste 4 [(0, 9, 12, 21), (0, 9, 15, 15)] 9 156 2 12 [.ref (b + 0), .int x1, .ref bo] (f, o) QL := by
  refine sx_enterW (own := RL) hf rfl rfl (Nat.le_of_ble_eq_true rfl) ?_
  intro p e s m args below meth c C hr htab hNC
  have hB : ∀ k, k < 129 → sx_AW b 129 bo s.heap.size (b + k) := fun k h => Or.inl ⟨by omega, by omega⟩
  have hA : sx_AW b 129 bo s.heap.size bo := Or.inr (Or.inl rfl)
  unfold P_L_paste at h
  refine sx_sub (lv' := [(0, .ref (b + 0)), (1, .int x1), (2, .ref bo)]) [0, 1, 2] rfl ?_
  refine sx_aload_n C dL_paste_0 2 2 rfl rfl 1 rfl ?_
  refine sx_iconst C dL_paste_1 0 (by decide) 2 rfl ?_
  refine sx_aload_n C dL_paste_2 0 0 rfl rfl 3 rfl ?_
  refine sx_iload_n C dL_paste_3 1 1 rfl rfl 4 rfl ?_
  refine sx_wcall C hB hbo (st := [.int 0, .ref bo]) dL_paste_4 (c_X6_paste hf h) mi_X6_paste lk_L_42 mn_X6_paste ms_X6_paste (by decide) lyX_0 rfl rfl rfl rfl ⟨⟨(Nat.le_of_ble_eq_true rfl), (Nat.le_of_ble_eq_true rfl)⟩, (Nat.le_of_ble_eq_true rfl), (Nat.le_of_ble_eq_true rfl)⟩ (Nat.le_of_ble_eq_true rfl) 7 rfl (fun v f1 h => ?_) (fun E ce q9 f1 H1 locs1 ls hx hw hS1 hls h1 h2 h3 => ?_)
  · obtain ⟨r, rfl, h⟩ := h
    refine sx_i2l C dL_paste_7 8 rfl ?_
    refine sx_last C hB hbo hA dL_paste_8 9 rfl (fun o1 eo => ?_)
    replace h := h o1 eo
    refine sx_goto C dL_paste_9 18 (by decide) ?_
    refine sx_iconst C dL_paste_18 0 (by decide) 19 rfl ?_
    exact sx_iret C dL_paste_19 hr (Nat.le_of_ble_eq_true rfl) (Nat.le_of_ble_eq_true rfl) ⟨_, rfl, h⟩
  · skip
    rcases hx with ⟨rfl, hx⟩ | ⟨rfl, hx⟩
    · refine sx_catch C htab [] (0, 9, 12, 21) [(0, 9, 15, 15)] rfl (fun z hz => absurd hz List.not_mem_nil) rfl (by decide) lkc_L_21 cst_IOOBE h1 h2 h3 hw hS1 hls ?_
      refine sx_astore_n C dL_paste_12 3 rfl [(3, .ref q9), (0, .ref (b + 0)), (1, .int x1), (2, .ref bo)] (by decide) rfl 13 rfl ?_
      refine sx_iconst C dL_paste_13 1 (by decide) 14 rfl ?_
      exact sx_iret C dL_paste_14 hr (Nat.le_of_ble_eq_true rfl) (Nat.le_of_ble_eq_true rfl) ⟨_, rfl, hx⟩
    · refine sx_catch C htab [(0, 9, 12, 21)] (0, 9, 15, 15) [] rfl (fun z hz => by
        simp only [List.mem_cons, List.not_mem_nil, or_false] at hz
        subst hz
        exact ⟨by decide, _, lkc_L_21, hNC ("java/lang/IllegalStateException", "java/lang/IndexOutOfBoundsException") (by decide)⟩) rfl (by decide) lkc_L_15 cst_ISE h1 h2 h3 hw hS1 hls ?_
      refine sx_astore_n C dL_paste_15 3 rfl [(3, .ref q9), (0, .ref (b + 0)), (1, .int x1), (2, .ref bo)] (by decide) rfl 16 rfl ?_
      refine sx_iconst C dL_paste_16 2 (by decide) 17 rfl ?_
      exact sx_iret C dL_paste_17 hr (Nat.le_of_ble_eq_true rfl) (Nat.le_of_ble_eq_true rfl) ⟨_, rfl, hx⟩
set_option maxRecDepth 100000 in
set_option maxHeartbeats 4000000 in
theorem c_L_mark {l : Launch} {D : va_G} {G : sx_G} {b bo : Nat} (hf : l.stackTraces = false) (hbo : b + 129 ≤ bo) {f : sx_F} {o : Nat → Int64} {x1 : Int32} {x2 : Int32} {x3 : Int32} {QL : Int32 → sx_F → (Nat → Int64) → Prop} (h : P_L_mark f o x1 x2 x3 QL) : sx_MetW l D G b 129 lyX bo yL_mark cL_mark 6 [(0, 12, 15, 21), (0, 12, 19, 13), (0, 12, 23, 15)] 9 158 6 36 [.ref (b + 0), .int x1, .int x2, .int x3, .ref bo] (f, o) QL := by
  refine sx_enterW (own := RL) hf rfl rfl (Nat.le_of_ble_eq_true rfl) ?_
  intro p e s m args below meth c C hr htab hNC
  have hB : ∀ k, k < 129 → sx_AW b 129 bo s.heap.size (b + k) := fun k h => Or.inl ⟨by omega, by omega⟩
  have hA : sx_AW b 129 bo s.heap.size bo := Or.inr (Or.inl rfl)
  unfold P_L_mark at h
  refine sx_sub (lv' := [(0, .ref (b + 0)), (1, .int x1), (2, .int x2), (3, .int x3), (4, .ref bo)]) [0, 1, 2, 3, 4] rfl ?_
  refine sx_aload C dL_mark_0 4 rfl 2 rfl ?_
  refine sx_iconst C dL_mark_2 0 (by decide) 3 rfl ?_
  refine sx_aload_n C dL_mark_3 0 0 rfl rfl 4 rfl ?_
  refine sx_iload_n C dL_mark_4 1 1 rfl rfl 5 rfl ?_
  refine sx_iload_n C dL_mark_5 2 2 rfl rfl 6 rfl ?_
  refine sx_iload_n C dL_mark_6 3 3 rfl rfl 7 rfl ?_
  refine sx_wcall C hB hbo (st := [.int 0, .ref bo]) dL_mark_7 (c_X6_mark hf h) mi_X6_mark lk_L_45 mn_X6_mark ms_X6_mark (by decide) lyX_0 rfl rfl rfl rfl ⟨⟨(Nat.le_of_ble_eq_true rfl), (Nat.le_of_ble_eq_true rfl)⟩, (Nat.le_of_ble_eq_true rfl), (Nat.le_of_ble_eq_true rfl)⟩ (Nat.le_of_ble_eq_true rfl) 10 rfl (fun v f1 h => ?_) (fun E ce q9 f1 H1 locs1 ls hx hw hS1 hls h1 h2 h3 => ?_)
  · obtain ⟨r, rfl, h⟩ := h
    refine sx_i2l C dL_mark_10 11 rfl ?_
    refine sx_last C hB hbo hA dL_mark_11 12 rfl (fun o1 eo => ?_)
    replace h := h o1 eo
    refine sx_goto C dL_mark_12 27 (by decide) ?_
    refine sx_iconst C dL_mark_27 0 (by decide) 28 rfl ?_
    exact sx_iret C dL_mark_28 hr (Nat.le_of_ble_eq_true rfl) (Nat.le_of_ble_eq_true rfl) ⟨_, rfl, h⟩
  · skip
    rcases hx with ⟨rfl, hx⟩ | ⟨rfl, hx⟩ | ⟨rfl, hx⟩
    · refine sx_catch C htab [] (0, 12, 15, 21) [(0, 12, 19, 13), (0, 12, 23, 15)] rfl (fun z hz => absurd hz List.not_mem_nil) rfl (by decide) lkc_L_21 cst_IOOBE h1 h2 h3 hw hS1 hls ?_
      refine sx_astore C dL_mark_15 [(5, .ref q9), (0, .ref (b + 0)), (1, .int x1), (2, .int x2), (3, .int x3), (4, .ref bo)] (by decide) rfl 17 rfl ?_
      refine sx_iconst C dL_mark_17 1 (by decide) 18 rfl ?_
      exact sx_iret C dL_mark_18 hr (Nat.le_of_ble_eq_true rfl) (Nat.le_of_ble_eq_true rfl) ⟨_, rfl, hx⟩
    · refine sx_catch C htab [(0, 12, 15, 21)] (0, 12, 19, 13) [(0, 12, 23, 15)] rfl (fun z hz => by
        simp only [List.mem_cons, List.not_mem_nil, or_false] at hz
        subst hz
        exact ⟨by decide, _, lkc_L_21, hNC ("java/lang/IllegalArgumentException", "java/lang/IndexOutOfBoundsException") (by decide)⟩) rfl (by decide) lkc_L_13 cst_IAE h1 h2 h3 hw hS1 hls ?_
      refine sx_astore C dL_mark_19 [(5, .ref q9), (0, .ref (b + 0)), (1, .int x1), (2, .int x2), (3, .int x3), (4, .ref bo)] (by decide) rfl 21 rfl ?_
      refine sx_iconst C dL_mark_21 2 (by decide) 22 rfl ?_
      exact sx_iret C dL_mark_22 hr (Nat.le_of_ble_eq_true rfl) (Nat.le_of_ble_eq_true rfl) ⟨_, rfl, hx⟩
    · refine sx_catch C htab [(0, 12, 15, 21), (0, 12, 19, 13)] (0, 12, 23, 15) [] rfl (fun z hz => by
        simp only [List.mem_cons, List.not_mem_nil, or_false] at hz
        rcases hz with rfl | rfl
        · exact ⟨by decide, _, lkc_L_21, hNC ("java/lang/IllegalStateException", "java/lang/IndexOutOfBoundsException") (by decide)⟩
        · exact ⟨by decide, _, lkc_L_13, hNC ("java/lang/IllegalStateException", "java/lang/IllegalArgumentException") (by decide)⟩) rfl (by decide) lkc_L_15 cst_ISE h1 h2 h3 hw hS1 hls ?_
      refine sx_astore C dL_mark_23 [(5, .ref q9), (0, .ref (b + 0)), (1, .int x1), (2, .int x2), (3, .int x3), (4, .ref bo)] (by decide) rfl 25 rfl ?_
      refine sx_iconst C dL_mark_25 3 (by decide) 26 rfl ?_
      exact sx_iret C dL_mark_26 hr (Nat.le_of_ble_eq_true rfl) (Nat.le_of_ble_eq_true rfl) ⟨_, rfl, hx⟩
set_option maxRecDepth 100000 in
set_option maxHeartbeats 4000000 in
theorem c_L_bow {l : Launch} {D : va_G} {G : sx_G} {b bo : Nat} (hf : l.stackTraces = false) (hbo : b + 129 ≤ bo) {f : sx_F} {o : Nat → Int64} {x1 : Int32} {x2 : Int32} {x3 : Int32} {x4 : Int32} {QL : Int32 → sx_F → (Nat → Int64) → Prop} (h : P_L_bow f o x1 x2 x3 x4 QL) : sx_MetW l D G b 129 lyX bo yL_bow cL_bow 7 [(0, 14, 17, 21), (0, 14, 21, 13), (0, 14, 25, 15)] 9 159 8 48 [.ref (b + 0), .int x1, .int x2, .int x3, .int x4, .ref bo] (f, o) QL := by
  refine sx_enterW (own := RL) hf rfl rfl (Nat.le_of_ble_eq_true rfl) ?_
  intro p e s m args below meth c C hr htab hNC
  have hB : ∀ k, k < 129 → sx_AW b 129 bo s.heap.size (b + k) := fun k h => Or.inl ⟨by omega, by omega⟩
  have hA : sx_AW b 129 bo s.heap.size bo := Or.inr (Or.inl rfl)
  unfold P_L_bow at h
  refine sx_sub (lv' := [(0, .ref (b + 0)), (1, .int x1), (2, .int x2), (3, .int x3), (4, .int x4), (5, .ref bo)]) [0, 1, 2, 3, 4, 5] rfl ?_
  refine sx_aload C dL_bow_0 5 rfl 2 rfl ?_
  refine sx_iconst C dL_bow_2 0 (by decide) 3 rfl ?_
  refine sx_aload_n C dL_bow_3 0 0 rfl rfl 4 rfl ?_
  refine sx_iload_n C dL_bow_4 1 1 rfl rfl 5 rfl ?_
  refine sx_iload_n C dL_bow_5 2 2 rfl rfl 6 rfl ?_
  refine sx_iload_n C dL_bow_6 3 3 rfl rfl 7 rfl ?_
  refine sx_iload C dL_bow_7 4 rfl 9 rfl ?_
  refine sx_wcall C hB hbo (st := [.int 0, .ref bo]) dL_bow_9 (c_X6_bow hf h) mi_X6_bow lk_L_49 mn_X6_bow ms_X6_bow (by decide) lyX_0 rfl rfl rfl rfl ⟨⟨(Nat.le_of_ble_eq_true rfl), (Nat.le_of_ble_eq_true rfl)⟩, (Nat.le_of_ble_eq_true rfl), (Nat.le_of_ble_eq_true rfl)⟩ (Nat.le_of_ble_eq_true rfl) 12 rfl (fun v f1 h => ?_) (fun E ce q9 f1 H1 locs1 ls hx hw hS1 hls h1 h2 h3 => ?_)
  · obtain ⟨r, rfl, h⟩ := h
    refine sx_i2l C dL_bow_12 13 rfl ?_
    refine sx_last C hB hbo hA dL_bow_13 14 rfl (fun o1 eo => ?_)
    replace h := h o1 eo
    refine sx_goto C dL_bow_14 29 (by decide) ?_
    refine sx_iconst C dL_bow_29 0 (by decide) 30 rfl ?_
    exact sx_iret C dL_bow_30 hr (Nat.le_of_ble_eq_true rfl) (Nat.le_of_ble_eq_true rfl) ⟨_, rfl, h⟩
  · skip
    rcases hx with ⟨rfl, hx⟩ | ⟨rfl, hx⟩ | ⟨rfl, hx⟩
    · refine sx_catch C htab [] (0, 14, 17, 21) [(0, 14, 21, 13), (0, 14, 25, 15)] rfl (fun z hz => absurd hz List.not_mem_nil) rfl (by decide) lkc_L_21 cst_IOOBE h1 h2 h3 hw hS1 hls ?_
      refine sx_astore C dL_bow_17 [(6, .ref q9), (0, .ref (b + 0)), (1, .int x1), (2, .int x2), (3, .int x3), (4, .int x4), (5, .ref bo)] (by decide) rfl 19 rfl ?_
      refine sx_iconst C dL_bow_19 1 (by decide) 20 rfl ?_
      exact sx_iret C dL_bow_20 hr (Nat.le_of_ble_eq_true rfl) (Nat.le_of_ble_eq_true rfl) ⟨_, rfl, hx⟩
    · refine sx_catch C htab [(0, 14, 17, 21)] (0, 14, 21, 13) [(0, 14, 25, 15)] rfl (fun z hz => by
        simp only [List.mem_cons, List.not_mem_nil, or_false] at hz
        subst hz
        exact ⟨by decide, _, lkc_L_21, hNC ("java/lang/IllegalArgumentException", "java/lang/IndexOutOfBoundsException") (by decide)⟩) rfl (by decide) lkc_L_13 cst_IAE h1 h2 h3 hw hS1 hls ?_
      refine sx_astore C dL_bow_21 [(6, .ref q9), (0, .ref (b + 0)), (1, .int x1), (2, .int x2), (3, .int x3), (4, .int x4), (5, .ref bo)] (by decide) rfl 23 rfl ?_
      refine sx_iconst C dL_bow_23 2 (by decide) 24 rfl ?_
      exact sx_iret C dL_bow_24 hr (Nat.le_of_ble_eq_true rfl) (Nat.le_of_ble_eq_true rfl) ⟨_, rfl, hx⟩
    · refine sx_catch C htab [(0, 14, 17, 21), (0, 14, 21, 13)] (0, 14, 25, 15) [] rfl (fun z hz => by
        simp only [List.mem_cons, List.not_mem_nil, or_false] at hz
        rcases hz with rfl | rfl
        · exact ⟨by decide, _, lkc_L_21, hNC ("java/lang/IllegalStateException", "java/lang/IndexOutOfBoundsException") (by decide)⟩
        · exact ⟨by decide, _, lkc_L_13, hNC ("java/lang/IllegalStateException", "java/lang/IllegalArgumentException") (by decide)⟩) rfl (by decide) lkc_L_15 cst_ISE h1 h2 h3 hw hS1 hls ?_
      refine sx_astore C dL_bow_25 [(6, .ref q9), (0, .ref (b + 0)), (1, .int x1), (2, .int x2), (3, .int x3), (4, .int x4), (5, .ref bo)] (by decide) rfl 27 rfl ?_
      refine sx_iconst C dL_bow_27 3 (by decide) 28 rfl ?_
      exact sx_iret C dL_bow_28 hr (Nat.le_of_ble_eq_true rfl) (Nat.le_of_ble_eq_true rfl) ⟨_, rfl, hx⟩
set_option maxRecDepth 100000 in
set_option maxHeartbeats 4000000 in
theorem c_L_play {l : Launch} {D : va_G} {G : sx_G} {b bo : Nat} (hf : l.stackTraces = false) (hbo : b + 129 ≤ bo) {f : sx_F} {o : Nat → Int64} {QL : Int32 → sx_F → (Nat → Int64) → Prop} (h : P_L_play f o  QL) : sx_MetW l D G b 129 lyX bo yL_play cL_play 3 [(0, 8, 11, 15)] 8 161 1 6 [.ref (b + 0), .ref bo] (f, o) QL := by
  refine sx_enterW (own := RL) hf rfl rfl (Nat.le_of_ble_eq_true rfl) ?_
  intro p e s m args below meth c C hr htab hNC
  have hB : ∀ k, k < 129 → sx_AW b 129 bo s.heap.size (b + k) := fun k h => Or.inl ⟨by omega, by omega⟩
  have hA : sx_AW b 129 bo s.heap.size bo := Or.inr (Or.inl rfl)
  unfold P_L_play at h
  refine sx_sub (lv' := [(0, .ref (b + 0)), (1, .ref bo)]) [0, 1] rfl ?_
  refine sx_aload_n C dL_play_0 1 1 rfl rfl 1 rfl ?_
  refine sx_iconst C dL_play_1 0 (by decide) 2 rfl ?_
  refine sx_aload_n C dL_play_2 0 0 rfl rfl 3 rfl ?_
  refine sx_wcall C hB hbo (st := [.int 0, .ref bo]) dL_play_3 (c_X6_play hf h) mi_X6_play lk_L_52 mn_X6_play ms_X6_play (by decide) lyX_0 rfl rfl rfl rfl ⟨⟨(Nat.le_of_ble_eq_true rfl), (Nat.le_of_ble_eq_true rfl)⟩, (Nat.le_of_ble_eq_true rfl), (Nat.le_of_ble_eq_true rfl)⟩ (Nat.le_of_ble_eq_true rfl) 6 rfl (fun v f1 h => ?_) (fun E ce q9 f1 H1 locs1 ls hx hw hS1 hls h1 h2 h3 => ?_)
  · obtain ⟨r, rfl, h⟩ := h
    refine sx_i2l C dL_play_6 7 rfl ?_
    refine sx_last C hB hbo hA dL_play_7 8 rfl (fun o1 eo => ?_)
    replace h := h o1 eo
    refine sx_goto C dL_play_8 14 (by decide) ?_
    refine sx_iconst C dL_play_14 0 (by decide) 15 rfl ?_
    exact sx_iret C dL_play_15 hr (Nat.le_of_ble_eq_true rfl) (Nat.le_of_ble_eq_true rfl) ⟨_, rfl, h⟩
  · skip
    obtain ⟨rfl, hx⟩ := hx
    refine sx_catch C htab [] (0, 8, 11, 15) [] rfl (fun z hz => absurd hz List.not_mem_nil) rfl (by decide) lkc_L_15 cst_ISE h1 h2 h3 hw hS1 hls ?_
    refine sx_astore_n C dL_play_11 2 rfl [(2, .ref q9), (0, .ref (b + 0)), (1, .ref bo)] (by decide) rfl 12 rfl ?_
    refine sx_iconst C dL_play_12 1 (by decide) 13 rfl ?_
    exact sx_iret C dL_play_13 hr (Nat.le_of_ble_eq_true rfl) (Nat.le_of_ble_eq_true rfl) ⟨_, rfl, hx⟩
set_option maxRecDepth 100000 in
set_option maxHeartbeats 4000000 in
theorem c_L_notes {l : Launch} {D : va_G} {G : sx_G} {b bo : Nat} (hf : l.stackTraces = false) (hbo : b + 129 ≤ bo) {f : sx_F} {o : Nat → Int64} {x1 : Int32} {x2 : Int32} {QL : Int32 → sx_F → (Nat → Int64) → Prop} (h : P_L_notes f o x1 x2 QL) : sx_MetW l D G b 129 lyX bo yL_notes cL_notes 5 [(0, 10, 13, 21)] 9 155 2 12 [.ref (b + 0), .int x1, .int x2, .ref bo] (f, o) QL := by
  refine sx_enterW (own := RL) hf rfl rfl (Nat.le_of_ble_eq_true rfl) ?_
  intro p e s m args below meth c C hr htab hNC
  have hB : ∀ k, k < 129 → sx_AW b 129 bo s.heap.size (b + k) := fun k h => Or.inl ⟨by omega, by omega⟩
  have hA : sx_AW b 129 bo s.heap.size bo := Or.inr (Or.inl rfl)
  unfold P_L_notes at h
  refine sx_sub (lv' := [(0, .ref (b + 0)), (1, .int x1), (2, .int x2), (3, .ref bo)]) [0, 1, 2, 3] rfl ?_
  refine sx_aload_n C dL_notes_0 3 3 rfl rfl 1 rfl ?_
  refine sx_iconst C dL_notes_1 0 (by decide) 2 rfl ?_
  refine sx_aload_n C dL_notes_2 0 0 rfl rfl 3 rfl ?_
  refine sx_iload_n C dL_notes_3 1 1 rfl rfl 4 rfl ?_
  refine sx_iload_n C dL_notes_4 2 2 rfl rfl 5 rfl ?_
  refine sx_wcall C hB hbo (st := [.int 0, .ref bo]) dL_notes_5 (c_X6_notes hf h) mi_X6_notes lk_L_56 mn_X6_notes ms_X6_notes (by decide) lyX_0 rfl rfl rfl rfl ⟨⟨(Nat.le_of_ble_eq_true rfl), (Nat.le_of_ble_eq_true rfl)⟩, (Nat.le_of_ble_eq_true rfl), (Nat.le_of_ble_eq_true rfl)⟩ (Nat.le_of_ble_eq_true rfl) 8 rfl (fun v f1 h => ?_) (fun E ce q9 f1 H1 locs1 ls hx hw hS1 hls h1 h2 h3 => ?_)
  · obtain ⟨⟨r, rfl, h⟩, rfl⟩ := h
    refine sx_i2l C dL_notes_8 9 rfl ?_
    refine sx_last C hB hbo hA dL_notes_9 10 rfl (fun o1 eo => ?_)
    replace h := h o1 eo
    refine sx_goto C dL_notes_10 17 (by decide) ?_
    refine sx_iconst C dL_notes_17 0 (by decide) 18 rfl ?_
    exact sx_iret C dL_notes_18 hr (Nat.le_of_ble_eq_true rfl) (Nat.le_of_ble_eq_true rfl) ⟨_, rfl, h⟩
  · obtain ⟨hx, rfl⟩ := hx
    obtain ⟨rfl, hx⟩ := hx
    refine sx_catch C htab [] (0, 10, 13, 21) [] rfl (fun z hz => absurd hz List.not_mem_nil) rfl (by decide) lkc_L_21 cst_IOOBE h1 h2 h3 hw hS1 hls ?_
    refine sx_astore C dL_notes_13 [(4, .ref q9), (0, .ref (b + 0)), (1, .int x1), (2, .int x2), (3, .ref bo)] (by decide) rfl 15 rfl ?_
    refine sx_iconst C dL_notes_15 1 (by decide) 16 rfl ?_
    exact sx_iret C dL_notes_16 hr (Nat.le_of_ble_eq_true rfl) (Nat.le_of_ble_eq_true rfl) ⟨_, rfl, hx⟩
set_option maxRecDepth 100000 in
set_option maxHeartbeats 4000000 in
theorem c_L_noteAt {l : Launch} {D : va_G} {G : sx_G} {b bo : Nat} (hf : l.stackTraces = false) (hbo : b + 129 ≤ bo) {f : sx_F} {o : Nat → Int64} {x1 : Int32} {x2 : Int32} {x3 : Int32} {QL : Int32 → sx_F → (Nat → Int64) → Prop} (h : P_L_noteAt f o x1 x2 x3 QL) : sx_MetW l D G b 129 lyX bo yL_noteAt cL_noteAt 6 [(0, 12, 15, 21)] 9 157 3 18 [.ref (b + 0), .int x1, .int x2, .int x3, .ref bo] (f, o) QL := by
  refine sx_enterW (own := RL) hf rfl rfl (Nat.le_of_ble_eq_true rfl) ?_
  intro p e s m args below meth c C hr htab hNC
  have hB : ∀ k, k < 129 → sx_AW b 129 bo s.heap.size (b + k) := fun k h => Or.inl ⟨by omega, by omega⟩
  have hA : sx_AW b 129 bo s.heap.size bo := Or.inr (Or.inl rfl)
  unfold P_L_noteAt at h
  refine sx_sub (lv' := [(0, .ref (b + 0)), (1, .int x1), (2, .int x2), (3, .int x3), (4, .ref bo)]) [0, 1, 2, 3, 4] rfl ?_
  refine sx_aload C dL_noteAt_0 4 rfl 2 rfl ?_
  refine sx_iconst C dL_noteAt_2 0 (by decide) 3 rfl ?_
  refine sx_aload_n C dL_noteAt_3 0 0 rfl rfl 4 rfl ?_
  refine sx_iload_n C dL_noteAt_4 1 1 rfl rfl 5 rfl ?_
  refine sx_iload_n C dL_noteAt_5 2 2 rfl rfl 6 rfl ?_
  refine sx_iload_n C dL_noteAt_6 3 3 rfl rfl 7 rfl ?_
  refine sx_wcall C hB hbo (st := [.int 0, .ref bo]) dL_noteAt_7 (c_X6_noteAt hf h) mi_X6_noteAt lk_L_59 mn_X6_noteAt ms_X6_noteAt (by decide) lyX_0 rfl rfl rfl rfl ⟨⟨(Nat.le_of_ble_eq_true rfl), (Nat.le_of_ble_eq_true rfl)⟩, (Nat.le_of_ble_eq_true rfl), (Nat.le_of_ble_eq_true rfl)⟩ (Nat.le_of_ble_eq_true rfl) 10 rfl (fun v f1 h => ?_) (fun E ce q9 f1 H1 locs1 ls hx hw hS1 hls h1 h2 h3 => ?_)
  · obtain ⟨⟨r, rfl, h⟩, rfl⟩ := h
    refine sx_i2l C dL_noteAt_10 11 rfl ?_
    refine sx_last C hB hbo hA dL_noteAt_11 12 rfl (fun o1 eo => ?_)
    replace h := h o1 eo
    refine sx_goto C dL_noteAt_12 19 (by decide) ?_
    refine sx_iconst C dL_noteAt_19 0 (by decide) 20 rfl ?_
    exact sx_iret C dL_noteAt_20 hr (Nat.le_of_ble_eq_true rfl) (Nat.le_of_ble_eq_true rfl) ⟨_, rfl, h⟩
  · obtain ⟨hx, rfl⟩ := hx
    obtain ⟨rfl, hx⟩ := hx
    refine sx_catch C htab [] (0, 12, 15, 21) [] rfl (fun z hz => absurd hz List.not_mem_nil) rfl (by decide) lkc_L_21 cst_IOOBE h1 h2 h3 hw hS1 hls ?_
    refine sx_astore C dL_noteAt_15 [(5, .ref q9), (0, .ref (b + 0)), (1, .int x1), (2, .int x2), (3, .int x3), (4, .ref bo)] (by decide) rfl 17 rfl ?_
    refine sx_iconst C dL_noteAt_17 1 (by decide) 18 rfl ?_
    exact sx_iret C dL_noteAt_18 hr (Nat.le_of_ble_eq_true rfl) (Nat.le_of_ble_eq_true rfl) ⟨_, rfl, hx⟩
set_option maxRecDepth 100000 in
set_option maxHeartbeats 4000000 in
theorem c_L_version {l : Launch} {D : va_G} {G : sx_G} {b bo : Nat} (hf : l.stackTraces = false) (hbo : b + 129 ≤ bo) {f : sx_F} {o : Nat → Int64} {x1 : Int32} {x2 : Int32} {QL : Int32 → sx_F → (Nat → Int64) → Prop} (h : P_L_version f o x1 x2 QL) : sx_MetW l D G b 129 lyX bo yL_version cL_version 5 [(0, 10, 13, 21)] 9 155 2 12 [.ref (b + 0), .int x1, .int x2, .ref bo] (f, o) QL := by
  refine sx_enterW (own := RL) hf rfl rfl (Nat.le_of_ble_eq_true rfl) ?_
  intro p e s m args below meth c C hr htab hNC
  have hB : ∀ k, k < 129 → sx_AW b 129 bo s.heap.size (b + k) := fun k h => Or.inl ⟨by omega, by omega⟩
  have hA : sx_AW b 129 bo s.heap.size bo := Or.inr (Or.inl rfl)
  unfold P_L_version at h
  refine sx_sub (lv' := [(0, .ref (b + 0)), (1, .int x1), (2, .int x2), (3, .ref bo)]) [0, 1, 2, 3] rfl ?_
  refine sx_aload_n C dL_version_0 3 3 rfl rfl 1 rfl ?_
  refine sx_iconst C dL_version_1 0 (by decide) 2 rfl ?_
  refine sx_aload_n C dL_version_2 0 0 rfl rfl 3 rfl ?_
  refine sx_iload_n C dL_version_3 1 1 rfl rfl 4 rfl ?_
  refine sx_iload_n C dL_version_4 2 2 rfl rfl 5 rfl ?_
  refine sx_wcall C hB hbo (st := [.int 0, .ref bo]) dL_version_5 (c_X6_version hf h) mi_X6_version lk_L_62 mn_X6_version ms_X6_version (by decide) lyX_0 rfl rfl rfl rfl ⟨⟨(Nat.le_of_ble_eq_true rfl), (Nat.le_of_ble_eq_true rfl)⟩, (Nat.le_of_ble_eq_true rfl), (Nat.le_of_ble_eq_true rfl)⟩ (Nat.le_of_ble_eq_true rfl) 8 rfl (fun v f1 h => ?_) (fun E ce q9 f1 H1 locs1 ls hx hw hS1 hls h1 h2 h3 => ?_)
  · obtain ⟨⟨r, rfl, h⟩, rfl⟩ := h
    refine sx_i2l C dL_version_8 9 rfl ?_
    refine sx_last C hB hbo hA dL_version_9 10 rfl (fun o1 eo => ?_)
    replace h := h o1 eo
    refine sx_goto C dL_version_10 17 (by decide) ?_
    refine sx_iconst C dL_version_17 0 (by decide) 18 rfl ?_
    exact sx_iret C dL_version_18 hr (Nat.le_of_ble_eq_true rfl) (Nat.le_of_ble_eq_true rfl) ⟨_, rfl, h⟩
  · obtain ⟨hx, rfl⟩ := hx
    obtain ⟨rfl, hx⟩ := hx
    refine sx_catch C htab [] (0, 10, 13, 21) [] rfl (fun z hz => absurd hz List.not_mem_nil) rfl (by decide) lkc_L_21 cst_IOOBE h1 h2 h3 hw hS1 hls ?_
    refine sx_astore C dL_version_13 [(4, .ref q9), (0, .ref (b + 0)), (1, .int x1), (2, .int x2), (3, .ref bo)] (by decide) rfl 15 rfl ?_
    refine sx_iconst C dL_version_15 1 (by decide) 16 rfl ?_
    exact sx_iret C dL_version_16 hr (Nat.le_of_ble_eq_true rfl) (Nat.le_of_ble_eq_true rfl) ⟨_, rfl, hx⟩
set_option maxRecDepth 100000 in
set_option maxHeartbeats 4000000 in
theorem c_L_time {l : Launch} {D : va_G} {G : sx_G} {b bo : Nat} (hf : l.stackTraces = false) (hbo : b + 129 ≤ bo) {f : sx_F} {o : Nat → Int64} {x1 : Int32} {QL : Int32 → sx_F → (Nat → Int64) → Prop} (h : P_L_time f o x1 QL) : sx_MetW l D G b 129 lyX bo yL_time cL_time 4 [(0, 9, 12, 21)] 8 132 1 6 [.ref (b + 0), .int x1, .ref bo] (f, o) QL := by
  refine sx_enterW (own := RL) hf rfl rfl (Nat.le_of_ble_eq_true rfl) ?_
  intro p e s m args below meth c C hr htab hNC
  have hB : ∀ k, k < 129 → sx_AW b 129 bo s.heap.size (b + k) := fun k h => Or.inl ⟨by omega, by omega⟩
  have hA : sx_AW b 129 bo s.heap.size bo := Or.inr (Or.inl rfl)
  unfold P_L_time at h
  refine sx_sub (lv' := [(0, .ref (b + 0)), (1, .int x1), (2, .ref bo)]) [0, 1, 2] rfl ?_
  refine sx_aload_n C dL_time_0 2 2 rfl rfl 1 rfl ?_
  refine sx_iconst C dL_time_1 0 (by decide) 2 rfl ?_
  refine sx_aload_n C dL_time_2 0 0 rfl rfl 3 rfl ?_
  refine sx_iload_n C dL_time_3 1 1 rfl rfl 4 rfl ?_
  refine sx_wcall C hB hbo (st := [.int 0, .ref bo]) dL_time_4 (c_X6_time hf h) mi_X6_time lk_L_65 mn_X6_time ms_X6_time (by decide) lyX_0 rfl rfl rfl rfl ⟨⟨(Nat.le_of_ble_eq_true rfl), (Nat.le_of_ble_eq_true rfl)⟩, (Nat.le_of_ble_eq_true rfl), (Nat.le_of_ble_eq_true rfl)⟩ (Nat.le_of_ble_eq_true rfl) 7 rfl (fun v f1 h => ?_) (fun E ce q9 f1 H1 locs1 ls hx hw hS1 hls h1 h2 h3 => ?_)
  · obtain ⟨⟨r, rfl, h⟩, rfl⟩ := h
    refine sx_i2l C dL_time_7 8 rfl ?_
    refine sx_last C hB hbo hA dL_time_8 9 rfl (fun o1 eo => ?_)
    replace h := h o1 eo
    refine sx_goto C dL_time_9 15 (by decide) ?_
    refine sx_iconst C dL_time_15 0 (by decide) 16 rfl ?_
    exact sx_iret C dL_time_16 hr (Nat.le_of_ble_eq_true rfl) (Nat.le_of_ble_eq_true rfl) ⟨_, rfl, h⟩
  · obtain ⟨hx, rfl⟩ := hx
    obtain ⟨rfl, hx⟩ := hx
    refine sx_catch C htab [] (0, 9, 12, 21) [] rfl (fun z hz => absurd hz List.not_mem_nil) rfl (by decide) lkc_L_21 cst_IOOBE h1 h2 h3 hw hS1 hls ?_
    refine sx_astore_n C dL_time_12 3 rfl [(3, .ref q9), (0, .ref (b + 0)), (1, .int x1), (2, .ref bo)] (by decide) rfl 13 rfl ?_
    refine sx_iconst C dL_time_13 1 (by decide) 14 rfl ?_
    exact sx_iret C dL_time_14 hr (Nat.le_of_ble_eq_true rfl) (Nat.le_of_ble_eq_true rfl) ⟨_, rfl, hx⟩
set_option maxRecDepth 100000 in
set_option maxHeartbeats 4000000 in
theorem c_L_timeByBars {l : Launch} {D : va_G} {G : sx_G} {b bo : Nat} (hf : l.stackTraces = false) (hbo : b + 129 ≤ bo) {f : sx_F} {o : Nat → Int64} {x1 : Int32} {QL : Int32 → sx_F → (Nat → Int64) → Prop} (h : P_L_timeByBars f o x1 QL) : sx_MetW l D G b 129 lyX bo yL_timeByBars cL_timeByBars 4 [(0, 9, 12, 21)] 8 132 1 6 [.ref (b + 0), .int x1, .ref bo] (f, o) QL := by
  refine sx_enterW (own := RL) hf rfl rfl (Nat.le_of_ble_eq_true rfl) ?_
  intro p e s m args below meth c C hr htab hNC
  have hB : ∀ k, k < 129 → sx_AW b 129 bo s.heap.size (b + k) := fun k h => Or.inl ⟨by omega, by omega⟩
  have hA : sx_AW b 129 bo s.heap.size bo := Or.inr (Or.inl rfl)
  unfold P_L_timeByBars at h
  refine sx_sub (lv' := [(0, .ref (b + 0)), (1, .int x1), (2, .ref bo)]) [0, 1, 2] rfl ?_
  refine sx_aload_n C dL_timeByBars_0 2 2 rfl rfl 1 rfl ?_
  refine sx_iconst C dL_timeByBars_1 0 (by decide) 2 rfl ?_
  refine sx_aload_n C dL_timeByBars_2 0 0 rfl rfl 3 rfl ?_
  refine sx_iload_n C dL_timeByBars_3 1 1 rfl rfl 4 rfl ?_
  refine sx_wcall C hB hbo (st := [.int 0, .ref bo]) dL_timeByBars_4 (c_X6_timeByBars hf h) mi_X6_timeByBars lk_L_68 mn_X6_timeByBars ms_X6_timeByBars (by decide) lyX_0 rfl rfl rfl rfl ⟨⟨(Nat.le_of_ble_eq_true rfl), (Nat.le_of_ble_eq_true rfl)⟩, (Nat.le_of_ble_eq_true rfl), (Nat.le_of_ble_eq_true rfl)⟩ (Nat.le_of_ble_eq_true rfl) 7 rfl (fun v f1 h => ?_) (fun E ce q9 f1 H1 locs1 ls hx hw hS1 hls h1 h2 h3 => ?_)
  · obtain ⟨⟨r, rfl, h⟩, rfl⟩ := h
    refine sx_i2l C dL_timeByBars_7 8 rfl ?_
    refine sx_last C hB hbo hA dL_timeByBars_8 9 rfl (fun o1 eo => ?_)
    replace h := h o1 eo
    refine sx_goto C dL_timeByBars_9 15 (by decide) ?_
    refine sx_iconst C dL_timeByBars_15 0 (by decide) 16 rfl ?_
    exact sx_iret C dL_timeByBars_16 hr (Nat.le_of_ble_eq_true rfl) (Nat.le_of_ble_eq_true rfl) ⟨_, rfl, h⟩
  · obtain ⟨hx, rfl⟩ := hx
    obtain ⟨rfl, hx⟩ := hx
    refine sx_catch C htab [] (0, 9, 12, 21) [] rfl (fun z hz => absurd hz List.not_mem_nil) rfl (by decide) lkc_L_21 cst_IOOBE h1 h2 h3 hw hS1 hls ?_
    refine sx_astore_n C dL_timeByBars_12 3 rfl [(3, .ref q9), (0, .ref (b + 0)), (1, .int x1), (2, .ref bo)] (by decide) rfl 13 rfl ?_
    refine sx_iconst C dL_timeByBars_13 1 (by decide) 14 rfl ?_
    exact sx_iret C dL_timeByBars_14 hr (Nat.le_of_ble_eq_true rfl) (Nat.le_of_ble_eq_true rfl) ⟨_, rfl, hx⟩
set_option maxRecDepth 100000 in
set_option maxHeartbeats 4000000 in
theorem c_L_items {l : Launch} {D : va_G} {G : sx_G} {b bo : Nat} (hf : l.stackTraces = false) (hbo : b + 129 ≤ bo) {f : sx_F} {o : Nat → Int64} {x1 : Int32} {QL : Int32 → sx_F → (Nat → Int64) → Prop} (h : P_L_items f o x1 QL) : sx_MetW l D G b 129 lyX bo yL_items cL_items 4 [(0, 9, 12, 21)] 9 173 1 6 [.ref (b + 0), .int x1, .ref bo] (f, o) QL := by
  refine sx_enterW (own := RL) hf rfl rfl (Nat.le_of_ble_eq_true rfl) ?_
  intro p e s m args below meth c C hr htab hNC
  have hB : ∀ k, k < 129 → sx_AW b 129 bo s.heap.size (b + k) := fun k h => Or.inl ⟨by omega, by omega⟩
  have hA : sx_AW b 129 bo s.heap.size bo := Or.inr (Or.inl rfl)
  unfold P_L_items at h
  refine sx_sub (lv' := [(0, .ref (b + 0)), (1, .int x1), (2, .ref bo)]) [0, 1, 2] rfl ?_
  refine sx_aload_n C dL_items_0 2 2 rfl rfl 1 rfl ?_
  refine sx_iconst C dL_items_1 0 (by decide) 2 rfl ?_
  refine sx_aload_n C dL_items_2 0 0 rfl rfl 3 rfl ?_
  refine sx_iload_n C dL_items_3 1 1 rfl rfl 4 rfl ?_
  refine sx_wcall C hB hbo (st := [.int 0, .ref bo]) dL_items_4 (c_X6_items hf h) mi_X6_items lk_L_71 mn_X6_items ms_X6_items (by decide) lyX_0 rfl rfl rfl rfl ⟨⟨(Nat.le_of_ble_eq_true rfl), (Nat.le_of_ble_eq_true rfl)⟩, (Nat.le_of_ble_eq_true rfl), (Nat.le_of_ble_eq_true rfl)⟩ (Nat.le_of_ble_eq_true rfl) 7 rfl (fun v f1 h => ?_) (fun E ce q9 f1 H1 locs1 ls hx hw hS1 hls h1 h2 h3 => ?_)
  · obtain ⟨r, rfl, h⟩ := h
    refine sx_i2l C dL_items_7 8 rfl ?_
    refine sx_last C hB hbo hA dL_items_8 9 rfl (fun o1 eo => ?_)
    replace h := h o1 eo
    refine sx_goto C dL_items_9 15 (by decide) ?_
    refine sx_iconst C dL_items_15 0 (by decide) 16 rfl ?_
    exact sx_iret C dL_items_16 hr (Nat.le_of_ble_eq_true rfl) (Nat.le_of_ble_eq_true rfl) ⟨_, rfl, h⟩
  · skip
    obtain ⟨rfl, hx⟩ := hx
    refine sx_catch C htab [] (0, 9, 12, 21) [] rfl (fun z hz => absurd hz List.not_mem_nil) rfl (by decide) lkc_L_21 cst_IOOBE h1 h2 h3 hw hS1 hls ?_
    refine sx_astore_n C dL_items_12 3 rfl [(3, .ref q9), (0, .ref (b + 0)), (1, .int x1), (2, .ref bo)] (by decide) rfl 13 rfl ?_
    refine sx_iconst C dL_items_13 1 (by decide) 14 rfl ?_
    exact sx_iret C dL_items_14 hr (Nat.le_of_ble_eq_true rfl) (Nat.le_of_ble_eq_true rfl) ⟨_, rfl, hx⟩
set_option maxRecDepth 100000 in
set_option maxHeartbeats 4000000 in
theorem c_L_itemOf {l : Launch} {D : va_G} {G : sx_G} {b bo : Nat} (hf : l.stackTraces = false) (hbo : b + 129 ≤ bo) {f : sx_F} {o : Nat → Int64} {x1 : Int32} {x2 : Int32} {QL : Int32 → sx_F → (Nat → Int64) → Prop} (h : P_L_itemOf f o x1 x2 QL) : sx_MetW l D G b 129 lyX bo yL_itemOf cL_itemOf 5 [(0, 10, 13, 21)] 9 174 2 12 [.ref (b + 0), .int x1, .int x2, .ref bo] (f, o) QL := by
  refine sx_enterW (own := RL) hf rfl rfl (Nat.le_of_ble_eq_true rfl) ?_
  intro p e s m args below meth c C hr htab hNC
  have hB : ∀ k, k < 129 → sx_AW b 129 bo s.heap.size (b + k) := fun k h => Or.inl ⟨by omega, by omega⟩
  have hA : sx_AW b 129 bo s.heap.size bo := Or.inr (Or.inl rfl)
  unfold P_L_itemOf at h
  refine sx_sub (lv' := [(0, .ref (b + 0)), (1, .int x1), (2, .int x2), (3, .ref bo)]) [0, 1, 2, 3] rfl ?_
  refine sx_aload_n C dL_itemOf_0 3 3 rfl rfl 1 rfl ?_
  refine sx_iconst C dL_itemOf_1 0 (by decide) 2 rfl ?_
  refine sx_aload_n C dL_itemOf_2 0 0 rfl rfl 3 rfl ?_
  refine sx_iload_n C dL_itemOf_3 1 1 rfl rfl 4 rfl ?_
  refine sx_iload_n C dL_itemOf_4 2 2 rfl rfl 5 rfl ?_
  refine sx_wcall C hB hbo (st := [.int 0, .ref bo]) dL_itemOf_5 (c_X6_itemOf hf h) mi_X6_itemOf lk_L_74 mn_X6_itemOf ms_X6_itemOf (by decide) lyX_0 rfl rfl rfl rfl ⟨⟨(Nat.le_of_ble_eq_true rfl), (Nat.le_of_ble_eq_true rfl)⟩, (Nat.le_of_ble_eq_true rfl), (Nat.le_of_ble_eq_true rfl)⟩ (Nat.le_of_ble_eq_true rfl) 8 rfl (fun v f1 h => ?_) (fun E ce q9 f1 H1 locs1 ls hx hw hS1 hls h1 h2 h3 => ?_)
  · obtain ⟨r, rfl, h⟩ := h
    refine sx_i2l C dL_itemOf_8 9 rfl ?_
    refine sx_last C hB hbo hA dL_itemOf_9 10 rfl (fun o1 eo => ?_)
    replace h := h o1 eo
    refine sx_goto C dL_itemOf_10 17 (by decide) ?_
    refine sx_iconst C dL_itemOf_17 0 (by decide) 18 rfl ?_
    exact sx_iret C dL_itemOf_18 hr (Nat.le_of_ble_eq_true rfl) (Nat.le_of_ble_eq_true rfl) ⟨_, rfl, h⟩
  · skip
    obtain ⟨rfl, hx⟩ := hx
    refine sx_catch C htab [] (0, 10, 13, 21) [] rfl (fun z hz => absurd hz List.not_mem_nil) rfl (by decide) lkc_L_21 cst_IOOBE h1 h2 h3 hw hS1 hls ?_
    refine sx_astore C dL_itemOf_13 [(4, .ref q9), (0, .ref (b + 0)), (1, .int x1), (2, .int x2), (3, .ref bo)] (by decide) rfl 15 rfl ?_
    refine sx_iconst C dL_itemOf_15 1 (by decide) 16 rfl ?_
    exact sx_iret C dL_itemOf_16 hr (Nat.le_of_ble_eq_true rfl) (Nat.le_of_ble_eq_true rfl) ⟨_, rfl, hx⟩
set_option maxRecDepth 100000 in
set_option maxHeartbeats 4000000 in
theorem c_L_cue {l : Launch} {D : va_G} {G : sx_G} {b bo : Nat} (hf : l.stackTraces = false) (hbo : b + 129 ≤ bo) {f : sx_F} {o : Nat → Int64} {x1 : Int32} {x2 : Int32} {QL : Int32 → sx_F → (Nat → Int64) → Prop} (h : P_L_cue f o x1 x2 QL) : sx_MetW l D G b 129 lyX bo yL_cue cL_cue 5 [(0, 10, 13, 21)] 9 155 2 12 [.ref (b + 0), .int x1, .int x2, .ref bo] (f, o) QL := by
  refine sx_enterW (own := RL) hf rfl rfl (Nat.le_of_ble_eq_true rfl) ?_
  intro p e s m args below meth c C hr htab hNC
  have hB : ∀ k, k < 129 → sx_AW b 129 bo s.heap.size (b + k) := fun k h => Or.inl ⟨by omega, by omega⟩
  have hA : sx_AW b 129 bo s.heap.size bo := Or.inr (Or.inl rfl)
  unfold P_L_cue at h
  refine sx_sub (lv' := [(0, .ref (b + 0)), (1, .int x1), (2, .int x2), (3, .ref bo)]) [0, 1, 2, 3] rfl ?_
  refine sx_aload_n C dL_cue_0 3 3 rfl rfl 1 rfl ?_
  refine sx_iconst C dL_cue_1 0 (by decide) 2 rfl ?_
  refine sx_aload_n C dL_cue_2 0 0 rfl rfl 3 rfl ?_
  refine sx_iload_n C dL_cue_3 1 1 rfl rfl 4 rfl ?_
  refine sx_iload_n C dL_cue_4 2 2 rfl rfl 5 rfl ?_
  refine sx_wcall C hB hbo (st := [.int 0, .ref bo]) dL_cue_5 (c_X6_cue hf h) mi_X6_cue lk_L_77 mn_X6_cue ms_X6_cue (by decide) lyX_0 rfl rfl rfl rfl ⟨⟨(Nat.le_of_ble_eq_true rfl), (Nat.le_of_ble_eq_true rfl)⟩, (Nat.le_of_ble_eq_true rfl), (Nat.le_of_ble_eq_true rfl)⟩ (Nat.le_of_ble_eq_true rfl) 8 rfl (fun v f1 h => ?_) (fun E ce q9 f1 H1 locs1 ls hx hw hS1 hls h1 h2 h3 => ?_)
  · obtain ⟨⟨r, rfl, h⟩, rfl⟩ := h
    refine sx_i2l C dL_cue_8 9 rfl ?_
    refine sx_last C hB hbo hA dL_cue_9 10 rfl (fun o1 eo => ?_)
    replace h := h o1 eo
    refine sx_goto C dL_cue_10 17 (by decide) ?_
    refine sx_iconst C dL_cue_17 0 (by decide) 18 rfl ?_
    exact sx_iret C dL_cue_18 hr (Nat.le_of_ble_eq_true rfl) (Nat.le_of_ble_eq_true rfl) ⟨_, rfl, h⟩
  · obtain ⟨hx, rfl⟩ := hx
    obtain ⟨rfl, hx⟩ := hx
    refine sx_catch C htab [] (0, 10, 13, 21) [] rfl (fun z hz => absurd hz List.not_mem_nil) rfl (by decide) lkc_L_21 cst_IOOBE h1 h2 h3 hw hS1 hls ?_
    refine sx_astore C dL_cue_13 [(4, .ref q9), (0, .ref (b + 0)), (1, .int x1), (2, .int x2), (3, .ref bo)] (by decide) rfl 15 rfl ?_
    refine sx_iconst C dL_cue_15 1 (by decide) 16 rfl ?_
    exact sx_iret C dL_cue_16 hr (Nat.le_of_ble_eq_true rfl) (Nat.le_of_ble_eq_true rfl) ⟨_, rfl, hx⟩
set_option maxRecDepth 100000 in
set_option maxHeartbeats 4000000 in
theorem c_L_width {l : Launch} {D : va_G} {G : sx_G} {b bo : Nat} (hf : l.stackTraces = false) (hbo : b + 129 ≤ bo) {f : sx_F} {o : Nat → Int64} {x1 : Int32} {x2 : Int32} {QL : Int32 → sx_F → (Nat → Int64) → Prop} (h : P_L_width f o x1 x2 QL) : sx_MetW l D G b 129 lyX bo yL_width cL_width 5 [(0, 10, 13, 21)] 9 174 2 12 [.ref (b + 0), .int x1, .int x2, .ref bo] (f, o) QL := by
  refine sx_enterW (own := RL) hf rfl rfl (Nat.le_of_ble_eq_true rfl) ?_
  intro p e s m args below meth c C hr htab hNC
  have hB : ∀ k, k < 129 → sx_AW b 129 bo s.heap.size (b + k) := fun k h => Or.inl ⟨by omega, by omega⟩
  have hA : sx_AW b 129 bo s.heap.size bo := Or.inr (Or.inl rfl)
  unfold P_L_width at h
  refine sx_sub (lv' := [(0, .ref (b + 0)), (1, .int x1), (2, .int x2), (3, .ref bo)]) [0, 1, 2, 3] rfl ?_
  refine sx_aload_n C dL_width_0 3 3 rfl rfl 1 rfl ?_
  refine sx_iconst C dL_width_1 0 (by decide) 2 rfl ?_
  refine sx_aload_n C dL_width_2 0 0 rfl rfl 3 rfl ?_
  refine sx_iload_n C dL_width_3 1 1 rfl rfl 4 rfl ?_
  refine sx_iload_n C dL_width_4 2 2 rfl rfl 5 rfl ?_
  refine sx_wcall C hB hbo (st := [.int 0, .ref bo]) dL_width_5 (c_X6_width hf h) mi_X6_width lk_L_80 mn_X6_width ms_X6_width (by decide) lyX_0 rfl rfl rfl rfl ⟨⟨(Nat.le_of_ble_eq_true rfl), (Nat.le_of_ble_eq_true rfl)⟩, (Nat.le_of_ble_eq_true rfl), (Nat.le_of_ble_eq_true rfl)⟩ (Nat.le_of_ble_eq_true rfl) 8 rfl (fun v f1 h => ?_) (fun E ce q9 f1 H1 locs1 ls hx hw hS1 hls h1 h2 h3 => ?_)
  · obtain ⟨r, rfl, h⟩ := h
    refine sx_i2l C dL_width_8 9 rfl ?_
    refine sx_last C hB hbo hA dL_width_9 10 rfl (fun o1 eo => ?_)
    replace h := h o1 eo
    refine sx_goto C dL_width_10 17 (by decide) ?_
    refine sx_iconst C dL_width_17 0 (by decide) 18 rfl ?_
    exact sx_iret C dL_width_18 hr (Nat.le_of_ble_eq_true rfl) (Nat.le_of_ble_eq_true rfl) ⟨_, rfl, h⟩
  · skip
    obtain ⟨rfl, hx⟩ := hx
    refine sx_catch C htab [] (0, 10, 13, 21) [] rfl (fun z hz => absurd hz List.not_mem_nil) rfl (by decide) lkc_L_21 cst_IOOBE h1 h2 h3 hw hS1 hls ?_
    refine sx_astore C dL_width_13 [(4, .ref q9), (0, .ref (b + 0)), (1, .int x1), (2, .int x2), (3, .ref bo)] (by decide) rfl 15 rfl ?_
    refine sx_iconst C dL_width_15 1 (by decide) 16 rfl ?_
    exact sx_iret C dL_width_16 hr (Nat.le_of_ble_eq_true rfl) (Nat.le_of_ble_eq_true rfl) ⟨_, rfl, hx⟩
set_option maxRecDepth 100000 in
set_option maxHeartbeats 4000000 in
theorem c_L_lines {l : Launch} {D : va_G} {G : sx_G} {b bo : Nat} (hf : l.stackTraces = false) (hbo : b + 129 ≤ bo) {f : sx_F} {o : Nat → Int64} {x1 : Int32} {QL : Int32 → sx_F → (Nat → Int64) → Prop} (h : P_L_lines f o x1 QL) : sx_MetW l D G b 129 lyX bo yL_lines cL_lines 4 [(0, 9, 12, 21)] 9 173 1 6 [.ref (b + 0), .int x1, .ref bo] (f, o) QL := by
  refine sx_enterW (own := RL) hf rfl rfl (Nat.le_of_ble_eq_true rfl) ?_
  intro p e s m args below meth c C hr htab hNC
  have hB : ∀ k, k < 129 → sx_AW b 129 bo s.heap.size (b + k) := fun k h => Or.inl ⟨by omega, by omega⟩
  have hA : sx_AW b 129 bo s.heap.size bo := Or.inr (Or.inl rfl)
  unfold P_L_lines at h
  refine sx_sub (lv' := [(0, .ref (b + 0)), (1, .int x1), (2, .ref bo)]) [0, 1, 2] rfl ?_
  refine sx_aload_n C dL_lines_0 2 2 rfl rfl 1 rfl ?_
  refine sx_iconst C dL_lines_1 0 (by decide) 2 rfl ?_
  refine sx_aload_n C dL_lines_2 0 0 rfl rfl 3 rfl ?_
  refine sx_iload_n C dL_lines_3 1 1 rfl rfl 4 rfl ?_
  refine sx_wcall C hB hbo (st := [.int 0, .ref bo]) dL_lines_4 (c_X6_lines hf h) mi_X6_lines lk_L_83 mn_X6_lines ms_X6_lines (by decide) lyX_0 rfl rfl rfl rfl ⟨⟨(Nat.le_of_ble_eq_true rfl), (Nat.le_of_ble_eq_true rfl)⟩, (Nat.le_of_ble_eq_true rfl), (Nat.le_of_ble_eq_true rfl)⟩ (Nat.le_of_ble_eq_true rfl) 7 rfl (fun v f1 h => ?_) (fun E ce q9 f1 H1 locs1 ls hx hw hS1 hls h1 h2 h3 => ?_)
  · obtain ⟨r, rfl, h⟩ := h
    refine sx_i2l C dL_lines_7 8 rfl ?_
    refine sx_last C hB hbo hA dL_lines_8 9 rfl (fun o1 eo => ?_)
    replace h := h o1 eo
    refine sx_goto C dL_lines_9 15 (by decide) ?_
    refine sx_iconst C dL_lines_15 0 (by decide) 16 rfl ?_
    exact sx_iret C dL_lines_16 hr (Nat.le_of_ble_eq_true rfl) (Nat.le_of_ble_eq_true rfl) ⟨_, rfl, h⟩
  · skip
    obtain ⟨rfl, hx⟩ := hx
    refine sx_catch C htab [] (0, 9, 12, 21) [] rfl (fun z hz => absurd hz List.not_mem_nil) rfl (by decide) lkc_L_21 cst_IOOBE h1 h2 h3 hw hS1 hls ?_
    refine sx_astore_n C dL_lines_12 3 rfl [(3, .ref q9), (0, .ref (b + 0)), (1, .int x1), (2, .ref bo)] (by decide) rfl 13 rfl ?_
    refine sx_iconst C dL_lines_13 1 (by decide) 14 rfl ?_
    exact sx_iret C dL_lines_14 hr (Nat.le_of_ble_eq_true rfl) (Nat.le_of_ble_eq_true rfl) ⟨_, rfl, hx⟩
set_option maxRecDepth 100000 in
set_option maxHeartbeats 4000000 in
theorem c_L_lineOf {l : Launch} {D : va_G} {G : sx_G} {b bo : Nat} (hf : l.stackTraces = false) (hbo : b + 129 ≤ bo) {f : sx_F} {o : Nat → Int64} {x1 : Int32} {x2 : Int32} {QL : Int32 → sx_F → (Nat → Int64) → Prop} (h : P_L_lineOf f o x1 x2 QL) : sx_MetW l D G b 129 lyX bo yL_lineOf cL_lineOf 5 [(0, 10, 13, 21)] 9 174 2 12 [.ref (b + 0), .int x1, .int x2, .ref bo] (f, o) QL := by
  refine sx_enterW (own := RL) hf rfl rfl (Nat.le_of_ble_eq_true rfl) ?_
  intro p e s m args below meth c C hr htab hNC
  have hB : ∀ k, k < 129 → sx_AW b 129 bo s.heap.size (b + k) := fun k h => Or.inl ⟨by omega, by omega⟩
  have hA : sx_AW b 129 bo s.heap.size bo := Or.inr (Or.inl rfl)
  unfold P_L_lineOf at h
  refine sx_sub (lv' := [(0, .ref (b + 0)), (1, .int x1), (2, .int x2), (3, .ref bo)]) [0, 1, 2, 3] rfl ?_
  refine sx_aload_n C dL_lineOf_0 3 3 rfl rfl 1 rfl ?_
  refine sx_iconst C dL_lineOf_1 0 (by decide) 2 rfl ?_
  refine sx_aload_n C dL_lineOf_2 0 0 rfl rfl 3 rfl ?_
  refine sx_iload_n C dL_lineOf_3 1 1 rfl rfl 4 rfl ?_
  refine sx_iload_n C dL_lineOf_4 2 2 rfl rfl 5 rfl ?_
  refine sx_wcall C hB hbo (st := [.int 0, .ref bo]) dL_lineOf_5 (c_X6_lineOf hf h) mi_X6_lineOf lk_L_86 mn_X6_lineOf ms_X6_lineOf (by decide) lyX_0 rfl rfl rfl rfl ⟨⟨(Nat.le_of_ble_eq_true rfl), (Nat.le_of_ble_eq_true rfl)⟩, (Nat.le_of_ble_eq_true rfl), (Nat.le_of_ble_eq_true rfl)⟩ (Nat.le_of_ble_eq_true rfl) 8 rfl (fun v f1 h => ?_) (fun E ce q9 f1 H1 locs1 ls hx hw hS1 hls h1 h2 h3 => ?_)
  · obtain ⟨r, rfl, h⟩ := h
    refine sx_i2l C dL_lineOf_8 9 rfl ?_
    refine sx_last C hB hbo hA dL_lineOf_9 10 rfl (fun o1 eo => ?_)
    replace h := h o1 eo
    refine sx_goto C dL_lineOf_10 17 (by decide) ?_
    refine sx_iconst C dL_lineOf_17 0 (by decide) 18 rfl ?_
    exact sx_iret C dL_lineOf_18 hr (Nat.le_of_ble_eq_true rfl) (Nat.le_of_ble_eq_true rfl) ⟨_, rfl, h⟩
  · skip
    obtain ⟨rfl, hx⟩ := hx
    refine sx_catch C htab [] (0, 10, 13, 21) [] rfl (fun z hz => absurd hz List.not_mem_nil) rfl (by decide) lkc_L_21 cst_IOOBE h1 h2 h3 hw hS1 hls ?_
    refine sx_astore C dL_lineOf_13 [(4, .ref q9), (0, .ref (b + 0)), (1, .int x1), (2, .int x2), (3, .ref bo)] (by decide) rfl 15 rfl ?_
    refine sx_iconst C dL_lineOf_15 1 (by decide) 16 rfl ?_
    exact sx_iret C dL_lineOf_16 hr (Nat.le_of_ble_eq_true rfl) (Nat.le_of_ble_eq_true rfl) ⟨_, rfl, hx⟩
set_option maxRecDepth 100000 in
set_option maxHeartbeats 4000000 in
theorem c_L_cost {l : Launch} {D : va_G} {G : sx_G} {b bo : Nat} (hf : l.stackTraces = false) (hbo : b + 129 ≤ bo) {f : sx_F} {o : Nat → Int64} {x1 : Int32} {QL : Int32 → sx_F → (Nat → Int64) → Prop} (h : P_L_cost f o x1 QL) : sx_MetW l D G b 129 lyX bo yL_cost cL_cost 4 [(0, 9, 12, 21)] 9 173 1 6 [.ref (b + 0), .int x1, .ref bo] (f, o) QL := by
  refine sx_enterW (own := RL) hf rfl rfl (Nat.le_of_ble_eq_true rfl) ?_
  intro p e s m args below meth c C hr htab hNC
  have hB : ∀ k, k < 129 → sx_AW b 129 bo s.heap.size (b + k) := fun k h => Or.inl ⟨by omega, by omega⟩
  have hA : sx_AW b 129 bo s.heap.size bo := Or.inr (Or.inl rfl)
  unfold P_L_cost at h
  refine sx_sub (lv' := [(0, .ref (b + 0)), (1, .int x1), (2, .ref bo)]) [0, 1, 2] rfl ?_
  refine sx_aload_n C dL_cost_0 2 2 rfl rfl 1 rfl ?_
  refine sx_iconst C dL_cost_1 0 (by decide) 2 rfl ?_
  refine sx_aload_n C dL_cost_2 0 0 rfl rfl 3 rfl ?_
  refine sx_iload_n C dL_cost_3 1 1 rfl rfl 4 rfl ?_
  refine sx_wcall C hB hbo (st := [.int 0, .ref bo]) dL_cost_4 (c_X6_cost hf h) mi_X6_cost lk_L_89 mn_X6_cost ms_X6_cost (by decide) lyX_0 rfl rfl rfl rfl ⟨⟨(Nat.le_of_ble_eq_true rfl), (Nat.le_of_ble_eq_true rfl)⟩, (Nat.le_of_ble_eq_true rfl), (Nat.le_of_ble_eq_true rfl)⟩ (Nat.le_of_ble_eq_true rfl) 7 rfl (fun v f1 h => ?_) (fun E ce q9 f1 H1 locs1 ls hx hw hS1 hls h1 h2 h3 => ?_)
  · obtain ⟨r, rfl, h⟩ := h
    refine sx_i2l C dL_cost_7 8 rfl ?_
    refine sx_last C hB hbo hA dL_cost_8 9 rfl (fun o1 eo => ?_)
    replace h := h o1 eo
    refine sx_goto C dL_cost_9 15 (by decide) ?_
    refine sx_iconst C dL_cost_15 0 (by decide) 16 rfl ?_
    exact sx_iret C dL_cost_16 hr (Nat.le_of_ble_eq_true rfl) (Nat.le_of_ble_eq_true rfl) ⟨_, rfl, h⟩
  · skip
    obtain ⟨rfl, hx⟩ := hx
    refine sx_catch C htab [] (0, 9, 12, 21) [] rfl (fun z hz => absurd hz List.not_mem_nil) rfl (by decide) lkc_L_21 cst_IOOBE h1 h2 h3 hw hS1 hls ?_
    refine sx_astore_n C dL_cost_12 3 rfl [(3, .ref q9), (0, .ref (b + 0)), (1, .int x1), (2, .ref bo)] (by decide) rfl 13 rfl ?_
    refine sx_iconst C dL_cost_13 1 (by decide) 14 rfl ?_
    exact sx_iret C dL_cost_14 hr (Nat.le_of_ble_eq_true rfl) (Nat.le_of_ble_eq_true rfl) ⟨_, rfl, hx⟩
set_option maxRecDepth 100000 in
set_option maxHeartbeats 4000000 in
theorem c_L_costByAll {l : Launch} {D : va_G} {G : sx_G} {b bo : Nat} (hf : l.stackTraces = false) (hbo : b + 129 ≤ bo) {f : sx_F} {o : Nat → Int64} {x1 : Int32} {QL : Int32 → sx_F → (Nat → Int64) → Prop} (h : P_L_costByAll f o x1 QL) : sx_MetW l D G b 129 lyX bo yL_costByAll cL_costByAll 4 [(0, 9, 12, 21)] 20 504 1 6 [.ref (b + 0), .int x1, .ref bo] (f, o) QL := by
  refine sx_enterW (own := RL) hf rfl rfl (Nat.le_of_ble_eq_true rfl) ?_
  intro p e s m args below meth c C hr htab hNC
  have hB : ∀ k, k < 129 → sx_AW b 129 bo s.heap.size (b + k) := fun k h => Or.inl ⟨by omega, by omega⟩
  have hA : sx_AW b 129 bo s.heap.size bo := Or.inr (Or.inl rfl)
  unfold P_L_costByAll at h
  refine sx_sub (lv' := [(0, .ref (b + 0)), (1, .int x1), (2, .ref bo)]) [0, 1, 2] rfl ?_
  refine sx_aload_n C dL_costByAll_0 2 2 rfl rfl 1 rfl ?_
  refine sx_iconst C dL_costByAll_1 0 (by decide) 2 rfl ?_
  refine sx_aload_n C dL_costByAll_2 0 0 rfl rfl 3 rfl ?_
  refine sx_iload_n C dL_costByAll_3 1 1 rfl rfl 4 rfl ?_
  refine sx_wcall C hB hbo (st := [.int 0, .ref bo]) dL_costByAll_4 (c_X6_costByAll hf h) mi_X6_costByAll lk_L_92 mn_X6_costByAll ms_X6_costByAll (by decide) lyX_0 rfl rfl rfl rfl ⟨⟨(Nat.le_of_ble_eq_true rfl), (Nat.le_of_ble_eq_true rfl)⟩, (Nat.le_of_ble_eq_true rfl), (Nat.le_of_ble_eq_true rfl)⟩ (Nat.le_of_ble_eq_true rfl) 7 rfl (fun v f1 h => ?_) (fun E ce q9 f1 H1 locs1 ls hx hw hS1 hls h1 h2 h3 => ?_)
  · obtain ⟨r, rfl, h⟩ := h
    refine sx_i2l C dL_costByAll_7 8 rfl ?_
    refine sx_last C hB hbo hA dL_costByAll_8 9 rfl (fun o1 eo => ?_)
    replace h := h o1 eo
    refine sx_goto C dL_costByAll_9 15 (by decide) ?_
    refine sx_iconst C dL_costByAll_15 0 (by decide) 16 rfl ?_
    exact sx_iret C dL_costByAll_16 hr (Nat.le_of_ble_eq_true rfl) (Nat.le_of_ble_eq_true rfl) ⟨_, rfl, h⟩
  · skip
    obtain ⟨rfl, hx⟩ := hx
    refine sx_catch C htab [] (0, 9, 12, 21) [] rfl (fun z hz => absurd hz List.not_mem_nil) rfl (by decide) lkc_L_21 cst_IOOBE h1 h2 h3 hw hS1 hls ?_
    refine sx_astore_n C dL_costByAll_12 3 rfl [(3, .ref q9), (0, .ref (b + 0)), (1, .int x1), (2, .ref bo)] (by decide) rfl 13 rfl ?_
    refine sx_iconst C dL_costByAll_13 1 (by decide) 14 rfl ?_
    exact sx_iret C dL_costByAll_14 hr (Nat.le_of_ble_eq_true rfl) (Nat.le_of_ble_eq_true rfl) ⟨_, rfl, hx⟩
set_option maxRecDepth 100000 in
set_option maxHeartbeats 4000000 in
theorem c_L_turns {l : Launch} {D : va_G} {G : sx_G} {b bo : Nat} (hf : l.stackTraces = false) (hbo : b + 129 ≤ bo) {f : sx_F} {o : Nat → Int64} {x1 : Int32} {QL : Int32 → sx_F → (Nat → Int64) → Prop} (h : P_L_turns f o x1 QL) : sx_MetW l D G b 129 lyX bo yL_turns cL_turns 4 [(0, 9, 12, 21)] 9 173 1 6 [.ref (b + 0), .int x1, .ref bo] (f, o) QL := by
  refine sx_enterW (own := RL) hf rfl rfl (Nat.le_of_ble_eq_true rfl) ?_
  intro p e s m args below meth c C hr htab hNC
  have hB : ∀ k, k < 129 → sx_AW b 129 bo s.heap.size (b + k) := fun k h => Or.inl ⟨by omega, by omega⟩
  have hA : sx_AW b 129 bo s.heap.size bo := Or.inr (Or.inl rfl)
  unfold P_L_turns at h
  refine sx_sub (lv' := [(0, .ref (b + 0)), (1, .int x1), (2, .ref bo)]) [0, 1, 2] rfl ?_
  refine sx_aload_n C dL_turns_0 2 2 rfl rfl 1 rfl ?_
  refine sx_iconst C dL_turns_1 0 (by decide) 2 rfl ?_
  refine sx_aload_n C dL_turns_2 0 0 rfl rfl 3 rfl ?_
  refine sx_iload_n C dL_turns_3 1 1 rfl rfl 4 rfl ?_
  refine sx_wcall C hB hbo (st := [.int 0, .ref bo]) dL_turns_4 (c_X6_turns hf h) mi_X6_turns lk_L_95 mn_X6_turns ms_X6_turns (by decide) lyX_0 rfl rfl rfl rfl ⟨⟨(Nat.le_of_ble_eq_true rfl), (Nat.le_of_ble_eq_true rfl)⟩, (Nat.le_of_ble_eq_true rfl), (Nat.le_of_ble_eq_true rfl)⟩ (Nat.le_of_ble_eq_true rfl) 7 rfl (fun v f1 h => ?_) (fun E ce q9 f1 H1 locs1 ls hx hw hS1 hls h1 h2 h3 => ?_)
  · obtain ⟨r, rfl, h⟩ := h
    refine sx_i2l C dL_turns_7 8 rfl ?_
    refine sx_last C hB hbo hA dL_turns_8 9 rfl (fun o1 eo => ?_)
    replace h := h o1 eo
    refine sx_goto C dL_turns_9 15 (by decide) ?_
    refine sx_iconst C dL_turns_15 0 (by decide) 16 rfl ?_
    exact sx_iret C dL_turns_16 hr (Nat.le_of_ble_eq_true rfl) (Nat.le_of_ble_eq_true rfl) ⟨_, rfl, h⟩
  · skip
    obtain ⟨rfl, hx⟩ := hx
    refine sx_catch C htab [] (0, 9, 12, 21) [] rfl (fun z hz => absurd hz List.not_mem_nil) rfl (by decide) lkc_L_21 cst_IOOBE h1 h2 h3 hw hS1 hls ?_
    refine sx_astore_n C dL_turns_12 3 rfl [(3, .ref q9), (0, .ref (b + 0)), (1, .int x1), (2, .ref bo)] (by decide) rfl 13 rfl ?_
    refine sx_iconst C dL_turns_13 1 (by decide) 14 rfl ?_
    exact sx_iret C dL_turns_14 hr (Nat.le_of_ble_eq_true rfl) (Nat.le_of_ble_eq_true rfl) ⟨_, rfl, hx⟩
set_option maxRecDepth 100000 in
set_option maxHeartbeats 4000000 in
theorem c_L_place {l : Launch} {D : va_G} {G : sx_G} {b bo : Nat} (hf : l.stackTraces = false) (hbo : b + 129 ≤ bo) {f : sx_F} {o : Nat → Int64} {x1 : Int32} {x2 : Int32} {x3 : Int32} {QL : Int32 → sx_F → (Nat → Int64) → Prop} (h : P_L_place f o x1 x2 x3 QL) : sx_MetW l D G b 129 lyX bo yL_place cL_place 6 [(0, 12, 15, 21)] 9 176 3 18 [.ref (b + 0), .int x1, .int x2, .int x3, .ref bo] (f, o) QL := by
  refine sx_enterW (own := RL) hf rfl rfl (Nat.le_of_ble_eq_true rfl) ?_
  intro p e s m args below meth c C hr htab hNC
  have hB : ∀ k, k < 129 → sx_AW b 129 bo s.heap.size (b + k) := fun k h => Or.inl ⟨by omega, by omega⟩
  have hA : sx_AW b 129 bo s.heap.size bo := Or.inr (Or.inl rfl)
  unfold P_L_place at h
  refine sx_sub (lv' := [(0, .ref (b + 0)), (1, .int x1), (2, .int x2), (3, .int x3), (4, .ref bo)]) [0, 1, 2, 3, 4] rfl ?_
  refine sx_aload C dL_place_0 4 rfl 2 rfl ?_
  refine sx_iconst C dL_place_2 0 (by decide) 3 rfl ?_
  refine sx_aload_n C dL_place_3 0 0 rfl rfl 4 rfl ?_
  refine sx_iload_n C dL_place_4 1 1 rfl rfl 5 rfl ?_
  refine sx_iload_n C dL_place_5 2 2 rfl rfl 6 rfl ?_
  refine sx_iload_n C dL_place_6 3 3 rfl rfl 7 rfl ?_
  refine sx_wcall C hB hbo (st := [.int 0, .ref bo]) dL_place_7 (c_X6_place hf h) mi_X6_place lk_L_98 mn_X6_place ms_X6_place (by decide) lyX_0 rfl rfl rfl rfl ⟨⟨(Nat.le_of_ble_eq_true rfl), (Nat.le_of_ble_eq_true rfl)⟩, (Nat.le_of_ble_eq_true rfl), (Nat.le_of_ble_eq_true rfl)⟩ (Nat.le_of_ble_eq_true rfl) 10 rfl (fun v f1 h => ?_) (fun E ce q9 f1 H1 locs1 ls hx hw hS1 hls h1 h2 h3 => ?_)
  · obtain ⟨r, rfl, h⟩ := h
    refine sx_i2l C dL_place_10 11 rfl ?_
    refine sx_last C hB hbo hA dL_place_11 12 rfl (fun o1 eo => ?_)
    replace h := h o1 eo
    refine sx_goto C dL_place_12 19 (by decide) ?_
    refine sx_iconst C dL_place_19 0 (by decide) 20 rfl ?_
    exact sx_iret C dL_place_20 hr (Nat.le_of_ble_eq_true rfl) (Nat.le_of_ble_eq_true rfl) ⟨_, rfl, h⟩
  · skip
    obtain ⟨rfl, hx⟩ := hx
    refine sx_catch C htab [] (0, 12, 15, 21) [] rfl (fun z hz => absurd hz List.not_mem_nil) rfl (by decide) lkc_L_21 cst_IOOBE h1 h2 h3 hw hS1 hls ?_
    refine sx_astore C dL_place_15 [(5, .ref q9), (0, .ref (b + 0)), (1, .int x1), (2, .int x2), (3, .int x3), (4, .ref bo)] (by decide) rfl 17 rfl ?_
    refine sx_iconst C dL_place_17 1 (by decide) 18 rfl ?_
    exact sx_iret C dL_place_18 hr (Nat.le_of_ble_eq_true rfl) (Nat.le_of_ble_eq_true rfl) ⟨_, rfl, hx⟩
set_option maxRecDepth 100000 in
set_option maxHeartbeats 4000000 in
theorem c_L_deskOf {l : Launch} {D : va_G} {G : sx_G} {b bo : Nat} (hf : l.stackTraces = false) (hbo : b + 129 ≤ bo) {f : sx_F} {o : Nat → Int64} {x1 : Int32} {QL : Int32 → sx_F → (Nat → Int64) → Prop} (h : P_L_deskOf f o x1 QL) : sx_MetW l D G b 129 lyX bo yL_deskOf cL_deskOf 4 [(0, 9, 12, 21)] 8 132 1 6 [.ref (b + 0), .int x1, .ref bo] (f, o) QL := by
  refine sx_enterW (own := RL) hf rfl rfl (Nat.le_of_ble_eq_true rfl) ?_
  intro p e s m args below meth c C hr htab hNC
  have hB : ∀ k, k < 129 → sx_AW b 129 bo s.heap.size (b + k) := fun k h => Or.inl ⟨by omega, by omega⟩
  have hA : sx_AW b 129 bo s.heap.size bo := Or.inr (Or.inl rfl)
  unfold P_L_deskOf at h
  refine sx_sub (lv' := [(0, .ref (b + 0)), (1, .int x1), (2, .ref bo)]) [0, 1, 2] rfl ?_
  refine sx_aload_n C dL_deskOf_0 2 2 rfl rfl 1 rfl ?_
  refine sx_iconst C dL_deskOf_1 0 (by decide) 2 rfl ?_
  refine sx_aload_n C dL_deskOf_2 0 0 rfl rfl 3 rfl ?_
  refine sx_iload_n C dL_deskOf_3 1 1 rfl rfl 4 rfl ?_
  refine sx_wcall C hB hbo (st := [.int 0, .ref bo]) dL_deskOf_4 (c_X6_deskOf hf h) mi_X6_deskOf lk_L_101 mn_X6_deskOf ms_X6_deskOf (by decide) lyX_0 rfl rfl rfl rfl ⟨⟨(Nat.le_of_ble_eq_true rfl), (Nat.le_of_ble_eq_true rfl)⟩, (Nat.le_of_ble_eq_true rfl), (Nat.le_of_ble_eq_true rfl)⟩ (Nat.le_of_ble_eq_true rfl) 7 rfl (fun v f1 h => ?_) (fun E ce q9 f1 H1 locs1 ls hx hw hS1 hls h1 h2 h3 => ?_)
  · obtain ⟨⟨r, rfl, h⟩, rfl⟩ := h
    refine sx_i2l C dL_deskOf_7 8 rfl ?_
    refine sx_last C hB hbo hA dL_deskOf_8 9 rfl (fun o1 eo => ?_)
    replace h := h o1 eo
    refine sx_goto C dL_deskOf_9 15 (by decide) ?_
    refine sx_iconst C dL_deskOf_15 0 (by decide) 16 rfl ?_
    exact sx_iret C dL_deskOf_16 hr (Nat.le_of_ble_eq_true rfl) (Nat.le_of_ble_eq_true rfl) ⟨_, rfl, h⟩
  · obtain ⟨hx, rfl⟩ := hx
    obtain ⟨rfl, hx⟩ := hx
    refine sx_catch C htab [] (0, 9, 12, 21) [] rfl (fun z hz => absurd hz List.not_mem_nil) rfl (by decide) lkc_L_21 cst_IOOBE h1 h2 h3 hw hS1 hls ?_
    refine sx_astore_n C dL_deskOf_12 3 rfl [(3, .ref q9), (0, .ref (b + 0)), (1, .int x1), (2, .ref bo)] (by decide) rfl 13 rfl ?_
    refine sx_iconst C dL_deskOf_13 1 (by decide) 14 rfl ?_
    exact sx_iret C dL_deskOf_14 hr (Nat.le_of_ble_eq_true rfl) (Nat.le_of_ble_eq_true rfl) ⟨_, rfl, hx⟩
set_option maxRecDepth 100000 in
set_option maxHeartbeats 4000000 in
theorem c_L_has {l : Launch} {D : va_G} {G : sx_G} {b bo : Nat} (hf : l.stackTraces = false) (hbo : b + 129 ≤ bo) {f : sx_F} {o : Nat → Int64} {x1 : Int32} {x2 : Int32} {QL : Int32 → sx_F → (Nat → Int64) → Prop} (h : P_L_has f o x1 x2 QL) : sx_MetW l D G b 129 lyX bo yL_has cL_has 5 [(0, 10, 13, 21)] 8 133 2 12 [.ref (b + 0), .int x1, .int x2, .ref bo] (f, o) QL := by
  refine sx_enterW (own := RL) hf rfl rfl (Nat.le_of_ble_eq_true rfl) ?_
  intro p e s m args below meth c C hr htab hNC
  have hB : ∀ k, k < 129 → sx_AW b 129 bo s.heap.size (b + k) := fun k h => Or.inl ⟨by omega, by omega⟩
  have hA : sx_AW b 129 bo s.heap.size bo := Or.inr (Or.inl rfl)
  unfold P_L_has at h
  refine sx_sub (lv' := [(0, .ref (b + 0)), (1, .int x1), (2, .int x2), (3, .ref bo)]) [0, 1, 2, 3] rfl ?_
  refine sx_aload_n C dL_has_0 3 3 rfl rfl 1 rfl ?_
  refine sx_iconst C dL_has_1 0 (by decide) 2 rfl ?_
  refine sx_aload_n C dL_has_2 0 0 rfl rfl 3 rfl ?_
  refine sx_iload_n C dL_has_3 1 1 rfl rfl 4 rfl ?_
  refine sx_iload_n C dL_has_4 2 2 rfl rfl 5 rfl ?_
  refine sx_wcall C hB hbo (st := [.int 0, .ref bo]) dL_has_5 (c_X6_has hf h) mi_X6_has lk_L_104 mn_X6_has ms_X6_has (by decide) lyX_0 rfl rfl rfl rfl ⟨⟨(Nat.le_of_ble_eq_true rfl), (Nat.le_of_ble_eq_true rfl)⟩, (Nat.le_of_ble_eq_true rfl), (Nat.le_of_ble_eq_true rfl)⟩ (Nat.le_of_ble_eq_true rfl) 8 rfl (fun v f1 h => ?_) (fun E ce q9 f1 H1 locs1 ls hx hw hS1 hls h1 h2 h3 => ?_)
  · obtain ⟨⟨r, rfl, h⟩, rfl⟩ := h
    refine sx_i2l C dL_has_8 9 rfl ?_
    refine sx_last C hB hbo hA dL_has_9 10 rfl (fun o1 eo => ?_)
    replace h := h o1 eo
    refine sx_goto C dL_has_10 17 (by decide) ?_
    refine sx_iconst C dL_has_17 0 (by decide) 18 rfl ?_
    exact sx_iret C dL_has_18 hr (Nat.le_of_ble_eq_true rfl) (Nat.le_of_ble_eq_true rfl) ⟨_, rfl, h⟩
  · obtain ⟨hx, rfl⟩ := hx
    obtain ⟨rfl, hx⟩ := hx
    refine sx_catch C htab [] (0, 10, 13, 21) [] rfl (fun z hz => absurd hz List.not_mem_nil) rfl (by decide) lkc_L_21 cst_IOOBE h1 h2 h3 hw hS1 hls ?_
    refine sx_astore C dL_has_13 [(4, .ref q9), (0, .ref (b + 0)), (1, .int x1), (2, .int x2), (3, .ref bo)] (by decide) rfl 15 rfl ?_
    refine sx_iconst C dL_has_15 1 (by decide) 16 rfl ?_
    exact sx_iret C dL_has_16 hr (Nat.le_of_ble_eq_true rfl) (Nat.le_of_ble_eq_true rfl) ⟨_, rfl, hx⟩
set_option maxRecDepth 100000 in
set_option maxHeartbeats 4000000 in
theorem c_L_owed {l : Launch} {D : va_G} {G : sx_G} {b bo : Nat} (hf : l.stackTraces = false) (hbo : b + 129 ≤ bo) {f : sx_F} {o : Nat → Int64} {x1 : Int32} {QL : Int32 → sx_F → (Nat → Int64) → Prop} (h : P_L_owed f o x1 QL) : sx_MetW l D G b 129 lyX bo yL_owed cL_owed 4 [(0, 9, 12, 21)] 8 140 1 6 [.ref (b + 0), .int x1, .ref bo] (f, o) QL := by
  refine sx_enterW (own := RL) hf rfl rfl (Nat.le_of_ble_eq_true rfl) ?_
  intro p e s m args below meth c C hr htab hNC
  have hB : ∀ k, k < 129 → sx_AW b 129 bo s.heap.size (b + k) := fun k h => Or.inl ⟨by omega, by omega⟩
  have hA : sx_AW b 129 bo s.heap.size bo := Or.inr (Or.inl rfl)
  unfold P_L_owed at h
  refine sx_sub (lv' := [(0, .ref (b + 0)), (1, .int x1), (2, .ref bo)]) [0, 1, 2] rfl ?_
  refine sx_aload_n C dL_owed_0 2 2 rfl rfl 1 rfl ?_
  refine sx_iconst C dL_owed_1 0 (by decide) 2 rfl ?_
  refine sx_aload_n C dL_owed_2 0 0 rfl rfl 3 rfl ?_
  refine sx_iload_n C dL_owed_3 1 1 rfl rfl 4 rfl ?_
  refine sx_wcall C hB hbo (st := [.int 0, .ref bo]) dL_owed_4 (c_X6_owed hf h) mi_X6_owed lk_L_107 mn_X6_owed ms_X6_owed (by decide) lyX_0 rfl rfl rfl rfl ⟨⟨(Nat.le_of_ble_eq_true rfl), (Nat.le_of_ble_eq_true rfl)⟩, (Nat.le_of_ble_eq_true rfl), (Nat.le_of_ble_eq_true rfl)⟩ (Nat.le_of_ble_eq_true rfl) 7 rfl (fun v f1 h => ?_) (fun E ce q9 f1 H1 locs1 ls hx hw hS1 hls h1 h2 h3 => ?_)
  · obtain ⟨⟨r, rfl, h⟩, rfl⟩ := h
    refine sx_i2l C dL_owed_7 8 rfl ?_
    refine sx_last C hB hbo hA dL_owed_8 9 rfl (fun o1 eo => ?_)
    replace h := h o1 eo
    refine sx_goto C dL_owed_9 15 (by decide) ?_
    refine sx_iconst C dL_owed_15 0 (by decide) 16 rfl ?_
    exact sx_iret C dL_owed_16 hr (Nat.le_of_ble_eq_true rfl) (Nat.le_of_ble_eq_true rfl) ⟨_, rfl, h⟩
  · obtain ⟨hx, rfl⟩ := hx
    obtain ⟨rfl, hx⟩ := hx
    refine sx_catch C htab [] (0, 9, 12, 21) [] rfl (fun z hz => absurd hz List.not_mem_nil) rfl (by decide) lkc_L_21 cst_IOOBE h1 h2 h3 hw hS1 hls ?_
    refine sx_astore_n C dL_owed_12 3 rfl [(3, .ref q9), (0, .ref (b + 0)), (1, .int x1), (2, .ref bo)] (by decide) rfl 13 rfl ?_
    refine sx_iconst C dL_owed_13 1 (by decide) 14 rfl ?_
    exact sx_iret C dL_owed_14 hr (Nat.le_of_ble_eq_true rfl) (Nat.le_of_ble_eq_true rfl) ⟨_, rfl, hx⟩
set_option maxRecDepth 100000 in
set_option maxHeartbeats 4000000 in
theorem c_L_markOf {l : Launch} {D : va_G} {G : sx_G} {b bo : Nat} (hf : l.stackTraces = false) (hbo : b + 129 ≤ bo) {f : sx_F} {o : Nat → Int64} {x1 : Int32} {x2 : Int32} {x3 : Int32} {QL : Int32 → sx_F → (Nat → Int64) → Prop} (h : P_L_markOf f o x1 x2 x3 QL) : sx_MetW l D G b 129 lyX bo yL_markOf cL_markOf 6 [(0, 12, 15, 21)] 9 156 3 18 [.ref (b + 0), .int x1, .int x2, .int x3, .ref bo] (f, o) QL := by
  refine sx_enterW (own := RL) hf rfl rfl (Nat.le_of_ble_eq_true rfl) ?_
  intro p e s m args below meth c C hr htab hNC
  have hB : ∀ k, k < 129 → sx_AW b 129 bo s.heap.size (b + k) := fun k h => Or.inl ⟨by omega, by omega⟩
  have hA : sx_AW b 129 bo s.heap.size bo := Or.inr (Or.inl rfl)
  unfold P_L_markOf at h
  refine sx_sub (lv' := [(0, .ref (b + 0)), (1, .int x1), (2, .int x2), (3, .int x3), (4, .ref bo)]) [0, 1, 2, 3, 4] rfl ?_
  refine sx_aload C dL_markOf_0 4 rfl 2 rfl ?_
  refine sx_iconst C dL_markOf_2 0 (by decide) 3 rfl ?_
  refine sx_aload_n C dL_markOf_3 0 0 rfl rfl 4 rfl ?_
  refine sx_iload_n C dL_markOf_4 1 1 rfl rfl 5 rfl ?_
  refine sx_iload_n C dL_markOf_5 2 2 rfl rfl 6 rfl ?_
  refine sx_iload_n C dL_markOf_6 3 3 rfl rfl 7 rfl ?_
  refine sx_wcall C hB hbo (st := [.int 0, .ref bo]) dL_markOf_7 (c_X6_markOf hf h) mi_X6_markOf lk_L_110 mn_X6_markOf ms_X6_markOf (by decide) lyX_0 rfl rfl rfl rfl ⟨⟨(Nat.le_of_ble_eq_true rfl), (Nat.le_of_ble_eq_true rfl)⟩, (Nat.le_of_ble_eq_true rfl), (Nat.le_of_ble_eq_true rfl)⟩ (Nat.le_of_ble_eq_true rfl) 10 rfl (fun v f1 h => ?_) (fun E ce q9 f1 H1 locs1 ls hx hw hS1 hls h1 h2 h3 => ?_)
  · obtain ⟨⟨r, rfl, h⟩, rfl⟩ := h
    refine sx_i2l C dL_markOf_10 11 rfl ?_
    refine sx_last C hB hbo hA dL_markOf_11 12 rfl (fun o1 eo => ?_)
    replace h := h o1 eo
    refine sx_goto C dL_markOf_12 19 (by decide) ?_
    refine sx_iconst C dL_markOf_19 0 (by decide) 20 rfl ?_
    exact sx_iret C dL_markOf_20 hr (Nat.le_of_ble_eq_true rfl) (Nat.le_of_ble_eq_true rfl) ⟨_, rfl, h⟩
  · obtain ⟨hx, rfl⟩ := hx
    obtain ⟨rfl, hx⟩ := hx
    refine sx_catch C htab [] (0, 12, 15, 21) [] rfl (fun z hz => absurd hz List.not_mem_nil) rfl (by decide) lkc_L_21 cst_IOOBE h1 h2 h3 hw hS1 hls ?_
    refine sx_astore C dL_markOf_15 [(5, .ref q9), (0, .ref (b + 0)), (1, .int x1), (2, .int x2), (3, .int x3), (4, .ref bo)] (by decide) rfl 17 rfl ?_
    refine sx_iconst C dL_markOf_17 1 (by decide) 18 rfl ?_
    exact sx_iret C dL_markOf_18 hr (Nat.le_of_ble_eq_true rfl) (Nat.le_of_ble_eq_true rfl) ⟨_, rfl, hx⟩
set_option maxRecDepth 100000 in
set_option maxHeartbeats 4000000 in
theorem c_L_oldMarks {l : Launch} {D : va_G} {G : sx_G} {b bo : Nat} (hf : l.stackTraces = false) (hbo : b + 129 ≤ bo) {f : sx_F} {o : Nat → Int64} {x1 : Int32} {QL : Int32 → sx_F → (Nat → Int64) → Prop} (h : P_L_oldMarks f o x1 QL) : sx_MetW l D G b 129 lyX bo yL_oldMarks cL_oldMarks 4 [(0, 9, 12, 21)] 8 132 1 6 [.ref (b + 0), .int x1, .ref bo] (f, o) QL := by
  refine sx_enterW (own := RL) hf rfl rfl (Nat.le_of_ble_eq_true rfl) ?_
  intro p e s m args below meth c C hr htab hNC
  have hB : ∀ k, k < 129 → sx_AW b 129 bo s.heap.size (b + k) := fun k h => Or.inl ⟨by omega, by omega⟩
  have hA : sx_AW b 129 bo s.heap.size bo := Or.inr (Or.inl rfl)
  unfold P_L_oldMarks at h
  refine sx_sub (lv' := [(0, .ref (b + 0)), (1, .int x1), (2, .ref bo)]) [0, 1, 2] rfl ?_
  refine sx_aload_n C dL_oldMarks_0 2 2 rfl rfl 1 rfl ?_
  refine sx_iconst C dL_oldMarks_1 0 (by decide) 2 rfl ?_
  refine sx_aload_n C dL_oldMarks_2 0 0 rfl rfl 3 rfl ?_
  refine sx_iload_n C dL_oldMarks_3 1 1 rfl rfl 4 rfl ?_
  refine sx_wcall C hB hbo (st := [.int 0, .ref bo]) dL_oldMarks_4 (c_X6_oldMarks hf h) mi_X6_oldMarks lk_L_113 mn_X6_oldMarks ms_X6_oldMarks (by decide) lyX_0 rfl rfl rfl rfl ⟨⟨(Nat.le_of_ble_eq_true rfl), (Nat.le_of_ble_eq_true rfl)⟩, (Nat.le_of_ble_eq_true rfl), (Nat.le_of_ble_eq_true rfl)⟩ (Nat.le_of_ble_eq_true rfl) 7 rfl (fun v f1 h => ?_) (fun E ce q9 f1 H1 locs1 ls hx hw hS1 hls h1 h2 h3 => ?_)
  · obtain ⟨⟨r, rfl, h⟩, rfl⟩ := h
    refine sx_i2l C dL_oldMarks_7 8 rfl ?_
    refine sx_last C hB hbo hA dL_oldMarks_8 9 rfl (fun o1 eo => ?_)
    replace h := h o1 eo
    refine sx_goto C dL_oldMarks_9 15 (by decide) ?_
    refine sx_iconst C dL_oldMarks_15 0 (by decide) 16 rfl ?_
    exact sx_iret C dL_oldMarks_16 hr (Nat.le_of_ble_eq_true rfl) (Nat.le_of_ble_eq_true rfl) ⟨_, rfl, h⟩
  · obtain ⟨hx, rfl⟩ := hx
    obtain ⟨rfl, hx⟩ := hx
    refine sx_catch C htab [] (0, 9, 12, 21) [] rfl (fun z hz => absurd hz List.not_mem_nil) rfl (by decide) lkc_L_21 cst_IOOBE h1 h2 h3 hw hS1 hls ?_
    refine sx_astore_n C dL_oldMarks_12 3 rfl [(3, .ref q9), (0, .ref (b + 0)), (1, .int x1), (2, .ref bo)] (by decide) rfl 13 rfl ?_
    refine sx_iconst C dL_oldMarks_13 1 (by decide) 14 rfl ?_
    exact sx_iret C dL_oldMarks_14 hr (Nat.le_of_ble_eq_true rfl) (Nat.le_of_ble_eq_true rfl) ⟨_, rfl, hx⟩
set_option maxRecDepth 100000 in
set_option maxHeartbeats 4000000 in
theorem c_L_clashes {l : Launch} {D : va_G} {G : sx_G} {b bo : Nat} (hf : l.stackTraces = false) (hbo : b + 129 ≤ bo) {f : sx_F} {o : Nat → Int64} {x1 : Int32} {QL : Int32 → sx_F → (Nat → Int64) → Prop} (h : P_L_clashes f o x1 QL) : sx_MetW l D G b 129 lyX bo yL_clashes cL_clashes 4 [(0, 9, 12, 21)] 8 134 1 6 [.ref (b + 0), .int x1, .ref bo] (f, o) QL := by
  refine sx_enterW (own := RL) hf rfl rfl (Nat.le_of_ble_eq_true rfl) ?_
  intro p e s m args below meth c C hr htab hNC
  have hB : ∀ k, k < 129 → sx_AW b 129 bo s.heap.size (b + k) := fun k h => Or.inl ⟨by omega, by omega⟩
  have hA : sx_AW b 129 bo s.heap.size bo := Or.inr (Or.inl rfl)
  unfold P_L_clashes at h
  refine sx_sub (lv' := [(0, .ref (b + 0)), (1, .int x1), (2, .ref bo)]) [0, 1, 2] rfl ?_
  refine sx_aload_n C dL_clashes_0 2 2 rfl rfl 1 rfl ?_
  refine sx_iconst C dL_clashes_1 0 (by decide) 2 rfl ?_
  refine sx_aload_n C dL_clashes_2 0 0 rfl rfl 3 rfl ?_
  refine sx_iload_n C dL_clashes_3 1 1 rfl rfl 4 rfl ?_
  refine sx_wcall C hB hbo (st := [.int 0, .ref bo]) dL_clashes_4 (c_X6_clashes hf h) mi_X6_clashes lk_L_116 mn_X6_clashes ms_X6_clashes (by decide) lyX_0 rfl rfl rfl rfl ⟨⟨(Nat.le_of_ble_eq_true rfl), (Nat.le_of_ble_eq_true rfl)⟩, (Nat.le_of_ble_eq_true rfl), (Nat.le_of_ble_eq_true rfl)⟩ (Nat.le_of_ble_eq_true rfl) 7 rfl (fun v f1 h => ?_) (fun E ce q9 f1 H1 locs1 ls hx hw hS1 hls h1 h2 h3 => ?_)
  · obtain ⟨⟨r, rfl, h⟩, rfl⟩ := h
    refine sx_i2l C dL_clashes_7 8 rfl ?_
    refine sx_last C hB hbo hA dL_clashes_8 9 rfl (fun o1 eo => ?_)
    replace h := h o1 eo
    refine sx_goto C dL_clashes_9 15 (by decide) ?_
    refine sx_iconst C dL_clashes_15 0 (by decide) 16 rfl ?_
    exact sx_iret C dL_clashes_16 hr (Nat.le_of_ble_eq_true rfl) (Nat.le_of_ble_eq_true rfl) ⟨_, rfl, h⟩
  · obtain ⟨hx, rfl⟩ := hx
    obtain ⟨rfl, hx⟩ := hx
    refine sx_catch C htab [] (0, 9, 12, 21) [] rfl (fun z hz => absurd hz List.not_mem_nil) rfl (by decide) lkc_L_21 cst_IOOBE h1 h2 h3 hw hS1 hls ?_
    refine sx_astore_n C dL_clashes_12 3 rfl [(3, .ref q9), (0, .ref (b + 0)), (1, .int x1), (2, .ref bo)] (by decide) rfl 13 rfl ?_
    refine sx_iconst C dL_clashes_13 1 (by decide) 14 rfl ?_
    exact sx_iret C dL_clashes_14 hr (Nat.le_of_ble_eq_true rfl) (Nat.le_of_ble_eq_true rfl) ⟨_, rfl, hx⟩
