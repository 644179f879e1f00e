set_option maxRecDepth 100000 in
set_option maxHeartbeats 8000000 in
theorem c_L_noted {l : Launch} {D : va_G} {G : sx_G} {b : Nat} {ad : Nat → Nat} {n : Nat} (hf : l.stackTraces = false) (ok : sl_ok b ad n) (hn : 8 ≤ n) {f a : sx_F} {o : sl_O} {x1 : Int32} {x2 : Int32} {x3 : Int32} {x4 : Int32} {Q : Int32 → sx_F → sx_F → sl_O → Prop} (h : P_L_noted f a o x1 x2 x3 x4 Q) : sl_MetH l D G b ad n yL_noted cL_noted 6 (some .int) [(0, 9, 10, 154)] 9 158 5 180 [.ref (b + 0), .int x1, .int x2, .int x3, .int x4] (f, a, o) (sl_qi Q) := by
  refine sl_enterH (own := RL) hf rfl rfl (Nat.le_of_ble_eq_true rfl) ?_
  intro p e s m args below meth c C hr htab
  have hB : ∀ k, k < 129 → sl_A b ad n s.heap.size (b + k) := fun k h => Or.inl ⟨Nat.le_add_right _ _, Nat.add_lt_add_left h _⟩
  have hA : ∀ j, j < n → sl_A b ad n s.heap.size (ad j) := fun j h => Or.inr (Or.inl ⟨j, h, rfl⟩)
  unfold P_L_noted at h
  refine sx_sub (lv' := [(0, .ref (b + 0)), (1, .int x1), (2, .int x2), (3, .int x3), (4, .int x4)]) [0, 1, 2, 3, 4] rfl ?_
  refine sx_aload_n C dL_noted_0 0 0 rfl rfl 1 rfl ?_
  refine sx_iload_n C dL_noted_1 1 1 rfl rfl 2 rfl ?_
  refine sx_iload_n C dL_noted_2 2 2 rfl rfl 3 rfl ?_
  refine sx_iload_n C dL_noted_3 3 3 rfl rfl 4 rfl ?_
  refine sx_iload C dL_noted_4 4 rfl 6 rfl ?_
  refine sl_tryX C ok hB (st := []) dL_noted_6 (c_X6_note hf h) mi_X6_note lk_L_150 mn_X6_note ms_X6_note (by decide) lyX_0 rfl rfl rfl rfl ⟨⟨(Nat.le_of_ble_eq_true rfl), (Nat.le_of_ble_eq_true rfl)⟩, (Nat.le_of_ble_eq_true rfl), (Nat.le_of_ble_eq_true rfl)⟩ (Nat.le_of_ble_eq_true rfl) 9 rfl (fun v g2 h => ?_) (fun E ce q9 g2 H1 locs1 ls hx hw hS1 hls h1 h2 h3 => ?_)
  · obtain ⟨r1, rfl, h⟩ := h
    exact sx_iret C dL_noted_9 hr (Nat.le_of_ble_eq_true rfl) (Nat.le_of_ble_eq_true rfl) ⟨_, rfl, h⟩
  · obtain ⟨rfl, hx⟩ := hx
    refine sl_catch C htab [] (0, 9, 10, 154) [] rfl (fun z hz => absurd hz List.not_mem_nil) rfl (by decide) lkc_L_154 cst_ISE h1 h2 h3 hw hS1 hls ?_
    replace h := hx
    refine sx_astore C dL_noted_10 [(5, .ref q9), (0, .ref (b + 0)), (1, .int x1), (2, .int x2), (3, .int x3), (4, .int x4)] (by decide) rfl 12 rfl ?_
    refine sx_bipush C dL_noted_12 (-7) (by decide) 14 rfl ?_
    exact sx_iret C dL_noted_14 hr (Nat.le_of_ble_eq_true rfl) (Nat.le_of_ble_eq_true rfl) ⟨_, rfl, h⟩
set_option maxRecDepth 100000 in
set_option maxHeartbeats 8000000 in
theorem c_L_lent {l : Launch} {D : va_G} {G : sx_G} {b : Nat} {ad : Nat → Nat} {n : Nat} (hf : l.stackTraces = false) (ok : sl_ok b ad n) (hn : 8 ≤ n) {f a : sx_F} {o : sl_O} {x1 : Int32} {x2 : Int32} {Q : Int32 → sx_F → sx_F → sl_O → Prop} (h : P_L_lent f a o x1 x2 Q) : sl_MetH l D G b ad n yL_lent cL_lent 4 (some .int) [(0, 6, 7, 154)] 8 134 3 108 [.ref (b + 0), .int x1, .int x2] (f, a, o) (sl_qi Q) := by
  refine sl_enterH (own := RL) hf rfl rfl (Nat.le_of_ble_eq_true rfl) ?_
  intro p e s m args below meth c C hr htab
  have hB : ∀ k, k < 129 → sl_A b ad n s.heap.size (b + k) := fun k h => Or.inl ⟨Nat.le_add_right _ _, Nat.add_lt_add_left h _⟩
  have hA : ∀ j, j < n → sl_A b ad n s.heap.size (ad j) := fun j h => Or.inr (Or.inl ⟨j, h, rfl⟩)
  unfold P_L_lent at h
  refine sx_sub (lv' := [(0, .ref (b + 0)), (1, .int x1), (2, .int x2)]) [0, 1, 2] rfl ?_
  refine sx_aload_n C dL_lent_0 0 0 rfl rfl 1 rfl ?_
  refine sx_iload_n C dL_lent_1 1 1 rfl rfl 2 rfl ?_
  refine sx_iload_n C dL_lent_2 2 2 rfl rfl 3 rfl ?_
  refine sl_tryX C ok hB (st := []) dL_lent_3 (c_X6_lend hf h) mi_X6_lend lk_L_156 mn_X6_lend ms_X6_lend (by decide) lyX_0 rfl rfl rfl rfl ⟨⟨(Nat.le_of_ble_eq_true rfl), (Nat.le_of_ble_eq_true rfl)⟩, (Nat.le_of_ble_eq_true rfl), (Nat.le_of_ble_eq_true rfl)⟩ (Nat.le_of_ble_eq_true rfl) 6 rfl (fun v g2 h => ?_) (fun E ce q9 g2 H1 locs1 ls hx hw hS1 hls h1 h2 h3 => ?_)
  · obtain ⟨r1, rfl, h⟩ := h
    exact sx_iret C dL_lent_6 hr (Nat.le_of_ble_eq_true rfl) (Nat.le_of_ble_eq_true rfl) ⟨_, rfl, h⟩
  · obtain ⟨rfl, hx⟩ := hx
    refine sl_catch C htab [] (0, 6, 7, 154) [] rfl (fun z hz => absurd hz List.not_mem_nil) rfl (by decide) lkc_L_154 cst_ISE h1 h2 h3 hw hS1 hls ?_
    replace h := hx
    refine sx_astore_n C dL_lent_7 3 rfl [(3, .ref q9), (0, .ref (b + 0)), (1, .int x1), (2, .int x2)] (by decide) rfl 8 rfl ?_
    refine sx_bipush C dL_lent_8 (-7) (by decide) 10 rfl ?_
    exact sx_iret C dL_lent_10 hr (Nat.le_of_ble_eq_true rfl) (Nat.le_of_ble_eq_true rfl) ⟨_, rfl, h⟩
set_option maxRecDepth 100000 in
set_option maxHeartbeats 8000000 in
theorem c_L_did {l : Launch} {D : va_G} {G : sx_G} {b : Nat} {ad : Nat → Nat} {n : Nat} (hf : l.stackTraces = false) (ok : sl_ok b ad n) (hn : 8 ≤ n) {f a : sx_F} {o : sl_O} {x1 : Int32} {x2 : Int32} {Q : Int32 → sx_F → sx_F → sl_O → Prop} (h : P_L_did f a o x1 x2 Q) : sl_MetH l D G b ad n yL_did cL_did 4 (some .int) [(0, 17, 18, 154)] 9 156 2 72 [.ref (b + 0), .int x1, .int x2] (f, a, o) (sl_qi Q) := by
  refine sl_enterH (own := RL) hf rfl rfl (Nat.le_of_ble_eq_true rfl) ?_
  intro p e s m args below meth c C hr htab
  have hB : ∀ k, k < 129 → sl_A b ad n s.heap.size (b + k) := fun k h => Or.inl ⟨Nat.le_add_right _ _, Nat.add_lt_add_left h _⟩
  have hA : ∀ j, j < n → sl_A b ad n s.heap.size (ad j) := fun j h => Or.inr (Or.inl ⟨j, h, rfl⟩)
  unfold P_L_did at h
  refine sx_sub (lv' := [(0, .ref (b + 0)), (1, .int x1), (2, .int x2)]) [0, 1, 2] rfl ?_
  refine sx_iload_n C dL_did_0 1 1 rfl rfl 1 rfl ?_
  refine sx_if_ne C dL_did_1 12 4 (by decide) rfl (fun c1 => ?_) (fun c1 => ?_)
  · replace h := h.2 c1
    refine sx_aload_n C dL_did_12 0 0 rfl rfl 13 rfl ?_
    refine sx_iload_n C dL_did_13 2 2 rfl rfl 14 rfl ?_
    refine sl_tryX C ok hB (st := []) dL_did_14 (c_X6_paste hf h) mi_X6_paste lk_L_162 mn_X6_paste ms_X6_paste (by decide) lyX_0 rfl rfl rfl rfl ⟨⟨(Nat.le_of_ble_eq_true rfl), (Nat.le_of_ble_eq_true rfl)⟩, (Nat.le_of_ble_eq_true rfl), (Nat.le_of_ble_eq_true rfl)⟩ (Nat.le_of_ble_eq_true rfl) 17 rfl (fun v g3 h => ?_) (fun E ce q9 g3 H1 locs1 ls hx hw hS1 hls h1 h2 h3 => ?_)
    · obtain ⟨r2, rfl, h⟩ := h
      exact sx_iret C dL_did_17 hr (Nat.le_of_ble_eq_true rfl) (Nat.le_of_ble_eq_true rfl) ⟨_, rfl, h⟩
    · obtain ⟨rfl, hx⟩ := hx
      refine sl_catch C htab [] (0, 17, 18, 154) [] rfl (fun z hz => absurd hz List.not_mem_nil) rfl (by decide) lkc_L_154 cst_ISE h1 h2 h3 hw hS1 hls ?_
      replace h := hx
      refine sx_astore_n C dL_did_18 3 rfl [(3, .ref q9), (0, .ref (b + 0)), (1, .int x1), (2, .int x2)] (by decide) rfl 19 rfl ?_
      refine sx_bipush C dL_did_19 (-7) (by decide) 21 rfl ?_
      exact sx_iret C dL_did_21 hr (Nat.le_of_ble_eq_true rfl) (Nat.le_of_ble_eq_true rfl) ⟨_, rfl, h⟩
  · replace h := h.1 c1
    refine sx_aload_n C dL_did_4 0 0 rfl rfl 5 rfl ?_
    refine sx_iload_n C dL_did_5 2 2 rfl rfl 6 rfl ?_
    refine sl_tryX C ok hB (st := []) dL_did_6 (c_X6_giveBack hf h) mi_X6_giveBack lk_L_159 mn_X6_giveBack ms_X6_giveBack (by decide) lyX_0 rfl rfl rfl rfl ⟨⟨(Nat.le_of_ble_eq_true rfl), (Nat.le_of_ble_eq_true rfl)⟩, (Nat.le_of_ble_eq_true rfl), (Nat.le_of_ble_eq_true rfl)⟩ (Nat.le_of_ble_eq_true rfl) 9 rfl (fun v g5 h => ?_) (fun E ce q9 g5 H1 locs1 ls hx hw hS1 hls h1 h2 h3 => ?_)
    · obtain ⟨r4, rfl, h⟩ := h
      refine sx_goto C dL_did_9 17 (by decide) ?_
      exact sx_iret C dL_did_17 hr (Nat.le_of_ble_eq_true rfl) (Nat.le_of_ble_eq_true rfl) ⟨_, rfl, h⟩
    · obtain ⟨rfl, hx⟩ := hx
      refine sl_catch C htab [] (0, 17, 18, 154) [] rfl (fun z hz => absurd hz List.not_mem_nil) rfl (by decide) lkc_L_154 cst_ISE h1 h2 h3 hw hS1 hls ?_
      replace h := hx
      refine sx_astore_n C dL_did_18 3 rfl [(3, .ref q9), (0, .ref (b + 0)), (1, .int x1), (2, .int x2)] (by decide) rfl 19 rfl ?_
      refine sx_bipush C dL_did_19 (-7) (by decide) 21 rfl ?_
      exact sx_iret C dL_did_21 hr (Nat.le_of_ble_eq_true rfl) (Nat.le_of_ble_eq_true rfl) ⟨_, rfl, h⟩
set_option maxRecDepth 100000 in
set_option maxHeartbeats 8000000 in
theorem c_L_marked {l : Launch} {D : va_G} {G : sx_G} {b : Nat} {ad : Nat → Nat} {n : Nat} (hf : l.stackTraces = false) (ok : sl_ok b ad n) (hn : 8 ≤ n) {f a : sx_F} {o : sl_O} {x1 : Int32} {x2 : Int32} {x3 : Int32} {Q : Int32 → sx_F → sx_F → sl_O → Prop} (h : P_L_marked f a o x1 x2 x3 Q) : sl_MetH l D G b ad n yL_marked cL_marked 5 (some .int) [(0, 7, 8, 154)] 9 158 6 216 [.ref (b + 0), .int x1, .int x2, .int x3] (f, a, o) (sl_qi Q) := by
  refine sl_enterH (own := RL) hf rfl rfl (Nat.le_of_ble_eq_true rfl) ?_
  intro p e s m args below meth c C hr htab
  have hB : ∀ k, k < 129 → sl_A b ad n s.heap.size (b + k) := fun k h => Or.inl ⟨Nat.le_add_right _ _, Nat.add_lt_add_left h _⟩
  have hA : ∀ j, j < n → sl_A b ad n s.heap.size (ad j) := fun j h => Or.inr (Or.inl ⟨j, h, rfl⟩)
  unfold P_L_marked at h
  refine sx_sub (lv' := [(0, .ref (b + 0)), (1, .int x1), (2, .int x2), (3, .int x3)]) [0, 1, 2, 3] rfl ?_
  refine sx_aload_n C dL_marked_0 0 0 rfl rfl 1 rfl ?_
  refine sx_iload_n C dL_marked_1 1 1 rfl rfl 2 rfl ?_
  refine sx_iload_n C dL_marked_2 2 2 rfl rfl 3 rfl ?_
  refine sx_iload_n C dL_marked_3 3 3 rfl rfl 4 rfl ?_
  refine sl_tryX C ok hB (st := []) dL_marked_4 (c_X6_mark hf h) mi_X6_mark lk_L_165 mn_X6_mark ms_X6_mark (by decide) lyX_0 rfl rfl rfl rfl ⟨⟨(Nat.le_of_ble_eq_true rfl), (Nat.le_of_ble_eq_true rfl)⟩, (Nat.le_of_ble_eq_true rfl), (Nat.le_of_ble_eq_true rfl)⟩ (Nat.le_of_ble_eq_true rfl) 7 rfl (fun v g2 h => ?_) (fun E ce q9 g2 H1 locs1 ls hx hw hS1 hls h1 h2 h3 => ?_)
  · obtain ⟨r1, rfl, h⟩ := h
    exact sx_iret C dL_marked_7 hr (Nat.le_of_ble_eq_true rfl) (Nat.le_of_ble_eq_true rfl) ⟨_, rfl, h⟩
  · obtain ⟨rfl, hx⟩ := hx
    refine sl_catch C htab [] (0, 7, 8, 154) [] rfl (fun z hz => absurd hz List.not_mem_nil) rfl (by decide) lkc_L_154 cst_ISE h1 h2 h3 hw hS1 hls ?_
    replace h := hx
    refine sx_astore C dL_marked_8 [(4, .ref q9), (0, .ref (b + 0)), (1, .int x1), (2, .int x2), (3, .int x3)] (by decide) rfl 10 rfl ?_
    refine sx_bipush C dL_marked_10 (-7) (by decide) 12 rfl ?_
    exact sx_iret C dL_marked_12 hr (Nat.le_of_ble_eq_true rfl) (Nat.le_of_ble_eq_true rfl) ⟨_, rfl, h⟩
set_option maxRecDepth 100000 in
set_option maxHeartbeats 8000000 in
theorem c_L_bowed {l : Launch} {D : va_G} {G : sx_G} {b : Nat} {ad : Nat → Nat} {n : Nat} (hf : l.stackTraces = false) (ok : sl_ok b ad n) (hn : 8 ≤ n) {f a : sx_F} {o : sl_O} {x1 : Int32} {x2 : Int32} {x3 : Int32} {x4 : Int32} {Q : Int32 → sx_F → sx_F → sl_O → Prop} (h : P_L_bowed f a o x1 x2 x3 x4 Q) : sl_MetH l D G b ad n yL_bowed cL_bowed 6 (some .int) [(0, 9, 10, 154)] 9 159 8 288 [.ref (b + 0), .int x1, .int x2, .int x3, .int x4] (f, a, o) (sl_qi Q) := by
  refine sl_enterH (own := RL) hf rfl rfl (Nat.le_of_ble_eq_true rfl) ?_
  intro p e s m args below meth c C hr htab
  have hB : ∀ k, k < 129 → sl_A b ad n s.heap.size (b + k) := fun k h => Or.inl ⟨Nat.le_add_right _ _, Nat.add_lt_add_left h _⟩
  have hA : ∀ j, j < n → sl_A b ad n s.heap.size (ad j) := fun j h => Or.inr (Or.inl ⟨j, h, rfl⟩)
  unfold P_L_bowed at h
  refine sx_sub (lv' := [(0, .ref (b + 0)), (1, .int x1), (2, .int x2), (3, .int x3), (4, .int x4)]) [0, 1, 2, 3, 4] rfl ?_
  refine sx_aload_n C dL_bowed_0 0 0 rfl rfl 1 rfl ?_
  refine sx_iload_n C dL_bowed_1 1 1 rfl rfl 2 rfl ?_
  refine sx_iload_n C dL_bowed_2 2 2 rfl rfl 3 rfl ?_
  refine sx_iload_n C dL_bowed_3 3 3 rfl rfl 4 rfl ?_
  refine sx_iload C dL_bowed_4 4 rfl 6 rfl ?_
  refine sl_tryX C ok hB (st := []) dL_bowed_6 (c_X6_bow hf h) mi_X6_bow lk_L_168 mn_X6_bow ms_X6_bow (by decide) lyX_0 rfl rfl rfl rfl ⟨⟨(Nat.le_of_ble_eq_true rfl), (Nat.le_of_ble_eq_true rfl)⟩, (Nat.le_of_ble_eq_true rfl), (Nat.le_of_ble_eq_true rfl)⟩ (Nat.le_of_ble_eq_true rfl) 9 rfl (fun v g2 h => ?_) (fun E ce q9 g2 H1 locs1 ls hx hw hS1 hls h1 h2 h3 => ?_)
  · obtain ⟨r1, rfl, h⟩ := h
    exact sx_iret C dL_bowed_9 hr (Nat.le_of_ble_eq_true rfl) (Nat.le_of_ble_eq_true rfl) ⟨_, rfl, h⟩
  · obtain ⟨rfl, hx⟩ := hx
    refine sl_catch C htab [] (0, 9, 10, 154) [] rfl (fun z hz => absurd hz List.not_mem_nil) rfl (by decide) lkc_L_154 cst_ISE h1 h2 h3 hw hS1 hls ?_
    replace h := hx
    refine sx_astore C dL_bowed_10 [(5, .ref q9), (0, .ref (b + 0)), (1, .int x1), (2, .int x2), (3, .int x3), (4, .int x4)] (by decide) rfl 12 rfl ?_
    refine sx_bipush C dL_bowed_12 (-7) (by decide) 14 rfl ?_
    exact sx_iret C dL_bowed_14 hr (Nat.le_of_ble_eq_true rfl) (Nat.le_of_ble_eq_true rfl) ⟨_, rfl, h⟩
set_option maxRecDepth 100000 in
set_option maxHeartbeats 8000000 in
theorem c_L_played {l : Launch} {D : va_G} {G : sx_G} {b : Nat} {ad : Nat → Nat} {n : Nat} (hf : l.stackTraces = false) (ok : sl_ok b ad n) (hn : 8 ≤ n) {f a : sx_F} {o : sl_O}  {Q : Int32 → sx_F → sx_F → sl_O → Prop} (h : P_L_played f a o  Q) : sl_MetH l D G b ad n yL_played cL_played 2 (some .int) [(0, 4, 5, 154)] 8 161 1 36 [.ref (b + 0)] (f, a, o) (sl_qi Q) := by
  refine sl_enterH (own := RL) hf rfl rfl (Nat.le_of_ble_eq_true rfl) ?_
  intro p e s m args below meth c C hr htab
  have hB : ∀ k, k < 129 → sl_A b ad n s.heap.size (b + k) := fun k h => Or.inl ⟨Nat.le_add_right _ _, Nat.add_lt_add_left h _⟩
  have hA : ∀ j, j < n → sl_A b ad n s.heap.size (ad j) := fun j h => Or.inr (Or.inl ⟨j, h, rfl⟩)
  unfold P_L_played at h
  refine sx_sub (lv' := [(0, .ref (b + 0))]) [0] rfl ?_
  refine sx_aload_n C dL_played_0 0 0 rfl rfl 1 rfl ?_
  refine sl_tryX C ok hB (st := []) dL_played_1 (c_X6_play hf h) mi_X6_play lk_L_171 mn_X6_play ms_X6_play (by decide) lyX_0 rfl rfl rfl rfl ⟨⟨(Nat.le_of_ble_eq_true rfl), (Nat.le_of_ble_eq_true rfl)⟩, (Nat.le_of_ble_eq_true rfl), (Nat.le_of_ble_eq_true rfl)⟩ (Nat.le_of_ble_eq_true rfl) 4 rfl (fun v g2 h => ?_) (fun E ce q9 g2 H1 locs1 ls hx hw hS1 hls h1 h2 h3 => ?_)
  · obtain ⟨r1, rfl, h⟩ := h
    exact sx_iret C dL_played_4 hr (Nat.le_of_ble_eq_true rfl) (Nat.le_of_ble_eq_true rfl) ⟨_, rfl, h⟩
  · obtain ⟨rfl, hx⟩ := hx
    refine sl_catch C htab [] (0, 4, 5, 154) [] rfl (fun z hz => absurd hz List.not_mem_nil) rfl (by decide) lkc_L_154 cst_ISE h1 h2 h3 hw hS1 hls ?_
    replace h := hx
    refine sx_astore_n C dL_played_5 1 rfl [(1, .ref q9), (0, .ref (b + 0))] (by decide) rfl 6 rfl ?_
    refine sx_bipush C dL_played_6 (-7) (by decide) 8 rfl ?_
    exact sx_iret C dL_played_8 hr (Nat.le_of_ble_eq_true rfl) (Nat.le_of_ble_eq_true rfl) ⟨_, rfl, h⟩
set_option maxRecDepth 100000 in
set_option maxHeartbeats 8000000 in
theorem c_L_isNoted {l : Launch} {D : va_G} {G : sx_G} {b : Nat} {ad : Nat → Nat} {n : Nat} (hf : l.stackTraces = false) (ok : sl_ok b ad n) (hn : 8 ≤ n) {f a : sx_F} {o : sl_O} {x6 : Int32} {x7 : Int32} {Q : Int32 → sx_F → sx_F → sl_O → Prop} (h : P_L_isNoted f a o x6 x7 Q) : sl_Met l D G b ad n yL_isNoted cL_isNoted 15 (some .boolean) 10 183 5 180 [.ref (b + 0), .ref (ad 0), .ref (ad 1), .ref (ad 2), .ref (ad 3), .ref (ad 7), .int x6, .int x7] (f, a, o) (sl_qi Q) := by
  refine sl_enter (own := RL) hf rfl rfl (Nat.le_of_ble_eq_true rfl) ?_
  intro p e s m args below meth c C hr 
  have hB : ∀ k, k < 129 → sl_A b ad n s.heap.size (b + k) := fun k h => Or.inl ⟨Nat.le_add_right _ _, Nat.add_lt_add_left h _⟩
  have hA : ∀ j, j < n → sl_A b ad n s.heap.size (ad j) := fun j h => Or.inr (Or.inl ⟨j, h, rfl⟩)
  unfold P_L_isNoted at h
  replace h := h (fun (f : sx_F) (a : sx_F) (o : sl_O) (v8 : Int32) (v9 : Int32) (v10 : Int32) (v11 : Int32) (s0 : Int32) (s1 : Int32) (s2 : Int32) => sx_J (sl_wp D G b ad n) p l e { frames := 10, cells := 5, slots := 180, locals := 183 } s m args below meth c (sl_A b ad n s.heap.size) 15 0 (36 * 0) (sx_fin (sl_wp D G b ad n) (sl_A b ad n s.heap.size) below args s 5 180 (sl_qi Q) (fun _ _ => False)) (f, a, o) 64 [(0, .ref (b + 0)), (1, .ref (ad 0)), (2, .ref (ad 1)), (3, .ref (ad 2)), (4, .ref (ad 3)), (8, .int v8), (9, .int v9), (10, .int v10), (11, .int v11)] [.int s2, .int s1, .int s0])
  replace h := h (fun (f : sx_F) (a : sx_F) (o : sl_O) (v8 : Int32) (v9 : Int32) (v10 : Int32) (v11 : Int32) (v12 : Int32) (v13 : Int32) (v14 : Int32) => sx_J (sl_wp D G b ad n) p l e { frames := 10, cells := 5, slots := 180, locals := 183 } s m args below meth c (sl_A b ad n s.heap.size) 15 0 (36 * 0) (sx_fin (sl_wp D G b ad n) (sl_A b ad n s.heap.size) below args s 5 180 (sl_qi Q) (fun _ _ => False)) (f, a, o) 74 [(0, .ref (b + 0)), (1, .ref (ad 0)), (2, .ref (ad 1)), (3, .ref (ad 2)), (4, .ref (ad 3)), (8, .int v8), (9, .int v9), (10, .int v10), (11, .int v11), (12, .int v12), (13, .int v13), (14, .int v14)] [])
  replace h := h (fun (f : sx_F) (a : sx_F) (o : sl_O) (v8 : Int32) (v9 : Int32) (v10 : Int32) (v11 : Int32) (v12 : Int32) => sx_J (sl_wp D G b ad n) p l e { frames := 10, cells := 5, slots := 180, locals := 183 } s m args below meth c (sl_A b ad n s.heap.size) 15 0 (36 * 0) (sx_fin (sl_wp D G b ad n) (sl_A b ad n s.heap.size) below args s 5 180 (sl_qi Q) (fun _ _ => False)) (f, a, o) 137 [(0, .ref (b + 0)), (1, .ref (ad 0)), (2, .ref (ad 1)), (3, .ref (ad 2)), (8, .int v8), (9, .int v9), (10, .int v10), (11, .int v11), (12, .int v12)] [])
  replace h := h (fun (f : sx_F) (a : sx_F) (o : sl_O) (v8 : Int32) (v9 : Int32) (v10 : Int32) (v11 : Int32) (v12 : Int32) (s0 : Int32) => sx_J (sl_wp D G b ad n) p l e { frames := 10, cells := 5, slots := 180, locals := 183 } s m args below meth c (sl_A b ad n s.heap.size) 15 0 (36 * 0) (sx_fin (sl_wp D G b ad n) (sl_A b ad n s.heap.size) below args s 5 180 (sl_qi Q) (fun _ _ => False)) (f, a, o) 138 [(0, .ref (b + 0)), (1, .ref (ad 0)), (2, .ref (ad 1)), (3, .ref (ad 2)), (8, .int v8), (9, .int v9), (10, .int v10), (11, .int v11), (12, .int v12)] [.int s0])
  replace h := h (fun (f : sx_F) (a : sx_F) (o : sl_O) (v8 : Int32) (v9 : Int32) (v10 : Int32) (v11 : Int32) (v12 : Int32) (v14 : Int32) => sx_J (sl_wp D G b ad n) p l e { frames := 10, cells := 5, slots := 180, locals := 183 } s m args below meth c (sl_A b ad n s.heap.size) 15 0 (36 * 0) (sx_fin (sl_wp D G b ad n) (sl_A b ad n s.heap.size) below args s 5 180 (sl_qi Q) (fun _ _ => False)) (f, a, o) 214 [(0, .ref (b + 0)), (2, .ref (ad 1)), (8, .int v8), (9, .int v9), (10, .int v10), (11, .int v11), (12, .int v12), (14, .int v14)] [])
  replace h := h (fun (f : sx_F) (a : sx_F) (o : sl_O) (s0 : Int32) (s1 : Int32) => sx_J (sl_wp D G b ad n) p l e { frames := 10, cells := 5, slots := 180, locals := 183 } s m args below meth c (sl_A b ad n s.heap.size) 15 5 (36 * 5) (sx_fin (sl_wp D G b ad n) (sl_A b ad n s.heap.size) below args s 5 180 (sl_qi Q) (fun _ _ => False)) (f, a, o) 240 [] [.int s1, .int s0])
  replace h := h (fun (f : sx_F) (a : sx_F) (o : sl_O) (v8 : Int32) (v9 : Int32) (v10 : Int32) (v12 : Int32) (s1 : Int32) (s2 : Int32) (s3 : Int32) => sx_J (sl_wp D G b ad n) p l e { frames := 10, cells := 5, slots := 180, locals := 183 } s m args below meth c (sl_A b ad n s.heap.size) 15 0 (36 * 0) (sx_fin (sl_wp D G b ad n) (sl_A b ad n s.heap.size) below args s 5 180 (sl_qi Q) (fun _ _ => False)) (f, a, o) 286 [(0, .ref (b + 0)), (2, .ref (ad 1)), (8, .int v8), (9, .int v9), (10, .int v10), (12, .int v12)] [.int s3, .int s2, .int s1, .ref (ad 2)])
  replace h := h (fun (f : sx_F) (a : sx_F) (o : sl_O) (v8 : Int32) (v9 : Int32) (v10 : Int32) (v11 : Int32) => sx_J (sl_wp D G b ad n) p l e { frames := 10, cells := 5, slots := 180, locals := 183 } s m args below meth c (sl_A b ad n s.heap.size) 15 0 (36 * 0) (sx_fin (sl_wp D G b ad n) (sl_A b ad n s.heap.size) below args s 5 180 (sl_qi Q) (fun _ _ => False)) (f, a, o) 312 [(0, .ref (b + 0)), (1, .ref (ad 0)), (2, .ref (ad 1)), (3, .ref (ad 2)), (7, .int x7), (8, .int v8), (9, .int v9), (10, .int v10), (11, .int v11)] [])
  replace h := h (fun (f : sx_F) (a : sx_F) (o : sl_O) (v8 : Int32) (v9 : Int32) (v10 : Int32) => sx_J (sl_wp D G b ad n) p l e { frames := 10, cells := 5, slots := 180, locals := 183 } s m args below meth c (sl_A b ad n s.heap.size) 15 0 (36 * 0) (sx_fin (sl_wp D G b ad n) (sl_A b ad n s.heap.size) below args s 5 180 (sl_qi Q) (fun _ _ => False)) (f, a, o) 328 [(0, .ref (b + 0)), (2, .ref (ad 1)), (8, .int v8), (9, .int v9), (10, .int v10)] [])
  replace h := h (fun (f : sx_F) (a : sx_F) (o : sl_O) (v8 : Int32) (v9 : Int32) (v10 : Int32) (v11 : Int32) (v12 : Int32) (v13 : Int32) (s1 : Int32) (s2 : Int32) (s3 : Int32) => sx_J (sl_wp D G b ad n) p l e { frames := 10, cells := 5, slots := 180, locals := 183 } s m args below meth c (sl_A b ad n s.heap.size) 15 0 (36 * 0) (sx_fin (sl_wp D G b ad n) (sl_A b ad n s.heap.size) below args s 5 180 (sl_qi Q) (fun _ _ => False)) (f, a, o) 425 [(0, .ref (b + 0)), (1, .ref (ad 0)), (3, .ref (ad 2)), (8, .int v8), (9, .int v9), (10, .int v10), (11, .int v11), (12, .int v12), (13, .int v13)] [.int s3, .int s2, .int s1, .ref (ad 2)])
  replace h := h (by
    intro f a o v8 v9 v10 v11 s0 s1 s2 h
    refine sx_irem C dL_isNoted_64 h.1 65 rfl ?_
    replace h := h.2
    refine sx_iadd C dL_isNoted_65 66 rfl ?_
    refine sx_topi (fun y1 ey1 => ?_)
    replace h := h y1 ey1
    refine sx_istore C dL_isNoted_66 [(12, .int y1), (0, .ref (b + 0)), (1, .ref (ad 0)), (2, .ref (ad 1)), (3, .ref (ad 2)), (4, .ref (ad 3)), (8, .int v8), (9, .int v9), (10, .int v10), (11, .int v11)] (by decide) rfl 68 rfl ?_
    refine sx_iconst C dL_isNoted_68 0 (by decide) 69 rfl ?_
    refine sx_istore C dL_isNoted_69 [(13, .int 0), (12, .int y1), (0, .ref (b + 0)), (1, .ref (ad 0)), (2, .ref (ad 1)), (3, .ref (ad 2)), (4, .ref (ad 3)), (8, .int v8), (9, .int v9), (10, .int v10), (11, .int v11)] (by decide) rfl 71 rfl ?_
    refine sx_iconst C dL_isNoted_71 0 (by decide) 72 rfl ?_
    refine sx_istore C dL_isNoted_72 [(14, .int 0), (13, .int 0), (12, .int y1), (0, .ref (b + 0)), (1, .ref (ad 0)), (2, .ref (ad 1)), (3, .ref (ad 2)), (4, .ref (ad 3)), (8, .int v8), (9, .int v9), (10, .int v10), (11, .int v11)] (by decide) rfl 74 rfl ?_
    exact sx_sub [3, 4, 5, 6, 7, 8, 9, 10, 11, 2, 1, 0] rfl h)
  replace h := h (by
    intro f a o v8 v9 v10 v11 v12 v13 v14 h
    refine sx_iload C dL_isNoted_74 11 rfl 76 rfl ?_
    refine sx_aload_n C dL_isNoted_76 2 2 rfl rfl 77 rfl ?_
    refine sx_iload C dL_isNoted_77 7 rfl 79 rfl ?_
    refine sl_iald C dL_isNoted_79 (Nat.lt_of_lt_of_le (show 1 < 8 by decide) hn) rfl h.1 80 rfl ?_
    replace h := h.2
    refine sx_icmp_ge C dL_isNoted_80 102 83 (by decide) rfl (fun c2 => ?_) (fun c2 => ?_)
    · replace h := h.1 c2
      refine sx_aload_n C dL_isNoted_102 2 2 rfl rfl 103 rfl ?_
      refine sx_iload C dL_isNoted_103 7 rfl 105 rfl ?_
      refine sl_iald C dL_isNoted_105 (Nat.lt_of_lt_of_le (show 1 < 8 by decide) hn) rfl h.1 106 rfl ?_
      replace h := h.2
      refine sx_bipush C dL_isNoted_106 8 (by decide) 108 rfl ?_
      refine sx_icmp_ge C dL_isNoted_108 137 111 (by decide) rfl (fun c3 => ?_) (fun c3 => ?_)
      · replace h := h.1 c3
        exact sx_sub [0, 1, 2, 3, 5, 6, 7, 8, 9] rfl h
      · replace h := h.2 c3
        refine sx_iload C dL_isNoted_111 10 rfl 113 rfl ?_
        refine sx_iload C dL_isNoted_113 9 rfl 115 rfl ?_
        refine sx_iadd C dL_isNoted_115 116 rfl ?_
        refine sx_aload C dL_isNoted_116 4 rfl 118 rfl ?_
        refine sx_iload C dL_isNoted_118 6 rfl 120 rfl ?_
        refine sl_iald C dL_isNoted_120 (Nat.lt_of_lt_of_le (show 3 < 8 by decide) hn) rfl h.1 121 rfl ?_
        replace h := h.2
        refine sx_icmp_gt C dL_isNoted_121 137 124 (by decide) rfl (fun c4 => ?_) (fun c4 => ?_)
        · replace h := h.1 c4
          exact sx_sub [0, 1, 2, 3, 5, 6, 7, 8, 9] rfl h
        · replace h := h.2 c4
          refine sx_aload_n C dL_isNoted_124 3 3 rfl rfl 125 rfl ?_
          refine sx_iload C dL_isNoted_125 7 rfl 127 rfl ?_
          refine sl_iald C dL_isNoted_127 (Nat.lt_of_lt_of_le (show 2 < 8 by decide) hn) rfl h.1 128 rfl ?_
          replace h := h.2
          refine sx_bipush C dL_isNoted_128 60 (by decide) 130 rfl ?_
          refine sx_icmp_ge C dL_isNoted_130 137 133 (by decide) rfl (fun c5 => ?_) (fun c5 => ?_)
          · replace h := h.1 c5
            exact sx_sub [0, 1, 2, 3, 5, 6, 7, 8, 9] rfl h
          · replace h := h.2 c5
            refine sx_iconst C dL_isNoted_133 1 (by decide) 134 rfl ?_
            refine sx_goto C dL_isNoted_134 138 (by decide) ?_
            exact sx_sub [0, 1, 2, 3, 5, 6, 7, 8, 9] rfl h
    · replace h := h.2 c2
      refine sx_iload C dL_isNoted_83 10 rfl 85 rfl ?_
      refine sx_aload_n C dL_isNoted_85 1 1 rfl rfl 86 rfl ?_
      refine sx_iload C dL_isNoted_86 7 rfl 88 rfl ?_
      refine sx_iload C dL_isNoted_88 11 rfl 90 rfl ?_
      refine sl_callS C hB hA (st := [.int v13]) dL_isNoted_90 (c_L_length hf ok hn h) mi_L_length lk_L_19 mt_L_length rfl rfl ⟨⟨(Nat.le_of_ble_eq_true rfl), (Nat.le_of_ble_eq_true rfl)⟩, (Nat.le_of_ble_eq_true rfl), (Nat.le_of_ble_eq_true rfl)⟩ (Nat.le_of_ble_eq_true rfl) 93 rfl (fun v g7 a8 o9 h => ?_)
      obtain ⟨⟨r6, rfl, h⟩, e9⟩ := h
      cases e9
      refine sx_iadd C dL_isNoted_93 94 rfl ?_
      refine sx_topi (fun y10 ey10 => ?_)
      replace h := h y10 ey10
      refine sx_istore C dL_isNoted_94 [(13, .int y10), (0, .ref (b + 0)), (1, .ref (ad 0)), (2, .ref (ad 1)), (3, .ref (ad 2)), (4, .ref (ad 3)), (8, .int v8), (9, .int v9), (10, .int v10), (11, .int v11), (12, .int v12), (14, .int v14)] (by decide) rfl 96 rfl ?_
      obtain ⟨y11, ey11⟩ : ∃ w : Int32, w = v14 + 1 := ⟨_, rfl⟩
      replace h := h y11 ey11
      refine sx_iinc C dL_isNoted_96 11 rfl y11 (by rw [ey11]; rfl) [(14, .int y11), (13, .int y10), (0, .ref (b + 0)), (1, .ref (ad 0)), (2, .ref (ad 1)), (3, .ref (ad 2)), (4, .ref (ad 3)), (8, .int v8), (9, .int v9), (10, .int v10), (11, .int v11), (12, .int v12)] (by decide) rfl 99 rfl ?_
      refine sx_goto C dL_isNoted_99 74 (by decide) ?_
      exact sx_sub [2, 3, 4, 5, 6, 7, 8, 9, 10, 11, 1, 0] rfl h)
  replace h := h (by
    intro f a o v8 v9 v10 v11 v12 h
    refine sx_iconst C dL_isNoted_137 0 (by decide) 138 rfl ?_
    exact sx_sub [0, 1, 2, 3, 4, 5, 6, 7, 8] rfl h)
  replace h := h (by
    intro f a o v8 v9 v10 v11 v12 s0 h
    refine sx_istore C dL_isNoted_138 [(14, .int s0), (0, .ref (b + 0)), (1, .ref (ad 0)), (2, .ref (ad 1)), (3, .ref (ad 2)), (8, .int v8), (9, .int v9), (10, .int v10), (11, .int v11), (12, .int v12)] (by decide) rfl 140 rfl ?_
    refine sx_aload_n C dL_isNoted_140 3 4 rfl rfl 141 rfl ?_
    refine sx_iload C dL_isNoted_141 7 rfl 143 rfl ?_
    refine sl_iald C dL_isNoted_143 (Nat.lt_of_lt_of_le (show 2 < 8 by decide) hn) rfl h.1 144 rfl ?_
    replace h := h.2
    refine sx_bipush C dL_isNoted_144 60 (by decide) 146 rfl ?_
    refine sx_icmp_lt C dL_isNoted_146 151 149 (by decide) rfl (fun c12 => ?_) (fun c12 => ?_)
    · replace h := h.1 c12
      refine sx_iload C dL_isNoted_151 0 rfl 153 rfl ?_
      refine sx_if_eq C dL_isNoted_153 214 156 (by decide) rfl (fun c13 => ?_) (fun c13 => ?_)
      · replace h := h.1 c13
        exact sx_sub [1, 3, 5, 6, 7, 8, 9, 0] rfl h
      · replace h := h.2 c13
        refine sx_aload_n C dL_isNoted_156 1 2 rfl rfl 157 rfl ?_
        refine sx_iload C dL_isNoted_157 7 rfl 159 rfl ?_
        refine sx_aload_n C dL_isNoted_159 1 2 rfl rfl 160 rfl ?_
        refine sx_iload C dL_isNoted_160 7 rfl 162 rfl ?_
        refine sl_lald C dL_isNoted_162 (Nat.lt_of_lt_of_le (show 0 < 8 by decide) hn) rfl h.1 163 rfl ?_
        replace h := h.2
        refine sl_ldc2 C dL_isNoted_163 (255) kl_L_114 166 rfl ?_
        refine sx_bipush C dL_isNoted_166 8 (by decide) 168 rfl ?_
        refine sx_aload_n C dL_isNoted_168 2 3 rfl rfl 169 rfl ?_
        refine sx_iload C dL_isNoted_169 7 rfl 171 rfl ?_
        refine sl_iald C dL_isNoted_171 (Nat.lt_of_lt_of_le (show 1 < 8 by decide) hn) rfl h.1 172 rfl ?_
        replace h := h.2
        refine sx_imul C dL_isNoted_172 173 rfl ?_
        refine sl_lshl C dL_isNoted_173 174 rfl ?_
        refine sl_ldc2 C dL_isNoted_174 (-1) kl_L_174 177 rfl ?_
        refine sl_lxor C dL_isNoted_177 178 rfl ?_
        refine sl_land C dL_isNoted_178 179 rfl ?_
        refine sx_iload C dL_isNoted_179 9 rfl 181 rfl ?_
        refine sx_bipush C dL_isNoted_181 32 (by decide) 183 rfl ?_
        refine sx_iload C dL_isNoted_183 8 rfl 185 rfl ?_
        refine sx_imul C dL_isNoted_185 186 rfl ?_
        refine sx_iadd C dL_isNoted_186 187 rfl ?_
        refine sx_i2l C dL_isNoted_187 188 rfl ?_
        refine sx_bipush C dL_isNoted_188 8 (by decide) 190 rfl ?_
        refine sx_aload_n C dL_isNoted_190 2 3 rfl rfl 191 rfl ?_
        refine sx_iload C dL_isNoted_191 7 rfl 193 rfl ?_
        refine sl_iald C dL_isNoted_193 (Nat.lt_of_lt_of_le (show 1 < 8 by decide) hn) rfl h.1 194 rfl ?_
        replace h := h.2
        refine sx_imul C dL_isNoted_194 195 rfl ?_
        refine sl_lshl C dL_isNoted_195 196 rfl ?_
        refine sl_lor C dL_isNoted_196 197 rfl ?_
        refine sl_last C dL_isNoted_197 ok hB hA (Nat.lt_of_lt_of_le (show 0 < 8 by decide) hn) rfl h.1 198 rfl (fun o14 eo14 => ?_)
        replace h := h.2 o14 eo14
        refine sx_aload_n C dL_isNoted_198 2 3 rfl rfl 199 rfl ?_
        refine sx_iload C dL_isNoted_199 7 rfl 201 rfl ?_
        refine sx_dup2 C dL_isNoted_201 rfl rfl 202 rfl ?_
        refine sl_iald C dL_isNoted_202 (Nat.lt_of_lt_of_le (show 1 < 8 by decide) hn) rfl h.1 203 rfl ?_
        replace h := h.2
        refine sx_iconst C dL_isNoted_203 1 (by decide) 204 rfl ?_
        refine sx_iadd C dL_isNoted_204 205 rfl ?_
        refine sl_iast C dL_isNoted_205 ok hB hA (Nat.lt_of_lt_of_le (show 1 < 8 by decide) hn) rfl h.1 206 rfl (fun a15 ea15 => ?_)
        replace h := h.2 a15 ea15
        refine sx_aload_n C dL_isNoted_206 3 4 rfl rfl 207 rfl ?_
        refine sx_iload C dL_isNoted_207 7 rfl 209 rfl ?_
        refine sx_dup2 C dL_isNoted_209 rfl rfl 210 rfl ?_
        refine sl_iald C dL_isNoted_210 (Nat.lt_of_lt_of_le (show 2 < 8 by decide) hn) rfl h.1 211 rfl ?_
        replace h := h.2
        refine sx_iconst C dL_isNoted_211 1 (by decide) 212 rfl ?_
        refine sx_iadd C dL_isNoted_212 213 rfl ?_
        refine sl_iast C dL_isNoted_213 ok hB hA (Nat.lt_of_lt_of_le (show 2 < 8 by decide) hn) rfl h.1 214 rfl (fun a16 ea16 => ?_)
        replace h := h.2 a16 ea16
        exact sx_sub [1, 3, 5, 6, 7, 8, 9, 0] rfl h
    · replace h := h.2 c12
      refine sx_iconst C dL_isNoted_149 1 (by decide) 150 rfl ?_
      exact sx_zret C dL_isNoted_150 hr (Nat.le_of_ble_eq_true rfl) (Nat.le_of_ble_eq_true rfl) (Or.inr rfl) ⟨_, rfl, h⟩)
  replace h := h (by
    intro f a o v8 v9 v10 v11 v12 v14 h
    refine sx_aload_n C dL_isNoted_214 0 0 rfl rfl 215 rfl ?_
    refine sx_iload C dL_isNoted_215 2 rfl 217 rfl ?_
    refine sx_iload C dL_isNoted_217 3 rfl 219 rfl ?_
    refine sx_iload C dL_isNoted_219 6 rfl 221 rfl ?_
    refine sx_iload C dL_isNoted_221 5 rfl 223 rfl ?_
    refine sl_callH C hB hA (st := []) dL_isNoted_223 (c_L_noted hf ok hn h) wi_L_noted wn_L_noted wt_L_noted lk_L_176 ⟨by decide, by decide, (show _ = some 5 from by decide +kernel)⟩ rfl rfl ⟨⟨(Nat.le_of_ble_eq_true rfl), (Nat.le_of_ble_eq_true rfl)⟩, (Nat.le_of_ble_eq_true rfl), (Nat.le_of_ble_eq_true rfl)⟩ (Nat.le_of_ble_eq_true rfl) 226 rfl (fun v g18 a18 o18 h => ?_)
    obtain ⟨r17, rfl, h⟩ := h
    dsimp only at h
    refine sx_iload C dL_isNoted_226 7 rfl 228 rfl ?_
    refine sx_if_eq C dL_isNoted_228 238 231 (by decide) rfl (fun c19 => ?_) (fun c19 => ?_)
    · replace h := h.1 c19
      refine sx_bipush C dL_isNoted_238 (-7) (by decide) 240 rfl ?_
      refine sx_widen (k := 5) (n := 36 * 5) (Nat.le_of_ble_eq_true rfl) (Nat.le_of_ble_eq_true rfl) ?_
      exact sx_sub [] rfl h
    · replace h := h.2 c19
      refine sx_aload_n C dL_isNoted_231 2 1 rfl rfl 232 rfl ?_
      refine sx_iload C dL_isNoted_232 4 rfl 234 rfl ?_
      refine sl_iald C dL_isNoted_234 (Nat.lt_of_lt_of_le (show 1 < 8 by decide) hn) rfl h.1 235 rfl ?_
      replace h := h.2
      refine sx_goto C dL_isNoted_235 240 (by decide) ?_
      refine sx_widen (k := 5) (n := 36 * 5) (Nat.le_of_ble_eq_true rfl) (Nat.le_of_ble_eq_true rfl) ?_
      exact sx_sub [] rfl h)
  replace h := h (by
    intro f a o s0 s1 h
    refine sx_icmp_ne C dL_isNoted_240 247 243 (by decide) rfl (fun c20 => ?_) (fun c20 => ?_)
    · replace h := h.2 c20
      refine sx_iconst C dL_isNoted_247 0 (by decide) 248 rfl ?_
      exact sx_zret C dL_isNoted_248 hr (Nat.le_of_ble_eq_true rfl) (Nat.le_of_ble_eq_true rfl) (Or.inl rfl) ⟨_, rfl, h⟩
    · replace h := h.1 c20
      refine sx_iconst C dL_isNoted_243 1 (by decide) 244 rfl ?_
      refine sx_goto C dL_isNoted_244 248 (by decide) ?_
      exact sx_zret C dL_isNoted_248 hr (Nat.le_of_ble_eq_true rfl) (Nat.le_of_ble_eq_true rfl) (Or.inr rfl) ⟨_, rfl, h⟩)
  replace h := h (by
    intro f a o v8 v9 v10 v12 s1 s2 s3 h
    refine sx_iadd C dL_isNoted_286 287 rfl ?_
    refine sl_iast C dL_isNoted_287 ok hB hA (Nat.lt_of_lt_of_le (show 2 < 8 by decide) hn) rfl h.1 288 rfl (fun a21 ea21 => ?_)
    replace h := h.2 a21 ea21
    refine sx_aload_n C dL_isNoted_288 2 1 rfl rfl 289 rfl ?_
    refine sx_iload C dL_isNoted_289 4 rfl 291 rfl ?_
    refine sx_iconst C dL_isNoted_291 0 (by decide) 292 rfl ?_
    refine sl_iast C dL_isNoted_292 ok hB hA (Nat.lt_of_lt_of_le (show 1 < 8 by decide) hn) rfl h.1 293 rfl (fun a22 ea22 => ?_)
    replace h := h.2 a22 ea22
    refine sx_aload_n C dL_isNoted_293 0 0 rfl rfl 294 rfl ?_
    refine sx_iload C dL_isNoted_294 2 rfl 296 rfl ?_
    refine sx_iload C dL_isNoted_296 3 rfl 298 rfl ?_
    refine sl_callX C ok hB (st := []) dL_isNoted_298 (c0_X6_empty hf h) mi_X6_empty lk_L_180 mn_X6_empty ms_X6_empty (by decide) lyX_0 rfl rfl rfl rfl ⟨⟨(Nat.le_of_ble_eq_true rfl), (Nat.le_of_ble_eq_true rfl)⟩, (Nat.le_of_ble_eq_true rfl), (Nat.le_of_ble_eq_true rfl)⟩ (Nat.le_of_ble_eq_true rfl) 301 rfl (fun v g24 h => ?_)
    obtain ⟨r23, rfl, h⟩ := h
    refine sx_iload C dL_isNoted_301 5 rfl 303 rfl ?_
    refine sx_icmp_ne C dL_isNoted_303 310 306 (by decide) rfl (fun c25 => ?_) (fun c25 => ?_)
    · replace h := h.2 c25
      refine sx_iconst C dL_isNoted_310 0 (by decide) 311 rfl ?_
      exact sx_zret C dL_isNoted_311 hr (Nat.le_of_ble_eq_true rfl) (Nat.le_of_ble_eq_true rfl) (Or.inl rfl) ⟨_, rfl, h⟩
    · replace h := h.1 c25
      refine sx_iconst C dL_isNoted_306 1 (by decide) 307 rfl ?_
      refine sx_goto C dL_isNoted_307 311 (by decide) ?_
      exact sx_zret C dL_isNoted_311 hr (Nat.le_of_ble_eq_true rfl) (Nat.le_of_ble_eq_true rfl) (Or.inr rfl) ⟨_, rfl, h⟩)
  replace h := h (by
    intro f a o v8 v9 v10 v11 h
    refine sx_aload_n C dL_isNoted_312 2 2 rfl rfl 313 rfl ?_
    refine sx_iload C dL_isNoted_313 7 rfl 315 rfl ?_
    refine sl_iald C dL_isNoted_315 (Nat.lt_of_lt_of_le (show 1 < 8 by decide) hn) rfl h.1 316 rfl ?_
    replace h := h.2
    refine sx_if_eq C dL_isNoted_316 328 319 (by decide) rfl (fun c26 => ?_) (fun c26 => ?_)
    · replace h := h.1 c26
      exact sx_sub [0, 2, 5, 6, 7] rfl h
    · replace h := h.2 c26
      refine sx_aload_n C dL_isNoted_319 3 3 rfl rfl 320 rfl ?_
      refine sx_iload C dL_isNoted_320 7 rfl 322 rfl ?_
      refine sl_iald C dL_isNoted_322 (Nat.lt_of_lt_of_le (show 2 < 8 by decide) hn) rfl h.1 323 rfl ?_
      replace h := h.2
      refine sx_bipush C dL_isNoted_323 60 (by decide) 325 rfl ?_
      refine sx_icmp_lt C dL_isNoted_325 349 328 (by decide) rfl (fun c27 => ?_) (fun c27 => ?_)
      · replace h := h.1 c27
        refine sx_iload C dL_isNoted_349 4 rfl 351 rfl ?_
        refine sx_sipush C dL_isNoted_351 210 (by decide) 354 rfl ?_
        refine sx_idiv C dL_isNoted_354 (by decide) 355 rfl ?_
        refine sx_aload_n C dL_isNoted_355 2 2 rfl rfl 356 rfl ?_
        refine sx_iload C dL_isNoted_356 7 rfl 358 rfl ?_
        refine sl_iald C dL_isNoted_358 (Nat.lt_of_lt_of_le (show 1 < 8 by decide) hn) rfl h.1 359 rfl ?_
        replace h := h.2
        refine sx_irem C dL_isNoted_359 h.1 360 rfl ?_
        replace h := h.2
        refine sx_topi (fun y28 ey28 => ?_)
        replace h := h y28 ey28
        refine sx_istore C dL_isNoted_360 [(12, .int y28), (0, .ref (b + 0)), (1, .ref (ad 0)), (2, .ref (ad 1)), (3, .ref (ad 2)), (7, .int x7), (8, .int v8), (9, .int v9), (10, .int v10), (11, .int v11)] (by decide) rfl 362 rfl ?_
        refine sx_aload_n C dL_isNoted_362 1 2 rfl rfl 363 rfl ?_
        refine sx_iload C dL_isNoted_363 8 rfl 365 rfl ?_
        refine sx_iload C dL_isNoted_365 0 rfl 367 rfl ?_
        refine sl_callS C hB hA (st := []) dL_isNoted_367 (c_L_pitch hf ok hn h) mi_L_pitch lk_L_13 mt_L_pitch rfl rfl ⟨⟨(Nat.le_of_ble_eq_true rfl), (Nat.le_of_ble_eq_true rfl)⟩, (Nat.le_of_ble_eq_true rfl), (Nat.le_of_ble_eq_true rfl)⟩ (Nat.le_of_ble_eq_true rfl) 370 rfl (fun v g30 a31 o32 h => ?_)
        obtain ⟨⟨r29, rfl, h⟩, e9⟩ := h
        cases e9
        refine sx_istore C dL_isNoted_370 [(13, .int r29), (12, .int y28), (0, .ref (b + 0)), (1, .ref (ad 0)), (2, .ref (ad 1)), (3, .ref (ad 2)), (7, .int x7), (8, .int v8), (9, .int v9), (10, .int v10), (11, .int v11)] (by decide) rfl 372 rfl ?_
        refine sx_aload_n C dL_isNoted_372 1 3 rfl rfl 373 rfl ?_
        refine sx_iload C dL_isNoted_373 9 rfl 375 rfl ?_
        refine sx_aload_n C dL_isNoted_375 1 3 rfl rfl 376 rfl ?_
        refine sx_iload C dL_isNoted_376 9 rfl 378 rfl ?_
        refine sl_lald C dL_isNoted_378 (Nat.lt_of_lt_of_le (show 0 < 8 by decide) hn) rfl h.1 379 rfl ?_
        replace h := h.2
        refine sl_ldc2 C dL_isNoted_379 (7) kl_L_11 382 rfl ?_
        refine sx_bipush C dL_isNoted_382 8 (by decide) 384 rfl ?_
        refine sx_iload C dL_isNoted_384 1 rfl 386 rfl ?_
        refine sx_imul C dL_isNoted_386 387 rfl ?_
        refine sx_iconst C dL_isNoted_387 5 (by decide) 388 rfl ?_
        refine sx_iadd C dL_isNoted_388 389 rfl ?_
        refine sl_lshl C dL_isNoted_389 390 rfl ?_
        refine sl_ldc2 C dL_isNoted_390 (-1) kl_L_174 393 rfl ?_
        refine sl_lxor C dL_isNoted_393 394 rfl ?_
        refine sl_land C dL_isNoted_394 395 rfl ?_
        refine sx_iload C dL_isNoted_395 10 rfl 397 rfl ?_
        refine sx_i2l C dL_isNoted_397 398 rfl ?_
        refine sx_bipush C dL_isNoted_398 8 (by decide) 400 rfl ?_
        refine sx_iload C dL_isNoted_400 1 rfl 402 rfl ?_
        refine sx_imul C dL_isNoted_402 403 rfl ?_
        refine sx_iconst C dL_isNoted_403 5 (by decide) 404 rfl ?_
        refine sx_iadd C dL_isNoted_404 405 rfl ?_
        refine sl_lshl C dL_isNoted_405 406 rfl ?_
        refine sl_lor C dL_isNoted_406 407 rfl ?_
        refine sl_last C dL_isNoted_407 ok hB hA (Nat.lt_of_lt_of_le (show 0 < 8 by decide) hn) rfl h.1 408 rfl (fun o33 eo33 => ?_)
        replace h := h.2 o33 eo33
        refine sx_aload_n C dL_isNoted_408 3 5 rfl rfl 409 rfl ?_
        refine sx_iload C dL_isNoted_409 9 rfl 411 rfl ?_
        refine sx_dup2 C dL_isNoted_411 rfl rfl 412 rfl ?_
        refine sl_iald C dL_isNoted_412 (Nat.lt_of_lt_of_le (show 2 < 8 by decide) hn) rfl h.1 413 rfl ?_
        replace h := h.2
        refine sx_iload C dL_isNoted_413 0 rfl 415 rfl ?_
        refine sx_iload C dL_isNoted_415 10 rfl 417 rfl ?_
        refine sx_icmp_ne C dL_isNoted_417 424 420 (by decide) rfl (fun c34 => ?_) (fun c34 => ?_)
        · replace h := h.2 c34
          refine sx_iconst C dL_isNoted_424 1 (by decide) 425 rfl ?_
          exact sx_sub [2, 3, 5, 7, 8, 9, 10, 1, 0] rfl h
        · replace h := h.1 c34
          refine sx_iconst C dL_isNoted_420 0 (by decide) 421 rfl ?_
          refine sx_goto C dL_isNoted_421 425 (by decide) ?_
          exact sx_sub [2, 3, 5, 7, 8, 9, 10, 1, 0] rfl h
      · replace h := h.2 c27
        exact sx_sub [0, 2, 5, 6, 7] rfl h)
  replace h := h (by
    intro f a o v8 v9 v10 h
    refine sx_aload_n C dL_isNoted_328 0 0 rfl rfl 329 rfl ?_
    refine sx_iload C dL_isNoted_329 2 rfl 331 rfl ?_
    refine sx_iload C dL_isNoted_331 3 rfl 333 rfl ?_
    refine sl_callX C ok hB (st := []) dL_isNoted_333 (c0_X6_notes hf h) mi_X6_notes lk_L_183 mn_X6_notes ms_X6_notes (by decide) lyX_0 rfl rfl rfl rfl ⟨⟨(Nat.le_of_ble_eq_true rfl), (Nat.le_of_ble_eq_true rfl)⟩, (Nat.le_of_ble_eq_true rfl), (Nat.le_of_ble_eq_true rfl)⟩ (Nat.le_of_ble_eq_true rfl) 336 rfl (fun v g36 h => ?_)
    obtain ⟨⟨r35, rfl, h⟩, rfl⟩ := h
    refine sx_aload_n C dL_isNoted_336 2 1 rfl rfl 337 rfl ?_
    refine sx_iload C dL_isNoted_337 4 rfl 339 rfl ?_
    refine sl_iald C dL_isNoted_339 (Nat.lt_of_lt_of_le (show 1 < 8 by decide) hn) rfl h.1 340 rfl ?_
    replace h := h.2
    refine sx_icmp_ne C dL_isNoted_340 347 343 (by decide) rfl (fun c37 => ?_) (fun c37 => ?_)
    · replace h := h.2 c37
      refine sx_iconst C dL_isNoted_347 0 (by decide) 348 rfl ?_
      exact sx_zret C dL_isNoted_348 hr (Nat.le_of_ble_eq_true rfl) (Nat.le_of_ble_eq_true rfl) (Or.inl rfl) ⟨_, rfl, h⟩
    · replace h := h.1 c37
      refine sx_iconst C dL_isNoted_343 1 (by decide) 344 rfl ?_
      refine sx_goto C dL_isNoted_344 348 (by decide) ?_
      exact sx_zret C dL_isNoted_348 hr (Nat.le_of_ble_eq_true rfl) (Nat.le_of_ble_eq_true rfl) (Or.inr rfl) ⟨_, rfl, h⟩)
  replace h := h (by
    intro f a o v8 v9 v10 v11 v12 v13 s1 s2 s3 h
    refine sx_iadd C dL_isNoted_425 426 rfl ?_
    refine sl_iast C dL_isNoted_426 ok hB hA (Nat.lt_of_lt_of_le (show 2 < 8 by decide) hn) rfl h.1 427 rfl (fun a38 ea38 => ?_)
    replace h := h.2 a38 ea38
    refine sx_aload_n C dL_isNoted_427 0 0 rfl rfl 428 rfl ?_
    refine sx_iload C dL_isNoted_428 3 rfl 430 rfl ?_
    refine sx_iload C dL_isNoted_430 4 rfl 432 rfl ?_
    refine sx_iload C dL_isNoted_432 7 rfl 434 rfl ?_
    refine sx_iload C dL_isNoted_434 6 rfl 436 rfl ?_
    refine sl_callX C ok hB (st := []) dL_isNoted_436 (c0_X6_mend hf h) mi_X6_mend lk_L_186 mn_X6_mend ms_X6_mend (by decide) lyX_0 rfl rfl rfl rfl ⟨⟨(Nat.le_of_ble_eq_true rfl), (Nat.le_of_ble_eq_true rfl)⟩, (Nat.le_of_ble_eq_true rfl), (Nat.le_of_ble_eq_true rfl)⟩ (Nat.le_of_ble_eq_true rfl) 439 rfl (fun v g40 h => ?_)
    obtain ⟨r39, rfl, h⟩ := h
    refine sx_iload C dL_isNoted_439 8 rfl 441 rfl ?_
    refine sx_icmp_ne C dL_isNoted_441 490 444 (by decide) rfl (fun c41 => ?_) (fun c41 => ?_)
    · replace h := h.2 c41
      refine sx_iconst C dL_isNoted_490 0 (by decide) 491 rfl ?_
      exact sx_zret C dL_isNoted_491 hr (Nat.le_of_ble_eq_true rfl) (Nat.le_of_ble_eq_true rfl) (Or.inl rfl) ⟨_, rfl, h⟩
    · replace h := h.1 c41
      refine sx_aload_n C dL_isNoted_444 0 0 rfl rfl 445 rfl ?_
      refine sx_iload C dL_isNoted_445 3 rfl 447 rfl ?_
      refine sx_iload C dL_isNoted_447 4 rfl 449 rfl ?_
      refine sx_iload C dL_isNoted_449 7 rfl 451 rfl ?_
      refine sl_callX C ok hB (st := []) dL_isNoted_451 (c0_X6_noteAt hf h) mi_X6_noteAt lk_L_189 mn_X6_noteAt ms_X6_noteAt (by decide) lyX_0 rfl rfl rfl rfl ⟨⟨(Nat.le_of_ble_eq_true rfl), (Nat.le_of_ble_eq_true rfl)⟩, (Nat.le_of_ble_eq_true rfl), (Nat.le_of_ble_eq_true rfl)⟩ (Nat.le_of_ble_eq_true rfl) 454 rfl (fun v g43 h => ?_)
      obtain ⟨⟨r42, rfl, h⟩, rfl⟩ := h
      refine sx_bipush C dL_isNoted_454 100 (by decide) 456 rfl ?_
      refine sx_aload_n C dL_isNoted_456 1 1 rfl rfl 457 rfl ?_
      refine sx_iload C dL_isNoted_457 5 rfl 459 rfl ?_
      refine sx_iload C dL_isNoted_459 7 rfl 461 rfl ?_
      refine sl_callS C hB hA (st := [.int 100, .int r42]) dL_isNoted_461 (c_L_length hf ok hn h) mi_L_length lk_L_19 mt_L_length rfl rfl ⟨⟨(Nat.le_of_ble_eq_true rfl), (Nat.le_of_ble_eq_true rfl)⟩, (Nat.le_of_ble_eq_true rfl), (Nat.le_of_ble_eq_true rfl)⟩ (Nat.le_of_ble_eq_true rfl) 464 rfl (fun v g45 a46 o47 h => ?_)
      obtain ⟨⟨r44, rfl, h⟩, e9⟩ := h
      cases e9
      refine sx_imul C dL_isNoted_464 465 rfl ?_
      refine sx_iload C dL_isNoted_465 6 rfl 467 rfl ?_
      refine sx_iadd C dL_isNoted_467 468 rfl ?_
      refine sx_icmp_ne C dL_isNoted_468 490 471 (by decide) rfl (fun c48 => ?_) (fun c48 => ?_)
      · replace h := h.2 c48
        refine sx_iconst C dL_isNoted_490 0 (by decide) 491 rfl ?_
        exact sx_zret C dL_isNoted_491 hr (Nat.le_of_ble_eq_true rfl) (Nat.le_of_ble_eq_true rfl) (Or.inl rfl) ⟨_, rfl, h⟩
      · replace h := h.1 c48
        refine sx_aload_n C dL_isNoted_471 0 0 rfl rfl 472 rfl ?_
        refine sx_iload C dL_isNoted_472 3 rfl 474 rfl ?_
        refine sx_iload C dL_isNoted_474 4 rfl 476 rfl ?_
        refine sl_callX C ok hB (st := []) dL_isNoted_476 (c0_X6_version hf h) mi_X6_version lk_L_192 mn_X6_version ms_X6_version (by decide) lyX_0 rfl rfl rfl rfl ⟨⟨(Nat.le_of_ble_eq_true rfl), (Nat.le_of_ble_eq_true rfl)⟩, (Nat.le_of_ble_eq_true rfl), (Nat.le_of_ble_eq_true rfl)⟩ (Nat.le_of_ble_eq_true rfl) 479 rfl (fun v g50 h => ?_)
        obtain ⟨⟨r49, rfl, h⟩, rfl⟩ := h
        refine sx_aload_n C dL_isNoted_479 3 2 rfl rfl 480 rfl ?_
        refine sx_iload C dL_isNoted_480 5 rfl 482 rfl ?_
        refine sl_iald C dL_isNoted_482 (Nat.lt_of_lt_of_le (show 2 < 8 by decide) hn) rfl h.1 483 rfl ?_
        replace h := h.2
        refine sx_icmp_ne C dL_isNoted_483 490 486 (by decide) rfl (fun c51 => ?_) (fun c51 => ?_)
        · replace h := h.2 c51
          refine sx_iconst C dL_isNoted_490 0 (by decide) 491 rfl ?_
          exact sx_zret C dL_isNoted_491 hr (Nat.le_of_ble_eq_true rfl) (Nat.le_of_ble_eq_true rfl) (Or.inl rfl) ⟨_, rfl, h⟩
        · replace h := h.1 c51
          refine sx_iconst C dL_isNoted_486 1 (by decide) 487 rfl ?_
          refine sx_goto C dL_isNoted_487 491 (by decide) ?_
          exact sx_zret C dL_isNoted_491 hr (Nat.le_of_ble_eq_true rfl) (Nat.le_of_ble_eq_true rfl) (Or.inr rfl) ⟨_, rfl, h⟩)
  refine sx_sub (lv' := [(0, .ref (b + 0)), (1, .ref (ad 0)), (2, .ref (ad 1)), (3, .ref (ad 2)), (4, .ref (ad 3)), (5, .ref (ad 7)), (6, .int x6), (7, .int x7)]) [0, 1, 2, 3, 4, 5, 6, 7] rfl ?_
  refine sx_iload C dL_isNoted_0 7 rfl 2 rfl ?_
  refine sx_iconst C dL_isNoted_2 5 (by decide) 3 rfl ?_
  refine sx_irem C dL_isNoted_3 (by decide) 4 rfl ?_
  refine sx_topi (fun y52 ey52 => ?_)
  replace h := h y52 ey52
  refine sx_istore C dL_isNoted_4 [(8, .int y52), (0, .ref (b + 0)), (1, .ref (ad 0)), (2, .ref (ad 1)), (3, .ref (ad 2)), (4, .ref (ad 3)), (5, .ref (ad 7)), (6, .int x6), (7, .int x7)] (by decide) rfl 6 rfl ?_
  refine sx_iload C dL_isNoted_6 8 rfl 8 rfl ?_
  refine sx_iconst C dL_isNoted_8 5 (by decide) 9 rfl ?_
  refine sx_idiv C dL_isNoted_9 (by decide) 10 rfl ?_
  refine sx_aload C dL_isNoted_10 6 rfl 12 rfl ?_
  refine sx_iconst C dL_isNoted_12 0 (by decide) 13 rfl ?_
  refine sl_iald C dL_isNoted_13 (Nat.lt_of_lt_of_le (show 7 < 8 by decide) hn) rfl h.1 14 rfl ?_
  replace h := h.2
  refine sx_irem C dL_isNoted_14 h.1 15 rfl ?_
  replace h := h.2
  refine sx_topi (fun y53 ey53 => ?_)
  replace h := h y53 ey53
  refine sx_istore C dL_isNoted_15 [(9, .int y53), (8, .int y52), (0, .ref (b + 0)), (1, .ref (ad 0)), (2, .ref (ad 1)), (3, .ref (ad 2)), (4, .ref (ad 3)), (5, .ref (ad 7)), (6, .int x6), (7, .int x7)] (by decide) rfl 17 rfl ?_
  refine sx_bipush C dL_isNoted_17 6 (by decide) 19 rfl ?_
  refine sx_iload C dL_isNoted_19 1 rfl 21 rfl ?_
  refine sx_imul C dL_isNoted_21 22 rfl ?_
  refine sx_iload C dL_isNoted_22 0 rfl 24 rfl ?_
  refine sx_iadd C dL_isNoted_24 25 rfl ?_
  refine sx_topi (fun y54 ey54 => ?_)
  replace h := h y54 ey54
  refine sx_istore C dL_isNoted_25 [(10, .int y54), (9, .int y53), (8, .int y52), (0, .ref (b + 0)), (1, .ref (ad 0)), (2, .ref (ad 1)), (3, .ref (ad 2)), (4, .ref (ad 3)), (5, .ref (ad 7)), (6, .int x6), (7, .int x7)] (by decide) rfl 27 rfl ?_
  refine sx_iload C dL_isNoted_27 10 rfl 29 rfl ?_
  refine sx_bipush C dL_isNoted_29 30 (by decide) 31 rfl ?_
  refine sx_idiv C dL_isNoted_31 (by decide) 32 rfl ?_
  refine sx_bipush C dL_isNoted_32 7 (by decide) 34 rfl ?_
  refine sx_irem C dL_isNoted_34 (by decide) 35 rfl ?_
  refine sx_topi (fun y55 ey55 => ?_)
  replace h := h y55 ey55
  refine sx_istore C dL_isNoted_35 [(11, .int y55), (10, .int y54), (9, .int y53), (8, .int y52), (0, .ref (b + 0)), (1, .ref (ad 0)), (2, .ref (ad 1)), (3, .ref (ad 2)), (4, .ref (ad 3)), (5, .ref (ad 7)), (6, .int x6), (7, .int x7)] (by decide) rfl 37 rfl ?_
  refine sx_iload C dL_isNoted_37 10 rfl 39 rfl ?_
  refine sx_bipush C dL_isNoted_39 8 (by decide) 41 rfl ?_
  refine sx_icmp_ge C dL_isNoted_41 249 44 (by decide) rfl (fun c56 => ?_) (fun c56 => ?_)
  · replace h := h.1 c56
    refine sx_iload C dL_isNoted_249 10 rfl 251 rfl ?_
    refine sx_bipush C dL_isNoted_251 8 (by decide) 253 rfl ?_
    refine sx_icmp_ne C dL_isNoted_253 312 256 (by decide) rfl (fun c57 => ?_) (fun c57 => ?_)
    · replace h := h.2 c57
      exact sx_sub [4, 5, 6, 7, 11, 3, 2, 1, 0] rfl h
    · replace h := h.1 c57
      refine sx_aload_n C dL_isNoted_256 3 7 rfl rfl 257 rfl ?_
      refine sx_iload C dL_isNoted_257 1 rfl 259 rfl ?_
      refine sl_iald C dL_isNoted_259 (Nat.lt_of_lt_of_le (show 2 < 8 by decide) hn) rfl h.1 260 rfl ?_
      replace h := h.2
      refine sx_bipush C dL_isNoted_260 60 (by decide) 262 rfl ?_
      refine sx_icmp_ge C dL_isNoted_262 312 265 (by decide) rfl (fun c58 => ?_) (fun c58 => ?_)
      · replace h := h.1 c58
        exact sx_sub [4, 5, 6, 7, 11, 3, 2, 1, 0] rfl h
      · replace h := h.2 c58
        refine sx_aload_n C dL_isNoted_265 2 6 rfl rfl 266 rfl ?_
        refine sx_iload C dL_isNoted_266 1 rfl 268 rfl ?_
        refine sl_iald C dL_isNoted_268 (Nat.lt_of_lt_of_le (show 1 < 8 by decide) hn) rfl h.1 269 rfl ?_
        replace h := h.2
        refine sx_topi (fun y59 ey59 => ?_)
        replace h := h y59 ey59
        refine sx_istore C dL_isNoted_269 [(12, .int y59), (11, .int y55), (10, .int y54), (9, .int y53), (8, .int y52), (0, .ref (b + 0)), (1, .ref (ad 0)), (2, .ref (ad 1)), (3, .ref (ad 2)), (4, .ref (ad 3)), (5, .ref (ad 7)), (6, .int x6), (7, .int x7)] (by decide) rfl 271 rfl ?_
        refine sx_aload_n C dL_isNoted_271 3 8 rfl rfl 272 rfl ?_
        refine sx_iload C dL_isNoted_272 2 rfl 274 rfl ?_
        refine sx_dup2 C dL_isNoted_274 rfl rfl 275 rfl ?_
        refine sl_iald C dL_isNoted_275 (Nat.lt_of_lt_of_le (show 2 < 8 by decide) hn) rfl h.1 276 rfl ?_
        replace h := h.2
        refine sx_iload C dL_isNoted_276 0 rfl 278 rfl ?_
        refine sx_if_le C dL_isNoted_278 285 281 (by decide) rfl (fun c60 => ?_) (fun c60 => ?_)
        · replace h := h.1 c60
          refine sx_iconst C dL_isNoted_285 0 (by decide) 286 rfl ?_
          exact sx_sub [5, 7, 4, 3, 2, 0] rfl h
        · replace h := h.2 c60
          refine sx_iconst C dL_isNoted_281 1 (by decide) 282 rfl ?_
          refine sx_goto C dL_isNoted_282 286 (by decide) ?_
          exact sx_sub [5, 7, 4, 3, 2, 0] rfl h
  · replace h := h.2 c56
    refine sx_iconst C dL_isNoted_44 1 (by decide) 45 rfl ?_
    refine sx_iload C dL_isNoted_45 11 rfl 47 rfl ?_
    refine sx_sipush C dL_isNoted_47 210 (by decide) 50 rfl ?_
    refine sx_idiv C dL_isNoted_50 (by decide) 51 rfl ?_
    refine sx_iload C dL_isNoted_51 11 rfl 53 rfl ?_
    refine sx_iconst C dL_isNoted_53 3 (by decide) 54 rfl ?_
    refine sx_irem C dL_isNoted_54 (by decide) 55 rfl ?_
    refine sx_if_ne C dL_isNoted_55 63 58 (by decide) rfl (fun c61 => ?_) (fun c61 => ?_)
    · replace h := h.2 c61
      refine sx_iconst C dL_isNoted_63 3 (by decide) 64 rfl ?_
      exact sx_sub [4, 5, 6, 7, 8, 3, 2, 1, 0] rfl h
    · replace h := h.1 c61
      refine sx_bipush C dL_isNoted_58 8 (by decide) 60 rfl ?_
      refine sx_goto C dL_isNoted_60 64 (by decide) ?_
      exact sx_sub [4, 5, 6, 7, 8, 3, 2, 1, 0] rfl h
set_option maxRecDepth 100000 in
set_option maxHeartbeats 8000000 in
theorem c_L_isCopied {l : Launch} {D : va_G} {G : sx_G} {b : Nat} {ad : Nat → Nat} {n : Nat} (hf : l.stackTraces = false) (ok : sl_ok b ad n) (hn : 8 ≤ n) {f a : sx_F} {o : sl_O} {x7 : Int32} {x8 : Int32} {Q : Int32 → sx_F → sx_F → sl_O → Prop} (h : P_L_isCopied f a o x7 x8 Q) : sl_Met l D G b ad n yL_isCopied cL_isCopied 19 (some .boolean) 10 184 8 288 [.ref (b + 0), .ref (ad 1), .ref (ad 2), .ref (ad 4), .ref (ad 5), .ref (ad 6), .ref (ad 7), .int x7, .int x8] (f, a, o) (sl_qi Q) := by
  refine sl_enter (own := RL) hf rfl rfl (Nat.le_of_ble_eq_true rfl) ?_
  intro p e s m args below meth c C hr 
  have hB : ∀ k, k < 129 → sl_A b ad n s.heap.size (b + k) := fun k h => Or.inl ⟨Nat.le_add_right _ _, Nat.add_lt_add_left h _⟩
  have hA : ∀ j, j < n → sl_A b ad n s.heap.size (ad j) := fun j h => Or.inr (Or.inl ⟨j, h, rfl⟩)
  unfold P_L_isCopied at h
  replace h := h (fun (f : sx_F) (a : sx_F) (o : sl_O) => sx_J (sl_wp D G b ad n) p l e { frames := 10, cells := 8, slots := 288, locals := 184 } s m args below meth c (sl_A b ad n s.heap.size) 19 0 (36 * 0) (sx_fin (sl_wp D G b ad n) (sl_A b ad n s.heap.size) below args s 8 288 (sl_qi Q) (fun _ _ => False)) (f, a, o) 14 [(0, .ref (b + 0)), (1, .ref (ad 1)), (2, .ref (ad 2)), (3, .ref (ad 4)), (4, .ref (ad 5)), (5, .ref (ad 6)), (6, .ref (ad 7)), (7, .int x7), (8, .int x8)] [])
  replace h := h (fun (f : sx_F) (a : sx_F) (o : sl_O) => sx_J (sl_wp D G b ad n) p l e { frames := 10, cells := 8, slots := 288, locals := 184 } s m args below meth c (sl_A b ad n s.heap.size) 19 0 (36 * 0) (sx_fin (sl_wp D G b ad n) (sl_A b ad n s.heap.size) below args s 8 288 (sl_qi Q) (fun _ _ => False)) (f, a, o) 21 [(0, .ref (b + 0)), (3, .ref (ad 4)), (6, .ref (ad 7)), (8, .int x8)] [])
  replace h := h (fun (f : sx_F) (a : sx_F) (o : sl_O) (v9 : Int32) (v10 : Int32) (v11 : Int32) (s0 : Int32) => sx_J (sl_wp D G b ad n) p l e { frames := 10, cells := 8, slots := 288, locals := 184 } s m args below meth c (sl_A b ad n s.heap.size) 19 0 (36 * 0) (sx_fin (sl_wp D G b ad n) (sl_A b ad n s.heap.size) below args s 8 288 (sl_qi Q) (fun _ _ => False)) (f, a, o) 116 [(0, .ref (b + 0)), (1, .ref (ad 1)), (2, .ref (ad 2)), (3, .ref (ad 4)), (4, .ref (ad 5)), (5, .ref (ad 6)), (6, .ref (ad 7)), (7, .int x7), (8, .int x8), (9, .int v9), (10, .int v10), (11, .int v11)] [.int s0])
  replace h := h (fun (f : sx_F) (a : sx_F) (o : sl_O) (v9 : Int32) (v10 : Int32) (v11 : Int32) (v13 : Int32) (v14 : Int32) (s0 : Int32) => sx_J (sl_wp D G b ad n) p l e { frames := 10, cells := 8, slots := 288, locals := 184 } s m args below meth c (sl_A b ad n s.heap.size) 19 0 (36 * 0) (sx_fin (sl_wp D G b ad n) (sl_A b ad n s.heap.size) below args s 8 288 (sl_qi Q) (fun _ _ => False)) (f, a, o) 147 [(0, .ref (b + 0)), (2, .ref (ad 2)), (3, .ref (ad 4)), (6, .ref (ad 7)), (9, .int v9), (10, .int v10), (11, .int v11), (13, .int v13), (14, .int v14)] [.int s0])
  replace h := h (fun (f : sx_F) (a : sx_F) (o : sl_O) (v9 : Int32) (v10 : Int32) (v11 : Int32) (v13 : Int32) (v14 : Int32) (v15 : Int32) (v16 : Int32) => sx_J (sl_wp D G b ad n) p l e { frames := 10, cells := 8, slots := 288, locals := 184 } s m args below meth c (sl_A b ad n s.heap.size) 19 0 (36 * 0) (sx_fin (sl_wp D G b ad n) (sl_A b ad n s.heap.size) below args s 8 288 (sl_qi Q) (fun _ _ => False)) (f, a, o) 152 [(0, .ref (b + 0)), (2, .ref (ad 2)), (3, .ref (ad 4)), (6, .ref (ad 7)), (9, .int v9), (10, .int v10), (11, .int v11), (13, .int v13), (14, .int v14), (15, .int v15), (16, .int v16)] [])
  replace h := h (fun (f : sx_F) (a : sx_F) (o : sl_O) (v9 : Int32) (v10 : Int32) (v11 : Int32) (v13 : Int32) (v14 : Int32) (v16 : Int32) => sx_J (sl_wp D G b ad n) p l e { frames := 10, cells := 8, slots := 288, locals := 184 } s m args below meth c (sl_A b ad n s.heap.size) 19 0 (36 * 0) (sx_fin (sl_wp D G b ad n) (sl_A b ad n s.heap.size) below args s 8 288 (sl_qi Q) (fun _ _ => False)) (f, a, o) 194 [(0, .ref (b + 0)), (2, .ref (ad 2)), (3, .ref (ad 4)), (6, .ref (ad 7)), (9, .int v9), (10, .int v10), (11, .int v11), (13, .int v13), (14, .int v14), (16, .int v16)] [])
  replace h := h (fun (f : sx_F) (a : sx_F) (o : sl_O) (v9 : Int32) (v10 : Int32) (v11 : Int32) (v13 : Int32) (v14 : Int32) (v16 : Int32) => sx_J (sl_wp D G b ad n) p l e { frames := 10, cells := 8, slots := 288, locals := 184 } s m args below meth c (sl_A b ad n s.heap.size) 19 0 (36 * 0) (sx_fin (sl_wp D G b ad n) (sl_A b ad n s.heap.size) below args s 8 288 (sl_qi Q) (fun _ _ => False)) (f, a, o) 198 [(0, .ref (b + 0)), (2, .ref (ad 2)), (3, .ref (ad 4)), (6, .ref (ad 7)), (9, .int v9), (10, .int v10), (11, .int v11), (13, .int v13), (14, .int v14), (16, .int v16)] [])
  replace h := h (fun (f : sx_F) (a : sx_F) (o : sl_O) (v9 : Int32) (v10 : Int32) (v11 : Int32) (v13 : Int32) (v14 : Int32) (v16 : Int32) (s0 : Int32) => sx_J (sl_wp D G b ad n) p l e { frames := 10, cells := 8, slots := 288, locals := 184 } s m args below meth c (sl_A b ad n s.heap.size) 19 0 (36 * 0) (sx_fin (sl_wp D G b ad n) (sl_A b ad n s.heap.size) below args s 8 288 (sl_qi Q) (fun _ _ => False)) (f, a, o) 199 [(0, .ref (b + 0)), (2, .ref (ad 2)), (3, .ref (ad 4)), (6, .ref (ad 7)), (9, .int v9), (10, .int v10), (11, .int v11), (13, .int v13), (14, .int v14), (16, .int v16)] [.int s0])
  replace h := h (fun (f : sx_F) (a : sx_F) (o : sl_O) (v9 : Int32) (v10 : Int32) (v11 : Int32) (v13 : Int32) (v15 : Int32) (v16 : Int32) (s0 : Int32) (s1 : Int32) => sx_J (sl_wp D G b ad n) p l e { frames := 10, cells := 8, slots := 288, locals := 184 } s m args below meth c (sl_A b ad n s.heap.size) 19 0 (36 * 0) (sx_fin (sl_wp D G b ad n) (sl_A b ad n s.heap.size) below args s 8 288 (sl_qi Q) (fun _ _ => False)) (f, a, o) 220 [(0, .ref (b + 0)), (2, .ref (ad 2)), (3, .ref (ad 4)), (6, .ref (ad 7)), (9, .int v9), (10, .int v10), (11, .int v11), (13, .int v13), (15, .int v15), (16, .int v16)] [.int s1, .int s0])
  replace h := h (fun (f : sx_F) (a : sx_F) (o : sl_O) (v9 : Int32) (v10 : Int32) (v11 : Int32) (v13 : Int32) (v14 : Int32) (v15 : Int32) (v16 : Int32) => sx_J (sl_wp D G b ad n) p l e { frames := 10, cells := 8, slots := 288, locals := 184 } s m args below meth c (sl_A b ad n s.heap.size) 19 0 (36 * 0) (sx_fin (sl_wp D G b ad n) (sl_A b ad n s.heap.size) below args s 8 288 (sl_qi Q) (fun _ _ => False)) (f, a, o) 232 [(0, .ref (b + 0)), (2, .ref (ad 2)), (3, .ref (ad 4)), (6, .ref (ad 7)), (9, .int v9), (10, .int v10), (11, .int v11), (13, .int v13), (14, .int v14), (15, .int v15), (16, .int v16)] [])
  replace h := h (fun (f : sx_F) (a : sx_F) (o : sl_O) (v9 : Int32) (v10 : Int32) (v11 : Int32) (v13 : Int32) (v14 : Int32) (v15 : Int32) (v16 : Int32) (s1 : Int32) (s2 : Int32) => sx_J (sl_wp D G b ad n) p l e { frames := 10, cells := 8, slots := 288, locals := 184 } s m args below meth c (sl_A b ad n s.heap.size) 19 0 (36 * 0) (sx_fin (sl_wp D G b ad n) (sl_A b ad n s.heap.size) below args s 8 288 (sl_qi Q) (fun _ _ => False)) (f, a, o) 272 [(0, .ref (b + 0)), (2, .ref (ad 2)), (3, .ref (ad 4)), (6, .ref (ad 7)), (9, .int v9), (10, .int v10), (11, .int v11), (13, .int v13), (14, .int v14), (15, .int v15), (16, .int v16)] [.int s2, .int s1, .ref (ad 4)])
  replace h := h (fun (f : sx_F) (a : sx_F) (o : sl_O) (v9 : Int32) (v10 : Int32) (v13 : Int32) (v14 : Int32) (v15 : Int32) => sx_J (sl_wp D G b ad n) p l e { frames := 10, cells := 8, slots := 288, locals := 184 } s m args below meth c (sl_A b ad n s.heap.size) 19 0 (36 * 0) (sx_fin (sl_wp D G b ad n) (sl_A b ad n s.heap.size) below args s 8 288 (sl_qi Q) (fun _ _ => False)) (f, a, o) 279 [(0, .ref (b + 0)), (3, .ref (ad 4)), (9, .int v9), (10, .int v10), (13, .int v13), (14, .int v14), (15, .int v15)] [])
  replace h := h (fun (f : sx_F) (a : sx_F) (o : sl_O) (v9 : Int32) (v13 : Int32) (v14 : Int32) (v15 : Int32) (s1 : Int32) (s2 : Int32) => sx_J (sl_wp D G b ad n) p l e { frames := 10, cells := 8, slots := 288, locals := 184 } s m args below meth c (sl_A b ad n s.heap.size) 19 0 (36 * 0) (sx_fin (sl_wp D G b ad n) (sl_A b ad n s.heap.size) below args s 8 288 (sl_qi Q) (fun _ _ => False)) (f, a, o) 300 [(0, .ref (b + 0)), (9, .int v9), (13, .int v13), (14, .int v14), (15, .int v15)] [.int s2, .int s1, .ref (ad 4)])
  replace h := h (fun (f : sx_F) (a : sx_F) (o : sl_O) (s0 : Int32) (s1 : Int32) => sx_J (sl_wp D G b ad n) p l e { frames := 10, cells := 8, slots := 288, locals := 184 } s m args below meth c (sl_A b ad n s.heap.size) 19 3 (36 * 3) (sx_fin (sl_wp D G b ad n) (sl_A b ad n s.heap.size) below args s 8 288 (sl_qi Q) (fun _ _ => False)) (f, a, o) 321 [] [.int s1, .int s0])
  replace h := h (fun (f : sx_F) (a : sx_F) (o : sl_O) (v9 : Int32) (v10 : Int32) (v11 : Int32) (v12 : Int32) (v13 : Int32) (s1 : Int32) (s2 : Int32) => sx_J (sl_wp D G b ad n) p l e { frames := 10, cells := 8, slots := 288, locals := 184 } s m args below meth c (sl_A b ad n s.heap.size) 19 0 (36 * 0) (sx_fin (sl_wp D G b ad n) (sl_A b ad n s.heap.size) below args s 8 288 (sl_qi Q) (fun _ _ => False)) (f, a, o) 368 [(0, .ref (b + 0)), (2, .ref (ad 2)), (3, .ref (ad 4)), (6, .ref (ad 7)), (7, .int x7), (9, .int v9), (10, .int v10), (11, .int v11), (12, .int v12), (13, .int v13)] [.int s2, .int s1, .ref (ad 4)])
  replace h := h (fun (f : sx_F) (a : sx_F) (o : sl_O) (v9 : Int32) (v10 : Int32) (v11 : Int32) (v12 : Int32) (v13 : Int32) (v14 : Int32) => sx_J (sl_wp D G b ad n) p l e { frames := 10, cells := 8, slots := 288, locals := 184 } s m args below meth c (sl_A b ad n s.heap.size) 19 0 (36 * 0) (sx_fin (sl_wp D G b ad n) (sl_A b ad n s.heap.size) below args s 8 288 (sl_qi Q) (fun _ _ => False)) (f, a, o) 372 [(0, .ref (b + 0)), (2, .ref (ad 2)), (3, .ref (ad 4)), (6, .ref (ad 7)), (7, .int x7), (9, .int v9), (10, .int v10), (11, .int v11), (12, .int v12), (13, .int v13), (14, .int v14)] [])
  replace h := h (fun (f : sx_F) (a : sx_F) (o : sl_O) (v9 : Int32) (v12 : Int32) (v13 : Int32) => sx_J (sl_wp D G b ad n) p l e { frames := 10, cells := 8, slots := 288, locals := 184 } s m args below meth c (sl_A b ad n s.heap.size) 19 0 (36 * 0) (sx_fin (sl_wp D G b ad n) (sl_A b ad n s.heap.size) below args s 8 288 (sl_qi Q) (fun _ _ => False)) (f, a, o) 414 [(0, .ref (b + 0)), (7, .int x7), (9, .int v9), (12, .int v12), (13, .int v13)] [])
  replace h := h (fun (f : sx_F) (a : sx_F) (o : sl_O) (s0 : Int32) (s1 : Int32) => sx_J (sl_wp D G b ad n) p l e { frames := 10, cells := 8, slots := 288, locals := 184 } s m args below meth c (sl_A b ad n s.heap.size) 19 2 (36 * 2) (sx_fin (sl_wp D G b ad n) (sl_A b ad n s.heap.size) below args s 8 288 (sl_qi Q) (fun _ _ => False)) (f, a, o) 436 [] [.int s1, .int s0])
  replace h := h (fun (f : sx_F) (a : sx_F) (o : sl_O) (v9 : Int32) (v10 : Int32) (v13 : Int32) (v14 : Int32) => sx_J (sl_wp D G b ad n) p l e { frames := 10, cells := 8, slots := 288, locals := 184 } s m args below meth c (sl_A b ad n s.heap.size) 19 0 (36 * 0) (sx_fin (sl_wp D G b ad n) (sl_A b ad n s.heap.size) below args s 8 288 (sl_qi Q) (fun _ _ => False)) (f, a, o) 494 [(0, .ref (b + 0)), (3, .ref (ad 4)), (4, .ref (ad 5)), (9, .int v9), (10, .int v10), (13, .int v13), (14, .int v14)] [])
  replace h := h (fun (f : sx_F) (a : sx_F) (o : sl_O) (v9 : Int32) (v10 : Int32) (v13 : Int32) (v14 : Int32) (s0 : Int32) => sx_J (sl_wp D G b ad n) p l e { frames := 10, cells := 8, slots := 288, locals := 184 } s m args below meth c (sl_A b ad n s.heap.size) 19 0 (36 * 0) (sx_fin (sl_wp D G b ad n) (sl_A b ad n s.heap.size) below args s 8 288 (sl_qi Q) (fun _ _ => False)) (f, a, o) 495 [(0, .ref (b + 0)), (3, .ref (ad 4)), (4, .ref (ad 5)), (9, .int v9), (10, .int v10), (13, .int v13), (14, .int v14)] [.int s0])
  replace h := h (fun (f : sx_F) (a : sx_F) (o : sl_O) (v9 : Int32) (v10 : Int32) (v13 : Int32) (v14 : Int32) (v15 : Int32) (s0 : Int32) => sx_J (sl_wp D G b ad n) p l e { frames := 10, cells := 8, slots := 288, locals := 184 } s m args below meth c (sl_A b ad n s.heap.size) 19 0 (36 * 0) (sx_fin (sl_wp D G b ad n) (sl_A b ad n s.heap.size) below args s 8 288 (sl_qi Q) (fun _ _ => False)) (f, a, o) 519 [(0, .ref (b + 0)), (3, .ref (ad 4)), (4, .ref (ad 5)), (9, .int v9), (10, .int v10), (13, .int v13), (14, .int v14), (15, .int v15)] [.int s0])
  replace h := h (fun (f : sx_F) (a : sx_F) (o : sl_O) (v9 : Int32) (v13 : Int32) (v14 : Int32) (v15 : Int32) (v17 : Int32) (s1 : Int32) (s2 : Int64) => sx_J (sl_wp D G b ad n) p l e { frames := 10, cells := 8, slots := 288, locals := 184 } s m args below meth c (sl_A b ad n s.heap.size) 19 0 (36 * 0) (sx_fin (sl_wp D G b ad n) (sl_A b ad n s.heap.size) below args s 8 288 (sl_qi Q) (fun _ _ => False)) (f, a, o) 598 [(0, .ref (b + 0)), (9, .int v9), (13, .int v13), (14, .int v14), (15, .int v15), (17, .int v17)] [.long s2, .int s1, .ref (ad 5)])
  replace h := h (fun (f : sx_F) (a : sx_F) (o : sl_O) (s0 : Int32) (s1 : Int32) => sx_J (sl_wp D G b ad n) p l e { frames := 10, cells := 8, slots := 288, locals := 184 } s m args below meth c (sl_A b ad n s.heap.size) 19 6 (36 * 6) (sx_fin (sl_wp D G b ad n) (sl_A b ad n s.heap.size) below args s 8 288 (sl_qi Q) (fun _ _ => False)) (f, a, o) 621 [] [.int s1, .int s0])
  replace h := h (fun (f : sx_F) (a : sx_F) (o : sl_O) (v9 : Int32) (v10 : Int32) (v11 : Int32) (v13 : Int32) (v14 : Int32) (v15 : Int32) => sx_J (sl_wp D G b ad n) p l e { frames := 10, cells := 8, slots := 288, locals := 184 } s m args below meth c (sl_A b ad n s.heap.size) 19 0 (36 * 0) (sx_fin (sl_wp D G b ad n) (sl_A b ad n s.heap.size) below args s 8 288 (sl_qi Q) (fun _ _ => False)) (f, a, o) 713 [(0, .ref (b + 0)), (2, .ref (ad 2)), (3, .ref (ad 4)), (5, .ref (ad 6)), (9, .int v9), (10, .int v10), (11, .int v11), (13, .int v13), (14, .int v14), (15, .int v15)] [])
  replace h := h (fun (f : sx_F) (a : sx_F) (o : sl_O) (v9 : Int32) (v10 : Int32) (v11 : Int32) (v13 : Int32) (v14 : Int32) (v15 : Int32) (s0 : Int32) => sx_J (sl_wp D G b ad n) p l e { frames := 10, cells := 8, slots := 288, locals := 184 } s m args below meth c (sl_A b ad n s.heap.size) 19 0 (36 * 0) (sx_fin (sl_wp D G b ad n) (sl_A b ad n s.heap.size) below args s 8 288 (sl_qi Q) (fun _ _ => False)) (f, a, o) 714 [(0, .ref (b + 0)), (2, .ref (ad 2)), (3, .ref (ad 4)), (5, .ref (ad 6)), (9, .int v9), (10, .int v10), (11, .int v11), (13, .int v13), (14, .int v14), (15, .int v15)] [.int s0])
  replace h := h (fun (f : sx_F) (a : sx_F) (o : sl_O) (v9 : Int32) (v10 : Int32) (v11 : Int32) (v13 : Int32) (v14 : Int32) (v15 : Int32) (v16 : Int32) (s0 : Int32) => sx_J (sl_wp D G b ad n) p l e { frames := 10, cells := 8, slots := 288, locals := 184 } s m args below meth c (sl_A b ad n s.heap.size) 19 0 (36 * 0) (sx_fin (sl_wp D G b ad n) (sl_A b ad n s.heap.size) below args s 8 288 (sl_qi Q) (fun _ _ => False)) (f, a, o) 737 [(0, .ref (b + 0)), (2, .ref (ad 2)), (3, .ref (ad 4)), (5, .ref (ad 6)), (9, .int v9), (10, .int v10), (11, .int v11), (13, .int v13), (14, .int v14), (15, .int v15), (16, .int v16)] [.int s0])
  replace h := h (fun (f : sx_F) (a : sx_F) (o : sl_O) (v9 : Int32) (v11 : Int32) (v13 : Int32) (v14 : Int32) (v15 : Int32) (v16 : Int32) (v17 : Int32) (s0 : Int32) => sx_J (sl_wp D G b ad n) p l e { frames := 10, cells := 8, slots := 288, locals := 184 } s m args below meth c (sl_A b ad n s.heap.size) 19 0 (36 * 0) (sx_fin (sl_wp D G b ad n) (sl_A b ad n s.heap.size) below args s 8 288 (sl_qi Q) (fun _ _ => False)) (f, a, o) 764 [(0, .ref (b + 0)), (2, .ref (ad 2)), (5, .ref (ad 6)), (9, .int v9), (11, .int v11), (13, .int v13), (14, .int v14), (15, .int v15), (16, .int v16), (17, .int v17)] [.int s0])
  replace h := h (fun (f : sx_F) (a : sx_F) (o : sl_O) (v9 : Int32) (v13 : Int32) (v14 : Int32) (v15 : Int32) (v16 : Int32) (v18 : Int32) (s1 : Int32) (s2 : Int64) => sx_J (sl_wp D G b ad n) p l e { frames := 10, cells := 8, slots := 288, locals := 184 } s m args below meth c (sl_A b ad n s.heap.size) 19 0 (36 * 0) (sx_fin (sl_wp D G b ad n) (sl_A b ad n s.heap.size) below args s 8 288 (sl_qi Q) (fun _ _ => False)) (f, a, o) 819 [(0, .ref (b + 0)), (9, .int v9), (13, .int v13), (14, .int v14), (15, .int v15), (16, .int v16), (18, .int v18)] [.long s2, .int s1, .ref (ad 6)])
  replace h := h (fun (f : sx_F) (a : sx_F) (o : sl_O) (s0 : Int32) (s1 : Int32) => sx_J (sl_wp D G b ad n) p l e { frames := 10, cells := 8, slots := 288, locals := 184 } s m args below meth c (sl_A b ad n s.heap.size) 19 8 (36 * 8) (sx_fin (sl_wp D G b ad n) (sl_A b ad n s.heap.size) below args s 8 288 (sl_qi Q) (fun _ _ => False)) (f, a, o) 844 [] [.int s1, .int s0])
  replace h := h (fun (f : sx_F) (a : sx_F) (o : sl_O) (v14 : Int32) (v15 : Int32) (v16 : Int32) => sx_J (sl_wp D G b ad n) p l e { frames := 10, cells := 8, slots := 288, locals := 184 } s m args below meth c (sl_A b ad n s.heap.size) 19 0 (36 * 0) (sx_fin (sl_wp D G b ad n) (sl_A b ad n s.heap.size) below args s 8 288 (sl_qi Q) (fun _ _ => False)) (f, a, o) 862 [(0, .ref (b + 0)), (2, .ref (ad 2)), (3, .ref (ad 4)), (6, .ref (ad 7)), (14, .int v14), (15, .int v15), (16, .int v16)] [])
  replace h := h (fun (f : sx_F) (a : sx_F) (o : sl_O) (v15 : Int32) (v16 : Int32) (s0 : Int32) (s1 : Int32) => sx_J (sl_wp D G b ad n) p l e { frames := 10, cells := 8, slots := 288, locals := 184 } s m args below meth c (sl_A b ad n s.heap.size) 19 0 (36 * 0) (sx_fin (sl_wp D G b ad n) (sl_A b ad n s.heap.size) below args s 8 288 (sl_qi Q) (fun _ _ => False)) (f, a, o) 890 [(0, .ref (b + 0)), (2, .ref (ad 2)), (3, .ref (ad 4)), (6, .ref (ad 7)), (15, .int v15), (16, .int v16)] [.int s1, .int s0])
  replace h := h (fun (f : sx_F) (a : sx_F) (o : sl_O) (v14 : Int32) (v16 : Int32) => sx_J (sl_wp D G b ad n) p l e { frames := 10, cells := 8, slots := 288, locals := 184 } s m args below meth c (sl_A b ad n s.heap.size) 19 0 (36 * 0) (sx_fin (sl_wp D G b ad n) (sl_A b ad n s.heap.size) below args s 8 288 (sl_qi Q) (fun _ _ => False)) (f, a, o) 914 [(0, .ref (b + 0)), (2, .ref (ad 2)), (3, .ref (ad 4)), (6, .ref (ad 7)), (14, .int v14), (16, .int v16)] [])
  replace h := h (fun (f : sx_F) (a : sx_F) (o : sl_O) (v14 : Int32) (v16 : Int32) (s0 : Int32) => sx_J (sl_wp D G b ad n) p l e { frames := 10, cells := 8, slots := 288, locals := 184 } s m args below meth c (sl_A b ad n s.heap.size) 19 0 (36 * 0) (sx_fin (sl_wp D G b ad n) (sl_A b ad n s.heap.size) below args s 8 288 (sl_qi Q) (fun _ _ => False)) (f, a, o) 915 [(0, .ref (b + 0)), (2, .ref (ad 2)), (3, .ref (ad 4)), (6, .ref (ad 7)), (14, .int v14), (16, .int v16)] [.int s0])
  replace h := h (fun (f : sx_F) (a : sx_F) (o : sl_O) (v14 : Int32) (v15 : Int32) (s1 : Int32) (s2 : Int32) => sx_J (sl_wp D G b ad n) p l e { frames := 10, cells := 8, slots := 288, locals := 184 } s m args below meth c (sl_A b ad n s.heap.size) 19 0 (36 * 0) (sx_fin (sl_wp D G b ad n) (sl_A b ad n s.heap.size) below args s 8 288 (sl_qi Q) (fun _ _ => False)) (f, a, o) 942 [(0, .ref (b + 0)), (14, .int v14), (15, .int v15)] [.int s2, .int s1, .ref (ad 7)])
  replace h := h (fun (f : sx_F) (a : sx_F) (o : sl_O) (v14 : Int32) (v15 : Int32) (s1 : Int32) (s2 : Int32) (s3 : Int32) => sx_J (sl_wp D G b ad n) p l e { frames := 10, cells := 8, slots := 288, locals := 184 } s m args below meth c (sl_A b ad n s.heap.size) 19 0 (36 * 0) (sx_fin (sl_wp D G b ad n) (sl_A b ad n s.heap.size) below args s 8 288 (sl_qi Q) (fun _ _ => False)) (f, a, o) 943 [(0, .ref (b + 0)), (14, .int v14), (15, .int v15)] [.int s3, .int s2, .int s1, .ref (ad 7)])
  replace h := h (fun (f : sx_F) (a : sx_F) (o : sl_O) (s0 : Int32) => sx_J (sl_wp D G b ad n) p l e { frames := 10, cells := 8, slots := 288, locals := 184 } s m args below meth c (sl_A b ad n s.heap.size) 19 1 (36 * 1) (sx_fin (sl_wp D G b ad n) (sl_A b ad n s.heap.size) below args s 8 288 (sl_qi Q) (fun _ _ => False)) (f, a, o) 964 [] [.int s0])
  replace h := h (fun (f : sx_F) (a : sx_F) (o : sl_O) (s0 : Int32) (s1 : Int32) => sx_J (sl_wp D G b ad n) p l e { frames := 10, cells := 8, slots := 288, locals := 184 } s m args below meth c (sl_A b ad n s.heap.size) 19 1 (36 * 1) (sx_fin (sl_wp D G b ad n) (sl_A b ad n s.heap.size) below args s 8 288 (sl_qi Q) (fun _ _ => False)) (f, a, o) 966 [] [.int s1, .int s0])
  replace h := h (by
    intro f a o h
    refine sx_aload C dL_isCopied_14 6 rfl 16 rfl ?_
    refine sx_iconst C dL_isCopied_16 3 (by decide) 17 rfl ?_
    refine sl_iald C dL_isCopied_17 (Nat.lt_of_lt_of_le (show 7 < 8 by decide) hn) rfl h.1 18 rfl ?_
    replace h := h.2
    refine sx_if_ne C dL_isCopied_18 77 21 (by decide) rfl (fun c1 => ?_) (fun c1 => ?_)
    · replace h := h.2 c1
      refine sx_iload C dL_isCopied_77 8 rfl 79 rfl ?_
      refine sx_aload C dL_isCopied_79 6 rfl 81 rfl ?_
      refine sx_iconst C dL_isCopied_81 3 (by decide) 82 rfl ?_
      refine sl_iald C dL_isCopied_82 (Nat.lt_of_lt_of_le (show 7 < 8 by decide) hn) rfl h.1 83 rfl ?_
      replace h := h.2
      refine sx_irem C dL_isCopied_83 h.1 84 rfl ?_
      replace h := h.2
      refine sx_topi (fun y2 ey2 => ?_)
      replace h := h y2 ey2
      refine sx_istore C dL_isCopied_84 [(9, .int y2), (0, .ref (b + 0)), (1, .ref (ad 1)), (2, .ref (ad 2)), (3, .ref (ad 4)), (4, .ref (ad 5)), (5, .ref (ad 6)), (6, .ref (ad 7)), (7, .int x7), (8, .int x8)] (by decide) rfl 86 rfl ?_
      refine sx_bipush C dL_isCopied_86 8 (by decide) 88 rfl ?_
      refine sx_iload C dL_isCopied_88 0 rfl 90 rfl ?_
      refine sx_imul C dL_isCopied_90 91 rfl ?_
      refine sx_topi (fun y3 ey3 => ?_)
      replace h := h y3 ey3
      refine sx_istore C dL_isCopied_91 [(10, .int y3), (9, .int y2), (0, .ref (b + 0)), (1, .ref (ad 1)), (2, .ref (ad 2)), (3, .ref (ad 4)), (4, .ref (ad 5)), (5, .ref (ad 6)), (6, .ref (ad 7)), (7, .int x7), (8, .int x8)] (by decide) rfl 93 rfl ?_
      refine sx_bipush C dL_isCopied_93 6 (by decide) 95 rfl ?_
      refine sx_aload_n C dL_isCopied_95 3 5 rfl rfl 96 rfl ?_
      refine sx_iload C dL_isCopied_96 0 rfl 98 rfl ?_
      refine sl_iald C dL_isCopied_98 (Nat.lt_of_lt_of_le (show 4 < 8 by decide) hn) rfl h.1 99 rfl ?_
      replace h := h.2
      refine sx_imul C dL_isCopied_99 100 rfl ?_
      refine sx_topi (fun y4 ey4 => ?_)
      replace h := h y4 ey4
      refine sx_istore C dL_isCopied_100 [(11, .int y4), (10, .int y3), (9, .int y2), (0, .ref (b + 0)), (1, .ref (ad 1)), (2, .ref (ad 2)), (3, .ref (ad 4)), (4, .ref (ad 5)), (5, .ref (ad 6)), (6, .ref (ad 7)), (7, .int x7), (8, .int x8)] (by decide) rfl 102 rfl ?_
      refine sx_aload_n C dL_isCopied_102 3 6 rfl rfl 103 rfl ?_
      refine sx_iload C dL_isCopied_103 1 rfl 105 rfl ?_
      refine sx_iconst C dL_isCopied_105 1 (by decide) 106 rfl ?_
      refine sx_iadd C dL_isCopied_106 107 rfl ?_
      refine sl_iald C dL_isCopied_107 (Nat.lt_of_lt_of_le (show 4 < 8 by decide) hn) rfl h.1 108 rfl ?_
      replace h := h.2
      refine sx_if_lt C dL_isCopied_108 115 111 (by decide) rfl (fun c5 => ?_) (fun c5 => ?_)
      · replace h := h.1 c5
        refine sx_iconst C dL_isCopied_115 0 (by decide) 116 rfl ?_
        exact sx_sub [3, 4, 5, 6, 7, 8, 9, 10, 11, 2, 1, 0] rfl h
      · replace h := h.2 c5
        refine sx_iconst C dL_isCopied_111 1 (by decide) 112 rfl ?_
        refine sx_goto C dL_isCopied_112 116 (by decide) ?_
        exact sx_sub [3, 4, 5, 6, 7, 8, 9, 10, 11, 2, 1, 0] rfl h
    · replace h := h.1 c1
      exact sx_sub [0, 3, 6, 8] rfl h)
  replace h := h (by
    intro f a o h
    refine sx_aload_n C dL_isCopied_21 3 1 rfl rfl 22 rfl ?_
    refine sx_bipush C dL_isCopied_22 8 (by decide) 24 rfl ?_
    refine sx_aload C dL_isCopied_24 2 rfl 26 rfl ?_
    refine sx_iconst C dL_isCopied_26 3 (by decide) 27 rfl ?_
    refine sl_iald C dL_isCopied_27 (Nat.lt_of_lt_of_le (show 7 < 8 by decide) hn) rfl h.1 28 rfl ?_
    replace h := h.2
    refine sx_imul C dL_isCopied_28 29 rfl ?_
    refine sx_iload C dL_isCopied_29 3 rfl 31 rfl ?_
    refine sx_iconst C dL_isCopied_31 3 (by decide) 32 rfl ?_
    refine sx_irem C dL_isCopied_32 (by decide) 33 rfl ?_
    refine sl_iast C dL_isCopied_33 ok hB hA (Nat.lt_of_lt_of_le (show 4 < 8 by decide) hn) rfl h.1 34 rfl (fun a6 ea6 => ?_)
    replace h := h.2 a6 ea6
    refine sx_aload_n C dL_isCopied_34 3 1 rfl rfl 35 rfl ?_
    refine sx_bipush C dL_isCopied_35 8 (by decide) 37 rfl ?_
    refine sx_aload C dL_isCopied_37 2 rfl 39 rfl ?_
    refine sx_iconst C dL_isCopied_39 3 (by decide) 40 rfl ?_
    refine sl_iald C dL_isCopied_40 (Nat.lt_of_lt_of_le (show 7 < 8 by decide) hn) rfl h.1 41 rfl ?_
    replace h := h.2
    refine sx_imul C dL_isCopied_41 42 rfl ?_
    refine sx_iconst C dL_isCopied_42 1 (by decide) 43 rfl ?_
    refine sx_iadd C dL_isCopied_43 44 rfl ?_
    refine sx_iconst C dL_isCopied_44 (-1) (by decide) 45 rfl ?_
    refine sl_iast C dL_isCopied_45 ok hB hA (Nat.lt_of_lt_of_le (show 4 < 8 by decide) hn) rfl h.1 46 rfl (fun a7 ea7 => ?_)
    replace h := h.2 a7 ea7
    refine sx_aload C dL_isCopied_46 2 rfl 48 rfl ?_
    refine sx_iconst C dL_isCopied_48 3 (by decide) 49 rfl ?_
    refine sx_dup2 C dL_isCopied_49 rfl rfl 50 rfl ?_
    refine sl_iald C dL_isCopied_50 (Nat.lt_of_lt_of_le (show 7 < 8 by decide) hn) rfl h.1 51 rfl ?_
    replace h := h.2
    refine sx_iconst C dL_isCopied_51 1 (by decide) 52 rfl ?_
    refine sx_iadd C dL_isCopied_52 53 rfl ?_
    refine sl_iast C dL_isCopied_53 ok hB hA (Nat.lt_of_lt_of_le (show 7 < 8 by decide) hn) rfl h.1 54 rfl (fun a8 ea8 => ?_)
    replace h := h.2 a8 ea8
    refine sx_aload_n C dL_isCopied_54 0 0 rfl rfl 55 rfl ?_
    refine sx_iload C dL_isCopied_55 3 rfl 57 rfl ?_
    refine sx_iconst C dL_isCopied_57 3 (by decide) 58 rfl ?_
    refine sx_irem C dL_isCopied_58 (by decide) 59 rfl ?_
    refine sl_callX C ok hB (st := []) dL_isCopied_59 (c0_X6_copy hf h) mi_X6_copy lk_L_195 mn_X6_copy ms_X6_copy (by decide) lyX_0 rfl rfl rfl rfl ⟨⟨(Nat.le_of_ble_eq_true rfl), (Nat.le_of_ble_eq_true rfl)⟩, (Nat.le_of_ble_eq_true rfl), (Nat.le_of_ble_eq_true rfl)⟩ (Nat.le_of_ble_eq_true rfl) 62 rfl (fun v g10 h => ?_)
    obtain ⟨r9, rfl, h⟩ := h
    refine sx_aload C dL_isCopied_62 2 rfl 64 rfl ?_
    refine sx_iconst C dL_isCopied_64 3 (by decide) 65 rfl ?_
    refine sl_iald C dL_isCopied_65 (Nat.lt_of_lt_of_le (show 7 < 8 by decide) hn) rfl h.1 66 rfl ?_
    replace h := h.2
    refine sx_iconst C dL_isCopied_66 1 (by decide) 67 rfl ?_
    refine sx_isub C dL_isCopied_67 68 rfl ?_
    refine sx_icmp_ne C dL_isCopied_68 75 71 (by decide) rfl (fun c11 => ?_) (fun c11 => ?_)
    · replace h := h.2 c11
      refine sx_iconst C dL_isCopied_75 0 (by decide) 76 rfl ?_
      exact sx_zret C dL_isCopied_76 hr (Nat.le_of_ble_eq_true rfl) (Nat.le_of_ble_eq_true rfl) (Or.inl rfl) ⟨_, rfl, h⟩
    · replace h := h.1 c11
      refine sx_iconst C dL_isCopied_71 1 (by decide) 72 rfl ?_
      refine sx_goto C dL_isCopied_72 76 (by decide) ?_
      exact sx_zret C dL_isCopied_76 hr (Nat.le_of_ble_eq_true rfl) (Nat.le_of_ble_eq_true rfl) (Or.inr rfl) ⟨_, rfl, h⟩)
  replace h := h (by
    intro f a o v9 v10 v11 s0 h
    refine sx_istore C dL_isCopied_116 [(12, .int s0), (0, .ref (b + 0)), (1, .ref (ad 1)), (2, .ref (ad 2)), (3, .ref (ad 4)), (4, .ref (ad 5)), (5, .ref (ad 6)), (6, .ref (ad 7)), (7, .int x7), (8, .int x8), (9, .int v9), (10, .int v10), (11, .int v11)] (by decide) rfl 118 rfl ?_
    refine sx_iload C dL_isCopied_118 8 rfl 120 rfl ?_
    refine sx_iconst C dL_isCopied_120 3 (by decide) 121 rfl ?_
    refine sx_icmp_ge C dL_isCopied_121 330 124 (by decide) rfl (fun c12 => ?_) (fun c12 => ?_)
    · replace h := h.1 c12
      refine sx_iload C dL_isCopied_330 8 rfl 332 rfl ?_
      refine sx_iconst C dL_isCopied_332 5 (by decide) 333 rfl ?_
      refine sx_icmp_ge C dL_isCopied_333 445 336 (by decide) rfl (fun c13 => ?_) (fun c13 => ?_)
      · replace h := h.1 c13
        refine sx_iload C dL_isCopied_445 9 rfl 447 rfl ?_
        refine sx_bipush C dL_isCopied_447 6 (by decide) 449 rfl ?_
        refine sx_idiv C dL_isCopied_449 (by decide) 450 rfl ?_
        refine sx_aload C dL_isCopied_450 7 rfl 452 rfl ?_
        refine sx_iconst C dL_isCopied_452 0 (by decide) 453 rfl ?_
        refine sl_iald C dL_isCopied_453 (Nat.lt_of_lt_of_le (show 7 < 8 by decide) hn) rfl h.1 454 rfl ?_
        replace h := h.2
        refine sx_irem C dL_isCopied_454 h.1 455 rfl ?_
        replace h := h.2
        refine sx_topi (fun y14 ey14 => ?_)
        replace h := h y14 ey14
        refine sx_istore C dL_isCopied_455 [(13, .int y14), (12, .int s0), (0, .ref (b + 0)), (1, .ref (ad 1)), (2, .ref (ad 2)), (3, .ref (ad 4)), (4, .ref (ad 5)), (5, .ref (ad 6)), (6, .ref (ad 7)), (7, .int x7), (8, .int x8), (9, .int v9), (10, .int v10), (11, .int v11)] (by decide) rfl 457 rfl ?_
        refine sx_iload C dL_isCopied_457 9 rfl 459 rfl ?_
        refine sx_iconst C dL_isCopied_459 5 (by decide) 460 rfl ?_
        refine sx_icmp_ne C dL_isCopied_460 630 463 (by decide) rfl (fun c15 => ?_) (fun c15 => ?_)
        · replace h := h.2 c15
          refine sx_iload C dL_isCopied_630 9 rfl 632 rfl ?_
          refine sx_bipush C dL_isCopied_632 8 (by decide) 634 rfl ?_
          refine sx_icmp_ge C dL_isCopied_634 853 637 (by decide) rfl (fun c16 => ?_) (fun c16 => ?_)
          · replace h := h.1 c16
            refine sx_iconst C dL_isCopied_853 0 (by decide) 854 rfl ?_
            refine sx_istore C dL_isCopied_854 [(14, .int 0), (13, .int y14), (12, .int s0), (0, .ref (b + 0)), (1, .ref (ad 1)), (2, .ref (ad 2)), (3, .ref (ad 4)), (4, .ref (ad 5)), (5, .ref (ad 6)), (6, .ref (ad 7)), (7, .int x7), (8, .int x8), (9, .int v9), (10, .int v10), (11, .int v11)] (by decide) rfl 856 rfl ?_
            refine sx_iconst C dL_isCopied_856 1 (by decide) 857 rfl ?_
            refine sx_istore C dL_isCopied_857 [(15, .int 1), (14, .int 0), (13, .int y14), (12, .int s0), (0, .ref (b + 0)), (1, .ref (ad 1)), (2, .ref (ad 2)), (3, .ref (ad 4)), (4, .ref (ad 5)), (5, .ref (ad 6)), (6, .ref (ad 7)), (7, .int x7), (8, .int x8), (9, .int v9), (10, .int v10), (11, .int v11)] (by decide) rfl 859 rfl ?_
            refine sx_iconst C dL_isCopied_859 0 (by decide) 860 rfl ?_
            refine sx_istore C dL_isCopied_860 [(16, .int 0), (15, .int 1), (14, .int 0), (13, .int y14), (12, .int s0), (0, .ref (b + 0)), (1, .ref (ad 1)), (2, .ref (ad 2)), (3, .ref (ad 4)), (4, .ref (ad 5)), (5, .ref (ad 6)), (6, .ref (ad 7)), (7, .int x7), (8, .int x8), (9, .int v9), (10, .int v10), (11, .int v11)] (by decide) rfl 862 rfl ?_
            exact sx_sub [5, 7, 8, 11, 2, 1, 0] rfl h
          · replace h := h.2 c16
            refine sx_iload C dL_isCopied_637 10 rfl 639 rfl ?_
            refine sx_bipush C dL_isCopied_639 36 (by decide) 641 rfl ?_
            refine sx_idiv C dL_isCopied_641 (by decide) 642 rfl ?_
            refine sx_iconst C dL_isCopied_642 3 (by decide) 643 rfl ?_
            refine sx_irem C dL_isCopied_643 (by decide) 644 rfl ?_
            refine sx_topi (fun y17 ey17 => ?_)
            replace h := h y17 ey17
            refine sx_istore C dL_isCopied_644 [(14, .int y17), (13, .int y14), (12, .int s0), (0, .ref (b + 0)), (1, .ref (ad 1)), (2, .ref (ad 2)), (3, .ref (ad 4)), (4, .ref (ad 5)), (5, .ref (ad 6)), (6, .ref (ad 7)), (7, .int x7), (8, .int x8), (9, .int v9), (10, .int v10), (11, .int v11)] (by decide) rfl 646 rfl ?_
            refine sx_iload C dL_isCopied_646 14 rfl 648 rfl ?_
            refine sx_iload C dL_isCopied_648 1 rfl 650 rfl ?_
            refine sx_iadd C dL_isCopied_650 651 rfl ?_
            refine sx_topi (fun y18 ey18 => ?_)
            replace h := h y18 ey18
            refine sx_istore C dL_isCopied_651 [(11, .int y18), (14, .int y17), (13, .int y14), (12, .int s0), (0, .ref (b + 0)), (1, .ref (ad 1)), (2, .ref (ad 2)), (3, .ref (ad 4)), (4, .ref (ad 5)), (5, .ref (ad 6)), (6, .ref (ad 7)), (7, .int x7), (8, .int x8), (9, .int v9), (10, .int v10)] (by decide) rfl 653 rfl ?_
            refine sx_aload_n C dL_isCopied_653 3 7 rfl rfl 654 rfl ?_
            refine sx_iload C dL_isCopied_654 14 rfl 656 rfl ?_
            refine sl_iald C dL_isCopied_656 (Nat.lt_of_lt_of_le (show 4 < 8 by decide) hn) rfl h.1 657 rfl ?_
            replace h := h.2
            refine sx_iconst C dL_isCopied_657 1 (by decide) 658 rfl ?_
            refine sx_icmp_gt C dL_isCopied_658 678 661 (by decide) rfl (fun c19 => ?_) (fun c19 => ?_)
            · replace h := h.1 c19
              refine sx_iconst C dL_isCopied_678 1 (by decide) 679 rfl ?_
              exact sx_zret C dL_isCopied_679 hr (Nat.le_of_ble_eq_true rfl) (Nat.le_of_ble_eq_true rfl) (Or.inr rfl) ⟨_, rfl, h⟩
            · replace h := h.2 c19
              refine sx_aload_n C dL_isCopied_661 3 7 rfl rfl 662 rfl ?_
              refine sx_iload C dL_isCopied_662 14 rfl 664 rfl ?_
              refine sx_iconst C dL_isCopied_664 1 (by decide) 665 rfl ?_
              refine sx_iadd C dL_isCopied_665 666 rfl ?_
              refine sl_iald C dL_isCopied_666 (Nat.lt_of_lt_of_le (show 4 < 8 by decide) hn) rfl h.1 667 rfl ?_
              replace h := h.2
              refine sx_iconst C dL_isCopied_667 3 (by decide) 668 rfl ?_
              refine sx_icmp_gt C dL_isCopied_668 678 671 (by decide) rfl (fun c20 => ?_) (fun c20 => ?_)
              · replace h := h.1 c20
                refine sx_iconst C dL_isCopied_678 1 (by decide) 679 rfl ?_
                exact sx_zret C dL_isCopied_679 hr (Nat.le_of_ble_eq_true rfl) (Nat.le_of_ble_eq_true rfl) (Or.inr rfl) ⟨_, rfl, h⟩
              · replace h := h.2 c20
                refine sx_aload_n C dL_isCopied_671 1 5 rfl rfl 672 rfl ?_
                refine sx_iload C dL_isCopied_672 0 rfl 674 rfl ?_
                refine sl_iald C dL_isCopied_674 (Nat.lt_of_lt_of_le (show 1 < 8 by decide) hn) rfl h.1 675 rfl ?_
                replace h := h.2
                refine sx_if_ne C dL_isCopied_675 680 678 (by decide) rfl (fun c21 => ?_) (fun c21 => ?_)
                · replace h := h.2 c21
                  refine sx_iload C dL_isCopied_680 12 rfl 682 rfl ?_
                  refine sx_bipush C dL_isCopied_682 108 (by decide) 684 rfl ?_
                  refine sx_idiv C dL_isCopied_684 (by decide) 685 rfl ?_
                  refine sx_aload_n C dL_isCopied_685 1 5 rfl rfl 686 rfl ?_
                  refine sx_iload C dL_isCopied_686 0 rfl 688 rfl ?_
                  refine sl_iald C dL_isCopied_688 (Nat.lt_of_lt_of_le (show 1 < 8 by decide) hn) rfl h.1 689 rfl ?_
                  replace h := h.2
                  refine sx_irem C dL_isCopied_689 h.1 690 rfl ?_
                  replace h := h.2
                  refine sx_topi (fun y22 ey22 => ?_)
                  replace h := h y22 ey22
                  refine sx_istore C dL_isCopied_690 [(15, .int y22), (11, .int y18), (14, .int y17), (13, .int y14), (12, .int s0), (0, .ref (b + 0)), (1, .ref (ad 1)), (2, .ref (ad 2)), (3, .ref (ad 4)), (4, .ref (ad 5)), (5, .ref (ad 6)), (6, .ref (ad 7)), (7, .int x7), (8, .int x8), (9, .int v9), (10, .int v10)] (by decide) rfl 692 rfl ?_
                  refine sx_iload C dL_isCopied_692 4 rfl 694 rfl ?_
                  refine sx_if_eq C dL_isCopied_694 713 697 (by decide) rfl (fun c23 => ?_) (fun c23 => ?_)
                  · replace h := h.1 c23
                    exact sx_sub [5, 7, 8, 10, 14, 15, 1, 3, 2, 0] rfl h
                  · replace h := h.2 c23
                    refine sx_aload_n C dL_isCopied_697 2 7 rfl rfl 698 rfl ?_
                    refine sx_aload_n C dL_isCopied_698 3 8 rfl rfl 699 rfl ?_
                    refine sx_iload C dL_isCopied_699 14 rfl 701 rfl ?_
                    refine sx_iload C dL_isCopied_701 3 rfl 703 rfl ?_
                    refine sl_callS C hB hA (st := []) dL_isCopied_703 (c_L_owes hf ok hn h) mi_L_owes lk_L_110 mt_L_owes rfl rfl ⟨⟨(Nat.le_of_ble_eq_true rfl), (Nat.le_of_ble_eq_true rfl)⟩, (Nat.le_of_ble_eq_true rfl), (Nat.le_of_ble_eq_true rfl)⟩ (Nat.le_of_ble_eq_true rfl) 706 rfl (fun v g25 a26 o27 h => ?_)
                    obtain ⟨⟨r24, rfl, h⟩, e9⟩ := h
                    cases e9
                    refine sx_if_ne C dL_isCopied_706 713 709 (by decide) rfl (fun c28 => ?_) (fun c28 => ?_)
                    · replace h := h.2 c28
                      exact sx_sub [5, 7, 8, 10, 14, 15, 1, 3, 2, 0] rfl h
                    · replace h := h.1 c28
                      refine sx_iconst C dL_isCopied_709 1 (by decide) 710 rfl ?_
                      refine sx_goto C dL_isCopied_710 714 (by decide) ?_
                      exact sx_sub [5, 7, 8, 10, 14, 15, 1, 3, 2, 0] rfl h
                · replace h := h.1 c21
                  refine sx_iconst C dL_isCopied_678 1 (by decide) 679 rfl ?_
                  exact sx_zret C dL_isCopied_679 hr (Nat.le_of_ble_eq_true rfl) (Nat.le_of_ble_eq_true rfl) (Or.inr rfl) ⟨_, rfl, h⟩
        · replace h := h.1 c15
          refine sx_iload C dL_isCopied_463 10 rfl 465 rfl ?_
          refine sx_bipush C dL_isCopied_465 36 (by decide) 467 rfl ?_
          refine sx_idiv C dL_isCopied_467 (by decide) 468 rfl ?_
          refine sx_bipush C dL_isCopied_468 10 (by decide) 470 rfl ?_
          refine sx_irem C dL_isCopied_470 (by decide) 471 rfl ?_
          refine sx_topi (fun y29 ey29 => ?_)
          replace h := h y29 ey29
          refine sx_istore C dL_isCopied_471 [(14, .int y29), (13, .int y14), (12, .int s0), (0, .ref (b + 0)), (1, .ref (ad 1)), (2, .ref (ad 2)), (3, .ref (ad 4)), (4, .ref (ad 5)), (5, .ref (ad 6)), (6, .ref (ad 7)), (7, .int x7), (8, .int x8), (9, .int v9), (10, .int v10), (11, .int v11)] (by decide) rfl 473 rfl ?_
          refine sx_iload C dL_isCopied_473 2 rfl 475 rfl ?_
          refine sx_if_eq C dL_isCopied_475 494 478 (by decide) rfl (fun c30 => ?_) (fun c30 => ?_)
          · replace h := h.1 c30
            exact sx_sub [3, 6, 7, 12, 13, 1, 0] rfl h
          · replace h := h.2 c30
            refine sx_aload_n C dL_isCopied_478 3 6 rfl rfl 479 rfl ?_
            refine sx_iload C dL_isCopied_479 13 rfl 481 rfl ?_
            refine sx_iconst C dL_isCopied_481 2 (by decide) 482 rfl ?_
            refine sx_iadd C dL_isCopied_482 483 rfl ?_
            refine sx_iload C dL_isCopied_483 1 rfl 485 rfl ?_
            refine sx_iadd C dL_isCopied_485 486 rfl ?_
            refine sl_iald C dL_isCopied_486 (Nat.lt_of_lt_of_le (show 4 < 8 by decide) hn) rfl h.1 487 rfl ?_
            replace h := h.2
            refine sx_if_lt C dL_isCopied_487 494 490 (by decide) rfl (fun c31 => ?_) (fun c31 => ?_)
            · replace h := h.1 c31
              exact sx_sub [3, 6, 7, 12, 13, 1, 0] rfl h
            · replace h := h.2 c31
              refine sx_iconst C dL_isCopied_490 1 (by decide) 491 rfl ?_
              refine sx_goto C dL_isCopied_491 495 (by decide) ?_
              exact sx_sub [3, 6, 7, 12, 13, 1, 0] rfl h
      · replace h := h.2 c13
        refine sx_aload_n C dL_isCopied_336 2 3 rfl rfl 337 rfl ?_
        refine sx_aload_n C dL_isCopied_337 3 4 rfl rfl 338 rfl ?_
        refine sx_aload C dL_isCopied_338 7 rfl 340 rfl ?_
        refine sx_iload C dL_isCopied_340 10 rfl 342 rfl ?_
        refine sl_callS C hB hA (st := []) dL_isCopied_342 (c_L_owed hf ok hn h) mi_L_owed lk_L_129 mt_L_owed rfl rfl ⟨⟨(Nat.le_of_ble_eq_true rfl), (Nat.le_of_ble_eq_true rfl)⟩, (Nat.le_of_ble_eq_true rfl), (Nat.le_of_ble_eq_true rfl)⟩ (Nat.le_of_ble_eq_true rfl) 345 rfl (fun v g33 a34 o35 h => ?_)
        obtain ⟨⟨r32, rfl, h⟩, e9⟩ := h
        cases e9
        refine sx_istore C dL_isCopied_345 [(13, .int r32), (12, .int s0), (0, .ref (b + 0)), (1, .ref (ad 1)), (2, .ref (ad 2)), (3, .ref (ad 4)), (4, .ref (ad 5)), (5, .ref (ad 6)), (6, .ref (ad 7)), (7, .int x7), (8, .int x8), (9, .int v9), (10, .int v10), (11, .int v11)] (by decide) rfl 347 rfl ?_
        refine sx_aload_n C dL_isCopied_347 3 5 rfl rfl 348 rfl ?_
        refine sx_iload C dL_isCopied_348 12 rfl 350 rfl ?_
        refine sx_iconst C dL_isCopied_350 1 (by decide) 351 rfl ?_
        refine sx_iadd C dL_isCopied_351 352 rfl ?_
        refine sx_iload C dL_isCopied_352 9 rfl 354 rfl ?_
        refine sx_iconst C dL_isCopied_354 3 (by decide) 355 rfl ?_
        refine sx_icmp_ne C dL_isCopied_355 362 358 (by decide) rfl (fun c36 => ?_) (fun c36 => ?_)
        · replace h := h.2 c36
          refine sx_aload_n C dL_isCopied_362 3 5 rfl rfl 363 rfl ?_
          refine sx_iload C dL_isCopied_363 12 rfl 365 rfl ?_
          refine sx_iconst C dL_isCopied_365 1 (by decide) 366 rfl ?_
          refine sx_iadd C dL_isCopied_366 367 rfl ?_
          refine sl_iald C dL_isCopied_367 (Nat.lt_of_lt_of_le (show 4 < 8 by decide) hn) rfl h.1 368 rfl ?_
          replace h := h.2
          exact sx_sub [2, 4, 5, 8, 9, 11, 12, 13, 1, 0] rfl h
        · replace h := h.1 c36
          refine sx_iconst C dL_isCopied_358 (-1) (by decide) 359 rfl ?_
          refine sx_goto C dL_isCopied_359 368 (by decide) ?_
          exact sx_sub [2, 4, 5, 8, 9, 11, 12, 13, 1, 0] rfl h
    · replace h := h.2 c12
      refine sx_iload C dL_isCopied_124 9 rfl 126 rfl ?_
      refine sx_bipush C dL_isCopied_126 6 (by decide) 128 rfl ?_
      refine sx_idiv C dL_isCopied_128 (by decide) 129 rfl ?_
      refine sx_bipush C dL_isCopied_129 6 (by decide) 131 rfl ?_
      refine sx_irem C dL_isCopied_131 (by decide) 132 rfl ?_
      refine sx_topi (fun y37 ey37 => ?_)
      replace h := h y37 ey37
      refine sx_istore C dL_isCopied_132 [(13, .int y37), (12, .int s0), (0, .ref (b + 0)), (1, .ref (ad 1)), (2, .ref (ad 2)), (3, .ref (ad 4)), (4, .ref (ad 5)), (5, .ref (ad 6)), (6, .ref (ad 7)), (7, .int x7), (8, .int x8), (9, .int v9), (10, .int v10), (11, .int v11)] (by decide) rfl 134 rfl ?_
      refine sx_iconst C dL_isCopied_134 1 (by decide) 135 rfl ?_
      refine sx_istore C dL_isCopied_135 [(14, .int 1), (13, .int y37), (12, .int s0), (0, .ref (b + 0)), (1, .ref (ad 1)), (2, .ref (ad 2)), (3, .ref (ad 4)), (4, .ref (ad 5)), (5, .ref (ad 6)), (6, .ref (ad 7)), (7, .int x7), (8, .int x8), (9, .int v9), (10, .int v10), (11, .int v11)] (by decide) rfl 137 rfl ?_
      refine sx_iload C dL_isCopied_137 2 rfl 139 rfl ?_
      refine sx_if_ne C dL_isCopied_139 146 142 (by decide) rfl (fun c38 => ?_) (fun c38 => ?_)
      · replace h := h.2 c38
        refine sx_iconst C dL_isCopied_146 0 (by decide) 147 rfl ?_
        exact sx_sub [3, 5, 6, 9, 12, 13, 14, 1, 0] rfl h
      · replace h := h.1 c38
        refine sx_iconst C dL_isCopied_142 1 (by decide) 143 rfl ?_
        refine sx_goto C dL_isCopied_143 147 (by decide) ?_
        exact sx_sub [3, 5, 6, 9, 12, 13, 14, 1, 0] rfl h)
  replace h := h (by
    intro f a o v9 v10 v11 v13 v14 s0 h
    refine sx_istore C dL_isCopied_147 [(15, .int s0), (0, .ref (b + 0)), (2, .ref (ad 2)), (3, .ref (ad 4)), (6, .ref (ad 7)), (9, .int v9), (10, .int v10), (11, .int v11), (13, .int v13), (14, .int v14)] (by decide) rfl 149 rfl ?_
    refine sx_iconst C dL_isCopied_149 0 (by decide) 150 rfl ?_
    refine sx_istore C dL_isCopied_150 [(16, .int 0), (15, .int s0), (0, .ref (b + 0)), (2, .ref (ad 2)), (3, .ref (ad 4)), (6, .ref (ad 7)), (9, .int v9), (10, .int v10), (11, .int v11), (13, .int v13), (14, .int v14)] (by decide) rfl 152 rfl ?_
    exact sx_sub [2, 3, 4, 5, 6, 7, 8, 9, 10, 1, 0] rfl h)
  replace h := h (by
    intro f a o v9 v10 v11 v13 v14 v15 v16 h
    refine sx_iload C dL_isCopied_152 10 rfl 154 rfl ?_
    refine sx_aload C dL_isCopied_154 3 rfl 156 rfl ?_
    refine sx_iconst C dL_isCopied_156 3 (by decide) 157 rfl ?_
    refine sl_iald C dL_isCopied_157 (Nat.lt_of_lt_of_le (show 7 < 8 by decide) hn) rfl h.1 158 rfl ?_
    replace h := h.2
    refine sx_icmp_ge C dL_isCopied_158 229 161 (by decide) rfl (fun c39 => ?_) (fun c39 => ?_)
    · replace h := h.1 c39
      refine sx_iconst C dL_isCopied_229 0 (by decide) 230 rfl ?_
      refine sx_istore C dL_isCopied_230 [(16, .int 0), (0, .ref (b + 0)), (2, .ref (ad 2)), (3, .ref (ad 4)), (6, .ref (ad 7)), (9, .int v9), (10, .int v10), (11, .int v11), (13, .int v13), (14, .int v14), (15, .int v15)] (by decide) rfl 232 rfl ?_
      exact sx_sub [1, 2, 3, 4, 5, 6, 7, 8, 9, 10, 0] rfl h
    · replace h := h.2 c39
      refine sx_iload C dL_isCopied_161 9 rfl 163 rfl ?_
      refine sx_if_eq C dL_isCopied_163 198 166 (by decide) rfl (fun c40 => ?_) (fun c40 => ?_)
      · replace h := h.1 c40
        exact sx_sub [0, 1, 2, 3, 4, 5, 6, 7, 8, 10] rfl h
      · replace h := h.2 c40
        refine sx_aload_n C dL_isCopied_166 3 2 rfl rfl 167 rfl ?_
        refine sx_bipush C dL_isCopied_167 8 (by decide) 169 rfl ?_
        refine sx_iload C dL_isCopied_169 10 rfl 171 rfl ?_
        refine sx_imul C dL_isCopied_171 172 rfl ?_
        refine sx_iconst C dL_isCopied_172 1 (by decide) 173 rfl ?_
        refine sx_iadd C dL_isCopied_173 174 rfl ?_
        refine sl_iald C dL_isCopied_174 (Nat.lt_of_lt_of_le (show 4 < 8 by decide) hn) rfl h.1 175 rfl ?_
        replace h := h.2
        refine sx_iload C dL_isCopied_175 7 rfl 177 rfl ?_
        refine sx_icmp_ne C dL_isCopied_177 194 180 (by decide) rfl (fun c41 => ?_) (fun c41 => ?_)
        · replace h := h.2 c41
          exact sx_sub [0, 1, 2, 3, 4, 5, 6, 7, 8, 10] rfl h
        · replace h := h.1 c41
          refine sx_aload_n C dL_isCopied_180 3 2 rfl rfl 181 rfl ?_
          refine sx_bipush C dL_isCopied_181 8 (by decide) 183 rfl ?_
          refine sx_iload C dL_isCopied_183 10 rfl 185 rfl ?_
          refine sx_imul C dL_isCopied_185 186 rfl ?_
          refine sl_iald C dL_isCopied_186 (Nat.lt_of_lt_of_le (show 4 < 8 by decide) hn) rfl h.1 187 rfl ?_
          replace h := h.2
          refine sx_aload_n C dL_isCopied_187 3 2 rfl rfl 188 rfl ?_
          refine sx_iload C dL_isCopied_188 5 rfl 190 rfl ?_
          refine sl_iald C dL_isCopied_190 (Nat.lt_of_lt_of_le (show 4 < 8 by decide) hn) rfl h.1 191 rfl ?_
          replace h := h.2
          refine sx_icmp_eq C dL_isCopied_191 198 194 (by decide) rfl (fun c42 => ?_) (fun c42 => ?_)
          · replace h := h.1 c42
            exact sx_sub [0, 1, 2, 3, 4, 5, 6, 7, 8, 10] rfl h
          · replace h := h.2 c42
            exact sx_sub [0, 1, 2, 3, 4, 5, 6, 7, 8, 10] rfl h)
  replace h := h (by
    intro f a o v9 v10 v11 v13 v14 v16 h
    refine sx_iconst C dL_isCopied_194 1 (by decide) 195 rfl ?_
    refine sx_goto C dL_isCopied_195 199 (by decide) ?_
    exact sx_sub [0, 1, 2, 3, 4, 5, 6, 7, 8, 9] rfl h)
  replace h := h (by
    intro f a o v9 v10 v11 v13 v14 v16 h
    refine sx_iconst C dL_isCopied_198 0 (by decide) 199 rfl ?_
    exact sx_sub [0, 1, 2, 3, 4, 5, 6, 7, 8, 9] rfl h)
  replace h := h (by
    intro f a o v9 v10 v11 v13 v14 v16 s0 h
    refine sx_istore C dL_isCopied_199 [(15, .int s0), (0, .ref (b + 0)), (2, .ref (ad 2)), (3, .ref (ad 4)), (6, .ref (ad 7)), (9, .int v9), (10, .int v10), (11, .int v11), (13, .int v13), (14, .int v14), (16, .int v16)] (by decide) rfl 201 rfl ?_
    refine sx_iload C dL_isCopied_201 9 rfl 203 rfl ?_
    refine sx_aload_n C dL_isCopied_203 3 3 rfl rfl 204 rfl ?_
    refine sx_bipush C dL_isCopied_204 8 (by decide) 206 rfl ?_
    refine sx_iload C dL_isCopied_206 10 rfl 208 rfl ?_
    refine sx_imul C dL_isCopied_208 209 rfl ?_
    refine sx_iconst C dL_isCopied_209 1 (by decide) 210 rfl ?_
    refine sx_iadd C dL_isCopied_210 211 rfl ?_
    refine sl_iald C dL_isCopied_211 (Nat.lt_of_lt_of_le (show 4 < 8 by decide) hn) rfl h.1 212 rfl ?_
    replace h := h.2
    refine sx_if_lt C dL_isCopied_212 219 215 (by decide) rfl (fun c43 => ?_) (fun c43 => ?_)
    · replace h := h.1 c43
      refine sx_iconst C dL_isCopied_219 0 (by decide) 220 rfl ?_
      exact sx_sub [1, 2, 3, 4, 5, 6, 7, 8, 0, 10] rfl h
    · replace h := h.2 c43
      refine sx_iconst C dL_isCopied_215 1 (by decide) 216 rfl ?_
      refine sx_goto C dL_isCopied_216 220 (by decide) ?_
      exact sx_sub [1, 2, 3, 4, 5, 6, 7, 8, 0, 10] rfl h)
  replace h := h (by
    intro f a o v9 v10 v11 v13 v15 v16 s0 s1 h
    refine sx_iadd C dL_isCopied_220 221 rfl ?_
    refine sx_topi (fun y44 ey44 => ?_)
    replace h := h y44 ey44
    refine sx_istore C dL_isCopied_221 [(14, .int y44), (0, .ref (b + 0)), (2, .ref (ad 2)), (3, .ref (ad 4)), (6, .ref (ad 7)), (9, .int v9), (10, .int v10), (11, .int v11), (13, .int v13), (15, .int v15), (16, .int v16)] (by decide) rfl 223 rfl ?_
    obtain ⟨y45, ey45⟩ : ∃ w : Int32, w = v16 + 1 := ⟨_, rfl⟩
    replace h := h y45 ey45
    refine sx_iinc C dL_isCopied_223 10 rfl y45 (by rw [ey45]; rfl) [(16, .int y45), (14, .int y44), (0, .ref (b + 0)), (2, .ref (ad 2)), (3, .ref (ad 4)), (6, .ref (ad 7)), (9, .int v9), (10, .int v10), (11, .int v11), (13, .int v13), (15, .int v15)] (by decide) rfl 226 rfl ?_
    refine sx_goto C dL_isCopied_226 152 (by decide) ?_
    exact sx_sub [2, 3, 4, 5, 6, 7, 8, 9, 1, 10, 0] rfl h)
  replace h := h (by
    intro f a o v9 v10 v11 v13 v14 v15 v16 h
    refine sx_iload C dL_isCopied_232 10 rfl 234 rfl ?_
    refine sx_bipush C dL_isCopied_234 6 (by decide) 236 rfl ?_
    refine sx_icmp_ge C dL_isCopied_236 279 239 (by decide) rfl (fun c46 => ?_) (fun c46 => ?_)
    · replace h := h.1 c46
      exact sx_sub [0, 2, 4, 5, 7, 8, 9] rfl h
    · replace h := h.2 c46
      refine sx_iload C dL_isCopied_239 9 rfl 241 rfl ?_
      refine sx_if_eq C dL_isCopied_241 279 244 (by decide) rfl (fun c47 => ?_) (fun c47 => ?_)
      · replace h := h.1 c47
        exact sx_sub [0, 2, 4, 5, 7, 8, 9] rfl h
      · replace h := h.2 c47
        refine sx_aload_n C dL_isCopied_244 3 2 rfl rfl 245 rfl ?_
        refine sx_iload C dL_isCopied_245 5 rfl 247 rfl ?_
        refine sx_iconst C dL_isCopied_247 2 (by decide) 248 rfl ?_
        refine sx_iadd C dL_isCopied_248 249 rfl ?_
        refine sx_iload C dL_isCopied_249 10 rfl 251 rfl ?_
        refine sx_iadd C dL_isCopied_251 252 rfl ?_
        refine sx_iload C dL_isCopied_252 10 rfl 254 rfl ?_
        refine sx_aload C dL_isCopied_254 3 rfl 256 rfl ?_
        refine sx_iconst C dL_isCopied_256 0 (by decide) 257 rfl ?_
        refine sl_iald C dL_isCopied_257 (Nat.lt_of_lt_of_le (show 7 < 8 by decide) hn) rfl h.1 258 rfl ?_
        replace h := h.2
        refine sx_icmp_ge C dL_isCopied_258 271 261 (by decide) rfl (fun c48 => ?_) (fun c48 => ?_)
        · replace h := h.1 c48
          refine sx_iconst C dL_isCopied_271 (-1) (by decide) 272 rfl ?_
          exact sx_sub [0, 1, 2, 3, 4, 5, 6, 7, 8, 9, 10] rfl h
        · replace h := h.2 c48
          refine sx_aload_n C dL_isCopied_261 2 1 rfl rfl 262 rfl ?_
          refine sx_iload C dL_isCopied_262 6 rfl 264 rfl ?_
          refine sx_iload C dL_isCopied_264 10 rfl 266 rfl ?_
          refine sx_iadd C dL_isCopied_266 267 rfl ?_
          refine sl_iald C dL_isCopied_267 (Nat.lt_of_lt_of_le (show 2 < 8 by decide) hn) rfl h.1 268 rfl ?_
          replace h := h.2
          refine sx_goto C dL_isCopied_268 272 (by decide) ?_
          exact sx_sub [0, 1, 2, 3, 4, 5, 6, 7, 8, 9, 10] rfl h)
  replace h := h (by
    intro f a o v9 v10 v11 v13 v14 v15 v16 s1 s2 h
    refine sl_iast C dL_isCopied_272 ok hB hA (Nat.lt_of_lt_of_le (show 4 < 8 by decide) hn) rfl h.1 273 rfl (fun a49 ea49 => ?_)
    replace h := h.2 a49 ea49
    obtain ⟨y50, ey50⟩ : ∃ w : Int32, w = v16 + 1 := ⟨_, rfl⟩
    replace h := h y50 ey50
    refine sx_iinc C dL_isCopied_273 10 rfl y50 (by rw [ey50]; rfl) [(16, .int y50), (0, .ref (b + 0)), (2, .ref (ad 2)), (3, .ref (ad 4)), (6, .ref (ad 7)), (9, .int v9), (10, .int v10), (11, .int v11), (13, .int v13), (14, .int v14), (15, .int v15)] (by decide) rfl 276 rfl ?_
    refine sx_goto C dL_isCopied_276 232 (by decide) ?_
    exact sx_sub [1, 2, 3, 4, 5, 6, 7, 8, 9, 10, 0] rfl h)
  replace h := h (by
    intro f a o v9 v10 v13 v14 v15 h
    refine sx_aload_n C dL_isCopied_279 3 1 rfl rfl 280 rfl ?_
    refine sx_iload C dL_isCopied_280 3 rfl 282 rfl ?_
    refine sx_iconst C dL_isCopied_282 1 (by decide) 283 rfl ?_
    refine sx_iadd C dL_isCopied_283 284 rfl ?_
    refine sx_iload C dL_isCopied_284 6 rfl 286 rfl ?_
    refine sx_if_eq C dL_isCopied_286 294 289 (by decide) rfl (fun c51 => ?_) (fun c51 => ?_)
    · replace h := h.1 c51
      refine sx_aload_n C dL_isCopied_294 3 1 rfl rfl 295 rfl ?_
      refine sx_iload C dL_isCopied_295 3 rfl 297 rfl ?_
      refine sx_iconst C dL_isCopied_297 1 (by decide) 298 rfl ?_
      refine sx_iadd C dL_isCopied_298 299 rfl ?_
      refine sl_iald C dL_isCopied_299 (Nat.lt_of_lt_of_le (show 4 < 8 by decide) hn) rfl h.1 300 rfl ?_
      replace h := h.2
      exact sx_sub [0, 2, 4, 5, 6] rfl h
    · replace h := h.2 c51
      refine sx_iload C dL_isCopied_289 4 rfl 291 rfl ?_
      refine sx_goto C dL_isCopied_291 300 (by decide) ?_
      exact sx_sub [0, 2, 4, 5, 6] rfl h)
  replace h := h (by
    intro f a o v9 v13 v14 v15 s1 s2 h
    refine sl_iast C dL_isCopied_300 ok hB hA (Nat.lt_of_lt_of_le (show 4 < 8 by decide) hn) rfl h.1 301 rfl (fun a52 ea52 => ?_)
    replace h := h.2 a52 ea52
    refine sx_aload_n C dL_isCopied_301 0 0 rfl rfl 302 rfl ?_
    refine sx_iload C dL_isCopied_302 1 rfl 304 rfl ?_
    refine sx_iload C dL_isCopied_304 2 rfl 306 rfl ?_
    refine sl_callH C hB hA (st := []) dL_isCopied_306 (c_L_lent hf ok hn h) wi_L_lent wn_L_lent wt_L_lent lk_L_198 ⟨by decide, by decide, (show _ = some 3 from by decide +kernel)⟩ rfl rfl ⟨⟨(Nat.le_of_ble_eq_true rfl), (Nat.le_of_ble_eq_true rfl)⟩, (Nat.le_of_ble_eq_true rfl), (Nat.le_of_ble_eq_true rfl)⟩ (Nat.le_of_ble_eq_true rfl) 309 rfl (fun v g54 a54 o54 h => ?_)
    obtain ⟨r53, rfl, h⟩ := h
    dsimp only at h
    refine sx_iload C dL_isCopied_309 4 rfl 311 rfl ?_
    refine sx_if_eq C dL_isCopied_311 319 314 (by decide) rfl (fun c55 => ?_) (fun c55 => ?_)
    · replace h := h.1 c55
      refine sx_bipush C dL_isCopied_319 (-7) (by decide) 321 rfl ?_
      refine sx_widen (k := 3) (n := 36 * 3) (Nat.le_of_ble_eq_true rfl) (Nat.le_of_ble_eq_true rfl) ?_
      exact sx_sub [] rfl h
    · replace h := h.2 c55
      refine sx_iload C dL_isCopied_314 3 rfl 316 rfl ?_
      refine sx_goto C dL_isCopied_316 321 (by decide) ?_
      refine sx_widen (k := 3) (n := 36 * 3) (Nat.le_of_ble_eq_true rfl) (Nat.le_of_ble_eq_true rfl) ?_
      exact sx_sub [] rfl h)
  replace h := h (by
    intro f a o s0 s1 h
    refine sx_icmp_ne C dL_isCopied_321 328 324 (by decide) rfl (fun c56 => ?_) (fun c56 => ?_)
    · replace h := h.2 c56
      refine sx_iconst C dL_isCopied_328 0 (by decide) 329 rfl ?_
      exact sx_zret C dL_isCopied_329 hr (Nat.le_of_ble_eq_true rfl) (Nat.le_of_ble_eq_true rfl) (Or.inl rfl) ⟨_, rfl, h⟩
    · replace h := h.1 c56
      refine sx_iconst C dL_isCopied_324 1 (by decide) 325 rfl ?_
      refine sx_goto C dL_isCopied_325 329 (by decide) ?_
      exact sx_zret C dL_isCopied_329 hr (Nat.le_of_ble_eq_true rfl) (Nat.le_of_ble_eq_true rfl) (Or.inr rfl) ⟨_, rfl, h⟩)
  replace h := h (by
    intro f a o v9 v10 v11 v12 v13 s1 s2 h
    refine sl_iast C dL_isCopied_368 ok hB hA (Nat.lt_of_lt_of_le (show 4 < 8 by decide) hn) rfl h.1 369 rfl (fun a57 ea57 => ?_)
    replace h := h.2 a57 ea57
    refine sx_iconst C dL_isCopied_369 0 (by decide) 370 rfl ?_
    refine sx_istore C dL_isCopied_370 [(14, .int 0), (0, .ref (b + 0)), (2, .ref (ad 2)), (3, .ref (ad 4)), (6, .ref (ad 7)), (7, .int x7), (9, .int v9), (10, .int v10), (11, .int v11), (12, .int v12), (13, .int v13)] (by decide) rfl 372 rfl ?_
    exact sx_sub [1, 2, 3, 4, 5, 6, 7, 8, 9, 10, 0] rfl h)
  replace h := h (by
    intro f a o v9 v10 v11 v12 v13 v14 h
    refine sx_iload C dL_isCopied_372 10 rfl 374 rfl ?_
    refine sx_aload C dL_isCopied_374 3 rfl 376 rfl ?_
    refine sx_iconst C dL_isCopied_376 0 (by decide) 377 rfl ?_
    refine sl_iald C dL_isCopied_377 (Nat.lt_of_lt_of_le (show 7 < 8 by decide) hn) rfl h.1 378 rfl ?_
    replace h := h.2
    refine sx_icmp_ge C dL_isCopied_378 414 381 (by decide) rfl (fun c58 => ?_) (fun c58 => ?_)
    · replace h := h.1 c58
      exact sx_sub [0, 4, 5, 8, 9] rfl h
    · replace h := h.2 c58
      refine sx_iload C dL_isCopied_381 8 rfl 383 rfl ?_
      refine sx_if_eq C dL_isCopied_383 414 386 (by decide) rfl (fun c59 => ?_) (fun c59 => ?_)
      · replace h := h.1 c59
        exact sx_sub [0, 4, 5, 8, 9] rfl h
      · replace h := h.2 c59
        refine sx_iload C dL_isCopied_386 4 rfl 388 rfl ?_
        refine sx_iconst C dL_isCopied_388 4 (by decide) 389 rfl ?_
        refine sx_icmp_ne C dL_isCopied_389 414 392 (by decide) rfl (fun c60 => ?_) (fun c60 => ?_)
        · replace h := h.2 c60
          exact sx_sub [0, 4, 5, 8, 9] rfl h
        · replace h := h.1 c60
          refine sx_aload_n C dL_isCopied_392 3 2 rfl rfl 393 rfl ?_
          refine sx_iload C dL_isCopied_393 6 rfl 395 rfl ?_
          refine sx_iconst C dL_isCopied_395 2 (by decide) 396 rfl ?_
          refine sx_iadd C dL_isCopied_396 397 rfl ?_
          refine sx_iload C dL_isCopied_397 10 rfl 399 rfl ?_
          refine sx_iadd C dL_isCopied_399 400 rfl ?_
          refine sx_aload_n C dL_isCopied_400 2 1 rfl rfl 401 rfl ?_
          refine sx_iload C dL_isCopied_401 7 rfl 403 rfl ?_
          refine sx_iload C dL_isCopied_403 10 rfl 405 rfl ?_
          refine sx_iadd C dL_isCopied_405 406 rfl ?_
          refine sl_iald C dL_isCopied_406 (Nat.lt_of_lt_of_le (show 2 < 8 by decide) hn) rfl h.1 407 rfl ?_
          replace h := h.2
          refine sl_iast C dL_isCopied_407 ok hB hA (Nat.lt_of_lt_of_le (show 4 < 8 by decide) hn) rfl h.1 408 rfl (fun a61 ea61 => ?_)
          replace h := h.2 a61 ea61
          obtain ⟨y62, ey62⟩ : ∃ w : Int32, w = v14 + 1 := ⟨_, rfl⟩
          replace h := h y62 ey62
          refine sx_iinc C dL_isCopied_408 10 rfl y62 (by rw [ey62]; rfl) [(14, .int y62), (0, .ref (b + 0)), (2, .ref (ad 2)), (3, .ref (ad 4)), (6, .ref (ad 7)), (7, .int x7), (9, .int v9), (10, .int v10), (11, .int v11), (12, .int v12), (13, .int v13)] (by decide) rfl 411 rfl ?_
          refine sx_goto C dL_isCopied_411 372 (by decide) ?_
          exact sx_sub [1, 2, 3, 4, 5, 6, 7, 8, 9, 10, 0] rfl h)
  replace h := h (by
    intro f a o v9 v12 v13 h
    refine sx_aload_n C dL_isCopied_414 0 0 rfl rfl 415 rfl ?_
    refine sx_iload C dL_isCopied_415 1 rfl 417 rfl ?_
    refine sx_iconst C dL_isCopied_417 3 (by decide) 418 rfl ?_
    refine sx_isub C dL_isCopied_418 419 rfl ?_
    refine sx_iload C dL_isCopied_419 2 rfl 421 rfl ?_
    refine sl_callH C hB hA (st := []) dL_isCopied_421 (c_L_did hf ok hn h) wi_L_did wn_L_did wt_L_did lk_L_202 ⟨by decide, by decide, (show _ = some 3 from by decide +kernel)⟩ rfl rfl ⟨⟨(Nat.le_of_ble_eq_true rfl), (Nat.le_of_ble_eq_true rfl)⟩, (Nat.le_of_ble_eq_true rfl), (Nat.le_of_ble_eq_true rfl)⟩ (Nat.le_of_ble_eq_true rfl) 424 rfl (fun v g64 a64 o64 h => ?_)
    obtain ⟨r63, rfl, h⟩ := h
    dsimp only at h
    refine sx_iload C dL_isCopied_424 3 rfl 426 rfl ?_
    refine sx_if_eq C dL_isCopied_426 434 429 (by decide) rfl (fun c65 => ?_) (fun c65 => ?_)
    · replace h := h.1 c65
      refine sx_bipush C dL_isCopied_434 (-7) (by decide) 436 rfl ?_
      refine sx_widen (k := 2) (n := 36 * 2) (Nat.le_of_ble_eq_true rfl) (Nat.le_of_ble_eq_true rfl) ?_
      exact sx_sub [] rfl h
    · replace h := h.2 c65
      refine sx_iload C dL_isCopied_429 4 rfl 431 rfl ?_
      refine sx_goto C dL_isCopied_431 436 (by decide) ?_
      refine sx_widen (k := 2) (n := 36 * 2) (Nat.le_of_ble_eq_true rfl) (Nat.le_of_ble_eq_true rfl) ?_
      exact sx_sub [] rfl h)
  replace h := h (by
    intro f a o s0 s1 h
    refine sx_icmp_ne C dL_isCopied_436 443 439 (by decide) rfl (fun c66 => ?_) (fun c66 => ?_)
    · replace h := h.2 c66
      refine sx_iconst C dL_isCopied_443 0 (by decide) 444 rfl ?_
      exact sx_zret C dL_isCopied_444 hr (Nat.le_of_ble_eq_true rfl) (Nat.le_of_ble_eq_true rfl) (Or.inl rfl) ⟨_, rfl, h⟩
    · replace h := h.1 c66
      refine sx_iconst C dL_isCopied_439 1 (by decide) 440 rfl ?_
      refine sx_goto C dL_isCopied_440 444 (by decide) ?_
      exact sx_zret C dL_isCopied_444 hr (Nat.le_of_ble_eq_true rfl) (Nat.le_of_ble_eq_true rfl) (Or.inr rfl) ⟨_, rfl, h⟩)
  replace h := h (by
    intro f a o v9 v10 v13 v14 h
    refine sx_iconst C dL_isCopied_494 0 (by decide) 495 rfl ?_
    exact sx_sub [0, 1, 2, 3, 4, 5, 6] rfl h)
  replace h := h (by
    intro f a o v9 v10 v13 v14 s0 h
    refine sx_istore C dL_isCopied_495 [(15, .int s0), (0, .ref (b + 0)), (3, .ref (ad 4)), (4, .ref (ad 5)), (9, .int v9), (10, .int v10), (13, .int v13), (14, .int v14)] (by decide) rfl 497 rfl ?_
    refine sx_iload C dL_isCopied_497 0 rfl 499 rfl ?_
    refine sx_if_eq C dL_isCopied_499 518 502 (by decide) rfl (fun c67 => ?_) (fun c67 => ?_)
    · replace h := h.1 c67
      refine sx_iconst C dL_isCopied_518 0 (by decide) 519 rfl ?_
      exact sx_sub [1, 2, 3, 4, 5, 6, 7, 0] rfl h
    · replace h := h.2 c67
      refine sx_iconst C dL_isCopied_502 5 (by decide) 503 rfl ?_
      refine sx_aload_n C dL_isCopied_503 3 2 rfl rfl 504 rfl ?_
      refine sx_iload C dL_isCopied_504 5 rfl 506 rfl ?_
      refine sx_iconst C dL_isCopied_506 1 (by decide) 507 rfl ?_
      refine sx_iadd C dL_isCopied_507 508 rfl ?_
      refine sl_iald C dL_isCopied_508 (Nat.lt_of_lt_of_le (show 4 < 8 by decide) hn) rfl h.1 509 rfl ?_
      replace h := h.2
      refine sx_imul C dL_isCopied_509 510 rfl ?_
      refine sx_aload_n C dL_isCopied_510 3 2 rfl rfl 511 rfl ?_
      refine sx_iload C dL_isCopied_511 5 rfl 513 rfl ?_
      refine sl_iald C dL_isCopied_513 (Nat.lt_of_lt_of_le (show 4 < 8 by decide) hn) rfl h.1 514 rfl ?_
      replace h := h.2
      refine sx_iadd C dL_isCopied_514 515 rfl ?_
      refine sx_goto C dL_isCopied_515 519 (by decide) ?_
      exact sx_sub [1, 2, 3, 4, 5, 6, 7, 0] rfl h)
  replace h := h (by
    intro f a o v9 v10 v13 v14 v15 s0 h
    refine sx_istore C dL_isCopied_519 [(16, .int s0), (0, .ref (b + 0)), (3, .ref (ad 4)), (4, .ref (ad 5)), (9, .int v9), (10, .int v10), (13, .int v13), (14, .int v14), (15, .int v15)] (by decide) rfl 521 rfl ?_
    refine sx_aload C dL_isCopied_521 3 rfl 523 rfl ?_
    refine sx_iload C dL_isCopied_523 0 rfl 525 rfl ?_
    refine sl_lald C dL_isCopied_525 (Nat.lt_of_lt_of_le (show 5 < 8 by decide) hn) rfl h.1 526 rfl ?_
    replace h := h.2
    refine sx_bipush C dL_isCopied_526 10 (by decide) 528 rfl ?_
    refine sx_iload C dL_isCopied_528 6 rfl 530 rfl ?_
    refine sx_imul C dL_isCopied_530 531 rfl ?_
    refine sl_lushr C dL_isCopied_531 532 rfl ?_
    refine sl_ldc2 C dL_isCopied_532 (15) kl_L_205 535 rfl ?_
    refine sl_land C dL_isCopied_535 536 rfl ?_
    refine sl_l2i C dL_isCopied_536 537 rfl ?_
    refine sx_topi (fun y68 ey68 => ?_)
    replace h := h y68 ey68
    refine sx_istore C dL_isCopied_537 [(17, .int y68), (16, .int s0), (0, .ref (b + 0)), (3, .ref (ad 4)), (4, .ref (ad 5)), (9, .int v9), (10, .int v10), (13, .int v13), (14, .int v14), (15, .int v15)] (by decide) rfl 539 rfl ?_
    refine sx_aload C dL_isCopied_539 4 rfl 541 rfl ?_
    refine sx_iload C dL_isCopied_541 1 rfl 543 rfl ?_
    refine sx_iload C dL_isCopied_543 9 rfl 545 rfl ?_
    refine sx_if_eq C dL_isCopied_545 593 548 (by decide) rfl (fun c69 => ?_) (fun c69 => ?_)
    · replace h := h.1 c69
      refine sx_aload C dL_isCopied_593 4 rfl 595 rfl ?_
      refine sx_iload C dL_isCopied_595 1 rfl 597 rfl ?_
      refine sl_lald C dL_isCopied_597 (Nat.lt_of_lt_of_le (show 5 < 8 by decide) hn) rfl h.1 598 rfl ?_
      replace h := h.2
      exact sx_sub [2, 5, 7, 8, 9, 0] rfl h
    · replace h := h.2 c69
      refine sx_aload C dL_isCopied_548 4 rfl 550 rfl ?_
      refine sx_iload C dL_isCopied_550 1 rfl 552 rfl ?_
      refine sl_lald C dL_isCopied_552 (Nat.lt_of_lt_of_le (show 5 < 8 by decide) hn) rfl h.1 553 rfl ?_
      replace h := h.2
      refine sl_ldc2 C dL_isCopied_553 (1023) kl_L_135 556 rfl ?_
      refine sx_bipush C dL_isCopied_556 10 (by decide) 558 rfl ?_
      refine sx_iload C dL_isCopied_558 7 rfl 560 rfl ?_
      refine sx_imul C dL_isCopied_560 561 rfl ?_
      refine sl_lshl C dL_isCopied_561 562 rfl ?_
      refine sl_ldc2 C dL_isCopied_562 (-1) kl_L_174 565 rfl ?_
      refine sl_lxor C dL_isCopied_565 566 rfl ?_
      refine sl_land C dL_isCopied_566 567 rfl ?_
      refine sx_iload C dL_isCopied_567 8 rfl 569 rfl ?_
      refine sx_bipush C dL_isCopied_569 16 (by decide) 571 rfl ?_
      refine sx_aload_n C dL_isCopied_571 3 3 rfl rfl 572 rfl ?_
      refine sx_iload C dL_isCopied_572 6 rfl 574 rfl ?_
      refine sx_iconst C dL_isCopied_574 2 (by decide) 575 rfl ?_
      refine sx_iadd C dL_isCopied_575 576 rfl ?_
      refine sx_iload C dL_isCopied_576 7 rfl 578 rfl ?_
      refine sx_iadd C dL_isCopied_578 579 rfl ?_
      refine sl_iald C dL_isCopied_579 (Nat.lt_of_lt_of_le (show 4 < 8 by decide) hn) rfl h.1 580 rfl ?_
      replace h := h.2
      refine sx_imul C dL_isCopied_580 581 rfl ?_
      refine sx_iadd C dL_isCopied_581 582 rfl ?_
      refine sx_i2l C dL_isCopied_582 583 rfl ?_
      refine sx_bipush C dL_isCopied_583 10 (by decide) 585 rfl ?_
      refine sx_iload C dL_isCopied_585 7 rfl 587 rfl ?_
      refine sx_imul C dL_isCopied_587 588 rfl ?_
      refine sl_lshl C dL_isCopied_588 589 rfl ?_
      refine sl_lor C dL_isCopied_589 590 rfl ?_
      refine sx_goto C dL_isCopied_590 598 (by decide) ?_
      exact sx_sub [2, 5, 7, 8, 9, 0] rfl h)
  replace h := h (by
    intro f a o v9 v13 v14 v15 v17 s1 s2 h
    refine sl_last C dL_isCopied_598 ok hB hA (Nat.lt_of_lt_of_le (show 5 < 8 by decide) hn) rfl h.1 599 rfl (fun o70 eo70 => ?_)
    replace h := h.2 o70 eo70
    refine sx_aload_n C dL_isCopied_599 0 0 rfl rfl 600 rfl ?_
    refine sx_iload C dL_isCopied_600 1 rfl 602 rfl ?_
    refine sx_iload C dL_isCopied_602 2 rfl 604 rfl ?_
    refine sx_iload C dL_isCopied_604 3 rfl 606 rfl ?_
    refine sl_callH C hB hA (st := []) dL_isCopied_606 (c_L_marked hf ok hn h) wi_L_marked wn_L_marked wt_L_marked lk_L_207 ⟨by decide, by decide, (show _ = some 4 from by decide +kernel)⟩ rfl rfl ⟨⟨(Nat.le_of_ble_eq_true rfl), (Nat.le_of_ble_eq_true rfl)⟩, (Nat.le_of_ble_eq_true rfl), (Nat.le_of_ble_eq_true rfl)⟩ (Nat.le_of_ble_eq_true rfl) 609 rfl (fun v g72 a72 o72 h => ?_)
    obtain ⟨r71, rfl, h⟩ := h
    dsimp only at h
    refine sx_iload C dL_isCopied_609 4 rfl 611 rfl ?_
    refine sx_if_eq C dL_isCopied_611 619 614 (by decide) rfl (fun c73 => ?_) (fun c73 => ?_)
    · replace h := h.1 c73
      refine sx_bipush C dL_isCopied_619 (-7) (by decide) 621 rfl ?_
      refine sx_widen (k := 6) (n := 36 * 6) (Nat.le_of_ble_eq_true rfl) (Nat.le_of_ble_eq_true rfl) ?_
      exact sx_sub [] rfl h
    · replace h := h.2 c73
      refine sx_iload C dL_isCopied_614 5 rfl 616 rfl ?_
      refine sx_goto C dL_isCopied_616 621 (by decide) ?_
      refine sx_widen (k := 6) (n := 36 * 6) (Nat.le_of_ble_eq_true rfl) (Nat.le_of_ble_eq_true rfl) ?_
      exact sx_sub [] rfl h)
  replace h := h (by
    intro f a o s0 s1 h
    refine sx_icmp_ne C dL_isCopied_621 628 624 (by decide) rfl (fun c74 => ?_) (fun c74 => ?_)
    · replace h := h.2 c74
      refine sx_iconst C dL_isCopied_628 0 (by decide) 629 rfl ?_
      exact sx_zret C dL_isCopied_629 hr (Nat.le_of_ble_eq_true rfl) (Nat.le_of_ble_eq_true rfl) (Or.inl rfl) ⟨_, rfl, h⟩
    · replace h := h.1 c74
      refine sx_iconst C dL_isCopied_624 1 (by decide) 625 rfl ?_
      refine sx_goto C dL_isCopied_625 629 (by decide) ?_
      exact sx_zret C dL_isCopied_629 hr (Nat.le_of_ble_eq_true rfl) (Nat.le_of_ble_eq_true rfl) (Or.inr rfl) ⟨_, rfl, h⟩)
  replace h := h (by
    intro f a o v9 v10 v11 v13 v14 v15 h
    refine sx_iconst C dL_isCopied_713 0 (by decide) 714 rfl ?_
    exact sx_sub [0, 1, 2, 3, 4, 5, 6, 7, 8, 9] rfl h)
  replace h := h (by
    intro f a o v9 v10 v11 v13 v14 v15 s0 h
    refine sx_istore C dL_isCopied_714 [(16, .int s0), (0, .ref (b + 0)), (2, .ref (ad 2)), (3, .ref (ad 4)), (5, .ref (ad 6)), (9, .int v9), (10, .int v10), (11, .int v11), (13, .int v13), (14, .int v14), (15, .int v15)] (by decide) rfl 716 rfl ?_
    refine sx_iload C dL_isCopied_716 0 rfl 718 rfl ?_
    refine sx_if_eq C dL_isCopied_718 736 721 (by decide) rfl (fun c75 => ?_) (fun c75 => ?_)
    · replace h := h.1 c75
      refine sx_iconst C dL_isCopied_736 0 (by decide) 737 rfl ?_
      exact sx_sub [1, 2, 3, 4, 5, 6, 7, 8, 9, 10, 0] rfl h
    · replace h := h.2 c75
      refine sx_bipush C dL_isCopied_721 12 (by decide) 723 rfl ?_
      refine sx_aload_n C dL_isCopied_723 3 3 rfl rfl 724 rfl ?_
      refine sx_iload C dL_isCopied_724 6 rfl 726 rfl ?_
      refine sx_iconst C dL_isCopied_726 1 (by decide) 727 rfl ?_
      refine sx_iadd C dL_isCopied_727 728 rfl ?_
      refine sl_iald C dL_isCopied_728 (Nat.lt_of_lt_of_le (show 4 < 8 by decide) hn) rfl h.1 729 rfl ?_
      replace h := h.2
      refine sx_imul C dL_isCopied_729 730 rfl ?_
      refine sx_iload C dL_isCopied_730 7 rfl 732 rfl ?_
      refine sx_iadd C dL_isCopied_732 733 rfl ?_
      refine sx_goto C dL_isCopied_733 737 (by decide) ?_
      exact sx_sub [1, 2, 3, 4, 5, 6, 7, 8, 9, 10, 0] rfl h)
  replace h := h (by
    intro f a o v9 v10 v11 v13 v14 v15 v16 s0 h
    refine sx_istore C dL_isCopied_737 [(17, .int s0), (0, .ref (b + 0)), (2, .ref (ad 2)), (3, .ref (ad 4)), (5, .ref (ad 6)), (9, .int v9), (10, .int v10), (11, .int v11), (13, .int v13), (14, .int v14), (15, .int v15), (16, .int v16)] (by decide) rfl 739 rfl ?_
    refine sx_iload C dL_isCopied_739 11 rfl 741 rfl ?_
    refine sx_if_eq C dL_isCopied_741 763 744 (by decide) rfl (fun c76 => ?_) (fun c76 => ?_)
    · replace h := h.1 c76
      refine sx_iconst C dL_isCopied_763 0 (by decide) 764 rfl ?_
      exact sx_sub [1, 2, 4, 5, 7, 8, 9, 10, 11, 0] rfl h
    · replace h := h.2 c76
      refine sx_aload_n C dL_isCopied_744 2 2 rfl rfl 745 rfl ?_
      refine sx_aload C dL_isCopied_745 4 rfl 747 rfl ?_
      refine sx_aload_n C dL_isCopied_747 3 3 rfl rfl 748 rfl ?_
      refine sx_iload C dL_isCopied_748 6 rfl 750 rfl ?_
      refine sx_iconst C dL_isCopied_750 1 (by decide) 751 rfl ?_
      refine sx_iadd C dL_isCopied_751 752 rfl ?_
      refine sl_iald C dL_isCopied_752 (Nat.lt_of_lt_of_le (show 4 < 8 by decide) hn) rfl h.1 753 rfl ?_
      replace h := h.2
      refine sx_iload C dL_isCopied_753 7 rfl 755 rfl ?_
      refine sx_iload C dL_isCopied_755 10 rfl 757 rfl ?_
      refine sl_callS C hB hA (st := []) dL_isCopied_757 (c_L_bowing hf ok hn h) mi_L_bowing lk_L_140 mt_L_bowing rfl rfl ⟨⟨(Nat.le_of_ble_eq_true rfl), (Nat.le_of_ble_eq_true rfl)⟩, (Nat.le_of_ble_eq_true rfl), (Nat.le_of_ble_eq_true rfl)⟩ (Nat.le_of_ble_eq_true rfl) 760 rfl (fun v g78 a79 o80 h => ?_)
      obtain ⟨⟨r77, rfl, h⟩, e9⟩ := h
      cases e9
      refine sx_goto C dL_isCopied_760 764 (by decide) ?_
      exact sx_sub [1, 2, 4, 5, 7, 8, 9, 10, 11, 0] rfl h)
  replace h := h (by
    intro f a o v9 v11 v13 v14 v15 v16 v17 s0 h
    refine sx_istore C dL_isCopied_764 [(18, .int s0), (0, .ref (b + 0)), (2, .ref (ad 2)), (5, .ref (ad 6)), (9, .int v9), (11, .int v11), (13, .int v13), (14, .int v14), (15, .int v15), (16, .int v16), (17, .int v17)] (by decide) rfl 766 rfl ?_
    refine sx_aload C dL_isCopied_766 3 rfl 768 rfl ?_
    refine sx_iload C dL_isCopied_768 10 rfl 770 rfl ?_
    refine sx_iload C dL_isCopied_770 9 rfl 772 rfl ?_
    refine sx_if_eq C dL_isCopied_772 814 775 (by decide) rfl (fun c81 => ?_) (fun c81 => ?_)
    · replace h := h.1 c81
      refine sx_aload C dL_isCopied_814 3 rfl 816 rfl ?_
      refine sx_iload C dL_isCopied_816 10 rfl 818 rfl ?_
      refine sl_lald C dL_isCopied_818 (Nat.lt_of_lt_of_le (show 6 < 8 by decide) hn) rfl h.1 819 rfl ?_
      replace h := h.2
      exact sx_sub [1, 4, 6, 7, 8, 9, 0] rfl h
    · replace h := h.2 c81
      refine sx_aload C dL_isCopied_775 3 rfl 777 rfl ?_
      refine sx_iload C dL_isCopied_777 10 rfl 779 rfl ?_
      refine sl_lald C dL_isCopied_779 (Nat.lt_of_lt_of_le (show 6 < 8 by decide) hn) rfl h.1 780 rfl ?_
      replace h := h.2
      refine sl_ldc2 C dL_isCopied_780 (255) kl_L_114 783 rfl ?_
      refine sx_bipush C dL_isCopied_783 8 (by decide) 785 rfl ?_
      refine sx_iload C dL_isCopied_785 8 rfl 787 rfl ?_
      refine sx_imul C dL_isCopied_787 788 rfl ?_
      refine sl_lshl C dL_isCopied_788 789 rfl ?_
      refine sl_ldc2 C dL_isCopied_789 (-1) kl_L_174 792 rfl ?_
      refine sl_lxor C dL_isCopied_792 793 rfl ?_
      refine sl_land C dL_isCopied_793 794 rfl ?_
      refine sx_iload C dL_isCopied_794 7 rfl 796 rfl ?_
      refine sx_iconst C dL_isCopied_796 4 (by decide) 797 rfl ?_
      refine sx_aload_n C dL_isCopied_797 2 2 rfl rfl 798 rfl ?_
      refine sx_iload C dL_isCopied_798 5 rfl 800 rfl ?_
      refine sl_iald C dL_isCopied_800 (Nat.lt_of_lt_of_le (show 2 < 8 by decide) hn) rfl h.1 801 rfl ?_
      replace h := h.2
      refine sx_imul C dL_isCopied_801 802 rfl ?_
      refine sx_iadd C dL_isCopied_802 803 rfl ?_
      refine sx_i2l C dL_isCopied_803 804 rfl ?_
      refine sx_bipush C dL_isCopied_804 8 (by decide) 806 rfl ?_
      refine sx_iload C dL_isCopied_806 8 rfl 808 rfl ?_
      refine sx_imul C dL_isCopied_808 809 rfl ?_
      refine sl_lshl C dL_isCopied_809 810 rfl ?_
      refine sl_lor C dL_isCopied_810 811 rfl ?_
      refine sx_goto C dL_isCopied_811 819 (by decide) ?_
      exact sx_sub [1, 4, 6, 7, 8, 9, 0] rfl h)
  replace h := h (by
    intro f a o v9 v13 v14 v15 v16 v18 s1 s2 h
    refine sl_last C dL_isCopied_819 ok hB hA (Nat.lt_of_lt_of_le (show 6 < 8 by decide) hn) rfl h.1 820 rfl (fun o82 eo82 => ?_)
    replace h := h.2 o82 eo82
    refine sx_aload_n C dL_isCopied_820 0 0 rfl rfl 821 rfl ?_
    refine sx_iload C dL_isCopied_821 1 rfl 823 rfl ?_
    refine sx_iload C dL_isCopied_823 2 rfl 825 rfl ?_
    refine sx_iload C dL_isCopied_825 4 rfl 827 rfl ?_
    refine sx_iload C dL_isCopied_827 3 rfl 829 rfl ?_
    refine sl_callH C hB hA (st := []) dL_isCopied_829 (c_L_bowed hf ok hn h) wi_L_bowed wn_L_bowed wt_L_bowed lk_L_210 ⟨by decide, by decide, (show _ = some 5 from by decide +kernel)⟩ rfl rfl ⟨⟨(Nat.le_of_ble_eq_true rfl), (Nat.le_of_ble_eq_true rfl)⟩, (Nat.le_of_ble_eq_true rfl), (Nat.le_of_ble_eq_true rfl)⟩ (Nat.le_of_ble_eq_true rfl) 832 rfl (fun v g84 a84 o84 h => ?_)
    obtain ⟨r83, rfl, h⟩ := h
    dsimp only at h
    refine sx_iload C dL_isCopied_832 5 rfl 834 rfl ?_
    refine sx_if_eq C dL_isCopied_834 842 837 (by decide) rfl (fun c85 => ?_) (fun c85 => ?_)
    · replace h := h.1 c85
      refine sx_bipush C dL_isCopied_842 (-7) (by decide) 844 rfl ?_
      refine sx_widen (k := 8) (n := 36 * 8) (Nat.le_of_ble_eq_true rfl) (Nat.le_of_ble_eq_true rfl) ?_
      exact sx_sub [] rfl h
    · replace h := h.2 c85
      refine sx_iload C dL_isCopied_837 6 rfl 839 rfl ?_
      refine sx_goto C dL_isCopied_839 844 (by decide) ?_
      refine sx_widen (k := 8) (n := 36 * 8) (Nat.le_of_ble_eq_true rfl) (Nat.le_of_ble_eq_true rfl) ?_
      exact sx_sub [] rfl h)
  replace h := h (by
    intro f a o s0 s1 h
    refine sx_icmp_ne C dL_isCopied_844 851 847 (by decide) rfl (fun c86 => ?_) (fun c86 => ?_)
    · replace h := h.2 c86
      refine sx_iconst C dL_isCopied_851 0 (by decide) 852 rfl ?_
      exact sx_zret C dL_isCopied_852 hr (Nat.le_of_ble_eq_true rfl) (Nat.le_of_ble_eq_true rfl) (Or.inl rfl) ⟨_, rfl, h⟩
    · replace h := h.1 c86
      refine sx_iconst C dL_isCopied_847 1 (by decide) 848 rfl ?_
      refine sx_goto C dL_isCopied_848 852 (by decide) ?_
      exact sx_zret C dL_isCopied_852 hr (Nat.le_of_ble_eq_true rfl) (Nat.le_of_ble_eq_true rfl) (Or.inr rfl) ⟨_, rfl, h⟩)
  replace h := h (by
    intro f a o v14 v15 v16 h
    refine sx_iload C dL_isCopied_862 6 rfl 864 rfl ?_
    refine sx_aload C dL_isCopied_864 3 rfl 866 rfl ?_
    refine sx_iconst C dL_isCopied_866 3 (by decide) 867 rfl ?_
    refine sl_iald C dL_isCopied_867 (Nat.lt_of_lt_of_le (show 7 < 8 by decide) hn) rfl h.1 868 rfl ?_
    replace h := h.2
    refine sx_icmp_ge C dL_isCopied_868 923 871 (by decide) rfl (fun c87 => ?_) (fun c87 => ?_)
    · replace h := h.1 c87
      refine sx_aload C dL_isCopied_923 3 rfl 925 rfl ?_
      refine sx_iconst C dL_isCopied_925 4 (by decide) 926 rfl ?_
      refine sx_dup2 C dL_isCopied_926 rfl rfl 927 rfl ?_
      refine sl_iald C dL_isCopied_927 (Nat.lt_of_lt_of_le (show 7 < 8 by decide) hn) rfl h.1 928 rfl ?_
      replace h := h.2
      refine sx_iload C dL_isCopied_928 4 rfl 930 rfl ?_
      refine sx_if_le C dL_isCopied_930 942 933 (by decide) rfl (fun c88 => ?_) (fun c88 => ?_)
      · replace h := h.1 c88
        exact sx_sub [0, 4, 5] rfl h
      · replace h := h.2 c88
        refine sx_iload C dL_isCopied_933 5 rfl 935 rfl ?_
        refine sx_if_eq C dL_isCopied_935 942 938 (by decide) rfl (fun c89 => ?_) (fun c89 => ?_)
        · replace h := h.1 c89
          exact sx_sub [0, 4, 5] rfl h
        · replace h := h.2 c89
          refine sx_iconst C dL_isCopied_938 1 (by decide) 939 rfl ?_
          refine sx_goto C dL_isCopied_939 943 (by decide) ?_
          exact sx_sub [0, 4, 5] rfl h
    · replace h := h.2 c87
      refine sx_iload C dL_isCopied_871 4 rfl 873 rfl ?_
      refine sx_aload_n C dL_isCopied_873 3 2 rfl rfl 874 rfl ?_
      refine sx_bipush C dL_isCopied_874 8 (by decide) 876 rfl ?_
      refine sx_iload C dL_isCopied_876 6 rfl 878 rfl ?_
      refine sx_imul C dL_isCopied_878 879 rfl ?_
      refine sx_iconst C dL_isCopied_879 1 (by decide) 880 rfl ?_
      refine sx_iadd C dL_isCopied_880 881 rfl ?_
      refine sl_iald C dL_isCopied_881 (Nat.lt_of_lt_of_le (show 4 < 8 by decide) hn) rfl h.1 882 rfl ?_
      replace h := h.2
      refine sx_if_lt C dL_isCopied_882 889 885 (by decide) rfl (fun c90 => ?_) (fun c90 => ?_)
      · replace h := h.1 c90
        refine sx_iconst C dL_isCopied_889 0 (by decide) 890 rfl ?_
        exact sx_sub [0, 1, 2, 3, 5, 6] rfl h
      · replace h := h.2 c90
        refine sx_iconst C dL_isCopied_885 1 (by decide) 886 rfl ?_
        refine sx_goto C dL_isCopied_886 890 (by decide) ?_
        exact sx_sub [0, 1, 2, 3, 5, 6] rfl h)
  replace h := h (by
    intro f a o v15 v16 s0 s1 h
    refine sx_iadd C dL_isCopied_890 891 rfl ?_
    refine sx_topi (fun y91 ey91 => ?_)
    replace h := h y91 ey91
    refine sx_istore C dL_isCopied_891 [(14, .int y91), (0, .ref (b + 0)), (2, .ref (ad 2)), (3, .ref (ad 4)), (6, .ref (ad 7)), (15, .int v15), (16, .int v16)] (by decide) rfl 893 rfl ?_
    refine sx_iload C dL_isCopied_893 5 rfl 895 rfl ?_
    refine sx_if_eq C dL_isCopied_895 914 898 (by decide) rfl (fun c92 => ?_) (fun c92 => ?_)
    · replace h := h.1 c92
      exact sx_sub [1, 2, 3, 4, 0, 6] rfl h
    · replace h := h.2 c92
      refine sx_aload_n C dL_isCopied_898 2 2 rfl rfl 899 rfl ?_
      refine sx_aload_n C dL_isCopied_899 3 3 rfl rfl 900 rfl ?_
      refine sx_aload C dL_isCopied_900 4 rfl 902 rfl ?_
      refine sx_iload C dL_isCopied_902 6 rfl 904 rfl ?_
      refine sl_callS C hB hA (st := []) dL_isCopied_904 (c_L_owed hf ok hn h) mi_L_owed lk_L_129 mt_L_owed rfl rfl ⟨⟨(Nat.le_of_ble_eq_true rfl), (Nat.le_of_ble_eq_true rfl)⟩, (Nat.le_of_ble_eq_true rfl), (Nat.le_of_ble_eq_true rfl)⟩ (Nat.le_of_ble_eq_true rfl) 907 rfl (fun v g94 a95 o96 h => ?_)
      obtain ⟨⟨r93, rfl, h⟩, e9⟩ := h
      cases e9
      refine sx_if_ne C dL_isCopied_907 914 910 (by decide) rfl (fun c97 => ?_) (fun c97 => ?_)
      · replace h := h.2 c97
        exact sx_sub [1, 2, 3, 4, 0, 6] rfl h
      · replace h := h.1 c97
        refine sx_iconst C dL_isCopied_910 1 (by decide) 911 rfl ?_
        refine sx_goto C dL_isCopied_911 915 (by decide) ?_
        exact sx_sub [1, 2, 3, 4, 0, 6] rfl h)
  replace h := h (by
    intro f a o v14 v16 h
    refine sx_iconst C dL_isCopied_914 0 (by decide) 915 rfl ?_
    exact sx_sub [0, 1, 2, 3, 4, 5] rfl h)
  replace h := h (by
    intro f a o v14 v16 s0 h
    refine sx_istore C dL_isCopied_915 [(15, .int s0), (0, .ref (b + 0)), (2, .ref (ad 2)), (3, .ref (ad 4)), (6, .ref (ad 7)), (14, .int v14), (16, .int v16)] (by decide) rfl 917 rfl ?_
    obtain ⟨y98, ey98⟩ : ∃ w : Int32, w = v16 + 1 := ⟨_, rfl⟩
    replace h := h y98 ey98
    refine sx_iinc C dL_isCopied_917 6 rfl y98 (by rw [ey98]; rfl) [(16, .int y98), (15, .int s0), (0, .ref (b + 0)), (2, .ref (ad 2)), (3, .ref (ad 4)), (6, .ref (ad 7)), (14, .int v14)] (by decide) rfl 920 rfl ?_
    refine sx_goto C dL_isCopied_920 862 (by decide) ?_
    exact sx_sub [2, 3, 4, 5, 6, 1, 0] rfl h)
  replace h := h (by
    intro f a o v14 v15 s1 s2 h
    refine sx_iconst C dL_isCopied_942 0 (by decide) 943 rfl ?_
    exact sx_sub [0, 1, 2] rfl h)
  replace h := h (by
    intro f a o v14 v15 s1 s2 s3 h
    refine sx_iadd C dL_isCopied_943 944 rfl ?_
    refine sl_iast C dL_isCopied_944 ok hB hA (Nat.lt_of_lt_of_le (show 7 < 8 by decide) hn) rfl h.1 945 rfl (fun a99 ea99 => ?_)
    replace h := h.2 a99 ea99
    refine sx_aload_n C dL_isCopied_945 0 0 rfl rfl 946 rfl ?_
    refine sl_callH C hB hA (st := []) dL_isCopied_946 (c_L_played hf ok hn h) wi_L_played wn_L_played wt_L_played lk_L_213 ⟨by decide, by decide, (show _ = some 1 from by decide +kernel)⟩ rfl rfl ⟨⟨(Nat.le_of_ble_eq_true rfl), (Nat.le_of_ble_eq_true rfl)⟩, (Nat.le_of_ble_eq_true rfl), (Nat.le_of_ble_eq_true rfl)⟩ (Nat.le_of_ble_eq_true rfl) 949 rfl (fun v g101 a101 o101 h => ?_)
    obtain ⟨r100, rfl, h⟩ := h
    dsimp only at h
    refine sx_iload C dL_isCopied_949 1 rfl 951 rfl ?_
    refine sx_if_le C dL_isCopied_951 964 954 (by decide) rfl (fun c102 => ?_) (fun c102 => ?_)
    · replace h := h.1 c102
      refine sx_widen (k := 1) (n := 36 * 1) (Nat.le_of_ble_eq_true rfl) (Nat.le_of_ble_eq_true rfl) ?_
      exact sx_sub [] rfl h
    · replace h := h.2 c102
      refine sx_iload C dL_isCopied_954 2 rfl 956 rfl ?_
      refine sx_if_eq C dL_isCopied_956 964 959 (by decide) rfl (fun c103 => ?_) (fun c103 => ?_)
      · replace h := h.1 c103
        refine sx_widen (k := 1) (n := 36 * 1) (Nat.le_of_ble_eq_true rfl) (Nat.le_of_ble_eq_true rfl) ?_
        exact sx_sub [] rfl h
      · replace h := h.2 c103
        refine sx_iload C dL_isCopied_959 1 rfl 961 rfl ?_
        refine sx_goto C dL_isCopied_961 966 (by decide) ?_
        refine sx_widen (k := 1) (n := 36 * 1) (Nat.le_of_ble_eq_true rfl) (Nat.le_of_ble_eq_true rfl) ?_
        exact sx_sub [] rfl h)
  replace h := h (by
    intro f a o s0 h
    refine sx_bipush C dL_isCopied_964 (-7) (by decide) 966 rfl ?_
    refine sx_widen (k := 1) (n := 36 * 1) (Nat.le_of_ble_eq_true rfl) (Nat.le_of_ble_eq_true rfl) ?_
    exact sx_sub [] rfl h)
  replace h := h (by
    intro f a o s0 s1 h
    refine sx_icmp_ne C dL_isCopied_966 973 969 (by decide) rfl (fun c104 => ?_) (fun c104 => ?_)
    · replace h := h.2 c104
      refine sx_iconst C dL_isCopied_973 0 (by decide) 974 rfl ?_
      exact sx_zret C dL_isCopied_974 hr (Nat.le_of_ble_eq_true rfl) (Nat.le_of_ble_eq_true rfl) (Or.inl rfl) ⟨_, rfl, h⟩
    · replace h := h.1 c104
      refine sx_iconst C dL_isCopied_969 1 (by decide) 970 rfl ?_
      refine sx_goto C dL_isCopied_970 974 (by decide) ?_
      exact sx_zret C dL_isCopied_974 hr (Nat.le_of_ble_eq_true rfl) (Nat.le_of_ble_eq_true rfl) (Or.inr rfl) ⟨_, rfl, h⟩)
  refine sx_sub (lv' := [(0, .ref (b + 0)), (1, .ref (ad 1)), (2, .ref (ad 2)), (3, .ref (ad 4)), (4, .ref (ad 5)), (5, .ref (ad 6)), (6, .ref (ad 7)), (7, .int x7), (8, .int x8)]) [0, 1, 2, 3, 4, 5, 6, 7, 8] rfl ?_
  refine sx_iload C dL_isCopied_0 7 rfl 2 rfl ?_
  refine sx_if_ne C dL_isCopied_2 14 5 (by decide) rfl (fun c105 => ?_) (fun c105 => ?_)
  · replace h := h.2 c105
    exact sx_sub [0, 1, 2, 3, 4, 5, 6, 7, 8] rfl h
  · replace h := h.1 c105
    refine sx_aload C dL_isCopied_5 6 rfl 7 rfl ?_
    refine sx_iconst C dL_isCopied_7 3 (by decide) 8 rfl ?_
    refine sl_iald C dL_isCopied_8 (Nat.lt_of_lt_of_le (show 7 < 8 by decide) hn) rfl h.1 9 rfl ?_
    replace h := h.2
    refine sx_bipush C dL_isCopied_9 6 (by decide) 11 rfl ?_
    refine sx_icmp_lt C dL_isCopied_11 21 14 (by decide) rfl (fun c106 => ?_) (fun c106 => ?_)
    · replace h := h.1 c106
      exact sx_sub [0, 3, 6, 8] rfl h
    · replace h := h.2 c106
      exact sx_sub [0, 1, 2, 3, 4, 5, 6, 7, 8] rfl h
