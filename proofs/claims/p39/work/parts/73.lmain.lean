set_option maxRecDepth 100000 in
set_option maxHeartbeats 8000000 in
theorem c_X6_initW {l : Launch} {D : va_G} {G : sx_G} (hf : l.stackTraces = false) (b : Nat) : sx_MetC l D G yX6_init cX6_init 2 3 54 128 3382 [.ref (b + 0)] b [(b + 0, .inr (6, [.null, .null, .null, .null, .null, .int 0, .int 0]))] (sx_w G b lyX 129 fX0) := c_X6_init hf b
def sl_ad0 (b : Nat) : Nat → Nat := fun j => b + (129 + j)
set_option maxRecDepth 100000 in
set_option maxHeartbeats 16000000 in
theorem c_L_holds {l : Launch} {D : va_G} {G : sx_G} {bs L : Nat} {xs : Nat → Int32} (hf : l.stackTraces = false) (hL : L ≤ 260) (h : P_L_holds fX0 sl_a0 sl_o0) : sh_Met l D G bs L xs yL_holds cL_holds 16 (some .boolean) 21 537 100000 3600000 [.ref bs] (fun v => v = some (.int 1)) := by
  refine sh_enterW (own := RL) hf rfl rfl (Nat.le_of_ble_eq_true rfl) ?_
  intro p e s m args below meth c ls C hr hX hbl hls
  have hbA : ¬ sx_AC s.heap.size bs := Nat.not_le.mpr hbl
  have start : sx_J (sx_wc D s.heap.size) p l e { frames := 21, cells := 100000, slots := 3600000, locals := 537 } s m args below meth c (sx_AC s.heap.size) 16 0 0 (sx_fin sh_wd (sx_AC s.heap.size) below args s 100000 3600000 (fun v _ => v = some (.int 1)) (fun _ _ => False)) [] 0 (lv_args 0 [.ref bs]) [] := by
    refine sx_sub (lv' := [(0, .ref bs)]) [0] rfl ?_
    refine sx_knew C dL_holds_0 inw_X6 tyX6 tyX6_ok rfl lkc_L_64 ins_X6.1 ins_X6.2 dfl_X6 ⟨(Nat.le_of_ble_eq_true rfl), (Nat.le_of_ble_eq_true rfl)⟩ 0 rfl [(s.heap.size + 0, .inr (6, [.null, .null, .null, .null, .null, .int 0, .int 0]))] rfl 3 rfl ?_
    refine sx_dup C dL_holds_3 rfl 4 rfl ?_
    refine sx_kinit C (st := [.ref (s.heap.size + 0)]) (w0 := []) dL_holds_4 0 (c_X6_initW hf (s.heap.size + 0)) mi_X6_init "" (Or.inl lk_L_217) mn_X6_init rfl rfl rfl ⟨⟨(Nat.le_of_ble_eq_true rfl), (Nat.le_of_ble_eq_true rfl)⟩, (Nat.le_of_ble_eq_true rfl), (Nat.le_of_ble_eq_true rfl)⟩ (Nat.le_of_ble_eq_true rfl) rfl rfl (sx_w G s.heap.size lyX 129 fX0) rfl 7 rfl ?_
    refine sx_astore_n C dL_holds_7 1 rfl [(1, .ref (s.heap.size + 0)), (0, .ref bs)] (by decide) rfl 8 rfl ?_
    refine sx_bipush C dL_holds_8 30 (by decide) 10 rfl ?_
    refine sx_knewa C (atype := .long) dL_holds_10 rfl arc_long 4 rfl (fun _ h => by cases h) (a0 := (30, .inr (.inl (fun _ => 0)))) (fun _ => rfl) (by decide) rfl (Nat.le_of_ble_eq_true rfl) ⟨(Nat.le_of_ble_eq_true rfl), (Nat.le_of_ble_eq_true rfl)⟩ 129 sx_len ((sx_w G s.heap.size lyX 129 fX0) ++ [(s.heap.size + 129, .inl (G.2 3, 30, .inr (.inl (fun _ => 0))))]) rfl 12 rfl ?_
    refine sx_astore_n C dL_holds_12 2 rfl [(2, .ref (s.heap.size + 129)), (1, .ref (s.heap.size + 0)), (0, .ref bs)] (by decide) rfl 13 rfl ?_
    refine sx_bipush C dL_holds_13 30 (by decide) 15 rfl ?_
    refine sx_knewa C (atype := .int) dL_holds_15 rfl arc_int 0 rfl (fun _ h => by cases h) (a0 := (30, .inl (fun _ => 0))) (fun _ => rfl) (by decide) rfl (Nat.le_of_ble_eq_true rfl) ⟨(Nat.le_of_ble_eq_true rfl), (Nat.le_of_ble_eq_true rfl)⟩ 130 (by simp only [List.length_append, sx_len, List.length_cons, List.length_nil]) (((sx_w G s.heap.size lyX 129 fX0) ++ [(s.heap.size + 129, .inl (G.2 3, 30, .inr (.inl (fun _ => 0))))]) ++ [(s.heap.size + 130, .inl (G.1, 30, .inl (fun _ => 0)))]) rfl 17 rfl ?_
    refine sx_astore_n C dL_holds_17 3 rfl [(3, .ref (s.heap.size + 130)), (2, .ref (s.heap.size + 129)), (1, .ref (s.heap.size + 0)), (0, .ref bs)] (by decide) rfl 18 rfl ?_
    refine sx_bipush C dL_holds_18 30 (by decide) 20 rfl ?_
    refine sx_knewa C (atype := .int) dL_holds_20 rfl arc_int 0 rfl (fun _ h => by cases h) (a0 := (30, .inl (fun _ => 0))) (fun _ => rfl) (by decide) rfl (Nat.le_of_ble_eq_true rfl) ⟨(Nat.le_of_ble_eq_true rfl), (Nat.le_of_ble_eq_true rfl)⟩ 131 (by simp only [List.length_append, sx_len, List.length_cons, List.length_nil]) ((((sx_w G s.heap.size lyX 129 fX0) ++ [(s.heap.size + 129, .inl (G.2 3, 30, .inr (.inl (fun _ => 0))))]) ++ [(s.heap.size + 130, .inl (G.1, 30, .inl (fun _ => 0)))]) ++ [(s.heap.size + 131, .inl (G.1, 30, .inl (fun _ => 0)))]) rfl 22 rfl ?_
    refine sx_astore C dL_holds_22 [(4, .ref (s.heap.size + 131)), (3, .ref (s.heap.size + 130)), (2, .ref (s.heap.size + 129)), (1, .ref (s.heap.size + 0)), (0, .ref bs)] (by decide) rfl 24 rfl ?_
    refine sx_bipush C dL_holds_24 6 (by decide) 26 rfl ?_
    refine sx_knewa C (atype := .int) dL_holds_26 rfl arc_int 0 rfl (fun _ h => by cases h) (a0 := (6, .inl (fun _ => 0))) (fun _ => rfl) (by decide) rfl (Nat.le_of_ble_eq_true rfl) ⟨(Nat.le_of_ble_eq_true rfl), (Nat.le_of_ble_eq_true rfl)⟩ 132 (by simp only [List.length_append, sx_len, List.length_cons, List.length_nil]) (((((sx_w G s.heap.size lyX 129 fX0) ++ [(s.heap.size + 129, .inl (G.2 3, 30, .inr (.inl (fun _ => 0))))]) ++ [(s.heap.size + 130, .inl (G.1, 30, .inl (fun _ => 0)))]) ++ [(s.heap.size + 131, .inl (G.1, 30, .inl (fun _ => 0)))]) ++ [(s.heap.size + 132, .inl (G.1, 6, .inl (fun _ => 0)))]) rfl 28 rfl ?_
    refine sx_astore C dL_holds_28 [(5, .ref (s.heap.size + 132)), (4, .ref (s.heap.size + 131)), (3, .ref (s.heap.size + 130)), (2, .ref (s.heap.size + 129)), (1, .ref (s.heap.size + 0)), (0, .ref bs)] (by decide) rfl 30 rfl ?_
    refine sx_bipush C dL_holds_30 48 (by decide) 32 rfl ?_
    refine sx_knewa C (atype := .int) dL_holds_32 rfl arc_int 0 rfl (fun _ h => by cases h) (a0 := (48, .inl (fun _ => 0))) (fun _ => rfl) (by decide) rfl (Nat.le_of_ble_eq_true rfl) ⟨(Nat.le_of_ble_eq_true rfl), (Nat.le_of_ble_eq_true rfl)⟩ 133 (by simp only [List.length_append, sx_len, List.length_cons, List.length_nil]) ((((((sx_w G s.heap.size lyX 129 fX0) ++ [(s.heap.size + 129, .inl (G.2 3, 30, .inr (.inl (fun _ => 0))))]) ++ [(s.heap.size + 130, .inl (G.1, 30, .inl (fun _ => 0)))]) ++ [(s.heap.size + 131, .inl (G.1, 30, .inl (fun _ => 0)))]) ++ [(s.heap.size + 132, .inl (G.1, 6, .inl (fun _ => 0)))]) ++ [(s.heap.size + 133, .inl (G.1, 48, .inl (fun _ => 0)))]) rfl 34 rfl ?_
    refine sx_astore C dL_holds_34 [(6, .ref (s.heap.size + 133)), (5, .ref (s.heap.size + 132)), (4, .ref (s.heap.size + 131)), (3, .ref (s.heap.size + 130)), (2, .ref (s.heap.size + 129)), (1, .ref (s.heap.size + 0)), (0, .ref bs)] (by decide) rfl 36 rfl ?_
    refine sx_bipush C dL_holds_36 30 (by decide) 38 rfl ?_
    refine sx_knewa C (atype := .long) dL_holds_38 rfl arc_long 4 rfl (fun _ h => by cases h) (a0 := (30, .inr (.inl (fun _ => 0)))) (fun _ => rfl) (by decide) rfl (Nat.le_of_ble_eq_true rfl) ⟨(Nat.le_of_ble_eq_true rfl), (Nat.le_of_ble_eq_true rfl)⟩ 134 (by simp only [List.length_append, sx_len, List.length_cons, List.length_nil]) (((((((sx_w G s.heap.size lyX 129 fX0) ++ [(s.heap.size + 129, .inl (G.2 3, 30, .inr (.inl (fun _ => 0))))]) ++ [(s.heap.size + 130, .inl (G.1, 30, .inl (fun _ => 0)))]) ++ [(s.heap.size + 131, .inl (G.1, 30, .inl (fun _ => 0)))]) ++ [(s.heap.size + 132, .inl (G.1, 6, .inl (fun _ => 0)))]) ++ [(s.heap.size + 133, .inl (G.1, 48, .inl (fun _ => 0)))]) ++ [(s.heap.size + 134, .inl (G.2 3, 30, .inr (.inl (fun _ => 0))))]) rfl 40 rfl ?_
    refine sx_astore C dL_holds_40 [(7, .ref (s.heap.size + 134)), (6, .ref (s.heap.size + 133)), (5, .ref (s.heap.size + 132)), (4, .ref (s.heap.size + 131)), (3, .ref (s.heap.size + 130)), (2, .ref (s.heap.size + 129)), (1, .ref (s.heap.size + 0)), (0, .ref bs)] (by decide) rfl 42 rfl ?_
    refine sx_bipush C dL_holds_42 48 (by decide) 44 rfl ?_
    refine sx_knewa C (atype := .long) dL_holds_44 rfl arc_long 4 rfl (fun _ h => by cases h) (a0 := (48, .inr (.inl (fun _ => 0)))) (fun _ => rfl) (by decide) rfl (Nat.le_of_ble_eq_true rfl) ⟨(Nat.le_of_ble_eq_true rfl), (Nat.le_of_ble_eq_true rfl)⟩ 135 (by simp only [List.length_append, sx_len, List.length_cons, List.length_nil]) ((((((((sx_w G s.heap.size lyX 129 fX0) ++ [(s.heap.size + 129, .inl (G.2 3, 30, .inr (.inl (fun _ => 0))))]) ++ [(s.heap.size + 130, .inl (G.1, 30, .inl (fun _ => 0)))]) ++ [(s.heap.size + 131, .inl (G.1, 30, .inl (fun _ => 0)))]) ++ [(s.heap.size + 132, .inl (G.1, 6, .inl (fun _ => 0)))]) ++ [(s.heap.size + 133, .inl (G.1, 48, .inl (fun _ => 0)))]) ++ [(s.heap.size + 134, .inl (G.2 3, 30, .inr (.inl (fun _ => 0))))]) ++ [(s.heap.size + 135, .inl (G.2 3, 48, .inr (.inl (fun _ => 0))))]) rfl 46 rfl ?_
    refine sx_astore C dL_holds_46 [(8, .ref (s.heap.size + 135)), (7, .ref (s.heap.size + 134)), (6, .ref (s.heap.size + 133)), (5, .ref (s.heap.size + 132)), (4, .ref (s.heap.size + 131)), (3, .ref (s.heap.size + 130)), (2, .ref (s.heap.size + 129)), (1, .ref (s.heap.size + 0)), (0, .ref bs)] (by decide) rfl 48 rfl ?_
    refine sx_iconst C dL_holds_48 5 (by decide) 49 rfl ?_
    refine sx_knewa C (atype := .int) dL_holds_49 rfl arc_int 0 rfl (fun _ h => by cases h) (a0 := (5, .inl (fun _ => 0))) (fun _ => rfl) (by decide) rfl (Nat.le_of_ble_eq_true rfl) ⟨(Nat.le_of_ble_eq_true rfl), (Nat.le_of_ble_eq_true rfl)⟩ 136 (by simp only [List.length_append, sx_len, List.length_cons, List.length_nil]) (((((((((sx_w G s.heap.size lyX 129 fX0) ++ [(s.heap.size + 129, .inl (G.2 3, 30, .inr (.inl (fun _ => 0))))]) ++ [(s.heap.size + 130, .inl (G.1, 30, .inl (fun _ => 0)))]) ++ [(s.heap.size + 131, .inl (G.1, 30, .inl (fun _ => 0)))]) ++ [(s.heap.size + 132, .inl (G.1, 6, .inl (fun _ => 0)))]) ++ [(s.heap.size + 133, .inl (G.1, 48, .inl (fun _ => 0)))]) ++ [(s.heap.size + 134, .inl (G.2 3, 30, .inr (.inl (fun _ => 0))))]) ++ [(s.heap.size + 135, .inl (G.2 3, 48, .inr (.inl (fun _ => 0))))]) ++ [(s.heap.size + 136, .inl (G.1, 5, .inl (fun _ => 0)))]) rfl 51 rfl ?_
    refine sx_astore C dL_holds_51 [(9, .ref (s.heap.size + 136)), (8, .ref (s.heap.size + 135)), (7, .ref (s.heap.size + 134)), (6, .ref (s.heap.size + 133)), (5, .ref (s.heap.size + 132)), (4, .ref (s.heap.size + 131)), (3, .ref (s.heap.size + 130)), (2, .ref (s.heap.size + 129)), (1, .ref (s.heap.size + 0)), (0, .ref bs)] (by decide) rfl 53 rfl ?_
    refine sx_widen (k := 200) (n := 36 * 200) (Nat.le_of_ble_eq_true rfl) (Nat.le_of_ble_eq_true rfl) ?_
    have go := w_L_holds (ad := sl_ad0 s.heap.size) (b := s.heap.size) (e := e) (p := p) (below := below) hf hL C hr hX hbl hbA ⟨fun j hj => (show s.heap.size + 129 ≤ s.heap.size + (129 + j) by omega), fun i j hi hj h => by have h : s.heap.size + (129 + i) = s.heap.size + (129 + j) := h; omega⟩ (fun k _ => Nat.le_add_right _ _) (fun j _ => Nat.le_add_right _ _) h
    intro H locs ls hP hS hls
    have e9 : ((((((((sx_w G s.heap.size lyX 129 fX0) ++ [(s.heap.size + 129, .inl (G.2 3, 30, .inr (.inl (fun _ => 0))))]) ++ [(s.heap.size + 130, .inl (G.1, 30, .inl (fun _ => 0)))]) ++ [(s.heap.size + 131, .inl (G.1, 30, .inl (fun _ => 0)))]) ++ [(s.heap.size + 132, .inl (G.1, 6, .inl (fun _ => 0)))]) ++ [(s.heap.size + 133, .inl (G.1, 48, .inl (fun _ => 0)))]) ++ [(s.heap.size + 134, .inl (G.2 3, 30, .inr (.inl (fun _ => 0))))]) ++ [(s.heap.size + 135, .inl (G.2 3, 48, .inr (.inl (fun _ => 0))))]) ++ [(s.heap.size + 136, .inl (G.1, 5, .inl (fun _ => 0)))] = sx_w G s.heap.size lyX 129 fX0 ++ sl_w G (sl_ad0 s.heap.size) 8 sl_a0 sl_o0 := by
      simp only [List.append_assoc]
      rfl
    have hP1 := hP.1
    rw [e9] at hP1
    exact go H locs ls ⟨sl_Pl hP1, sl_Pr hP1⟩ hS (lv_sub hls [9, 8, 7, 6, 5, 4, 3, 2, 1, 0] rfl)
  exact start s.heap [] ls ⟨fun k q h => by simp at h, rfl, fun k q h => by simp at h⟩ va_S.rf hls
set_option maxRecDepth 100000 in
set_option maxHeartbeats 8000000 in
theorem c_L_isHeld {l : Launch} {D : va_G} {G : sx_G} {bs L : Nat} {xs : Nat → Int32} (hf : l.stackTraces = false) (hL : L ≤ 260) (h : P_L_holds fX0 sl_a0 sl_o0) : sh_MetH l D G bs L xs yL_isHeld cL_isHeld 2 (some .boolean) [(0, 4, 5, 69), (0, 4, 8, 258), (0, 4, 11, 154)] 22 572 100000 3600000 [.ref bs] (fun v => v = some (.int 1)) := by
  refine sh_enterH (own := RL) hf rfl rfl (Nat.le_of_ble_eq_true rfl) ?_
  intro p e s m args below meth c C hr hX hbl
  have hbA : ¬ sx_AC s.heap.size bs := Nat.not_le.mpr hbl
  refine sx_sub (lv' := [(0, .ref bs)]) [0] rfl ?_
  refine sx_aload_n C dL_isHeld_0 0 0 rfl rfl 1 rfl ?_
  refine sh_call C hX hbl hbA (fun _ _ _ _ => trivial) (st := []) dL_isHeld_1 (c_L_holds hf hL h) mi_L_holds lk_L_254 mt_L_holds rfl rfl ⟨⟨(Nat.le_of_ble_eq_true rfl), (Nat.le_of_ble_eq_true rfl)⟩, (Nat.le_of_ble_eq_true rfl), (Nat.le_of_ble_eq_true rfl)⟩ (Nat.le_of_ble_eq_true rfl) 4 rfl (fun v hv => ?_)
  subst hv
  exact sx_zret C dL_isHeld_4 hr (Nat.le_of_ble_eq_true rfl) (Nat.le_of_ble_eq_true rfl) (Or.inr rfl) rfl
set_option maxRecDepth 100000 in
set_option maxHeartbeats 8000000 in
theorem law_start {p : Program} {l : Launch} {e : Env} {s : State} {m : MethodId} {below : List Frame} {meth : Method} {c : Code} {D : va_G} {G : sx_G} {b L : Nat} {xs : Nat → Int32} (hf : l.stackTraces = false) (hL : L ≤ 260) (C : sx_Cx p l s m #[.ref b] meth c D G (sx_AC s.heap.size) cL_law 1 RL) (hr : meth.sig.returnType = ret) (hX : va_X b L xs s s.heap) (hbl : b < s.heap.size) (h : P_L_holds fX0 sl_a0 sl_o0) : sx_J sh_wd p l e room_1 s m #[.ref b] below meth c (sx_AC s.heap.size) 1 0 0 (lw_Z below #[Value.ref b] s) () 0 (lv_args 0 [.ref b]) [] := by
  have hbA : ¬ sx_AC s.heap.size b := Nat.not_le.mpr hbl
  refine sx_sub (lv' := [(0, .ref b)]) [0] rfl ?_
  refine sx_aload_n C dL_law_0 0 0 rfl rfl 1 rfl ?_
  refine sh_callH C hX hbl hbA (fun _ _ _ _ => trivial) (st := []) dL_law_1 (c_L_isHeld hf hL h) wi_L_isHeld wn_L_isHeld wt_L_isHeld lk_L_260 ⟨by decide, by decide, (show _ = some 1 from by decide +kernel)⟩ rfl rfl ⟨⟨(Nat.le_of_ble_eq_true rfl), (Nat.le_of_ble_eq_true rfl)⟩, (Nat.le_of_ble_eq_true rfl), (Nat.le_of_ble_eq_true rfl)⟩ (Nat.le_of_ble_eq_true rfl) 4 rfl (fun v hv => ?_)
  subst hv
  exact fun H locs ls hP hS hl => va_forget (fun q hq => hS.2.2 q hq) (W.widen (k := 642633) (n := 7173724) (Nat.le_of_ble_eq_true rfl) (Nat.le_of_ble_eq_true rfl) (lw_ret C.1 C.2.1 hr C.2.2.2.2.2.2.1 dL_law_4))
