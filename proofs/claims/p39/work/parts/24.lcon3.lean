set_option maxRecDepth 100000 in
set_option maxHeartbeats 8000000 in
theorem c_L_isBook {l : Launch} {D : va_G} {G : sx_G} {b : Nat} {ad : Nat → Nat} (hf : l.stackTraces = false) (ok : sl_ok b ad 8) {f a : sx_F} {o : sl_O} {x5 : Int32} {x6 : Int32} {Q : Int32 → sx_F → sx_F → sl_O → Prop} (h : P_L_isBook f a o x5 x6 Q) : sl_Met l D G b ad 8 yL_isBook cL_isBook 14 (some .boolean) 20 504 301 10836 [.ref (b + 0), .ref (ad 0), .ref (ad 1), .ref (ad 3), .ref (ad 7), .int x5, .int x6] (f, a, o) (sl_qi Q) := by
  refine sl_enter (own := RL) hf rfl rfl (Nat.le_of_ble_eq_true rfl) ?_
  intro p e s m args below meth c C hr 
  have hB : ∀ k, k < 129 → sl_A b ad 8 s.heap.size (b + k) := fun k h => Or.inl ⟨Nat.le_add_right _ _, Nat.add_lt_add_left h _⟩
  have hA : ∀ j, j < 8 → sl_A b ad 8 s.heap.size (ad j) := fun j h => Or.inr (Or.inl ⟨j, h, rfl⟩)
  unfold P_L_isBook at h
  replace h := h (fun (f : sx_F) (a : sx_F) (o : sl_O) (v8 : Int32) (v9 : Int32) => ∀ t : Nat, sl_ok b (sl_ad ad t) 9 → (∀ j, j < 9 → sl_A b ad 8 s.heap.size (sl_ad ad t j)) → sx_J (sl_wp D G b (sl_ad ad t) 9) p l e { frames := 20, cells := 301, slots := 10836, locals := 504 } s m args below meth c (sl_A b ad 8 s.heap.size) 14 1 (36 * 1) (sx_fin (sl_wp D G b ad 8) (sl_A b ad 8 s.heap.size) below args s 301 10836 (sl_qi Q) (fun _ _ => False)) (f, a, o) 111 [(0, .ref (b + 0)), (1, .ref ((sl_ad ad t) 0)), (2, .ref ((sl_ad ad t) 1)), (3, .ref ((sl_ad ad t) 3)), (4, .ref ((sl_ad ad t) 7)), (5, .int x5), (6, .int x6), (7, .ref ((sl_ad ad t) 8)), (8, .int v8), (9, .int v9)] [])
  replace h := h (fun (f : sx_F) (a : sx_F) (o : sl_O) (v8 : Int32) (v9 : Int32) => ∀ t : Nat, sl_ok b (sl_ad ad t) 9 → (∀ j, j < 9 → sl_A b ad 8 s.heap.size (sl_ad ad t j)) → sx_J (sl_wp D G b (sl_ad ad t) 9) p l e { frames := 20, cells := 301, slots := 10836, locals := 504 } s m args below meth c (sl_A b ad 8 s.heap.size) 14 1 (36 * 1) (sx_fin (sl_wp D G b ad 8) (sl_A b ad 8 s.heap.size) below args s 301 10836 (sl_qi Q) (fun _ _ => False)) (f, a, o) 141 [(0, .ref (b + 0)), (1, .ref ((sl_ad ad t) 0)), (2, .ref ((sl_ad ad t) 1)), (3, .ref ((sl_ad ad t) 3)), (4, .ref ((sl_ad ad t) 7)), (5, .int x5), (6, .int x6), (7, .ref ((sl_ad ad t) 8)), (8, .int v8), (9, .int v9)] [])
  replace h := h (fun (f : sx_F) (a : sx_F) (o : sl_O) (v8 : Int32) (v9 : Int32) (s0 : Int32) => ∀ t : Nat, sl_ok b (sl_ad ad t) 9 → (∀ j, j < 9 → sl_A b ad 8 s.heap.size (sl_ad ad t j)) → sx_J (sl_wp D G b (sl_ad ad t) 9) p l e { frames := 20, cells := 301, slots := 10836, locals := 504 } s m args below meth c (sl_A b ad 8 s.heap.size) 14 1 (36 * 1) (sx_fin (sl_wp D G b ad 8) (sl_A b ad 8 s.heap.size) below args s 301 10836 (sl_qi Q) (fun _ _ => False)) (f, a, o) 142 [(0, .ref (b + 0)), (1, .ref ((sl_ad ad t) 0)), (2, .ref ((sl_ad ad t) 1)), (3, .ref ((sl_ad ad t) 3)), (4, .ref ((sl_ad ad t) 7)), (5, .int x5), (6, .int x6), (7, .ref ((sl_ad ad t) 8)), (8, .int v8), (9, .int v9)] [.int s0])
  replace h := h (fun (f : sx_F) (a : sx_F) (o : sl_O) (v8 : Int32) (v9 : Int32) (v10 : Int32) (v11 : Int32) (v12 : Int32) => ∀ t : Nat, sl_ok b (sl_ad ad t) 9 → (∀ j, j < 9 → sl_A b ad 8 s.heap.size (sl_ad ad t j)) → sx_J (sl_wp D G b (sl_ad ad t) 9) p l e { frames := 20, cells := 301, slots := 10836, locals := 504 } s m args below meth c (sl_A b ad 8 s.heap.size) 14 1 (36 * 1) (sx_fin (sl_wp D G b ad 8) (sl_A b ad 8 s.heap.size) below args s 301 10836 (sl_qi Q) (fun _ _ => False)) (f, a, o) 150 [(0, .ref (b + 0)), (1, .ref ((sl_ad ad t) 0)), (2, .ref ((sl_ad ad t) 1)), (3, .ref ((sl_ad ad t) 3)), (4, .ref ((sl_ad ad t) 7)), (5, .int x5), (6, .int x6), (7, .ref ((sl_ad ad t) 8)), (8, .int v8), (9, .int v9), (10, .int v10), (11, .int v11), (12, .int v12)] [])
  replace h := h (fun (f : sx_F) (a : sx_F) (o : sl_O) (v8 : Int32) (v9 : Int32) (v11 : Int32) (v12 : Int32) (s0 : Int32) => ∀ t : Nat, sl_ok b (sl_ad ad t) 9 → (∀ j, j < 9 → sl_A b ad 8 s.heap.size (sl_ad ad t j)) → sx_J (sl_wp D G b (sl_ad ad t) 9) p l e { frames := 20, cells := 301, slots := 10836, locals := 504 } s m args below meth c (sl_A b ad 8 s.heap.size) 14 1 (36 * 1) (sx_fin (sl_wp D G b ad 8) (sl_A b ad 8 s.heap.size) below args s 301 10836 (sl_qi Q) (fun _ _ => False)) (f, a, o) 187 [(0, .ref (b + 0)), (1, .ref ((sl_ad ad t) 0)), (2, .ref ((sl_ad ad t) 1)), (3, .ref ((sl_ad ad t) 3)), (4, .ref ((sl_ad ad t) 7)), (5, .int x5), (6, .int x6), (7, .ref ((sl_ad ad t) 8)), (8, .int v8), (9, .int v9), (11, .int v11), (12, .int v12)] [.int s0])
  replace h := h (fun (f : sx_F) (a : sx_F) (o : sl_O) (v8 : Int32) (v9 : Int32) (v10 : Int32) (v11 : Int32) (v12 : Int32) (v13 : Int32) => ∀ t : Nat, sl_ok b (sl_ad ad t) 9 → (∀ j, j < 9 → sl_A b ad 8 s.heap.size (sl_ad ad t j)) → sx_J (sl_wp D G b (sl_ad ad t) 9) p l e { frames := 20, cells := 301, slots := 10836, locals := 504 } s m args below meth c (sl_A b ad 8 s.heap.size) 14 1 (36 * 1) (sx_fin (sl_wp D G b ad 8) (sl_A b ad 8 s.heap.size) below args s 301 10836 (sl_qi Q) (fun _ _ => False)) (f, a, o) 198 [(0, .ref (b + 0)), (1, .ref ((sl_ad ad t) 0)), (2, .ref ((sl_ad ad t) 1)), (3, .ref ((sl_ad ad t) 3)), (4, .ref ((sl_ad ad t) 7)), (5, .int x5), (6, .int x6), (7, .ref ((sl_ad ad t) 8)), (8, .int v8), (9, .int v9), (10, .int v10), (11, .int v11), (12, .int v12), (13, .int v13)] [])
  replace h := h (fun (f : sx_F) (a : sx_F) (o : sl_O) (v8 : Int32) (v9 : Int32) (v11 : Int32) (v12 : Int32) (v13 : Int32) (s0 : Int32) (s1 : Int32) => ∀ t : Nat, sl_ok b (sl_ad ad t) 9 → (∀ j, j < 9 → sl_A b ad 8 s.heap.size (sl_ad ad t j)) → sx_J (sl_wp D G b (sl_ad ad t) 9) p l e { frames := 20, cells := 301, slots := 10836, locals := 504 } s m args below meth c (sl_A b ad 8 s.heap.size) 14 1 (36 * 1) (sx_fin (sl_wp D G b ad 8) (sl_A b ad 8 s.heap.size) below args s 301 10836 (sl_qi Q) (fun _ _ => False)) (f, a, o) 294 [(0, .ref (b + 0)), (1, .ref ((sl_ad ad t) 0)), (2, .ref ((sl_ad ad t) 1)), (3, .ref ((sl_ad ad t) 3)), (4, .ref ((sl_ad ad t) 7)), (5, .int x5), (6, .int x6), (7, .ref ((sl_ad ad t) 8)), (8, .int v8), (9, .int v9), (11, .int v11), (12, .int v12), (13, .int v13)] [.int s1, .int s0])
  replace h := h (fun (f : sx_F) (a : sx_F) (o : sl_O) (v8 : Int32) (v9 : Int32) (v11 : Int32) (v12 : Int32) (v13 : Int32) => ∀ t : Nat, sl_ok b (sl_ad ad t) 9 → (∀ j, j < 9 → sl_A b ad 8 s.heap.size (sl_ad ad t j)) → sx_J (sl_wp D G b (sl_ad ad t) 9) p l e { frames := 20, cells := 301, slots := 10836, locals := 504 } s m args below meth c (sl_A b ad 8 s.heap.size) 14 1 (36 * 1) (sx_fin (sl_wp D G b ad 8) (sl_A b ad 8 s.heap.size) below args s 301 10836 (sl_qi Q) (fun _ _ => False)) (f, a, o) 297 [(0, .ref (b + 0)), (1, .ref ((sl_ad ad t) 0)), (2, .ref ((sl_ad ad t) 1)), (3, .ref ((sl_ad ad t) 3)), (4, .ref ((sl_ad ad t) 7)), (5, .int x5), (6, .int x6), (7, .ref ((sl_ad ad t) 8)), (8, .int v8), (9, .int v9), (11, .int v11), (12, .int v12), (13, .int v13)] [])
  replace h := h (fun (f : sx_F) (a : sx_F) (o : sl_O) (v8 : Int32) (v9 : Int32) (v11 : Int32) (v12 : Int32) (v13 : Int32) => ∀ t : Nat, sl_ok b (sl_ad ad t) 9 → (∀ j, j < 9 → sl_A b ad 8 s.heap.size (sl_ad ad t j)) → sx_J (sl_wp D G b (sl_ad ad t) 9) p l e { frames := 20, cells := 301, slots := 10836, locals := 504 } s m args below meth c (sl_A b ad 8 s.heap.size) 14 1 (36 * 1) (sx_fin (sl_wp D G b ad 8) (sl_A b ad 8 s.heap.size) below args s 301 10836 (sl_qi Q) (fun _ _ => False)) (f, a, o) 301 [(0, .ref (b + 0)), (1, .ref ((sl_ad ad t) 0)), (2, .ref ((sl_ad ad t) 1)), (3, .ref ((sl_ad ad t) 3)), (4, .ref ((sl_ad ad t) 7)), (5, .int x5), (6, .int x6), (7, .ref ((sl_ad ad t) 8)), (8, .int v8), (9, .int v9), (11, .int v11), (12, .int v12), (13, .int v13)] [])
  replace h := h (fun (f : sx_F) (a : sx_F) (o : sl_O) (v8 : Int32) (v9 : Int32) (v11 : Int32) (v12 : Int32) (v13 : Int32) (s0 : Int32) => ∀ t : Nat, sl_ok b (sl_ad ad t) 9 → (∀ j, j < 9 → sl_A b ad 8 s.heap.size (sl_ad ad t j)) → sx_J (sl_wp D G b (sl_ad ad t) 9) p l e { frames := 20, cells := 301, slots := 10836, locals := 504 } s m args below meth c (sl_A b ad 8 s.heap.size) 14 1 (36 * 1) (sx_fin (sl_wp D G b ad 8) (sl_A b ad 8 s.heap.size) below args s 301 10836 (sl_qi Q) (fun _ _ => False)) (f, a, o) 302 [(0, .ref (b + 0)), (1, .ref ((sl_ad ad t) 0)), (2, .ref ((sl_ad ad t) 1)), (3, .ref ((sl_ad ad t) 3)), (4, .ref ((sl_ad ad t) 7)), (5, .int x5), (6, .int x6), (7, .ref ((sl_ad ad t) 8)), (8, .int v8), (9, .int v9), (11, .int v11), (12, .int v12), (13, .int v13)] [.int s0])
  replace h := h (fun (f : sx_F) (a : sx_F) (o : sl_O) (v8 : Int32) (v9 : Int32) (v10 : Int32) (v11 : Int32) (v12 : Int32) => ∀ t : Nat, sl_ok b (sl_ad ad t) 9 → (∀ j, j < 9 → sl_A b ad 8 s.heap.size (sl_ad ad t j)) → sx_J (sl_wp D G b (sl_ad ad t) 9) p l e { frames := 20, cells := 301, slots := 10836, locals := 504 } s m args below meth c (sl_A b ad 8 s.heap.size) 14 1 (36 * 1) (sx_fin (sl_wp D G b ad 8) (sl_A b ad 8 s.heap.size) below args s 301 10836 (sl_qi Q) (fun _ _ => False)) (f, a, o) 310 [(0, .ref (b + 0)), (1, .ref ((sl_ad ad t) 0)), (2, .ref ((sl_ad ad t) 1)), (3, .ref ((sl_ad ad t) 3)), (4, .ref ((sl_ad ad t) 7)), (5, .int x5), (6, .int x6), (7, .ref ((sl_ad ad t) 8)), (8, .int v8), (9, .int v9), (10, .int v10), (11, .int v11), (12, .int v12)] [])
  replace h := h (fun (f : sx_F) (a : sx_F) (o : sl_O) (v8 : Int32) (v9 : Int32) (v10 : Int32) => ∀ t : Nat, sl_ok b (sl_ad ad t) 9 → (∀ j, j < 9 → sl_A b ad 8 s.heap.size (sl_ad ad t j)) → sx_J (sl_wp D G b (sl_ad ad t) 9) p l e { frames := 20, cells := 301, slots := 10836, locals := 504 } s m args below meth c (sl_A b ad 8 s.heap.size) 14 1 (36 * 1) (sx_fin (sl_wp D G b ad 8) (sl_A b ad 8 s.heap.size) below args s 301 10836 (sl_qi Q) (fun _ _ => False)) (f, a, o) 328 [(0, .ref (b + 0)), (1, .ref ((sl_ad ad t) 0)), (2, .ref ((sl_ad ad t) 1)), (3, .ref ((sl_ad ad t) 3)), (4, .ref ((sl_ad ad t) 7)), (5, .int x5), (6, .int x6), (7, .ref ((sl_ad ad t) 8)), (8, .int v8), (9, .int v9), (10, .int v10)] [])
  replace h := h (fun (f : sx_F) (a : sx_F) (o : sl_O) => ∀ t : Nat, sl_ok b (sl_ad ad t) 9 → (∀ j, j < 9 → sl_A b ad 8 s.heap.size (sl_ad ad t j)) → sx_J (sl_wp D G b (sl_ad ad t) 9) p l e { frames := 20, cells := 301, slots := 10836, locals := 504 } s m args below meth c (sl_A b ad 8 s.heap.size) 14 301 (36 * 301) (sx_fin (sl_wp D G b ad 8) (sl_A b ad 8 s.heap.size) below args s 301 10836 (sl_qi Q) (fun _ _ => False)) (f, a, o) 363 [] [])
  replace h := h (by
    intro f a o v8 v9 h
    intro t ok hA
    refine sx_aload_n C dL_isBook_111 0 0 rfl rfl 112 rfl ?_
    refine sx_iload C dL_isBook_112 5 rfl 114 rfl ?_
    refine sl_callX C ok hB (st := []) dL_isBook_114 (c0_X6_turns hf h) mi_X6_turns lk_L_92 mn_X6_turns ms_X6_turns (by decide) lyX_0 rfl rfl rfl rfl ⟨⟨(Nat.le_of_ble_eq_true rfl), (Nat.le_of_ble_eq_true rfl)⟩, (Nat.le_of_ble_eq_true rfl), (Nat.le_of_ble_eq_true rfl)⟩ (Nat.le_of_ble_eq_true rfl) 117 rfl (fun v g2 h => ?_)
    obtain ⟨r1, rfl, h⟩ := h
    refine sx_aload_n C dL_isBook_117 1 1 rfl rfl 118 rfl ?_
    refine sx_aload_n C dL_isBook_118 2 2 rfl rfl 119 rfl ?_
    refine sx_aload_n C dL_isBook_119 3 3 rfl rfl 120 rfl ?_
    refine sx_aload C dL_isBook_120 4 rfl 122 rfl ?_
    refine sx_iload C dL_isBook_122 5 rfl 124 rfl ?_
    refine sx_aload C dL_isBook_124 7 rfl 126 rfl ?_
    refine sx_iload C dL_isBook_126 8 rfl 128 rfl ?_
    refine sx_iload C dL_isBook_128 9 rfl 130 rfl ?_
    refine sx_iconst C dL_isBook_130 1 (by decide) 131 rfl ?_
    refine sl_callS C hB hA (st := [.int r1]) dL_isBook_131 (c_L_cost hf ok (by decide) h) mi_L_cost lk_L_52 mt_L_cost rfl rfl ⟨⟨(Nat.le_of_ble_eq_true rfl), (Nat.le_of_ble_eq_true rfl)⟩, (Nat.le_of_ble_eq_true rfl), (Nat.le_of_ble_eq_true rfl)⟩ (Nat.le_of_ble_eq_true rfl) 134 rfl (fun v g4 a5 o6 h => ?_)
    obtain ⟨⟨r3, rfl, h⟩, e9⟩ := h
    cases e9
    refine sx_icmp_ne C dL_isBook_134 141 137 (by decide) rfl (fun c7 => ?_) (fun c7 => ?_)
    · replace h := h.2 c7
      refine sx_widen (k := 1) (n := 36 * 1) (Nat.le_of_ble_eq_true rfl) (Nat.le_of_ble_eq_true rfl) ?_
      exact sx_sub [0, 1, 2, 3, 4, 5, 6, 7, 8, 9] rfl (h t ok hA)
    · replace h := h.1 c7
      refine sx_iconst C dL_isBook_137 1 (by decide) 138 rfl ?_
      refine sx_goto C dL_isBook_138 142 (by decide) ?_
      refine sx_widen (k := 1) (n := 36 * 1) (Nat.le_of_ble_eq_true rfl) (Nat.le_of_ble_eq_true rfl) ?_
      exact sx_sub [0, 1, 2, 3, 4, 5, 6, 7, 8, 9] rfl (h t ok hA))
  replace h := h (by
    intro f a o v8 v9 h
    intro t ok hA
    refine sx_iconst C dL_isBook_141 0 (by decide) 142 rfl ?_
    refine sx_widen (k := 1) (n := 36 * 1) (Nat.le_of_ble_eq_true rfl) (Nat.le_of_ble_eq_true rfl) ?_
    exact sx_sub [0, 1, 2, 3, 4, 5, 6, 7, 8, 9] rfl (h t ok hA))
  replace h := h (by
    intro f a o v8 v9 s0 h
    intro t ok hA
    refine sx_istore C dL_isBook_142 [(10, .int s0), (0, .ref (b + 0)), (1, .ref ((sl_ad ad t) 0)), (2, .ref ((sl_ad ad t) 1)), (3, .ref ((sl_ad ad t) 3)), (4, .ref ((sl_ad ad t) 7)), (5, .int x5), (6, .int x6), (7, .ref ((sl_ad ad t) 8)), (8, .int v8), (9, .int v9)] (by decide) rfl 144 rfl ?_
    refine sx_iconst C dL_isBook_144 0 (by decide) 145 rfl ?_
    refine sx_istore C dL_isBook_145 [(11, .int 0), (10, .int s0), (0, .ref (b + 0)), (1, .ref ((sl_ad ad t) 0)), (2, .ref ((sl_ad ad t) 1)), (3, .ref ((sl_ad ad t) 3)), (4, .ref ((sl_ad ad t) 7)), (5, .int x5), (6, .int x6), (7, .ref ((sl_ad ad t) 8)), (8, .int v8), (9, .int v9)] (by decide) rfl 147 rfl ?_
    refine sx_iconst C dL_isBook_147 0 (by decide) 148 rfl ?_
    refine sx_istore C dL_isBook_148 [(12, .int 0), (11, .int 0), (10, .int s0), (0, .ref (b + 0)), (1, .ref ((sl_ad ad t) 0)), (2, .ref ((sl_ad ad t) 1)), (3, .ref ((sl_ad ad t) 3)), (4, .ref ((sl_ad ad t) 7)), (5, .int x5), (6, .int x6), (7, .ref ((sl_ad ad t) 8)), (8, .int v8), (9, .int v9)] (by decide) rfl 150 rfl ?_
    refine sx_widen (k := 1) (n := 36 * 1) (Nat.le_of_ble_eq_true rfl) (Nat.le_of_ble_eq_true rfl) ?_
    exact sx_sub [3, 4, 5, 6, 7, 8, 9, 10, 11, 12, 2, 1, 0] rfl (h t ok hA))
  replace h := h (by
    intro f a o v8 v9 v10 v11 v12 h
    intro t ok hA
    refine sx_iload C dL_isBook_150 12 rfl 152 rfl ?_
    refine sx_iload C dL_isBook_152 8 rfl 154 rfl ?_
    refine sx_icmp_ge C dL_isBook_154 328 157 (by decide) rfl (fun c8 => ?_) (fun c8 => ?_)
    · replace h := h.1 c8
      refine sx_widen (k := 1) (n := 36 * 1) (Nat.le_of_ble_eq_true rfl) (Nat.le_of_ble_eq_true rfl) ?_
      exact sx_sub [0, 1, 2, 3, 4, 5, 6, 7, 8, 9, 10] rfl (h t ok hA)
    · replace h := h.2 c8
      refine sx_iload C dL_isBook_157 10 rfl 159 rfl ?_
      refine sx_if_eq C dL_isBook_159 328 162 (by decide) rfl (fun c9 => ?_) (fun c9 => ?_)
      · replace h := h.1 c9
        refine sx_widen (k := 1) (n := 36 * 1) (Nat.le_of_ble_eq_true rfl) (Nat.le_of_ble_eq_true rfl) ?_
        exact sx_sub [0, 1, 2, 3, 4, 5, 6, 7, 8, 9, 10] rfl (h t ok hA)
      · replace h := h.2 c9
        refine sx_aload_n C dL_isBook_162 0 0 rfl rfl 163 rfl ?_
        refine sx_iload C dL_isBook_163 5 rfl 165 rfl ?_
        refine sx_iload C dL_isBook_165 12 rfl 167 rfl ?_
        refine sl_callX C ok hB (st := []) dL_isBook_167 (c0_X6_width hf h) mi_X6_width lk_L_95 mn_X6_width ms_X6_width (by decide) lyX_0 rfl rfl rfl rfl ⟨⟨(Nat.le_of_ble_eq_true rfl), (Nat.le_of_ble_eq_true rfl)⟩, (Nat.le_of_ble_eq_true rfl), (Nat.le_of_ble_eq_true rfl)⟩ (Nat.le_of_ble_eq_true rfl) 170 rfl (fun v g11 h => ?_)
        obtain ⟨r10, rfl, h⟩ := h
        refine sx_aload C dL_isBook_170 7 rfl 172 rfl ?_
        refine sx_iconst C dL_isBook_172 5 (by decide) 173 rfl ?_
        refine sx_iload C dL_isBook_173 12 rfl 175 rfl ?_
        refine sx_imul C dL_isBook_175 176 rfl ?_
        refine sx_iconst C dL_isBook_176 3 (by decide) 177 rfl ?_
        refine sx_iadd C dL_isBook_177 178 rfl ?_
        refine sl_iald C dL_isBook_178 (by decide) rfl h.1 179 rfl ?_
        replace h := h.2
        refine sx_icmp_ne C dL_isBook_179 186 182 (by decide) rfl (fun c12 => ?_) (fun c12 => ?_)
        · replace h := h.2 c12
          refine sx_iconst C dL_isBook_186 0 (by decide) 187 rfl ?_
          refine sx_widen (k := 1) (n := 36 * 1) (Nat.le_of_ble_eq_true rfl) (Nat.le_of_ble_eq_true rfl) ?_
          exact sx_sub [0, 1, 2, 3, 4, 5, 6, 7, 8, 9, 11, 12] rfl (h t ok hA)
        · replace h := h.1 c12
          refine sx_iconst C dL_isBook_182 1 (by decide) 183 rfl ?_
          refine sx_goto C dL_isBook_183 187 (by decide) ?_
          refine sx_widen (k := 1) (n := 36 * 1) (Nat.le_of_ble_eq_true rfl) (Nat.le_of_ble_eq_true rfl) ?_
          exact sx_sub [0, 1, 2, 3, 4, 5, 6, 7, 8, 9, 11, 12] rfl (h t ok hA))
  replace h := h (by
    intro f a o v8 v9 v11 v12 s0 h
    intro t ok hA
    refine sx_istore C dL_isBook_187 [(10, .int s0), (0, .ref (b + 0)), (1, .ref ((sl_ad ad t) 0)), (2, .ref ((sl_ad ad t) 1)), (3, .ref ((sl_ad ad t) 3)), (4, .ref ((sl_ad ad t) 7)), (5, .int x5), (6, .int x6), (7, .ref ((sl_ad ad t) 8)), (8, .int v8), (9, .int v9), (11, .int v11), (12, .int v12)] (by decide) rfl 189 rfl ?_
    refine sx_aload C dL_isBook_189 8 rfl 191 rfl ?_
    refine sx_iconst C dL_isBook_191 5 (by decide) 192 rfl ?_
    refine sx_iload C dL_isBook_192 12 rfl 194 rfl ?_
    refine sx_imul C dL_isBook_194 195 rfl ?_
    refine sl_iald C dL_isBook_195 (by decide) rfl h.1 196 rfl ?_
    replace h := h.2
    refine sx_topi (fun y13 ey13 => ?_)
    replace h := h y13 ey13
    refine sx_istore C dL_isBook_196 [(13, .int y13), (10, .int s0), (0, .ref (b + 0)), (1, .ref ((sl_ad ad t) 0)), (2, .ref ((sl_ad ad t) 1)), (3, .ref ((sl_ad ad t) 3)), (4, .ref ((sl_ad ad t) 7)), (5, .int x5), (6, .int x6), (7, .ref ((sl_ad ad t) 8)), (8, .int v8), (9, .int v9), (11, .int v11), (12, .int v12)] (by decide) rfl 198 rfl ?_
    refine sx_widen (k := 1) (n := 36 * 1) (Nat.le_of_ble_eq_true rfl) (Nat.le_of_ble_eq_true rfl) ?_
    exact sx_sub [2, 3, 4, 5, 6, 7, 8, 9, 10, 11, 1, 12, 13, 0] rfl (h t ok hA))
  replace h := h (by
    intro f a o v8 v9 v10 v11 v12 v13 h
    intro t ok hA
    refine sx_iload C dL_isBook_198 13 rfl 200 rfl ?_
    refine sx_aload C dL_isBook_200 7 rfl 202 rfl ?_
    refine sx_iconst C dL_isBook_202 5 (by decide) 203 rfl ?_
    refine sx_iload C dL_isBook_203 12 rfl 205 rfl ?_
    refine sx_imul C dL_isBook_205 206 rfl ?_
    refine sx_iconst C dL_isBook_206 1 (by decide) 207 rfl ?_
    refine sx_iadd C dL_isBook_207 208 rfl ?_
    refine sl_iald C dL_isBook_208 (by decide) rfl h.1 209 rfl ?_
    replace h := h.2
    refine sx_icmp_gt C dL_isBook_209 310 212 (by decide) rfl (fun c14 => ?_) (fun c14 => ?_)
    · replace h := h.1 c14
      refine sx_widen (k := 1) (n := 36 * 1) (Nat.le_of_ble_eq_true rfl) (Nat.le_of_ble_eq_true rfl) ?_
      exact sx_sub [0, 1, 2, 3, 4, 5, 6, 7, 8, 9, 10, 11, 12] rfl (h t ok hA)
    · replace h := h.2 c14
      refine sx_iload C dL_isBook_212 10 rfl 214 rfl ?_
      refine sx_if_eq C dL_isBook_214 310 217 (by decide) rfl (fun c15 => ?_) (fun c15 => ?_)
      · replace h := h.1 c15
        refine sx_widen (k := 1) (n := 36 * 1) (Nat.le_of_ble_eq_true rfl) (Nat.le_of_ble_eq_true rfl) ?_
        exact sx_sub [0, 1, 2, 3, 4, 5, 6, 7, 8, 9, 10, 11, 12] rfl (h t ok hA)
      · replace h := h.2 c15
        refine sx_iload C dL_isBook_217 6 rfl 219 rfl ?_
        refine sx_iload C dL_isBook_219 12 rfl 221 rfl ?_
        refine sx_iadd C dL_isBook_221 222 rfl ?_
        refine sx_iconst C dL_isBook_222 3 (by decide) 223 rfl ?_
        refine sx_irem C dL_isBook_223 (by decide) 224 rfl ?_
        refine sx_if_ne C dL_isBook_224 310 227 (by decide) rfl (fun c16 => ?_) (fun c16 => ?_)
        · replace h := h.2 c16
          refine sx_widen (k := 1) (n := 36 * 1) (Nat.le_of_ble_eq_true rfl) (Nat.le_of_ble_eq_true rfl) ?_
          exact sx_sub [0, 1, 2, 3, 4, 5, 6, 7, 8, 9, 10, 11, 12] rfl (h t ok hA)
        · replace h := h.1 c16
          refine sx_aload_n C dL_isBook_227 0 0 rfl rfl 228 rfl ?_
          refine sx_iload C dL_isBook_228 5 rfl 230 rfl ?_
          refine sx_iload C dL_isBook_230 13 rfl 232 rfl ?_
          refine sl_callX C ok hB (st := []) dL_isBook_232 (c0_X6_itemOf hf h) mi_X6_itemOf lk_L_98 mn_X6_itemOf ms_X6_itemOf (by decide) lyX_0 rfl rfl rfl rfl ⟨⟨(Nat.le_of_ble_eq_true rfl), (Nat.le_of_ble_eq_true rfl)⟩, (Nat.le_of_ble_eq_true rfl), (Nat.le_of_ble_eq_true rfl)⟩ (Nat.le_of_ble_eq_true rfl) 235 rfl (fun v g18 h => ?_)
          obtain ⟨r17, rfl, h⟩ := h
          refine sx_iload C dL_isBook_235 12 rfl 237 rfl ?_
          refine sx_icmp_ne C dL_isBook_237 301 240 (by decide) rfl (fun c19 => ?_) (fun c19 => ?_)
          · replace h := h.2 c19
            refine sx_widen (k := 1) (n := 36 * 1) (Nat.le_of_ble_eq_true rfl) (Nat.le_of_ble_eq_true rfl) ?_
            exact sx_sub [0, 1, 2, 3, 4, 5, 6, 7, 8, 9, 11, 12, 13] rfl (h t ok hA)
          · replace h := h.1 c19
            refine sx_aload_n C dL_isBook_240 0 0 rfl rfl 241 rfl ?_
            refine sx_iload C dL_isBook_241 5 rfl 243 rfl ?_
            refine sx_iload C dL_isBook_243 13 rfl 245 rfl ?_
            refine sl_callX C ok hB (st := []) dL_isBook_245 (c0_X6_lineOf hf h) mi_X6_lineOf lk_L_101 mn_X6_lineOf ms_X6_lineOf (by decide) lyX_0 rfl rfl rfl rfl ⟨⟨(Nat.le_of_ble_eq_true rfl), (Nat.le_of_ble_eq_true rfl)⟩, (Nat.le_of_ble_eq_true rfl), (Nat.le_of_ble_eq_true rfl)⟩ (Nat.le_of_ble_eq_true rfl) 248 rfl (fun v g21 h => ?_)
            obtain ⟨r20, rfl, h⟩ := h
            refine sx_iload C dL_isBook_248 11 rfl 250 rfl ?_
            refine sx_icmp_ne C dL_isBook_250 301 253 (by decide) rfl (fun c22 => ?_) (fun c22 => ?_)
            · replace h := h.2 c22
              refine sx_widen (k := 1) (n := 36 * 1) (Nat.le_of_ble_eq_true rfl) (Nat.le_of_ble_eq_true rfl) ?_
              exact sx_sub [0, 1, 2, 3, 4, 5, 6, 7, 8, 9, 11, 12, 13] rfl (h t ok hA)
            · replace h := h.1 c22
              refine sx_iload C dL_isBook_253 5 rfl 255 rfl ?_
              refine sx_iconst C dL_isBook_255 5 (by decide) 256 rfl ?_
              refine sx_icmp_eq C dL_isBook_256 297 259 (by decide) rfl (fun c23 => ?_) (fun c23 => ?_)
              · replace h := h.1 c23
                refine sx_widen (k := 1) (n := 36 * 1) (Nat.le_of_ble_eq_true rfl) (Nat.le_of_ble_eq_true rfl) ?_
                exact sx_sub [0, 1, 2, 3, 4, 5, 6, 7, 8, 9, 11, 12, 13] rfl (h t ok hA)
              · replace h := h.2 c23
                refine sx_aload_n C dL_isBook_259 0 0 rfl rfl 260 rfl ?_
                refine sx_iload C dL_isBook_260 5 rfl 262 rfl ?_
                refine sx_iload C dL_isBook_262 13 rfl 264 rfl ?_
                refine sl_callX C ok hB (st := []) dL_isBook_264 (c0_X6_cue hf h) mi_X6_cue lk_L_104 mn_X6_cue ms_X6_cue (by decide) lyX_0 rfl rfl rfl rfl ⟨⟨(Nat.le_of_ble_eq_true rfl), (Nat.le_of_ble_eq_true rfl)⟩, (Nat.le_of_ble_eq_true rfl), (Nat.le_of_ble_eq_true rfl)⟩ (Nat.le_of_ble_eq_true rfl) 267 rfl (fun v g25 h => ?_)
                obtain ⟨⟨r24, rfl, h⟩, rfl⟩ := h
                refine sx_aload C dL_isBook_267 7 rfl 269 rfl ?_
                refine sx_iconst C dL_isBook_269 5 (by decide) 270 rfl ?_
                refine sx_iload C dL_isBook_270 12 rfl 272 rfl ?_
                refine sx_imul C dL_isBook_272 273 rfl ?_
                refine sx_iconst C dL_isBook_273 2 (by decide) 274 rfl ?_
                refine sx_iadd C dL_isBook_274 275 rfl ?_
                refine sl_iald C dL_isBook_275 (by decide) rfl h.1 276 rfl ?_
                replace h := h.2
                refine sx_iload C dL_isBook_276 5 rfl 278 rfl ?_
                refine sx_icmp_ne C dL_isBook_278 285 281 (by decide) rfl (fun c26 => ?_) (fun c26 => ?_)
                · replace h := h.2 c26
                  refine sx_aload C dL_isBook_285 7 rfl 287 rfl ?_
                  refine sx_iconst C dL_isBook_287 5 (by decide) 288 rfl ?_
                  refine sx_iload C dL_isBook_288 12 rfl 290 rfl ?_
                  refine sx_imul C dL_isBook_290 291 rfl ?_
                  refine sx_iconst C dL_isBook_291 2 (by decide) 292 rfl ?_
                  refine sx_iadd C dL_isBook_292 293 rfl ?_
                  refine sl_iald C dL_isBook_293 (by decide) rfl h.1 294 rfl ?_
                  replace h := h.2
                  refine sx_widen (k := 1) (n := 36 * 1) (Nat.le_of_ble_eq_true rfl) (Nat.le_of_ble_eq_true rfl) ?_
                  exact sx_sub [0, 1, 2, 3, 4, 5, 6, 7, 8, 9, 11, 12, 13] rfl (h t ok hA)
                · replace h := h.1 c26
                  refine sx_iconst C dL_isBook_281 (-1) (by decide) 282 rfl ?_
                  refine sx_goto C dL_isBook_282 294 (by decide) ?_
                  refine sx_widen (k := 1) (n := 36 * 1) (Nat.le_of_ble_eq_true rfl) (Nat.le_of_ble_eq_true rfl) ?_
                  exact sx_sub [0, 1, 2, 3, 4, 5, 6, 7, 8, 9, 11, 12, 13] rfl (h t ok hA))
  replace h := h (by
    intro f a o v8 v9 v11 v12 v13 s0 s1 h
    intro t ok hA
    refine sx_icmp_ne C dL_isBook_294 301 297 (by decide) rfl (fun c27 => ?_) (fun c27 => ?_)
    · replace h := h.2 c27
      refine sx_widen (k := 1) (n := 36 * 1) (Nat.le_of_ble_eq_true rfl) (Nat.le_of_ble_eq_true rfl) ?_
      exact sx_sub [0, 1, 2, 3, 4, 5, 6, 7, 8, 9, 10, 11, 12] rfl (h t ok hA)
    · replace h := h.1 c27
      refine sx_widen (k := 1) (n := 36 * 1) (Nat.le_of_ble_eq_true rfl) (Nat.le_of_ble_eq_true rfl) ?_
      exact sx_sub [0, 1, 2, 3, 4, 5, 6, 7, 8, 9, 10, 11, 12] rfl (h t ok hA))
  replace h := h (by
    intro f a o v8 v9 v11 v12 v13 h
    intro t ok hA
    refine sx_iconst C dL_isBook_297 1 (by decide) 298 rfl ?_
    refine sx_goto C dL_isBook_298 302 (by decide) ?_
    refine sx_widen (k := 1) (n := 36 * 1) (Nat.le_of_ble_eq_true rfl) (Nat.le_of_ble_eq_true rfl) ?_
    exact sx_sub [0, 1, 2, 3, 4, 5, 6, 7, 8, 9, 10, 11, 12] rfl (h t ok hA))
  replace h := h (by
    intro f a o v8 v9 v11 v12 v13 h
    intro t ok hA
    refine sx_iconst C dL_isBook_301 0 (by decide) 302 rfl ?_
    refine sx_widen (k := 1) (n := 36 * 1) (Nat.le_of_ble_eq_true rfl) (Nat.le_of_ble_eq_true rfl) ?_
    exact sx_sub [0, 1, 2, 3, 4, 5, 6, 7, 8, 9, 10, 11, 12] rfl (h t ok hA))
  replace h := h (by
    intro f a o v8 v9 v11 v12 v13 s0 h
    intro t ok hA
    refine sx_istore C dL_isBook_302 [(10, .int s0), (0, .ref (b + 0)), (1, .ref ((sl_ad ad t) 0)), (2, .ref ((sl_ad ad t) 1)), (3, .ref ((sl_ad ad t) 3)), (4, .ref ((sl_ad ad t) 7)), (5, .int x5), (6, .int x6), (7, .ref ((sl_ad ad t) 8)), (8, .int v8), (9, .int v9), (11, .int v11), (12, .int v12), (13, .int v13)] (by decide) rfl 304 rfl ?_
    obtain ⟨y28, ey28⟩ : ∃ w : Int32, w = v13 + 1 := ⟨_, rfl⟩
    replace h := h y28 ey28
    refine sx_iinc C dL_isBook_304 13 rfl y28 (by rw [ey28]; rfl) [(13, .int y28), (10, .int s0), (0, .ref (b + 0)), (1, .ref ((sl_ad ad t) 0)), (2, .ref ((sl_ad ad t) 1)), (3, .ref ((sl_ad ad t) 3)), (4, .ref ((sl_ad ad t) 7)), (5, .int x5), (6, .int x6), (7, .ref ((sl_ad ad t) 8)), (8, .int v8), (9, .int v9), (11, .int v11), (12, .int v12)] (by decide) rfl 307 rfl ?_
    refine sx_goto C dL_isBook_307 198 (by decide) ?_
    refine sx_widen (k := 1) (n := 36 * 1) (Nat.le_of_ble_eq_true rfl) (Nat.le_of_ble_eq_true rfl) ?_
    exact sx_sub [2, 3, 4, 5, 6, 7, 8, 9, 10, 11, 1, 12, 13, 0] rfl (h t ok hA))
  replace h := h (by
    intro f a o v8 v9 v10 v11 v12 h
    intro t ok hA
    refine sx_iload C dL_isBook_310 11 rfl 312 rfl ?_
    refine sx_iload C dL_isBook_312 9 rfl 314 rfl ?_
    refine sx_iload C dL_isBook_314 12 rfl 316 rfl ?_
    refine sx_ishr C dL_isBook_316 317 rfl ?_
    refine sx_iconst C dL_isBook_317 1 (by decide) 318 rfl ?_
    refine sx_iand C dL_isBook_318 319 rfl ?_
    refine sx_iadd C dL_isBook_319 320 rfl ?_
    refine sx_topi (fun y29 ey29 => ?_)
    replace h := h y29 ey29
    refine sx_istore C dL_isBook_320 [(11, .int y29), (0, .ref (b + 0)), (1, .ref ((sl_ad ad t) 0)), (2, .ref ((sl_ad ad t) 1)), (3, .ref ((sl_ad ad t) 3)), (4, .ref ((sl_ad ad t) 7)), (5, .int x5), (6, .int x6), (7, .ref ((sl_ad ad t) 8)), (8, .int v8), (9, .int v9), (10, .int v10), (12, .int v12)] (by decide) rfl 322 rfl ?_
    obtain ⟨y30, ey30⟩ : ∃ w : Int32, w = v12 + 1 := ⟨_, rfl⟩
    replace h := h y30 ey30
    refine sx_iinc C dL_isBook_322 12 rfl y30 (by rw [ey30]; rfl) [(12, .int y30), (11, .int y29), (0, .ref (b + 0)), (1, .ref ((sl_ad ad t) 0)), (2, .ref ((sl_ad ad t) 1)), (3, .ref ((sl_ad ad t) 3)), (4, .ref ((sl_ad ad t) 7)), (5, .int x5), (6, .int x6), (7, .ref ((sl_ad ad t) 8)), (8, .int v8), (9, .int v9), (10, .int v10)] (by decide) rfl 325 rfl ?_
    refine sx_goto C dL_isBook_325 150 (by decide) ?_
    refine sx_widen (k := 1) (n := 36 * 1) (Nat.le_of_ble_eq_true rfl) (Nat.le_of_ble_eq_true rfl) ?_
    exact sx_sub [2, 3, 4, 5, 6, 7, 8, 9, 10, 11, 12, 1, 0] rfl (h t ok hA))
  replace h := h (by
    intro f a o v8 v9 v10 h
    intro t ok hA
    refine sx_iload C dL_isBook_328 10 rfl 330 rfl ?_
    refine sx_if_eq C dL_isBook_330 367 333 (by decide) rfl (fun c31 => ?_) (fun c31 => ?_)
    · replace h := h.1 c31
      refine sx_iconst C dL_isBook_367 0 (by decide) 368 rfl ?_
      refine sl_drop ?_
      exact sx_zret C dL_isBook_368 hr (Nat.le_of_ble_eq_true rfl) (Nat.le_of_ble_eq_true rfl) (Or.inl rfl) ⟨_, rfl, h⟩
    · replace h := h.2 c31
      refine sx_iload C dL_isBook_333 8 rfl 335 rfl ?_
      refine sx_if_eq C dL_isBook_335 363 338 (by decide) rfl (fun c32 => ?_) (fun c32 => ?_)
      · replace h := h.1 c32
        refine sx_widen (k := 301) (n := 36 * 301) (Nat.le_of_ble_eq_true rfl) (Nat.le_of_ble_eq_true rfl) ?_
        exact sx_sub [] rfl (h t ok hA)
      · replace h := h.2 c32
        refine sx_aload_n C dL_isBook_338 0 0 rfl rfl 339 rfl ?_
        refine sx_aload_n C dL_isBook_339 1 1 rfl rfl 340 rfl ?_
        refine sx_aload_n C dL_isBook_340 2 2 rfl rfl 341 rfl ?_
        refine sx_aload_n C dL_isBook_341 3 3 rfl rfl 342 rfl ?_
        refine sx_aload C dL_isBook_342 4 rfl 344 rfl ?_
        refine sx_iload C dL_isBook_344 5 rfl 346 rfl ?_
        refine sx_aload C dL_isBook_346 7 rfl 348 rfl ?_
        refine sx_iload C dL_isBook_348 8 rfl 350 rfl ?_
        refine sx_iload C dL_isBook_350 9 rfl 352 rfl ?_
        refine sx_iload C dL_isBook_352 6 rfl 354 rfl ?_
        refine sx_iload C dL_isBook_354 8 rfl 356 rfl ?_
        refine sx_irem C dL_isBook_356 h.1 357 rfl ?_
        replace h := h.2
        refine sl_callS C hB hA (st := []) dL_isBook_357 (c_L_isLine hf ok (by decide) h) mi_L_isLine lk_L_106 mt_L_isLine rfl rfl ⟨⟨(Nat.le_of_ble_eq_true rfl), (Nat.le_of_ble_eq_true rfl)⟩, (Nat.le_of_ble_eq_true rfl), (Nat.le_of_ble_eq_true rfl)⟩ (Nat.le_of_ble_eq_true rfl) 360 rfl (fun v g34 a34 o34 h => ?_)
        obtain ⟨r33, rfl, h⟩ := h
        dsimp only at h
        refine sx_if_eq C dL_isBook_360 367 363 (by decide) rfl (fun c35 => ?_) (fun c35 => ?_)
        · replace h := h.1 c35
          refine sx_iconst C dL_isBook_367 0 (by decide) 368 rfl ?_
          refine sl_drop ?_
          exact sx_zret C dL_isBook_368 hr (Nat.le_of_ble_eq_true rfl) (Nat.le_of_ble_eq_true rfl) (Or.inl rfl) ⟨_, rfl, h⟩
        · replace h := h.2 c35
          refine sx_widen (k := 301) (n := 36 * 301) (Nat.le_of_ble_eq_true rfl) (Nat.le_of_ble_eq_true rfl) ?_
          exact sx_sub [] rfl (h t ok hA))
  replace h := h (by
    intro f a o h
    intro t ok hA
    refine sx_iconst C dL_isBook_363 1 (by decide) 364 rfl ?_
    refine sx_goto C dL_isBook_364 368 (by decide) ?_
    refine sl_drop ?_
    exact sx_zret C dL_isBook_368 hr (Nat.le_of_ble_eq_true rfl) (Nat.le_of_ble_eq_true rfl) (Or.inr rfl) ⟨_, rfl, h⟩)
  refine sx_sub (lv' := [(0, .ref (b + 0)), (1, .ref (ad 0)), (2, .ref (ad 1)), (3, .ref (ad 3)), (4, .ref (ad 7)), (5, .int x5), (6, .int x6)]) [0, 1, 2, 3, 4, 5, 6] rfl ?_
  refine sx_bipush C dL_isBook_0 30 (by decide) 2 rfl ?_
  refine sl_newT C dL_isBook_2 ok hA arc_int ⟨(Nat.le_of_ble_eq_true rfl), (Nat.le_of_ble_eq_true rfl)⟩ 4 rfl (fun t ok hA => ?_)
  obtain ⟨a36, ea36⟩ : ∃ w : sx_F, w = sl_a8 a := ⟨_, rfl⟩
  rw [← ea36]
  replace h := h a36 ea36
  refine sx_widen (k := 1) (n := 36) (Nat.le_of_ble_eq_true rfl) (Nat.le_of_ble_eq_true rfl) ?_
  refine sx_sub (lv' := [(0, .ref (b + 0)), (1, .ref ((sl_ad ad t) 0)), (2, .ref ((sl_ad ad t) 1)), (3, .ref ((sl_ad ad t) 3)), (4, .ref ((sl_ad ad t) 7)), (5, .int x5), (6, .int x6)]) [0, 1, 2, 3, 4, 5, 6] rfl ?_
  refine sx_astore C dL_isBook_4 [(7, .ref ((sl_ad ad t) 8)), (0, .ref (b + 0)), (1, .ref ((sl_ad ad t) 0)), (2, .ref ((sl_ad ad t) 1)), (3, .ref ((sl_ad ad t) 3)), (4, .ref ((sl_ad ad t) 7)), (5, .int x5), (6, .int x6)] (by decide) rfl 6 rfl ?_
  refine sx_aload_n C dL_isBook_6 1 2 rfl rfl 7 rfl ?_
  refine sx_aload_n C dL_isBook_7 2 3 rfl rfl 8 rfl ?_
  refine sx_aload_n C dL_isBook_8 3 4 rfl rfl 9 rfl ?_
  refine sx_aload C dL_isBook_9 5 rfl 11 rfl ?_
  refine sx_iload C dL_isBook_11 6 rfl 13 rfl ?_
  refine sx_aload C dL_isBook_13 0 rfl 15 rfl ?_
  refine sl_callS C hB hA (st := []) dL_isBook_15 (c_L_items hf ok (by decide) h) mi_L_items lk_L_74 mt_L_items rfl rfl ⟨⟨(Nat.le_of_ble_eq_true rfl), (Nat.le_of_ble_eq_true rfl)⟩, (Nat.le_of_ble_eq_true rfl), (Nat.le_of_ble_eq_true rfl)⟩ (Nat.le_of_ble_eq_true rfl) 18 rfl (fun v g38 a38 o38 h => ?_)
  obtain ⟨r37, rfl, h⟩ := h
  dsimp only at h
  refine sx_istore C dL_isBook_18 [(8, .int r37), (7, .ref ((sl_ad ad t) 8)), (0, .ref (b + 0)), (1, .ref ((sl_ad ad t) 0)), (2, .ref ((sl_ad ad t) 1)), (3, .ref ((sl_ad ad t) 3)), (4, .ref ((sl_ad ad t) 7)), (5, .int x5), (6, .int x6)] (by decide) rfl 20 rfl ?_
  refine sx_aload_n C dL_isBook_20 1 3 rfl rfl 21 rfl ?_
  refine sx_aload_n C dL_isBook_21 2 4 rfl rfl 22 rfl ?_
  refine sx_aload_n C dL_isBook_22 3 5 rfl rfl 23 rfl ?_
  refine sx_aload C dL_isBook_23 6 rfl 25 rfl ?_
  refine sx_iload C dL_isBook_25 7 rfl 27 rfl ?_
  refine sx_aload C dL_isBook_27 1 rfl 29 rfl ?_
  refine sx_iload C dL_isBook_29 0 rfl 31 rfl ?_
  refine sl_callS C hB hA (st := []) dL_isBook_31 (c_L_best hf ok (by decide) h) mi_L_best lk_L_78 mt_L_best rfl rfl ⟨⟨(Nat.le_of_ble_eq_true rfl), (Nat.le_of_ble_eq_true rfl)⟩, (Nat.le_of_ble_eq_true rfl), (Nat.le_of_ble_eq_true rfl)⟩ (Nat.le_of_ble_eq_true rfl) 34 rfl (fun v g40 a41 o42 h => ?_)
  obtain ⟨⟨r39, rfl, h⟩, e9⟩ := h
  cases e9
  refine sx_istore C dL_isBook_34 [(9, .int r39), (8, .int r37), (7, .ref ((sl_ad ad t) 8)), (0, .ref (b + 0)), (1, .ref ((sl_ad ad t) 0)), (2, .ref ((sl_ad ad t) 1)), (3, .ref ((sl_ad ad t) 3)), (4, .ref ((sl_ad ad t) 7)), (5, .int x5), (6, .int x6)] (by decide) rfl 36 rfl ?_
  refine sx_aload_n C dL_isBook_36 0 3 rfl rfl 37 rfl ?_
  refine sx_iload C dL_isBook_37 8 rfl 39 rfl ?_
  refine sl_callX C ok hB (st := []) dL_isBook_39 (c0_X6_items hf h) mi_X6_items lk_L_82 mn_X6_items ms_X6_items (by decide) lyX_0 rfl rfl rfl rfl ⟨⟨(Nat.le_of_ble_eq_true rfl), (Nat.le_of_ble_eq_true rfl)⟩, (Nat.le_of_ble_eq_true rfl), (Nat.le_of_ble_eq_true rfl)⟩ (Nat.le_of_ble_eq_true rfl) 42 rfl (fun v g44 h => ?_)
  obtain ⟨r43, rfl, h⟩ := h
  refine sx_iload C dL_isBook_42 1 rfl 44 rfl ?_
  refine sx_icmp_ne C dL_isBook_44 141 47 (by decide) rfl (fun c45 => ?_) (fun c45 => ?_)
  · replace h := h.2 c45
    refine sx_widen (k := 1) (n := 36 * 1) (Nat.le_of_ble_eq_true rfl) (Nat.le_of_ble_eq_true rfl) ?_
    exact sx_sub [3, 4, 5, 6, 7, 8, 9, 2, 1, 0] rfl (h t ok hA)
  · replace h := h.1 c45
    refine sx_aload_n C dL_isBook_47 0 3 rfl rfl 48 rfl ?_
    refine sx_iload C dL_isBook_48 8 rfl 50 rfl ?_
    refine sl_callX C ok hB (st := []) dL_isBook_50 (c0_X6_lines hf h) mi_X6_lines lk_L_85 mn_X6_lines ms_X6_lines (by decide) lyX_0 rfl rfl rfl rfl ⟨⟨(Nat.le_of_ble_eq_true rfl), (Nat.le_of_ble_eq_true rfl)⟩, (Nat.le_of_ble_eq_true rfl), (Nat.le_of_ble_eq_true rfl)⟩ (Nat.le_of_ble_eq_true rfl) 53 rfl (fun v g47 h => ?_)
    obtain ⟨r46, rfl, h⟩ := h
    refine sx_iload C dL_isBook_53 1 rfl 55 rfl ?_
    refine sx_iload C dL_isBook_55 0 rfl 57 rfl ?_
    refine sl_callS C hB hA (st := [.int r46]) dL_isBook_57 (c_L_lines hf ok (by decide) h) mi_L_lines lk_L_56 mt_L_lines rfl rfl ⟨⟨(Nat.le_of_ble_eq_true rfl), (Nat.le_of_ble_eq_true rfl)⟩, (Nat.le_of_ble_eq_true rfl), (Nat.le_of_ble_eq_true rfl)⟩ (Nat.le_of_ble_eq_true rfl) 60 rfl (fun v g49 a50 o51 h => ?_)
    obtain ⟨⟨r48, rfl, h⟩, e9⟩ := h
    cases e9
    refine sx_icmp_ne C dL_isBook_60 141 63 (by decide) rfl (fun c52 => ?_) (fun c52 => ?_)
    · replace h := h.2 c52
      refine sx_widen (k := 1) (n := 36 * 1) (Nat.le_of_ble_eq_true rfl) (Nat.le_of_ble_eq_true rfl) ?_
      exact sx_sub [3, 4, 5, 6, 7, 8, 9, 2, 1, 0] rfl (h t ok hA)
    · replace h := h.1 c52
      refine sx_aload_n C dL_isBook_63 0 3 rfl rfl 64 rfl ?_
      refine sx_iload C dL_isBook_64 8 rfl 66 rfl ?_
      refine sl_callX C ok hB (st := []) dL_isBook_66 (c0_X6_cost hf h) mi_X6_cost lk_L_87 mn_X6_cost ms_X6_cost (by decide) lyX_0 rfl rfl rfl rfl ⟨⟨(Nat.le_of_ble_eq_true rfl), (Nat.le_of_ble_eq_true rfl)⟩, (Nat.le_of_ble_eq_true rfl), (Nat.le_of_ble_eq_true rfl)⟩ (Nat.le_of_ble_eq_true rfl) 69 rfl (fun v g54 h => ?_)
      obtain ⟨r53, rfl, h⟩ := h
      refine sx_aload_n C dL_isBook_69 1 4 rfl rfl 70 rfl ?_
      refine sx_aload_n C dL_isBook_70 2 5 rfl rfl 71 rfl ?_
      refine sx_aload_n C dL_isBook_71 3 6 rfl rfl 72 rfl ?_
      refine sx_aload C dL_isBook_72 7 rfl 74 rfl ?_
      refine sx_iload C dL_isBook_74 8 rfl 76 rfl ?_
      refine sx_aload C dL_isBook_76 2 rfl 78 rfl ?_
      refine sx_iload C dL_isBook_78 1 rfl 80 rfl ?_
      refine sx_iload C dL_isBook_80 0 rfl 82 rfl ?_
      refine sx_iconst C dL_isBook_82 0 (by decide) 83 rfl ?_
      refine sl_callS C hB hA (st := [.int r53]) dL_isBook_83 (c_L_cost hf ok (by decide) h) mi_L_cost lk_L_52 mt_L_cost rfl rfl ⟨⟨(Nat.le_of_ble_eq_true rfl), (Nat.le_of_ble_eq_true rfl)⟩, (Nat.le_of_ble_eq_true rfl), (Nat.le_of_ble_eq_true rfl)⟩ (Nat.le_of_ble_eq_true rfl) 86 rfl (fun v g56 a57 o58 h => ?_)
      obtain ⟨⟨r55, rfl, h⟩, e9⟩ := h
      cases e9
      refine sx_icmp_ne C dL_isBook_86 141 89 (by decide) rfl (fun c59 => ?_) (fun c59 => ?_)
      · replace h := h.2 c59
        refine sx_widen (k := 1) (n := 36 * 1) (Nat.le_of_ble_eq_true rfl) (Nat.le_of_ble_eq_true rfl) ?_
        exact sx_sub [3, 4, 5, 6, 7, 8, 9, 2, 1, 0] rfl (h t ok hA)
      · replace h := h.1 c59
        refine sx_iload C dL_isBook_89 9 rfl 91 rfl ?_
        refine sx_iconst C dL_isBook_91 4 (by decide) 92 rfl ?_
        refine sx_irem C dL_isBook_92 (by decide) 93 rfl ?_
        refine sx_if_gt C dL_isBook_93 111 96 (by decide) rfl (fun c60 => ?_) (fun c60 => ?_)
        · replace h := h.1 c60
          refine sx_widen (k := 1) (n := 36 * 1) (Nat.le_of_ble_eq_true rfl) (Nat.le_of_ble_eq_true rfl) ?_
          exact sx_sub [3, 4, 5, 6, 7, 8, 9, 2, 1, 0] rfl (h t ok hA)
        · replace h := h.2 c60
          refine sx_aload_n C dL_isBook_96 0 3 rfl rfl 97 rfl ?_
          refine sx_iload C dL_isBook_97 8 rfl 99 rfl ?_
          refine sl_callX C ok hB (st := []) dL_isBook_99 (c0_X6_costByAll hf h) mi_X6_costByAll lk_L_89 mn_X6_costByAll ms_X6_costByAll (by decide) lyX_0 rfl rfl rfl rfl ⟨⟨(Nat.le_of_ble_eq_true rfl), (Nat.le_of_ble_eq_true rfl)⟩, (Nat.le_of_ble_eq_true rfl), (Nat.le_of_ble_eq_true rfl)⟩ (Nat.le_of_ble_eq_true rfl) 102 rfl (fun v g62 h => ?_)
          obtain ⟨r61, rfl, h⟩ := h
          refine sx_aload_n C dL_isBook_102 0 3 rfl rfl 103 rfl ?_
          refine sx_iload C dL_isBook_103 8 rfl 105 rfl ?_
          refine sl_callX C ok hB (st := [.int r61]) dL_isBook_105 (c0_X6_cost hf h) mi_X6_cost lk_L_87 mn_X6_cost ms_X6_cost (by decide) lyX_0 rfl rfl rfl rfl ⟨⟨(Nat.le_of_ble_eq_true rfl), (Nat.le_of_ble_eq_true rfl)⟩, (Nat.le_of_ble_eq_true rfl), (Nat.le_of_ble_eq_true rfl)⟩ (Nat.le_of_ble_eq_true rfl) 108 rfl (fun v g64 h => ?_)
          obtain ⟨r63, rfl, h⟩ := h
          refine sx_icmp_ne C dL_isBook_108 141 111 (by decide) rfl (fun c65 => ?_) (fun c65 => ?_)
          · replace h := h.2 c65
            refine sx_widen (k := 1) (n := 36 * 1) (Nat.le_of_ble_eq_true rfl) (Nat.le_of_ble_eq_true rfl) ?_
            exact sx_sub [3, 4, 5, 6, 7, 8, 9, 2, 1, 0] rfl (h t ok hA)
          · replace h := h.1 c65
            refine sx_widen (k := 1) (n := 36 * 1) (Nat.le_of_ble_eq_true rfl) (Nat.le_of_ble_eq_true rfl) ?_
            exact sx_sub [3, 4, 5, 6, 7, 8, 9, 2, 1, 0] rfl (h t ok hA)
set_option maxRecDepth 100000 in
set_option maxHeartbeats 8000000 in
theorem c_L_owes {l : Launch} {D : va_G} {G : sx_G} {b : Nat} {ad : Nat → Nat} {n : Nat} (hf : l.stackTraces = false) (ok : sl_ok b ad n) (hn : 8 ≤ n) {f a : sx_F} {o : sl_O} {x2 : Int32} {x3 : Int32} {Q : Int32 → Prop} (h : P_L_owes f a o x2 x3 Q) : sl_Met l D G b ad n yL_owes cL_owes 4 (some .boolean) 1 13 0 0 [.ref (ad 2), .ref (ad 4), .int x2, .int x3] (f, a, o) (sl_pi (f, a, o) Q) := by
  refine sl_enter (own := RL) hf rfl rfl (Nat.le_of_ble_eq_true rfl) ?_
  intro p e s m args below meth c C hr 
  have hB : ∀ k, k < 129 → sl_A b ad n s.heap.size (b + k) := fun k h => Or.inl ⟨Nat.le_add_right _ _, Nat.add_lt_add_left h _⟩
  have hA : ∀ j, j < n → sl_A b ad n s.heap.size (ad j) := fun j h => Or.inr (Or.inl ⟨j, h, rfl⟩)
  unfold P_L_owes at h
  refine sx_sub (lv' := [(0, .ref (ad 2)), (1, .ref (ad 4)), (2, .int x2), (3, .int x3)]) [0, 1, 2, 3] rfl ?_
  refine sx_aload_n C dL_owes_0 1 1 rfl rfl 1 rfl ?_
  refine sx_bipush C dL_owes_1 8 (by decide) 3 rfl ?_
  refine sx_iload_n C dL_owes_3 2 2 rfl rfl 4 rfl ?_
  refine sx_imul C dL_owes_4 5 rfl ?_
  refine sx_iconst C dL_owes_5 1 (by decide) 6 rfl ?_
  refine sx_iadd C dL_owes_6 7 rfl ?_
  refine sl_iald C dL_owes_7 (Nat.lt_of_lt_of_le (show 4 < 8 by decide) hn) rfl h.1 8 rfl ?_
  replace h := h.2
  refine sx_if_lt C dL_owes_8 41 11 (by decide) rfl (fun c1 => ?_) (fun c1 => ?_)
  · replace h := h.1 c1
    refine sx_iconst C dL_owes_41 0 (by decide) 42 rfl ?_
    exact sx_zret C dL_owes_42 hr (Nat.le_of_ble_eq_true rfl) (Nat.le_of_ble_eq_true rfl) (Or.inl rfl) ⟨⟨_, rfl, h⟩, rfl⟩
  · replace h := h.2 c1
    refine sx_aload_n C dL_owes_11 1 1 rfl rfl 12 rfl ?_
    refine sx_bipush C dL_owes_12 8 (by decide) 14 rfl ?_
    refine sx_iload_n C dL_owes_14 2 2 rfl rfl 15 rfl ?_
    refine sx_imul C dL_owes_15 16 rfl ?_
    refine sx_iconst C dL_owes_16 2 (by decide) 17 rfl ?_
    refine sx_iadd C dL_owes_17 18 rfl ?_
    refine sx_iload_n C dL_owes_18 3 3 rfl rfl 19 rfl ?_
    refine sx_iadd C dL_owes_19 20 rfl ?_
    refine sl_iald C dL_owes_20 (Nat.lt_of_lt_of_le (show 4 < 8 by decide) hn) rfl h.1 21 rfl ?_
    replace h := h.2
    refine sx_aload_n C dL_owes_21 0 0 rfl rfl 22 rfl ?_
    refine sx_bipush C dL_owes_22 6 (by decide) 24 rfl ?_
    refine sx_aload_n C dL_owes_24 1 1 rfl rfl 25 rfl ?_
    refine sx_bipush C dL_owes_25 8 (by decide) 27 rfl ?_
    refine sx_iload_n C dL_owes_27 2 2 rfl rfl 28 rfl ?_
    refine sx_imul C dL_owes_28 29 rfl ?_
    refine sl_iald C dL_owes_29 (Nat.lt_of_lt_of_le (show 4 < 8 by decide) hn) rfl h.1 30 rfl ?_
    replace h := h.2
    refine sx_imul C dL_owes_30 31 rfl ?_
    refine sx_iload_n C dL_owes_31 3 3 rfl rfl 32 rfl ?_
    refine sx_iadd C dL_owes_32 33 rfl ?_
    refine sl_iald C dL_owes_33 (Nat.lt_of_lt_of_le (show 2 < 8 by decide) hn) rfl h.1 34 rfl ?_
    replace h := h.2
    refine sx_icmp_eq C dL_owes_34 41 37 (by decide) rfl (fun c2 => ?_) (fun c2 => ?_)
    · replace h := h.1 c2
      refine sx_iconst C dL_owes_41 0 (by decide) 42 rfl ?_
      exact sx_zret C dL_owes_42 hr (Nat.le_of_ble_eq_true rfl) (Nat.le_of_ble_eq_true rfl) (Or.inl rfl) ⟨⟨_, rfl, h⟩, rfl⟩
    · replace h := h.2 c2
      refine sx_iconst C dL_owes_37 1 (by decide) 38 rfl ?_
      refine sx_goto C dL_owes_38 42 (by decide) ?_
      exact sx_zret C dL_owes_42 hr (Nat.le_of_ble_eq_true rfl) (Nat.le_of_ble_eq_true rfl) (Or.inr rfl) ⟨⟨_, rfl, h⟩, rfl⟩
set_option maxRecDepth 100000 in
set_option maxHeartbeats 8000000 in
theorem c_L_owed {l : Launch} {D : va_G} {G : sx_G} {b : Nat} {ad : Nat → Nat} {n : Nat} (hf : l.stackTraces = false) (ok : sl_ok b ad n) (hn : 8 ≤ n) {f a : sx_F} {o : sl_O} {x3 : Int32} {Q : Int32 → Prop} (h : P_L_owed f a o x3 Q) : sl_Met l D G b ad n yL_owed cL_owed 6 (some .int) 2 36 0 0 [.ref (ad 2), .ref (ad 4), .ref (ad 7), .int x3] (f, a, o) (sl_pi (f, a, o) Q) := by
  refine sl_enter (own := RL) hf rfl rfl (Nat.le_of_ble_eq_true rfl) ?_
  intro p e s m args below meth c C hr 
  have hB : ∀ k, k < 129 → sl_A b ad n s.heap.size (b + k) := fun k h => Or.inl ⟨Nat.le_add_right _ _, Nat.add_lt_add_left h _⟩
  have hA : ∀ j, j < n → sl_A b ad n s.heap.size (ad j) := fun j h => Or.inr (Or.inl ⟨j, h, rfl⟩)
  unfold P_L_owed at h
  replace h := h (fun (v4 : Int32) (v5 : Int32) => sx_J (sl_wp D G b ad n) p l e { frames := 2, cells := 0, slots := 0, locals := 36 } s m args below meth c (sl_A b ad n s.heap.size) 6 0 (36 * 0) (sx_fin (sl_wp D G b ad n) (sl_A b ad n s.heap.size) below args s 0 0 (sl_pi (f, a, o) Q) (fun _ _ => False)) (f, a, o) 6 [(0, .ref (ad 2)), (1, .ref (ad 4)), (2, .ref (ad 7)), (3, .int x3), (4, .int v4), (5, .int v5)] [])
  replace h := h (fun (v5 : Int32) (s0 : Int32) (s1 : Int32) => sx_J (sl_wp D G b ad n) p l e { frames := 2, cells := 0, slots := 0, locals := 36 } s m args below meth c (sl_A b ad n s.heap.size) 6 0 (36 * 0) (sx_fin (sl_wp D G b ad n) (sl_A b ad n s.heap.size) below args s 0 0 (sl_pi (f, a, o) Q) (fun _ _ => False)) (f, a, o) 32 [(0, .ref (ad 2)), (1, .ref (ad 4)), (2, .ref (ad 7)), (3, .int x3), (5, .int v5)] [.int s1, .int s0])
  replace h := h (by
    intro v4 v5 h
    refine sx_iload C dL_owed_6 5 rfl 8 rfl ?_
    refine sx_aload_n C dL_owed_8 2 2 rfl rfl 9 rfl ?_
    refine sx_iconst C dL_owed_9 0 (by decide) 10 rfl ?_
    refine sl_iald C dL_owed_10 (Nat.lt_of_lt_of_le (show 7 < 8 by decide) hn) rfl h.1 11 rfl ?_
    replace h := h.2
    refine sx_icmp_ge C dL_owed_11 41 14 (by decide) rfl (fun c1 => ?_) (fun c1 => ?_)
    · replace h := h.1 c1
      refine sx_iload C dL_owed_41 4 rfl 43 rfl ?_
      exact sx_iret C dL_owed_43 hr (Nat.le_of_ble_eq_true rfl) (Nat.le_of_ble_eq_true rfl) ⟨⟨_, rfl, h⟩, rfl⟩
    · replace h := h.2 c1
      refine sx_iload C dL_owed_14 4 rfl 16 rfl ?_
      refine sx_aload_n C dL_owed_16 0 0 rfl rfl 17 rfl ?_
      refine sx_aload_n C dL_owed_17 1 1 rfl rfl 18 rfl ?_
      refine sx_iload_n C dL_owed_18 3 3 rfl rfl 19 rfl ?_
      refine sx_iload C dL_owed_19 5 rfl 21 rfl ?_
      refine sl_callS C hB hA (st := [.int v4]) dL_owed_21 (c_L_owes hf ok hn h) mi_L_owes lk_L_110 mt_L_owes rfl rfl ⟨⟨(Nat.le_of_ble_eq_true rfl), (Nat.le_of_ble_eq_true rfl)⟩, (Nat.le_of_ble_eq_true rfl), (Nat.le_of_ble_eq_true rfl)⟩ (Nat.le_of_ble_eq_true rfl) 24 rfl (fun v g3 a4 o5 h => ?_)
      obtain ⟨⟨r2, rfl, h⟩, e9⟩ := h
      cases e9
      refine sx_if_eq C dL_owed_24 31 27 (by decide) rfl (fun c6 => ?_) (fun c6 => ?_)
      · replace h := h.1 c6
        refine sx_iconst C dL_owed_31 0 (by decide) 32 rfl ?_
        exact sx_sub [0, 1, 2, 3, 5] rfl h
      · replace h := h.2 c6
        refine sx_iconst C dL_owed_27 1 (by decide) 28 rfl ?_
        refine sx_goto C dL_owed_28 32 (by decide) ?_
        exact sx_sub [0, 1, 2, 3, 5] rfl h)
  replace h := h (by
    intro v5 s0 s1 h
    refine sx_iadd C dL_owed_32 33 rfl ?_
    refine sx_topi (fun y7 ey7 => ?_)
    replace h := h y7 ey7
    refine sx_istore C dL_owed_33 [(4, .int y7), (0, .ref (ad 2)), (1, .ref (ad 4)), (2, .ref (ad 7)), (3, .int x3), (5, .int v5)] (by decide) rfl 35 rfl ?_
    obtain ⟨y8, ey8⟩ : ∃ w : Int32, w = v5 + 1 := ⟨_, rfl⟩
    replace h := h y8 ey8
    refine sx_iinc C dL_owed_35 5 rfl y8 (by rw [ey8]; rfl) [(5, .int y8), (4, .int y7), (0, .ref (ad 2)), (1, .ref (ad 4)), (2, .ref (ad 7)), (3, .int x3)] (by decide) rfl 38 rfl ?_
    refine sx_goto C dL_owed_38 6 (by decide) ?_
    exact sx_sub [2, 3, 4, 5, 1, 0] rfl h)
  refine sx_sub (lv' := [(0, .ref (ad 2)), (1, .ref (ad 4)), (2, .ref (ad 7)), (3, .int x3)]) [0, 1, 2, 3] rfl ?_
  refine sx_iconst C dL_owed_0 0 (by decide) 1 rfl ?_
  refine sx_istore C dL_owed_1 [(4, .int 0), (0, .ref (ad 2)), (1, .ref (ad 4)), (2, .ref (ad 7)), (3, .int x3)] (by decide) rfl 3 rfl ?_
  refine sx_iconst C dL_owed_3 0 (by decide) 4 rfl ?_
  refine sx_istore C dL_owed_4 [(5, .int 0), (4, .int 0), (0, .ref (ad 2)), (1, .ref (ad 4)), (2, .ref (ad 7)), (3, .int x3)] (by decide) rfl 6 rfl ?_
  exact sx_sub [2, 3, 4, 5, 1, 0] rfl h
set_option maxRecDepth 100000 in
set_option maxHeartbeats 8000000 in
theorem c_L_bowing {l : Launch} {D : va_G} {G : sx_G} {b : Nat} {ad : Nat → Nat} {n : Nat} (hf : l.stackTraces = false) (ok : sl_ok b ad n) (hn : 8 ≤ n) {f a : sx_F} {o : sl_O} {x2 : Int32} {x3 : Int32} {x4 : Int32} {Q : Int32 → Prop} (h : P_L_bowing f a o x2 x3 x4 Q) : sl_Met l D G b ad n yL_bowing cL_bowing 6 (some .int) 1 13 0 0 [.ref (ad 2), .ref (ad 6), .int x2, .int x3, .int x4] (f, a, o) (sl_pi (f, a, o) Q) := by
  refine sl_enter (own := RL) hf rfl rfl (Nat.le_of_ble_eq_true rfl) ?_
  intro p e s m args below meth c C hr 
  have hB : ∀ k, k < 129 → sl_A b ad n s.heap.size (b + k) := fun k h => Or.inl ⟨Nat.le_add_right _ _, Nat.add_lt_add_left h _⟩
  have hA : ∀ j, j < n → sl_A b ad n s.heap.size (ad j) := fun j h => Or.inr (Or.inl ⟨j, h, rfl⟩)
  unfold P_L_bowing at h
  refine sx_sub (lv' := [(0, .ref (ad 2)), (1, .ref (ad 6)), (2, .int x2), (3, .int x3), (4, .int x4)]) [0, 1, 2, 3, 4] rfl ?_
  refine sx_aload_n C dL_bowing_0 1 1 rfl rfl 1 rfl ?_
  refine sx_bipush C dL_bowing_1 12 (by decide) 3 rfl ?_
  refine sx_iload_n C dL_bowing_3 2 2 rfl rfl 4 rfl ?_
  refine sx_imul C dL_bowing_4 5 rfl ?_
  refine sx_iload_n C dL_bowing_5 3 3 rfl rfl 6 rfl ?_
  refine sx_iadd C dL_bowing_6 7 rfl ?_
  refine sl_lald C dL_bowing_7 (Nat.lt_of_lt_of_le (show 6 < 8 by decide) hn) rfl h.1 8 rfl ?_
  replace h := h.2
  refine sx_bipush C dL_bowing_8 8 (by decide) 10 rfl ?_
  refine sx_iload C dL_bowing_10 4 rfl 12 rfl ?_
  refine sx_imul C dL_bowing_12 13 rfl ?_
  refine sl_lushr C dL_bowing_13 14 rfl ?_
  refine sl_ldc2 C dL_bowing_14 (255) kl_L_114 17 rfl ?_
  refine sl_land C dL_bowing_17 18 rfl ?_
  refine sl_l2i C dL_bowing_18 19 rfl ?_
  refine sx_topi (fun y1 ey1 => ?_)
  replace h := h y1 ey1
  refine sx_istore C dL_bowing_19 [(5, .int y1), (0, .ref (ad 2)), (1, .ref (ad 6)), (2, .int x2), (3, .int x3), (4, .int x4)] (by decide) rfl 21 rfl ?_
  refine sx_iload C dL_bowing_21 0 rfl 23 rfl ?_
  refine sx_iconst C dL_bowing_23 4 (by decide) 24 rfl ?_
  refine sx_idiv C dL_bowing_24 (by decide) 25 rfl ?_
  refine sx_aload_n C dL_bowing_25 0 1 rfl rfl 26 rfl ?_
  refine sx_iload_n C dL_bowing_26 3 4 rfl rfl 27 rfl ?_
  refine sl_iald C dL_bowing_27 (Nat.lt_of_lt_of_le (show 2 < 8 by decide) hn) rfl h.1 28 rfl ?_
  replace h := h.2
  refine sx_icmp_ne C dL_bowing_28 38 31 (by decide) rfl (fun c2 => ?_) (fun c2 => ?_)
  · replace h := h.2 c2
    refine sx_iconst C dL_bowing_38 0 (by decide) 39 rfl ?_
    exact sx_iret C dL_bowing_39 hr (Nat.le_of_ble_eq_true rfl) (Nat.le_of_ble_eq_true rfl) ⟨⟨_, rfl, h⟩, rfl⟩
  · replace h := h.1 c2
    refine sx_iload C dL_bowing_31 0 rfl 33 rfl ?_
    refine sx_iconst C dL_bowing_33 4 (by decide) 34 rfl ?_
    refine sx_irem C dL_bowing_34 (by decide) 35 rfl ?_
    refine sx_goto C dL_bowing_35 39 (by decide) ?_
    exact sx_iret C dL_bowing_39 hr (Nat.le_of_ble_eq_true rfl) (Nat.le_of_ble_eq_true rfl) ⟨⟨_, rfl, h⟩, rfl⟩
set_option maxRecDepth 100000 in
set_option maxHeartbeats 8000000 in
theorem c_L_areCopies {l : Launch} {D : va_G} {G : sx_G} {b : Nat} {ad : Nat → Nat} {n : Nat} (hf : l.stackTraces = false) (ok : sl_ok b ad n) (hn : 8 ≤ n) {f a : sx_F} {o : sl_O} {x7 : Int32} {Q : Int32 → Prop} (h : P_L_areCopies f a o x7 Q) : sl_Met l D G b ad n yL_areCopies cL_areCopies 18 (some .boolean) 9 156 0 0 [.ref (b + 0), .ref (ad 1), .ref (ad 2), .ref (ad 4), .ref (ad 5), .ref (ad 6), .ref (ad 7), .int x7] (f, a, o) (sl_pi (f, a, o) Q) := by
  refine sl_enter (own := RL) hf rfl rfl (Nat.le_of_ble_eq_true rfl) ?_
  intro p e s m args below meth c C hr 
  have hB : ∀ k, k < 129 → sl_A b ad n s.heap.size (b + k) := fun k h => Or.inl ⟨Nat.le_add_right _ _, Nat.add_lt_add_left h _⟩
  have hA : ∀ j, j < n → sl_A b ad n s.heap.size (ad j) := fun j h => Or.inr (Or.inl ⟨j, h, rfl⟩)
  unfold P_L_areCopies at h
  replace h := h (sx_J (sl_wp D G b ad n) p l e { frames := 9, cells := 0, slots := 0, locals := 156 } s m args below meth c (sl_A b ad n s.heap.size) 18 0 (36 * 0) (sx_fin (sl_wp D G b ad n) (sl_A b ad n s.heap.size) below args s 0 0 (sl_pi (f, a, o) Q) (fun _ _ => False)) (f, a, o) 26 [(0, .ref (b + 0)), (1, .ref (ad 1)), (2, .ref (ad 2)), (3, .ref (ad 4)), (4, .ref (ad 5)), (5, .ref (ad 6)), (6, .ref (ad 7)), (7, .int x7)] [])
  replace h := h (fun (s0 : Int32) => sx_J (sl_wp D G b ad n) p l e { frames := 9, cells := 0, slots := 0, locals := 156 } s m args below meth c (sl_A b ad n s.heap.size) 18 0 (36 * 0) (sx_fin (sl_wp D G b ad n) (sl_A b ad n s.heap.size) below args s 0 0 (sl_pi (f, a, o) Q) (fun _ _ => False)) (f, a, o) 27 [(0, .ref (b + 0)), (1, .ref (ad 1)), (2, .ref (ad 2)), (3, .ref (ad 4)), (4, .ref (ad 5)), (5, .ref (ad 6)), (6, .ref (ad 7)), (7, .int x7)] [.int s0])
  replace h := h (fun (v8 : Int32) (v9 : Int32) => sx_J (sl_wp D G b ad n) p l e { frames := 9, cells := 0, slots := 0, locals := 156 } s m args below meth c (sl_A b ad n s.heap.size) 18 0 (36 * 0) (sx_fin (sl_wp D G b ad n) (sl_A b ad n s.heap.size) below args s 0 0 (sl_pi (f, a, o) Q) (fun _ _ => False)) (f, a, o) 32 [(0, .ref (b + 0)), (1, .ref (ad 1)), (2, .ref (ad 2)), (3, .ref (ad 4)), (4, .ref (ad 5)), (5, .ref (ad 6)), (6, .ref (ad 7)), (7, .int x7), (8, .int v8), (9, .int v9)] [])
  replace h := h (fun (v9 : Int32) => sx_J (sl_wp D G b ad n) p l e { frames := 9, cells := 0, slots := 0, locals := 156 } s m args below meth c (sl_A b ad n s.heap.size) 18 0 (36 * 0) (sx_fin (sl_wp D G b ad n) (sl_A b ad n s.heap.size) below args s 0 0 (sl_pi (f, a, o) Q) (fun _ _ => False)) (f, a, o) 86 [(0, .ref (b + 0)), (1, .ref (ad 1)), (2, .ref (ad 2)), (3, .ref (ad 4)), (4, .ref (ad 5)), (5, .ref (ad 6)), (6, .ref (ad 7)), (7, .int x7), (9, .int v9)] [])
  replace h := h (fun (v9 : Int32) (s0 : Int32) => sx_J (sl_wp D G b ad n) p l e { frames := 9, cells := 0, slots := 0, locals := 156 } s m args below meth c (sl_A b ad n s.heap.size) 18 0 (36 * 0) (sx_fin (sl_wp D G b ad n) (sl_A b ad n s.heap.size) below args s 0 0 (sl_pi (f, a, o) Q) (fun _ _ => False)) (f, a, o) 87 [(0, .ref (b + 0)), (1, .ref (ad 1)), (2, .ref (ad 2)), (3, .ref (ad 4)), (4, .ref (ad 5)), (5, .ref (ad 6)), (6, .ref (ad 7)), (7, .int x7), (9, .int v9)] [.int s0])
  replace h := h (fun (v8 : Int32) (v9 : Int32) (v10 : Int32) => sx_J (sl_wp D G b ad n) p l e { frames := 9, cells := 0, slots := 0, locals := 156 } s m args below meth c (sl_A b ad n s.heap.size) 18 0 (36 * 0) (sx_fin (sl_wp D G b ad n) (sl_A b ad n s.heap.size) below args s 0 0 (sl_pi (f, a, o) Q) (fun _ _ => False)) (f, a, o) 92 [(0, .ref (b + 0)), (1, .ref (ad 1)), (2, .ref (ad 2)), (3, .ref (ad 4)), (4, .ref (ad 5)), (5, .ref (ad 6)), (6, .ref (ad 7)), (7, .int x7), (8, .int v8), (9, .int v9), (10, .int v10)] [])
  replace h := h (fun (v9 : Int32) (v10 : Int32) (s0 : Int32) (s1 : Int32) => sx_J (sl_wp D G b ad n) p l e { frames := 9, cells := 0, slots := 0, locals := 156 } s m args below meth c (sl_A b ad n s.heap.size) 18 0 (36 * 0) (sx_fin (sl_wp D G b ad n) (sl_A b ad n s.heap.size) below args s 0 0 (sl_pi (f, a, o) Q) (fun _ _ => False)) (f, a, o) 156 [(0, .ref (b + 0)), (1, .ref (ad 1)), (2, .ref (ad 2)), (3, .ref (ad 4)), (4, .ref (ad 5)), (5, .ref (ad 6)), (6, .ref (ad 7)), (7, .int x7), (9, .int v9), (10, .int v10)] [.int s1, .int s0])
  replace h := h (fun (v9 : Int32) (v10 : Int32) (s0 : Int32) => sx_J (sl_wp D G b ad n) p l e { frames := 9, cells := 0, slots := 0, locals := 156 } s m args below meth c (sl_A b ad n s.heap.size) 18 0 (36 * 0) (sx_fin (sl_wp D G b ad n) (sl_A b ad n s.heap.size) below args s 0 0 (sl_pi (f, a, o) Q) (fun _ _ => False)) (f, a, o) 164 [(0, .ref (b + 0)), (1, .ref (ad 1)), (2, .ref (ad 2)), (3, .ref (ad 4)), (4, .ref (ad 5)), (5, .ref (ad 6)), (6, .ref (ad 7)), (7, .int x7), (9, .int v9), (10, .int v10)] [.int s0])
  replace h := h (fun (v8 : Int32) (v9 : Int32) => sx_J (sl_wp D G b ad n) p l e { frames := 9, cells := 0, slots := 0, locals := 156 } s m args below meth c (sl_A b ad n s.heap.size) 18 0 (36 * 0) (sx_fin (sl_wp D G b ad n) (sl_A b ad n s.heap.size) below args s 0 0 (sl_pi (f, a, o) Q) (fun _ _ => False)) (f, a, o) 172 [(0, .ref (b + 0)), (1, .ref (ad 1)), (2, .ref (ad 2)), (3, .ref (ad 4)), (4, .ref (ad 5)), (5, .ref (ad 6)), (6, .ref (ad 7)), (7, .int x7), (8, .int v8), (9, .int v9)] [])
  replace h := h (fun (v8 : Int32) => sx_J (sl_wp D G b ad n) p l e { frames := 9, cells := 0, slots := 0, locals := 156 } s m args below meth c (sl_A b ad n s.heap.size) 18 0 (36 * 0) (sx_fin (sl_wp D G b ad n) (sl_A b ad n s.heap.size) below args s 0 0 (sl_pi (f, a, o) Q) (fun _ _ => False)) (f, a, o) 178 [(0, .ref (b + 0)), (1, .ref (ad 1)), (2, .ref (ad 2)), (4, .ref (ad 5)), (5, .ref (ad 6)), (6, .ref (ad 7)), (7, .int x7), (8, .int v8)] [])
  replace h := h (fun (v8 : Int32) (v9 : Int32) (v10 : Int32) (v11 : Int32) => sx_J (sl_wp D G b ad n) p l e { frames := 9, cells := 0, slots := 0, locals := 156 } s m args below meth c (sl_A b ad n s.heap.size) 18 0 (36 * 0) (sx_fin (sl_wp D G b ad n) (sl_A b ad n s.heap.size) below args s 0 0 (sl_pi (f, a, o) Q) (fun _ _ => False)) (f, a, o) 191 [(0, .ref (b + 0)), (1, .ref (ad 1)), (2, .ref (ad 2)), (4, .ref (ad 5)), (5, .ref (ad 6)), (6, .ref (ad 7)), (8, .int v8), (9, .int v9), (10, .int v10), (11, .int v11)] [])
  replace h := h (fun (v8 : Int32) (v9 : Int32) (v10 : Int32) (v11 : Int32) (v12 : Int32) => sx_J (sl_wp D G b ad n) p l e { frames := 9, cells := 0, slots := 0, locals := 156 } s m args below meth c (sl_A b ad n s.heap.size) 18 0 (36 * 0) (sx_fin (sl_wp D G b ad n) (sl_A b ad n s.heap.size) below args s 0 0 (sl_pi (f, a, o) Q) (fun _ _ => False)) (f, a, o) 205 [(0, .ref (b + 0)), (1, .ref (ad 1)), (2, .ref (ad 2)), (4, .ref (ad 5)), (5, .ref (ad 6)), (6, .ref (ad 7)), (8, .int v8), (9, .int v9), (10, .int v10), (11, .int v11), (12, .int v12)] [])
  replace h := h (fun (v9 : Int32) (v11 : Int32) (v12 : Int32) (v13 : Int32) (s0 : Int32) => sx_J (sl_wp D G b ad n) p l e { frames := 9, cells := 0, slots := 0, locals := 156 } s m args below meth c (sl_A b ad n s.heap.size) 18 0 (36 * 0) (sx_fin (sl_wp D G b ad n) (sl_A b ad n s.heap.size) below args s 0 0 (sl_pi (f, a, o) Q) (fun _ _ => False)) (f, a, o) 274 [(0, .ref (b + 0)), (1, .ref (ad 1)), (2, .ref (ad 2)), (4, .ref (ad 5)), (5, .ref (ad 6)), (6, .ref (ad 7)), (9, .int v9), (11, .int v11), (12, .int v12), (13, .int v13)] [.int s0])
  replace h := h (fun (v9 : Int32) (v11 : Int32) (v12 : Int32) (v13 : Int32) (s0 : Int32) (s1 : Int32) => sx_J (sl_wp D G b ad n) p l e { frames := 9, cells := 0, slots := 0, locals := 156 } s m args below meth c (sl_A b ad n s.heap.size) 18 0 (36 * 0) (sx_fin (sl_wp D G b ad n) (sl_A b ad n s.heap.size) below args s 0 0 (sl_pi (f, a, o) Q) (fun _ _ => False)) (f, a, o) 275 [(0, .ref (b + 0)), (1, .ref (ad 1)), (2, .ref (ad 2)), (4, .ref (ad 5)), (5, .ref (ad 6)), (6, .ref (ad 7)), (9, .int v9), (11, .int v11), (12, .int v12), (13, .int v13)] [.int s1, .int s0])
  replace h := h (fun (v9 : Int32) (v10 : Int32) (v11 : Int32) (v12 : Int32) (s0 : Int32) => sx_J (sl_wp D G b ad n) p l e { frames := 9, cells := 0, slots := 0, locals := 156 } s m args below meth c (sl_A b ad n s.heap.size) 18 0 (36 * 0) (sx_fin (sl_wp D G b ad n) (sl_A b ad n s.heap.size) below args s 0 0 (sl_pi (f, a, o) Q) (fun _ _ => False)) (f, a, o) 301 [(0, .ref (b + 0)), (1, .ref (ad 1)), (2, .ref (ad 2)), (4, .ref (ad 5)), (5, .ref (ad 6)), (6, .ref (ad 7)), (9, .int v9), (10, .int v10), (11, .int v11), (12, .int v12)] [.int s0])
  replace h := h (fun (v8 : Int32) (v9 : Int32) (v10 : Int32) (v11 : Int32) => sx_J (sl_wp D G b ad n) p l e { frames := 9, cells := 0, slots := 0, locals := 156 } s m args below meth c (sl_A b ad n s.heap.size) 18 0 (36 * 0) (sx_fin (sl_wp D G b ad n) (sl_A b ad n s.heap.size) below args s 0 0 (sl_pi (f, a, o) Q) (fun _ _ => False)) (f, a, o) 309 [(0, .ref (b + 0)), (1, .ref (ad 1)), (2, .ref (ad 2)), (4, .ref (ad 5)), (5, .ref (ad 6)), (6, .ref (ad 7)), (8, .int v8), (9, .int v9), (10, .int v10), (11, .int v11)] [])
  replace h := h (fun (v8 : Int32) (v9 : Int32) (v10 : Int32) => sx_J (sl_wp D G b ad n) p l e { frames := 9, cells := 0, slots := 0, locals := 156 } s m args below meth c (sl_A b ad n s.heap.size) 18 0 (36 * 0) (sx_fin (sl_wp D G b ad n) (sl_A b ad n s.heap.size) below args s 0 0 (sl_pi (f, a, o) Q) (fun _ _ => False)) (f, a, o) 315 [(0, .ref (b + 0)), (1, .ref (ad 1)), (2, .ref (ad 2)), (5, .ref (ad 6)), (6, .ref (ad 7)), (8, .int v8), (9, .int v9), (10, .int v10)] [])
  replace h := h (fun (v8 : Int32) (v9 : Int32) (v10 : Int32) (v11 : Int32) => sx_J (sl_wp D G b ad n) p l e { frames := 9, cells := 0, slots := 0, locals := 156 } s m args below meth c (sl_A b ad n s.heap.size) 18 0 (36 * 0) (sx_fin (sl_wp D G b ad n) (sl_A b ad n s.heap.size) below args s 0 0 (sl_pi (f, a, o) Q) (fun _ _ => False)) (f, a, o) 318 [(0, .ref (b + 0)), (1, .ref (ad 1)), (2, .ref (ad 2)), (5, .ref (ad 6)), (6, .ref (ad 7)), (8, .int v8), (9, .int v9), (10, .int v10), (11, .int v11)] [])
  replace h := h (fun (v9 : Int32) (v10 : Int32) (v11 : Int32) (v12 : Int32) (v13 : Int32) => sx_J (sl_wp D G b ad n) p l e { frames := 9, cells := 0, slots := 0, locals := 156 } s m args below meth c (sl_A b ad n s.heap.size) 18 0 (36 * 0) (sx_fin (sl_wp D G b ad n) (sl_A b ad n s.heap.size) below args s 0 0 (sl_pi (f, a, o) Q) (fun _ _ => False)) (f, a, o) 339 [(0, .ref (b + 0)), (1, .ref (ad 1)), (2, .ref (ad 2)), (5, .ref (ad 6)), (6, .ref (ad 7)), (9, .int v9), (10, .int v10), (11, .int v11), (12, .int v12), (13, .int v13)] [])
  replace h := h (fun (v9 : Int32) (v10 : Int32) (v11 : Int32) (v12 : Int32) (v13 : Int32) (v14 : Int32) => sx_J (sl_wp D G b ad n) p l e { frames := 9, cells := 0, slots := 0, locals := 156 } s m args below meth c (sl_A b ad n s.heap.size) 18 0 (36 * 0) (sx_fin (sl_wp D G b ad n) (sl_A b ad n s.heap.size) below args s 0 0 (sl_pi (f, a, o) Q) (fun _ _ => False)) (f, a, o) 357 [(0, .ref (b + 0)), (1, .ref (ad 1)), (2, .ref (ad 2)), (5, .ref (ad 6)), (6, .ref (ad 7)), (9, .int v9), (10, .int v10), (11, .int v11), (12, .int v12), (13, .int v13), (14, .int v14)] [])
  replace h := h (fun (v9 : Int32) (v10 : Int32) (v11 : Int32) (v12 : Int32) (v13 : Int32) (v14 : Int32) (v15 : Int32) => sx_J (sl_wp D G b ad n) p l e { frames := 9, cells := 0, slots := 0, locals := 156 } s m args below meth c (sl_A b ad n s.heap.size) 18 0 (36 * 0) (sx_fin (sl_wp D G b ad n) (sl_A b ad n s.heap.size) below args s 0 0 (sl_pi (f, a, o) Q) (fun _ _ => False)) (f, a, o) 369 [(0, .ref (b + 0)), (1, .ref (ad 1)), (2, .ref (ad 2)), (5, .ref (ad 6)), (6, .ref (ad 7)), (9, .int v9), (10, .int v10), (11, .int v11), (12, .int v12), (13, .int v13), (14, .int v14), (15, .int v15)] [])
  replace h := h (fun (v9 : Int32) (v10 : Int32) (v11 : Int32) (v13 : Int32) (v14 : Int32) (v15 : Int32) (s0 : Int32) (s1 : Int32) => sx_J (sl_wp D G b ad n) p l e { frames := 9, cells := 0, slots := 0, locals := 156 } s m args below meth c (sl_A b ad n s.heap.size) 18 0 (36 * 0) (sx_fin (sl_wp D G b ad n) (sl_A b ad n s.heap.size) below args s 0 0 (sl_pi (f, a, o) Q) (fun _ _ => False)) (f, a, o) 421 [(0, .ref (b + 0)), (1, .ref (ad 1)), (2, .ref (ad 2)), (5, .ref (ad 6)), (6, .ref (ad 7)), (9, .int v9), (10, .int v10), (11, .int v11), (13, .int v13), (14, .int v14), (15, .int v15)] [.int s1, .int s0])
  replace h := h (fun (v9 : Int32) (v10 : Int32) (v11 : Int32) (s0 : Int32) => sx_J (sl_wp D G b ad n) p l e { frames := 9, cells := 0, slots := 0, locals := 156 } s m args below meth c (sl_A b ad n s.heap.size) 18 0 (36 * 0) (sx_fin (sl_wp D G b ad n) (sl_A b ad n s.heap.size) below args s 0 0 (sl_pi (f, a, o) Q) (fun _ _ => False)) (f, a, o) 458 [(0, .ref (b + 0)), (1, .ref (ad 1)), (2, .ref (ad 2)), (5, .ref (ad 6)), (6, .ref (ad 7)), (9, .int v9), (10, .int v10), (11, .int v11)] [.int s0])
  replace h := h (fun (v8 : Int32) (v9 : Int32) (v10 : Int32) => sx_J (sl_wp D G b ad n) p l e { frames := 9, cells := 0, slots := 0, locals := 156 } s m args below meth c (sl_A b ad n s.heap.size) 18 0 (36 * 0) (sx_fin (sl_wp D G b ad n) (sl_A b ad n s.heap.size) below args s 0 0 (sl_pi (f, a, o) Q) (fun _ _ => False)) (f, a, o) 466 [(0, .ref (b + 0)), (8, .int v8), (9, .int v9), (10, .int v10)] [])
  replace h := h (by
    intro h
    refine sx_iconst C dL_areCopies_26 0 (by decide) 27 rfl ?_
    exact sx_sub [0, 1, 2, 3, 4, 5, 6, 7] rfl h)
  replace h := h (by
    intro s0 h
    refine sx_istore C dL_areCopies_27 [(8, .int s0), (0, .ref (b + 0)), (1, .ref (ad 1)), (2, .ref (ad 2)), (3, .ref (ad 4)), (4, .ref (ad 5)), (5, .ref (ad 6)), (6, .ref (ad 7)), (7, .int x7)] (by decide) rfl 29 rfl ?_
    refine sx_iconst C dL_areCopies_29 0 (by decide) 30 rfl ?_
    refine sx_istore C dL_areCopies_30 [(9, .int 0), (8, .int s0), (0, .ref (b + 0)), (1, .ref (ad 1)), (2, .ref (ad 2)), (3, .ref (ad 4)), (4, .ref (ad 5)), (5, .ref (ad 6)), (6, .ref (ad 7)), (7, .int x7)] (by decide) rfl 32 rfl ?_
    exact sx_sub [2, 3, 4, 5, 6, 7, 8, 9, 1, 0] rfl h)
  replace h := h (by
    intro v8 v9 h
    refine sx_iload C dL_areCopies_32 9 rfl 34 rfl ?_
    refine sx_aload C dL_areCopies_34 6 rfl 36 rfl ?_
    refine sx_iconst C dL_areCopies_36 3 (by decide) 37 rfl ?_
    refine sl_iald C dL_areCopies_37 (Nat.lt_of_lt_of_le (show 7 < 8 by decide) hn) rfl h.1 38 rfl ?_
    replace h := h.2
    refine sx_icmp_ge C dL_areCopies_38 178 41 (by decide) rfl (fun c1 => ?_) (fun c1 => ?_)
    · replace h := h.1 c1
      exact sx_sub [0, 1, 2, 4, 5, 6, 7, 8] rfl h
    · replace h := h.2 c1
      refine sx_iload C dL_areCopies_41 8 rfl 43 rfl ?_
      refine sx_if_eq C dL_areCopies_43 178 46 (by decide) rfl (fun c2 => ?_) (fun c2 => ?_)
      · replace h := h.1 c2
        exact sx_sub [0, 1, 2, 4, 5, 6, 7, 8] rfl h
      · replace h := h.2 c2
        refine sx_aload_n C dL_areCopies_46 0 0 rfl rfl 47 rfl ?_
        refine sx_iload C dL_areCopies_47 9 rfl 49 rfl ?_
        refine sl_callX C ok hB (st := []) dL_areCopies_49 (c0_X6_deskOf hf h) mi_X6_deskOf lk_L_123 mn_X6_deskOf ms_X6_deskOf (by decide) lyX_0 rfl rfl rfl rfl ⟨⟨(Nat.le_of_ble_eq_true rfl), (Nat.le_of_ble_eq_true rfl)⟩, (Nat.le_of_ble_eq_true rfl), (Nat.le_of_ble_eq_true rfl)⟩ (Nat.le_of_ble_eq_true rfl) 52 rfl (fun v g4 h => ?_)
        obtain ⟨⟨r3, rfl, h⟩, rfl⟩ := h
        refine sx_aload_n C dL_areCopies_52 3 3 rfl rfl 53 rfl ?_
        refine sx_bipush C dL_areCopies_53 8 (by decide) 55 rfl ?_
        refine sx_iload C dL_areCopies_55 9 rfl 57 rfl ?_
        refine sx_imul C dL_areCopies_57 58 rfl ?_
        refine sx_iconst C dL_areCopies_58 1 (by decide) 59 rfl ?_
        refine sx_iadd C dL_areCopies_59 60 rfl ?_
        refine sl_iald C dL_areCopies_60 (Nat.lt_of_lt_of_le (show 4 < 8 by decide) hn) rfl h.1 61 rfl ?_
        replace h := h.2
        refine sx_icmp_ne C dL_areCopies_61 86 64 (by decide) rfl (fun c5 => ?_) (fun c5 => ?_)
        · replace h := h.2 c5
          exact sx_sub [0, 1, 2, 3, 4, 5, 6, 7, 9] rfl h
        · replace h := h.1 c5
          refine sx_aload_n C dL_areCopies_64 0 0 rfl rfl 65 rfl ?_
          refine sx_iload C dL_areCopies_65 9 rfl 67 rfl ?_
          refine sl_callX C ok hB (st := []) dL_areCopies_67 (c0_X6_owed hf h) mi_X6_owed lk_L_126 mn_X6_owed ms_X6_owed (by decide) lyX_0 rfl rfl rfl rfl ⟨⟨(Nat.le_of_ble_eq_true rfl), (Nat.le_of_ble_eq_true rfl)⟩, (Nat.le_of_ble_eq_true rfl), (Nat.le_of_ble_eq_true rfl)⟩ (Nat.le_of_ble_eq_true rfl) 70 rfl (fun v g7 h => ?_)
          obtain ⟨⟨r6, rfl, h⟩, rfl⟩ := h
          refine sx_aload_n C dL_areCopies_70 2 2 rfl rfl 71 rfl ?_
          refine sx_aload_n C dL_areCopies_71 3 3 rfl rfl 72 rfl ?_
          refine sx_aload C dL_areCopies_72 6 rfl 74 rfl ?_
          refine sx_iload C dL_areCopies_74 9 rfl 76 rfl ?_
          refine sl_callS C hB hA (st := [.int r6]) dL_areCopies_76 (c_L_owed hf ok hn h) mi_L_owed lk_L_129 mt_L_owed rfl rfl ⟨⟨(Nat.le_of_ble_eq_true rfl), (Nat.le_of_ble_eq_true rfl)⟩, (Nat.le_of_ble_eq_true rfl), (Nat.le_of_ble_eq_true rfl)⟩ (Nat.le_of_ble_eq_true rfl) 79 rfl (fun v g9 a10 o11 h => ?_)
          obtain ⟨⟨r8, rfl, h⟩, e9⟩ := h
          cases e9
          refine sx_icmp_ne C dL_areCopies_79 86 82 (by decide) rfl (fun c12 => ?_) (fun c12 => ?_)
          · replace h := h.2 c12
            exact sx_sub [0, 1, 2, 3, 4, 5, 6, 7, 9] rfl h
          · replace h := h.1 c12
            refine sx_iconst C dL_areCopies_82 1 (by decide) 83 rfl ?_
            refine sx_goto C dL_areCopies_83 87 (by decide) ?_
            exact sx_sub [0, 1, 2, 3, 4, 5, 6, 7, 9] rfl h)
  replace h := h (by
    intro v9 h
    refine sx_iconst C dL_areCopies_86 0 (by decide) 87 rfl ?_
    exact sx_sub [0, 1, 2, 3, 4, 5, 6, 7, 8] rfl h)
  replace h := h (by
    intro v9 s0 h
    refine sx_istore C dL_areCopies_87 [(8, .int s0), (0, .ref (b + 0)), (1, .ref (ad 1)), (2, .ref (ad 2)), (3, .ref (ad 4)), (4, .ref (ad 5)), (5, .ref (ad 6)), (6, .ref (ad 7)), (7, .int x7), (9, .int v9)] (by decide) rfl 89 rfl ?_
    refine sx_iconst C dL_areCopies_89 0 (by decide) 90 rfl ?_
    refine sx_istore C dL_areCopies_90 [(10, .int 0), (8, .int s0), (0, .ref (b + 0)), (1, .ref (ad 1)), (2, .ref (ad 2)), (3, .ref (ad 4)), (4, .ref (ad 5)), (5, .ref (ad 6)), (6, .ref (ad 7)), (7, .int x7), (9, .int v9)] (by decide) rfl 92 rfl ?_
    exact sx_sub [2, 3, 4, 5, 6, 7, 8, 9, 1, 10, 0] rfl h)
  replace h := h (by
    intro v8 v9 v10 h
    refine sx_iload C dL_areCopies_92 10 rfl 94 rfl ?_
    refine sx_aload C dL_areCopies_94 6 rfl 96 rfl ?_
    refine sx_iconst C dL_areCopies_96 0 (by decide) 97 rfl ?_
    refine sl_iald C dL_areCopies_97 (Nat.lt_of_lt_of_le (show 7 < 8 by decide) hn) rfl h.1 98 rfl ?_
    replace h := h.2
    refine sx_icmp_ge C dL_areCopies_98 172 101 (by decide) rfl (fun c13 => ?_) (fun c13 => ?_)
    · replace h := h.1 c13
      exact sx_sub [0, 1, 2, 3, 4, 5, 6, 7, 8, 9] rfl h
    · replace h := h.2 c13
      refine sx_iload C dL_areCopies_101 8 rfl 103 rfl ?_
      refine sx_if_eq C dL_areCopies_103 172 106 (by decide) rfl (fun c14 => ?_) (fun c14 => ?_)
      · replace h := h.1 c14
        exact sx_sub [0, 1, 2, 3, 4, 5, 6, 7, 8, 9] rfl h
      · replace h := h.2 c14
        refine sx_aload_n C dL_areCopies_106 0 0 rfl rfl 107 rfl ?_
        refine sx_iload C dL_areCopies_107 9 rfl 109 rfl ?_
        refine sx_iload C dL_areCopies_109 10 rfl 111 rfl ?_
        refine sl_callX C ok hB (st := []) dL_areCopies_111 (c0_X6_has hf h) mi_X6_has lk_L_132 mn_X6_has ms_X6_has (by decide) lyX_0 rfl rfl rfl rfl ⟨⟨(Nat.le_of_ble_eq_true rfl), (Nat.le_of_ble_eq_true rfl)⟩, (Nat.le_of_ble_eq_true rfl), (Nat.le_of_ble_eq_true rfl)⟩ (Nat.le_of_ble_eq_true rfl) 114 rfl (fun v g16 h => ?_)
        obtain ⟨⟨r15, rfl, h⟩, rfl⟩ := h
        refine sx_aload_n C dL_areCopies_114 3 3 rfl rfl 115 rfl ?_
        refine sx_bipush C dL_areCopies_115 8 (by decide) 117 rfl ?_
        refine sx_iload C dL_areCopies_117 9 rfl 119 rfl ?_
        refine sx_imul C dL_areCopies_119 120 rfl ?_
        refine sx_iconst C dL_areCopies_120 1 (by decide) 121 rfl ?_
        refine sx_iadd C dL_areCopies_121 122 rfl ?_
        refine sl_iald C dL_areCopies_122 (Nat.lt_of_lt_of_le (show 4 < 8 by decide) hn) rfl h.1 123 rfl ?_
        replace h := h.2
        refine sx_if_ge C dL_areCopies_123 144 126 (by decide) rfl (fun c17 => ?_) (fun c17 => ?_)
        · replace h := h.1 c17
          refine sx_aload_n C dL_areCopies_144 3 3 rfl rfl 145 rfl ?_
          refine sx_bipush C dL_areCopies_145 8 (by decide) 147 rfl ?_
          refine sx_iload C dL_areCopies_147 9 rfl 149 rfl ?_
          refine sx_imul C dL_areCopies_149 150 rfl ?_
          refine sx_iconst C dL_areCopies_150 2 (by decide) 151 rfl ?_
          refine sx_iadd C dL_areCopies_151 152 rfl ?_
          refine sx_iload C dL_areCopies_152 10 rfl 154 rfl ?_
          refine sx_iadd C dL_areCopies_154 155 rfl ?_
          refine sl_iald C dL_areCopies_155 (Nat.lt_of_lt_of_le (show 4 < 8 by decide) hn) rfl h.1 156 rfl ?_
          replace h := h.2
          exact sx_sub [0, 1, 2, 3, 4, 5, 6, 7, 9, 10] rfl h
        · replace h := h.2 c17
          refine sx_aload_n C dL_areCopies_126 2 2 rfl rfl 127 rfl ?_
          refine sx_bipush C dL_areCopies_127 6 (by decide) 129 rfl ?_
          refine sx_aload_n C dL_areCopies_129 3 3 rfl rfl 130 rfl ?_
          refine sx_bipush C dL_areCopies_130 8 (by decide) 132 rfl ?_
          refine sx_iload C dL_areCopies_132 9 rfl 134 rfl ?_
          refine sx_imul C dL_areCopies_134 135 rfl ?_
          refine sl_iald C dL_areCopies_135 (Nat.lt_of_lt_of_le (show 4 < 8 by decide) hn) rfl h.1 136 rfl ?_
          replace h := h.2
          refine sx_imul C dL_areCopies_136 137 rfl ?_
          refine sx_iload C dL_areCopies_137 10 rfl 139 rfl ?_
          refine sx_iadd C dL_areCopies_139 140 rfl ?_
          refine sl_iald C dL_areCopies_140 (Nat.lt_of_lt_of_le (show 2 < 8 by decide) hn) rfl h.1 141 rfl ?_
          replace h := h.2
          refine sx_goto C dL_areCopies_141 156 (by decide) ?_
          exact sx_sub [0, 1, 2, 3, 4, 5, 6, 7, 9, 10] rfl h)
  replace h := h (by
    intro v9 v10 s0 s1 h
    refine sx_icmp_ne C dL_areCopies_156 163 159 (by decide) rfl (fun c18 => ?_) (fun c18 => ?_)
    · replace h := h.2 c18
      refine sx_iconst C dL_areCopies_163 0 (by decide) 164 rfl ?_
      exact sx_sub [0, 1, 2, 3, 4, 5, 6, 7, 8, 9] rfl h
    · replace h := h.1 c18
      refine sx_iconst C dL_areCopies_159 1 (by decide) 160 rfl ?_
      refine sx_goto C dL_areCopies_160 164 (by decide) ?_
      exact sx_sub [0, 1, 2, 3, 4, 5, 6, 7, 8, 9] rfl h)
  replace h := h (by
    intro v9 v10 s0 h
    refine sx_istore C dL_areCopies_164 [(8, .int s0), (0, .ref (b + 0)), (1, .ref (ad 1)), (2, .ref (ad 2)), (3, .ref (ad 4)), (4, .ref (ad 5)), (5, .ref (ad 6)), (6, .ref (ad 7)), (7, .int x7), (9, .int v9), (10, .int v10)] (by decide) rfl 166 rfl ?_
    obtain ⟨y19, ey19⟩ : ∃ w : Int32, w = v10 + 1 := ⟨_, rfl⟩
    replace h := h y19 ey19
    refine sx_iinc C dL_areCopies_166 10 rfl y19 (by rw [ey19]; rfl) [(10, .int y19), (8, .int s0), (0, .ref (b + 0)), (1, .ref (ad 1)), (2, .ref (ad 2)), (3, .ref (ad 4)), (4, .ref (ad 5)), (5, .ref (ad 6)), (6, .ref (ad 7)), (7, .int x7), (9, .int v9)] (by decide) rfl 169 rfl ?_
    refine sx_goto C dL_areCopies_169 92 (by decide) ?_
    exact sx_sub [2, 3, 4, 5, 6, 7, 8, 9, 1, 10, 0] rfl h)
  replace h := h (by
    intro v8 v9 h
    obtain ⟨y20, ey20⟩ : ∃ w : Int32, w = v9 + 1 := ⟨_, rfl⟩
    replace h := h y20 ey20
    refine sx_iinc C dL_areCopies_172 9 rfl y20 (by rw [ey20]; rfl) [(9, .int y20), (0, .ref (b + 0)), (1, .ref (ad 1)), (2, .ref (ad 2)), (3, .ref (ad 4)), (4, .ref (ad 5)), (5, .ref (ad 6)), (6, .ref (ad 7)), (7, .int x7), (8, .int v8)] (by decide) rfl 175 rfl ?_
    refine sx_goto C dL_areCopies_175 32 (by decide) ?_
    exact sx_sub [1, 2, 3, 4, 5, 6, 7, 8, 9, 0] rfl h)
  replace h := h (by
    intro v8 h
    refine sx_iload C dL_areCopies_178 6 rfl 180 rfl ?_
    refine sx_bipush C dL_areCopies_180 6 (by decide) 182 rfl ?_
    refine sx_irem C dL_areCopies_182 (by decide) 183 rfl ?_
    refine sx_topi (fun y21 ey21 => ?_)
    replace h := h y21 ey21
    refine sx_istore C dL_areCopies_183 [(9, .int y21), (0, .ref (b + 0)), (1, .ref (ad 1)), (2, .ref (ad 2)), (4, .ref (ad 5)), (5, .ref (ad 6)), (6, .ref (ad 7)), (7, .int x7), (8, .int v8)] (by decide) rfl 185 rfl ?_
    refine sx_iconst C dL_areCopies_185 0 (by decide) 186 rfl ?_
    refine sx_istore C dL_areCopies_186 [(10, .int 0), (9, .int y21), (0, .ref (b + 0)), (1, .ref (ad 1)), (2, .ref (ad 2)), (4, .ref (ad 5)), (5, .ref (ad 6)), (6, .ref (ad 7)), (7, .int x7), (8, .int v8)] (by decide) rfl 188 rfl ?_
    refine sx_iconst C dL_areCopies_188 0 (by decide) 189 rfl ?_
    refine sx_istore C dL_areCopies_189 [(11, .int 0), (10, .int 0), (9, .int y21), (0, .ref (b + 0)), (1, .ref (ad 1)), (2, .ref (ad 2)), (4, .ref (ad 5)), (5, .ref (ad 6)), (6, .ref (ad 7)), (7, .int x7), (8, .int v8)] (by decide) rfl 191 rfl ?_
    exact sx_sub [3, 4, 5, 6, 7, 8, 10, 2, 1, 0] rfl h)
  replace h := h (by
    intro v8 v9 v10 v11 h
    refine sx_iload C dL_areCopies_191 9 rfl 193 rfl ?_
    refine sx_iconst C dL_areCopies_193 5 (by decide) 194 rfl ?_
    refine sx_icmp_ge C dL_areCopies_194 315 197 (by decide) rfl (fun c22 => ?_) (fun c22 => ?_)
    · replace h := h.1 c22
      exact sx_sub [0, 1, 2, 4, 5, 6, 7, 8] rfl h
    · replace h := h.2 c22
      refine sx_iload C dL_areCopies_197 6 rfl 199 rfl ?_
      refine sx_if_eq C dL_areCopies_199 315 202 (by decide) rfl (fun c23 => ?_) (fun c23 => ?_)
      · replace h := h.1 c23
        exact sx_sub [0, 1, 2, 4, 5, 6, 7, 8] rfl h
      · replace h := h.2 c23
        refine sx_iconst C dL_areCopies_202 0 (by decide) 203 rfl ?_
        refine sx_istore C dL_areCopies_203 [(12, .int 0), (0, .ref (b + 0)), (1, .ref (ad 1)), (2, .ref (ad 2)), (4, .ref (ad 5)), (5, .ref (ad 6)), (6, .ref (ad 7)), (8, .int v8), (9, .int v9), (10, .int v10), (11, .int v11)] (by decide) rfl 205 rfl ?_
        exact sx_sub [1, 2, 3, 4, 5, 6, 7, 8, 9, 10, 0] rfl h)
  replace h := h (by
    intro v8 v9 v10 v11 v12 h
    refine sx_iload C dL_areCopies_205 10 rfl 207 rfl ?_
    refine sx_aload C dL_areCopies_207 5 rfl 209 rfl ?_
    refine sx_iconst C dL_areCopies_209 0 (by decide) 210 rfl ?_
    refine sl_iald C dL_areCopies_210 (Nat.lt_of_lt_of_le (show 7 < 8 by decide) hn) rfl h.1 211 rfl ?_
    replace h := h.2
    refine sx_icmp_ge C dL_areCopies_211 309 214 (by decide) rfl (fun c24 => ?_) (fun c24 => ?_)
    · replace h := h.1 c24
      exact sx_sub [0, 1, 2, 3, 4, 5, 6, 7, 8, 9] rfl h
    · replace h := h.2 c24
      refine sx_iload C dL_areCopies_214 6 rfl 216 rfl ?_
      refine sx_if_eq C dL_areCopies_216 309 219 (by decide) rfl (fun c25 => ?_) (fun c25 => ?_)
      · replace h := h.1 c25
        exact sx_sub [0, 1, 2, 3, 4, 5, 6, 7, 8, 9] rfl h
      · replace h := h.2 c25
        refine sx_aload C dL_areCopies_219 3 rfl 221 rfl ?_
        refine sx_iconst C dL_areCopies_221 5 (by decide) 222 rfl ?_
        refine sx_iload C dL_areCopies_222 7 rfl 224 rfl ?_
        refine sx_imul C dL_areCopies_224 225 rfl ?_
        refine sx_iload C dL_areCopies_225 9 rfl 227 rfl ?_
        refine sx_iadd C dL_areCopies_227 228 rfl ?_
        refine sl_lald C dL_areCopies_228 (Nat.lt_of_lt_of_le (show 5 < 8 by decide) hn) rfl h.1 229 rfl ?_
        replace h := h.2
        refine sx_bipush C dL_areCopies_229 10 (by decide) 231 rfl ?_
        refine sx_iload C dL_areCopies_231 10 rfl 233 rfl ?_
        refine sx_imul C dL_areCopies_233 234 rfl ?_
        refine sl_lushr C dL_areCopies_234 235 rfl ?_
        refine sl_ldc2 C dL_areCopies_235 (1023) kl_L_135 238 rfl ?_
        refine sl_land C dL_areCopies_238 239 rfl ?_
        refine sl_l2i C dL_areCopies_239 240 rfl ?_
        refine sx_topi (fun y26 ey26 => ?_)
        replace h := h y26 ey26
        refine sx_istore C dL_areCopies_240 [(13, .int y26), (0, .ref (b + 0)), (1, .ref (ad 1)), (2, .ref (ad 2)), (4, .ref (ad 5)), (5, .ref (ad 6)), (6, .ref (ad 7)), (8, .int v8), (9, .int v9), (10, .int v10), (11, .int v11), (12, .int v12)] (by decide) rfl 242 rfl ?_
        refine sx_iload C dL_areCopies_242 9 rfl 244 rfl ?_
        refine sx_iload C dL_areCopies_244 0 rfl 246 rfl ?_
        refine sx_bipush C dL_areCopies_246 16 (by decide) 248 rfl ?_
        refine sx_irem C dL_areCopies_248 (by decide) 249 rfl ?_
        refine sx_if_le C dL_areCopies_249 274 252 (by decide) rfl (fun c27 => ?_) (fun c27 => ?_)
        · replace h := h.1 c27
          exact sx_sub [1, 2, 3, 4, 5, 6, 8, 10, 11, 0] rfl h
        · replace h := h.2 c27
          refine sx_iload C dL_areCopies_252 0 rfl 254 rfl ?_
          refine sx_bipush C dL_areCopies_254 16 (by decide) 256 rfl ?_
          refine sx_idiv C dL_areCopies_256 (by decide) 257 rfl ?_
          refine sx_aload_n C dL_areCopies_257 2 3 rfl rfl 258 rfl ?_
          refine sx_bipush C dL_areCopies_258 6 (by decide) 260 rfl ?_
          refine sx_iload C dL_areCopies_260 10 rfl 262 rfl ?_
          refine sx_imul C dL_areCopies_262 263 rfl ?_
          refine sx_iload C dL_areCopies_263 11 rfl 265 rfl ?_
          refine sx_iadd C dL_areCopies_265 266 rfl ?_
          refine sl_iald C dL_areCopies_266 (Nat.lt_of_lt_of_le (show 2 < 8 by decide) hn) rfl h.1 267 rfl ?_
          replace h := h.2
          refine sx_icmp_eq C dL_areCopies_267 274 270 (by decide) rfl (fun c28 => ?_) (fun c28 => ?_)
          · replace h := h.1 c28
            exact sx_sub [1, 2, 3, 4, 5, 6, 8, 10, 11, 0] rfl h
          · replace h := h.2 c28
            refine sx_iconst C dL_areCopies_270 1 (by decide) 271 rfl ?_
            refine sx_goto C dL_areCopies_271 275 (by decide) ?_
            exact sx_sub [1, 2, 3, 4, 5, 6, 8, 10, 11, 0] rfl h)
  replace h := h (by
    intro v9 v11 v12 v13 s0 h
    refine sx_iconst C dL_areCopies_274 0 (by decide) 275 rfl ?_
    exact sx_sub [0, 1, 2, 3, 4, 5, 6, 7, 8, 9] rfl h)
  replace h := h (by
    intro v9 v11 v12 v13 s0 s1 h
    refine sx_iadd C dL_areCopies_275 276 rfl ?_
    refine sx_topi (fun y29 ey29 => ?_)
    replace h := h y29 ey29
    refine sx_istore C dL_areCopies_276 [(10, .int y29), (0, .ref (b + 0)), (1, .ref (ad 1)), (2, .ref (ad 2)), (4, .ref (ad 5)), (5, .ref (ad 6)), (6, .ref (ad 7)), (9, .int v9), (11, .int v11), (12, .int v12), (13, .int v13)] (by decide) rfl 278 rfl ?_
    refine sx_aload_n C dL_areCopies_278 0 1 rfl rfl 279 rfl ?_
    refine sx_iload C dL_areCopies_279 7 rfl 281 rfl ?_
    refine sx_iload C dL_areCopies_281 8 rfl 283 rfl ?_
    refine sx_iload C dL_areCopies_283 9 rfl 285 rfl ?_
    refine sl_callX C ok hB (st := []) dL_areCopies_285 (c0_X6_markOf hf h) mi_X6_markOf lk_L_137 mn_X6_markOf ms_X6_markOf (by decide) lyX_0 rfl rfl rfl rfl ⟨⟨(Nat.le_of_ble_eq_true rfl), (Nat.le_of_ble_eq_true rfl)⟩, (Nat.le_of_ble_eq_true rfl), (Nat.le_of_ble_eq_true rfl)⟩ (Nat.le_of_ble_eq_true rfl) 288 rfl (fun v g31 h => ?_)
    obtain ⟨⟨r30, rfl, h⟩, rfl⟩ := h
    refine sx_iload C dL_areCopies_288 10 rfl 290 rfl ?_
    refine sx_bipush C dL_areCopies_290 16 (by decide) 292 rfl ?_
    refine sx_irem C dL_areCopies_292 (by decide) 293 rfl ?_
    refine sx_icmp_ne C dL_areCopies_293 300 296 (by decide) rfl (fun c32 => ?_) (fun c32 => ?_)
    · replace h := h.2 c32
      refine sx_iconst C dL_areCopies_300 0 (by decide) 301 rfl ?_
      exact sx_sub [1, 2, 3, 4, 5, 6, 7, 0, 8, 9] rfl h
    · replace h := h.1 c32
      refine sx_iconst C dL_areCopies_296 1 (by decide) 297 rfl ?_
      refine sx_goto C dL_areCopies_297 301 (by decide) ?_
      exact sx_sub [1, 2, 3, 4, 5, 6, 7, 0, 8, 9] rfl h)
  replace h := h (by
    intro v9 v10 v11 v12 s0 h
    refine sx_istore C dL_areCopies_301 [(8, .int s0), (0, .ref (b + 0)), (1, .ref (ad 1)), (2, .ref (ad 2)), (4, .ref (ad 5)), (5, .ref (ad 6)), (6, .ref (ad 7)), (9, .int v9), (10, .int v10), (11, .int v11), (12, .int v12)] (by decide) rfl 303 rfl ?_
    obtain ⟨y33, ey33⟩ : ∃ w : Int32, w = v12 + 1 := ⟨_, rfl⟩
    replace h := h y33 ey33
    refine sx_iinc C dL_areCopies_303 10 rfl y33 (by rw [ey33]; rfl) [(12, .int y33), (8, .int s0), (0, .ref (b + 0)), (1, .ref (ad 1)), (2, .ref (ad 2)), (4, .ref (ad 5)), (5, .ref (ad 6)), (6, .ref (ad 7)), (9, .int v9), (10, .int v10), (11, .int v11)] (by decide) rfl 306 rfl ?_
    refine sx_goto C dL_areCopies_306 205 (by decide) ?_
    exact sx_sub [2, 3, 4, 5, 6, 7, 1, 8, 9, 10, 0] rfl h)
  replace h := h (by
    intro v8 v9 v10 v11 h
    obtain ⟨y34, ey34⟩ : ∃ w : Int32, w = v11 + 1 := ⟨_, rfl⟩
    replace h := h y34 ey34
    refine sx_iinc C dL_areCopies_309 9 rfl y34 (by rw [ey34]; rfl) [(11, .int y34), (0, .ref (b + 0)), (1, .ref (ad 1)), (2, .ref (ad 2)), (4, .ref (ad 5)), (5, .ref (ad 6)), (6, .ref (ad 7)), (8, .int v8), (9, .int v9), (10, .int v10)] (by decide) rfl 312 rfl ?_
    refine sx_goto C dL_areCopies_312 191 (by decide) ?_
    exact sx_sub [1, 2, 3, 4, 5, 6, 7, 8, 9, 0] rfl h)
  replace h := h (by
    intro v8 v9 v10 h
    refine sx_iconst C dL_areCopies_315 0 (by decide) 316 rfl ?_
    refine sx_istore C dL_areCopies_316 [(11, .int 0), (0, .ref (b + 0)), (1, .ref (ad 1)), (2, .ref (ad 2)), (5, .ref (ad 6)), (6, .ref (ad 7)), (8, .int v8), (9, .int v9), (10, .int v10)] (by decide) rfl 318 rfl ?_
    exact sx_sub [1, 2, 3, 4, 5, 6, 7, 8, 0] rfl h)
  replace h := h (by
    intro v8 v9 v10 v11 h
    refine sx_iload C dL_areCopies_318 8 rfl 320 rfl ?_
    refine sx_iconst C dL_areCopies_320 2 (by decide) 321 rfl ?_
    refine sx_icmp_ge C dL_areCopies_321 466 324 (by decide) rfl (fun c35 => ?_) (fun c35 => ?_)
    · replace h := h.1 c35
      exact sx_sub [0, 5, 6, 7] rfl h
    · replace h := h.2 c35
      refine sx_iload C dL_areCopies_324 5 rfl 326 rfl ?_
      refine sx_if_eq C dL_areCopies_326 466 329 (by decide) rfl (fun c36 => ?_) (fun c36 => ?_)
      · replace h := h.1 c36
        exact sx_sub [0, 5, 6, 7] rfl h
      · replace h := h.2 c36
        refine sx_iconst C dL_areCopies_329 0 (by decide) 330 rfl ?_
        refine sx_istore C dL_areCopies_330 [(12, .int 0), (0, .ref (b + 0)), (1, .ref (ad 1)), (2, .ref (ad 2)), (5, .ref (ad 6)), (6, .ref (ad 7)), (8, .int v8), (9, .int v9), (10, .int v10), (11, .int v11)] (by decide) rfl 332 rfl ?_
        refine sx_bipush C dL_areCopies_332 6 (by decide) 334 rfl ?_
        refine sx_iload C dL_areCopies_334 9 rfl 336 rfl ?_
        refine sx_imul C dL_areCopies_336 337 rfl ?_
        refine sx_topi (fun y37 ey37 => ?_)
        replace h := h y37 ey37
        refine sx_istore C dL_areCopies_337 [(13, .int y37), (12, .int 0), (0, .ref (b + 0)), (1, .ref (ad 1)), (2, .ref (ad 2)), (5, .ref (ad 6)), (6, .ref (ad 7)), (8, .int v8), (9, .int v9), (10, .int v10), (11, .int v11)] (by decide) rfl 339 rfl ?_
        exact sx_sub [2, 3, 4, 5, 6, 8, 9, 10, 1, 0] rfl h)
  replace h := h (by
    intro v9 v10 v11 v12 v13 h
    refine sx_iload C dL_areCopies_339 9 rfl 341 rfl ?_
    refine sx_bipush C dL_areCopies_341 6 (by decide) 343 rfl ?_
    refine sx_iload C dL_areCopies_343 7 rfl 345 rfl ?_
    refine sx_imul C dL_areCopies_345 346 rfl ?_
    refine sx_aload C dL_areCopies_346 4 rfl 348 rfl ?_
    refine sx_iconst C dL_areCopies_348 0 (by decide) 349 rfl ?_
    refine sl_iald C dL_areCopies_349 (Nat.lt_of_lt_of_le (show 7 < 8 by decide) hn) rfl h.1 350 rfl ?_
    replace h := h.2
    refine sx_iadd C dL_areCopies_350 351 rfl ?_
    refine sx_icmp_ge C dL_areCopies_351 442 354 (by decide) rfl (fun c38 => ?_) (fun c38 => ?_)
    · replace h := h.1 c38
      refine sx_aload_n C dL_areCopies_442 0 0 rfl rfl 443 rfl ?_
      refine sx_iload C dL_areCopies_443 7 rfl 445 rfl ?_
      refine sl_callX C ok hB (st := []) dL_areCopies_445 (c0_X6_clashes hf h) mi_X6_clashes lk_L_144 mn_X6_clashes ms_X6_clashes (by decide) lyX_0 rfl rfl rfl rfl ⟨⟨(Nat.le_of_ble_eq_true rfl), (Nat.le_of_ble_eq_true rfl)⟩, (Nat.le_of_ble_eq_true rfl), (Nat.le_of_ble_eq_true rfl)⟩ (Nat.le_of_ble_eq_true rfl) 448 rfl (fun v g40 h => ?_)
      obtain ⟨⟨r39, rfl, h⟩, rfl⟩ := h
      refine sx_iload C dL_areCopies_448 8 rfl 450 rfl ?_
      refine sx_icmp_ne C dL_areCopies_450 457 453 (by decide) rfl (fun c41 => ?_) (fun c41 => ?_)
      · replace h := h.2 c41
        refine sx_iconst C dL_areCopies_457 0 (by decide) 458 rfl ?_
        exact sx_sub [0, 1, 2, 3, 4, 5, 6, 7] rfl h
      · replace h := h.1 c41
        refine sx_iconst C dL_areCopies_453 1 (by decide) 454 rfl ?_
        refine sx_goto C dL_areCopies_454 458 (by decide) ?_
        exact sx_sub [0, 1, 2, 3, 4, 5, 6, 7] rfl h
    · replace h := h.2 c38
      refine sx_iconst C dL_areCopies_354 0 (by decide) 355 rfl ?_
      refine sx_istore C dL_areCopies_355 [(14, .int 0), (0, .ref (b + 0)), (1, .ref (ad 1)), (2, .ref (ad 2)), (5, .ref (ad 6)), (6, .ref (ad 7)), (9, .int v9), (10, .int v10), (11, .int v11), (12, .int v12), (13, .int v13)] (by decide) rfl 357 rfl ?_
      exact sx_sub [1, 2, 3, 4, 5, 6, 7, 8, 9, 10, 0] rfl h)
  replace h := h (by
    intro v9 v10 v11 v12 v13 v14 h
    refine sx_iload C dL_areCopies_357 10 rfl 359 rfl ?_
    refine sx_aload_n C dL_areCopies_359 1 1 rfl rfl 360 rfl ?_
    refine sx_iload C dL_areCopies_360 9 rfl 362 rfl ?_
    refine sl_iald C dL_areCopies_362 (Nat.lt_of_lt_of_le (show 1 < 8 by decide) hn) rfl h.1 363 rfl ?_
    replace h := h.2
    refine sx_icmp_ge C dL_areCopies_363 436 366 (by decide) rfl (fun c42 => ?_) (fun c42 => ?_)
    · replace h := h.1 c42
      obtain ⟨y43, ey43⟩ : ∃ w : Int32, w = v13 + 1 := ⟨_, rfl⟩
      replace h := h y43 ey43
      refine sx_iinc C dL_areCopies_436 9 rfl y43 (by rw [ey43]; rfl) [(13, .int y43), (0, .ref (b + 0)), (1, .ref (ad 1)), (2, .ref (ad 2)), (5, .ref (ad 6)), (6, .ref (ad 7)), (9, .int v9), (10, .int v10), (11, .int v11), (12, .int v12), (14, .int v14)] (by decide) rfl 439 rfl ?_
      refine sx_goto C dL_areCopies_439 339 (by decide) ?_
      exact sx_sub [1, 2, 3, 4, 5, 6, 7, 8, 9, 0] rfl h
    · replace h := h.2 c42
      refine sx_iconst C dL_areCopies_366 0 (by decide) 367 rfl ?_
      refine sx_istore C dL_areCopies_367 [(15, .int 0), (0, .ref (b + 0)), (1, .ref (ad 1)), (2, .ref (ad 2)), (5, .ref (ad 6)), (6, .ref (ad 7)), (9, .int v9), (10, .int v10), (11, .int v11), (12, .int v12), (13, .int v13), (14, .int v14)] (by decide) rfl 369 rfl ?_
      exact sx_sub [1, 2, 3, 4, 5, 6, 7, 8, 9, 10, 11, 0] rfl h)
  replace h := h (by
    intro v9 v10 v11 v12 v13 v14 v15 h
    refine sx_iload C dL_areCopies_369 11 rfl 371 rfl ?_
    refine sx_iconst C dL_areCopies_371 4 (by decide) 372 rfl ?_
    refine sx_icmp_ge C dL_areCopies_372 430 375 (by decide) rfl (fun c44 => ?_) (fun c44 => ?_)
    · replace h := h.1 c44
      obtain ⟨y45, ey45⟩ : ∃ w : Int32, w = v14 + 1 := ⟨_, rfl⟩
      replace h := h y45 ey45
      refine sx_iinc C dL_areCopies_430 10 rfl y45 (by rw [ey45]; rfl) [(14, .int y45), (0, .ref (b + 0)), (1, .ref (ad 1)), (2, .ref (ad 2)), (5, .ref (ad 6)), (6, .ref (ad 7)), (9, .int v9), (10, .int v10), (11, .int v11), (12, .int v12), (13, .int v13), (15, .int v15)] (by decide) rfl 433 rfl ?_
      refine sx_goto C dL_areCopies_433 357 (by decide) ?_
      exact sx_sub [1, 2, 3, 4, 5, 6, 7, 8, 9, 10, 0] rfl h
    · replace h := h.2 c44
      refine sx_aload_n C dL_areCopies_375 2 2 rfl rfl 376 rfl ?_
      refine sx_aload C dL_areCopies_376 3 rfl 378 rfl ?_
      refine sx_iload C dL_areCopies_378 11 rfl 380 rfl ?_
      refine sx_iload C dL_areCopies_380 9 rfl 382 rfl ?_
      refine sx_iload C dL_areCopies_382 10 rfl 384 rfl ?_
      refine sl_callS C hB hA (st := []) dL_areCopies_384 (c_L_bowing hf ok hn h) mi_L_bowing lk_L_140 mt_L_bowing rfl rfl ⟨⟨(Nat.le_of_ble_eq_true rfl), (Nat.le_of_ble_eq_true rfl)⟩, (Nat.le_of_ble_eq_true rfl), (Nat.le_of_ble_eq_true rfl)⟩ (Nat.le_of_ble_eq_true rfl) 387 rfl (fun v g47 a48 o49 h => ?_)
      obtain ⟨⟨r46, rfl, h⟩, e9⟩ := h
      cases e9
      refine sx_istore C dL_areCopies_387 [(16, .int r46), (0, .ref (b + 0)), (1, .ref (ad 1)), (2, .ref (ad 2)), (5, .ref (ad 6)), (6, .ref (ad 7)), (9, .int v9), (10, .int v10), (11, .int v11), (12, .int v12), (13, .int v13), (14, .int v14), (15, .int v15)] (by decide) rfl 389 rfl ?_
      refine sx_aload_n C dL_areCopies_389 2 3 rfl rfl 390 rfl ?_
      refine sx_aload C dL_areCopies_390 4 rfl 392 rfl ?_
      refine sx_iload C dL_areCopies_392 12 rfl 394 rfl ?_
      refine sx_iconst C dL_areCopies_394 1 (by decide) 395 rfl ?_
      refine sx_iadd C dL_areCopies_395 396 rfl ?_
      refine sx_iload C dL_areCopies_396 10 rfl 398 rfl ?_
      refine sx_iload C dL_areCopies_398 11 rfl 400 rfl ?_
      refine sl_callS C hB hA (st := []) dL_areCopies_400 (c_L_bowing hf ok hn h) mi_L_bowing lk_L_140 mt_L_bowing rfl rfl ⟨⟨(Nat.le_of_ble_eq_true rfl), (Nat.le_of_ble_eq_true rfl)⟩, (Nat.le_of_ble_eq_true rfl), (Nat.le_of_ble_eq_true rfl)⟩ (Nat.le_of_ble_eq_true rfl) 403 rfl (fun v g51 a52 o53 h => ?_)
      obtain ⟨⟨r50, rfl, h⟩, e9⟩ := h
      cases e9
      refine sx_istore C dL_areCopies_403 [(17, .int r50), (16, .int r46), (0, .ref (b + 0)), (1, .ref (ad 1)), (2, .ref (ad 2)), (5, .ref (ad 6)), (6, .ref (ad 7)), (9, .int v9), (10, .int v10), (11, .int v11), (12, .int v12), (13, .int v13), (14, .int v14), (15, .int v15)] (by decide) rfl 405 rfl ?_
      refine sx_iload C dL_areCopies_405 10 rfl 407 rfl ?_
      refine sx_iload C dL_areCopies_407 1 rfl 409 rfl ?_
      refine sx_iload C dL_areCopies_409 0 rfl 411 rfl ?_
      refine sx_imul C dL_areCopies_411 412 rfl ?_
      refine sx_iconst C dL_areCopies_412 2 (by decide) 413 rfl ?_
      refine sx_icmp_ne C dL_areCopies_413 420 416 (by decide) rfl (fun c54 => ?_) (fun c54 => ?_)
      · replace h := h.2 c54
        refine sx_iconst C dL_areCopies_420 0 (by decide) 421 rfl ?_
        exact sx_sub [2, 3, 4, 5, 6, 7, 8, 9, 11, 12, 13] rfl h
      · replace h := h.1 c54
        refine sx_iconst C dL_areCopies_416 1 (by decide) 417 rfl ?_
        refine sx_goto C dL_areCopies_417 421 (by decide) ?_
        exact sx_sub [2, 3, 4, 5, 6, 7, 8, 9, 11, 12, 13] rfl h)
  replace h := h (by
    intro v9 v10 v11 v13 v14 v15 s0 s1 h
    refine sx_iadd C dL_areCopies_421 422 rfl ?_
    refine sx_topi (fun y55 ey55 => ?_)
    replace h := h y55 ey55
    refine sx_istore C dL_areCopies_422 [(12, .int y55), (0, .ref (b + 0)), (1, .ref (ad 1)), (2, .ref (ad 2)), (5, .ref (ad 6)), (6, .ref (ad 7)), (9, .int v9), (10, .int v10), (11, .int v11), (13, .int v13), (14, .int v14), (15, .int v15)] (by decide) rfl 424 rfl ?_
    obtain ⟨y56, ey56⟩ : ∃ w : Int32, w = v15 + 2 := ⟨_, rfl⟩
    replace h := h y56 ey56
    refine sx_iinc C dL_areCopies_424 11 rfl y56 (by rw [ey56]; rfl) [(15, .int y56), (12, .int y55), (0, .ref (b + 0)), (1, .ref (ad 1)), (2, .ref (ad 2)), (5, .ref (ad 6)), (6, .ref (ad 7)), (9, .int v9), (10, .int v10), (11, .int v11), (13, .int v13), (14, .int v14)] (by decide) rfl 427 rfl ?_
    refine sx_goto C dL_areCopies_427 369 (by decide) ?_
    exact sx_sub [2, 3, 4, 5, 6, 7, 8, 9, 1, 10, 11, 0] rfl h)
  replace h := h (by
    intro v9 v10 v11 s0 h
    refine sx_istore C dL_areCopies_458 [(8, .int s0), (0, .ref (b + 0)), (1, .ref (ad 1)), (2, .ref (ad 2)), (5, .ref (ad 6)), (6, .ref (ad 7)), (9, .int v9), (10, .int v10), (11, .int v11)] (by decide) rfl 460 rfl ?_
    obtain ⟨y57, ey57⟩ : ∃ w : Int32, w = v11 + 1 := ⟨_, rfl⟩
    replace h := h y57 ey57
    refine sx_iinc C dL_areCopies_460 8 rfl y57 (by rw [ey57]; rfl) [(11, .int y57), (8, .int s0), (0, .ref (b + 0)), (1, .ref (ad 1)), (2, .ref (ad 2)), (5, .ref (ad 6)), (6, .ref (ad 7)), (9, .int v9), (10, .int v10)] (by decide) rfl 463 rfl ?_
    refine sx_goto C dL_areCopies_463 318 (by decide) ?_
    exact sx_sub [2, 3, 4, 5, 6, 1, 7, 8, 0] rfl h)
  replace h := h (by
    intro v8 v9 v10 h
    refine sx_iload C dL_areCopies_466 1 rfl 468 rfl ?_
    refine sx_if_eq C dL_areCopies_468 486 471 (by decide) rfl (fun c58 => ?_) (fun c58 => ?_)
    · replace h := h.1 c58
      refine sx_iconst C dL_areCopies_486 0 (by decide) 487 rfl ?_
      exact sx_zret C dL_areCopies_487 hr (Nat.le_of_ble_eq_true rfl) (Nat.le_of_ble_eq_true rfl) (Or.inl rfl) ⟨⟨_, rfl, h⟩, rfl⟩
    · replace h := h.2 c58
      refine sx_aload_n C dL_areCopies_471 0 0 rfl rfl 472 rfl ?_
      refine sx_iload C dL_areCopies_472 2 rfl 474 rfl ?_
      refine sl_callX C ok hB (st := []) dL_areCopies_474 (c0_X6_oldMarks hf h) mi_X6_oldMarks lk_L_147 mn_X6_oldMarks ms_X6_oldMarks (by decide) lyX_0 rfl rfl rfl rfl ⟨⟨(Nat.le_of_ble_eq_true rfl), (Nat.le_of_ble_eq_true rfl)⟩, (Nat.le_of_ble_eq_true rfl), (Nat.le_of_ble_eq_true rfl)⟩ (Nat.le_of_ble_eq_true rfl) 477 rfl (fun v g60 h => ?_)
      obtain ⟨⟨r59, rfl, h⟩, rfl⟩ := h
      refine sx_iload C dL_areCopies_477 3 rfl 479 rfl ?_
      refine sx_icmp_ne C dL_areCopies_479 486 482 (by decide) rfl (fun c61 => ?_) (fun c61 => ?_)
      · replace h := h.2 c61
        refine sx_iconst C dL_areCopies_486 0 (by decide) 487 rfl ?_
        exact sx_zret C dL_areCopies_487 hr (Nat.le_of_ble_eq_true rfl) (Nat.le_of_ble_eq_true rfl) (Or.inl rfl) ⟨⟨_, rfl, h⟩, rfl⟩
      · replace h := h.1 c61
        refine sx_iconst C dL_areCopies_482 1 (by decide) 483 rfl ?_
        refine sx_goto C dL_areCopies_483 487 (by decide) ?_
        exact sx_zret C dL_areCopies_487 hr (Nat.le_of_ble_eq_true rfl) (Nat.le_of_ble_eq_true rfl) (Or.inr rfl) ⟨⟨_, rfl, h⟩, rfl⟩)
  refine sx_sub (lv' := [(0, .ref (b + 0)), (1, .ref (ad 1)), (2, .ref (ad 2)), (3, .ref (ad 4)), (4, .ref (ad 5)), (5, .ref (ad 6)), (6, .ref (ad 7)), (7, .int x7)]) [0, 1, 2, 3, 4, 5, 6, 7] rfl ?_
  refine sx_aload_n C dL_areCopies_0 0 0 rfl rfl 1 rfl ?_
  refine sl_callX C ok hB (st := []) dL_areCopies_1 (c_X6_copies hf h) mi_X6_copies lk_L_116 mn_X6_copies ms_X6_copies (by decide) lyX_0 rfl rfl rfl rfl ⟨⟨(Nat.le_of_ble_eq_true rfl), (Nat.le_of_ble_eq_true rfl)⟩, (Nat.le_of_ble_eq_true rfl), (Nat.le_of_ble_eq_true rfl)⟩ (Nat.le_of_ble_eq_true rfl) 4 rfl (fun v g63 h => ?_)
  obtain ⟨⟨r62, rfl, h⟩, rfl⟩ := h
  refine sx_aload C dL_areCopies_4 6 rfl 6 rfl ?_
  refine sx_iconst C dL_areCopies_6 3 (by decide) 7 rfl ?_
  refine sl_iald C dL_areCopies_7 (Nat.lt_of_lt_of_le (show 7 < 8 by decide) hn) rfl h.1 8 rfl ?_
  replace h := h.2
  refine sx_icmp_ne C dL_areCopies_8 26 11 (by decide) rfl (fun c64 => ?_) (fun c64 => ?_)
  · replace h := h.2 c64
    exact sx_sub [0, 1, 2, 3, 4, 5, 6, 7] rfl h
  · replace h := h.1 c64
    refine sx_aload_n C dL_areCopies_11 0 0 rfl rfl 12 rfl ?_
    refine sl_callX C ok hB (st := []) dL_areCopies_12 (c_X6_concerts hf h) mi_X6_concerts lk_L_120 mn_X6_concerts ms_X6_concerts (by decide) lyX_0 rfl rfl rfl rfl ⟨⟨(Nat.le_of_ble_eq_true rfl), (Nat.le_of_ble_eq_true rfl)⟩, (Nat.le_of_ble_eq_true rfl), (Nat.le_of_ble_eq_true rfl)⟩ (Nat.le_of_ble_eq_true rfl) 15 rfl (fun v g66 h => ?_)
    obtain ⟨⟨r65, rfl, h⟩, rfl⟩ := h
    refine sx_aload C dL_areCopies_15 6 rfl 17 rfl ?_
    refine sx_iconst C dL_areCopies_17 4 (by decide) 18 rfl ?_
    refine sl_iald C dL_areCopies_18 (Nat.lt_of_lt_of_le (show 7 < 8 by decide) hn) rfl h.1 19 rfl ?_
    replace h := h.2
    refine sx_icmp_ne C dL_areCopies_19 26 22 (by decide) rfl (fun c67 => ?_) (fun c67 => ?_)
    · replace h := h.2 c67
      exact sx_sub [0, 1, 2, 3, 4, 5, 6, 7] rfl h
    · replace h := h.1 c67
      refine sx_iconst C dL_areCopies_22 1 (by decide) 23 rfl ?_
      refine sx_goto C dL_areCopies_23 27 (by decide) ?_
      exact sx_sub [0, 1, 2, 3, 4, 5, 6, 7] rfl h
