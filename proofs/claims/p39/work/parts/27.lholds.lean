set_option maxRecDepth 100000 in
set_option maxHeartbeats 16000000 in
theorem w_L_holds {p : Program} {l : Launch} {e : Env} {s : State} {m : MethodId} {args : Array Value} {below : List Frame} {meth : Method} {c : Code} {D : va_G} {G : sx_G} {b bs L : Nat} {ad : Nat → Nat} {xs : Nat → Int32} {f a : sx_F} {o : sl_O} (hf : l.stackTraces = false) (hL : L ≤ 260) (C : sx_Cx p l s m args meth c D G (sx_AC s.heap.size) cL_holds 16 RL) (hr : meth.sig.returnType = some .boolean) (hX : va_X bs L xs s s.heap) (hbl : bs < s.heap.size) (hbA : ¬ sx_AC s.heap.size bs) (ok : sl_ok b ad 8) (hB : ∀ k, k < 129 → sx_AC s.heap.size (b + k)) (hA : ∀ j, j < 8 → sx_AC s.heap.size (ad j)) (h : P_L_holds f a o) : sx_J (sl_wp D G b ad 8) p l e { frames := 21, cells := 100000, slots := 3600000, locals := 537 } s m args below meth c (sx_AC s.heap.size) 16 200 (36 * 200) (sx_fin sh_wd (sx_AC s.heap.size) below args s 100000 3600000 (fun v _ => v = some (.int 1)) (fun _ _ => False)) (f, a, o) 53 [(0, .ref bs), (1, .ref (b + 0)), (2, .ref (ad 0)), (3, .ref (ad 1)), (4, .ref (ad 2)), (5, .ref (ad 3)), (6, .ref (ad 4)), (7, .ref (ad 5)), (8, .ref (ad 6)), (9, .ref (ad 7))] [] := by
  unfold P_L_holds at h
  replace h := h (fun (f : sx_F) (a : sx_F) (o : sl_O) (v10 : Int32) (v11 : Int32) (v12 : Int32) (ce : Nat) => sx_J (sl_wp D G b ad 8) p l e { frames := 21, cells := 100000, slots := 3600000, locals := 537 } s m args below meth c (sx_AC s.heap.size) 16 ce (36 * ce) (sx_fin sh_wd (sx_AC s.heap.size) below args s 100000 3600000 (fun v _ => v = some (.int 1)) (fun _ _ => False)) (f, a, o) 74 [(0, .ref bs), (1, .ref (b + 0)), (2, .ref (ad 0)), (3, .ref (ad 1)), (4, .ref (ad 2)), (5, .ref (ad 3)), (6, .ref (ad 4)), (7, .ref (ad 5)), (8, .ref (ad 6)), (9, .ref (ad 7)), (10, .int v10), (11, .int v11), (12, .int v12)] [])
  replace h := h (fun (f : sx_F) (a : sx_F) (o : sl_O) (v10 : Int32) (v12 : Int32) (v13 : Int32) (s0 : Int32) (ce : Nat) => sx_J (sl_wp D G b ad 8) p l e { frames := 21, cells := 100000, slots := 3600000, locals := 537 } s m args below meth c (sx_AC s.heap.size) 16 ce (36 * ce) (sx_fin sh_wd (sx_AC s.heap.size) below args s 100000 3600000 (fun v _ => v = some (.int 1)) (fun _ _ => False)) (f, a, o) 120 [(0, .ref bs), (1, .ref (b + 0)), (2, .ref (ad 0)), (3, .ref (ad 1)), (4, .ref (ad 2)), (5, .ref (ad 3)), (6, .ref (ad 4)), (7, .ref (ad 5)), (8, .ref (ad 6)), (9, .ref (ad 7)), (10, .int v10), (12, .int v12), (13, .int v13)] [.int s0])
  replace h := h (fun (f : sx_F) (a : sx_F) (o : sl_O) (v10 : Int32) (v12 : Int32) (v13 : Int32) (s1 : Int32) (s2 : Int32) (s3 : Int32) (s4 : Int32) (ce : Nat) => sx_J (sl_wp D G b ad 8) p l e { frames := 21, cells := 100000, slots := 3600000, locals := 537 } s m args below meth c (sx_AC s.heap.size) 16 ce (36 * ce) (sx_fin sh_wd (sx_AC s.heap.size) below args s 100000 3600000 (fun v _ => v = some (.int 1)) (fun _ _ => False)) (f, a, o) 159 [(0, .ref bs), (1, .ref (b + 0)), (2, .ref (ad 0)), (3, .ref (ad 1)), (4, .ref (ad 2)), (5, .ref (ad 3)), (6, .ref (ad 4)), (7, .ref (ad 5)), (8, .ref (ad 6)), (9, .ref (ad 7)), (10, .int v10), (12, .int v12), (13, .int v13)] [.int s4, .int s3, .int s2, .int s1, .ref (ad 3)])
  replace h := h (fun (f : sx_F) (a : sx_F) (o : sl_O) (v10 : Int32) (v12 : Int32) (v13 : Int32) (ce : Nat) => sx_J (sl_wp D G b ad 8) p l e { frames := 21, cells := 100000, slots := 3600000, locals := 537 } s m args below meth c (sx_AC s.heap.size) 16 ce (36 * ce) (sx_fin sh_wd (sx_AC s.heap.size) below args s 100000 3600000 (fun v _ => v = some (.int 1)) (fun _ _ => False)) (f, a, o) 245 [(0, .ref bs), (1, .ref (b + 0)), (2, .ref (ad 0)), (3, .ref (ad 1)), (4, .ref (ad 2)), (5, .ref (ad 3)), (6, .ref (ad 4)), (7, .ref (ad 5)), (8, .ref (ad 6)), (9, .ref (ad 7)), (10, .int v10), (12, .int v12), (13, .int v13)] [])
  replace h := h (fun (f : sx_F) (a : sx_F) (o : sl_O) (v10 : Int32) (v12 : Int32) (v13 : Int32) (s0 : Int32) (ce : Nat) => sx_J (sl_wp D G b ad 8) p l e { frames := 21, cells := 100000, slots := 3600000, locals := 537 } s m args below meth c (sx_AC s.heap.size) 16 ce (36 * ce) (sx_fin sh_wd (sx_AC s.heap.size) below args s 100000 3600000 (fun v _ => v = some (.int 1)) (fun _ _ => False)) (f, a, o) 246 [(0, .ref bs), (1, .ref (b + 0)), (2, .ref (ad 0)), (3, .ref (ad 1)), (4, .ref (ad 2)), (5, .ref (ad 3)), (6, .ref (ad 4)), (7, .ref (ad 5)), (8, .ref (ad 6)), (9, .ref (ad 7)), (10, .int v10), (12, .int v12), (13, .int v13)] [.int s0])
  replace h := h (fun (f : sx_F) (a : sx_F) (o : sl_O) (v10 : Int32) (v12 : Int32) (v13 : Int32) (v14 : Int32) (ce : Nat) => sx_J (sl_wp D G b ad 8) p l e { frames := 21, cells := 100000, slots := 3600000, locals := 537 } s m args below meth c (sx_AC s.heap.size) 16 ce (36 * ce) (sx_fin sh_wd (sx_AC s.heap.size) below args s 100000 3600000 (fun v _ => v = some (.int 1)) (fun _ _ => False)) (f, a, o) 251 [(0, .ref bs), (1, .ref (b + 0)), (2, .ref (ad 0)), (3, .ref (ad 1)), (4, .ref (ad 2)), (5, .ref (ad 3)), (6, .ref (ad 4)), (7, .ref (ad 5)), (8, .ref (ad 6)), (9, .ref (ad 7)), (10, .int v10), (12, .int v12), (13, .int v13), (14, .int v14)] [])
  replace h := h (fun (f : sx_F) (a : sx_F) (o : sl_O) (v10 : Int32) (v12 : Int32) (v13 : Int32) (v15 : Int32) (s1 : Int32) (s2 : Int32) (s3 : Int32) (s4 : Int32) (ce : Nat) => sx_J (sl_wp D G b ad 8) p l e { frames := 21, cells := 100000, slots := 3600000, locals := 537 } s m args below meth c (sx_AC s.heap.size) 16 ce (36 * ce) (sx_fin sh_wd (sx_AC s.heap.size) below args s 100000 3600000 (fun v _ => v = some (.int 1)) (fun _ _ => False)) (f, a, o) 285 [(0, .ref bs), (1, .ref (b + 0)), (2, .ref (ad 0)), (3, .ref (ad 1)), (4, .ref (ad 2)), (5, .ref (ad 3)), (6, .ref (ad 4)), (7, .ref (ad 5)), (8, .ref (ad 6)), (9, .ref (ad 7)), (10, .int v10), (12, .int v12), (13, .int v13), (15, .int v15)] [.int s4, .int s3, .int s2, .int s1, .ref (ad 7)])
  replace h := h (fun (f : sx_F) (a : sx_F) (o : sl_O) (v10 : Int32) (v12 : Int32) (v13 : Int32) (s0 : Int32) (ce : Nat) => sx_J (sl_wp D G b ad 8) p l e { frames := 21, cells := 100000, slots := 3600000, locals := 537 } s m args below meth c (sx_AC s.heap.size) 16 ce (36 * ce) (sx_fin sh_wd (sx_AC s.heap.size) below args s 100000 3600000 (fun v _ => v = some (.int 1)) (fun _ _ => False)) (f, a, o) 324 [(0, .ref bs), (1, .ref (b + 0)), (2, .ref (ad 0)), (3, .ref (ad 1)), (4, .ref (ad 2)), (5, .ref (ad 3)), (6, .ref (ad 4)), (7, .ref (ad 5)), (8, .ref (ad 6)), (9, .ref (ad 7)), (10, .int v10), (12, .int v12), (13, .int v13)] [.int s0])
  replace h := h (fun (f : sx_F) (a : sx_F) (o : sl_O) (v10 : Int32) (v12 : Int32) (v13 : Int32) (s6 : Int32) (ce : Nat) => sx_J (sl_wp D G b ad 8) p l e { frames := 21, cells := 100000, slots := 3600000, locals := 537 } s m args below meth c (sx_AC s.heap.size) 16 ce (36 * ce) (sx_fin sh_wd (sx_AC s.heap.size) below args s 100000 3600000 (fun v _ => v = some (.int 1)) (fun _ _ => False)) (f, a, o) 370 [(0, .ref bs), (1, .ref (b + 0)), (2, .ref (ad 0)), (3, .ref (ad 1)), (4, .ref (ad 2)), (5, .ref (ad 3)), (6, .ref (ad 4)), (7, .ref (ad 5)), (8, .ref (ad 6)), (9, .ref (ad 7)), (10, .int v10), (12, .int v12), (13, .int v13)] [.int s6, .ref (ad 7), .ref (ad 3), .ref (ad 2), .ref (ad 1), .ref (ad 0), .ref (b + 0)])
  replace h := h (fun (f : sx_F) (a : sx_F) (o : sl_O) (v10 : Int32) (v12 : Int32) (v13 : Int32) (s7 : Int32) (ce : Nat) => sx_J (sl_wp D G b ad 8) p l e { frames := 21, cells := 100000, slots := 3600000, locals := 537 } s m args below meth c (sx_AC s.heap.size) 16 ce (36 * ce) (sx_fin sh_wd (sx_AC s.heap.size) below args s 100000 3600000 (fun v _ => v = some (.int 1)) (fun _ _ => False)) (f, a, o) 435 [(0, .ref bs), (1, .ref (b + 0)), (2, .ref (ad 0)), (3, .ref (ad 1)), (4, .ref (ad 2)), (5, .ref (ad 3)), (6, .ref (ad 4)), (7, .ref (ad 5)), (8, .ref (ad 6)), (9, .ref (ad 7)), (10, .int v10), (12, .int v12), (13, .int v13)] [.int s7, .ref (ad 7), .ref (ad 6), .ref (ad 5), .ref (ad 4), .ref (ad 2), .ref (ad 1), .ref (b + 0)])
  replace h := h (fun (f : sx_F) (a : sx_F) (o : sl_O) (v10 : Int32) (v11 : Int32) (v12 : Int32) (v13 : Int32) (ce : Nat) => sx_J (sl_wp D G b ad 8) p l e { frames := 21, cells := 100000, slots := 3600000, locals := 537 } s m args below meth c (sx_AC s.heap.size) 16 ce (36 * ce) (sx_fin sh_wd (sx_AC s.heap.size) below args s 100000 3600000 (fun v _ => v = some (.int 1)) (fun _ _ => False)) (f, a, o) 442 [(0, .ref bs), (1, .ref (b + 0)), (2, .ref (ad 0)), (3, .ref (ad 1)), (4, .ref (ad 2)), (5, .ref (ad 3)), (6, .ref (ad 4)), (7, .ref (ad 5)), (8, .ref (ad 6)), (9, .ref (ad 7)), (10, .int v10), (11, .int v11), (12, .int v12), (13, .int v13)] [])
  replace h := h (fun (f : sx_F) (a : sx_F) (o : sl_O) (v10 : Int32) (v12 : Int32) (v13 : Int32) (ce : Nat) => sx_J (sl_wp D G b ad 8) p l e { frames := 21, cells := 100000, slots := 3600000, locals := 537 } s m args below meth c (sx_AC s.heap.size) 16 ce (36 * ce) (sx_fin sh_wd (sx_AC s.heap.size) below args s 100000 3600000 (fun v _ => v = some (.int 1)) (fun _ _ => False)) (f, a, o) 475 [(0, .ref bs), (1, .ref (b + 0)), (2, .ref (ad 0)), (3, .ref (ad 1)), (4, .ref (ad 2)), (5, .ref (ad 3)), (6, .ref (ad 4)), (7, .ref (ad 5)), (8, .ref (ad 6)), (9, .ref (ad 7)), (10, .int v10), (12, .int v12), (13, .int v13)] [])
  replace h := h (fun (f : sx_F) (a : sx_F) (o : sl_O) (v10 : Int32) (v12 : Int32) (ce : Nat) => sx_J (sl_wp D G b ad 8) p l e { frames := 21, cells := 100000, slots := 3600000, locals := 537 } s m args below meth c (sx_AC s.heap.size) 16 ce (36 * ce) (sx_fin sh_wd (sx_AC s.heap.size) below args s 100000 3600000 (fun v _ => v = some (.int 1)) (fun _ _ => False)) (f, a, o) 507 [(0, .ref bs), (1, .ref (b + 0)), (2, .ref (ad 0)), (3, .ref (ad 1)), (4, .ref (ad 2)), (5, .ref (ad 3)), (6, .ref (ad 4)), (7, .ref (ad 5)), (8, .ref (ad 6)), (9, .ref (ad 7)), (10, .int v10), (12, .int v12)] [])
  replace h := h (fun (f : sx_F) (a : sx_F) (o : sl_O) (v10 : Int32) (v12 : Int32) (ce : Nat) => sx_J (sl_wp D G b ad 8) p l e { frames := 21, cells := 100000, slots := 3600000, locals := 537 } s m args below meth c (sx_AC s.heap.size) 16 ce (36 * ce) (sx_fin sh_wd (sx_AC s.heap.size) below args s 100000 3600000 (fun v _ => v = some (.int 1)) (fun _ _ => False)) (f, a, o) 511 [(0, .ref bs), (1, .ref (b + 0)), (2, .ref (ad 0)), (3, .ref (ad 1)), (4, .ref (ad 2)), (5, .ref (ad 3)), (6, .ref (ad 4)), (7, .ref (ad 5)), (8, .ref (ad 6)), (9, .ref (ad 7)), (10, .int v10), (12, .int v12)] [])
  replace h := h (fun (f : sx_F) (a : sx_F) (o : sl_O) (v10 : Int32) (v12 : Int32) (s0 : Int32) (ce : Nat) => sx_J (sl_wp D G b ad 8) p l e { frames := 21, cells := 100000, slots := 3600000, locals := 537 } s m args below meth c (sx_AC s.heap.size) 16 ce (36 * ce) (sx_fin sh_wd (sx_AC s.heap.size) below args s 100000 3600000 (fun v _ => v = some (.int 1)) (fun _ _ => False)) (f, a, o) 512 [(0, .ref bs), (1, .ref (b + 0)), (2, .ref (ad 0)), (3, .ref (ad 1)), (4, .ref (ad 2)), (5, .ref (ad 3)), (6, .ref (ad 4)), (7, .ref (ad 5)), (8, .ref (ad 6)), (9, .ref (ad 7)), (10, .int v10), (12, .int v12)] [.int s0])
  replace h := h (fun (f : sx_F) (a : sx_F) (o : sl_O) (v11 : Int32) (ce : Nat) => sx_J (sl_wp D G b ad 8) p l e { frames := 21, cells := 100000, slots := 3600000, locals := 537 } s m args below meth c (sx_AC s.heap.size) 16 ce (36 * ce) (sx_fin sh_wd (sx_AC s.heap.size) below args s 100000 3600000 (fun v _ => v = some (.int 1)) (fun _ _ => False)) (f, a, o) 520 [(1, .ref (b + 0)), (2, .ref (ad 0)), (3, .ref (ad 1)), (5, .ref (ad 3)), (9, .ref (ad 7)), (11, .int v11)] [])
  replace h := h (fun (f : sx_F) (a : sx_F) (o : sl_O) (v11 : Int32) (v12 : Int32) (ce : Nat) => sx_J (sl_wp D G b ad 8) p l e { frames := 21, cells := 100000, slots := 3600000, locals := 537 } s m args below meth c (sx_AC s.heap.size) 16 ce (36 * ce) (sx_fin sh_wd (sx_AC s.heap.size) below args s 100000 3600000 (fun v _ => v = some (.int 1)) (fun _ _ => False)) (f, a, o) 523 [(1, .ref (b + 0)), (2, .ref (ad 0)), (3, .ref (ad 1)), (5, .ref (ad 3)), (9, .ref (ad 7)), (11, .int v11), (12, .int v12)] [])
  replace h := h (by
    intro f a o v10 v11 v12 ce h
    refine sx_iload C dL_holds_74 12 rfl 76 rfl ?_
    refine sx_bipush C dL_holds_76 120 (by decide) 78 rfl ?_
    refine sx_icmp_ge C dL_holds_78 520 81 (by decide) rfl (fun c1 => ?_) (fun c1 => ?_)
    · replace h := h.1 c1
      refine sx_widen (k := ce) (n := 36 * ce) (Nat.le_refl _) (by omega) ?_
      exact sx_sub [1, 2, 3, 5, 9, 11] rfl h
    · replace h := h.2 c1
      refine sx_iload C dL_holds_81 11 rfl 83 rfl ?_
      refine sx_if_eq C dL_holds_83 520 86 (by decide) rfl (fun c2 => ?_) (fun c2 => ?_)
      · replace h := h.1 c2
        refine sx_widen (k := ce) (n := 36 * ce) (Nat.le_refl _) (by omega) ?_
        exact sx_sub [1, 2, 3, 5, 9, 11] rfl h
      · replace h := h.2 c2
        refine sx_aload_n C dL_holds_86 0 0 rfl rfl 87 rfl ?_
        refine sx_iconst C dL_holds_87 2 (by decide) 88 rfl ?_
        refine sx_iload C dL_holds_88 12 rfl 90 rfl ?_
        refine sx_imul C dL_holds_90 91 rfl ?_
        refine sx_iconst C dL_holds_91 1 (by decide) 92 rfl ?_
        refine sx_iadd C dL_holds_92 93 rfl ?_
        refine sx_ldci C dL_holds_93 10000000 kc_L_218 95 rfl ?_
        obtain ⟨z4k, z4w, z41, z42, z43, z44, z45, z46, h⟩ := h
        refine sh_call C hX hbl hbA sh_keep (st := []) dL_holds_95 (c_L_from hf hL z43 z44 z45) mi_L_from lk_L_219 mt_L_from rfl (by rw [z41, z42]; rfl) ⟨⟨(Nat.le_of_ble_eq_true rfl), (Nat.le_of_ble_eq_true rfl)⟩, z46, (by dsimp only; omega)⟩ (Nat.le_of_ble_eq_true rfl) 98 rfl (fun v hv => ?_)
        obtain ⟨r3, r3lt, rfl⟩ := hv
        replace h := h r3 r3lt
        refine sx_widen (k := ce) (n := 36 * ce) (Nat.le_refl _) (by omega) ?_
        refine sx_topi (fun y5 ey5 => ?_)
        replace h := h y5 ey5
        refine sx_istore C dL_holds_98 [(13, .int y5), (0, .ref bs), (1, .ref (b + 0)), (2, .ref (ad 0)), (3, .ref (ad 1)), (4, .ref (ad 2)), (5, .ref (ad 3)), (6, .ref (ad 4)), (7, .ref (ad 5)), (8, .ref (ad 6)), (9, .ref (ad 7)), (10, .int v10), (11, .int v11), (12, .int v12)] (by decide) rfl 100 rfl ?_
        refine sx_iload C dL_holds_100 13 rfl 102 rfl ?_
        refine sx_iconst C dL_holds_102 3 (by decide) 103 rfl ?_
        refine sx_icmp_ge C dL_holds_103 110 106 (by decide) rfl (fun c6 => ?_) (fun c6 => ?_)
        · replace h := h.1 c6
          refine sx_aload_n C dL_holds_110 0 1 rfl rfl 111 rfl ?_
          refine sx_iconst C dL_holds_111 2 (by decide) 112 rfl ?_
          refine sx_iload C dL_holds_112 13 rfl 114 rfl ?_
          refine sx_imul C dL_holds_114 115 rfl ?_
          refine sx_bipush C dL_holds_115 30 (by decide) 117 rfl ?_
          obtain ⟨z8k, z8w, z81, z82, z83, z84, z85, z86, h⟩ := h
          refine sh_call C hX hbl hbA sh_keep (st := []) dL_holds_117 (c_L_from hf hL z83 z84 z85) mi_L_from lk_L_219 mt_L_from rfl (by rw [z81, z82]; rfl) ⟨⟨(Nat.le_of_ble_eq_true rfl), (Nat.le_of_ble_eq_true rfl)⟩, z86, (by dsimp only; omega)⟩ (Nat.le_of_ble_eq_true rfl) 120 rfl (fun v hv => ?_)
          obtain ⟨r7, r7lt, rfl⟩ := hv
          replace h := h r7 r7lt
          refine sx_widen (k := ce) (n := 36 * ce) (Nat.le_refl _) (by omega) ?_
          refine sx_widen (k := ce) (n := 36 * ce) (Nat.le_refl _) (by omega) ?_
          exact sx_sub [1, 2, 3, 4, 5, 6, 7, 8, 9, 10, 11, 13, 0] rfl h
        · replace h := h.2 c6
          refine sx_iconst C dL_holds_106 0 (by decide) 107 rfl ?_
          refine sx_goto C dL_holds_107 120 (by decide) ?_
          refine sx_widen (k := ce) (n := 36 * ce) (Nat.le_refl _) (by omega) ?_
          exact sx_sub [1, 2, 3, 4, 5, 6, 7, 8, 9, 10, 11, 13, 0] rfl h)
  replace h := h (by
    intro f a o v10 v12 v13 s0 ce h
    refine sx_istore C dL_holds_120 [(14, .int s0), (0, .ref bs), (1, .ref (b + 0)), (2, .ref (ad 0)), (3, .ref (ad 1)), (4, .ref (ad 2)), (5, .ref (ad 3)), (6, .ref (ad 4)), (7, .ref (ad 5)), (8, .ref (ad 6)), (9, .ref (ad 7)), (10, .int v10), (12, .int v12), (13, .int v13)] (by decide) rfl 122 rfl ?_
    refine sx_iload C dL_holds_122 0 rfl 124 rfl ?_
    refine sx_if_ne C dL_holds_124 251 127 (by decide) rfl (fun c9 => ?_) (fun c9 => ?_)
    · replace h := h.2 c9
      refine sx_widen (k := ce) (n := 36 * ce) (Nat.le_refl _) (by omega) ?_
      exact sx_sub [1, 2, 3, 4, 5, 6, 7, 8, 9, 10, 11, 12, 13, 0] rfl h
    · replace h := h.1 c9
      refine sx_aload C dL_holds_127 10 rfl 129 rfl ?_
      refine sx_iconst C dL_holds_129 0 (by decide) 130 rfl ?_
      refine sl_iald C dL_holds_130 (by decide) rfl h.1 131 rfl ?_
      replace h := h.2
      refine sx_bipush C dL_holds_131 6 (by decide) 133 rfl ?_
      refine sx_icmp_ge C dL_holds_133 251 136 (by decide) rfl (fun c10 => ?_) (fun c10 => ?_)
      · replace h := h.1 c10
        refine sx_widen (k := ce) (n := 36 * ce) (Nat.le_refl _) (by omega) ?_
        exact sx_sub [1, 2, 3, 4, 5, 6, 7, 8, 9, 10, 11, 12, 13, 0] rfl h
      · replace h := h.2 c10
        refine sx_aload C dL_holds_136 6 rfl 138 rfl ?_
        refine sx_aload C dL_holds_138 10 rfl 140 rfl ?_
        refine sx_iconst C dL_holds_140 0 (by decide) 141 rfl ?_
        refine sl_iald C dL_holds_141 (by decide) rfl h.1 142 rfl ?_
        replace h := h.2
        refine sx_iconst C dL_holds_142 1 (by decide) 143 rfl ?_
        refine sx_iload C dL_holds_143 13 rfl 145 rfl ?_
        refine sx_iload C dL_holds_145 13 rfl 147 rfl ?_
        refine sx_iconst C dL_holds_147 5 (by decide) 148 rfl ?_
        refine sx_irem C dL_holds_148 (by decide) 149 rfl ?_
        refine sx_if_ne C dL_holds_149 157 152 (by decide) rfl (fun c11 => ?_) (fun c11 => ?_)
        · replace h := h.2 c11
          refine sx_bipush C dL_holds_157 8 (by decide) 159 rfl ?_
          refine sx_widen (k := ce) (n := 36 * ce) (Nat.le_refl _) (by omega) ?_
          exact sx_sub [1, 2, 3, 4, 5, 6, 7, 8, 9, 10, 11, 12, 13] rfl h
        · replace h := h.1 c11
          refine sx_bipush C dL_holds_152 16 (by decide) 154 rfl ?_
          refine sx_goto C dL_holds_154 159 (by decide) ?_
          refine sx_widen (k := ce) (n := 36 * ce) (Nat.le_refl _) (by omega) ?_
          exact sx_sub [1, 2, 3, 4, 5, 6, 7, 8, 9, 10, 11, 12, 13] rfl h)
  replace h := h (by
    intro f a o v10 v12 v13 s1 s2 s3 s4 ce h
    refine sx_irem C dL_holds_159 h.1 160 rfl ?_
    replace h := h.2
    refine sx_iadd C dL_holds_160 161 rfl ?_
    refine sl_iast C dL_holds_161 ok hB hA (by decide) rfl h.1 162 rfl (fun a12 ea12 => ?_)
    replace h := h.2 a12 ea12
    refine sx_iload C dL_holds_162 10 rfl 164 rfl ?_
    refine sx_aload C dL_holds_164 5 rfl 166 rfl ?_
    refine sx_aload C dL_holds_166 9 rfl 168 rfl ?_
    refine sx_iconst C dL_holds_168 0 (by decide) 169 rfl ?_
    refine sl_iald C dL_holds_169 (by decide) rfl h.1 170 rfl ?_
    replace h := h.2
    refine sl_iald C dL_holds_170 (by decide) rfl h.1 171 rfl ?_
    replace h := h.2
    refine sx_iadd C dL_holds_171 172 rfl ?_
    refine sx_topi (fun y13 ey13 => ?_)
    replace h := h y13 ey13
    refine sx_istore C dL_holds_172 [(10, .int y13), (0, .ref bs), (1, .ref (b + 0)), (2, .ref (ad 0)), (3, .ref (ad 1)), (4, .ref (ad 2)), (5, .ref (ad 3)), (6, .ref (ad 4)), (7, .ref (ad 5)), (8, .ref (ad 6)), (9, .ref (ad 7)), (12, .int v12), (13, .int v13)] (by decide) rfl 174 rfl ?_
    refine sx_aload C dL_holds_174 10 rfl 176 rfl ?_
    refine sx_iconst C dL_holds_176 0 (by decide) 177 rfl ?_
    refine sx_dup2 C dL_holds_177 rfl rfl 178 rfl ?_
    refine sl_iald C dL_holds_178 (by decide) rfl h.1 179 rfl ?_
    replace h := h.2
    refine sx_iconst C dL_holds_179 1 (by decide) 180 rfl ?_
    refine sx_iadd C dL_holds_180 181 rfl ?_
    refine sl_iast C dL_holds_181 ok hB hA (by decide) rfl h.1 182 rfl (fun a14 ea14 => ?_)
    replace h := h.2 a14 ea14
    refine sx_aload_n C dL_holds_182 1 2 rfl rfl 183 rfl ?_
    refine sx_aload C dL_holds_183 6 rfl 185 rfl ?_
    refine sx_aload C dL_holds_185 10 rfl 187 rfl ?_
    refine sx_iconst C dL_holds_187 0 (by decide) 188 rfl ?_
    refine sl_iald C dL_holds_188 (by decide) rfl h.1 189 rfl ?_
    replace h := h.2
    refine sx_iconst C dL_holds_189 1 (by decide) 190 rfl ?_
    refine sx_isub C dL_holds_190 191 rfl ?_
    refine sl_iald C dL_holds_191 (by decide) rfl h.1 192 rfl ?_
    replace h := h.2
    obtain ⟨hce, h⟩ := h
    refine sl_callX C ok hB (st := []) dL_holds_192 (c0_X6_bar hf h) mi_X6_bar lk_L_223 mn_X6_bar ms_X6_bar (by decide) lyX_0 rfl rfl rfl rfl ⟨⟨(Nat.le_of_ble_eq_true rfl), (Nat.le_of_ble_eq_true rfl)⟩, hce, (by dsimp only; omega)⟩ (Nat.le_of_ble_eq_true rfl) 195 rfl (fun v g16 h => ?_)
    obtain ⟨r15, rfl, h⟩ := h
    refine sx_widen (k := ce) (n := 36 * ce) (Nat.le_refl _) (by omega) ?_
    refine sx_aload C dL_holds_195 10 rfl 197 rfl ?_
    refine sx_iconst C dL_holds_197 0 (by decide) 198 rfl ?_
    refine sl_iald C dL_holds_198 (by decide) rfl h.1 199 rfl ?_
    replace h := h.2
    refine sx_iconst C dL_holds_199 1 (by decide) 200 rfl ?_
    refine sx_isub C dL_holds_200 201 rfl ?_
    refine sx_icmp_ne C dL_holds_201 245 204 (by decide) rfl (fun c17 => ?_) (fun c17 => ?_)
    · replace h := h.2 c17
      refine sx_widen (k := ce) (n := 36 * ce) (Nat.le_refl _) (by omega) ?_
      exact sx_sub [1, 2, 3, 4, 5, 6, 7, 8, 9, 10, 0, 11, 12] rfl h
    · replace h := h.1 c17
      refine sx_aload_n C dL_holds_204 1 2 rfl rfl 205 rfl ?_
      refine sx_aload C dL_holds_205 10 rfl 207 rfl ?_
      refine sx_iconst C dL_holds_207 0 (by decide) 208 rfl ?_
      refine sl_iald C dL_holds_208 (by decide) rfl h.1 209 rfl ?_
      replace h := h.2
      obtain ⟨hce, h⟩ := h
      refine sl_callX C ok hB (st := []) dL_holds_209 (c0_X6_time hf h) mi_X6_time lk_L_226 mn_X6_time ms_X6_time (by decide) lyX_0 rfl rfl rfl rfl ⟨⟨(Nat.le_of_ble_eq_true rfl), (Nat.le_of_ble_eq_true rfl)⟩, hce, (by dsimp only; omega)⟩ (Nat.le_of_ble_eq_true rfl) 212 rfl (fun v g19 h => ?_)
      obtain ⟨⟨r18, rfl, h⟩, rfl⟩ := h
      refine sx_widen (k := ce) (n := 36 * ce) (Nat.le_refl _) (by omega) ?_
      refine sx_iload C dL_holds_212 0 rfl 214 rfl ?_
      refine sx_icmp_ne C dL_holds_214 245 217 (by decide) rfl (fun c20 => ?_) (fun c20 => ?_)
      · replace h := h.2 c20
        refine sx_widen (k := ce) (n := 36 * ce) (Nat.le_refl _) (by omega) ?_
        exact sx_sub [1, 2, 3, 4, 5, 6, 7, 8, 9, 10, 0, 11, 12] rfl h
      · replace h := h.1 c20
        refine sx_aload_n C dL_holds_217 1 2 rfl rfl 218 rfl ?_
        refine sx_aload C dL_holds_218 10 rfl 220 rfl ?_
        refine sx_iconst C dL_holds_220 0 (by decide) 221 rfl ?_
        refine sl_iald C dL_holds_221 (by decide) rfl h.1 222 rfl ?_
        replace h := h.2
        obtain ⟨hce, h⟩ := h
        refine sl_callX C ok hB (st := []) dL_holds_222 (c0_X6_timeByBars hf h) mi_X6_timeByBars lk_L_229 mn_X6_timeByBars ms_X6_timeByBars (by decide) lyX_0 rfl rfl rfl rfl ⟨⟨(Nat.le_of_ble_eq_true rfl), (Nat.le_of_ble_eq_true rfl)⟩, hce, (by dsimp only; omega)⟩ (Nat.le_of_ble_eq_true rfl) 225 rfl (fun v g22 h => ?_)
        obtain ⟨⟨r21, rfl, h⟩, rfl⟩ := h
        refine sx_widen (k := ce) (n := 36 * ce) (Nat.le_refl _) (by omega) ?_
        refine sx_iload C dL_holds_225 0 rfl 227 rfl ?_
        refine sx_icmp_ne C dL_holds_227 245 230 (by decide) rfl (fun c23 => ?_) (fun c23 => ?_)
        · replace h := h.2 c23
          refine sx_widen (k := ce) (n := 36 * ce) (Nat.le_refl _) (by omega) ?_
          exact sx_sub [1, 2, 3, 4, 5, 6, 7, 8, 9, 10, 0, 11, 12] rfl h
        · replace h := h.1 c23
          refine sx_aload_n C dL_holds_230 1 2 rfl rfl 231 rfl ?_
          obtain ⟨hce, h⟩ := h
          refine sl_callX C ok hB (st := []) dL_holds_231 (c_X6_bars hf h) mi_X6_bars lk_L_232 mn_X6_bars ms_X6_bars (by decide) lyX_0 rfl rfl rfl rfl ⟨⟨(Nat.le_of_ble_eq_true rfl), (Nat.le_of_ble_eq_true rfl)⟩, hce, (by dsimp only; omega)⟩ (Nat.le_of_ble_eq_true rfl) 234 rfl (fun v g25 h => ?_)
          obtain ⟨⟨r24, rfl, h⟩, rfl⟩ := h
          refine sx_widen (k := ce) (n := 36 * ce) (Nat.le_refl _) (by omega) ?_
          refine sx_aload C dL_holds_234 10 rfl 236 rfl ?_
          refine sx_iconst C dL_holds_236 0 (by decide) 237 rfl ?_
          refine sl_iald C dL_holds_237 (by decide) rfl h.1 238 rfl ?_
          replace h := h.2
          refine sx_icmp_ne C dL_holds_238 245 241 (by decide) rfl (fun c26 => ?_) (fun c26 => ?_)
          · replace h := h.2 c26
            refine sx_widen (k := ce) (n := 36 * ce) (Nat.le_refl _) (by omega) ?_
            exact sx_sub [1, 2, 3, 4, 5, 6, 7, 8, 9, 10, 0, 11, 12] rfl h
          · replace h := h.1 c26
            refine sx_iconst C dL_holds_241 1 (by decide) 242 rfl ?_
            refine sx_goto C dL_holds_242 246 (by decide) ?_
            refine sx_widen (k := ce) (n := 36 * ce) (Nat.le_refl _) (by omega) ?_
            exact sx_sub [1, 2, 3, 4, 5, 6, 7, 8, 9, 10, 0, 11, 12] rfl h)
  replace h := h (by
    intro f a o v10 v12 v13 ce h
    refine sx_iconst C dL_holds_245 0 (by decide) 246 rfl ?_
    refine sx_widen (k := ce) (n := 36 * ce) (Nat.le_refl _) (by omega) ?_
    exact sx_sub [0, 1, 2, 3, 4, 5, 6, 7, 8, 9, 10, 11, 12] rfl h)
  replace h := h (by
    intro f a o v10 v12 v13 s0 ce h
    refine sx_istore C dL_holds_246 [(11, .int s0), (0, .ref bs), (1, .ref (b + 0)), (2, .ref (ad 0)), (3, .ref (ad 1)), (4, .ref (ad 2)), (5, .ref (ad 3)), (6, .ref (ad 4)), (7, .ref (ad 5)), (8, .ref (ad 6)), (9, .ref (ad 7)), (10, .int v10), (12, .int v12), (13, .int v13)] (by decide) rfl 248 rfl ?_
    refine sx_goto C dL_holds_248 442 (by decide) ?_
    refine sx_widen (k := ce) (n := 36 * ce) (Nat.le_refl _) (by omega) ?_
    exact sx_sub [1, 2, 3, 4, 5, 6, 7, 8, 9, 10, 11, 0, 12, 13] rfl h)
  replace h := h (by
    intro f a o v10 v12 v13 v14 ce h
    refine sx_iload C dL_holds_251 13 rfl 253 rfl ?_
    refine sx_iconst C dL_holds_253 1 (by decide) 254 rfl ?_
    refine sx_icmp_ne C dL_holds_254 329 257 (by decide) rfl (fun c27 => ?_) (fun c27 => ?_)
    · replace h := h.2 c27
      refine sx_iload C dL_holds_329 13 rfl 331 rfl ?_
      refine sx_bipush C dL_holds_331 16 (by decide) 333 rfl ?_
      refine sx_icmp_ge C dL_holds_333 380 336 (by decide) rfl (fun c28 => ?_) (fun c28 => ?_)
      · replace h := h.1 c28
        refine sx_aload_n C dL_holds_380 1 1 rfl rfl 381 rfl ?_
        refine sx_aload_n C dL_holds_381 3 3 rfl rfl 382 rfl ?_
        refine sx_aload C dL_holds_382 4 rfl 384 rfl ?_
        refine sx_aload C dL_holds_384 6 rfl 386 rfl ?_
        refine sx_aload C dL_holds_386 7 rfl 388 rfl ?_
        refine sx_aload C dL_holds_388 8 rfl 390 rfl ?_
        refine sx_aload C dL_holds_390 9 rfl 392 rfl ?_
        refine sx_iload C dL_holds_392 13 rfl 394 rfl ?_
        refine sx_bipush C dL_holds_394 18 (by decide) 396 rfl ?_
        refine sx_icmp_ge C dL_holds_396 403 399 (by decide) rfl (fun c29 => ?_) (fun c29 => ?_)
        · replace h := h.1 c29
          refine sx_iload C dL_holds_403 13 rfl 405 rfl ?_
          refine sx_bipush C dL_holds_405 17 (by decide) 407 rfl ?_
          refine sx_isub C dL_holds_407 408 rfl ?_
          refine sx_bipush C dL_holds_408 7 (by decide) 410 rfl ?_
          refine sx_icmp_le C dL_holds_410 430 413 (by decide) rfl (fun c30 => ?_) (fun c30 => ?_)
          · replace h := h.1 c30
            refine sx_iload C dL_holds_430 13 rfl 432 rfl ?_
            refine sx_bipush C dL_holds_432 17 (by decide) 434 rfl ?_
            refine sx_isub C dL_holds_434 435 rfl ?_
            refine sx_widen (k := ce) (n := 36 * ce) (Nat.le_refl _) (by omega) ?_
            exact sx_sub [0, 1, 2, 3, 4, 5, 6, 7, 8, 9, 10, 11, 12] rfl h
          · replace h := h.2 c30
            refine sx_iload C dL_holds_413 13 rfl 415 rfl ?_
            refine sx_iconst C dL_holds_415 2 (by decide) 416 rfl ?_
            refine sx_irem C dL_holds_416 (by decide) 417 rfl ?_
            refine sx_if_ne C dL_holds_417 425 420 (by decide) rfl (fun c31 => ?_) (fun c31 => ?_)
            · replace h := h.2 c31
              refine sx_bipush C dL_holds_425 6 (by decide) 427 rfl ?_
              refine sx_goto C dL_holds_427 435 (by decide) ?_
              refine sx_widen (k := ce) (n := 36 * ce) (Nat.le_refl _) (by omega) ?_
              exact sx_sub [0, 1, 2, 3, 4, 5, 6, 7, 8, 9, 10, 11, 12] rfl h
            · replace h := h.1 c31
              refine sx_bipush C dL_holds_420 8 (by decide) 422 rfl ?_
              refine sx_goto C dL_holds_422 435 (by decide) ?_
              refine sx_widen (k := ce) (n := 36 * ce) (Nat.le_refl _) (by omega) ?_
              exact sx_sub [0, 1, 2, 3, 4, 5, 6, 7, 8, 9, 10, 11, 12] rfl h
        · replace h := h.2 c29
          refine sx_iconst C dL_holds_399 0 (by decide) 400 rfl ?_
          refine sx_goto C dL_holds_400 435 (by decide) ?_
          refine sx_widen (k := ce) (n := 36 * ce) (Nat.le_refl _) (by omega) ?_
          exact sx_sub [0, 1, 2, 3, 4, 5, 6, 7, 8, 9, 10, 11, 12] rfl h
      · replace h := h.2 c28
        refine sx_aload_n C dL_holds_336 1 1 rfl rfl 337 rfl ?_
        refine sx_aload_n C dL_holds_337 2 2 rfl rfl 338 rfl ?_
        refine sx_aload_n C dL_holds_338 3 3 rfl rfl 339 rfl ?_
        refine sx_aload C dL_holds_339 4 rfl 341 rfl ?_
        refine sx_aload C dL_holds_341 5 rfl 343 rfl ?_
        refine sx_aload C dL_holds_343 9 rfl 345 rfl ?_
        refine sx_iload C dL_holds_345 13 rfl 347 rfl ?_
        refine sx_bipush C dL_holds_347 12 (by decide) 349 rfl ?_
        refine sx_icmp_ge C dL_holds_349 356 352 (by decide) rfl (fun c32 => ?_) (fun c32 => ?_)
        · replace h := h.1 c32
          refine sx_iload C dL_holds_356 13 rfl 358 rfl ?_
          refine sx_bipush C dL_holds_358 13 (by decide) 360 rfl ?_
          refine sx_icmp_ge C dL_holds_360 368 363 (by decide) rfl (fun c33 => ?_) (fun c33 => ?_)
          · replace h := h.1 c33
            refine sx_bipush C dL_holds_368 9 (by decide) 370 rfl ?_
            refine sx_widen (k := ce) (n := 36 * ce) (Nat.le_refl _) (by omega) ?_
            exact sx_sub [0, 1, 2, 3, 4, 5, 6, 7, 8, 9, 10, 11, 12] rfl h
          · replace h := h.2 c33
            refine sx_bipush C dL_holds_363 8 (by decide) 365 rfl ?_
            refine sx_goto C dL_holds_365 370 (by decide) ?_
            refine sx_widen (k := ce) (n := 36 * ce) (Nat.le_refl _) (by omega) ?_
            exact sx_sub [0, 1, 2, 3, 4, 5, 6, 7, 8, 9, 10, 11, 12] rfl h
        · replace h := h.2 c32
          refine sx_iconst C dL_holds_352 0 (by decide) 353 rfl ?_
          refine sx_goto C dL_holds_353 370 (by decide) ?_
          refine sx_widen (k := ce) (n := 36 * ce) (Nat.le_refl _) (by omega) ?_
          exact sx_sub [0, 1, 2, 3, 4, 5, 6, 7, 8, 9, 10, 11, 12] rfl h
    · replace h := h.1 c27
      refine sx_aload C dL_holds_257 9 rfl 259 rfl ?_
      refine sx_iconst C dL_holds_259 1 (by decide) 260 rfl ?_
      refine sl_iald C dL_holds_260 (by decide) rfl h.1 261 rfl ?_
      replace h := h.2
      refine sx_topi (fun y34 ey34 => ?_)
      replace h := h y34 ey34
      refine sx_istore C dL_holds_261 [(15, .int y34), (0, .ref bs), (1, .ref (b + 0)), (2, .ref (ad 0)), (3, .ref (ad 1)), (4, .ref (ad 2)), (5, .ref (ad 3)), (6, .ref (ad 4)), (7, .ref (ad 5)), (8, .ref (ad 6)), (9, .ref (ad 7)), (10, .int v10), (12, .int v12), (13, .int v13), (14, .int v14)] (by decide) rfl 263 rfl ?_
      refine sx_aload C dL_holds_263 10 rfl 265 rfl ?_
      refine sx_iconst C dL_holds_265 1 (by decide) 266 rfl ?_
      refine sx_bipush C dL_holds_266 80 (by decide) 268 rfl ?_
      refine sx_iload C dL_holds_268 13 rfl 270 rfl ?_
      refine sx_iload C dL_holds_270 13 rfl 272 rfl ?_
      refine sx_iconst C dL_holds_272 2 (by decide) 273 rfl ?_
      refine sx_irem C dL_holds_273 (by decide) 274 rfl ?_
      refine sx_if_ne C dL_holds_274 282 277 (by decide) rfl (fun c35 => ?_) (fun c35 => ?_)
      · replace h := h.2 c35
        refine sx_sipush C dL_holds_282 421 (by decide) 285 rfl ?_
        refine sx_widen (k := ce) (n := 36 * ce) (Nat.le_refl _) (by omega) ?_
        exact sx_sub [1, 2, 3, 4, 5, 6, 7, 8, 9, 10, 11, 12, 13, 0] rfl h
      · replace h := h.1 c35
        refine sx_bipush C dL_holds_277 60 (by decide) 279 rfl ?_
        refine sx_goto C dL_holds_279 285 (by decide) ?_
        refine sx_widen (k := ce) (n := 36 * ce) (Nat.le_refl _) (by omega) ?_
        exact sx_sub [1, 2, 3, 4, 5, 6, 7, 8, 9, 10, 11, 12, 13, 0] rfl h)
  replace h := h (by
    intro f a o v10 v12 v13 v15 s1 s2 s3 s4 ce h
    refine sx_irem C dL_holds_285 h.1 286 rfl ?_
    replace h := h.2
    refine sx_iadd C dL_holds_286 287 rfl ?_
    refine sl_iast C dL_holds_287 ok hB hA (by decide) rfl h.1 288 rfl (fun a36 ea36 => ?_)
    replace h := h.2 a36 ea36
    refine sx_aload C dL_holds_288 9 rfl 290 rfl ?_
    refine sx_iconst C dL_holds_290 2 (by decide) 291 rfl ?_
    refine sx_iconst C dL_holds_291 1 (by decide) 292 rfl ?_
    refine sx_iload C dL_holds_292 12 rfl 294 rfl ?_
    refine sx_sipush C dL_holds_294 500 (by decide) 297 rfl ?_
    refine sx_idiv C dL_holds_297 (by decide) 298 rfl ?_
    refine sx_iconst C dL_holds_298 3 (by decide) 299 rfl ?_
    refine sx_irem C dL_holds_299 (by decide) 300 rfl ?_
    refine sx_iadd C dL_holds_300 301 rfl ?_
    refine sl_iast C dL_holds_301 ok hB hA (by decide) rfl h.1 302 rfl (fun a37 ea37 => ?_)
    replace h := h.2 a37 ea37
    refine sx_aload_n C dL_holds_302 1 1 rfl rfl 303 rfl ?_
    refine sx_aload C dL_holds_303 9 rfl 305 rfl ?_
    refine sx_iconst C dL_holds_305 1 (by decide) 306 rfl ?_
    refine sl_iald C dL_holds_306 (by decide) rfl h.1 307 rfl ?_
    replace h := h.2
    refine sx_aload C dL_holds_307 9 rfl 309 rfl ?_
    refine sx_iconst C dL_holds_309 2 (by decide) 310 rfl ?_
    refine sl_iald C dL_holds_310 (by decide) rfl h.1 311 rfl ?_
    replace h := h.2
    obtain ⟨hce, h⟩ := h
    refine sl_callX C ok hB (st := []) dL_holds_311 (c0_X6_setPaper hf h) mi_X6_setPaper lk_L_235 mn_X6_setPaper ms_X6_setPaper (by decide) lyX_0 rfl rfl rfl rfl ⟨⟨(Nat.le_of_ble_eq_true rfl), (Nat.le_of_ble_eq_true rfl)⟩, hce, (by dsimp only; omega)⟩ (Nat.le_of_ble_eq_true rfl) 314 rfl (fun v g39 h => ?_)
    obtain ⟨r38, rfl, h⟩ := h
    refine sx_widen (k := ce) (n := 36 * ce) (Nat.le_refl _) (by omega) ?_
    refine sx_iload C dL_holds_314 13 rfl 316 rfl ?_
    refine sx_icmp_ne C dL_holds_316 323 319 (by decide) rfl (fun c40 => ?_) (fun c40 => ?_)
    · replace h := h.2 c40
      refine sx_iconst C dL_holds_323 0 (by decide) 324 rfl ?_
      refine sx_widen (k := ce) (n := 36 * ce) (Nat.le_refl _) (by omega) ?_
      exact sx_sub [0, 1, 2, 3, 4, 5, 6, 7, 8, 9, 10, 11, 12] rfl h
    · replace h := h.1 c40
      refine sx_iconst C dL_holds_319 1 (by decide) 320 rfl ?_
      refine sx_goto C dL_holds_320 324 (by decide) ?_
      refine sx_widen (k := ce) (n := 36 * ce) (Nat.le_refl _) (by omega) ?_
      exact sx_sub [0, 1, 2, 3, 4, 5, 6, 7, 8, 9, 10, 11, 12] rfl h)
  replace h := h (by
    intro f a o v10 v12 v13 s0 ce h
    refine sx_istore C dL_holds_324 [(11, .int s0), (0, .ref bs), (1, .ref (b + 0)), (2, .ref (ad 0)), (3, .ref (ad 1)), (4, .ref (ad 2)), (5, .ref (ad 3)), (6, .ref (ad 4)), (7, .ref (ad 5)), (8, .ref (ad 6)), (9, .ref (ad 7)), (10, .int v10), (12, .int v12), (13, .int v13)] (by decide) rfl 326 rfl ?_
    refine sx_goto C dL_holds_326 442 (by decide) ?_
    refine sx_widen (k := ce) (n := 36 * ce) (Nat.le_refl _) (by omega) ?_
    exact sx_sub [1, 2, 3, 4, 5, 6, 7, 8, 9, 10, 11, 0, 12, 13] rfl h)
  replace h := h (by
    intro f a o v10 v12 v13 s6 ce h
    refine sx_iload C dL_holds_370 12 rfl 372 rfl ?_
    obtain ⟨hce, h⟩ := h
    refine sl_callS C hB hA (st := []) dL_holds_372 (c_L_isNoted hf ok (by decide) h) mi_L_isNoted lk_L_238 mt_L_isNoted rfl rfl ⟨⟨(Nat.le_of_ble_eq_true rfl), (Nat.le_of_ble_eq_true rfl)⟩, hce, (by dsimp only; omega)⟩ (Nat.le_of_ble_eq_true rfl) 375 rfl (fun v g42 a42 o42 h => ?_)
    obtain ⟨r41, rfl, h⟩ := h
    dsimp only at h
    refine sx_istore C dL_holds_375 [(11, .int r41), (0, .ref bs), (1, .ref (b + 0)), (2, .ref (ad 0)), (3, .ref (ad 1)), (4, .ref (ad 2)), (5, .ref (ad 3)), (6, .ref (ad 4)), (7, .ref (ad 5)), (8, .ref (ad 6)), (9, .ref (ad 7)), (10, .int v10), (12, .int v12), (13, .int v13)] (by decide) rfl 377 rfl ?_
    refine sx_goto C dL_holds_377 442 (by decide) ?_
    refine sx_widen (k := (ce + 5)) (n := 36 * (ce + 5)) (Nat.le_refl _) (by omega) ?_
    exact sx_sub [1, 2, 3, 4, 5, 6, 7, 8, 9, 10, 11, 0, 12, 13] rfl h)
  replace h := h (by
    intro f a o v10 v12 v13 s7 ce h
    refine sx_iload C dL_holds_435 12 rfl 437 rfl ?_
    obtain ⟨hce, h⟩ := h
    refine sl_callS C hB hA (st := []) dL_holds_437 (c_L_isCopied hf ok (by decide) h) mi_L_isCopied lk_L_242 mt_L_isCopied rfl rfl ⟨⟨(Nat.le_of_ble_eq_true rfl), (Nat.le_of_ble_eq_true rfl)⟩, hce, (by dsimp only; omega)⟩ (Nat.le_of_ble_eq_true rfl) 440 rfl (fun v g44 a44 o44 h => ?_)
    obtain ⟨r43, rfl, h⟩ := h
    dsimp only at h
    refine sx_istore C dL_holds_440 [(11, .int r43), (0, .ref bs), (1, .ref (b + 0)), (2, .ref (ad 0)), (3, .ref (ad 1)), (4, .ref (ad 2)), (5, .ref (ad 3)), (6, .ref (ad 4)), (7, .ref (ad 5)), (8, .ref (ad 6)), (9, .ref (ad 7)), (10, .int v10), (12, .int v12), (13, .int v13)] (by decide) rfl 442 rfl ?_
    refine sx_widen (k := (ce + 8)) (n := 36 * (ce + 8)) (Nat.le_refl _) (by omega) ?_
    exact sx_sub [1, 2, 3, 4, 5, 6, 7, 8, 9, 10, 11, 0, 12, 13] rfl h)
  replace h := h (by
    intro f a o v10 v11 v12 v13 ce h
    refine sx_iload C dL_holds_442 11 rfl 444 rfl ?_
    refine sx_if_eq C dL_holds_444 511 447 (by decide) rfl (fun c45 => ?_) (fun c45 => ?_)
    · replace h := h.1 c45
      refine sx_widen (k := ce) (n := 36 * ce) (Nat.le_refl _) (by omega) ?_
      exact sx_sub [0, 1, 2, 3, 4, 5, 6, 7, 8, 9, 10, 12] rfl h
    · replace h := h.2 c45
      refine sx_iload C dL_holds_447 12 rfl 449 rfl ?_
      refine sx_iconst C dL_holds_449 4 (by decide) 450 rfl ?_
      refine sx_irem C dL_holds_450 (by decide) 451 rfl ?_
      refine sx_iconst C dL_holds_451 3 (by decide) 452 rfl ?_
      refine sx_icmp_lt C dL_holds_452 475 455 (by decide) rfl (fun c46 => ?_) (fun c46 => ?_)
      · replace h := h.1 c46
        refine sx_widen (k := ce) (n := 36 * ce) (Nat.le_refl _) (by omega) ?_
        exact sx_sub [0, 1, 2, 3, 4, 5, 6, 7, 8, 9, 10, 12, 13] rfl h
      · replace h := h.2 c46
        refine sx_aload_n C dL_holds_455 1 1 rfl rfl 456 rfl ?_
        refine sx_aload_n C dL_holds_456 3 3 rfl rfl 457 rfl ?_
        refine sx_aload C dL_holds_457 4 rfl 459 rfl ?_
        refine sx_aload C dL_holds_459 6 rfl 461 rfl ?_
        refine sx_aload C dL_holds_461 7 rfl 463 rfl ?_
        refine sx_aload C dL_holds_463 8 rfl 465 rfl ?_
        refine sx_aload C dL_holds_465 9 rfl 467 rfl ?_
        refine sx_iload C dL_holds_467 13 rfl 469 rfl ?_
        obtain ⟨hce, h⟩ := h
        refine sl_callS C hB hA (st := []) dL_holds_469 (c_L_areCopies hf ok (by decide) h) mi_L_areCopies lk_L_246 mt_L_areCopies rfl rfl ⟨⟨(Nat.le_of_ble_eq_true rfl), (Nat.le_of_ble_eq_true rfl)⟩, hce, (by dsimp only; omega)⟩ (Nat.le_of_ble_eq_true rfl) 472 rfl (fun v g48 a49 o50 h => ?_)
        obtain ⟨⟨r47, rfl, h⟩, e9⟩ := h
        cases e9
        refine sx_widen (k := ce) (n := 36 * ce) (Nat.le_refl _) (by omega) ?_
        refine sx_if_eq C dL_holds_472 511 475 (by decide) rfl (fun c51 => ?_) (fun c51 => ?_)
        · replace h := h.1 c51
          refine sx_widen (k := ce) (n := 36 * ce) (Nat.le_refl _) (by omega) ?_
          exact sx_sub [0, 1, 2, 3, 4, 5, 6, 7, 8, 9, 10, 12] rfl h
        · replace h := h.2 c51
          refine sx_widen (k := ce) (n := 36 * ce) (Nat.le_refl _) (by omega) ?_
          exact sx_sub [0, 1, 2, 3, 4, 5, 6, 7, 8, 9, 10, 12, 13] rfl h)
  replace h := h (by
    intro f a o v10 v12 v13 ce h
    refine sx_iload C dL_holds_475 11 rfl 477 rfl ?_
    refine sx_bipush C dL_holds_477 6 (by decide) 479 rfl ?_
    refine sx_irem C dL_holds_479 (by decide) 480 rfl ?_
    refine sx_iconst C dL_holds_480 5 (by decide) 481 rfl ?_
    refine sx_icmp_lt C dL_holds_481 507 484 (by decide) rfl (fun c52 => ?_) (fun c52 => ?_)
    · replace h := h.1 c52
      refine sx_widen (k := ce) (n := 36 * ce) (Nat.le_refl _) (by omega) ?_
      exact sx_sub [0, 1, 2, 3, 4, 5, 6, 7, 8, 9, 10, 11] rfl h
    · replace h := h.2 c52
      refine sx_aload_n C dL_holds_484 1 1 rfl rfl 485 rfl ?_
      refine sx_aload_n C dL_holds_485 2 2 rfl rfl 486 rfl ?_
      refine sx_aload_n C dL_holds_486 3 3 rfl rfl 487 rfl ?_
      refine sx_aload C dL_holds_487 5 rfl 489 rfl ?_
      refine sx_aload C dL_holds_489 9 rfl 491 rfl ?_
      refine sx_iload C dL_holds_491 12 rfl 493 rfl ?_
      refine sx_bipush C dL_holds_493 7 (by decide) 495 rfl ?_
      refine sx_idiv C dL_holds_495 (by decide) 496 rfl ?_
      refine sx_bipush C dL_holds_496 6 (by decide) 498 rfl ?_
      refine sx_irem C dL_holds_498 (by decide) 499 rfl ?_
      refine sx_iload C dL_holds_499 12 rfl 501 rfl ?_
      obtain ⟨hce, h⟩ := h
      refine sl_callS C hB hA (st := []) dL_holds_501 (c_L_isBook hf ok h) mi_L_isBook lk_L_250 mt_L_isBook rfl rfl ⟨⟨(Nat.le_of_ble_eq_true rfl), (Nat.le_of_ble_eq_true rfl)⟩, hce, (by dsimp only; omega)⟩ (Nat.le_of_ble_eq_true rfl) 504 rfl (fun v g54 a54 o54 h => ?_)
      obtain ⟨r53, rfl, h⟩ := h
      dsimp only at h
      refine sx_if_eq C dL_holds_504 511 507 (by decide) rfl (fun c55 => ?_) (fun c55 => ?_)
      · replace h := h.1 c55
        refine sx_widen (k := (ce + 301)) (n := 36 * (ce + 301)) (Nat.le_refl _) (by omega) ?_
        exact sx_sub [0, 1, 2, 3, 4, 5, 6, 7, 8, 9, 10, 11] rfl h
      · replace h := h.2 c55
        refine sx_widen (k := (ce + 301)) (n := 36 * (ce + 301)) (Nat.le_refl _) (by omega) ?_
        exact sx_sub [0, 1, 2, 3, 4, 5, 6, 7, 8, 9, 10, 11] rfl h)
  replace h := h (by
    intro f a o v10 v12 ce h
    refine sx_iconst C dL_holds_507 1 (by decide) 508 rfl ?_
    refine sx_goto C dL_holds_508 512 (by decide) ?_
    refine sx_widen (k := ce) (n := 36 * ce) (Nat.le_refl _) (by omega) ?_
    exact sx_sub [0, 1, 2, 3, 4, 5, 6, 7, 8, 9, 10, 11] rfl h)
  replace h := h (by
    intro f a o v10 v12 ce h
    refine sx_iconst C dL_holds_511 0 (by decide) 512 rfl ?_
    refine sx_widen (k := ce) (n := 36 * ce) (Nat.le_refl _) (by omega) ?_
    exact sx_sub [0, 1, 2, 3, 4, 5, 6, 7, 8, 9, 10, 11] rfl h)
  replace h := h (by
    intro f a o v10 v12 s0 ce h
    refine sx_istore C dL_holds_512 [(11, .int s0), (0, .ref bs), (1, .ref (b + 0)), (2, .ref (ad 0)), (3, .ref (ad 1)), (4, .ref (ad 2)), (5, .ref (ad 3)), (6, .ref (ad 4)), (7, .ref (ad 5)), (8, .ref (ad 6)), (9, .ref (ad 7)), (10, .int v10), (12, .int v12)] (by decide) rfl 514 rfl ?_
    obtain ⟨y56, ey56⟩ : ∃ w : Int32, w = v12 + 1 := ⟨_, rfl⟩
    replace h := h y56 ey56
    refine sx_iinc C dL_holds_514 12 rfl y56 (by rw [ey56]; rfl) [(12, .int y56), (11, .int s0), (0, .ref bs), (1, .ref (b + 0)), (2, .ref (ad 0)), (3, .ref (ad 1)), (4, .ref (ad 2)), (5, .ref (ad 3)), (6, .ref (ad 4)), (7, .ref (ad 5)), (8, .ref (ad 6)), (9, .ref (ad 7)), (10, .int v10)] (by decide) rfl 517 rfl ?_
    refine sx_goto C dL_holds_517 74 (by decide) ?_
    refine sx_widen (k := ce) (n := 36 * ce) (Nat.le_refl _) (by omega) ?_
    exact sx_sub [2, 3, 4, 5, 6, 7, 8, 9, 10, 11, 12, 1, 0] rfl h)
  replace h := h (by
    intro f a o v11 ce h
    refine sx_iconst C dL_holds_520 0 (by decide) 521 rfl ?_
    refine sx_istore C dL_holds_521 [(12, .int 0), (1, .ref (b + 0)), (2, .ref (ad 0)), (3, .ref (ad 1)), (5, .ref (ad 3)), (9, .ref (ad 7)), (11, .int v11)] (by decide) rfl 523 rfl ?_
    refine sx_widen (k := ce) (n := 36 * ce) (Nat.le_refl _) (by omega) ?_
    exact sx_sub [1, 2, 3, 4, 5, 6, 0] rfl h)
  replace h := h (by
    intro f a o v11 v12 ce h
    refine sx_iload C dL_holds_523 6 rfl 525 rfl ?_
    refine sx_bipush C dL_holds_525 6 (by decide) 527 rfl ?_
    refine sx_icmp_ge C dL_holds_527 557 530 (by decide) rfl (fun c57 => ?_) (fun c57 => ?_)
    · replace h := h.1 c57
      refine sx_iload C dL_holds_557 5 rfl 559 rfl ?_
      obtain ⟨hce, h⟩ := h
      refine sh_leave ?_
      rw [h]
      exact sx_zret C dL_holds_559 hr hce (by omega) (Or.inr rfl) rfl
    · replace h := h.2 c57
      refine sx_iload C dL_holds_530 5 rfl 532 rfl ?_
      refine sx_if_eq C dL_holds_532 557 535 (by decide) rfl (fun c58 => ?_) (fun c58 => ?_)
      · replace h := h.1 c58
        refine sx_iload C dL_holds_557 5 rfl 559 rfl ?_
        obtain ⟨hce, h⟩ := h
        refine sh_leave ?_
        rw [h]
        exact sx_zret C dL_holds_559 hr hce (by omega) (Or.inr rfl) rfl
      · replace h := h.2 c58
        refine sx_aload_n C dL_holds_535 1 0 rfl rfl 536 rfl ?_
        refine sx_aload_n C dL_holds_536 2 1 rfl rfl 537 rfl ?_
        refine sx_aload_n C dL_holds_537 3 2 rfl rfl 538 rfl ?_
        refine sx_aload C dL_holds_538 3 rfl 540 rfl ?_
        refine sx_aload C dL_holds_540 4 rfl 542 rfl ?_
        refine sx_iload C dL_holds_542 6 rfl 544 rfl ?_
        refine sx_iload C dL_holds_544 6 rfl 546 rfl ?_
        obtain ⟨hce, h⟩ := h
        refine sl_callS C hB hA (st := []) dL_holds_546 (c_L_isBook hf ok h) mi_L_isBook lk_L_250 mt_L_isBook rfl rfl ⟨⟨(Nat.le_of_ble_eq_true rfl), (Nat.le_of_ble_eq_true rfl)⟩, hce, (by dsimp only; omega)⟩ (Nat.le_of_ble_eq_true rfl) 549 rfl (fun v g60 a60 o60 h => ?_)
        obtain ⟨r59, rfl, h⟩ := h
        dsimp only at h
        refine sx_istore C dL_holds_549 [(11, .int r59), (1, .ref (b + 0)), (2, .ref (ad 0)), (3, .ref (ad 1)), (5, .ref (ad 3)), (9, .ref (ad 7)), (12, .int v12)] (by decide) rfl 551 rfl ?_
        obtain ⟨y61, ey61⟩ : ∃ w : Int32, w = v12 + 1 := ⟨_, rfl⟩
        replace h := h y61 ey61
        refine sx_iinc C dL_holds_551 6 rfl y61 (by rw [ey61]; rfl) [(12, .int y61), (11, .int r59), (1, .ref (b + 0)), (2, .ref (ad 0)), (3, .ref (ad 1)), (5, .ref (ad 3)), (9, .ref (ad 7))] (by decide) rfl 554 rfl ?_
        refine sx_goto C dL_holds_554 523 (by decide) ?_
        refine sx_widen (k := (ce + 301)) (n := 36 * (ce + 301)) (Nat.le_refl _) (by omega) ?_
        exact sx_sub [2, 3, 4, 5, 6, 1, 0] rfl h)
  refine sx_iconst C dL_holds_53 0 (by decide) 54 rfl ?_
  refine sx_istore C dL_holds_54 [(10, .int 0), (0, .ref bs), (1, .ref (b + 0)), (2, .ref (ad 0)), (3, .ref (ad 1)), (4, .ref (ad 2)), (5, .ref (ad 3)), (6, .ref (ad 4)), (7, .ref (ad 5)), (8, .ref (ad 6)), (9, .ref (ad 7))] (by decide) rfl 56 rfl ?_
  refine sx_iconst C dL_holds_56 1 (by decide) 57 rfl ?_
  refine sx_istore C dL_holds_57 [(11, .int 1), (10, .int 0), (0, .ref bs), (1, .ref (b + 0)), (2, .ref (ad 0)), (3, .ref (ad 1)), (4, .ref (ad 2)), (5, .ref (ad 3)), (6, .ref (ad 4)), (7, .ref (ad 5)), (8, .ref (ad 6)), (9, .ref (ad 7))] (by decide) rfl 59 rfl ?_
  refine sx_aload C dL_holds_59 11 rfl 61 rfl ?_
  refine sx_iconst C dL_holds_61 1 (by decide) 62 rfl ?_
  refine sx_sipush C dL_holds_62 200 (by decide) 65 rfl ?_
  refine sl_iast C dL_holds_65 ok hB hA (by decide) rfl h.1 66 rfl (fun a62 ea62 => ?_)
  replace h := h.2 a62 ea62
  refine sx_aload C dL_holds_66 11 rfl 68 rfl ?_
  refine sx_iconst C dL_holds_68 2 (by decide) 69 rfl ?_
  refine sx_iconst C dL_holds_69 3 (by decide) 70 rfl ?_
  refine sl_iast C dL_holds_70 ok hB hA (by decide) rfl h.1 71 rfl (fun a63 ea63 => ?_)
  replace h := h.2 a63 ea63
  refine sx_iconst C dL_holds_71 0 (by decide) 72 rfl ?_
  refine sx_istore C dL_holds_72 [(12, .int 0), (11, .int 1), (10, .int 0), (0, .ref bs), (1, .ref (b + 0)), (2, .ref (ad 0)), (3, .ref (ad 1)), (4, .ref (ad 2)), (5, .ref (ad 3)), (6, .ref (ad 4)), (7, .ref (ad 5)), (8, .ref (ad 6)), (9, .ref (ad 7))] (by decide) rfl 74 rfl ?_
  refine sx_widen (k := 200) (n := 36 * 200) (Nat.le_refl _) (by omega) ?_
  exact sx_sub [3, 4, 5, 6, 7, 8, 9, 10, 11, 12, 2, 1, 0] rfl h
