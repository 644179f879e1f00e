theorem z_Pl {D : va_G} {cl : List vw_C} {a b : va_W} {H : Heap} (h : va_P D cl (a ++ b) H) : va_P D cl a H := fun k q hk => h k q (by rw [List.getElem?_append_left (List.getElem?_eq_some_iff.mp hk).1]; exact hk)
theorem z_Pr {D : va_G} {cl : List vw_C} {a b : va_W} {H : Heap} (h : va_P D cl (a ++ b) H) : va_P D cl b H := fun k q hk => h (a.length + k) q (by rw [List.getElem?_append_right (by omega), show a.length + k - a.length = k by omega]; exact hk)
set_option maxRecDepth 100000 in
set_option maxHeartbeats 8000000 in
theorem whole_start {p : Program} {e : Env} {s : State} {m : MethodId} {below : List Frame} {meth : Method} {c : Code} (l : Launch) (hflags : l.flags = flags0) {b L : Nat} {xs : Nat → Int32} (hL : L ≤ 2560) (C0 : lw_At p s m meth c b L xs) : W p l e room_1 s m #[Value.ref b] below meth c s.heap [] 0 0 (lw_Z below #[Value.ref b] s) (entryFrame m ([Value.ref b] : List Value).toArray 7) := by
  obtain ⟨hx, hb, hr, hml, hown, hts, hX, hbl, hlocks, hgv⟩ := C0
  have hf : l.stackTraces = false := by unfold Launch.stackTraces; rw [hflags]; decide
  obtain ⟨D, G, hV, hNC⟩ := z_facts hts hgv
  have C : sx_Cx p l s m #[.ref b] meth c D G (sx_AC s.heap.size) cL_law 7 RL := ⟨hx, hb, hml, hown, fun w hw => hts w (List.mem_filter.mp hw).1, fun q hq => hq, hlocks, hf, hV⟩
  rw [lg_entry_eq]
  refine (show sx_J (sx_wc D s.heap.size) p l e room_1 s m #[.ref b] below meth c (sx_AC s.heap.size) 7 0 0 (lw_Z below #[Value.ref b] s) [] 0 (lv_args 0 [.ref b]) [] from ?_) s.heap [] _ ⟨fun k q h => by simp at h, rfl, fun k q h => by simp at h⟩ va_S.rf (lv_entry [.ref b] (Nat.le_of_ble_eq_true rfl))
  refine sx_sub (lv' := [(0, .ref b)]) [0] rfl ?_
  refine sx_knew C dL_law_0 inw_X6 tyX6 tyX6_ok rfl lkc_L_8 ins_X6.1 ins_X6.2 dfl_X6 ⟨(Nat.le_of_ble_eq_true rfl), (Nat.le_of_ble_eq_true rfl)⟩ 0 rfl [(s.heap.size + 0, .inr (6, [.null, .null, .null, .null, .null, .int 0, .int 0]))] rfl 3 rfl ?_
  refine sx_dup C dL_law_3 rfl 4 rfl ?_
  refine sx_kinit C (st := [.ref (s.heap.size + 0)]) (w0 := []) dL_law_4 0 (c_X6_initW hf (s.heap.size + 0)) mi_X6_init "" (Or.inl lk_L_119) mn_X6_init rfl rfl rfl ⟨⟨(Nat.le_of_ble_eq_true rfl), (Nat.le_of_ble_eq_true rfl)⟩, (Nat.le_of_ble_eq_true rfl), (Nat.le_of_ble_eq_true rfl)⟩ (Nat.le_of_ble_eq_true rfl) rfl rfl (sx_w G s.heap.size lyX 129 fX0) rfl 7 rfl ?_
  refine sx_astore_n C dL_law_7 1 rfl [(1, .ref (s.heap.size + 0)), (0, .ref b)] (by decide) rfl 8 rfl ?_
  refine sx_knew C dL_law_8 inw_X7 tyX7 tyX7_ok rfl lkc_L_120 ins_X7.1 ins_X7.2 dfl_X7 ⟨(Nat.le_of_ble_eq_true rfl), (Nat.le_of_ble_eq_true rfl)⟩ 129 sx_len (sx_w G s.heap.size lyX 129 fX0 ++ [(s.heap.size + 129, .inr (7, [.null, .null, .null, .null, .null, .int 0, .int 0, .int 0, .null, .null, .null, .int 0, .int 0, .null, .null, .null, .null, .null, .null, .null, .int 0, .null, .null, .null, .null, .null, .null, .null, .null, .null, .null, .int 0, .int 0, .int 0]))]) rfl 11 rfl ?_
  refine sx_dup C dL_law_11 rfl 12 rfl ?_
  refine sx_kinit C (st := [.ref (s.heap.size + 129)]) (w0 := sx_w G s.heap.size lyX 129 fX0) dL_law_12 129 (c_X7_initW hf (s.heap.size + 129)) mi_X7_init "" (Or.inl lk_L_122) mn_X7_init rfl rfl rfl ⟨⟨(Nat.le_of_ble_eq_true rfl), (Nat.le_of_ble_eq_true rfl)⟩, (Nat.le_of_ble_eq_true rfl), (Nat.le_of_ble_eq_true rfl)⟩ (Nat.le_of_ble_eq_true rfl) rfl sx_len (sx_w G s.heap.size lyX 129 fX0 ++ sx_w G (s.heap.size + 129) lyM 26 fM0) rfl 15 rfl ?_
  refine sx_astore_n C dL_law_15 2 rfl [(2, .ref (s.heap.size + 129)), (1, .ref (s.heap.size + 0)), (0, .ref b)] (by decide) rfl 16 rfl ?_
  refine sx_iconst C dL_law_16 1 (by decide) 17 rfl ?_
  refine sx_knewa C (atype := .long) dL_law_17 rfl arc_long 4 rfl (fun _ h => by cases h) (a0 := (1, .inr (.inl (fun _ => 0)))) (fun _ => rfl) (by decide) rfl (Nat.le_of_ble_eq_true rfl) ⟨(Nat.le_of_ble_eq_true rfl), (Nat.le_of_ble_eq_true rfl)⟩ 155 (by rw [List.length_append, sx_len, sx_len]) (sx_w G s.heap.size lyX 129 fX0 ++ sx_w G (s.heap.size + 129) lyM 26 fM0 ++ [(s.heap.size + 155, .inl (G.2 3, 1, .inr (.inl (fun _ => 0))))]) rfl 19 rfl ?_
  refine sx_astore_n C dL_law_19 3 rfl [(3, .ref (s.heap.size + 155)), (2, .ref (s.heap.size + 129)), (1, .ref (s.heap.size + 0)), (0, .ref b)] (by decide) rfl 20 rfl ?_
  refine sx_iconst C dL_law_20 0 (by decide) 21 rfl ?_
  refine sx_istore C dL_law_21 [(4, .int 0), (3, .ref (s.heap.size + 155)), (2, .ref (s.heap.size + 129)), (1, .ref (s.heap.size + 0)), (0, .ref b)] (by decide) rfl 23 rfl ?_
  refine sx_sub (lv' := [(0, .ref b), (1, .ref (s.heap.size + 0)), (2, .ref (s.heap.size + 129)), (3, .ref (s.heap.size + 155)), (4, .int 0)]) [4, 3, 2, 1, 0] rfl ?_
  have hloop := law_loop (p := p) (e := e) (below := below) (b1 := s.heap.size) (b2 := s.heap.size + 129) (bo := s.heap.size + 155) hf C hNC (fun k _ => Nat.le_add_right _ _) (fun k _ => Nat.le_trans (Nat.le_add_right _ 129) (Nat.le_add_right _ _)) (Nat.le_add_right _ _) (Nat.le_refl _) (Nat.le_refl _) hX hbl (Nat.not_le.mpr hbl) hL rfl hr 513 0
  exact fun H locs ls hP hS hl => hloop _ _ fX0 fM0 (fun _ => 0) z_start rfl (Nat.le_of_ble_eq_true rfl) (Nat.le_of_ble_eq_true rfl) H locs ls ⟨z_Pl (z_Pl hP.1), z_Pr (z_Pl hP.1), z_Pr hP.1⟩ hS hl
