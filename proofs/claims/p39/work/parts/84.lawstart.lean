set_option maxRecDepth 100000 in
set_option maxHeartbeats 8000000 in
theorem whole_start {p : Program} {e : Env} {s : State} {m : MethodId} {below : List Frame} {meth : Method} {c : Code} (l : Launch) (hflags : l.flags = flags0) {b L : Nat} {xs : Nat → Int32} (hL : L ≤ 260) (C0 : lw_At p s m meth c b L xs) : W p l e room_1 s m #[Value.ref b] below meth c s.heap [] 0 0 (lw_Z below #[Value.ref b] s) (entryFrame m ([Value.ref b] : List Value).toArray 1) := by
  obtain ⟨hx, hb, hr, hml, hown, hts, hX, hbl, hlocks, hgv⟩ := C0
  have hf : l.stackTraces = false := by unfold Launch.stackTraces; rw [hflags]; decide
  obtain ⟨D, G, hV⟩ := z_facts hts hgv
  have C : sx_Cx p l s m #[.ref b] meth c D G (sx_AC s.heap.size) cL_law 1 RL := ⟨hx, hb, hml, hown, fun w hw => hts w (List.mem_filter.mp hw).1, fun q hq => hq, hlocks, hf, hV⟩
  rw [lg_entry_eq]
  exact law_start hf hL C hr hX hbl k_holds s.heap [] _ trivial va_S.rf (lv_entry [.ref b] (Nat.le_of_ble_eq_true rfl))
