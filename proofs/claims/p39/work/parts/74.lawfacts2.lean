/-! WHAT HOLDS AT THE LAW'S ENTRY -/
theorem z_K8 {s : State} {args : Array Value} (hts : ∀ w ∈ lw_tbl, w.before args s = true) : ∃ D : va_G, ∀ (c : Nat) (q : vw_C), vwCl[c]? = some q → u_Kn s q.1 q.2.1 q.2.2 (D.1 c) (D.2 c) := by
  have hw : ∀ w ∈ sx_ws, w.before args s = true := fun w hw => hts w (List.mem_filter.mp hw).1
  obtain ⟨c0, i0, h0⟩ := u_known hw inw_X0 (hw (.instantiable RX0 9) (by decide +kernel))
  obtain ⟨c1, i1, h1⟩ := u_known hw inw_X1 (hw (.instantiable RX1 4) (by decide +kernel))
  obtain ⟨c2, i2, h2⟩ := u_known hw inw_X2 (hw (.instantiable RX2 4) (by decide +kernel))
  obtain ⟨c3, i3, h3⟩ := u_known hw inw_X3 (hw (.instantiable RX3 11) (by decide +kernel))
  obtain ⟨c4, i4, h4⟩ := u_known hw inw_X4 (hw (.instantiable RX4 7) (by decide +kernel))
  obtain ⟨c5, i5, h5⟩ := u_known hw inw_X5 (hw (.instantiable RX5 5) (by decide +kernel))
  obtain ⟨c6, i6, h6⟩ := u_known hw inw_X6 (hw (.instantiable RX6 7) (by decide +kernel))
  refine ⟨(fun k => if k = 0 then c0 else if k = 1 then c1 else if k = 2 then c2 else if k = 3 then c3 else if k = 4 then c4 else if k = 5 then c5 else c6, fun k => if k = 0 then i0 else if k = 1 then i1 else if k = 2 then i2 else if k = 3 then i3 else if k = 4 then i4 else if k = 5 then i5 else i6), fun c q hq => ?_⟩
  match c, hq with
  | 0, hq => cases hq; exact h0
  | 1, hq => cases hq; exact h1
  | 2, hq => cases hq; exact h2
  | 3, hq => cases hq; exact h3
  | 4, hq => cases hq; exact h4
  | 5, hq => cases hq; exact h5
  | 6, hq => cases hq; exact h6
  | k + 7, hq => simp [vwCl] at hq
theorem z_G5 {s : State} {args : Array Value} (hts : ∀ w ∈ lw_tbl, w.before args s = true) : ∃ G : sx_G, ∀ (k : Nat) (q : ClassId × FieldType), (sx_tys G)[k]? = some q → ArrOfT s q.1 q.2 ∧ va_RA s q.1 q.2 := by
  have hw : ∀ w ∈ sx_ws, w.before args s = true := fun w hw => hts w (List.mem_filter.mp hw).1
  have hn : ∀ w ∈ sx_nw, w.before args s = true := fun w hw => hts w (List.mem_filter.mp hw).1
  obtain ⟨aI, kI, pI, hI1, hI2, hI3⟩ := Cond.arrayClass_spec (hw _ arc_int)
  obtain ⟨aL, kL, pL, hL1, hL2, hL3⟩ := Cond.arrayClass_spec (hw _ arc_long)
  obtain ⟨pC, aC, kC, hC1, -, hC2, hC3, hC4⟩ := Cond.arrayOver_spec (hn _ aro_X1)
  obtain ⟨pD, aD, kD, hD1, -, hD2, hD3, hD4⟩ := Cond.arrayOver_spec (hn _ aro_X2)
  obtain ⟨pA, aA, kA, hA1, hA2, hA3, hA4⟩ := Cond.arrayOver_specA (hn _ aro_int)
  refine ⟨(aI, fun k => if k = 0 then aC else if k = 1 then aD else if k = 2 then aA else aL), fun k q hq => ?_⟩
  match k, hq with
  | 0, hq => cases hq; exact ⟨fun n z => ⟨(fun k h => by cases h), kI, hI2, pI, hI3⟩, hI1⟩
  | 1, hq => cases hq; exact ⟨fun n z => ⟨(fun k h => by cases h), kC, hC2, pC, hC3⟩, kC, pC, hC2, hC3, hC1, hC4⟩
  | 2, hq => cases hq; exact ⟨fun n z => ⟨(fun k h => by cases h), kD, hD2, pD, hD3⟩, kD, pD, hD2, hD3, hD1, hD4⟩
  | 3, hq => cases hq; exact ⟨fun n z => ⟨(fun k h => by cases h), kA, hA2, pA, hA3⟩, hA4⟩
  | 4, hq => cases hq; exact ⟨fun n z => ⟨(fun k h => by cases h), kL, hL2, pL, hL3⟩, hL1⟩
  | k + 5, hq => simp [sx_tys] at hq
theorem z_Nw {s : State} {args : Array Value} (hts : ∀ w ∈ lw_tbl, w.before args s = true) : sx_N s := fun w hw => by
  have h := hts w (List.mem_filter.mp hw).1
  have hg := (List.mem_filter.mp hw).2
  cases w with
  | fieldLinkNest a i b n d h1 => exact h
  | methodLinkNest a i x h1 => exact h
  | declares x => exact h
  | castable a b => exact h
  | arrayOver ty =>
    cases ty with
    | object C => exact h
    | array t => exact h
    | _ => simp [sx_kw] at hg
  | _ => simp [sx_kw] at hg
theorem z_str1 : ∀ q ∈ sx_str, Cond.stringRef q.1 q.2.1 q.2.2 ∈ lw_tbl := by decide +kernel
theorem z_str2 : ∀ q ∈ sx_str, Cond.exactly (.string q.1 q.2.1) "java/lang/String" ∈ flatC (Jvm.Cond.and given_1 narrow_1) := by decide +kernel
theorem z_St {s : State} {args : Array Value} (hts : ∀ w ∈ lw_tbl, w.before args s = true) (hgv : (Jvm.Cond.and given_1 narrow_1).before args s = true) : sx_S s := fun q hq => by
  obtain ⟨a, -, -, -, h1, -⟩ := Cond.exactly_spec (flat_of_before _ hgv _ (z_str2 q hq))
  exact ⟨a, vk_R.of (hts _ (z_str1 q hq)) h1⟩
theorem z_facts {s : State} {args : Array Value} (hts : ∀ w ∈ lw_tbl, w.before args s = true) (hgv : (Jvm.Cond.and given_1 narrow_1).before args s = true) : ∃ (D : va_G) (G : sx_G), sx_V D G (sx_AC s.heap.size) s s.heap := by
  obtain ⟨D, hD⟩ := z_K8 hts
  obtain ⟨G, hG⟩ := z_G5 hts
  have hs := flat_of_before _ hgv
  exact ⟨D, G, ⟨hD, hG⟩, z_Nw hts, z_St hts hgv, vx_Zqof (hts (.laysStatic Bundle.tN "UNASSIGNED_STACK" Bundle.steD) (by decide +kernel)) (hts (.initialized Bundle.tN) (by decide +kernel)) (hs (.isRef (.static Bundle.tN "UNASSIGNED_STACK" Bundle.steD)) (by decide +kernel)) (fun a h => Nat.not_le.mpr h), vx_Zqof (hts (.laysStatic Bundle.tN "SUPPRESSED_SENTINEL" Bundle.listD) (by decide +kernel)) (hts (.initialized Bundle.tN) (by decide +kernel)) (hs (.isRef (.static Bundle.tN "SUPPRESSED_SENTINEL" Bundle.listD)) (by decide +kernel)) (fun a h => Nat.not_le.mpr h)⟩
