/-! THE SCRIPT'S OWN METHODS (from, holds, isHeld): what they hold is the script at bs, and nothing else that was there before is changed -/
abbrev sh_wd : Unit → Heap → Prop := fun _ _ => True
def sh_Pre (D : va_G) (G : sx_G) (bs L : Nat) (xs : Nat → Int32) (as : List Value) (sz : Nat) : Array Value → State → Prop := va_Pc as (fun U => U.heap.size = sz ∧ va_X bs L xs U U.heap ∧ bs < sz ∧ sx_V D G (sx_AC sz) U U.heap)
def sh_Met (l : Launch) (D : va_G) (G : sx_G) (bs L : Nat) (xs : Nat → Int32) (y : MethodName) (cc : ByteArray) (maxL : Nat) (ret : Option FieldType) (fr lo mc ms : Nat) (as : List Value) (Qv : Option Value → Prop) : Prop :=
  ∀ sz : Nat, vx_Met l y (Cond.code y cc maxL ret :: sx_ws) { frames := fr, cells := mc, slots := ms, locals := lo } (sh_Pre D G bs L xs as sz) (sx_Qc sh_wd (sx_AC sz) (fun v _ => Qv v)) (sx_XC sh_wd (sx_AC sz) (fun _ _ => False)) mc ms (sx_AC sz)
def sh_MetH (l : Launch) (D : va_G) (G : sx_G) (bs L : Nat) (xs : Nat → Int32) (y : MethodName) (cc : ByteArray) (maxL : Nat) (ret : Option FieldType) (hh : List (Nat × Nat × Nat × Nat)) (fr lo mc ms : Nat) (as : List Value) (Qv : Option Value → Prop) : Prop :=
  ∀ sz : Nat, vx_Met l y (Cond.codeWith y cc maxL ret hh :: sx_ws) { frames := fr, cells := mc, slots := ms, locals := lo } (sh_Pre D G bs L xs as sz) (sx_Qc sh_wd (sx_AC sz) (fun v _ => Qv v)) (sx_XC sh_wd (sx_AC sz) (fun _ _ => False)) mc ms (sx_AC sz)
theorem sh_blind {D : va_G} {G : sx_G} {bs L : Nat} {xs : Nat → Int32} {sz : Nat} {as : List Value} : FrameBlind (sh_Pre D G bs L xs as sz) := fun a U g mk h => ⟨h.1, h.2.1, va_X.moved (u := U) (U := U.calling g mk a) (State.WarmedH.refl U : U.WarmedH (U.calling g mk a).vm).alike h.2.2.1, h.2.2.2.1, sx_V.warm (s := U) (U := U.calling g mk a) (State.WarmedH.refl U) h.2.2.2.2⟩
section SHW
variable {p : Program} {l : Launch} {e : Env} {R : Room} {s : State} {m : MethodId} {args : Array Value} {below : List Frame} {meth : Method} {c : Code} {D : va_G} {G : sx_G} {A : Nat → Prop} {cc : ByteArray} {nL cells slots : Nat} {own : String} {Q : State → Prop} {pc : Nat} {lv : List (Nat × Value)} {st : List Value} {bs L : Nat} {xs : Nat → Int32}
theorem sh_enter {y : MethodName} {maxL : Nat} {ret : Option FieldType} {fr lo mc ms : Nat} {as : List Value} {Qv : Option Value → Prop} (hl : l.stackTraces = false) (hy : plainName y.cls = true) (hown : y.cls = own) (hn : (lg_sl as).length ≤ maxL)
    (body : ∀ (p : Program) (e : Env) (s : State) (m : MethodId) (args : Array Value) (below : List Frame) (meth : Method) (c : Code), sx_Cx p l s m args meth c D G (sx_AC s.heap.size) cc maxL own → meth.sig.returnType = ret → va_X bs L xs s s.heap → bs < s.heap.size →
      sx_J sh_wd p l e { frames := fr, cells := mc, slots := ms, locals := lo } s m args below meth c (sx_AC s.heap.size) maxL 0 0 (sx_fin sh_wd (sx_AC s.heap.size) below args s mc ms (fun v _ => Qv v) (fun _ _ => False)) () 0 (lv_args 0 as) []) : sh_Met l D G bs L xs y cc maxL ret fr lo mc ms as Qv := by
  intro sz
  refine vx_ofW (cc := cc) (maxL := maxL) (ret := ret) hy rfl ?_
  intro p e s m args below meth c s₁ B hml ht hv
  obtain ⟨rfl, hsz, hX, hbl, hV⟩ := hv
  subst hsz
  have hts := atoms_spec (ws := Cond.code y cc maxL ret :: sx_ws) B.pre
  have hC : sx_Cx p l s m as.toArray meth c D G (sx_AC s.heap.size) cc maxL own := ⟨B.exec, B.bytes, hml, hown ▸ findClass_of_methodNamed B.named, fun w hw => hts w (List.mem_cons_of_mem _ hw), fun q hq => hq, B.notSynchronized, hl, hV⟩
  rw [lg_entry_eq]
  exact body p e s m as.toArray below meth c hC B.returns hX hbl s.heap [] _ trivial va_S.rf (lv_entry as hn)
theorem sh_enterW {y : MethodName} {maxL : Nat} {ret : Option FieldType} {fr lo mc ms : Nat} {as : List Value} {Qv : Option Value → Prop} (hl : l.stackTraces = false) (hy : plainName y.cls = true) (hown : y.cls = own) (hn : (lg_sl as).length ≤ maxL)
    (body : ∀ (p : Program) (e : Env) (s : State) (m : MethodId) (args : Array Value) (below : List Frame) (meth : Method) (c : Code) (ls : Array Slot), sx_Cx p l s m args meth c D G (sx_AC s.heap.size) cc maxL own → meth.sig.returnType = ret → va_X bs L xs s s.heap → bs < s.heap.size → lv_has ls maxL (lv_args 0 as) →
      W p l e { frames := fr, cells := mc, slots := ms, locals := lo } s m args below meth c s.heap [] 0 0 (sx_fin sh_wd (sx_AC s.heap.size) below args s mc ms (fun v _ => Qv v) (fun _ _ => False)) (F0 m 0 ls [])) : sh_Met l D G bs L xs y cc maxL ret fr lo mc ms as Qv := by
  intro sz
  refine vx_ofW (cc := cc) (maxL := maxL) (ret := ret) hy rfl ?_
  intro p e s m args below meth c s₁ B hml ht hv
  obtain ⟨rfl, hsz, hX, hbl, hV⟩ := hv
  subst hsz
  have hts := atoms_spec (ws := Cond.code y cc maxL ret :: sx_ws) B.pre
  have hC : sx_Cx p l s m as.toArray meth c D G (sx_AC s.heap.size) cc maxL own := ⟨B.exec, B.bytes, hml, hown ▸ findClass_of_methodNamed B.named, fun w hw => hts w (List.mem_cons_of_mem _ hw), fun q hq => hq, B.notSynchronized, hl, hV⟩
  rw [lg_entry_eq]
  exact body p e s m as.toArray below meth c _ hC B.returns hX hbl (lv_entry as hn)
theorem sh_enterH {y : MethodName} {maxL : Nat} {ret : Option FieldType} {hh : List (Nat × Nat × Nat × Nat)} {fr lo mc ms : Nat} {as : List Value} {Qv : Option Value → Prop} (hl : l.stackTraces = false) (hy : plainName y.cls = true) (hown : y.cls = own) (hn : (lg_sl as).length ≤ maxL)
    (body : ∀ (p : Program) (e : Env) (s : State) (m : MethodId) (args : Array Value) (below : List Frame) (meth : Method) (c : Code), sx_Cx p l s m args meth c D G (sx_AC s.heap.size) cc maxL own → meth.sig.returnType = ret → va_X bs L xs s s.heap → bs < s.heap.size →
      sx_J sh_wd p l e { frames := fr, cells := mc, slots := ms, locals := lo } s m args below meth c (sx_AC s.heap.size) maxL 0 0 (sx_fin sh_wd (sx_AC s.heap.size) below args s mc ms (fun v _ => Qv v) (fun _ _ => False)) () 0 (lv_args 0 as) []) : sh_MetH l D G bs L xs y cc maxL ret hh fr lo mc ms as Qv := by
  intro sz
  refine vx_ofWH (cc := cc) (maxL := maxL) (ret := ret) (hh := hh) hy rfl ?_
  intro p e s m args below meth c s₁ B hml hv
  obtain ⟨rfl, hsz, hX, hbl, hV⟩ := hv
  subst hsz
  have hts := atoms_spec (ws := Cond.codeWith y cc maxL ret hh :: sx_ws) B.pre
  have hC : sx_Cx p l s m as.toArray meth c D G (sx_AC s.heap.size) cc maxL own := ⟨B.exec, B.bytes, hml, hown ▸ findClass_of_methodNamed B.named, fun w hw => hts w (List.mem_cons_of_mem _ hw), fun q hq => hq, B.notSynchronized, hl, hV⟩
  rw [lg_entry_eq]
  exact body p e s m as.toArray below meth c hC B.returns hX hbl s.heap [] _ trivial va_S.rf (lv_entry as hn)
theorem sh_call {σ : Type} {wd : σ → Heap → Prop} {u : σ} (C : sx_Cx p l s m args meth c D G A cc nL own) (hX : va_X bs L xs s s.heap) (hbl : bs < s.heap.size) (hbA : ¬ A bs) (hkeep : ∀ H H1 : Heap, wd u H → (∀ q : Nat, q < H.size → H1[q]? = H[q]?) → wd u H1) {y : MethodName} {bytes : ByteArray} {maxL index na fr lo mc ms : Nat} {ret : Option FieldType} {As : List Value} {st0 : List Value} {Qv : Option Value → Prop} (d : decode cc pc = .ok (.invokestatic index, 3))
    (ct : sh_Met l D G bs L xs y bytes maxL ret fr lo mc ms As Qv) (hy : sx_Mi y bytes maxL ret na) (hlink : Cond.methodLink own index y ∈ sx_ws) (hstat : Cond.static y ∈ sx_ws) (hn : As.length = na) (hst : st0 = As.reverse ++ st)
    (hR : (fr + 1 ≤ R.frames ∧ 8 + (maxL + 11) + lo ≤ R.locals) ∧ cells + mc ≤ R.cells ∧ slots + ms ≤ R.slots) (hcat : (st.map fun v => v.category).sum ≤ 8) (q : Nat) (hq : pc + 3 = q)
    (kk : ∀ (v : Option Value), Qv v → sx_J wd p l e R s m args below meth c A nL (cells + mc) (slots + ms) Q u q lv (v.toList ++ st)) : sx_J wd p l e R s m args below meth c A nL cells slots Q u pc lv st0 := by
  subst hq
  intro H locs ls hP hS hls
  have hsub : ∀ q, sx_AC H.size q → A q := fun q hq => C.2.2.2.2.2.1 q (Nat.le_trans hS.1 hq)
  have cb : CallB R s args own index y bytes maxL ret (Cond.code y bytes maxL ret :: sx_ws) { frames := fr, cells := mc, slots := ms, locals := lo } mc ms na := callB_of na C.2.2.2.2.1 (sx_gi hy.1) rfl rfl rfl (C.2.2.2.2.1 _ hy.2.1) (C.2.2.2.2.1 _ hlink) hy.2.2 hR.1
  have hr := vx_runS (As := As) (rest := st) (l := l) (below := below) (meth := meth) (locs := locs) (cells := cells) (slots := slots) (e := e) (H := H) (g := F0 m pc ls st0) ⟨C.1, C.2.1, C.2.2.1, C.2.2.2.1, C.2.2.2.2.1⟩ (ct H.size) ⟨cb, C.2.2.2.2.1 _ hstat⟩ ⟨sh_blind, fun U hU hW => ⟨rfl, by rw [hU], by
    rw [hU]
    exact va_X.moved hW.alike (hX.kept (hS.2.1 bs hbl hbA)), Nat.lt_of_lt_of_le hbl hS.1, by
    rw [hU]
    exact ((C.2.2.2.2.2.2.2.2.kept hS.2.1).narrow hsub).warm hW⟩⟩ rfl hn hls.1 hst (lv_room (pc := pc) hcat) d hR.2
  exact sx_back hr hS (fun q _ h => hsub q h) hsub (fun v u H1 locs1 hq _ h1 h2 hS1 => kk v hq H1 locs1 ls (hkeep H H1 hP (fun q hq => h2 q hq (fun z => by have : H.size ≤ q := z; omega))) hS1 hls) (fun E ce q9 u H1 locs1 hx _ h1 h2 hS1 h3 h4 h5 => hx.elim)
theorem sh_callH {σ : Type} {wd : σ → Heap → Prop} {u : σ} (C : sx_Cx p l s m args meth c D G A cc nL own) (hX : va_X bs L xs s s.heap) (hbl : bs < s.heap.size) (hbA : ¬ A bs) (hkeep : ∀ H H1 : Heap, wd u H → (∀ q : Nat, q < H.size → H1[q]? = H[q]?) → wd u H1) {y : MethodName} {bytes : ByteArray} {maxL index na fr lo mc ms : Nat} {ret : Option FieldType} {hh : List (Nat × Nat × Nat × Nat)} {As : List Value} {st0 : List Value} {Qv : Option Value → Prop} (d : decode cc pc = .ok (.invokestatic index, 3))
    (ct : sh_MetH l D G bs L xs y bytes maxL ret hh fr lo mc ms As Qv) (hcode : Cond.codeWith y bytes maxL ret hh ∈ sx_ws) (hini : Cond.initialized y.cls ∈ sx_ws) (hstat : Cond.static y ∈ sx_ws) (hlink : Cond.methodLink own index y ∈ sx_ws) (hy : y.cls ≠ "java/lang/invoke/MethodHandle" ∧ y.cls ≠ "java/lang/invoke/VarHandle" ∧ (parseMethodDescriptor y.desc).map (fun d => d.parameters.length) = some na) (hn : As.length = na) (hst : st0 = As.reverse ++ st)
    (hR : (fr + 1 ≤ R.frames ∧ 8 + (maxL + 11) + lo ≤ R.locals) ∧ cells + mc ≤ R.cells ∧ slots + ms ≤ R.slots) (hcat : (st.map fun v => v.category).sum ≤ 8) (q : Nat) (hq : pc + 3 = q)
    (kk : ∀ (v : Option Value), Qv v → sx_J wd p l e R s m args below meth c A nL (cells + mc) (slots + ms) Q u q lv (v.toList ++ st)) : sx_J wd p l e R s m args below meth c A nL cells slots Q u pc lv st0 := by
  subst hq
  intro H locs ls hP hS hls
  have hG : GoodIn sx_ws (va_wsS own index y (Cond.codeWith y bytes maxL ret hh :: sx_ws)) := fun w hw => by
    have h1 : w ∈ sx_ws := by
      simp only [va_wsS, List.mem_append, List.mem_cons, List.not_mem_nil, or_false] at hw
      rcases hw with (rfl | rfl | rfl) | rfl | hw <;> assumption
    exact ⟨h1, good_of_word (List.mem_filter.mp h1).2⟩
  have cw : vx_CSW R s args own index y bytes maxL ret hh (Cond.codeWith y bytes maxL ret hh :: sx_ws) { frames := fr, cells := mc, slots := ms, locals := lo } mc ms na := vx_cwSW na C.2.2.2.2.1 hG rfl rfl rfl hy hR.1
  have hsub : ∀ q, sx_AC H.size q → A q := fun q hq => C.2.2.2.2.2.1 q (Nat.le_trans hS.1 hq)
  have hr := vx_runSX (As := As) (rest := st) (l := l) (below := below) (meth := meth) (locs := locs) (cells := cells) (slots := slots) (e := e) (H := H) (g := F0 m pc ls st0) ⟨C.1, C.2.1, C.2.2.1, C.2.2.2.1, C.2.2.2.2.1⟩ (ct H.size) cw ⟨sh_blind, fun U hU hW => ⟨rfl, by rw [hU], by
    rw [hU]
    exact va_X.moved hW.alike (hX.kept (hS.2.1 bs hbl hbA)), Nat.lt_of_lt_of_le hbl hS.1, by
    rw [hU]
    exact ((C.2.2.2.2.2.2.2.2.kept hS.2.1).narrow hsub).warm hW⟩⟩ rfl hn hls.1 hst (lv_room (pc := pc) hcat) d hR.2
  exact sx_back hr hS (fun q _ h => hsub q h) hsub (fun v u H1 locs1 hq _ h1 h2 hS1 => kk v hq H1 locs1 ls (hkeep H H1 hP (fun q hq => h2 q hq (fun z => by have : H.size ≤ q := z; omega))) hS1 hls) (fun E ce q9 u H1 locs1 hx _ h1 h2 hS1 h3 h4 h5 => hx.elim)
theorem sh_leave {σ : Type} {wd : σ → Heap → Prop} {u : σ} (k : sx_J sh_wd p l e R s m args below meth c A nL cells slots Q () pc lv st) : sx_J wd p l e R s m args below meth c A nL cells slots Q u pc lv st := fun H locs ls _ hS hls => k H locs ls trivial hS hls
theorem sh_keep {b n : Nat} {ad : Nat → Nat} {u : sl_U} : ∀ H H1 : Heap, sl_wp D G b ad n u H → (∀ q : Nat, q < H.size → H1[q]? = H[q]?) → sl_wp D G b ad n u H1 := fun H H1 h h2 => ⟨va_P.kept (D := D) (cl := vwCl) h.1 (fun k q hk => h2 _ (h.1 k q hk).lt), va_P.kept (D := D) (cl := vwCl) h.2 (fun k q hk => h2 _ (h.2 k q hk).lt)⟩
end SHW
set_option maxRecDepth 100000 in
set_option maxHeartbeats 4000000 in
theorem c_L_from {l : Launch} {D : va_G} {G : sx_G} {bs L : Nat} {xs : Nat → Int32} (hf : l.stackTraces = false) (hL : L ≤ 260) {k w : Nat} (hk : k < 1000000) (hw : 0 < w) (hw2 : w < 2 ^ 31) : sh_Met l D G bs L xs yL_from cL_from 4 (some .int) 1 13 0 0 [.ref bs, .int (nI k), .int (nI w)] (fun v => ∃ r : Nat, r < w ∧ v = some (.int (nI r))) := by
  refine sh_enter (own := RL) hf rfl rfl (Nat.le_of_ble_eq_true rfl) ?_
  intro p e s m args below meth c C hr hX hbl
  have hbA : ¬ sx_AC s.heap.size bs := Nat.not_le.mpr hbl
  refine sx_sub (lv' := [(0, .ref bs), (1, .int (nI k)), (2, .int (nI w))]) [0, 1, 2] rfl ?_
  have key : ∀ x : Int32, sx_J sh_wd p l e { frames := 1, cells := 0, slots := 0, locals := 13 } s m args below meth c (sx_AC s.heap.size) 4 0 0 (sx_fin sh_wd (sx_AC s.heap.size) below args s 0 0 (fun v _ => ∃ r : Nat, r < w ∧ v = some (.int (nI r))) (fun _ _ => False)) () 28 [(0, .ref bs), (1, .int (nI k)), (2, .int (nI w))] [.int x] := by
    intro x
    refine sx_istore_n C dL_from_28 3 rfl [(3, .int x), (0, .ref bs), (1, .int (nI k)), (2, .int (nI w))] (by decide) rfl 29 rfl ?_
    refine sx_iload_n C dL_from_29 3 0 rfl rfl 30 rfl ?_
    refine sx_ldci C dL_from_30 2147483647 kc_L_8 32 rfl ?_
    refine sx_iand C dL_from_32 33 rfl ?_
    obtain ⟨j, hj, ej⟩ := pk_andE x (m := 2147483647) 31 rfl
    rw [ej]
    refine sx_iload_n C dL_from_33 2 3 rfl rfl 34 rfl ?_
    refine sx_irem C dL_from_34 (nI_ne0 hw hw2) 35 rfl ?_
    rw [pk_rem hj hw hw2]
    exact sx_iret C dL_from_35 hr (Nat.le_of_ble_eq_true rfl) (Nat.le_of_ble_eq_true rfl) ⟨j % w, Nat.mod_lt _ hw, rfl⟩
  refine sx_aload_n C dL_from_0 0 0 rfl rfl 1 rfl ?_
  refine sx_slen C hX hbl hbA dL_from_1 2 rfl ?_
  refine sx_if_ne C dL_from_2 17 5 (by decide) rfl (fun c1 => ?_) (fun c1 => ?_)
  · have hL0 : 0 < L := by
      rcases Nat.eq_zero_or_pos L with z | z
      · exact absurd (by rw [z]; rfl) c1
      · exact z
    refine sx_aload_n C dL_from_17 0 0 rfl rfl 18 rfl ?_
    refine sx_iload_n C dL_from_18 1 1 rfl rfl 19 rfl ?_
    refine sx_aload_n C dL_from_19 0 0 rfl rfl 20 rfl ?_
    refine sx_slen C hX hbl hbA dL_from_20 21 rfl ?_
    refine sx_irem C dL_from_21 c1 22 rfl ?_
    have hv : vp_in (nI k - nI k / Int32.ofNat L * Int32.ofNat L) L := by
      rw [show Int32.ofNat L = nI L from rfl, pk_rem (by omega) hL0 (by omega)]
      exact vp_in_nI (Nat.mod_lt _ hL0) (by omega)
    refine sx_sld C hX hbl hbA hv dL_from_22 23 rfl ?_
    refine sx_ldci C dL_from_23 228797 kc_L_7 25 rfl ?_
    refine sx_iload_n C dL_from_25 1 1 rfl rfl 26 rfl ?_
    refine sx_imul C dL_from_26 27 rfl ?_
    refine sx_ixor C dL_from_27 28 rfl ?_
    exact key _
  · refine sx_sipush C dL_from_5 293 (by decide) 8 rfl ?_
    refine sx_iload_n C dL_from_8 1 1 rfl rfl 9 rfl ?_
    refine sx_imul C dL_from_9 10 rfl ?_
    refine sx_sipush C dL_from_10 269 (by decide) 13 rfl ?_
    refine sx_iadd C dL_from_13 14 rfl ?_
    refine sx_goto C dL_from_14 28 (by decide) ?_
    exact key _
