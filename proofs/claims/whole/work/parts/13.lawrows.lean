/-! THE LAW: its worlds are the class's, the reference's and the cell 'out' -/
abbrev sx_wo (D : va_G) (G : sx_G) (bo : Nat) (o : Nat → Int64) (H : Heap) : Prop := va_P D vwCl [(bo, .inl (G.2 3, 1, .inr (.inl o)))] H
abbrev sx_ww (D : va_G) (G : sx_G) (b n : Nat) (lay : Nat → sx_K) (bo : Nat) (u : sx_F × (Nat → Int64)) (H : Heap) : Prop := sx_wp D G b lay n u.1 H ∧ sx_wo D G bo u.2 H
def sx_AW (b n bo sz : Nat) : Nat → Prop := fun q => (b ≤ q ∧ q < b + n) ∨ q = bo ∨ sz ≤ q
def sx_ncl : List (String × String) := [("java/lang/IllegalArgumentException", "java/lang/IndexOutOfBoundsException"), ("java/lang/IllegalStateException", "java/lang/IndexOutOfBoundsException"), ("java/lang/IllegalStateException", "java/lang/IllegalArgumentException")]
def sx_NC (U : State) : Prop := ∀ q ∈ sx_ncl, va_Nc q.1 q.2 U
theorem sx_NC.warm {s U : State} (hW : s.WarmedH U.vm) (h : sx_NC s) : sx_NC U := fun q hq => va_Nc.moved hW.alike (h q hq)
theorem sx_consP {D : va_G} {x : Nat × va_E} {ws : va_W} {H : Heap} (h1 : va_P D vwCl [x] H) (h2 : va_P D vwCl ws H) : va_P D vwCl (x :: ws) H := va_P.app h1 h2
theorem sx_headP {D : va_G} {x : Nat × va_E} {ws : va_W} {H : Heap} (h : va_P D vwCl (x :: ws) H) : va_P D vwCl [x] H := fun k q hk => by
  have h0 : k < 1 := (List.getElem?_eq_some_iff.mp hk).1
  have h1 : k = 0 := by omega
  subst h1
  exact h 0 q hk
theorem sx_tailP {D : va_G} {x : Nat × va_E} {ws : va_W} {H : Heap} (h : va_P D vwCl (x :: ws) H) : va_P D vwCl ws H := fun k q hk => h (k + 1) q hk
theorem sx_consD {A : Nat → Prop} {x : Nat × va_E} {ws : va_W} (h : va_D A ws) (hx : A x.1) (hn : ∀ (k : Nat) (q : Nat × va_E), ws[k]? = some q → q.1 ≠ x.1) : va_D A (x :: ws) := by
  refine ⟨fun i j p q hi hj e => ?_, fun k q hk => ?_⟩
  · cases i with
    | zero =>
      cases j with
      | zero => rfl
      | succ j =>
        have h1 : x = p := by simpa using hi
        have h2 : ws[j]? = some q := by simpa using hj
        exact absurd (by rw [← e, ← h1]) (hn j q h2)
    | succ i =>
      have h1 : ws[i]? = some p := by simpa using hi
      cases j with
      | zero =>
        have h2 : x = q := by simpa using hj
        exact absurd (by rw [e, ← h2]) (hn i p h1)
      | succ j =>
        have h2 : ws[j]? = some q := by simpa using hj
        rw [h.1 i j p q h1 h2 e]
  · cases k with
    | zero =>
      have h1 : x = q := by simpa using hk
      rw [← h1]
      exact hx
    | succ k => exact h.2 k q (by simpa using hk)
def sx_PreW (D : va_G) (G : sx_G) (b n : Nat) (lay : Nat → sx_K) (bo : Nat) (as : List Value) (u : sx_F × (Nat → Int64)) (sz : Nat) : Array Value → State → Prop := va_Pc as (fun U => U.heap.size = sz ∧ sx_ww D G b n lay bo u U.heap ∧ sx_V D G (sx_AW b n bo sz) U U.heap ∧ sx_NC U)
def sx_MetW (l : Launch) (D : va_G) (G : sx_G) (b n : Nat) (lay : Nat → sx_K) (bo : Nat) (y : MethodName) (cc : ByteArray) (maxL : Nat) (hh : List (Nat × Nat × Nat × Nat)) (fr lo mc ms : Nat) (as : List Value) (u : sx_F × (Nat → Int64)) (QL : Int32 → sx_F → (Nat → Int64) → Prop) : Prop :=
  ∀ sz : Nat, vx_Met l y (Cond.codeWith y cc maxL (some .int) hh :: sx_ws) { frames := fr, cells := mc, slots := ms, locals := lo } (sx_PreW D G b n lay bo as u sz) (sx_Qc (sx_ww D G b n lay bo) (sx_AW b n bo sz) (fun v u => ∃ r : Int32, v = some (.int r) ∧ QL r u.1 u.2)) (sx_XC (sx_ww D G b n lay bo) (sx_AW b n bo sz) (fun _ _ => False)) mc ms (sx_AW b n bo sz)
section SL
variable {p : Program} {l : Launch} {e : Env} {R : Room} {s : State} {m : MethodId} {args : Array Value} {below : List Frame} {meth : Method} {c : Code} {D : va_G} {G : sx_G} {A : Nat → Prop} {cc : ByteArray} {nL cells slots : Nat} {own : String} {Q : State → Prop} {pc : Nat} {lv : List (Nat × Value)} {st : List Value} {b n bo : Nat} {lay : Nat → sx_K} {f : sx_F} {o : Nat → Int64}
theorem sx_blindW {sz : Nat} {as : List Value} {u : sx_F × (Nat → Int64)} : FrameBlind (sx_PreW D G b n lay bo as u sz) := fun a U g mk h => ⟨h.1, h.2.1, h.2.2.1, sx_V.warm (s := U) (U := U.calling g mk a) (State.WarmedH.refl U) h.2.2.2.1, sx_NC.warm (s := U) (U := U.calling g mk a) (State.WarmedH.refl U) h.2.2.2.2⟩
theorem sx_enterW {y : MethodName} {maxL : Nat} {hh : List (Nat × Nat × Nat × Nat)} {fr lo mc ms : Nat} {as : List Value} {u : sx_F × (Nat → Int64)} {QL : Int32 → sx_F → (Nat → Int64) → Prop} (hl : l.stackTraces = false) (hy : plainName y.cls = true) (hown : y.cls = own) (hn : (lg_sl as).length ≤ maxL)
    (body : ∀ (p : Program) (e : Env) (s : State) (m : MethodId) (args : Array Value) (below : List Frame) (meth : Method) (c : Code), sx_Cx p l s m args meth c D G (sx_AW b n bo s.heap.size) cc maxL own → meth.sig.returnType = some .int → c.exceptionTable.toList = tableOf hh → sx_NC s →
      sx_J (sx_ww D G b n lay bo) p l e { frames := fr, cells := mc, slots := ms, locals := lo } s m args below meth c (sx_AW b n bo s.heap.size) maxL 0 0 (sx_fin (sx_ww D G b n lay bo) (sx_AW b n bo s.heap.size) below args s mc ms (fun v u => ∃ r : Int32, v = some (.int r) ∧ QL r u.1 u.2) (fun _ _ => False)) u 0 (lv_args 0 as) []) : sx_MetW l D G b n lay bo y cc maxL hh fr lo mc ms as u QL := by
  intro sz
  refine vx_ofWH (cc := cc) (maxL := maxL) (ret := some .int) (hh := hh) hy rfl ?_
  intro p e s m args below meth c s₁ B hml hv
  obtain ⟨rfl, hsz, hP, hV, hN⟩ := hv
  subst hsz
  have hts := atoms_spec (ws := Cond.codeWith y cc maxL (some .int) hh :: sx_ws) B.pre
  have hC : sx_Cx p l s m as.toArray meth c D G (sx_AW b n bo s.heap.size) cc maxL own := ⟨B.exec, B.bytes, hml, hown ▸ findClass_of_methodNamed B.named, fun w hw => hts w (List.mem_cons_of_mem _ hw), fun q hq => Or.inr (Or.inr hq), B.notSynchronized, hl, hV⟩
  rw [lg_entry_eq]
  exact body p e s m as.toArray below meth c hC B.returns (vx_table (x := y) B (hts _ List.mem_cons_self)) hN s.heap [] _ hP va_S.rf (lv_entry as hn)
theorem sx_i2l {σ : Type} {wd : σ → Heap → Prop} {u : σ} (C : sx_Cx p l s m args meth c D G A cc nL own) {x : Int32} (d : decode cc pc = .ok (.i2l, 1)) (q : Nat) (hq : pc + 1 = q) (k : sx_J wd p l e R s m args below meth c A nL cells slots Q u q lv (.long x.toInt64 :: st)) : sx_J wd p l e R s m args below meth c A nL cells slots Q u pc lv (.int x :: st) := by
  subst hq
  exact fun H locs ls hP hS hl => lv_i2l C.1 C.2.1 d rfl (k H locs ls hP hS hl)
theorem sx_lcmp {σ : Type} {wd : σ → Heap → Prop} {u : σ} (C : sx_Cx p l s m args meth c D G A cc nL own) {x y : Int64} (d : decode cc pc = .ok (.lcmp, 1)) (q : Nat) (hq : pc + 1 = q) (k : sx_J wd p l e R s m args below meth c A nL cells slots Q u q lv (.int (lg_cmp x y) :: st)) : sx_J wd p l e R s m args below meth c A nL cells slots Q u pc lv (.long y :: .long x :: st) := by
  subst hq
  exact fun H locs ls hP hS hl => W.lcmp C.1 C.2.1 d (k H locs ls hP hS hl)
theorem sx_last (C : sx_Cx p l s m args meth c D G A cc nL own) (hB : ∀ k, k < n → A (b + k)) (hbo : b + n ≤ bo) (hA : A bo) {x : Int64} (d : decode cc pc = .ok (.lastore, 1)) (q : Nat) (hq : pc + 1 = q) (k : ∀ o1 : Nat → Int64, o1 = vp_updL o 0 x → sx_J (sx_ww D G b n lay bo) p l e R s m args below meth c A nL cells slots Q (f, o1) q lv st) : sx_J (sx_ww D G b n lay bo) p l e R s m args below meth c A nL cells slots Q (f, o) pc lv (.long x :: .int 0 :: .ref bo :: st) := by
  subst hq
  intro H locs ls hP hS hls
  have hD : va_D A ((bo, .inl (G.2 3, 1, .inr (.inl o))) :: sx_w G b lay n f) := sx_consD (sx_D hB) hA (fun k q hk => by
    obtain ⟨h1, rfl⟩ := sx_inv hk
    show b + k ≠ bo
    omega)
  refine va_last C.1 C.2.1 C.2.2.2.2.2.2.2.2.1 (sx_consP hP.2 hP.1) hD hS 0 4 (n := 1) rfl rfl (by unfold vp_in; decide) d (fun H1 locs1 hP1 _ hS1 => k _ rfl H1 locs1 ls ?_ hS1 hls)
  exact ⟨sx_tailP hP1, sx_headP hP1⟩
/-- the class's method, called by a method of the law beside 'out' -/
theorem sx_wcall (C : sx_Cx p l s m args meth c D G A cc nL own) (hB : ∀ k, k < n → A (b + k)) (hbo : b + n ≤ bo) {y : MethodName} {bytes : ByteArray} {maxL index na k ci fr lo mc ms : Nat} {ret : Option FieldType} {fs : List (Option (Option Nat))} {r : vw_C} {As : List Value} {st0 : List Value} {Qv : Option Value → sx_F → Prop} {X : String → sx_F → Prop} (d : decode cc pc = .ok (.invokevirtual index, 3))
    (ct : sx_Met l D G b n lay y bytes maxL ret fr lo mc ms (.ref (b + k) :: As) f Qv X) (hy : sx_Mi y bytes maxL ret na) (hlink : Cond.methodLink own index y ∈ sx_ws) (hinst : Cond.instanceMethod y ∈ sx_ws) (hsel : Cond.selects y.cls y y ∈ sx_ws)
    (hk : k < n) (hl : lay k = .inr (.inr (ci, fs))) (hc : vwCl[ci]? = some r) (hrc : r.1 = y.cls) (hn : As.length = na) (hst : st0 = As.reverse ++ .ref (b + k) :: st)
    (hR : (fr + 1 ≤ R.frames ∧ 8 + (maxL + 11) + lo ≤ R.locals) ∧ cells + mc ≤ R.cells ∧ slots + ms ≤ R.slots) (hcat : (st.map fun v => v.category).sum ≤ 8) (q : Nat) (hq : pc + 3 = q)
    (kk : ∀ (v : Option Value) (f1 : sx_F), Qv v f1 → sx_J (sx_ww D G b n lay bo) p l e R s m args below meth c A nL (cells + mc) (slots + ms) Q (f1, o) q lv (v.toList ++ st))
    (kx : ∀ (E : String) (ce : Cell) (q9 : Addr) (f1 : sx_F) (H1 : Heap) (locs1 : List Loc) (ls : Array Slot), X E f1 → sx_ww D G b n lay bo (f1, o) H1 → va_S A s.heap H1 locs1 → lv_has ls nL lv → H1[q9]? = some ce → ce.vm = .none → s.vm.findClass E = some ce.cls → vx_W p l e R s m args below meth c H1 locs1 (cells + mc) (slots + ms) Q (F0 m pc ls st) q9) :
    sx_J (sx_ww D G b n lay bo) p l e R s m args below meth c A nL cells slots Q (f, o) pc lv st0 := by
  subst hq
  intro H locs ls hP hS hls
  have hkeep : ∀ H1 : Heap, H.size ≤ H1.size → (∀ q : Nat, q < H.size → ¬ sx_A b n H.size q → H1[q]? = H[q]?) → sx_wo D G bo o H1 := fun H1 _ h2 => by
    refine va_P.kept (D := D) (cl := vwCl) hP.2 (fun k9 q9 hk9 => ?_)
    have hlt : q9.1 < H.size := (hP.2 k9 q9 hk9 : va_at D vwCl q9 H).lt
    have h0 : k9 < 1 := (List.getElem?_eq_some_iff.mp hk9).1
    have h1 : k9 = 0 := by omega
    subst h1
    cases hk9
    exact h2 bo hlt (fun z => by rcases z with ⟨_, z⟩ | z <;> omega)
  exact sx_back (sx_runV C hB d ct hy hlink hinst hsel hk hl hc hrc hn hst hR hcat hP.1 hS hls) hS (fun q _ h => sx_sub_A C hB hS q h) (sx_sub_A C hB hS) (fun v u H1 locs1 hq hP1 h1 h2 hS1 => kk v u hq H1 locs1 ls ⟨hP1, hkeep H1 h1 h2⟩ hS1 hls) (fun E ce q9 u H1 locs1 hx hP1 h1 h2 hS1 h3 h4 h5 => kx E ce q9 u H1 locs1 ls hx ⟨hP1, hkeep H1 h1 h2⟩ hS1 hls h3 h4 h5)
theorem sx_catch {σ : Type} {wd : σ → Heap → Prop} {u : σ} (C : sx_Cx p l s m args meth c D G A cc nL own) {E : String} {ce : Cell} {q9 : Addr} {H1 : Heap} {locs1 : List Loc} {ls : Array Slot} {hh : List (Nat × Nat × Nat × Nat)} (htab : c.exceptionTable.toList = tableOf hh) (pre : List (Nat × Nat × Nat × Nat)) (x : Nat × Nat × Nat × Nat) (suf : List (Nat × Nat × Nat × Nat)) (hsp : hh = pre ++ x :: suf)
    (hpass : ∀ z ∈ pre, z.2.2.2 ≠ 0 ∧ ∃ nm : String, Cond.classLink own z.2.2.2 nm ∈ sx_ws ∧ va_Nc E nm s) (hx : covers ⟨x.1, x.2.1, x.2.2.1, x.2.2.2⟩ pc = true) (h0 : x.2.2.2 ≠ 0) (hlink : Cond.classLink own x.2.2.2 E ∈ sx_ws) (hcast : Cond.castable E E ∈ sx_nw) (hcell : H1[q9]? = some ce) (hv : ce.vm = .none) (hcl : s.vm.findClass E = some ce.cls)
    (hw : wd u H1) (hS : va_S A s.heap H1 locs1) (hls : lv_has ls nL lv) (k : sx_J wd p l e R s m args below meth c A nL cells slots Q u x.2.2.1 lv [.ref q9]) : vx_W p l e R s m args below meth c H1 locs1 cells slots Q (F0 m pc ls st) q9 := by
  refine vx_catch C.2.2.2.1 (tableOf pre) ⟨x.1, x.2.1, x.2.2.1, x.2.2.2⟩ (tableOf suf) (by rw [htab, hsp]; simp [tableOf]) (fun z hz => ?_) hx h0 (C.2.2.2.2.1 _ hlink) (va_Nw.use rfl (C.2.2.2.2.2.2.2.2.2.1 _ hcast)) hcell hv hcl (k H1 locs1 ls hw hS hls)
  obtain ⟨z0, hz0, rfl⟩ := List.mem_map.mp hz
  obtain ⟨h1, nm, h2, h3⟩ := hpass z0 hz0
  exact Or.inr ⟨h1, nm, C.2.2.2.2.1 _ h2, h3⟩
/-! the law's own frame -/
abbrev sx_wl (D : va_G) (G : sx_G) (b1 n1 : Nat) (lay1 : Nat → sx_K) (b2 n2 : Nat) (lay2 : Nat → sx_K) (bo : Nat) (u : sx_F × sx_F × (Nat → Int64)) (H : Heap) : Prop := sx_wp D G b1 lay1 n1 u.1 H ∧ sx_wp D G b2 lay2 n2 u.2.1 H ∧ sx_wo D G bo u.2.2 H
variable {b1 n1 b2 n2 : Nat} {lay1 lay2 : Nat → sx_K} {g : sx_F}
theorem sx_keptW {b n : Nat} {lay : Nat → sx_K} {f : sx_F} {H H1 : Heap} {A1 : Nat → Prop} (h : sx_wp D G b lay n f H) (h2 : ∀ q : Nat, q < H.size → ¬ A1 q → H1[q]? = H[q]?) (h3 : ∀ k, k < n → b + k < H.size → ¬ A1 (b + k)) : sx_wp D G b lay n f H1 := va_P.kept (D := D) (cl := vwCl) h (fun k q hk => by
  have hlt : q.1 < H.size := (h k q hk : va_at D vwCl q H).lt
  obtain ⟨h4, rfl⟩ := sx_inv hk
  exact h2 _ hlt (h3 k h4 hlt))
theorem sx_keptO {o : Nat → Int64} {H H1 : Heap} {A1 : Nat → Prop} (h : sx_wo D G bo o H) (h2 : ∀ q : Nat, q < H.size → ¬ A1 q → H1[q]? = H[q]?) (h3 : bo < H.size → ¬ A1 bo) : sx_wo D G bo o H1 := va_P.kept (D := D) (cl := vwCl) h (fun k q hk => by
  have hlt : q.1 < H.size := (h k q hk : va_at D vwCl q H).lt
  have h0 : k < 1 := (List.getElem?_eq_some_iff.mp hk).1
  have h1 : k = 0 := by omega
  subst h1
  cases hk
  exact h2 bo hlt (h3 hlt))
/-- a method of the class, called by the law itself -/
theorem sx_lcall1 (C : sx_Cx p l s m args meth c D G A cc nL own) (hB : ∀ k, k < n1 → A (b1 + k)) (hd12 : b1 + n1 ≤ b2) (hd2 : b2 + n2 ≤ bo) {y : MethodName} {bytes : ByteArray} {maxL index na k ci fr lo mc ms : Nat} {ret : Option FieldType} {fs : List (Option (Option Nat))} {r : vw_C} {As : List Value} {st0 : List Value} {Qv : Option Value → sx_F → Prop} (d : decode cc pc = .ok (.invokevirtual index, 3))
    (ct : sx_Met l D G b1 n1 lay1 y bytes maxL ret fr lo mc ms (.ref (b1 + k) :: As) f Qv (fun _ _ => False)) (hy : sx_Mi y bytes maxL ret na) (hlink : Cond.methodLink own index y ∈ sx_ws) (hinst : Cond.instanceMethod y ∈ sx_ws) (hsel : Cond.selects y.cls y y ∈ sx_ws)
    (hk : k < n1) (hl : lay1 k = .inr (.inr (ci, fs))) (hc : vwCl[ci]? = some r) (hrc : r.1 = y.cls) (hn : As.length = na) (hst : st0 = As.reverse ++ .ref (b1 + k) :: st)
    (hR : (fr + 1 ≤ R.frames ∧ 8 + (maxL + 11) + lo ≤ R.locals) ∧ cells + mc ≤ R.cells ∧ slots + ms ≤ R.slots) (hcat : (st.map fun v => v.category).sum ≤ 8) (q : Nat) (hq : pc + 3 = q)
    (kk : ∀ (v : Option Value) (f1 : sx_F), Qv v f1 → sx_J (sx_wl D G b1 n1 lay1 b2 n2 lay2 bo) p l e R s m args below meth c A nL (cells + mc) (slots + ms) Q (f1, g, o) q lv (v.toList ++ st)) :
    sx_J (sx_wl D G b1 n1 lay1 b2 n2 lay2 bo) p l e R s m args below meth c A nL cells slots Q (f, g, o) pc lv st0 := by
  subst hq
  intro H locs ls hP hS hls
  exact sx_back (sx_runV C hB d ct hy hlink hinst hsel hk hl hc hrc hn hst hR hcat hP.1 hS hls) hS (fun q _ h => sx_sub_A C hB hS q h) (sx_sub_A C hB hS) (fun v u H1 locs1 hq hP1 h1 h2 hS1 => kk v u hq H1 locs1 ls ⟨hP1, sx_keptW hP.2.1 h2 (fun k hk hlt z => by rcases z with ⟨_, z⟩ | z <;> omega), sx_keptO hP.2.2 h2 (fun hlt z => by rcases z with ⟨_, z⟩ | z <;> omega)⟩ hS1 hls) (fun E ce q9 u H1 locs1 hx hP1 h1 h2 hS1 h3 h4 h5 => hx.elim)
/-- a method of the reference, called by the law -/
theorem sx_lcall2 (C : sx_Cx p l s m args meth c D G A cc nL own) (hB : ∀ k, k < n2 → A (b2 + k)) (hd12 : b1 + n1 ≤ b2) (hd2 : b2 + n2 ≤ bo) {y : MethodName} {bytes : ByteArray} {maxL index na k ci fr lo mc ms : Nat} {ret : Option FieldType} {fs : List (Option (Option Nat))} {r : vw_C} {As : List Value} {st0 : List Value} {Qv : Option Value → sx_F → Prop} (d : decode cc pc = .ok (.invokevirtual index, 3))
    (ct : sx_Met l D G b2 n2 lay2 y bytes maxL ret fr lo mc ms (.ref (b2 + k) :: As) g Qv (fun _ _ => False)) (hy : sx_Mi y bytes maxL ret na) (hlink : Cond.methodLink own index y ∈ sx_ws) (hinst : Cond.instanceMethod y ∈ sx_ws) (hsel : Cond.selects y.cls y y ∈ sx_ws)
    (hk : k < n2) (hl : lay2 k = .inr (.inr (ci, fs))) (hc : vwCl[ci]? = some r) (hrc : r.1 = y.cls) (hn : As.length = na) (hst : st0 = As.reverse ++ .ref (b2 + k) :: st)
    (hR : (fr + 1 ≤ R.frames ∧ 8 + (maxL + 11) + lo ≤ R.locals) ∧ cells + mc ≤ R.cells ∧ slots + ms ≤ R.slots) (hcat : (st.map fun v => v.category).sum ≤ 8) (q : Nat) (hq : pc + 3 = q)
    (kk : ∀ (v : Option Value) (g1 : sx_F), Qv v g1 → sx_J (sx_wl D G b1 n1 lay1 b2 n2 lay2 bo) p l e R s m args below meth c A nL (cells + mc) (slots + ms) Q (f, g1, o) q lv (v.toList ++ st)) :
    sx_J (sx_wl D G b1 n1 lay1 b2 n2 lay2 bo) p l e R s m args below meth c A nL cells slots Q (f, g, o) pc lv st0 := by
  subst hq
  intro H locs ls hP hS hls
  exact sx_back (sx_runV C hB d ct hy hlink hinst hsel hk hl hc hrc hn hst hR hcat hP.2.1 hS hls) hS (fun q _ h => sx_sub_A C hB hS q h) (sx_sub_A C hB hS) (fun v u H1 locs1 hq hP1 h1 h2 hS1 => kk v u hq H1 locs1 ls ⟨sx_keptW hP.1 h2 (fun k hk hlt z => by rcases z with ⟨_, z⟩ | z <;> omega), hP1, sx_keptO hP.2.2 h2 (fun hlt z => by rcases z with ⟨_, z⟩ | z <;> omega)⟩ hS1 hls) (fun E ce q9 u H1 locs1 hx hP1 h1 h2 hS1 h3 h4 h5 => hx.elim)
/-- a method of the law, called by the law -/
theorem sx_lcallW (C : sx_Cx p l s m args meth c D G A cc nL own) (hNC : sx_NC s) (hB : ∀ k, k < n1 → A (b1 + k)) (hA : A bo) (hd12 : b1 + n1 ≤ b2) (hd2 : b2 + n2 ≤ bo) {y : MethodName} {bytes : ByteArray} {maxL index na fr lo mc ms : Nat} {hh : List (Nat × Nat × Nat × Nat)} {As : List Value} {st0 : List Value} {QL : Int32 → sx_F → (Nat → Int64) → Prop} (d : decode cc pc = .ok (.invokestatic index, 3))
    (ct : sx_MetW l D G b1 n1 lay1 bo y bytes maxL hh fr lo mc ms As (f, o) QL) (hcode : Cond.codeWith y bytes maxL (some .int) hh ∈ sx_ws) (hini : Cond.initialized y.cls ∈ sx_ws) (hstat : Cond.static y ∈ sx_ws) (hlink : Cond.methodLink own index y ∈ sx_ws) (hy : y.cls ≠ "java/lang/invoke/MethodHandle" ∧ y.cls ≠ "java/lang/invoke/VarHandle" ∧ (parseMethodDescriptor y.desc).map (fun d => d.parameters.length) = some na) (hn : As.length = na) (hst : st0 = As.reverse ++ st)
    (hR : (fr + 1 ≤ R.frames ∧ 8 + (maxL + 11) + lo ≤ R.locals) ∧ cells + mc ≤ R.cells ∧ slots + ms ≤ R.slots) (hcat : (st.map fun v => v.category).sum ≤ 8) (q : Nat) (hq : pc + 3 = q)
    (kk : ∀ (r : Int32) (f1 : sx_F) (o1 : Nat → Int64), QL r f1 o1 → sx_J (sx_wl D G b1 n1 lay1 b2 n2 lay2 bo) p l e R s m args below meth c A nL (cells + mc) (slots + ms) Q (f1, g, o1) q lv (.int r :: st)) :
    sx_J (sx_wl D G b1 n1 lay1 b2 n2 lay2 bo) p l e R s m args below meth c A nL cells slots Q (f, g, o) pc lv st0 := by
  subst hq
  intro H locs ls hP hS hls
  have hG : GoodIn sx_ws (va_wsS own index y (Cond.codeWith y bytes maxL (some .int) hh :: sx_ws)) := fun w hw => by
    have h1 : w ∈ sx_ws := by
      simp only [va_wsS, List.mem_append, List.mem_cons, List.not_mem_nil, or_false] at hw
      rcases hw with (rfl | rfl | rfl) | rfl | hw <;> assumption
    exact ⟨h1, good_of_word (List.mem_filter.mp h1).2⟩
  have cw : vx_CSW R s args own index y bytes maxL (some .int) hh (Cond.codeWith y bytes maxL (some .int) hh :: sx_ws) { frames := fr, cells := mc, slots := ms, locals := lo } mc ms na := vx_cwSW na C.2.2.2.2.1 hG rfl rfl rfl hy hR.1
  have hsub : ∀ q, sx_AW b1 n1 bo H.size q → A q := fun q hq => by
    rcases hq with ⟨h2, h3⟩ | rfl | h2
    · have h4 := hB (q - b1) (by omega)
      rw [show b1 + (q - b1) = q by omega] at h4
      exact h4
    · exact hA
    · exact C.2.2.2.2.2.1 q (Nat.le_trans hS.1 h2)
  have hr := vx_runSX (As := As) (rest := st) (l := l) (below := below) (meth := meth) (locs := locs) (cells := cells) (slots := slots) (e := e) (H := H) (g := F0 m pc ls st0) ⟨C.1, C.2.1, C.2.2.1, C.2.2.2.1, C.2.2.2.2.1⟩ (ct H.size) cw ⟨sx_blindW, fun U hU hW => ⟨rfl, by rw [hU], by rw [hU]; exact ⟨hP.1, hP.2.2⟩, by
    rw [hU]
    exact ((C.2.2.2.2.2.2.2.2.kept hS.2.1).narrow hsub).warm hW, hNC.warm hW⟩⟩ rfl hn hls.1 hst (lv_room (pc := pc) hcat) d hR.2
  exact sx_back hr hS (fun q _ h => hsub q h) hsub (fun v u H1 locs1 hq hP1 h1 h2 hS1 => by
    obtain ⟨r, rfl, hq⟩ := hq
    exact kk r u.1 u.2 hq H1 locs1 ls ⟨hP1.1, sx_keptW hP.2.1 h2 (fun k hk hlt z => by rcases z with ⟨_, z⟩ | z | z <;> omega), hP1.2⟩ hS1 hls) (fun E ce q9 u H1 locs1 hx hP1 h1 h2 hS1 h3 h4 h5 => hx.elim)
/-- the script's cells -/
theorem sx_sld {σ : Type} {wd : σ → Heap → Prop} {u : σ} (C : sx_Cx p l s m args meth c D G A cc nL own) {bs L : Nat} {xs : Nat → Int32} (hX : va_X bs L xs s s.heap) (hbl : bs < s.heap.size) (hbA : ¬ A bs) {i : Int32} (hin : vp_in i L) (d : decode cc pc = .ok (.iaload, 1)) (q : Nat) (hq : pc + 1 = q) (k : sx_J wd p l e R s m args below meth c A nL cells slots Q u q lv (.int (xs i.toNatClampNeg) :: st)) : sx_J wd p l e R s m args below meth c A nL cells slots Q u pc lv (.int i :: .ref bs :: st) := by
  subst hq
  exact fun H locs ls hP hS hl => va_sld C.1 C.2.1 hX hbl hbA hS hin d (k H locs ls hP hS hl)
theorem sx_slen {σ : Type} {wd : σ → Heap → Prop} {u : σ} (C : sx_Cx p l s m args meth c D G A cc nL own) {bs L : Nat} {xs : Nat → Int32} (hX : va_X bs L xs s s.heap) (hbl : bs < s.heap.size) (hbA : ¬ A bs) (d : decode cc pc = .ok (.arraylength, 1)) (q : Nat) (hq : pc + 1 = q) (k : sx_J wd p l e R s m args below meth c A nL cells slots Q u q lv (.int (Int32.ofNat L) :: st)) : sx_J wd p l e R s m args below meth c A nL cells slots Q u pc lv (.ref bs :: st) := by
  subst hq
  exact fun H locs ls hP hS hl => va_slen C.1 C.2.1 hX hbl hbA hS d (k H locs ls hP hS hl)
theorem sx_lald (C : sx_Cx p l s m args meth c D G A cc nL own) (d : decode cc pc = .ok (.laload, 1)) (q : Nat) (hq : pc + 1 = q) (k : sx_J (sx_wl D G b1 n1 lay1 b2 n2 lay2 bo) p l e R s m args below meth c A nL cells slots Q (f, g, o) q lv (.long (o 0) :: st)) : sx_J (sx_wl D G b1 n1 lay1 b2 n2 lay2 bo) p l e R s m args below meth c A nL cells slots Q (f, g, o) pc lv (.int 0 :: .ref bo :: st) := by
  subst hq
  exact fun H locs ls hP hS hls => va_lald C.1 C.2.1 C.2.2.2.2.2.2.2.2.1 hP.2.2 0 4 (n := 1) rfl rfl (by unfold vp_in; decide) d (k H locs ls hP hS hls)
theorem sx_tabIn {σ : Type} {wd : σ → Heap → Prop} {u : σ} (C : sx_Cx p l s m args meth c D G A cc nL own) {dflt lo hi : Int} {offs : Array Int} {len : Nat} {x : Int32} (d : decode cc pc = .ok (.tableswitch dflt lo hi offs, len)) (h1 : ¬ x.toInt < lo) (h2 : ¬ hi < x.toInt) (off : Int) (tgt : Nat) (ho : offs[(x.toInt - lo).toNat]? = some off) (ht : (pc : Int) + off = (tgt : Int)) (k : sx_J wd p l e R s m args below meth c A nL cells slots Q u tgt lv st) : sx_J wd p l e R s m args below meth c A nL cells slots Q u pc lv (.int x :: st) := fun H locs ls hP hS hl => lv_tableIn C.1 C.2.1 d h1 h2 ho ht (k H locs ls hP hS hl)
theorem sx_tabOut {σ : Type} {wd : σ → Heap → Prop} {u : σ} (C : sx_Cx p l s m args meth c D G A cc nL own) {dflt lo hi : Int} {offs : Array Int} {len : Nat} {x : Int32} (d : decode cc pc = .ok (.tableswitch dflt lo hi offs, len)) (h : x.toInt < lo ∨ hi < x.toInt) (tgt : Nat) (ht : (pc : Int) + dflt = (tgt : Int)) (k : sx_J wd p l e R s m args below meth c A nL cells slots Q u tgt lv st) : sx_J wd p l e R s m args below meth c A nL cells slots Q u pc lv (.int x :: st) := fun H locs ls hP hS hl => lv_tableOut C.1 C.2.1 d h ht (k H locs ls hP hS hl)
end SL
