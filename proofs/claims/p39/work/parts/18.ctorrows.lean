/-! CONSTRUCTORS: the cells made since b, in their order; the heap ends behind them -/
def sx_wc (D : va_G) (b : Nat) (w : va_W) (H : Heap) : Prop := va_P D vwCl w H ∧ H.size = b + w.length ∧ ∀ (k : Nat) (q : Nat × va_E), w[k]? = some q → q.1 = b + k
def sx_AC (b : Nat) : Nat → Prop := fun q => b ≤ q
def sx_PreC (D : va_G) (G : sx_G) (b : Nat) (as : List Value) (w : va_W) : Array Value → State → Prop := va_Pc as (fun U => sx_wc D b w U.heap ∧ sx_V D G (sx_AC b) U U.heap)
def sx_QC (D : va_G) (b : Nat) (w : va_W) : Array Value → State → Outcome → State → Prop := fun _ st o t => (o = .returned none ∧ sx_wc D b w t.heap) ∧ va_F (sx_AC b) st t
def sx_MetC (l : Launch) (D : va_G) (G : sx_G) (y : MethodName) (cc : ByteArray) (maxL fr lo mc ms : Nat) (as : List Value) (b : Nat) (w w1 : va_W) : Prop :=
  Met l y (Cond.code y cc maxL none :: sx_ws) { frames := fr, cells := mc, slots := ms, locals := lo } (sx_PreC D G b as w) (sx_QC D b w1) mc ms (sx_AC b)
theorem sx_wc_D {D : va_G} {b : Nat} {w : va_W} {H : Heap} (h : sx_wc D b w H) : va_D (sx_AC b) w := by
  refine ⟨fun i j p q hi hj e => ?_, fun k q hk => ?_⟩
  · have h1 := h.2.2 i p hi
    have h2 := h.2.2 j q hj
    omega
  · have h1 := h.2.2 k q hk
    show b ≤ q.1
    omega
theorem sx_wc_set {D : va_G} {b k : Nat} {w : va_W} {H H1 : Heap} {e0 e : va_E} (h : sx_wc D b w H) (hk : w[k]? = some (b + k, e0)) (hP : va_P D vwCl (w.set k (b + k, e)) H1) (hz : H1.size = H.size) : sx_wc D b (w.set k (b + k, e)) H1 := by
  refine ⟨hP, by rw [hz, List.length_set]; exact h.2.1, fun i q hi => ?_⟩
  by_cases hik : k = i
  · subst hik
    rw [List.getElem?_set_self (List.getElem?_eq_some_iff.mp hk).1] at hi
    rw [← Option.some.inj hi]
  · rw [List.getElem?_set_ne hik] at hi
    exact h.2.2 i q hi
theorem sx_wc_app {D : va_G} {b : Nat} {w : va_W} {H H1 : Heap} {e : va_E} (h : sx_wc D b w H) (hk : ∀ q : Nat, q < H.size → H1[q]? = H[q]?) (hz : H1.size = H.size + 1) (he : va_at D vwCl (b + w.length, e) H1) : sx_wc D b (w ++ [(b + w.length, e)]) H1 := by
  refine ⟨va_P.app (va_P.kept h.1 (fun k q hq => hk q.1 (h.1 k q hq).lt)) (fun k q hq => ?_), by rw [hz, h.2.1, List.length_append]; rfl, fun i q hi => ?_⟩
  · have h0 : k < 1 := (List.getElem?_eq_some_iff.mp hq).1
    have h1 : k = 0 := by omega
    subst h1
    cases hq
    exact he
  · by_cases hl : i < w.length
    · rw [List.getElem?_append_left hl] at hi
      exact h.2.2 i q hi
    · rw [List.getElem?_append_right (by omega)] at hi
      have h0 : i - w.length < 1 := (List.getElem?_eq_some_iff.mp hi).1
      have h1 : i - w.length = 0 := by omega
      rw [h1] at hi
      cases hi
      show b + w.length = b + i
      omega
theorem sx_outer (c : ClassId) (N h0 : Nat) : ∀ i : Nat, Jvm.Free.Multi.outerC c N h0 i = arrV c N (fun j => va_rf (if j < i then some (h0 + 1 + j) else none))
  | 0 => by
    show ({ cls := c, slots := Array.replicate N .null, vm := .none } : Cell) = _
    rw [arrV_new]
    refine congrArg (arrV c N) (funext fun j => ?_)
    simp [va_rf]
  | i + 1 => by
    show (Jvm.Free.Multi.outerC c N h0 i).setSlot i (.ref (h0 + 1 + i)) = _
    rw [sx_outer c N h0 i, arrV_store]
    refine congrArg (arrV c N) (funext fun j => ?_)
    by_cases e : j = i
    · subst e
      simp [updV, va_rf]
    · by_cases h : j < i
      · simp [updV, e, h, Nat.lt_succ_of_lt h]
      · simp [updV, e, h, show ¬ j < i + 1 by omega]
section SK
variable {p : Program} {l : Launch} {e : Env} {R : Room} {s : State} {m : MethodId} {args : Array Value} {below : List Frame} {meth : Method} {c : Code} {D : va_G} {G : sx_G} {cc : ByteArray} {nL cells slots : Nat} {own : String} {Q : State → Prop} {pc : Nat} {lv : List (Nat × Value)} {st : List Value} {b : Nat} {w : va_W} {A : Nat → Prop}
theorem sx_kobj (C : sx_Cx p l s m args meth c D G A cc nL own) {σ : Type} {wd : σ → Heap → Prop} {u : σ} {a idx : Nat} (d : decode cc pc = .ok (.invokespecial idx, 3)) (hlink : Cond.methodLink own idx Lib.objectInit ∈ sx_ws) (hw : Cond.instanceMethod Lib.objectInit ∈ sx_ws ∧ Cond.code Lib.objectInit ⟨#[0xb1]⟩ 1 none ∈ sx_ws) (hR : 1 ≤ R.frames ∧ (st.map fun v => v.category).sum + 12 ≤ R.locals) (q : Nat) (hq : pc + 3 = q) (k : sx_J wd p l e R s m args below meth c A nL cells slots Q u q lv st) : sx_J wd p l e R s m args below meth c A nL cells slots Q u pc lv (.ref a :: st) := by
  subst hq
  exact fun H locs ls hP hS hls => W.objInit C.1 C.2.1 C.2.2.2.1 (C.2.2.2.2.1 _ hlink) (C.2.2.2.2.1 _ hw.1) (C.2.2.2.2.1 _ hw.2) (g := F0 m pc ls (.ref a :: st)) rfl (hls.1.trans C.2.2.1.symm) rfl d hR.1 (by show 2 * 0 + _ + 12 ≤ _; omega) (k H locs ls hP hS hls)
theorem sx_knew (C : sx_Cx p l s m args meth c D G (sx_AC b) cc nL own) {C0 : String} {T : u_T} {N ci index : Nat} (d : decode cc pc = .ok (.new index, 3)) (hin : ∀ w ∈ u_ws C0 T N, w ∈ sx_ws) (ty : Nat → FieldType) (hty : ∀ k, k < N → parseFieldDescriptor (T k).2.2.1 = some (ty k)) (hc : vwCl[ci]? = some (C0, T, N)) (hcl : Cond.classLink own index C0 ∈ sx_ws) (hinst : Cond.instantiable C0 N ∈ sx_ws) (hini : Cond.initialized C0 ∈ sx_ws) {fs : List Value} (hfs : ∀ j, j < N → defaultValue (ty j) = vp_V fs j) (hR : cells + 1 ≤ R.cells ∧ slots + N ≤ R.slots) (z : Nat) (hz : w.length = z) (w1 : va_W) (hw : w ++ [(b + z, .inr (ci, fs))] = w1) (q : Nat) (hq : pc + 3 = q)
    (kk : sx_J (sx_wc D b) p l e R s m args below meth c (sx_AC b) nL (cells + 1) (slots + N) Q w1 q lv (.ref (b + z) :: st)) : sx_J (sx_wc D b) p l e R s m args below meth c (sx_AC b) nL cells slots Q w pc lv st := by
  subst hq
  subst hz
  subst hw
  intro H locs ls hP hS hls
  have hKn := C.2.2.2.2.2.2.2.2.1.1 ci _ hc
  refine W.newcK C.1 C.2.1 C.2.2.2.1 (C.2.2.2.2.1 _ hcl) (C.2.2.2.2.1 _ hinst) (C.2.2.2.2.1 _ hini) rfl d hR.1 hR.2 hKn.2.1 rfl fun H1 kC hkC e1 z1 o1 => ?_
  have hb : H.size = b + w.length := hP.2.1
  have h := kk H1 locs ls (sx_wc_app hP o1 z1 (by rw [← hb]; exact ⟨_, hc, (u_born ty C.2.2.2.2.1 hin hKn hkC e1 hty).to hfs⟩)) ⟨Nat.le_trans hS.1 (by omega), fun x h1 h2 => (o1 x (Nat.lt_of_lt_of_le h1 hS.1)).trans (hS.2.1 x h1 h2), hS.2.2⟩ hls
  rw [← hb] at h
  exact h
theorem sx_knewa (C : sx_Cx p l s m args meth c D G (sx_AC b) cc nL own) {atype : ArrayType} {ty : FieldType} {cA : ClassId} (d : decode cc pc = .ok (.newarray atype, 2)) (hty : newarray.typeOf atype = ty) (harr : Cond.arrayClass (newarray.typeOf atype) ∈ sx_ws) (t0 : Nat) (ht : (sx_tys G)[t0]? = some (cA, ty)) (hob : ∀ C, ty ≠ .object C) {n : Int32} {N : Nat} {a0 : vp_A} (ha : ∀ cA : ClassId, vp_cell cA a0 = arrV cA N (fun _ => defaultValue ty)) (hn : ¬ n < 0) (hN : n.toNatClampNeg = N) (hbytes : N * componentBytes ty ≤ 536870912) (hR : cells + 1 ≤ R.cells ∧ slots + N ≤ R.slots) (z : Nat) (hz : w.length = z) (w1 : va_W) (hw : w ++ [(b + z, .inl (cA, a0))] = w1) (q : Nat) (hq : pc + 2 = q)
    (kk : sx_J (sx_wc D b) p l e R s m args below meth c (sx_AC b) nL (cells + 1) (slots + N) Q w1 q lv (.ref (b + z) :: st)) : sx_J (sx_wc D b) p l e R s m args below meth c (sx_AC b) nL cells slots Q w pc lv (.int n :: st) := by
  subst hq
  subst hz
  subst hw
  subst hty
  intro H locs ls hP hS hls
  have hb : H.size = b + w.length := hP.2.1
  refine va_newaK C.1 C.2.1 (C.2.2.2.2.1 _ harr) rfl d rfl hn hN hbytes hR.1 hR.2 rfl fun H1 cB e1 z1 o1 hAr hNm => ?_
  have hra := (C.2.2.2.2.2.2.2.2.1.2 t0 _ ht).2
  have hcls : s.vm.findClass ("[" ++ (newarray.typeOf atype).toString) = some cA := by
    revert hra hob
    generalize newarray.typeOf atype = ty0
    intro hob hra
    cases ty0 with
    | object C1 => exact absurd rfl (hob C1)
    | _ => exact hra
  have hcc : cB = cA := Option.some.inj (hNm.symm.trans hcls)
  subst hcc
  have h := kk H1 locs ls (sx_wc_app hP o1 z1 (by rw [← hb]; show H1[H.size]? = some (vp_cell _ _); rw [ha]; exact e1)) ⟨Nat.le_trans hS.1 (by omega), fun x h1 h2 => (o1 x (Nat.lt_of_lt_of_le h1 hS.1)).trans (hS.2.1 x h1 h2), hS.2.2⟩ hls
  rw [← hb] at h
  exact h
theorem sx_knewq (C : sx_Cx p l s m args meth c D G (sx_AC b) cc nL own) {C0 : String} {index : Nat} {cA : ClassId} (d : decode cc pc = .ok (.anewarray index, 3)) (hcl : Cond.classLink own index C0 ∈ sx_ws) (hover : Cond.arrayOver (.object C0) ∈ sx_nw) (t0 : Nat) (ht : (sx_tys G)[t0]? = some (cA, .object C0)) {n : Int32} {N : Nat} (hn : ¬ n < 0) (hN : n.toNatClampNeg = N) (hbytes : N * 4 ≤ 536870912) (hR : cells + 1 ≤ R.cells ∧ slots + N ≤ R.slots) (z : Nat) (hz : w.length = z) (w1 : va_W) (hw : w ++ [(b + z, .inl (cA, N, .inr (.inr (.inr (.inr (fun _ => none))))))] = w1) (q : Nat) (hq : pc + 3 = q)
    (kk : sx_J (sx_wc D b) p l e R s m args below meth c (sx_AC b) nL (cells + 1) (slots + N) Q w1 q lv (.ref (b + z) :: st)) : sx_J (sx_wc D b) p l e R s m args below meth c (sx_AC b) nL cells slots Q w pc lv (.int n :: st) := by
  subst hq
  subst hz
  subst hw
  subst hN
  intro H locs ls hP hS hls
  have hb : H.size = b + w.length := hP.2.1
  refine W.anew C.1 C.2.1 C.2.2.2.1 (C.2.2.2.2.1 _ hcl) (va_AO.use (C.2.2.2.2.2.2.2.2.2.1 _ hover)) rfl d rfl hn hbytes hR.1 hR.2 fun cB kA comp f1 f2 f3 f4 => ?_
  obtain ⟨kA2, comp2, -, -, -, hcls⟩ := (C.2.2.2.2.2.2.2.2.1.2 t0 _ ht).2
  have hcc : cB = cA := Option.some.inj (f1.symm.trans hcls)
  subst hcc
  generalize hH1 : H.push ({ cls := cB, slots := Array.replicate n.toNatClampNeg .null, vm := .none } : Cell) = H1
  have z1 : H1.size = H.size + 1 := by rw [← hH1, Array.size_push]
  have e1 : H1[H.size]? = some (arrV cB n.toNatClampNeg (fun _ => .null)) := by rw [← hH1, Array.getElem?_push_size, ← arrV_new]
  have o1 : ∀ q : Nat, q < H.size → H1[q]? = H[q]? := fun q hq => by rw [← hH1, Array.getElem?_push, if_neg (Nat.ne_of_lt hq)]
  have h := kk H1 locs ls (sx_wc_app hP o1 z1 (by rw [← hb]; show H1[H.size]? = some (vp_cell _ _); rw [vp_cell_q]; exact e1)) ⟨Nat.le_trans hS.1 (by omega), fun x h1 h2 => (o1 x (Nat.lt_of_lt_of_le h1 hS.1)).trans (hS.2.1 x h1 h2), hS.2.2⟩ hls
  rw [← hb] at h
  exact h
theorem sx_kget (C : sx_Cx p l s m args meth c D G (sx_AC b) cc nL own) {ref C0 : String} {T : u_T} {N ci index j : Nat} (d : decode cc pc = .ok (.getfield index, 3)) (hlink : Cond.fieldLink own index ref (T j).2.1 (T j).2.2.1 ∈ sx_ws) (hin : ∀ w ∈ u_ws C0 T N, w ∈ sx_ws) (hc : vwCl[ci]? = some (C0, T, N)) (hjN : j < N) (hsame : (T j).1 = ref) {k : Nat} {fs : List Value} {v : Value} (hk : w[k]? = some (b + k, .inr (ci, fs))) (hj : fs[j]? = some v) (q : Nat) (hq : pc + 3 = q) (kk : sx_J (sx_wc D b) p l e R s m args below meth c (sx_AC b) nL cells slots Q w q lv (v :: st)) : sx_J (sx_wc D b) p l e R s m args below meth c (sx_AC b) nL cells slots Q w pc lv (.ref (b + k) :: st) := by
  subst hq
  subst hsame
  intro H locs ls hP hS hls
  exact va_get C.1 C.2.1 (C.2.2.2.2.1) hin C.2.2.2.1 C.2.2.2.2.2.2.2.2.1 hP.1 k hk hc j hjN (C.2.2.2.2.1 _ hlink) (fun x h => h) hj d (kk H locs ls hP hS hls)
theorem sx_kput (C : sx_Cx p l s m args meth c D G (sx_AC b) cc nL own) {ref C0 : String} {T : u_T} {N ci index j : Nat} (d : decode cc pc = .ok (.putfield index, 3)) (hlink : Cond.fieldLink own index ref (T j).2.1 (T j).2.2.1 ∈ sx_ws) (hin : ∀ w ∈ u_ws C0 T N, w ∈ sx_ws) (hc : vwCl[ci]? = some (C0, T, N)) (ty : Nat → FieldType) (hty : ∀ k, k < N → parseFieldDescriptor (T k).2.2.1 = some (ty k)) (hnm : ∀ a, a < N → ∀ b, b < N → a ≠ b → (T a).2.1 ≠ (T b).2.1) (hjN : j < N) (hsame : (T j).1 = ref) (hfin : (T j).2.2.2 = false ∨ (meth.name = "<init>" ∧ (T j).1 = own)) {k : Nat} {fs : List Value} {v : Value} (hk : w[k]? = some (b + k, .inr (ci, fs))) (hj : j < fs.length) (hn : narrow (ty j) v = v) (hfit : fits (ty j) v = true) (w1 : va_W) (hw : w.set k (b + k, .inr (ci, fs.set j v)) = w1) (q : Nat) (hq : pc + 3 = q) (kk : sx_J (sx_wc D b) p l e R s m args below meth c (sx_AC b) nL cells slots Q w1 q lv st) : sx_J (sx_wc D b) p l e R s m args below meth c (sx_AC b) nL cells slots Q w pc lv (v :: .ref (b + k) :: st) := by
  subst hq
  subst hsame
  subst hw
  intro H locs ls hP hS hls
  have hd := hty j hjN
  have hlt : b + k < H.size := (hP.1 k _ hk).lt
  have hap := va_apart (own := own) C.2.2.2.2.1 hin ty hty hnm C.2.2.2.2.2.2.2.2.1 hc
  obtain ⟨r, h1, cell, q1, q2, q3, q4⟩ := hP.1 k _ hk
  have hr : r = (C0, T, N) := Option.some.inj (h1.symm.trans hc)
  subst hr
  obtain ⟨hSl, hfc, kC, hkC, hkind⟩ := C.2.2.2.2.2.2.2.2.1.1 ci _ hc
  obtain ⟨cf, kf, fi, f, hi, hsl⟩ := hSl j hjN
  have hst := (u_facts hfc hkC (u_lays C.2.2.2.2.1 hin hjN) hi).1
  have fin : ∀ (H' : Heap), H'[b + k]? = some (cell.setSlot f.slot v) → H'.size = H.size → (∀ q, q ≠ b + k → H'[q]? = H[q]?) → W p l e R s m args below meth c H' (locs ++ [⟨b + k, f.slot⟩]) cells slots Q (F0 m (pc + 3) ls st) := fun H' e1 e2 e3 => by
    rw [hsl] at e1 ⊢
    exact kk H' _ ls (sx_wc_set hP hk (va_P.set (A := sx_AC b) hP.1 (sx_wc_D hP) hk ⟨_, hc, t_OB.to (V := updV (vp_V fs) j v) ⟨_, e1, q2, q3, t_set q4 hap hjN v⟩ (fun i _ => vp_updV_set hj v i)⟩ e3) e2) (hS.put e2 e3 (Nat.le_add_right b k)) hls
  rcases hfin with hfin | ⟨hin2, hdecl⟩
  · have hlay := C.2.2.2.2.1 _ (hin _ (u_in_lay hjN))
    unfold u_lay at hlay
    rw [if_neg (by rw [hfin]; decide)] at hlay
    have h6 := u_store hfc hkC hkind hlay hi hd hn hfit
    exact W.putK C.1 C.2.1 (f := f) ⟨C.2.2.2.1, C.2.2.2.2.1 _ hlink, ⟨_, _, _, hi⟩, hst⟩ (by rw [q2]; exact h6) q1 q3 (by rw [hsl]; exact k2_hasslot (q4 j hjN)) rfl rfl d fin
  · by_cases hff : (T j).2.2.2 = true
    · have hlay := C.2.2.2.2.1 _ (hin _ (u_in_lay hjN))
      unfold u_lay at hlay
      rw [if_pos hff] at hlay
      have hcf : m.cls = cf := by
        obtain ⟨_, _, c', _, _, _, -, -, hf', -, -, -, hown2, -⟩ := Cond.laysFinal_spec hlay
        have e1 : c' = cf := by have := hi.symm.trans hf'; simp at this; exact this.1.symm
        rw [hdecl] at hown2
        rw [← e1]; exact Option.some.inj (C.2.2.2.1.symm.trans hown2)
      have h6 := u_fits hfc hkC hkind (Or.inr hlay) hi hd hn hfit
      exact W.putFinK C.1 C.2.1 C.2.2.2.1 (C.2.2.2.2.1 _ hlink) hi hst hcf hin2 (by rw [q2]; exact h6) q1 q3 (by rw [hsl]; exact k2_hasslot (q4 j hjN)) rfl rfl d fin
    · have hff : (T j).2.2.2 = false := by cases hz : (T j).2.2.2 <;> first | rfl | exact absurd hz hff
      have hlay := C.2.2.2.2.1 _ (hin _ (u_in_lay hjN))
      unfold u_lay at hlay
      rw [if_neg (by rw [hff]; decide)] at hlay
      have h6 := u_store hfc hkC hkind hlay hi hd hn hfit
      exact W.putK C.1 C.2.1 (f := f) ⟨C.2.2.2.1, C.2.2.2.2.1 _ hlink, ⟨_, _, _, hi⟩, hst⟩ (by rw [q2]; exact h6) q1 q3 (by rw [hsl]; exact k2_hasslot (q4 j hjN)) rfl rfl d fin
theorem sx_kast (C : sx_Cx p l s m args meth c D G (sx_AC b) cc nL own) {k k2 ci t0 N : Nat} {cA : ClassId} {r : vw_C} {vs : List Value} {g : Nat → Option Nat} {i : Int32} (d : decode cc pc = .ok (.aastore, 1)) (hk : w[k]? = some (b + k, .inl (cA, N, .inr (.inr (.inr (.inr g)))))) (ht : (sx_tys G)[t0]? = some (cA, .object r.1)) (hv : w[k2]? = some (b + k2, .inr (ci, vs))) (hc : vwCl[ci]? = some r) (hin : vp_in i N) (w1 : va_W) (hw : w.set k (b + k, .inl (cA, N, .inr (.inr (.inr (.inr (va_up g i.toNatClampNeg (some (b + k2)))))))) = w1) (q : Nat) (hq : pc + 1 = q) (kk : sx_J (sx_wc D b) p l e R s m args below meth c (sx_AC b) nL cells slots Q w1 q lv st) : sx_J (sx_wc D b) p l e R s m args below meth c (sx_AC b) nL cells slots Q w pc lv (.ref (b + k2) :: .int i :: .ref (b + k) :: st) := by
  subst hq
  subst hw
  intro H locs ls hP hS hls
  have hlt : i.toNatClampNeg < N := Nat.not_le.mp fun q => hin (Or.inr q)
  have h0 : ¬ i < 0 := fun q => hin (Or.inl q)
  obtain ⟨r', hr', cellV, g1, g2, g3, -⟩ := hP.1 k2 _ hv
  have hcls := (C.2.2.2.2.2.2.2.2.1.1 ci r hc).2
  obtain ⟨kA, comp, k1, k4, k3, -⟩ := (C.2.2.2.2.2.2.2.2.1.2 t0 _ ht).2
  have hcomp : comp = D.1 ci := Option.some.inj (k3.symm.trans hcls.1)
  subst hcomp
  obtain ⟨kC, hkC, -⟩ := hcls.2
  refine W.aast C.1 C.2.1 (hP.1 k _ hk) (fun q h => by cases h) (fun h => by cases h) k1 k4 rfl hkC ⟨h0, by show _ < (arrV _ _ _).slots.size; rw [arrV_size]; exact hlt⟩ g1 (fun q h => by rw [g3] at h; cases h) (by rw [g2]; exact hkC) (by rw [g2]; exact va_assign hcls) rfl rfl d fun H1 e z oq => ?_
  refine kk H1 _ ls (sx_wc_set hP hk (va_P.set (A := sx_AC b) hP.1 (sx_wc_D hP) hk ?_ oq) z) (hS.put z oq (Nat.le_add_right b k)) hls
  show H1[b + k]? = some (vp_cell _ _)
  rw [e]
  rw [vp_cell_q, vp_cell_q, arrV_store]
  congr 2
  funext q
  by_cases hq : q = i.toNatClampNeg
  · subst hq
    simp [updV, va_up, va_rf]
  · simp [updV, va_up, hq]
theorem sx_kmna (C : sx_Cx p l s m args meth c D G (sx_AC b) cc nL own) {index N M : Nat} {n k : Int32} (g : Nat → Option Nat) (d : decode cc pc = .ok (.multianewarray index 2, 4)) (hcl : Cond.classLink own index ("[" ++ (FieldType.array FieldType.int).toString) ∈ sx_ws) (hover : Cond.arrayOver (.array .int) ∈ sx_nw) (harr : Cond.arrayClass .int ∈ sx_ws) (hn : ¬ n < 0) (hk : ¬ k < 0) (hN : n.toNatClampNeg = N) (hM : k.toNatClampNeg = M) (hb1 : N * 4 ≤ 536870912 ∧ M * 4 ≤ 536870912 ∧ M ≤ 536870912) (hR : cells + (1 + N) ≤ R.cells ∧ slots + (N + N * M) ≤ R.slots) (z : Nat) (hz : w.length = z) (hg : ∀ i, i < N → g i = some (b + (z + 1 + i))) (w1 : va_W) (hw : w ++ ((b + z, .inl (G.2 2, N, .inr (.inr (.inr (.inr g))))) :: (List.range N).map (fun j => ((b + (z + 1 + j), .inl (G.1, M, .inl (fun _ => 0))) : Nat × va_E))) = w1) (q : Nat) (hq : pc + 4 = q)
    (kk : sx_J (sx_wc D b) p l e R s m args below meth c (sx_AC b) nL (cells + 1 + N) (slots + N + N * M) Q w1 q lv (.ref (b + z) :: st)) : sx_J (sx_wc D b) p l e R s m args below meth c (sx_AC b) nL cells slots Q w pc lv (.int k :: .int n :: st) := by
  subst hq
  subst hz
  subst hw
  subst hN
  subst hM
  intro H locs ls hP hS hls T hT Xs
  have hb : H.size = b + w.length := hP.2.1
  obtain ⟨vm₁, cA, comp, -, fA, fC, hO, -, X', step⟩ := Xs.multianewarray2F (ty := .int) C.1 C.2.2.2.1 (C.2.2.2.2.1 _ hcl) (C.2.2.2.2.2.2.2.2.2.1 _ hover) (C.2.2.2.2.1 _ harr) (g := F0 m pc ls (.int k :: .int n :: st)) rfl (by rw [C.2.1]; exact d) rfl hn hk hb1.1 hb1.2.1 hb1.2.2 rfl rfl hR.1 hR.2
  have e1 : G.2 2 = cA := Option.some.inj (((C.2.2.2.2.2.2.2.2.1.2 3 _ rfl).2 : s.vm.findClass _ = some (G.2 2)).symm.trans fA)
  have e2 : G.1 = comp := Option.some.inj (((C.2.2.2.2.2.2.2.2.1.2 0 _ rfl).2 : s.vm.findClass _ = some G.1).symm.trans fC)
  generalize hF : Jvm.Free.Multi.fill (T.setVm vm₁) cA comp n.toNatClampNeg k.toNatClampNeg (defaultValue .int) n.toNatClampNeg = F at X' step
  have hTh : (T.setVm vm₁).heap = H := hT
  obtain ⟨f1, f2, -, -⟩ := Jvm.Free.Multi.fill_facts (T.setVm vm₁) cA comp n.toNatClampNeg k.toNatClampNeg (defaultValue .int) n.toNatClampNeg
  rw [hF, hTh] at f1 f2
  have hold : ∀ x : Nat, x < H.size → F.heap[x]? = H[x]? := fun x hx => by
    have := Jvm.Free.Multi.fill_old (T.setVm vm₁) cA comp n.toNatClampNeg k.toNatClampNeg (defaultValue .int) (a := x) (by rw [hTh]; exact hx) n.toNatClampNeg
    rw [hF, hTh] at this
    exact this
  have hrow : ∀ j : Nat, j < n.toNatClampNeg → F.heap[H.size + 1 + j]? = some (arrV comp k.toNatClampNeg (fun _ => .int 0)) := fun j hj => by
    have := Jvm.Free.Multi.fill_inner (T.setVm vm₁) cA comp n.toNatClampNeg k.toNatClampNeg (defaultValue .int) n.toNatClampNeg j hj
    rw [hF, hTh] at this
    rw [this]
    show some ({ cls := comp, slots := Array.replicate k.toNatClampNeg (.int 0), vm := .none } : Cell) = _
    rw [arrV_new]
  have hout : Jvm.Free.Multi.outerC cA n.toNatClampNeg H.size n.toNatClampNeg = vp_cell cA (n.toNatClampNeg, .inr (.inr (.inr (.inr g)))) := by
    rw [vp_cell_q, sx_outer cA n.toNatClampNeg H.size n.toNatClampNeg]
    unfold arrV
    congr 1
    apply congrArg
    funext j
    show va_rf (if j.val < n.toNatClampNeg then some (H.size + 1 + j.val) else none) = va_rf (g j.val)
    rw [hg j.val j.isLt, if_pos j.isLt, hb, show b + w.length + 1 + j.val = b + (w.length + 1 + j.val) by omega]
  rw [hout] at f2
  have hnew : sx_wc D b (w ++ ((b + w.length, .inl (G.2 2, n.toNatClampNeg, .inr (.inr (.inr (.inr g))))) :: (List.range n.toNatClampNeg).map (fun j => ((b + (w.length + 1 + j), .inl (G.1, k.toNatClampNeg, .inl (fun _ => 0))) : Nat × va_E)))) F.heap := by
    have hlist : ∀ (i : Nat) (q : Nat × va_E), ((b + w.length, .inl (G.2 2, n.toNatClampNeg, .inr (.inr (.inr (.inr g))))) :: (List.range n.toNatClampNeg).map (fun j => ((b + (w.length + 1 + j), .inl (G.1, k.toNatClampNeg, .inl (fun _ => 0))) : Nat × va_E)))[i]? = some q → q.1 = b + (w.length + i) ∧ va_at D vwCl q F.heap := fun i q hi => by
      cases i with
      | zero =>
        have h1 : ((b + w.length, .inl (G.2 2, n.toNatClampNeg, .inr (.inr (.inr (.inr g))))) : Nat × va_E) = q := by simpa using hi
        subst h1
        refine ⟨rfl, ?_⟩
        show F.heap[b + w.length]? = some (vp_cell (G.2 2) _)
        rw [← hb, e1]
        exact f2
      | succ j =>
        rw [List.getElem?_cons_succ, List.getElem?_map] at hi
        by_cases hj : j < n.toNatClampNeg
        · rw [List.getElem?_range hj] at hi
          have h1 := Option.some.inj hi
          subst h1
          refine ⟨by show b + (w.length + 1 + j) = b + (w.length + (j + 1)); omega, ?_⟩
          show F.heap[b + (w.length + 1 + j)]? = some (vp_cell G.1 _)
          rw [vp_cell_i, e2, show b + (w.length + 1 + j) = H.size + 1 + j by omega]
          exact hrow j hj
        · rw [List.getElem?_eq_none (by rw [List.length_range]; omega)] at hi
          cases hi
    refine ⟨va_P.app (va_P.kept hP.1 (fun k q hq => hold q.1 (hP.1 k q hq).lt)) (fun i q hi => (hlist i q hi).2), by rw [f1, hb, List.length_append, List.length_cons, List.length_map, List.length_range]; omega, fun i q hi => ?_⟩
    by_cases hlk : i < w.length
    · rw [List.getElem?_append_left hlk] at hi
      exact hP.2.2 i q hi
    · rw [List.getElem?_append_right (by omega)] at hi
      have h3 := (hlist _ q hi).1
      omega
  obtain ⟨t, a1, b1⟩ := kk F.heap locs ls hnew ⟨by rw [f1]; have := hS.1; omega, fun x h1 h2 => (hold x (Nat.lt_of_lt_of_le h1 hS.1)).trans (hS.2.1 x h1 h2), hS.2.2⟩ hls F rfl X'
  refine ⟨t, step t ?_, b1⟩
  have e : T.heap.size = b + w.length := by rw [hT, hb]
  rw [e]
  exact a1
/-- another function that says the same of an array's cells -/
theorem sx_kref {k N : Nat} {cA : ClassId} {g : Nat → Option Nat} (g1 : Nat → Option Nat) (hk : w[k]? = some (b + k, .inl (cA, N, .inr (.inr (.inr (.inr g)))))) (hg : ∀ i, i < N → g i = g1 i) (w1 : va_W) (hw : w.set k (b + k, .inl (cA, N, .inr (.inr (.inr (.inr g1))))) = w1) (kk : sx_J (sx_wc D b) p l e R s m args below meth c A nL cells slots Q w1 pc lv st) : sx_J (sx_wc D b) p l e R s m args below meth c A nL cells slots Q w pc lv st := by
  subst hw
  intro H locs ls hP hS hls
  refine kk H locs ls (sx_wc_set hP hk (va_P.set (A := sx_AC b) hP.1 (sx_wc_D hP) hk ?_ (fun _ _ => rfl)) rfl) hS hls
  have h1 := hP.1 k _ hk
  show H[b + k]? = some (vp_cell _ _)
  have h2 : H[b + k]? = some (vp_cell cA (N, .inr (.inr (.inr (.inr g))))) := h1
  rw [h2, vp_cell_q, vp_cell_q]
  unfold arrV
  congr 2
  apply congrArg
  funext j
  show va_rf (g j.val) = va_rf (g1 j.val)
  rw [hg j.val j.isLt]
theorem sx_kinit (C : sx_Cx p l s m args meth c D G (sx_AC b) cc nL own) {y : MethodName} {bytes : ByteArray} {maxL index na fr lo mc ms : Nat} {As : List Value} {st0 : List Value} {w0 wc wd : va_W} (d : decode cc pc = .ok (.invokespecial index, 3)) (z : Nat)
    (ct : sx_MetC l D G y bytes maxL fr lo mc ms (.ref (b + z) :: As) (b + z) wc wd) (hy : sx_Mi y bytes maxL none na) (host : String) (hlink : Cond.methodLink own index y ∈ sx_ws ∨ Cond.methodLinkNest own index y host ∈ sx_nw) (hinst : Cond.instanceMethod y ∈ sx_ws) (hnm : y.name = "<init>") (hn : As.length = na) (hst : st0 = As.reverse ++ .ref (b + z) :: st)
    (hR : (fr + 1 ≤ R.frames ∧ 8 + (maxL + 11) + lo ≤ R.locals) ∧ cells + mc ≤ R.cells ∧ slots + ms ≤ R.slots) (hcat : (st.map fun v => v.category).sum ≤ 8) (hw : w = w0 ++ wc) (hz : w0.length = z) (w1 : va_W) (hw1 : w0 ++ wd = w1) (q : Nat) (hq : pc + 3 = q)
    (kk : sx_J (sx_wc D b) p l e R s m args below meth c (sx_AC b) nL (cells + mc) (slots + ms) Q w1 q lv st) : sx_J (sx_wc D b) p l e R s m args below meth c (sx_AC b) nL cells slots Q w pc lv st0 := by
  subst hq
  subst hw1
  subst hz
  intro H locs ls hP hS hls
  have hsz := hP.2.1
  rw [hw, List.length_append] at hsz
  have hV : ∀ U : State, U.heap = H → s.WarmedH U.vm → sx_V D G (sx_AC (b + w0.length)) U U.heap := fun U hU hW => by
    rw [hU]
    exact ((C.2.2.2.2.2.2.2.2.kept hS.2.1).narrow (fun q hq => Nat.le_trans (Nat.le_add_right _ _) hq)).warm hW
  have hwc : sx_wc D (b + w0.length) wc H := by
    refine ⟨fun k q hk => hP.1 (w0.length + k) q (by rw [hw, List.getElem?_append_right (by omega), show w0.length + k - w0.length = k by omega]; exact hk), by omega, fun k q hk => ?_⟩
    have h1 := hP.2.2 (w0.length + k) q (by rw [hw, List.getElem?_append_right (by omega), show w0.length + k - w0.length = k by omega]; exact hk)
    omega
  have hpre : PreS s H (sx_PreC D G (b + w0.length) (.ref (b + w0.length) :: As) wc) (.ref (b + w0.length) :: As) := ⟨fun a U g mk h => ⟨h.1, h.2.1, sx_V.warm (s := U) (U := U.calling g mk a) (State.WarmedH.refl U) h.2.2⟩, fun U hU hW => ⟨rfl, by rw [hU]; exact hwc, hV U hU hW⟩⟩
  have hr : va_Run p l e R s m args below meth c H locs cells slots mc ms (F0 m pc ls st0) st (sx_QC D (b + w0.length) wd (Value.ref (b + w0.length) :: As).toArray) (sx_AC (b + w0.length)) := by
    rcases hlink with hlink | hlink
    · have cb : CallB R s args own index y bytes maxL none (Cond.code y bytes maxL none :: sx_ws) { frames := fr, cells := mc, slots := ms, locals := lo } mc ms na := callB_of na C.2.2.2.2.1 (sx_gi hy.1) rfl rfl rfl (C.2.2.2.2.1 _ hy.2.1) (C.2.2.2.2.1 _ hlink) hy.2.2 hR.1
      exact va_runI (As := As) (rest := st) ⟨C.1, C.2.1, C.2.2.1, C.2.2.2.1, C.2.2.2.2.1⟩ ct ⟨cb, hnm, C.2.2.2.2.1 _ hinst⟩ hpre rfl hn hls.1 hst (lv_room (pc := pc) hcat) d hR.2
    · have cn := va_cnB (bytes := bytes) (maxL := maxL) (ret := none) (ws := Cond.code y bytes maxL none :: sx_ws) (rm := { frames := fr, cells := mc, slots := ms, locals := lo }) (mc := mc) (ms := ms) (R := R) na C.2.2.2.2.1 (sx_gi hy.1) rfl rfl rfl (C.2.2.2.2.2.2.2.2.2.1 _ hlink) (C.2.2.2.2.1 _ hy.2.1) hy.2.2 hR.1
      exact va_runIN (As := As) (rest := st) ⟨C.1, C.2.1, C.2.2.1, C.2.2.2.1, C.2.2.2.2.1⟩ ct ⟨cn, hnm, C.2.2.2.2.1 _ hinst⟩ hpre rfl hn hls.1 hst (lv_room (pc := pc) hcat) d hR.2
  intro T hT Xs
  obtain ⟨v, st₀, t, T', L, h0, X', hL, e1, e2, ⟨⟨hv, hwd⟩, hF⟩, go⟩ := hr T hT Xs
  have hvv : v = none := by injection hv
  subst hvv
  obtain ⟨hF1, hF2⟩ := hF
  rw [h0] at hF1 hF2
  have hw2 : sx_wc D b (w0 ++ wd) T'.heap := by
    rw [e1]
    refine ⟨va_P.app (va_P.kept (H := H) (fun k q hk => hP.1 k q (by rw [hw, List.getElem?_append_left (List.getElem?_eq_some_iff.mp hk).1]; exact hk)) (fun k q hk => ?_)) hwd.1, by rw [hwd.2.1, List.length_append]; omega, fun k q hk => ?_⟩
    · have hlk := (List.getElem?_eq_some_iff.mp hk).1
      have h3 := hP.2.2 k q (by rw [hw, List.getElem?_append_left hlk]; exact hk)
      exact hF2 q.1 (by omega) (fun z => by have : b + w0.length ≤ q.1 := z; omega)
    · by_cases hlk : k < w0.length
      · rw [List.getElem?_append_left hlk] at hk
        exact hP.2.2 k q (by rw [hw, List.getElem?_append_left hlk]; exact hk)
      · rw [List.getElem?_append_right (by omega)] at hk
        have h3 := hwd.2.2 _ q hk
        omega
  obtain ⟨t2, a1, b1⟩ := kk T'.heap (locs ++ L) ls hw2 ⟨Nat.le_trans hS.1 (by rw [e1]; exact hF1), fun q h1 h2 => by
    rw [e1, hF2 q (Nat.lt_of_lt_of_le h1 hS.1) (fun z => h2 (Nat.le_trans (Nat.le_add_right _ _) z))]
    exact hS.2.1 q h1 h2, fun q hq => by
      rcases List.mem_append.mp hq with h | h
      · exact hS.2.2 q h
      · exact Nat.le_trans (Nat.le_add_right _ _) (hL q h)⟩ hls T' rfl X'
  exact ⟨t2, go t2 a1, b1⟩
theorem sx_kret (C : sx_Cx p l s m args meth c D G (sx_AC b) cc nL own) {mc ms : Nat} (d : decode cc pc = .ok (.return_, 1)) (hr : meth.sig.returnType = none) (hc : cells ≤ mc) (hs : slots ≤ ms) : sx_J (sx_wc D b) p l e R s m args below meth c (sx_AC b) nL cells slots (MQ below (sx_QC D b w) args s mc ms (sx_AC b)) w pc lv [] := fun H locs ls hP hS hl =>
  W.widen hc hs (W.vret C.1 C.2.1 hr (fun t ht _ => ⟨⟨rfl, by rw [ht]; exact hP⟩, hS.F ht⟩) hS.2.2 d C.2.2.2.2.2.2.1)
theorem sx_enterC {y : MethodName} {maxL fr lo mc ms : Nat} {as : List Value} {w1 : va_W} (hl : l.stackTraces = false) (hy : plainName y.cls = true) (hown : y.cls = own) (hnm : y.name = "<init>") (hn : (lg_sl as).length ≤ maxL)
    (body : ∀ (p : Program) (e : Env) (s : State) (m : MethodId) (args : Array Value) (below : List Frame) (meth : Method) (c : Code), sx_Cx p l s m args meth c D G (sx_AC b) cc maxL own → meth.sig.returnType = none → meth.name = "<init>" → b ≤ s.heap.size →
      sx_J (sx_wc D b) p l e { frames := fr, cells := mc, slots := ms, locals := lo } s m args below meth c (sx_AC b) maxL 0 0 (MQ below (sx_QC D b w1) args s mc ms (sx_AC b)) w 0 (lv_args 0 as) []) : sx_MetC l D G y cc maxL fr lo mc ms as b w w1 := by
  refine Met.ofW (cc := cc) (maxL := maxL) (ret := none) hy rfl ?_
  intro p e s m args below meth c s₁ B hml hv
  obtain ⟨rfl, hP, hV⟩ := hv
  have hle : b ≤ s.heap.size := by have := hP.2.1; omega
  have hts := atoms_spec (ws := Cond.code y cc maxL none :: sx_ws) B.pre
  have hC : sx_Cx p l s m as.toArray meth c D G (sx_AC b) cc maxL own := ⟨B.exec, B.bytes, hml, hown ▸ findClass_of_methodNamed B.named, fun w hw => hts w (List.mem_cons_of_mem _ hw), fun q hq => Nat.le_trans hle hq, B.notSynchronized, hl, hV⟩
  rw [lg_entry_eq]
  exact body p e s m as.toArray below meth c hC B.returns (((name_of_methodNamed B.named B.method).1).trans hnm) hle s.heap [] _ hP va_S.rf (lv_entry as hn)
end SK
