/-! THE LAW'S LAYER: its world is the class's cells from b on, and the law's own arrays, number j at ad j (cn of them; the ninth is made and left by isBook) -/
abbrev sl_O : Type := Nat → Nat → Int64
abbrev sl_U : Type := sx_F × sx_F × sl_O
def sl_ar : Nat → Nat × Bool
  | 0 => (30, true) | 1 => (30, false) | 2 => (30, false) | 3 => (6, false) | 4 => (48, false) | 5 => (30, true) | 6 => (48, true) | 7 => (5, false) | _ => (30, false)
def sl_e (G : sx_G) (q : Nat × Bool) (g : Nat → Int32) (o : Nat → Int64) : va_E := match q.2 with
  | true => .inl (G.2 3, q.1, .inr (.inl o))
  | false => .inl (G.1, q.1, .inl g)
def sl_w (G : sx_G) (ad : Nat → Nat) (n : Nat) (a : sx_F) (o : sl_O) : va_W := (List.range n).map fun j => (ad j, sl_e G (sl_ar j) (a j) (o j))
def sl_uL (o : sl_O) (k j : Nat) (v : Int64) : sl_O := fun i => if i = k then vp_updL (o k) j v else o i
theorem sl_uL_s {o : sl_O} {k j : Nat} {v : Int64} : sl_uL o k j v k = vp_updL (o k) j v := if_pos rfl
theorem sl_uL_n {o : sl_O} {k j i : Nat} {v : Int64} (h : i ≠ k) : sl_uL o k j v i = o i := if_neg h
def sl_shr (x : Int64) (y : Int32) : Int64 := (x.toUInt64 >>> (y.toInt64.toUInt64 &&& Int64.toUInt64 63)).toInt64
def sl_shl (x : Int64) (y : Int32) : Int64 := x <<< (y.toInt64 &&& 63)
theorem sl_get {G : sx_G} {ad : Nat → Nat} {n : Nat} {a : sx_F} {o : sl_O} {j : Nat} (h : j < n) : (sl_w G ad n a o)[j]? = some (ad j, sl_e G (sl_ar j) (a j) (o j)) := by
  unfold sl_w
  rw [List.getElem?_map, List.getElem?_range h]
  rfl
theorem sl_len {G : sx_G} {ad : Nat → Nat} {n : Nat} {a : sx_F} {o : sl_O} : (sl_w G ad n a o).length = n := by
  unfold sl_w
  rw [List.length_map, List.length_range]
theorem sl_inv {G : sx_G} {ad : Nat → Nat} {n : Nat} {a : sx_F} {o : sl_O} {j : Nat} {q : Nat × va_E} (h : (sl_w G ad n a o)[j]? = some q) : j < n ∧ q = (ad j, sl_e G (sl_ar j) (a j) (o j)) := by
  have hk : j < n := by
    have h1 := (List.getElem?_eq_some_iff.mp h).1
    rw [sl_len] at h1
    exact h1
  rw [sl_get hk] at h
  exact ⟨hk, (Option.some.inj h).symm⟩
theorem sl_set {G : sx_G} {ad : Nat → Nat} {n : Nat} {a a' : sx_F} {o o' : sl_O} {j : Nat} {e : va_E} (h : j < n) (he : e = sl_e G (sl_ar j) (a' j) (o' j)) (h1 : ∀ i, i ≠ j → a' i = a i) (h2 : ∀ i, i ≠ j → o' i = o i) : (sl_w G ad n a o).set j (ad j, e) = sl_w G ad n a' o' := by
  subst he
  apply List.ext_getElem?
  intro i
  by_cases hi : i < n
  · by_cases hik : j = i
    · subst hik
      rw [sl_get hi, List.getElem?_set_self (by rw [sl_len]; exact hi)]
    · rw [List.getElem?_set_ne hik, sl_get hi, sl_get hi, h1 i (fun e => hik e.symm), h2 i (fun e => hik e.symm)]
  · rw [List.getElem?_eq_none (by rw [List.length_set, sl_len]; omega), List.getElem?_eq_none (by rw [sl_len]; omega)]
/-- the law's arrays are apart, and behind the class's cells -/
def sl_ok (b : Nat) (ad : Nat → Nat) (n : Nat) : Prop := (∀ j, j < n → b + 129 ≤ ad j) ∧ ∀ i j, i < n → j < n → ad i = ad j → i = j
def sl_A (b : Nat) (ad : Nat → Nat) (n sz : Nat) : Nat → Prop := fun q => (b ≤ q ∧ q < b + 129) ∨ (∃ j, j < n ∧ q = ad j) ∨ sz ≤ q
abbrev sl_wp (D : va_G) (G : sx_G) (b : Nat) (ad : Nat → Nat) (n : Nat) (u : sl_U) (H : Heap) : Prop := sx_wp D G b lyX 129 u.1 H ∧ va_P D vwCl (sl_w G ad n u.2.1 u.2.2) H
theorem sl_Pl {D : va_G} {cl : List vw_C} {a b : va_W} {H : Heap} (h : va_P D cl (a ++ b) H) : va_P D cl a H := fun k q hk => h k q (by rw [List.getElem?_append_left (List.getElem?_eq_some_iff.mp hk).1]; exact hk)
theorem sl_Pr {D : va_G} {cl : List vw_C} {a b : va_W} {H : Heap} (h : va_P D cl (a ++ b) H) : va_P D cl b H := fun k q hk => h (a.length + k) q (by rw [List.getElem?_append_right (by omega), show a.length + k - a.length = k by omega]; exact hk)
theorem sl_D {A : Nat → Prop} {G : sx_G} {b : Nat} {ad : Nat → Nat} {n : Nat} {u : sl_U} (ok : sl_ok b ad n) (hB : ∀ k, k < 129 → A (b + k)) (hA : ∀ j, j < n → A (ad j)) : va_D A (sl_w G ad n u.2.1 u.2.2 ++ sx_w G b lyX 129 u.1) := by
  have key : ∀ (i : Nat) (p : Nat × va_E), (sl_w G ad n u.2.1 u.2.2 ++ sx_w G b lyX 129 u.1)[i]? = some p → (i < n ∧ p.1 = ad i) ∨ (n ≤ i ∧ i - n < 129 ∧ p.1 = b + (i - n)) := fun i p hi => by
    by_cases hl : i < n
    · rw [List.getElem?_append_left (by rw [sl_len]; exact hl)] at hi
      obtain ⟨h1, rfl⟩ := sl_inv hi
      exact Or.inl ⟨hl, rfl⟩
    · rw [List.getElem?_append_right (by rw [sl_len]; omega), sl_len] at hi
      obtain ⟨h1, rfl⟩ := sx_inv hi
      exact Or.inr ⟨by omega, h1, rfl⟩
  refine ⟨fun i j p q hi hj e => ?_, fun k q hk => ?_⟩
  · rcases key i p hi with ⟨h1, h2⟩ | ⟨h1, h2, h3⟩
    · rcases key j q hj with ⟨g1, g2⟩ | ⟨g1, g2, g3⟩
      · exact ok.2 i j h1 g1 (by rw [← h2, ← g2]; exact e)
      · have := ok.1 i h1
        omega
    · rcases key j q hj with ⟨g1, g2⟩ | ⟨g1, g2, g3⟩
      · have := ok.1 j g1
        omega
      · omega
  · rcases key k q hk with ⟨h1, h2⟩ | ⟨h1, h2, h3⟩
    · rw [h2]; exact hA k h1
    · rw [h3]; exact hB _ h2
/-! contracts of the law's methods; what goes wrong in them is caught in them -/
def sl_Pre (D : va_G) (G : sx_G) (b : Nat) (ad : Nat → Nat) (n : Nat) (as : List Value) (u : sl_U) (sz : Nat) : Array Value → State → Prop := va_Pc as (fun U => U.heap.size = sz ∧ sl_wp D G b ad n u U.heap ∧ sx_V D G (sl_A b ad n sz) U U.heap)
def sl_Met (l : Launch) (D : va_G) (G : sx_G) (b : Nat) (ad : Nat → Nat) (n : Nat) (y : MethodName) (cc : ByteArray) (maxL : Nat) (ret : Option FieldType) (fr lo mc ms : Nat) (as : List Value) (u : sl_U) (Qv : Option Value → sl_U → Prop) : Prop :=
  ∀ sz : Nat, vx_Met l y (Cond.code y cc maxL ret :: sx_ws) { frames := fr, cells := mc, slots := ms, locals := lo } (sl_Pre D G b ad n as u sz) (sx_Qc (sl_wp D G b ad n) (sl_A b ad n sz) Qv) (sx_XC (sl_wp D G b ad n) (sl_A b ad n sz) (fun _ _ => False)) mc ms (sl_A b ad n sz)
def sl_MetH (l : Launch) (D : va_G) (G : sx_G) (b : Nat) (ad : Nat → Nat) (n : Nat) (y : MethodName) (cc : ByteArray) (maxL : Nat) (ret : Option FieldType) (hh : List (Nat × Nat × Nat × Nat)) (fr lo mc ms : Nat) (as : List Value) (u : sl_U) (Qv : Option Value → sl_U → Prop) : Prop :=
  ∀ sz : Nat, vx_Met l y (Cond.codeWith y cc maxL ret hh :: sx_ws) { frames := fr, cells := mc, slots := ms, locals := lo } (sl_Pre D G b ad n as u sz) (sx_Qc (sl_wp D G b ad n) (sl_A b ad n sz) Qv) (sx_XC (sl_wp D G b ad n) (sl_A b ad n sz) (fun _ _ => False)) mc ms (sl_A b ad n sz)
abbrev sl_pi (u : sl_U) (Q : Int32 → Prop) : Option Value → sl_U → Prop := fun v u' => (∃ r : Int32, v = some (.int r) ∧ Q r) ∧ u = u'
abbrev sl_qi (Q : Int32 → sx_F → sx_F → sl_O → Prop) : Option Value → sl_U → Prop := fun v u => ∃ r : Int32, v = some (.int r) ∧ Q r u.1 u.2.1 u.2.2
theorem sl_blind {D : va_G} {G : sx_G} {b : Nat} {ad : Nat → Nat} {n sz : Nat} {as : List Value} {u : sl_U} : FrameBlind (sl_Pre D G b ad n as u sz) := fun a U g mk h => ⟨h.1, h.2.1, h.2.2.1, sx_V.warm (s := U) (U := U.calling g mk a) (State.WarmedH.refl U) h.2.2.2⟩
section SLW
variable {p : Program} {l : Launch} {e : Env} {R : Room} {s : State} {m : MethodId} {args : Array Value} {below : List Frame} {meth : Method} {c : Code} {D : va_G} {G : sx_G} {A : Nat → Prop} {cc : ByteArray} {nL cells slots : Nat} {own : String} {Q : State → Prop} {pc : Nat} {lv : List (Nat × Value)} {st : List Value} {b n : Nat} {ad : Nat → Nat} {f a : sx_F} {o : sl_O}
theorem sl_enter {y : MethodName} {maxL : Nat} {ret : Option FieldType} {fr lo mc ms : Nat} {as : List Value} {u : sl_U} {Qv : Option Value → sl_U → Prop} (hl : l.stackTraces = false) (hy : plainName y.cls = true) (hown : y.cls = own) (hn : (lg_sl as).length ≤ maxL)
    (body : ∀ (p : Program) (e : Env) (s : State) (m : MethodId) (args : Array Value) (below : List Frame) (meth : Method) (c : Code), sx_Cx p l s m args meth c D G (sl_A b ad n s.heap.size) cc maxL own → meth.sig.returnType = ret →
      sx_J (sl_wp D G b ad n) p l e { frames := fr, cells := mc, slots := ms, locals := lo } s m args below meth c (sl_A b ad n s.heap.size) maxL 0 0 (sx_fin (sl_wp D G b ad n) (sl_A b ad n s.heap.size) below args s mc ms Qv (fun _ _ => False)) u 0 (lv_args 0 as) []) : sl_Met l D G b ad n y cc maxL ret fr lo mc ms as u Qv := by
  intro sz
  refine vx_ofW (cc := cc) (maxL := maxL) (ret := ret) hy rfl ?_
  intro p e s m args below meth c s₁ B hml ht hv
  obtain ⟨rfl, hsz, hP, hV⟩ := hv
  subst hsz
  have hts := atoms_spec (ws := Cond.code y cc maxL ret :: sx_ws) B.pre
  have hC : sx_Cx p l s m as.toArray meth c D G (sl_A b ad n s.heap.size) cc maxL own := ⟨B.exec, B.bytes, hml, hown ▸ findClass_of_methodNamed B.named, fun w hw => hts w (List.mem_cons_of_mem _ hw), fun q hq => Or.inr (Or.inr hq), B.notSynchronized, hl, hV⟩
  rw [lg_entry_eq]
  exact body p e s m as.toArray below meth c hC B.returns s.heap [] _ hP va_S.rf (lv_entry as hn)
theorem sl_enterH {y : MethodName} {maxL : Nat} {ret : Option FieldType} {hh : List (Nat × Nat × Nat × Nat)} {fr lo mc ms : Nat} {as : List Value} {u : sl_U} {Qv : Option Value → sl_U → Prop} (hl : l.stackTraces = false) (hy : plainName y.cls = true) (hown : y.cls = own) (hn : (lg_sl as).length ≤ maxL)
    (body : ∀ (p : Program) (e : Env) (s : State) (m : MethodId) (args : Array Value) (below : List Frame) (meth : Method) (c : Code), sx_Cx p l s m args meth c D G (sl_A b ad n s.heap.size) cc maxL own → meth.sig.returnType = ret → c.exceptionTable.toList = tableOf hh →
      sx_J (sl_wp D G b ad n) p l e { frames := fr, cells := mc, slots := ms, locals := lo } s m args below meth c (sl_A b ad n s.heap.size) maxL 0 0 (sx_fin (sl_wp D G b ad n) (sl_A b ad n s.heap.size) below args s mc ms Qv (fun _ _ => False)) u 0 (lv_args 0 as) []) : sl_MetH l D G b ad n y cc maxL ret hh fr lo mc ms as u Qv := by
  intro sz
  refine vx_ofWH (cc := cc) (maxL := maxL) (ret := ret) (hh := hh) hy rfl ?_
  intro p e s m args below meth c s₁ B hml hv
  obtain ⟨rfl, hsz, hP, hV⟩ := hv
  subst hsz
  have hts := atoms_spec (ws := Cond.codeWith y cc maxL ret hh :: sx_ws) B.pre
  have hC : sx_Cx p l s m as.toArray meth c D G (sl_A b ad n s.heap.size) cc maxL own := ⟨B.exec, B.bytes, hml, hown ▸ findClass_of_methodNamed B.named, fun w hw => hts w (List.mem_cons_of_mem _ hw), fun q hq => Or.inr (Or.inr hq), B.notSynchronized, hl, hV⟩
  rw [lg_entry_eq]
  exact body p e s m as.toArray below meth c hC B.returns (vx_table (x := y) B (hts _ List.mem_cons_self)) s.heap [] _ hP va_S.rf (lv_entry as hn)
theorem sx_i2l {σ : Type} {wd : σ → Heap → Prop} {u : σ} (C : sx_Cx p l s m args meth c D G A cc nL own) {x : Int32} (d : decode cc pc = .ok (.i2l, 1)) (q : Nat) (hq : pc + 1 = q) (k : sx_J wd p l e R s m args below meth c A nL cells slots Q u q lv (.long x.toInt64 :: st)) : sx_J wd p l e R s m args below meth c A nL cells slots Q u pc lv (.int x :: st) := by
  subst hq
  exact fun H locs ls hP hS hl => lv_i2l C.1 C.2.1 d rfl (k H locs ls hP hS hl)
theorem sx_sld {σ : Type} {wd : σ → Heap → Prop} {u : σ} (C : sx_Cx p l s m args meth c D G A cc nL own) {bs L : Nat} {xs : Nat → Int32} (hX : va_X bs L xs s s.heap) (hbl : bs < s.heap.size) (hbA : ¬ A bs) {i : Int32} (hin : vp_in i L) (d : decode cc pc = .ok (.iaload, 1)) (q : Nat) (hq : pc + 1 = q) (k : sx_J wd p l e R s m args below meth c A nL cells slots Q u q lv (.int (xs i.toNatClampNeg) :: st)) : sx_J wd p l e R s m args below meth c A nL cells slots Q u pc lv (.int i :: .ref bs :: st) := by
  subst hq
  exact fun H locs ls hP hS hl => va_sld C.1 C.2.1 hX hbl hbA hS hin d (k H locs ls hP hS hl)
theorem sx_slen {σ : Type} {wd : σ → Heap → Prop} {u : σ} (C : sx_Cx p l s m args meth c D G A cc nL own) {bs L : Nat} {xs : Nat → Int32} (hX : va_X bs L xs s s.heap) (hbl : bs < s.heap.size) (hbA : ¬ A bs) (d : decode cc pc = .ok (.arraylength, 1)) (q : Nat) (hq : pc + 1 = q) (k : sx_J wd p l e R s m args below meth c A nL cells slots Q u q lv (.int (Int32.ofNat L) :: st)) : sx_J wd p l e R s m args below meth c A nL cells slots Q u pc lv (.ref bs :: st) := by
  subst hq
  exact fun H locs ls hP hS hl => va_slen C.1 C.2.1 hX hbl hbA hS d (k H locs ls hP hS hl)
theorem sx_keptW {b n : Nat} {lay : Nat → sx_K} {f : sx_F} {H H1 : Heap} {A1 : Nat → Prop} (h : sx_wp D G b lay n f H) (h2 : ∀ q : Nat, q < H.size → ¬ A1 q → H1[q]? = H[q]?) (h3 : ∀ k, k < n → b + k < H.size → ¬ A1 (b + k)) : sx_wp D G b lay n f H1 := va_P.kept (D := D) (cl := vwCl) h (fun k q hk => by
  have hlt : q.1 < H.size := (h k q hk : va_at D vwCl q H).lt
  obtain ⟨h4, rfl⟩ := sx_inv hk
  exact h2 _ hlt (h3 k h4 hlt))
/-! arrays -/
theorem sl_iald (C : sx_Cx p l s m args meth c D G A cc nL own) (d : decode cc pc = .ok (.iaload, 1)) {j N : Nat} {i : Int32} (hj : j < n) (hl : sl_ar j = (N, false)) (hin : vp_in i N) (q : Nat) (hq : pc + 1 = q) (kk : sx_J (sl_wp D G b ad n) p l e R s m args below meth c A nL cells slots Q (f, a, o) q lv (.int (a j i.toNatClampNeg) :: st)) : sx_J (sl_wp D G b ad n) p l e R s m args below meth c A nL cells slots Q (f, a, o) pc lv (.int i :: .ref (ad j) :: st) := by
  subst hq
  intro H locs ls hP hS hls
  have hg := sl_get (G := G) (ad := ad) (a := a) (o := o) hj
  rw [hl] at hg
  exact va_iald C.1 C.2.1 C.2.2.2.2.2.2.2.2.1 hP.2 j 0 hg rfl hin d (kk H locs ls hP hS hls)
theorem sl_lald (C : sx_Cx p l s m args meth c D G A cc nL own) (d : decode cc pc = .ok (.laload, 1)) {j N : Nat} {i : Int32} (hj : j < n) (hl : sl_ar j = (N, true)) (hin : vp_in i N) (q : Nat) (hq : pc + 1 = q) (kk : sx_J (sl_wp D G b ad n) p l e R s m args below meth c A nL cells slots Q (f, a, o) q lv (.long (o j i.toNatClampNeg) :: st)) : sx_J (sl_wp D G b ad n) p l e R s m args below meth c A nL cells slots Q (f, a, o) pc lv (.int i :: .ref (ad j) :: st) := by
  subst hq
  intro H locs ls hP hS hls
  have hg := sl_get (G := G) (ad := ad) (a := a) (o := o) hj
  rw [hl] at hg
  exact va_lald C.1 C.2.1 C.2.2.2.2.2.2.2.2.1 hP.2 j 4 hg rfl hin d (kk H locs ls hP hS hls)
theorem sl_iast (C : sx_Cx p l s m args meth c D G A cc nL own) (d : decode cc pc = .ok (.iastore, 1)) (ok : sl_ok b ad n) (hB : ∀ k, k < 129 → A (b + k)) (hA : ∀ j, j < n → A (ad j)) {j N : Nat} {i x : Int32} (hj : j < n) (hl : sl_ar j = (N, false)) (hin : vp_in i N) (q : Nat) (hq : pc + 1 = q) (kk : ∀ a1 : sx_F, a1 = sx_u a j i.toNatClampNeg x → sx_J (sl_wp D G b ad n) p l e R s m args below meth c A nL cells slots Q (f, a1, o) q lv st) : sx_J (sl_wp D G b ad n) p l e R s m args below meth c A nL cells slots Q (f, a, o) pc lv (.int x :: .int i :: .ref (ad j) :: st) := by
  subst hq
  intro H locs ls hP hS hls
  have hg : (sl_w G ad n a o ++ sx_w G b lyX 129 f)[j]? = some (ad j, .inl (G.1, N, .inl (a j))) := by
    rw [List.getElem?_append_left (by rw [sl_len]; exact hj), sl_get hj, hl]
    rfl
  refine va_iast C.1 C.2.1 C.2.2.2.2.2.2.2.2.1 (va_P.app hP.2 hP.1) (sl_D (u := (f, a, o)) ok hB hA) hS j 0 hg rfl hin d (fun H1 locs1 hP1 _ hS1 => kk _ rfl H1 locs1 ls ?_ hS1 hls)
  rw [List.set_append_left _ _ (by rw [sl_len]; exact hj), sl_set (a' := sx_u a j i.toNatClampNeg x) (o' := o) hj (by rw [hl, sx_u_s]; rfl) (fun k hk => sx_u_n hk) (fun _ _ => rfl)] at hP1
  exact ⟨sl_Pr hP1, sl_Pl hP1⟩
theorem sl_last (C : sx_Cx p l s m args meth c D G A cc nL own) (d : decode cc pc = .ok (.lastore, 1)) (ok : sl_ok b ad n) (hB : ∀ k, k < 129 → A (b + k)) (hA : ∀ j, j < n → A (ad j)) {j N : Nat} {i : Int32} {x : Int64} (hj : j < n) (hl : sl_ar j = (N, true)) (hin : vp_in i N) (q : Nat) (hq : pc + 1 = q) (kk : ∀ o1 : sl_O, o1 = sl_uL o j i.toNatClampNeg x → sx_J (sl_wp D G b ad n) p l e R s m args below meth c A nL cells slots Q (f, a, o1) q lv st) : sx_J (sl_wp D G b ad n) p l e R s m args below meth c A nL cells slots Q (f, a, o) pc lv (.long x :: .int i :: .ref (ad j) :: st) := by
  subst hq
  intro H locs ls hP hS hls
  have hg : (sl_w G ad n a o ++ sx_w G b lyX 129 f)[j]? = some (ad j, .inl (G.2 3, N, .inr (.inl (o j)))) := by
    rw [List.getElem?_append_left (by rw [sl_len]; exact hj), sl_get hj, hl]
    rfl
  refine va_last C.1 C.2.1 C.2.2.2.2.2.2.2.2.1 (va_P.app hP.2 hP.1) (sl_D (u := (f, a, o)) ok hB hA) hS j 4 hg rfl hin d (fun H1 locs1 hP1 _ hS1 => kk _ rfl H1 locs1 ls ?_ hS1 hls)
  rw [List.set_append_left _ _ (by rw [sl_len]; exact hj), sl_set (a' := a) (o' := sl_uL o j i.toNatClampNeg x) hj (by rw [hl, sl_uL_s]; rfl) (fun _ _ => rfl) (fun k hk => sl_uL_n hk)] at hP1
  exact ⟨sl_Pr hP1, sl_Pl hP1⟩
/-! longs -/
section SLL
variable {σ : Type} {wd : σ → Heap → Prop} {u : σ}
theorem sl_ldc2 (C : sx_Cx p l s m args meth c D G A cc nL own) {index : Nat} (d : decode cc pc = .ok (.ldc2_w index, 3)) (v : Int64) (hc : Cond.constantLong own index v ∈ sx_ws) (q : Nat) (hq : pc + 3 = q) (k : sx_J wd p l e R s m args below meth c A nL cells slots Q u q lv (.long v :: st)) : sx_J wd p l e R s m args below meth c A nL cells slots Q u pc lv st := by
  subst hq
  exact fun H locs ls hP hS hl => lv_ldc2 C.1 C.2.1 C.2.2.2.1 (C.2.2.2.2.1 _ hc) d (k H locs ls hP hS hl)
theorem sl_lshl (C : sx_Cx p l s m args meth c D G A cc nL own) {x : Int64} {y : Int32} (d : decode cc pc = .ok (.lshl, 1)) (q : Nat) (hq : pc + 1 = q) (k : sx_J wd p l e R s m args below meth c A nL cells slots Q u q lv (.long (sl_shl x y) :: st)) : sx_J wd p l e R s m args below meth c A nL cells slots Q u pc lv (.int y :: .long x :: st) := by
  subst hq
  exact fun H locs ls hP hS hl => lv_lshl C.1 C.2.1 d rfl (k H locs ls hP hS hl)
theorem sl_lushr (C : sx_Cx p l s m args meth c D G A cc nL own) {x : Int64} {y : Int32} (d : decode cc pc = .ok (.lushr, 1)) (q : Nat) (hq : pc + 1 = q) (k : sx_J wd p l e R s m args below meth c A nL cells slots Q u q lv (.long (sl_shr x y) :: st)) : sx_J wd p l e R s m args below meth c A nL cells slots Q u pc lv (.int y :: .long x :: st) := by
  subst hq
  exact fun H locs ls hP hS hl => lv_lushr C.1 C.2.1 d rfl (k H locs ls hP hS hl)
theorem sl_land (C : sx_Cx p l s m args meth c D G A cc nL own) {x y : Int64} (d : decode cc pc = .ok (.land, 1)) (q : Nat) (hq : pc + 1 = q) (k : sx_J wd p l e R s m args below meth c A nL cells slots Q u q lv (.long (x &&& y) :: st)) : sx_J wd p l e R s m args below meth c A nL cells slots Q u pc lv (.long y :: .long x :: st) := by
  subst hq
  exact fun H locs ls hP hS hl => lv_land C.1 C.2.1 d (k H locs ls hP hS hl)
theorem sl_lor (C : sx_Cx p l s m args meth c D G A cc nL own) {x y : Int64} (d : decode cc pc = .ok (.lor, 1)) (q : Nat) (hq : pc + 1 = q) (k : sx_J wd p l e R s m args below meth c A nL cells slots Q u q lv (.long (x ||| y) :: st)) : sx_J wd p l e R s m args below meth c A nL cells slots Q u pc lv (.long y :: .long x :: st) := by
  subst hq
  exact fun H locs ls hP hS hl => lv_lor C.1 C.2.1 d (k H locs ls hP hS hl)
theorem sl_lxor (C : sx_Cx p l s m args meth c D G A cc nL own) {x y : Int64} (d : decode cc pc = .ok (.lxor, 1)) (q : Nat) (hq : pc + 1 = q) (k : sx_J wd p l e R s m args below meth c A nL cells slots Q u q lv (.long (x ^^^ y) :: st)) : sx_J wd p l e R s m args below meth c A nL cells slots Q u pc lv (.long y :: .long x :: st) := by
  subst hq
  exact fun H locs ls hP hS hl => lv_lxor C.1 C.2.1 d (k H locs ls hP hS hl)
theorem sl_l2i (C : sx_Cx p l s m args meth c D G A cc nL own) {x : Int64} (d : decode cc pc = .ok (.l2i, 1)) (q : Nat) (hq : pc + 1 = q) (k : sx_J wd p l e R s m args below meth c A nL cells slots Q u q lv (.int x.toInt32 :: st)) : sx_J wd p l e R s m args below meth c A nL cells slots Q u pc lv (.long x :: st) := by
  subst hq
  exact fun H locs ls hP hS hl => lv_l2i C.1 C.2.1 d rfl (k H locs ls hP hS hl)
end SLL
/-! calls -/
theorem sl_sub (C : sx_Cx p l s m args meth c D G A cc nL own) (hB : ∀ k, k < 129 → A (b + k)) (hA : ∀ j, j < n → A (ad j)) {H : Heap} {locs : List Loc} (hS : va_S A s.heap H locs) : ∀ q, sl_A b ad n H.size q → A q := fun q hq => by
  rcases hq with ⟨h2, h3⟩ | ⟨j, hj, rfl⟩ | h2
  · have h4 := hB (q - b) (by omega)
    rw [show b + (q - b) = q by omega] at h4
    exact h4
  · exact hA j hj
  · exact C.2.2.2.2.2.1 q (Nat.le_trans hS.1 h2)
/-- a method of the law, called by another -/
theorem sl_callS (C : sx_Cx p l s m args meth c D G A cc nL own) (hB : ∀ k, k < 129 → A (b + k)) (hA : ∀ j, j < n → A (ad j)) {y : MethodName} {bytes : ByteArray} {maxL index na fr lo mc ms : Nat} {ret : Option FieldType} {As : List Value} {st0 : List Value} {Qv : Option Value → sl_U → Prop} (d : decode cc pc = .ok (.invokestatic index, 3))
    (ct : sl_Met l D G b ad n y bytes maxL ret fr lo mc ms As (f, a, o) Qv) (hy : sx_Mi y bytes maxL ret na) (hlink : Cond.methodLink own index y ∈ sx_ws) (hstat : Cond.static y ∈ sx_ws) (hn : As.length = na) (hst : st0 = As.reverse ++ st)
    (hR : (fr + 1 ≤ R.frames ∧ 8 + (maxL + 11) + lo ≤ R.locals) ∧ cells + mc ≤ R.cells ∧ slots + ms ≤ R.slots) (hcat : (st.map fun v => v.category).sum ≤ 8) (q : Nat) (hq : pc + 3 = q)
    (kk : ∀ (v : Option Value) (f1 a1 : sx_F) (o1 : sl_O), Qv v (f1, a1, o1) → sx_J (sl_wp D G b ad n) p l e R s m args below meth c A nL (cells + mc) (slots + ms) Q (f1, a1, o1) q lv (v.toList ++ st)) :
    sx_J (sl_wp D G b ad n) p l e R s m args below meth c A nL cells slots Q (f, a, o) pc lv st0 := by
  subst hq
  intro H locs ls hP hS hls
  have hsub := sl_sub C hB hA hS
  have cb : CallB R s args own index y bytes maxL ret (Cond.code y bytes maxL ret :: sx_ws) { frames := fr, cells := mc, slots := ms, locals := lo } mc ms na := callB_of na C.2.2.2.2.1 (sx_gi hy.1) rfl rfl rfl (C.2.2.2.2.1 _ hy.2.1) (C.2.2.2.2.1 _ hlink) hy.2.2 hR.1
  have hr := vx_runS (As := As) (rest := st) (l := l) (below := below) (meth := meth) (locs := locs) (cells := cells) (slots := slots) (e := e) (H := H) (g := F0 m pc ls st0) ⟨C.1, C.2.1, C.2.2.1, C.2.2.2.1, C.2.2.2.2.1⟩ (ct H.size) ⟨cb, C.2.2.2.2.1 _ hstat⟩ ⟨sl_blind, fun U hU hW => ⟨rfl, by rw [hU], by rw [hU]; exact hP, by
    rw [hU]
    exact ((C.2.2.2.2.2.2.2.2.kept hS.2.1).narrow hsub).warm hW⟩⟩ rfl hn hls.1 hst (lv_room (pc := pc) hcat) d hR.2
  exact sx_back hr hS (fun q _ h => hsub q h) hsub (fun v u H1 locs1 hq hP1 h1 h2 hS1 => kk v u.1 u.2.1 u.2.2 hq H1 locs1 ls hP1 hS1 hls) (fun E ce q9 u H1 locs1 hx hP1 h1 h2 hS1 h3 h4 h5 => hx.elim)
theorem sl_callH (C : sx_Cx p l s m args meth c D G A cc nL own) (hB : ∀ k, k < 129 → A (b + k)) (hA : ∀ j, j < n → A (ad j)) {y : MethodName} {bytes : ByteArray} {maxL index na fr lo mc ms : Nat} {ret : Option FieldType} {hh : List (Nat × Nat × Nat × Nat)} {As : List Value} {st0 : List Value} {Qv : Option Value → sl_U → Prop} (d : decode cc pc = .ok (.invokestatic index, 3))
    (ct : sl_MetH l D G b ad n y bytes maxL ret hh fr lo mc ms As (f, a, o) Qv) (hcode : Cond.codeWith y bytes maxL ret hh ∈ sx_ws) (hini : Cond.initialized y.cls ∈ sx_ws) (hstat : Cond.static y ∈ sx_ws) (hlink : Cond.methodLink own index y ∈ sx_ws) (hy : y.cls ≠ "java/lang/invoke/MethodHandle" ∧ y.cls ≠ "java/lang/invoke/VarHandle" ∧ (parseMethodDescriptor y.desc).map (fun d => d.parameters.length) = some na) (hn : As.length = na) (hst : st0 = As.reverse ++ st)
    (hR : (fr + 1 ≤ R.frames ∧ 8 + (maxL + 11) + lo ≤ R.locals) ∧ cells + mc ≤ R.cells ∧ slots + ms ≤ R.slots) (hcat : (st.map fun v => v.category).sum ≤ 8) (q : Nat) (hq : pc + 3 = q)
    (kk : ∀ (v : Option Value) (f1 a1 : sx_F) (o1 : sl_O), Qv v (f1, a1, o1) → sx_J (sl_wp D G b ad n) p l e R s m args below meth c A nL (cells + mc) (slots + ms) Q (f1, a1, o1) q lv (v.toList ++ st)) :
    sx_J (sl_wp D G b ad n) p l e R s m args below meth c A nL cells slots Q (f, a, o) pc lv st0 := by
  subst hq
  intro H locs ls hP hS hls
  have hG : GoodIn sx_ws (va_wsS own index y (Cond.codeWith y bytes maxL ret hh :: sx_ws)) := fun w hw => by
    have h1 : w ∈ sx_ws := by
      simp only [va_wsS, List.mem_append, List.mem_cons, List.not_mem_nil, or_false] at hw
      rcases hw with (rfl | rfl | rfl) | rfl | hw <;> assumption
    exact ⟨h1, good_of_word (List.mem_filter.mp h1).2⟩
  have cw : vx_CSW R s args own index y bytes maxL ret hh (Cond.codeWith y bytes maxL ret hh :: sx_ws) { frames := fr, cells := mc, slots := ms, locals := lo } mc ms na := vx_cwSW na C.2.2.2.2.1 hG rfl rfl rfl hy hR.1
  have hsub := sl_sub C hB hA hS
  have hr := vx_runSX (As := As) (rest := st) (l := l) (below := below) (meth := meth) (locs := locs) (cells := cells) (slots := slots) (e := e) (H := H) (g := F0 m pc ls st0) ⟨C.1, C.2.1, C.2.2.1, C.2.2.2.1, C.2.2.2.2.1⟩ (ct H.size) cw ⟨sl_blind, fun U hU hW => ⟨rfl, by rw [hU], by rw [hU]; exact hP, by
    rw [hU]
    exact ((C.2.2.2.2.2.2.2.2.kept hS.2.1).narrow hsub).warm hW⟩⟩ rfl hn hls.1 hst (lv_room (pc := pc) hcat) d hR.2
  exact sx_back hr hS (fun q _ h => hsub q h) hsub (fun v u H1 locs1 hq hP1 h1 h2 hS1 => kk v u.1 u.2.1 u.2.2 hq H1 locs1 ls hP1 hS1 hls) (fun E ce q9 u H1 locs1 hx hP1 h1 h2 hS1 h3 h4 h5 => hx.elim)
theorem sl_keep {H H1 : Heap} (ok : sl_ok b ad n) (h : va_P D vwCl (sl_w G ad n a o) H) (h2 : ∀ q : Nat, q < H.size → ¬ sx_A b 129 H.size q → H1[q]? = H[q]?) : va_P D vwCl (sl_w G ad n a o) H1 := va_P.kept (D := D) (cl := vwCl) h (fun k q hk => by
  have hlt : q.1 < H.size := (h k q hk : va_at D vwCl q H).lt
  obtain ⟨h4, rfl⟩ := sl_inv hk
  have := ok.1 k h4
  exact h2 _ hlt (fun z => by rcases z with ⟨_, z⟩ | z <;> (simp only at z hlt; omega)))
/-- a method of the class that throws nothing here -/
theorem sl_callX (C : sx_Cx p l s m args meth c D G A cc nL own) (ok : sl_ok b ad n) (hB : ∀ k, k < 129 → A (b + k)) {y : MethodName} {bytes : ByteArray} {maxL index na k ci fr lo mc ms : Nat} {ret : Option FieldType} {fs : List (Option (Option Nat))} {r : vw_C} {As : List Value} {st0 : List Value} {Qv : Option Value → sx_F → Prop} (d : decode cc pc = .ok (.invokevirtual index, 3))
    (ct : sx_Met l D G b 129 lyX y bytes maxL ret fr lo mc ms (.ref (b + k) :: As) f Qv (fun _ _ => False)) (hy : sx_Mi y bytes maxL ret na) (hlink : Cond.methodLink own index y ∈ sx_ws) (hinst : Cond.instanceMethod y ∈ sx_ws) (hsel : Cond.selects y.cls y y ∈ sx_ws)
    (hk : k < 129) (hl : lyX k = .inr (.inr (ci, fs))) (hc : vwCl[ci]? = some r) (hrc : r.1 = y.cls) (hn : As.length = na) (hst : st0 = As.reverse ++ .ref (b + k) :: st)
    (hR : (fr + 1 ≤ R.frames ∧ 8 + (maxL + 11) + lo ≤ R.locals) ∧ cells + mc ≤ R.cells ∧ slots + ms ≤ R.slots) (hcat : (st.map fun v => v.category).sum ≤ 8) (q : Nat) (hq : pc + 3 = q)
    (kk : ∀ (v : Option Value) (f1 : sx_F), Qv v f1 → sx_J (sl_wp D G b ad n) p l e R s m args below meth c A nL (cells + mc) (slots + ms) Q (f1, a, o) q lv (v.toList ++ st)) :
    sx_J (sl_wp D G b ad n) p l e R s m args below meth c A nL cells slots Q (f, a, o) pc lv st0 := by
  subst hq
  intro H locs ls hP hS hls
  exact sx_back (sx_runV C hB d ct hy hlink hinst hsel hk hl hc hrc hn hst hR hcat hP.1 hS hls) hS (fun q _ h => sx_sub_A C hB hS q h) (sx_sub_A C hB hS) (fun v u H1 locs1 hq hP1 h1 h2 hS1 => kk v u hq H1 locs1 ls ⟨hP1, sl_keep ok hP.2 h2⟩ hS1 hls) (fun E ce q9 u H1 locs1 hx hP1 h1 h2 hS1 h3 h4 h5 => hx.elim)
/-- a method of the class, called where what it throws is caught -/
theorem sl_tryX (C : sx_Cx p l s m args meth c D G A cc nL own) (ok : sl_ok b ad n) (hB : ∀ k, k < 129 → A (b + k)) {y : MethodName} {bytes : ByteArray} {maxL index na k ci fr lo mc ms : Nat} {ret : Option FieldType} {fs : List (Option (Option Nat))} {r : vw_C} {As : List Value} {st0 : List Value} {Qv : Option Value → sx_F → Prop} {X : String → sx_F → Prop} (d : decode cc pc = .ok (.invokevirtual index, 3))
    (ct : sx_Met l D G b 129 lyX y bytes maxL ret fr lo mc ms (.ref (b + k) :: As) f Qv X) (hy : sx_Mi y bytes maxL ret na) (hlink : Cond.methodLink own index y ∈ sx_ws) (hinst : Cond.instanceMethod y ∈ sx_ws) (hsel : Cond.selects y.cls y y ∈ sx_ws)
    (hk : k < 129) (hl : lyX k = .inr (.inr (ci, fs))) (hc : vwCl[ci]? = some r) (hrc : r.1 = y.cls) (hn : As.length = na) (hst : st0 = As.reverse ++ .ref (b + k) :: st)
    (hR : (fr + 1 ≤ R.frames ∧ 8 + (maxL + 11) + lo ≤ R.locals) ∧ cells + mc ≤ R.cells ∧ slots + ms ≤ R.slots) (hcat : (st.map fun v => v.category).sum ≤ 8) (q : Nat) (hq : pc + 3 = q)
    (kk : ∀ (v : Option Value) (f1 : sx_F), Qv v f1 → sx_J (sl_wp D G b ad n) p l e R s m args below meth c A nL (cells + mc) (slots + ms) Q (f1, a, o) q lv (v.toList ++ st))
    (kx : ∀ (E : String) (ce : Cell) (q9 : Addr) (f1 : sx_F) (H1 : Heap) (locs1 : List Loc) (ls : Array Slot), X E f1 → sl_wp D G b ad n (f1, a, o) H1 → va_S A s.heap H1 locs1 → lv_has ls nL lv → H1[q9]? = some ce → ce.vm = .none → s.vm.findClass E = some ce.cls → vx_W p l e R s m args below meth c H1 locs1 (cells + mc) (slots + ms) Q (F0 m pc ls st) q9) :
    sx_J (sl_wp D G b ad n) p l e R s m args below meth c A nL cells slots Q (f, a, o) pc lv st0 := by
  subst hq
  intro H locs ls hP hS hls
  exact sx_back (sx_runV C hB d ct hy hlink hinst hsel hk hl hc hrc hn hst hR hcat hP.1 hS hls) hS (fun q _ h => sx_sub_A C hB hS q h) (sx_sub_A C hB hS) (fun v u H1 locs1 hq hP1 h1 h2 hS1 => kk v u hq H1 locs1 ls ⟨hP1, sl_keep ok hP.2 h2⟩ hS1 hls) (fun E ce q9 u H1 locs1 hx hP1 h1 h2 hS1 h3 h4 h5 => kx E ce q9 u H1 locs1 ls hx ⟨hP1, sl_keep ok hP.2 h2⟩ hS1 hls h3 h4 h5)
/-- what goes wrong is caught -/
theorem sl_catch {σ : Type} {wd : σ → Heap → Prop} {u : σ} (C : sx_Cx p l s m args meth c D G A cc nL own) {E : String} {ce : Cell} {q9 : Addr} {H1 : Heap} {locs1 : List Loc} {ls : Array Slot} {hh : List (Nat × Nat × Nat × Nat)} (htab : c.exceptionTable.toList = tableOf hh) (pre : List (Nat × Nat × Nat × Nat)) (x : Nat × Nat × Nat × Nat) (suf : List (Nat × Nat × Nat × Nat)) (hsp : hh = pre ++ x :: suf)
    (hpass : ∀ z ∈ pre, covers ⟨z.1, z.2.1, z.2.2.1, z.2.2.2⟩ pc = false ∨ z.2.2.2 ≠ 0 ∧ ∃ nm : String, Cond.classLink own z.2.2.2 nm ∈ sx_ws ∧ va_Nc E nm s) (hx : covers ⟨x.1, x.2.1, x.2.2.1, x.2.2.2⟩ pc = true) (h0 : x.2.2.2 ≠ 0) (hlink : Cond.classLink own x.2.2.2 E ∈ sx_ws) (hcast : Cond.castable E E ∈ sx_nw) (hcell : H1[q9]? = some ce) (hv : ce.vm = .none) (hcl : s.vm.findClass E = some ce.cls)
    (hw : wd u H1) (hS : va_S A s.heap H1 locs1) (hls : lv_has ls nL lv) (k : sx_J wd p l e R s m args below meth c A nL cells slots Q u x.2.2.1 lv [.ref q9]) : vx_W p l e R s m args below meth c H1 locs1 cells slots Q (F0 m pc ls st) q9 := by
  refine vx_catch C.2.2.2.1 (tableOf pre) ⟨x.1, x.2.1, x.2.2.1, x.2.2.2⟩ (tableOf suf) (by rw [htab, hsp]; simp [tableOf]) (fun z hz => ?_) hx h0 (C.2.2.2.2.1 _ hlink) (va_Nw.use rfl (C.2.2.2.2.2.2.2.2.2.1 _ hcast)) hcell hv hcl (k H1 locs1 ls hw hS hls)
  obtain ⟨z0, hz0, rfl⟩ := List.mem_map.mp hz
  rcases hpass z0 hz0 with h1 | ⟨h1, nm, h2, h3⟩
  · exact Or.inl h1
  · exact Or.inr ⟨h1, nm, C.2.2.2.2.1 _ h2, h3⟩
/-- isBook's own array is made .. -/
def sl_ad (ad : Nat → Nat) (q : Nat) : Nat → Nat := fun j => if j = 8 then q else ad j
def sl_a8 (a : sx_F) : sx_F := fun j => if j = 8 then (fun _ => 0) else a j
theorem sl_w9 {q : Nat} : sl_w G (sl_ad ad q) 9 (sl_a8 a) o = sl_w G ad 8 a o ++ [(q, .inl (G.1, 30, .inl (fun _ => 0)))] := rfl
theorem sl_newT (C : sx_Cx p l s m args meth c D G A cc nL own) (d : decode cc pc = .ok (.newarray .int, 2)) (ok : sl_ok b ad 8) (hA : ∀ j, j < 8 → A (ad j)) (harr : Cond.arrayClass .int ∈ sx_ws) (hR : cells + 1 ≤ R.cells ∧ slots + 30 ≤ R.slots) (q : Nat) (hq : pc + 2 = q)
    (kk : ∀ t : Nat, sl_ok b (sl_ad ad t) 9 → (∀ j, j < 9 → A (sl_ad ad t j)) → sx_J (sl_wp D G b (sl_ad ad t) 9) p l e R s m args below meth c A nL (cells + 1) (slots + 30) Q (f, sl_a8 a, o) q lv (.ref (sl_ad ad t 8) :: st)) : sx_J (sl_wp D G b ad 8) p l e R s m args below meth c A nL cells slots Q (f, a, o) pc lv (.int 30 :: st) := by
  subst hq
  intro H locs ls hP hS hls
  refine va_newaK (atype := .int) C.1 C.2.1 (C.2.2.2.2.1 _ harr) rfl d rfl (N := 30) (by decide) rfl (by decide) hR.1 hR.2 rfl fun H1 cB e1 z1 o1 hAr hNm => ?_
  have hcls : s.vm.findClass ("[" ++ (FieldType.int).toString) = some G.1 := (C.2.2.2.2.2.2.2.2.1.2 0 _ rfl).2
  have hcc : cB = G.1 := Option.some.inj (hNm.symm.trans hcls)
  subst hcc
  have hlt : ∀ j, j < 8 → ad j < H.size := fun j hj => (hP.2 j _ (sl_get hj) : va_at D vwCl _ H).lt
  have hb : b + 129 ≤ H.size := by
    have := ok.1 0 (by omega)
    have := hlt 0 (by omega)
    omega
  refine kk H.size ⟨fun j hj => ?_, fun i j hi hj h => ?_⟩ (fun j hj => ?_) H1 locs ls ⟨va_P.kept hP.1 (fun k q hq => o1 q.1 (hP.1 k q hq).lt), ?_⟩ ⟨Nat.le_trans hS.1 (by omega), fun x h1 h2 => (o1 x (Nat.lt_of_lt_of_le h1 hS.1)).trans (hS.2.1 x h1 h2), hS.2.2⟩ hls
  · unfold sl_ad
    by_cases h8 : j = 8
    · rw [if_pos h8]; exact hb
    · rw [if_neg h8]; exact ok.1 j (by omega)
  · unfold sl_ad at h
    by_cases h1 : i = 8
    · by_cases h2 : j = 8
      · omega
      · rw [if_pos h1, if_neg h2] at h
        have := hlt j (by omega)
        omega
    · by_cases h2 : j = 8
      · rw [if_neg h1, if_pos h2] at h
        have := hlt i (by omega)
        omega
      · rw [if_neg h1, if_neg h2] at h
        exact ok.2 i j (by omega) (by omega) h
  · unfold sl_ad
    by_cases h8 : j = 8
    · rw [if_pos h8]; exact C.2.2.2.2.2.1 _ hS.1
    · rw [if_neg h8]; exact hA j (by omega)
  · show va_P D vwCl (sl_w G (sl_ad ad H.size) 9 (sl_a8 a) o) H1
    rw [sl_w9]
    refine va_P.app (va_P.kept hP.2 (fun k q hq => o1 q.1 (hP.2 k q hq).lt)) (fun k q hk => ?_)
    have h0 : k < 1 := (List.getElem?_eq_some_iff.mp hk).1
    have h1 : k = 0 := by omega
    subst h1
    cases hk
    show H1[H.size]? = some (vp_cell _ _)
    rw [vp_cell_i]
    exact e1
/-- .. and left -/
theorem sl_drop {t : Nat} (k : sx_J (sl_wp D G b ad 8) p l e R s m args below meth c A nL cells slots Q (f, a, o) pc lv st) : sx_J (sl_wp D G b (sl_ad ad t) 9) p l e R s m args below meth c A nL cells slots Q (f, a, o) pc lv st := fun H locs ls hP hS hls => k H locs ls ⟨hP.1, fun k q hk => by
  obtain ⟨h1, rfl⟩ := sl_inv hk
  have h2 := hP.2 k _ (sl_get (G := G) (ad := sl_ad ad t) (a := a) (o := o) (show k < 9 by omega))
  rw [show sl_ad ad t k = ad k from if_neg (by omega)] at h2
  exact h2⟩ hS hls
end SLW
