/-! THE LAYER OF THIS PROOF: a world is a layout of cells from an address b on; the ints in it are a function sx_F (cell, place).
    A layout's kinds: .inl n an int array; .inr (.inl (t, n, r)) an array of references; .inr (.inr (ci, fs)) an object (none: an int, some r: a reference). -/
abbrev sx_K : Type := Nat ⊕ ((Nat × Nat × (Nat → Option Nat)) ⊕ (Nat × List (Option (Option Nat))))
abbrev sx_F : Type := Nat → Nat → Int32
abbrev sx_G : Type := ClassId × (Nat → ClassId)
def sx_fv (b : Nat) (g : Nat → Int32) : List (Option (Option Nat)) → Nat → List Value
  | [], _ => []
  | none :: r, j => .int (g j) :: sx_fv b g r (j + 1)
  | some q :: r, j => va_rf (q.map (fun k => b + k)) :: sx_fv b g r (j + 1)
def sx_e (G : sx_G) (b : Nat) (g : Nat → Int32) : sx_K → va_E
  | .inl n => .inl (G.1, n, .inl g)
  | .inr (.inl t) => .inl (G.2 t.1, t.2.1, .inr (.inr (.inr (.inr (fun i => (t.2.2 i).map (fun k => b + k))))))
  | .inr (.inr o) => .inr (o.1, sx_fv b g o.2 0)
def sx_w (G : sx_G) (b : Nat) (lay : Nat → sx_K) (n : Nat) (f : sx_F) : va_W := (List.range n).map fun k => (b + k, sx_e G b (f k) (lay k))
def sx_u (f : sx_F) (k j : Nat) (v : Int32) : sx_F := fun i => if i = k then upd (f k) j v else f i
theorem sx_u_s {f : sx_F} {k j : Nat} {v : Int32} : sx_u f k j v k = upd (f k) j v := if_pos rfl
theorem sx_u_n {f : sx_F} {k j i : Nat} {v : Int32} (h : i ≠ k) : sx_u f k j v i = f i := if_neg h
theorem sx_get {G : sx_G} {b : Nat} {lay : Nat → sx_K} {n : Nat} {f : sx_F} {k : Nat} (h : k < n) : (sx_w G b lay n f)[k]? = some (b + k, sx_e G b (f k) (lay k)) := by
  unfold sx_w
  rw [List.getElem?_map, List.getElem?_range h]
  rfl
theorem sx_len {G : sx_G} {b : Nat} {lay : Nat → sx_K} {n : Nat} {f : sx_F} : (sx_w G b lay n f).length = n := by
  unfold sx_w
  rw [List.length_map, List.length_range]
theorem sx_inv {G : sx_G} {b : Nat} {lay : Nat → sx_K} {n : Nat} {f : sx_F} {k : Nat} {q : Nat × va_E} (h : (sx_w G b lay n f)[k]? = some q) : k < n ∧ q = (b + k, sx_e G b (f k) (lay k)) := by
  have hk : k < n := by
    have h1 := (List.getElem?_eq_some_iff.mp h).1
    rw [sx_len] at h1
    exact h1
  rw [sx_get hk] at h
  exact ⟨hk, (Option.some.inj h).symm⟩
theorem sx_set {G : sx_G} {b : Nat} {lay : Nat → sx_K} {n : Nat} {f f' : sx_F} {k : Nat} {e : va_E} (h : k < n) (he : e = sx_e G b (f' k) (lay k)) (ho : ∀ j, j ≠ k → f' j = f j) : (sx_w G b lay n f).set k (b + k, e) = sx_w G b lay n f' := by
  subst he
  apply List.ext_getElem?
  intro i
  by_cases hi : i < n
  · by_cases hik : k = i
    · subst hik
      rw [sx_get hi, List.getElem?_set_self (by rw [sx_len]; exact hi)]
    · rw [List.getElem?_set_ne hik, sx_get hi, sx_get hi, ho i (fun e => hik e.symm)]
  · rw [List.getElem?_eq_none (by rw [List.length_set, sx_len]; omega), List.getElem?_eq_none (by rw [sx_len]; omega)]
theorem sx_fv_len (b : Nat) (g : Nat → Int32) : ∀ (fs : List (Option (Option Nat))) (i : Nat), (sx_fv b g fs i).length = fs.length
  | [], _ => rfl
  | none :: r, i => by rw [sx_fv, List.length_cons, List.length_cons, sx_fv_len b g r]
  | some q :: r, i => by rw [sx_fv, List.length_cons, List.length_cons, sx_fv_len b g r]
theorem sx_fv_i (b : Nat) (g : Nat → Int32) : ∀ (fs : List (Option (Option Nat))) (i j : Nat), fs[j]? = some none → (sx_fv b g fs i)[j]? = some (.int (g (i + j)))
  | [], i, j, h => by simp at h
  | none :: r, i, 0, _ => rfl
  | some q :: r, i, 0, h => by simp at h
  | none :: r, i, j + 1, h => by
    rw [sx_fv, List.getElem?_cons_succ, sx_fv_i b g r (i + 1) j (by simpa using h), show i + 1 + j = i + (j + 1) by omega]
  | some q :: r, i, j + 1, h => by
    rw [sx_fv, List.getElem?_cons_succ, sx_fv_i b g r (i + 1) j (by simpa using h), show i + 1 + j = i + (j + 1) by omega]
theorem sx_fv_q (b : Nat) (g : Nat → Int32) : ∀ (fs : List (Option (Option Nat))) (i j : Nat) (q : Option Nat), fs[j]? = some (some q) → (sx_fv b g fs i)[j]? = some (va_rf (q.map (fun k => b + k)))
  | [], i, j, q, h => by simp at h
  | none :: r, i, 0, q, h => by simp at h
  | some q0 :: r, i, 0, q, h => by
    have h1 : q0 = q := by simpa using h
    rw [h1]
    rfl
  | none :: r, i, j + 1, q, h => by rw [sx_fv, List.getElem?_cons_succ, sx_fv_q b g r (i + 1) j q (by simpa using h)]
  | some q0 :: r, i, j + 1, q, h => by rw [sx_fv, List.getElem?_cons_succ, sx_fv_q b g r (i + 1) j q (by simpa using h)]
theorem sx_fv_o (b : Nat) (g g' : Nat → Int32) : ∀ (fs : List (Option (Option Nat))) (i : Nat), (∀ j, i ≤ j → g' j = g j) → sx_fv b g' fs i = sx_fv b g fs i
  | [], _, _ => rfl
  | none :: r, i, h => by rw [sx_fv, sx_fv, h i (Nat.le_refl i), sx_fv_o b g g' r (i + 1) (fun j hj => h j (by omega))]
  | some q :: r, i, h => by rw [sx_fv, sx_fv, sx_fv_o b g g' r (i + 1) (fun j hj => h j (by omega))]
theorem sx_fv_set (b : Nat) (g : Nat → Int32) (v : Int32) : ∀ (fs : List (Option (Option Nat))) (i j : Nat), fs[j]? = some none → (sx_fv b g fs i).set j (.int v) = sx_fv b (upd g (i + j) v) fs i
  | [], i, j, h => by simp at h
  | none :: r, i, 0, _ => by
    rw [sx_fv, sx_fv, List.set_cons_zero, sx_fv_o b g (upd g (i + 0) v) r (i + 1) (fun j hj => if_neg (by omega))]
    simp [upd]
  | some q :: r, i, 0, h => by simp at h
  | none :: r, i, j + 1, h => by
    rw [sx_fv, sx_fv, List.set_cons_succ, sx_fv_set b g v r (i + 1) j (by simpa using h), show i + 1 + j = i + (j + 1) by omega]
    have e : upd g (i + (j + 1)) v i = g i := if_neg (by omega)
    rw [e]
  | some q :: r, i, j + 1, h => by
    rw [sx_fv, sx_fv, List.set_cons_succ, sx_fv_set b g v r (i + 1) j (by simpa using h), show i + 1 + j = i + (j + 1) by omega]
/-! the tables' words -/
def sx_N (U : State) : Prop := ∀ w ∈ sx_nw, va_Nw w U
/-- arrays of arrays: the table's word holds behind any warming -/
theorem sx_AOA {t : FieldType} {u U : State} (hvm : u.vm.Alike U.vm) (h : va_Nw (.arrayOver (.array t)) u) : va_Nw (.arrayOver (.array t)) U := by
  obtain ⟨comp, c, k, h1, h2, h3, h4, h5⟩ := arrayOverA_spec h
  obtain ⟨k', hk', he⟩ := hvm.2.2 _ _ h3
  have hi : (U.vm.classes.findIdx? fun (x : Class) => match x.kind with | .array component _ => component == comp | _ => false) = some c := by
    have e1 := va_idx_bare U.vm comp
    have e2 := va_idx_bare u.vm comp
    have e3 : U.vm.bare.classes = u.vm.bare.classes := by first | rw [hvm.bare_eq] | rw [← hvm.bare_eq]
    rw [e3] at e1
    exact e1.symm.trans (e2.trans h2)
  have hkind : k'.kind = .array comp (.array t) := by rw [he]; exact h4
  have f1 : U.vm.findClass (FieldType.array t).toString = some comp := by rw [hvm.findClass]; exact h1
  have f2 : U.vm.findClass ("[" ++ (FieldType.array t).toString) = some c := by rw [hvm.findClass]; exact h5
  unfold va_Nw Cond.before Cond.holds
  simp only [Cond.value]
  rw [f1, Option.bind_some]
  refine (congrArg (fun o : Option Nat => (o.bind (fun c => (U.vm.classes[c]?).map fun (k : Class) => match k.kind with | .array _ ty => decide (ty = FieldType.array t) && decide (U.vm.findClass ("[" ++ (FieldType.array t).toString) = some c) | _ => false) == some true)) hi).trans ?_
  simp [hk', hkind, f2]
theorem sx_kw_warm {w : Cond} {s U : State} (hg : sx_kw w = true) (hW : s.WarmedH U.vm) (h : va_Nw w s) : va_Nw w U := by
  cases w with
  | fieldLinkNest a i b n d h1 => exact va_Nw.warmF hW h
  | methodLinkNest a i x h1 => exact va_Nw.warmM hW h
  | declares x => exact va_Nw.warmD hW h
  | castable a b => exact va_Nw.warmC hW h
  | arrayOver ty =>
    cases ty with
    | object C => exact va_AO.moved hW.alike h
    | array t => exact sx_AOA hW.alike h
    | _ => simp [sx_kw] at hg
  | _ => simp [sx_kw] at hg
theorem sx_N.warm {s U : State} (hW : s.WarmedH U.vm) (h : sx_N s) : sx_N U := fun w hw => sx_kw_warm (List.mem_filter.mp hw).2 hW (h w hw)
def sx_S (U : State) : Prop := ∀ q ∈ sx_str, ∃ a, vk_R q.1 q.2.1 q.2.2 a U
theorem sx_S.warm {s U : State} (hW : s.WarmedH U.vm) (h : sx_S s) : sx_S U := fun q hq => by
  obtain ⟨a, ha⟩ := h q hq
  exact ⟨a, vk_R.warm hW ha⟩
def sx_Z (A : Nat → Prop) (U : State) (H : Heap) : Prop := vx_Zq Bundle.tN "UNASSIGNED_STACK" Bundle.steD A U H ∧ vx_Zq Bundle.tN "SUPPRESSED_SENTINEL" Bundle.listD A U H
def sx_tys (G : sx_G) : List (ClassId × FieldType) := [(G.1, .int), (G.2 0, .object "Stavehouse$Copy"), (G.2 1, .object "Stavehouse$Desk"), (G.2 2, .array .int), (G.2 3, .long)]
def sx_V (D : va_G) (G : sx_G) (A : Nat → Prop) (U : State) (H : Heap) : Prop := va_K D vwCl (sx_tys G) U ∧ sx_N U ∧ sx_S U ∧ sx_Z A U H
theorem sx_V.warm {D : va_G} {G : sx_G} {A : Nat → Prop} {s U : State} {H : Heap} (hW : s.WarmedH U.vm) (h : sx_V D G A s H) : sx_V D G A U H :=
  ⟨va_K.moved hW.alike h.1, h.2.1.warm hW, h.2.2.1.warm hW, vx_Zq.moved hW.alike h.2.2.2.1, vx_Zq.moved hW.alike h.2.2.2.2⟩
theorem sx_V.kept {D : va_G} {G : sx_G} {A : Nat → Prop} {s : State} {H H1 : Heap} (h : sx_V D G A s H) (hq : ∀ a : Nat, a < H.size → ¬ A a → H1[a]? = H[a]?) : sx_V D G A s H1 :=
  ⟨h.1, h.2.1, h.2.2.1, h.2.2.2.1.kept hq, h.2.2.2.2.kept hq⟩
theorem sx_V.narrow {D : va_G} {G : sx_G} {A B : Nat → Prop} {s : State} {H : Heap} (h : sx_V D G A s H) (hAB : ∀ q, B q → A q) : sx_V D G B s H :=
  ⟨h.1, h.2.1, h.2.2.1, h.2.2.2.1.narrow hAB, h.2.2.2.2.narrow hAB⟩
/-- what a method may change: its world's cells, and those that it makes -/
def sx_A (b n sz : Nat) : Nat → Prop := fun q => (b ≤ q ∧ q < b + n) ∨ sz ≤ q
theorem sx_A.in {b n sz k : Nat} (h : k < n) : sx_A b n sz (b + k) := Or.inl ⟨Nat.le_add_right _ _, Nat.add_lt_add_left h _⟩
theorem sx_D {A : Nat → Prop} {G : sx_G} {b : Nat} {lay : Nat → sx_K} {n : Nat} {f : sx_F} (h : ∀ k, k < n → A (b + k)) : va_D A (sx_w G b lay n f) := by
  refine ⟨fun i j p q hi hj e => ?_, fun k q hk => ?_⟩
  · obtain ⟨h1, rfl⟩ := sx_inv hi
    obtain ⟨h2, rfl⟩ := sx_inv hj
    exact Nat.add_left_cancel e
  · obtain ⟨h1, rfl⟩ := sx_inv hk
    exact h k h1
abbrev sx_wp (D : va_G) (G : sx_G) (b : Nat) (lay : Nat → sx_K) (n : Nat) (f : sx_F) (H : Heap) : Prop := va_P D vwCl (sx_w G b lay n f) H
/-- what holds of a method's frame while it runs -/
def sx_Cx (p : Program) (l : Launch) (s : State) (m : MethodId) (args : Array Value) (meth : Method) (c : Code) (D : va_G) (G : sx_G) (A : Nat → Prop) (cc : ByteArray) (nL : Nat) (own : String) : Prop :=
  p.tables.exec = Jvm.exec ∧ c.code = cc ∧ c.maxLocals = nL ∧ s.vm.findClass own = some m.cls ∧ (∀ w ∈ sx_ws, w.before args s = true) ∧ (∀ q, s.heap.size ≤ q → A q) ∧ meth.locks = false ∧ l.stackTraces = false ∧ sx_V D G A s s.heap
/-- the machine at pc, with these locals and this stack, in the world of u: it comes to Q -/
def sx_J {σ : Type} (wd : σ → Heap → Prop) (p : Program) (l : Launch) (e : Env) (R : Room) (s : State) (m : MethodId) (args : Array Value) (below : List Frame) (meth : Method) (c : Code) (A : Nat → Prop) (nL cells slots : Nat) (Q : State → Prop) (u : σ) (pc : Nat) (lv : List (Nat × Value)) (st : List Value) : Prop :=
  ∀ (H : Heap) (locs : List Loc) (ls : Array Slot), wd u H → va_S A s.heap H locs → lv_has ls nL lv → W p l e R s m args below meth c H locs cells slots Q (F0 m pc ls st)
section SX
variable {σ : Type} {wd : σ → Heap → Prop} {p : Program} {l : Launch} {e : Env} {R : Room} {s : State} {m : MethodId} {args : Array Value} {below : List Frame} {meth : Method} {c : Code} {D : va_G} {G : sx_G} {A : Nat → Prop} {cc : ByteArray} {nL cells slots : Nat} {own : String} {Q : State → Prop} {u : σ} {pc : Nat} {lv : List (Nat × Value)} {st : List Value}
theorem sx_widen {k n : Nat} (h1 : cells ≤ k) (h2 : slots ≤ n) (kk : sx_J wd p l e R s m args below meth c A nL k n Q u pc lv st) : sx_J wd p l e R s m args below meth c A nL cells slots Q (u) (pc) (lv) (st) := fun H locs ls hP hS hl => W.widen h1 h2 (kk H locs ls hP hS hl)
theorem sx_sub {lv' : List (Nat × Value)} (ks : List Nat) (h : lv_pick lv ks = lv') (k : sx_J wd p l e R s m args below meth c A nL cells slots Q (u) (pc) (lv') (st)) : sx_J wd p l e R s m args below meth c A nL cells slots Q (u) (pc) (lv) (st) := fun H locs ls hP hS hl => k H locs ls hP hS (lv_sub hl ks h)
theorem sx_topi {x : Int32} (k : ∀ y : Int32, y = x → sx_J wd p l e R s m args below meth c A nL cells slots Q (u) (pc) (lv) (.int y :: st)) : sx_J wd p l e R s m args below meth c A nL cells slots Q (u) (pc) (lv) (.int x :: st) := k x rfl
theorem sx_iconst (C : sx_Cx p l s m args meth c D G A cc nL own) {n : Int} (d : decode cc pc = .ok (.iconst n, 1)) (v : Int32) (hv : Int32.ofInt n = v) (q : Nat) (hq : pc + 1 = q) (k : sx_J wd p l e R s m args below meth c A nL cells slots Q (u) (q) (lv) (.int v :: st)) : sx_J wd p l e R s m args below meth c A nL cells slots Q (u) (pc) (lv) (st) := by
  subst hq
  exact fun H locs ls hP hS hl => lv_iconst C.1 C.2.1 d hv (k H locs ls hP hS hl)
theorem sx_bipush (C : sx_Cx p l s m args meth c D G A cc nL own) {n : Int} (d : decode cc pc = .ok (.bipush n, 2)) (v : Int32) (hv : (Int8.ofInt n).toInt32 = v) (q : Nat) (hq : pc + 2 = q) (k : sx_J wd p l e R s m args below meth c A nL cells slots Q (u) (q) (lv) (.int v :: st)) : sx_J wd p l e R s m args below meth c A nL cells slots Q (u) (pc) (lv) (st) := by
  subst hq
  exact fun H locs ls hP hS hl => lv_bipush C.1 C.2.1 d hv (k H locs ls hP hS hl)
theorem sx_sipush (C : sx_Cx p l s m args meth c D G A cc nL own) {n : Int} (d : decode cc pc = .ok (.sipush n, 3)) (v : Int32) (hv : (Int16.ofInt n).toInt32 = v) (q : Nat) (hq : pc + 3 = q) (k : sx_J wd p l e R s m args below meth c A nL cells slots Q (u) (q) (lv) (.int v :: st)) : sx_J wd p l e R s m args below meth c A nL cells slots Q (u) (pc) (lv) (st) := by
  subst hq
  exact fun H locs ls hP hS hl => lv_sipush C.1 C.2.1 d hv (k H locs ls hP hS hl)
theorem sx_iload_n (C : sx_Cx p l s m args meth c D G A cc nL own) {kk : Fin 4} {x : Int32} (d : decode cc pc = .ok (.iload_n kk, 1)) (n i : Nat) (hn : (kk : Nat) = n) (hi : lv[i]? = some (n, .int x)) (q : Nat) (hq : pc + 1 = q) (k : sx_J wd p l e R s m args below meth c A nL cells slots Q (u) (q) (lv) (.int x :: st)) : sx_J wd p l e R s m args below meth c A nL cells slots Q (u) (pc) (lv) (st) := by
  subst hq
  exact fun H locs ls hP hS hl => lv_iload_n C.1 C.2.1 d hn (lv_at hl i hi) (k H locs ls hP hS hl)
theorem sx_iload (C : sx_Cx p l s m args meth c D G A cc nL own) {n : Nat} {x : Int32} (d : decode cc pc = .ok (.iload n, 2)) (i : Nat) (hi : lv[i]? = some (n, .int x)) (q : Nat) (hq : pc + 2 = q) (k : sx_J wd p l e R s m args below meth c A nL cells slots Q (u) (q) (lv) (.int x :: st)) : sx_J wd p l e R s m args below meth c A nL cells slots Q (u) (pc) (lv) (st) := by
  subst hq
  exact fun H locs ls hP hS hl => lv_iload C.1 C.2.1 d (lv_at hl i hi) (k H locs ls hP hS hl)
theorem sx_aload_n (C : sx_Cx p l s m args meth c D G A cc nL own) {kk : Fin 4} {x : Nat} (d : decode cc pc = .ok (.aload_n kk, 1)) (n i : Nat) (hn : (kk : Nat) = n) (hi : lv[i]? = some (n, .ref x)) (q : Nat) (hq : pc + 1 = q) (k : sx_J wd p l e R s m args below meth c A nL cells slots Q (u) (q) (lv) (.ref x :: st)) : sx_J wd p l e R s m args below meth c A nL cells slots Q (u) (pc) (lv) (st) := by
  subst hq
  exact fun H locs ls hP hS hl => lv_aload_n C.1 C.2.1 d hn (lv_at hl i hi) (k H locs ls hP hS hl)
theorem sx_aload (C : sx_Cx p l s m args meth c D G A cc nL own) {n : Nat} {x : Nat} (d : decode cc pc = .ok (.aload n, 2)) (i : Nat) (hi : lv[i]? = some (n, .ref x)) (q : Nat) (hq : pc + 2 = q) (k : sx_J wd p l e R s m args below meth c A nL cells slots Q (u) (q) (lv) (.ref x :: st)) : sx_J wd p l e R s m args below meth c A nL cells slots Q (u) (pc) (lv) (st) := by
  subst hq
  exact fun H locs ls hP hS hl => lv_aload C.1 C.2.1 d (lv_at hl i hi) (k H locs ls hP hS hl)
theorem sx_iadd (C : sx_Cx p l s m args meth c D G A cc nL own) {x y : Int32} (d : decode cc pc = .ok (.iadd, 1))  (q : Nat) (hq : pc + 1 = q) (k : sx_J wd p l e R s m args below meth c A nL cells slots Q (u) (q) (lv) (.int (x + y) :: st)) : sx_J wd p l e R s m args below meth c A nL cells slots Q (u) (pc) (lv) (.int y :: .int x :: st) := by
  subst hq
  exact fun H locs ls hP hS hl => lv_iadd C.1 C.2.1 d (k H locs ls hP hS hl)
theorem sx_isub (C : sx_Cx p l s m args meth c D G A cc nL own) {x y : Int32} (d : decode cc pc = .ok (.isub, 1))  (q : Nat) (hq : pc + 1 = q) (k : sx_J wd p l e R s m args below meth c A nL cells slots Q (u) (q) (lv) (.int (x - y) :: st)) : sx_J wd p l e R s m args below meth c A nL cells slots Q (u) (pc) (lv) (.int y :: .int x :: st) := by
  subst hq
  exact fun H locs ls hP hS hl => lv_isub C.1 C.2.1 d (k H locs ls hP hS hl)
theorem sx_imul (C : sx_Cx p l s m args meth c D G A cc nL own) {x y : Int32} (d : decode cc pc = .ok (.imul, 1))  (q : Nat) (hq : pc + 1 = q) (k : sx_J wd p l e R s m args below meth c A nL cells slots Q (u) (q) (lv) (.int (x * y) :: st)) : sx_J wd p l e R s m args below meth c A nL cells slots Q (u) (pc) (lv) (.int y :: .int x :: st) := by
  subst hq
  exact fun H locs ls hP hS hl => lv_imul C.1 C.2.1 d (k H locs ls hP hS hl)
theorem sx_iand (C : sx_Cx p l s m args meth c D G A cc nL own) {x y : Int32} (d : decode cc pc = .ok (.iand, 1))  (q : Nat) (hq : pc + 1 = q) (k : sx_J wd p l e R s m args below meth c A nL cells slots Q (u) (q) (lv) (.int (x &&& y) :: st)) : sx_J wd p l e R s m args below meth c A nL cells slots Q (u) (pc) (lv) (.int y :: .int x :: st) := by
  subst hq
  exact fun H locs ls hP hS hl => lv_iand C.1 C.2.1 d (k H locs ls hP hS hl)
theorem sx_ior (C : sx_Cx p l s m args meth c D G A cc nL own) {x y : Int32} (d : decode cc pc = .ok (.ior, 1))  (q : Nat) (hq : pc + 1 = q) (k : sx_J wd p l e R s m args below meth c A nL cells slots Q (u) (q) (lv) (.int (x ||| y) :: st)) : sx_J wd p l e R s m args below meth c A nL cells slots Q (u) (pc) (lv) (.int y :: .int x :: st) := by
  subst hq
  exact fun H locs ls hP hS hl => lv_ior C.1 C.2.1 d (k H locs ls hP hS hl)
theorem sx_ixor (C : sx_Cx p l s m args meth c D G A cc nL own) {x y : Int32} (d : decode cc pc = .ok (.ixor, 1))  (q : Nat) (hq : pc + 1 = q) (k : sx_J wd p l e R s m args below meth c A nL cells slots Q (u) (q) (lv) (.int (x ^^^ y) :: st)) : sx_J wd p l e R s m args below meth c A nL cells slots Q (u) (pc) (lv) (.int y :: .int x :: st) := by
  subst hq
  exact fun H locs ls hP hS hl => lv_ixor C.1 C.2.1 d (k H locs ls hP hS hl)
theorem sx_ishl (C : sx_Cx p l s m args meth c D G A cc nL own) {x y : Int32} (d : decode cc pc = .ok (.ishl, 1))  (q : Nat) (hq : pc + 1 = q) (k : sx_J wd p l e R s m args below meth c A nL cells slots Q (u) (q) (lv) (.int (x <<< (y &&& 31)) :: st)) : sx_J wd p l e R s m args below meth c A nL cells slots Q (u) (pc) (lv) (.int y :: .int x :: st) := by
  subst hq
  exact fun H locs ls hP hS hl => lv_ishl C.1 C.2.1 d (k H locs ls hP hS hl)
theorem sx_ishr (C : sx_Cx p l s m args meth c D G A cc nL own) {x y : Int32} (d : decode cc pc = .ok (.ishr, 1))  (q : Nat) (hq : pc + 1 = q) (k : sx_J wd p l e R s m args below meth c A nL cells slots Q (u) (q) (lv) (.int (x >>> (y &&& 31)) :: st)) : sx_J wd p l e R s m args below meth c A nL cells slots Q (u) (pc) (lv) (.int y :: .int x :: st) := by
  subst hq
  exact fun H locs ls hP hS hl => lv_ishr C.1 C.2.1 d (k H locs ls hP hS hl)
theorem sx_idiv (C : sx_Cx p l s m args meth c D G A cc nL own) {x y : Int32} (d : decode cc pc = .ok (.idiv, 1)) (hne : ¬ y = 0) (q : Nat) (hq : pc + 1 = q) (k : sx_J wd p l e R s m args below meth c A nL cells slots Q (u) (q) (lv) (.int (x / y) :: st)) : sx_J wd p l e R s m args below meth c A nL cells slots Q (u) (pc) (lv) (.int y :: .int x :: st) := by
  subst hq
  exact fun H locs ls hP hS hl => lv_idiv C.1 C.2.1 d hne (k H locs ls hP hS hl)
theorem sx_irem (C : sx_Cx p l s m args meth c D G A cc nL own) {x y : Int32} (d : decode cc pc = .ok (.irem, 1)) (hne : ¬ y = 0) (q : Nat) (hq : pc + 1 = q) (k : sx_J wd p l e R s m args below meth c A nL cells slots Q (u) (q) (lv) (.int (x - x / y * y) :: st)) : sx_J wd p l e R s m args below meth c A nL cells slots Q (u) (pc) (lv) (.int y :: .int x :: st) := by
  subst hq
  exact fun H locs ls hP hS hl => lv_irem C.1 C.2.1 d hne (k H locs ls hP hS hl)
theorem sx_ineg (C : sx_Cx p l s m args meth c D G A cc nL own) {x : Int32} (d : decode cc pc = .ok (.ineg, 1))  (q : Nat) (hq : pc + 1 = q) (k : sx_J wd p l e R s m args below meth c A nL cells slots Q (u) (q) (lv) (.int (-x) :: st)) : sx_J wd p l e R s m args below meth c A nL cells slots Q (u) (pc) (lv) (.int x :: st) := by
  subst hq
  exact fun H locs ls hP hS hl => lv_ineg C.1 C.2.1 d (k H locs ls hP hS hl)
theorem sx_dup (C : sx_Cx p l s m args meth c D G A cc nL own) {va : Value} (d : decode cc pc = .ok (.dup, 1)) (hva : va.category = 1) (q : Nat) (hq : pc + 1 = q) (k : sx_J wd p l e R s m args below meth c A nL cells slots Q (u) (q) (lv) (va :: va :: st)) : sx_J wd p l e R s m args below meth c A nL cells slots Q (u) (pc) (lv) (va :: st) := by
  subst hq
  exact fun H locs ls hP hS hl => lv_dup C.1 C.2.1 d hva (k H locs ls hP hS hl)
theorem sx_pop (C : sx_Cx p l s m args meth c D G A cc nL own) {va : Value} (d : decode cc pc = .ok (.pop, 1)) (hva : va.category = 1) (q : Nat) (hq : pc + 1 = q) (k : sx_J wd p l e R s m args below meth c A nL cells slots Q (u) (q) (lv) (st)) : sx_J wd p l e R s m args below meth c A nL cells slots Q (u) (pc) (lv) (va :: st) := by
  subst hq
  exact fun H locs ls hP hS hl => lv_pop C.1 C.2.1 d hva (k H locs ls hP hS hl)
theorem sx_dup2 (C : sx_Cx p l s m args meth c D G A cc nL own) {va vb : Value} (d : decode cc pc = .ok (.dup2, 1)) (hva : va.category = 1) (hvb : vb.category = 1) (q : Nat) (hq : pc + 1 = q) (k : sx_J wd p l e R s m args below meth c A nL cells slots Q (u) (q) (lv) (va :: vb :: va :: vb :: st)) : sx_J wd p l e R s m args below meth c A nL cells slots Q (u) (pc) (lv) (va :: vb :: st) := by
  subst hq
  exact fun H locs ls hP hS hl => lv_dup2_11 C.1 C.2.1 d hva hvb (k H locs ls hP hS hl)
theorem sx_dup_x1 (C : sx_Cx p l s m args meth c D G A cc nL own) {va vb : Value} (d : decode cc pc = .ok (.dup_x1, 1)) (hva : va.category = 1) (hvb : vb.category = 1) (q : Nat) (hq : pc + 1 = q) (k : sx_J wd p l e R s m args below meth c A nL cells slots Q (u) (q) (lv) (va :: vb :: va :: st)) : sx_J wd p l e R s m args below meth c A nL cells slots Q (u) (pc) (lv) (va :: vb :: st) := by
  subst hq
  exact fun H locs ls hP hS hl => lv_dup_x1 C.1 C.2.1 d hva hvb (k H locs ls hP hS hl)
theorem sx_ldci (C : sx_Cx p l s m args meth c D G A cc nL own) {index : Nat} (d : decode cc pc = .ok (.ldc index, 2)) (v : Int32) (hc : Cond.constant own index v ∈ sx_ws) (q : Nat) (hq : pc + 2 = q) (k : sx_J wd p l e R s m args below meth c A nL cells slots Q (u) (q) (lv) (.int v :: st)) : sx_J wd p l e R s m args below meth c A nL cells slots Q (u) (pc) (lv) (st) := by
  subst hq
  exact fun H locs ls hP hS hl => lv_ldc C.1 C.2.1 C.2.2.2.1 (C.2.2.2.2.1 _ hc) d (k H locs ls hP hS hl)
theorem sx_istore_n (C : sx_Cx p l s m args meth c D G A cc nL own) {kk : Fin 4} {x : Int32} (d : decode cc pc = .ok (.istore_n kk, 1)) (n : Nat) (hn : (kk : Nat) = n) (lv' : List (Nat × Value)) (hlt : n < nL) (hl' : (n, Value.int x) :: lv.filter (fun q => !(q.1 == n) && !(q.1 + 1 == n && q.2.category == 2)) = lv') (q : Nat) (hq : pc + 1 = q) (k : sx_J wd p l e R s m args below meth c A nL cells slots Q (u) (q) (lv') (st)) : sx_J wd p l e R s m args below meth c A nL cells slots Q (u) (pc) (lv) (.int x :: st) := by
  subst hq
  exact fun H locs ls hP hS hl => lv_istore_n C.1 C.2.1 d hn hl hlt hl' (fun ls' h => k H locs ls' hP hS h)
theorem sx_istore (C : sx_Cx p l s m args meth c D G A cc nL own) {n : Nat} {x : Int32} (d : decode cc pc = .ok (.istore n, 2)) (lv' : List (Nat × Value)) (hlt : n < nL) (hl' : (n, Value.int x) :: lv.filter (fun q => !(q.1 == n) && !(q.1 + 1 == n && q.2.category == 2)) = lv') (q : Nat) (hq : pc + 2 = q) (k : sx_J wd p l e R s m args below meth c A nL cells slots Q (u) (q) (lv') (st)) : sx_J wd p l e R s m args below meth c A nL cells slots Q (u) (pc) (lv) (.int x :: st) := by
  subst hq
  exact fun H locs ls hP hS hl => lv_istore C.1 C.2.1 d hl hlt hl' (fun ls' h => k H locs ls' hP hS h)
theorem sx_astore_n (C : sx_Cx p l s m args meth c D G A cc nL own) {kk : Fin 4} {x : Nat} (d : decode cc pc = .ok (.astore_n kk, 1)) (n : Nat) (hn : (kk : Nat) = n) (lv' : List (Nat × Value)) (hlt : n < nL) (hl' : (n, Value.ref x) :: lv.filter (fun q => !(q.1 == n) && !(q.1 + 1 == n && q.2.category == 2)) = lv') (q : Nat) (hq : pc + 1 = q) (k : sx_J wd p l e R s m args below meth c A nL cells slots Q (u) (q) (lv') (st)) : sx_J wd p l e R s m args below meth c A nL cells slots Q (u) (pc) (lv) (.ref x :: st) := by
  subst hq
  exact fun H locs ls hP hS hl => lv_astore_n C.1 C.2.1 d hn hl hlt hl' (fun ls' h => k H locs ls' hP hS h)
theorem sx_astore (C : sx_Cx p l s m args meth c D G A cc nL own) {n : Nat} {x : Nat} (d : decode cc pc = .ok (.astore n, 2)) (lv' : List (Nat × Value)) (hlt : n < nL) (hl' : (n, Value.ref x) :: lv.filter (fun q => !(q.1 == n) && !(q.1 + 1 == n && q.2.category == 2)) = lv') (q : Nat) (hq : pc + 2 = q) (k : sx_J wd p l e R s m args below meth c A nL cells slots Q (u) (q) (lv') (st)) : sx_J wd p l e R s m args below meth c A nL cells slots Q (u) (pc) (lv) (.ref x :: st) := by
  subst hq
  exact fun H locs ls hP hS hl => lv_astore C.1 C.2.1 d hl hlt hl' (fun ls' h => k H locs ls' hP hS h)
theorem sx_iinc (C : sx_Cx p l s m args meth c D G A cc nL own) {n : Nat} {z : Int} {x : Int32} (d : decode cc pc = .ok (.iinc n z, 3)) (i : Nat) (hi : lv[i]? = some (n, .int x)) (v : Int32) (hv : x + Int32.ofInt z = v) (lv' : List (Nat × Value)) (hlt : n < nL) (hl' : (n, Value.int v) :: lv.filter (fun q => !(q.1 == n) && !(q.1 + 1 == n && q.2.category == 2)) = lv') (q : Nat) (hq : pc + 3 = q) (k : sx_J wd p l e R s m args below meth c A nL cells slots Q (u) (q) (lv') (st)) : sx_J wd p l e R s m args below meth c A nL cells slots Q (u) (pc) (lv) (st) := by
  subst hq
  exact fun H locs ls hP hS hl => lv_iinc C.1 C.2.1 d hl hi hv hlt hl' (fun ls' h => k H locs ls' hP hS h)
theorem sx_icmp_eq (C : sx_Cx p l s m args meth c D G A cc nL own) {x y : Int32} {off : Int} (d : decode cc pc = .ok (.if_icmp .eq off, 3)) (tgt q : Nat) (ht : (pc : Int) + off = (tgt : Int)) (hq : pc + 3 = q) (kt : x = y → sx_J wd p l e R s m args below meth c A nL cells slots Q (u) (tgt) (lv) (st)) (kf : ¬ x = y → sx_J wd p l e R s m args below meth c A nL cells slots Q (u) (q) (lv) (st)) : sx_J wd p l e R s m args below meth c A nL cells slots Q (u) (pc) (lv) (.int y :: .int x :: st) := by
  subst hq
  exact fun H locs ls hP hS hl => lv_icmp_eq C.1 C.2.1 d ht (fun h => kt h H locs ls hP hS hl) (fun h => kf h H locs ls hP hS hl)
theorem sx_if_eq (C : sx_Cx p l s m args meth c D G A cc nL own) {x : Int32} {off : Int} (d : decode cc pc = .ok (.ifCond .eq off, 3)) (tgt q : Nat) (ht : (pc : Int) + off = (tgt : Int)) (hq : pc + 3 = q) (kt : x = 0 → sx_J wd p l e R s m args below meth c A nL cells slots Q (u) (tgt) (lv) (st)) (kf : ¬ x = 0 → sx_J wd p l e R s m args below meth c A nL cells slots Q (u) (q) (lv) (st)) : sx_J wd p l e R s m args below meth c A nL cells slots Q (u) (pc) (lv) (.int x :: st) := by
  subst hq
  exact fun H locs ls hP hS hl => lv_if_eq C.1 C.2.1 d ht (fun h => kt h H locs ls hP hS hl) (fun h => kf h H locs ls hP hS hl)
theorem sx_icmp_ne (C : sx_Cx p l s m args meth c D G A cc nL own) {x y : Int32} {off : Int} (d : decode cc pc = .ok (.if_icmp .ne off, 3)) (tgt q : Nat) (ht : (pc : Int) + off = (tgt : Int)) (hq : pc + 3 = q) (kt : ¬ x = y → sx_J wd p l e R s m args below meth c A nL cells slots Q (u) (tgt) (lv) (st)) (kf : x = y → sx_J wd p l e R s m args below meth c A nL cells slots Q (u) (q) (lv) (st)) : sx_J wd p l e R s m args below meth c A nL cells slots Q (u) (pc) (lv) (.int y :: .int x :: st) := by
  subst hq
  exact fun H locs ls hP hS hl => lv_icmp_ne C.1 C.2.1 d ht (fun h => kt h H locs ls hP hS hl) (fun h => kf h H locs ls hP hS hl)
theorem sx_if_ne (C : sx_Cx p l s m args meth c D G A cc nL own) {x : Int32} {off : Int} (d : decode cc pc = .ok (.ifCond .ne off, 3)) (tgt q : Nat) (ht : (pc : Int) + off = (tgt : Int)) (hq : pc + 3 = q) (kt : ¬ x = 0 → sx_J wd p l e R s m args below meth c A nL cells slots Q (u) (tgt) (lv) (st)) (kf : x = 0 → sx_J wd p l e R s m args below meth c A nL cells slots Q (u) (q) (lv) (st)) : sx_J wd p l e R s m args below meth c A nL cells slots Q (u) (pc) (lv) (.int x :: st) := by
  subst hq
  exact fun H locs ls hP hS hl => lv_if_ne C.1 C.2.1 d ht (fun h => kt h H locs ls hP hS hl) (fun h => kf h H locs ls hP hS hl)
theorem sx_icmp_lt (C : sx_Cx p l s m args meth c D G A cc nL own) {x y : Int32} {off : Int} (d : decode cc pc = .ok (.if_icmp .lt off, 3)) (tgt q : Nat) (ht : (pc : Int) + off = (tgt : Int)) (hq : pc + 3 = q) (kt : x < y → sx_J wd p l e R s m args below meth c A nL cells slots Q (u) (tgt) (lv) (st)) (kf : ¬ x < y → sx_J wd p l e R s m args below meth c A nL cells slots Q (u) (q) (lv) (st)) : sx_J wd p l e R s m args below meth c A nL cells slots Q (u) (pc) (lv) (.int y :: .int x :: st) := by
  subst hq
  exact fun H locs ls hP hS hl => lv_icmp_lt C.1 C.2.1 d ht (fun h => kt h H locs ls hP hS hl) (fun h => kf h H locs ls hP hS hl)
theorem sx_if_lt (C : sx_Cx p l s m args meth c D G A cc nL own) {x : Int32} {off : Int} (d : decode cc pc = .ok (.ifCond .lt off, 3)) (tgt q : Nat) (ht : (pc : Int) + off = (tgt : Int)) (hq : pc + 3 = q) (kt : x < 0 → sx_J wd p l e R s m args below meth c A nL cells slots Q (u) (tgt) (lv) (st)) (kf : ¬ x < 0 → sx_J wd p l e R s m args below meth c A nL cells slots Q (u) (q) (lv) (st)) : sx_J wd p l e R s m args below meth c A nL cells slots Q (u) (pc) (lv) (.int x :: st) := by
  subst hq
  exact fun H locs ls hP hS hl => lv_if_lt C.1 C.2.1 d ht (fun h => kt h H locs ls hP hS hl) (fun h => kf h H locs ls hP hS hl)
theorem sx_icmp_ge (C : sx_Cx p l s m args meth c D G A cc nL own) {x y : Int32} {off : Int} (d : decode cc pc = .ok (.if_icmp .ge off, 3)) (tgt q : Nat) (ht : (pc : Int) + off = (tgt : Int)) (hq : pc + 3 = q) (kt : y ≤ x → sx_J wd p l e R s m args below meth c A nL cells slots Q (u) (tgt) (lv) (st)) (kf : ¬ y ≤ x → sx_J wd p l e R s m args below meth c A nL cells slots Q (u) (q) (lv) (st)) : sx_J wd p l e R s m args below meth c A nL cells slots Q (u) (pc) (lv) (.int y :: .int x :: st) := by
  subst hq
  exact fun H locs ls hP hS hl => lv_icmp_ge C.1 C.2.1 d ht (fun h => kt h H locs ls hP hS hl) (fun h => kf h H locs ls hP hS hl)
theorem sx_if_ge (C : sx_Cx p l s m args meth c D G A cc nL own) {x : Int32} {off : Int} (d : decode cc pc = .ok (.ifCond .ge off, 3)) (tgt q : Nat) (ht : (pc : Int) + off = (tgt : Int)) (hq : pc + 3 = q) (kt : 0 ≤ x → sx_J wd p l e R s m args below meth c A nL cells slots Q (u) (tgt) (lv) (st)) (kf : ¬ 0 ≤ x → sx_J wd p l e R s m args below meth c A nL cells slots Q (u) (q) (lv) (st)) : sx_J wd p l e R s m args below meth c A nL cells slots Q (u) (pc) (lv) (.int x :: st) := by
  subst hq
  exact fun H locs ls hP hS hl => lv_if_ge C.1 C.2.1 d ht (fun h => kt h H locs ls hP hS hl) (fun h => kf h H locs ls hP hS hl)
theorem sx_icmp_gt (C : sx_Cx p l s m args meth c D G A cc nL own) {x y : Int32} {off : Int} (d : decode cc pc = .ok (.if_icmp .gt off, 3)) (tgt q : Nat) (ht : (pc : Int) + off = (tgt : Int)) (hq : pc + 3 = q) (kt : y < x → sx_J wd p l e R s m args below meth c A nL cells slots Q (u) (tgt) (lv) (st)) (kf : ¬ y < x → sx_J wd p l e R s m args below meth c A nL cells slots Q (u) (q) (lv) (st)) : sx_J wd p l e R s m args below meth c A nL cells slots Q (u) (pc) (lv) (.int y :: .int x :: st) := by
  subst hq
  exact fun H locs ls hP hS hl => lv_icmp_gt C.1 C.2.1 d ht (fun h => kt h H locs ls hP hS hl) (fun h => kf h H locs ls hP hS hl)
theorem sx_if_gt (C : sx_Cx p l s m args meth c D G A cc nL own) {x : Int32} {off : Int} (d : decode cc pc = .ok (.ifCond .gt off, 3)) (tgt q : Nat) (ht : (pc : Int) + off = (tgt : Int)) (hq : pc + 3 = q) (kt : 0 < x → sx_J wd p l e R s m args below meth c A nL cells slots Q (u) (tgt) (lv) (st)) (kf : ¬ 0 < x → sx_J wd p l e R s m args below meth c A nL cells slots Q (u) (q) (lv) (st)) : sx_J wd p l e R s m args below meth c A nL cells slots Q (u) (pc) (lv) (.int x :: st) := by
  subst hq
  exact fun H locs ls hP hS hl => lv_if_gt C.1 C.2.1 d ht (fun h => kt h H locs ls hP hS hl) (fun h => kf h H locs ls hP hS hl)
theorem sx_icmp_le (C : sx_Cx p l s m args meth c D G A cc nL own) {x y : Int32} {off : Int} (d : decode cc pc = .ok (.if_icmp .le off, 3)) (tgt q : Nat) (ht : (pc : Int) + off = (tgt : Int)) (hq : pc + 3 = q) (kt : x ≤ y → sx_J wd p l e R s m args below meth c A nL cells slots Q (u) (tgt) (lv) (st)) (kf : ¬ x ≤ y → sx_J wd p l e R s m args below meth c A nL cells slots Q (u) (q) (lv) (st)) : sx_J wd p l e R s m args below meth c A nL cells slots Q (u) (pc) (lv) (.int y :: .int x :: st) := by
  subst hq
  exact fun H locs ls hP hS hl => lv_icmp_le C.1 C.2.1 d ht (fun h => kt h H locs ls hP hS hl) (fun h => kf h H locs ls hP hS hl)
theorem sx_if_le (C : sx_Cx p l s m args meth c D G A cc nL own) {x : Int32} {off : Int} (d : decode cc pc = .ok (.ifCond .le off, 3)) (tgt q : Nat) (ht : (pc : Int) + off = (tgt : Int)) (hq : pc + 3 = q) (kt : x ≤ 0 → sx_J wd p l e R s m args below meth c A nL cells slots Q (u) (tgt) (lv) (st)) (kf : ¬ x ≤ 0 → sx_J wd p l e R s m args below meth c A nL cells slots Q (u) (q) (lv) (st)) : sx_J wd p l e R s m args below meth c A nL cells slots Q (u) (pc) (lv) (.int x :: st) := by
  subst hq
  exact fun H locs ls hP hS hl => lv_if_le C.1 C.2.1 d ht (fun h => kt h H locs ls hP hS hl) (fun h => kf h H locs ls hP hS hl)
theorem sx_goto (C : sx_Cx p l s m args meth c D G A cc nL own) {off : Int} (d : decode cc pc = .ok (.goto off, 3)) (tgt : Nat) (ht : (pc : Int) + off = (tgt : Int)) (k : sx_J wd p l e R s m args below meth c A nL cells slots Q (u) (tgt) (lv) (st)) : sx_J wd p l e R s m args below meth c A nL cells slots Q (u) (pc) (lv) (st) := fun H locs ls hP hS hl => lv_goto C.1 C.2.1 d ht (k H locs ls hP hS hl)
theorem sx_mmax (C : sx_Cx p l s m args meth c D G A cc nL own) {index : Nat} {x y : Int32} (d : decode cc pc = .ok (.invokestatic index, 3)) (hlink : Cond.methodLink own index Lib.Math.max.name ∈ sx_ws) (hstat : Cond.static Lib.Math.max.name ∈ sx_ws) (hini : Cond.initialized "java/lang/Math" ∈ sx_ws) (hcode : Cond.code Lib.Math.max.name Lib.Math.max.code 2 (some .int) ∈ sx_ws) (hR : 1 ≤ R.frames ∧ (st.map fun v => v.category).sum + 13 ≤ R.locals ∧ cells ≤ R.cells ∧ slots ≤ R.slots) (q : Nat) (hq : pc + 3 = q) (k : sx_J wd p l e R s m args below meth c A nL cells slots Q (u) (q) (lv) (.int (if x < y then y else x) :: st)) : sx_J wd p l e R s m args below meth c A nL cells slots Q (u) (pc) (lv) (.int y :: .int x :: st) := by
  subst hq
  exact fun H locs ls hP hS hl => va_mmax C.1 C.2.1 (C.2.2.1.trans hl.1.symm) C.2.2.2.1 (C.2.2.2.2.1 _ hlink) (C.2.2.2.2.1 _ hstat) (C.2.2.2.2.1 _ hini) (C.2.2.2.2.1 _ hcode) hR.1 hR.2.1 hR.2.2.1 hR.2.2.2 d (k H locs ls hP hS hl)
theorem sx_mmin (C : sx_Cx p l s m args meth c D G A cc nL own) {index : Nat} {x y : Int32} (d : decode cc pc = .ok (.invokestatic index, 3)) (hlink : Cond.methodLink own index Lib.Math.min.name ∈ sx_ws) (hstat : Cond.static Lib.Math.min.name ∈ sx_ws) (hini : Cond.initialized "java/lang/Math" ∈ sx_ws) (hcode : Cond.code Lib.Math.min.name Lib.Math.min.code 2 (some .int) ∈ sx_ws) (hR : 1 ≤ R.frames ∧ (st.map fun v => v.category).sum + 13 ≤ R.locals ∧ cells ≤ R.cells ∧ slots ≤ R.slots) (q : Nat) (hq : pc + 3 = q) (k : sx_J wd p l e R s m args below meth c A nL cells slots Q (u) (q) (lv) (.int (if y < x then y else x) :: st)) : sx_J wd p l e R s m args below meth c A nL cells slots Q (u) (pc) (lv) (.int y :: .int x :: st) := by
  subst hq
  exact fun H locs ls hP hS hl => va_mmin C.1 C.2.1 (C.2.2.1.trans hl.1.symm) C.2.2.2.1 (C.2.2.2.2.1 _ hlink) (C.2.2.2.2.1 _ hstat) (C.2.2.2.2.1 _ hini) (C.2.2.2.2.1 _ hcode) hR.1 hR.2.1 hR.2.2.1 hR.2.2.2 d (k H locs ls hP hS hl)
end SX

/-! fields and arrays of a world -/
section SY
variable {p : Program} {l : Launch} {e : Env} {R : Room} {s : State} {m : MethodId} {args : Array Value} {below : List Frame} {meth : Method} {c : Code} {D : va_G} {G : sx_G} {A : Nat → Prop} {cc : ByteArray} {nL cells slots : Nat} {own : String} {Q : State → Prop} {pc : Nat} {lv : List (Nat × Value)} {st : List Value} {b n : Nat} {lay : Nat → sx_K} {f : sx_F}
theorem sx_geti (C : sx_Cx p l s m args meth c D G A cc nL own) {ref C0 : String} {T : u_T} {N ci index j : Nat} (d : decode cc pc = .ok (.getfield index, 3)) (hlink : Cond.fieldLink own index ref (T j).2.1 (T j).2.2.1 ∈ sx_ws) (hin : ∀ w ∈ u_ws C0 T N, w ∈ sx_ws) (hc : vwCl[ci]? = some (C0, T, N)) (hjN : j < N) (hsame : (T j).1 = ref) {k : Nat} {fs : List (Option (Option Nat))} (hk : k < n) (hl : lay k = .inr (.inr (ci, fs))) (hj : fs[j]? = some none) (q : Nat) (hq : pc + 3 = q) (kk : sx_J (sx_wp D G b lay n) p l e R s m args below meth c A nL cells slots Q (f) (q) (lv) (.int (f k j) :: st)) : sx_J (sx_wp D G b lay n) p l e R s m args below meth c A nL cells slots Q (f) (pc) (lv) (.ref (b + k) :: st) := by
  subst hq
  subst hsame
  intro H locs ls hP hS hls
  have hg := sx_get (G := G) (b := b) (lay := lay) (f := f) hk
  rw [hl] at hg
  exact va_get C.1 C.2.1 (C.2.2.2.2.1) hin C.2.2.2.1 C.2.2.2.2.2.2.2.2.1 hP k hg hc j hjN (C.2.2.2.2.1 _ hlink) (fun x h => h) (by have h9 := sx_fv_i b (f k) fs 0 j hj; rw [Nat.zero_add] at h9; exact h9) d (kk H locs ls hP hS hls)
theorem sx_getiN (C : sx_Cx p l s m args meth c D G A cc nL own) {ref C0 host : String} {T : u_T} {N ci index j : Nat} (d : decode cc pc = .ok (.getfield index, 3)) (hlink : Cond.fieldLinkNest own index ref (T j).2.1 (T j).2.2.1 host ∈ sx_nw) (hin : ∀ w ∈ u_ws C0 T N, w ∈ sx_ws) (hc : vwCl[ci]? = some (C0, T, N)) (hjN : j < N) (hsame : (T j).1 = ref) {k : Nat} {fs : List (Option (Option Nat))} (hk : k < n) (hl : lay k = .inr (.inr (ci, fs))) (hj : fs[j]? = some none) (q : Nat) (hq : pc + 3 = q) (kk : sx_J (sx_wp D G b lay n) p l e R s m args below meth c A nL cells slots Q (f) (q) (lv) (.int (f k j) :: st)) : sx_J (sx_wp D G b lay n) p l e R s m args below meth c A nL cells slots Q (f) (pc) (lv) (.ref (b + k) :: st) := by
  subst hq
  subst hsame
  intro H locs ls hP hS hls
  have hg := sx_get (G := G) (b := b) (lay := lay) (f := f) hk
  rw [hl] at hg
  exact va_getN C.1 C.2.1 (C.2.2.2.2.1) hin C.2.2.2.1 C.2.2.2.2.2.2.2.2.1 hP k hg hc j hjN (va_Nw.use rfl (C.2.2.2.2.2.2.2.2.2.1 _ hlink)) (fun x h => h) (by have h9 := sx_fv_i b (f k) fs 0 j hj; rw [Nat.zero_add] at h9; exact h9) d (kk H locs ls hP hS hls)
theorem sx_getq (C : sx_Cx p l s m args meth c D G A cc nL own) {ref C0 : String} {T : u_T} {N ci index j : Nat} (d : decode cc pc = .ok (.getfield index, 3)) (hlink : Cond.fieldLink own index ref (T j).2.1 (T j).2.2.1 ∈ sx_ws) (hin : ∀ w ∈ u_ws C0 T N, w ∈ sx_ws) (hc : vwCl[ci]? = some (C0, T, N)) (hjN : j < N) (hsame : (T j).1 = ref) {k r : Nat} {fs : List (Option (Option Nat))} (hk : k < n) (hl : lay k = .inr (.inr (ci, fs))) (hj : fs[j]? = some (some (some r))) (q : Nat) (hq : pc + 3 = q) (kk : sx_J (sx_wp D G b lay n) p l e R s m args below meth c A nL cells slots Q (f) (q) (lv) (.ref (b + r) :: st)) : sx_J (sx_wp D G b lay n) p l e R s m args below meth c A nL cells slots Q (f) (pc) (lv) (.ref (b + k) :: st) := by
  subst hq
  subst hsame
  intro H locs ls hP hS hls
  have hg := sx_get (G := G) (b := b) (lay := lay) (f := f) hk
  rw [hl] at hg
  exact va_get C.1 C.2.1 (C.2.2.2.2.1) hin C.2.2.2.1 C.2.2.2.2.2.2.2.2.1 hP k hg hc j hjN (C.2.2.2.2.1 _ hlink) (fun x h => h) (sx_fv_q b (f k) fs 0 j (some r) hj) d (kk H locs ls hP hS hls)
theorem sx_getqN (C : sx_Cx p l s m args meth c D G A cc nL own) {ref C0 host : String} {T : u_T} {N ci index j : Nat} (d : decode cc pc = .ok (.getfield index, 3)) (hlink : Cond.fieldLinkNest own index ref (T j).2.1 (T j).2.2.1 host ∈ sx_nw) (hin : ∀ w ∈ u_ws C0 T N, w ∈ sx_ws) (hc : vwCl[ci]? = some (C0, T, N)) (hjN : j < N) (hsame : (T j).1 = ref) {k r : Nat} {fs : List (Option (Option Nat))} (hk : k < n) (hl : lay k = .inr (.inr (ci, fs))) (hj : fs[j]? = some (some (some r))) (q : Nat) (hq : pc + 3 = q) (kk : sx_J (sx_wp D G b lay n) p l e R s m args below meth c A nL cells slots Q (f) (q) (lv) (.ref (b + r) :: st)) : sx_J (sx_wp D G b lay n) p l e R s m args below meth c A nL cells slots Q (f) (pc) (lv) (.ref (b + k) :: st) := by
  subst hq
  subst hsame
  intro H locs ls hP hS hls
  have hg := sx_get (G := G) (b := b) (lay := lay) (f := f) hk
  rw [hl] at hg
  exact va_getN C.1 C.2.1 (C.2.2.2.2.1) hin C.2.2.2.1 C.2.2.2.2.2.2.2.2.1 hP k hg hc j hjN (va_Nw.use rfl (C.2.2.2.2.2.2.2.2.2.1 _ hlink)) (fun x h => h) (sx_fv_q b (f k) fs 0 j (some r) hj) d (kk H locs ls hP hS hls)
theorem sx_puti (C : sx_Cx p l s m args meth c D G A cc nL own) {ref C0 : String} {T : u_T} {N ci index j : Nat} (d : decode cc pc = .ok (.putfield index, 3)) (hlink : Cond.fieldLink own index ref (T j).2.1 (T j).2.2.1 ∈ sx_ws) (hin : ∀ w ∈ u_ws C0 T N, w ∈ sx_ws) (hc : vwCl[ci]? = some (C0, T, N)) (ty : Nat → FieldType) (hty : ∀ k, k < N → parseFieldDescriptor (T k).2.2.1 = some (ty k)) (hnm : ∀ a, a < N → ∀ b, b < N → a ≠ b → (T a).2.1 ≠ (T b).2.1) (hjN : j < N) (hsame : (T j).1 = ref) (hfin : (T j).2.2.2 = false) (hint : ty j = .int) (hB : ∀ k, k < n → A (b + k)) {k : Nat} {fs : List (Option (Option Nat))} (hk : k < n) (hl : lay k = .inr (.inr (ci, fs))) (hj : fs[j]? = some none) (q : Nat) (hq : pc + 3 = q) {v : Int32} (kk : ∀ f1 : sx_F, f1 = sx_u f k j v → sx_J (sx_wp D G b lay n) p l e R s m args below meth c A nL cells slots Q (f1) (q) (lv) (st)) : sx_J (sx_wp D G b lay n) p l e R s m args below meth c A nL cells slots Q (f) (pc) (lv) (.int v :: .ref (b + k) :: st) := by
  subst hq
  subst hsame
  intro H locs ls hP hS hls
  have hg := sx_get (G := G) (b := b) (lay := lay) (f := f) hk
  rw [hl] at hg
  have hd := hty j hjN
  rw [hint] at hd
  refine va_put C.1 C.2.1 (C.2.2.2.2.1) hin ty hty hnm C.2.2.2.1 C.2.2.2.2.2.2.2.2.1 hP (sx_D hB) hS k hg hc j hjN (C.2.2.2.2.1 _ hlink) (fun x h => h) hfin (v := .int v) hd rfl rfl (by rw [sx_fv_len]; exact (List.getElem?_eq_some_iff.mp hj).1) d (fun H1 locs1 hP1 _ hS1 => kk _ rfl H1 locs1 ls ?_ hS1 hls)
  have e : (sx_w G b lay n f).set k (b + k, .inr (ci, (sx_fv b (f k) fs 0).set j (.int v))) = sx_w G b lay n (sx_u f k j v) := sx_set hk (by
    rw [hl, sx_u_s]
    show _ = Sum.inr (ci, sx_fv b (upd (f k) j v) fs 0)
    rw [sx_fv_set b (f k) v fs 0 j hj, Nat.zero_add]) (fun i hi => sx_u_n hi)
  show va_P D vwCl (sx_w G b lay n _) H1
  rw [← e]
  exact hP1
theorem sx_putiN (C : sx_Cx p l s m args meth c D G A cc nL own) {ref C0 host : String} {T : u_T} {N ci index j : Nat} (d : decode cc pc = .ok (.putfield index, 3)) (hlink : Cond.fieldLinkNest own index ref (T j).2.1 (T j).2.2.1 host ∈ sx_nw) (hin : ∀ w ∈ u_ws C0 T N, w ∈ sx_ws) (hc : vwCl[ci]? = some (C0, T, N)) (ty : Nat → FieldType) (hty : ∀ k, k < N → parseFieldDescriptor (T k).2.2.1 = some (ty k)) (hnm : ∀ a, a < N → ∀ b, b < N → a ≠ b → (T a).2.1 ≠ (T b).2.1) (hjN : j < N) (hsame : (T j).1 = ref) (hfin : (T j).2.2.2 = false) (hint : ty j = .int) (hB : ∀ k, k < n → A (b + k)) {k : Nat} {fs : List (Option (Option Nat))} (hk : k < n) (hl : lay k = .inr (.inr (ci, fs))) (hj : fs[j]? = some none) (q : Nat) (hq : pc + 3 = q) {v : Int32} (kk : ∀ f1 : sx_F, f1 = sx_u f k j v → sx_J (sx_wp D G b lay n) p l e R s m args below meth c A nL cells slots Q (f1) (q) (lv) (st)) : sx_J (sx_wp D G b lay n) p l e R s m args below meth c A nL cells slots Q (f) (pc) (lv) (.int v :: .ref (b + k) :: st) := by
  subst hq
  subst hsame
  intro H locs ls hP hS hls
  have hg := sx_get (G := G) (b := b) (lay := lay) (f := f) hk
  rw [hl] at hg
  have hd := hty j hjN
  rw [hint] at hd
  refine va_putN C.1 C.2.1 (C.2.2.2.2.1) hin ty hty hnm C.2.2.2.1 C.2.2.2.2.2.2.2.2.1 hP (sx_D hB) hS k hg hc j hjN (va_Nw.use rfl (C.2.2.2.2.2.2.2.2.2.1 _ hlink)) (fun x h => h) hfin (v := .int v) hd rfl rfl (by rw [sx_fv_len]; exact (List.getElem?_eq_some_iff.mp hj).1) d (fun H1 locs1 hP1 _ hS1 => kk _ rfl H1 locs1 ls ?_ hS1 hls)
  have e : (sx_w G b lay n f).set k (b + k, .inr (ci, (sx_fv b (f k) fs 0).set j (.int v))) = sx_w G b lay n (sx_u f k j v) := sx_set hk (by
    rw [hl, sx_u_s]
    show _ = Sum.inr (ci, sx_fv b (upd (f k) j v) fs 0)
    rw [sx_fv_set b (f k) v fs 0 j hj, Nat.zero_add]) (fun i hi => sx_u_n hi)
  show va_P D vwCl (sx_w G b lay n _) H1
  rw [← e]
  exact hP1
theorem sx_iald (C : sx_Cx p l s m args meth c D G A cc nL own) (d : decode cc pc = .ok (.iaload, 1)) {k N : Nat} {i : Int32} (hk : k < n) (hl : lay k = .inl N) (hin : vp_in i N) (q : Nat) (hq : pc + 1 = q) (kk : sx_J (sx_wp D G b lay n) p l e R s m args below meth c A nL cells slots Q (f) (q) (lv) (.int (f k i.toNatClampNeg) :: st)) : sx_J (sx_wp D G b lay n) p l e R s m args below meth c A nL cells slots Q (f) (pc) (lv) (.int i :: .ref (b + k) :: st) := by
  subst hq
  intro H locs ls hP hS hls
  have hg := sx_get (G := G) (b := b) (lay := lay) (f := f) hk
  rw [hl] at hg
  exact va_iald C.1 C.2.1 C.2.2.2.2.2.2.2.2.1 hP k 0 hg rfl hin d (kk H locs ls hP hS hls)
theorem sx_iast (C : sx_Cx p l s m args meth c D G A cc nL own) (d : decode cc pc = .ok (.iastore, 1)) (hB : ∀ k, k < n → A (b + k)) {k N : Nat} {i x : Int32} (hk : k < n) (hl : lay k = .inl N) (hin : vp_in i N) (q : Nat) (hq : pc + 1 = q) (kk : ∀ f1 : sx_F, f1 = sx_u f k i.toNatClampNeg x → sx_J (sx_wp D G b lay n) p l e R s m args below meth c A nL cells slots Q (f1) (q) (lv) (st)) : sx_J (sx_wp D G b lay n) p l e R s m args below meth c A nL cells slots Q (f) (pc) (lv) (.int x :: .int i :: .ref (b + k) :: st) := by
  subst hq
  intro H locs ls hP hS hls
  have hg := sx_get (G := G) (b := b) (lay := lay) (f := f) hk
  rw [hl] at hg
  refine va_iast C.1 C.2.1 C.2.2.2.2.2.2.2.2.1 hP (sx_D hB) hS k 0 hg rfl hin d (fun H1 locs1 hP1 _ hS1 => kk _ rfl H1 locs1 ls ?_ hS1 hls)
  have e : (sx_w G b lay n f).set k (b + k, .inl (G.1, N, .inl (upd (f k) i.toNatClampNeg x))) = sx_w G b lay n (sx_u f k i.toNatClampNeg x) := sx_set hk (by rw [hl, sx_u_s]; rfl) (fun j hj => sx_u_n hj)
  show va_P D vwCl (sx_w G b lay n _) H1
  rw [← e]
  exact hP1
theorem sx_aald (C : sx_Cx p l s m args meth c D G A cc nL own) (d : decode cc pc = .ok (.aaload, 1)) {k t N r : Nat} {g : Nat → Option Nat} {ty : FieldType} {i : Int32} (hk : k < n) (hl : lay k = .inr (.inl (t, N, g))) (ht : (sx_tys G)[t + 1]? = some (G.2 t, ty)) (href : ty.isReference = true) (hin : vp_in i N) (hr : g i.toNatClampNeg = some r) (q : Nat) (hq : pc + 1 = q) (kk : sx_J (sx_wp D G b lay n) p l e R s m args below meth c A nL cells slots Q (f) (q) (lv) (.ref (b + r) :: st)) : sx_J (sx_wp D G b lay n) p l e R s m args below meth c A nL cells slots Q (f) (pc) (lv) (.int i :: .ref (b + k) :: st) := by
  subst hq
  intro H locs ls hP hS hls
  have hg := sx_get (G := G) (b := b) (lay := lay) (f := f) hk
  rw [hl] at hg
  have hlt : i.toNatClampNeg < N := Nat.not_le.mp fun z => hin (Or.inr z)
  refine W.aald (v := .ref (b + r)) (ty := ty) C.1 C.2.1 (hP k _ hg) ((C.2.2.2.2.2.2.2.2.1.2 (t + 1) _ ht).1 N (fun j => va_rf ((g j).map (fun k => b + k)))) href (fun z => by cases z) (by show ¬ (i < 0 ∨ (arrV _ _ _).slots.size ≤ _); rw [arrV_size]; exact hin) ?_ rfl rfl d (kk H locs ls hP hS hls)
  show (arrV _ _ _).slots[_]? = _
  rw [arrV_read _ _ hlt]
  show some (va_rf ((g i.toNatClampNeg).map (fun k => b + k))) = some (Value.ref (b + r))
  rw [hr]
  rfl
theorem sx_aaldn (C : sx_Cx p l s m args meth c D G A cc nL own) (d : decode cc pc = .ok (.aaload, 1)) {k t N : Nat} (r0 : Nat) {g : Nat → Option Nat} {ty : FieldType} {i : Int32} (hk : k < n) (hl : lay k = .inr (.inl (t, N, g))) (ht : (sx_tys G)[t + 1]? = some (G.2 t, ty)) (href : ty.isReference = true) (hin : vp_in i N) (hr : g i.toNatClampNeg = some r0) (q : Nat) (hq : pc + 1 = q) (kk : ∀ r : Nat, r = r0 → sx_J (sx_wp D G b lay n) p l e R s m args below meth c A nL cells slots Q (f) (q) (lv) (.ref (b + r) :: st)) : sx_J (sx_wp D G b lay n) p l e R s m args below meth c A nL cells slots Q (f) (pc) (lv) (.int i :: .ref (b + k) :: st) := sx_aald C d hk hl ht href hin hr q hq (kk r0 rfl)
theorem sx_alen (C : sx_Cx p l s m args meth c D G A cc nL own) (d : decode cc pc = .ok (.arraylength, 1)) {k N : Nat} (hk : k < n) (hl : lay k = .inl N) (v : Int32) (hv : Int32.ofNat N = v) (q : Nat) (hq : pc + 1 = q) (kk : sx_J (sx_wp D G b lay n) p l e R s m args below meth c A nL cells slots Q (f) (q) (lv) (.int v :: st)) : sx_J (sx_wp D G b lay n) p l e R s m args below meth c A nL cells slots Q (f) (pc) (lv) (.ref (b + k) :: st) := by
  subst hq
  intro H locs ls hP hS hls
  have hg := sx_get (G := G) (b := b) (lay := lay) (f := f) hk
  rw [hl] at hg
  exact va_alen C.1 C.2.1 C.2.2.2.2.2.2.2.2.1 hP k 0 hg rfl hv d (kk H locs ls hP hS hls)
end SY
abbrev sx_qi (Q : Int32 → sx_F → Prop) : Option Value → sx_F → Prop := fun v u => ∃ r : Int32, v = some (.int r) ∧ Q r u
abbrev sx_pi (f : sx_F) (Q : Int32 → Prop) : Option Value → sx_F → Prop := fun v u => (∃ r : Int32, v = some (.int r) ∧ Q r) ∧ f = u
abbrev sx_qv (Q : sx_F → Prop) : Option Value → sx_F → Prop := fun v u => v = none ∧ Q u
abbrev sx_pv (f : sx_F) (Q : Prop) : Option Value → sx_F → Prop := fun v u => (v = none ∧ Q) ∧ f = u
abbrev sx_pr (b : Nat) (is : Nat → Prop) (f : sx_F) (Q : Nat → Prop) : Option Value → sx_F → Prop := fun v u => (∃ r : Nat, v = some (.ref (b + r)) ∧ is r ∧ Q r) ∧ f = u
abbrev sx_xp (f : sx_F) (X : String → Prop) : String → sx_F → Prop := fun E u => X E ∧ f = u
/-! contracts: a method of a world; it answers (v, u) with Qv v u, or throws an E with X E u -/
section SC
variable {σ : Type}
def sx_Qc (wd : σ → Heap → Prop) (A : Nat → Prop) (Qv : Option Value → σ → Prop) : Array Value → State → Outcome → State → Prop := fun _ st o t => (∃ (v : Option Value) (u : σ), o = .returned v ∧ Qv v u ∧ wd u t.heap) ∧ va_F A st t
def sx_XC (wd : σ → Heap → Prop) (A : Nat → Prop) (X : String → σ → Prop) : String → State → State → Prop := fun E st t => ∃ u : σ, X E u ∧ wd u t.heap ∧ va_F A st t
def sx_Pre (D : va_G) (G : sx_G) (b n : Nat) (lay : Nat → sx_K) (as : List Value) (f : sx_F) (sz : Nat) : Array Value → State → Prop := va_Pc as (fun U => U.heap.size = sz ∧ va_P D vwCl (sx_w G b lay n f) U.heap ∧ sx_V D G (sx_A b n sz) U U.heap)
def sx_Met (l : Launch) (D : va_G) (G : sx_G) (b n : Nat) (lay : Nat → sx_K) (y : MethodName) (cc : ByteArray) (maxL : Nat) (ret : Option FieldType) (fr lo mc ms : Nat) (as : List Value) (f : sx_F) (Qv : Option Value → sx_F → Prop) (X : String → sx_F → Prop) : Prop :=
  ∀ sz : Nat, vx_Met l y (Cond.code y cc maxL ret :: sx_ws) { frames := fr, cells := mc, slots := ms, locals := lo } (sx_Pre D G b n lay as f sz) (sx_Qc (sx_wp D G b lay n) (sx_A b n sz) Qv) (sx_XC (sx_wp D G b lay n) (sx_A b n sz) X) mc ms (sx_A b n sz)
def sx_MetN (l : Launch) (D : va_G) (G : sx_G) (b n : Nat) (lay : Nat → sx_K) (y : MethodName) (cc : ByteArray) (maxL : Nat) (ret : Option FieldType) (fr lo : Nat) (as : List Value) (f : sx_F) (Qv : Option Value → sx_F → Prop) : Prop :=
  ∀ sz : Nat, Met l y (Cond.code y cc maxL ret :: sx_ws) { frames := fr, cells := 0, slots := 0, locals := lo } (sx_Pre D G b n lay as f sz) (sx_Qc (sx_wp D G b lay n) (sx_A b n sz) Qv) 0 0 (sx_A b n sz)
def sx_fin (wd : σ → Heap → Prop) (A : Nat → Prop) (below : List Frame) (args : Array Value) (s : State) (mc ms : Nat) (Qv : Option Value → σ → Prop) (X : String → σ → Prop) : State → Prop := vx_MQ below (sx_Qc wd A Qv) (sx_XC wd A X) args s mc ms A
theorem sx_gi {y : MethodName} {cc : ByteArray} {maxL : Nat} {ret : Option FieldType} (hc : Cond.code y cc maxL ret ∈ sx_ws) : GoodIn sx_ws (Cond.code y cc maxL ret :: sx_ws) := fun w hw => by
  have h1 : w ∈ sx_ws := (List.mem_cons.mp hw).elim (fun e => by rw [e]; exact hc) id
  exact ⟨h1, good_of_word (List.mem_filter.mp h1).2⟩
theorem sx_blind {D : va_G} {G : sx_G} {b n sz : Nat} {lay : Nat → sx_K} {as : List Value} {f : sx_F} : FrameBlind (sx_Pre D G b n lay as f sz) := fun a U g mk h => ⟨h.1, h.2.1, h.2.2.1, sx_V.warm (s := U) (U := U.calling g mk a) (State.WarmedH.refl U) h.2.2.2⟩
variable {p : Program} {l : Launch} {e : Env} {R : Room} {s : State} {m : MethodId} {args : Array Value} {below : List Frame} {meth : Method} {c : Code} {D : va_G} {G : sx_G} {A : Nat → Prop} {cc : ByteArray} {nL cells slots : Nat} {own : String} {Q : State → Prop} {pc : Nat} {lv : List (Nat × Value)} {st : List Value} {b n : Nat} {lay : Nat → sx_K} {f : sx_F} {wd : σ → Heap → Prop}
/-- a method from its entry -/
theorem sx_enter {y : MethodName} {maxL : Nat} {ret : Option FieldType} {fr lo mc ms : Nat} {as : List Value} {Qv : Option Value → sx_F → Prop} {X : String → sx_F → Prop} (hl : l.stackTraces = false) (hy : plainName y.cls = true) (hown : y.cls = own) (hn : (lg_sl as).length ≤ maxL)
    (body : ∀ (p : Program) (e : Env) (s : State) (m : MethodId) (args : Array Value) (below : List Frame) (meth : Method) (c : Code), sx_Cx p l s m args meth c D G (sx_A b n s.heap.size) cc maxL own → meth.sig.returnType = ret → (∀ x ∈ c.exceptionTable.toList, False) →
      sx_J (sx_wp D G b lay n) p l e { frames := fr, cells := mc, slots := ms, locals := lo } s m args below meth c (sx_A b n s.heap.size) maxL 0 0 (sx_fin (sx_wp D G b lay n) (sx_A b n s.heap.size) below args s mc ms Qv X) f 0 (lv_args 0 as) []) : sx_Met l D G b n lay y cc maxL ret fr lo mc ms as f Qv X := by
  intro sz
  refine vx_ofW (cc := cc) (maxL := maxL) (ret := ret) hy rfl ?_
  intro p e s m args below meth c s₁ B hml ht hv
  obtain ⟨rfl, hsz, hP, hV⟩ := hv
  subst hsz
  have hts := atoms_spec (ws := Cond.code y cc maxL ret :: sx_ws) B.pre
  have hC : sx_Cx p l s m as.toArray meth c D G (sx_A b n s.heap.size) cc maxL own := ⟨B.exec, B.bytes, hml, hown ▸ findClass_of_methodNamed B.named, fun w hw => hts w (List.mem_cons_of_mem _ hw), fun q hq => Or.inr hq, B.notSynchronized, hl, hV⟩
  rw [lg_entry_eq]
  exact body p e s m as.toArray below meth c hC B.returns ht s.heap [] _ hP va_S.rf (lv_entry as hn)
theorem sx_enterN {y : MethodName} {maxL : Nat} {ret : Option FieldType} {fr lo : Nat} {as : List Value} {Qv : Option Value → sx_F → Prop} (hl : l.stackTraces = false) (hy : plainName y.cls = true) (hown : y.cls = own) (hn : (lg_sl as).length ≤ maxL)
    (body : ∀ (p : Program) (e : Env) (s : State) (m : MethodId) (args : Array Value) (below : List Frame) (meth : Method) (c : Code), sx_Cx p l s m args meth c D G (sx_A b n s.heap.size) cc maxL own → meth.sig.returnType = ret →
      sx_J (sx_wp D G b lay n) p l e { frames := fr, cells := 0, slots := 0, locals := lo } s m args below meth c (sx_A b n s.heap.size) maxL 0 0 (MQ below (sx_Qc (sx_wp D G b lay n) (sx_A b n s.heap.size) Qv) args s 0 0 (sx_A b n s.heap.size)) f 0 (lv_args 0 as) []) : sx_MetN l D G b n lay y cc maxL ret fr lo as f Qv := by
  intro sz
  refine Met.ofW (cc := cc) (maxL := maxL) (ret := ret) hy rfl ?_
  intro p e s m args below meth c s₁ B hml hv
  obtain ⟨rfl, hsz, hP, hV⟩ := hv
  subst hsz
  have hts := atoms_spec (ws := Cond.code y cc maxL ret :: sx_ws) B.pre
  have hC : sx_Cx p l s m as.toArray meth c D G (sx_A b n s.heap.size) cc maxL own := ⟨B.exec, B.bytes, hml, hown ▸ findClass_of_methodNamed B.named, fun w hw => hts w (List.mem_cons_of_mem _ hw), fun q hq => Or.inr hq, B.notSynchronized, hl, hV⟩
  rw [lg_entry_eq]
  exact body p e s m as.toArray below meth c hC B.returns s.heap [] _ hP va_S.rf (lv_entry as hn)
theorem sx_iret (C : sx_Cx p l s m args meth c D G A cc nL own) {mc ms : Nat} {Qv : Option Value → σ → Prop} {X : String → σ → Prop} {v : Int32} {u : σ} (d : decode cc pc = .ok (.ireturn, 1)) (hr : meth.sig.returnType = some .int) (hc : cells ≤ mc) (hs : slots ≤ ms) (hQ : Qv (some (.int v)) u) : sx_J wd p l e R s m args below meth c A nL cells slots (sx_fin wd A below args s mc ms Qv X) u pc lv [.int v] := fun H locs ls hP hS hl =>
  W.widen hc hs (vx_ret (W.iret C.1 C.2.1 hr (fun t ht _ => ⟨⟨_, u, rfl, hQ, by rw [ht]; exact hP⟩, hS.F ht⟩) hS.2.2 d C.2.2.2.2.2.2.1))
theorem sx_iretN (C : sx_Cx p l s m args meth c D G A cc nL own) {Qv : Option Value → σ → Prop} {v : Int32} {u : σ} (d : decode cc pc = .ok (.ireturn, 1)) (hr : meth.sig.returnType = some .int) (hQ : Qv (some (.int v)) u) : sx_J wd p l e R s m args below meth c A nL cells slots (MQ below (sx_Qc wd A Qv) args s cells slots A) u pc lv [.int v] := fun H locs ls hP hS hl =>
  W.iret C.1 C.2.1 hr (fun t ht _ => ⟨⟨_, u, rfl, hQ, by rw [ht]; exact hP⟩, hS.F ht⟩) hS.2.2 d C.2.2.2.2.2.2.1
theorem sx_zret (C : sx_Cx p l s m args meth c D G A cc nL own) {mc ms : Nat} {Qv : Option Value → σ → Prop} {X : String → σ → Prop} {v : Int32} {u : σ} (d : decode cc pc = .ok (.ireturn, 1)) (hr : meth.sig.returnType = some .boolean) (hc : cells ≤ mc) (hs : slots ≤ ms) (hv : v = 0 ∨ v = 1) (hQ : Qv (some (.int v)) u) : sx_J wd p l e R s m args below meth c A nL cells slots (sx_fin wd A below args s mc ms Qv X) u pc lv [.int v] := fun H locs ls hP hS hl =>
  W.widen hc hs (vx_ret (W.zret C.1 C.2.1 hr (by rcases hv with rfl | rfl <;> rfl) (fun t ht _ => ⟨⟨_, u, rfl, hQ, by rw [ht]; exact hP⟩, hS.F ht⟩) hS.2.2 d C.2.2.2.2.2.2.1))
theorem sx_vret (C : sx_Cx p l s m args meth c D G A cc nL own) {mc ms : Nat} {Qv : Option Value → σ → Prop} {X : String → σ → Prop} {u : σ} (d : decode cc pc = .ok (.return_, 1)) (hr : meth.sig.returnType = none) (hc : cells ≤ mc) (hs : slots ≤ ms) (hQ : Qv none u) : sx_J wd p l e R s m args below meth c A nL cells slots (sx_fin wd A below args s mc ms Qv X) u pc lv [] := fun H locs ls hP hS hl =>
  W.widen hc hs (vx_ret (W.vret C.1 C.2.1 hr (fun t ht _ => ⟨⟨_, u, rfl, hQ, by rw [ht]; exact hP⟩, hS.F ht⟩) hS.2.2 d C.2.2.2.2.2.2.1))
theorem sx_aret (C : sx_Cx p l s m args meth c D G A cc nL own) {mc ms : Nat} {Qv : Option Value → σ → Prop} {X : String → σ → Prop} {a : Nat} {u : σ} {nm : String} (d : decode cc pc = .ok (.areturn, 1)) (hr : meth.sig.returnType = some (.object nm)) (hc : cells ≤ mc) (hs : slots ≤ ms) (hQ : Qv (some (.ref a)) u) : sx_J wd p l e R s m args below meth c A nL cells slots (sx_fin wd A below args s mc ms Qv X) u pc lv [.ref a] := fun H locs ls hP hS hl =>
  W.widen hc hs (vx_ret (W.aret C.1 C.2.1 hr (Or.inl ⟨_, rfl⟩) (Or.inr ⟨_, rfl⟩) (fun t ht _ => ⟨⟨_, u, rfl, hQ, by rw [ht]; exact hP⟩, hS.F ht⟩) hS.2.2 d C.2.2.2.2.2.2.1))
/-- 'throw new E("text")' -/
theorem sx_throw (C : sx_Cx p l s m args meth c D G A cc nL own) (ht : ∀ x ∈ c.exceptionTable.toList, False) {mc ms : Nat} {Qv : Option Value → sx_F → Prop} {X : String → sx_F → Prop} {u : sx_F} {cls text : String} {names : List String} {ik is ic : Nat}
    (d0 : decode cc pc = .ok (.new ik, 3)) (d3 : decode cc (pc + 3) = .ok (.dup, 1)) (d4 : decode cc (pc + 4) = .ok (.ldc is, 2)) (d6 : decode cc (pc + 6) = .ok (.invokespecial ic, 3)) (d9 : decode cc (pc + 9) = .ok (.athrow, 1))
    (hcls : Bundle.fit cls = true ∧ (∀ n ∈ names, Bundle.fit n = true)) (hk : Cond.classLink own ik cls ∈ sx_ws) (hini : Cond.initialized cls ∈ sx_ws) (hstr : (own, is, text) ∈ sx_str) (hat : ∀ w ∈ vx_atS own ic cls names, w ∈ sx_ws ∨ w ∈ sx_nw)
    (hgood : ∀ w ∈ Cond.classLink own ik cls :: Cond.initialized cls :: vx_atS own ic cls names, vx_ot w = true)
    (hR : names.length + 3 < R.frames ∧ (st.map fun v => v.category).sum + (13 * (names.length + 1) + 43) ≤ R.locals ∧ cells + 1 ≤ R.cells ∧ slots + 6 ≤ R.slots) (hc : cells + 1 ≤ mc) (hs : slots + 6 ≤ ms) (hX : X cls u) :
    sx_J (sx_wp D G b lay n) p l e R s m args below meth c A nL cells slots (sx_fin (sx_wp D G b lay n) A below args s mc ms Qv X) u pc lv st := by
  intro H locs ls hP hS hl
  obtain ⟨sa, hsa⟩ := C.2.2.2.2.2.2.2.2.2.2.1 _ hstr
  refine vx_throwS C.1 C.2.1 C.2.2.2.2.2.2.2.1 C.2.2.2.1 hcls.1 hcls.2 (C.2.2.2.2.1 _ hk) (C.2.2.2.2.1 _ hini) hsa (fun w hw => ?_) hgood C.2.2.2.2.2.2.2.2.2.2.2.1 C.2.2.2.2.2.2.2.2.2.2.2.2 hS (hl.1.trans C.2.2.1.symm) d0 d3 d4 d6 d9 (fun x hx => (ht x hx).elim) hR.1 hR.2.1 hR.2.2.1 hR.2.2.2 C.2.2.2.2.2.2.1 (fun t _ h1 h2 => ?_) hS.2.2 hc hs
  · rcases hat w hw with h | h
    · exact C.2.2.2.2.1 w h
    · exact va_Nw.use (by
        have h9 := (List.mem_filter.mp h).2
        cases w <;> first | rfl | (simp [sx_kw] at h9; done) | (have hg := hgood _ (List.mem_cons_of_mem _ (List.mem_cons_of_mem _ hw)); simp [vx_ot, Cond.onTables, goodWord] at hg; done)) (C.2.2.2.2.2.2.2.2.2.1 w h)
  · exact ⟨u, hX, va_P.kept (D := D) (cl := vwCl) hP (fun k q hk => h2 q.1 (hP k q hk : va_at D vwCl q H).lt), Nat.le_trans hS.1 h1, fun q h3 h4 => by rw [h2 q (Nat.lt_of_lt_of_le h3 hS.1)]; exact hS.2.1 q h3 h4⟩
/-- a call that has been made: back here with its answer, or with what it threw -/
theorem sx_back {H : Heap} {locs : List Loc} {ls : Array Slot} {st0 : List Value} {mc ms : Nat} {A1 : Nat → Prop} {free : Addr → Prop} {a : Array Value} {Qv : Option Value → σ → Prop} {X : String → σ → Prop}
    (hr : vx_Run p l e R s m args below meth c H locs cells slots mc ms (F0 m pc ls st0) st (sx_Qc wd A1 Qv a) (sx_XC wd A1 X) free) (hS : va_S A s.heap H locs) (hA : ∀ q, q < H.size → A1 q → A q) (hf : ∀ q, free q → A q)
    (kk : ∀ (v : Option Value) (u : σ) (H1 : Heap) (locs1 : List Loc), Qv v u → wd u H1 → H.size ≤ H1.size → (∀ q : Nat, q < H.size → ¬ A1 q → H1[q]? = H[q]?) → va_S A s.heap H1 locs1 → W p l e R s m args below meth c H1 locs1 (cells + mc) (slots + ms) Q (F0 m (pc + 3) ls (v.toList ++ st)))
    (kx : ∀ (E : String) (ce : Cell) (q9 : Addr) (u : σ) (H1 : Heap) (locs1 : List Loc), X E u → wd u H1 → H.size ≤ H1.size → (∀ q : Nat, q < H.size → ¬ A1 q → H1[q]? = H[q]?) → va_S A s.heap H1 locs1 → H1[q9]? = some ce → ce.vm = .none → s.vm.findClass E = some ce.cls → vx_W p l e R s m args below meth c H1 locs1 (cells + mc) (slots + ms) Q (F0 m pc ls st) q9) :
    W p l e R s m args below meth c H locs cells slots Q (F0 m pc ls st0) := by
  intro T hT Xs
  rcases hr T hT Xs with ⟨v, st₀, t, T', L, h0, X', hL, e1, e2, ⟨⟨v', u, hv, hq, hP⟩, hF⟩, go⟩ | ⟨q, st₀, t, T', L, E, ce, h0, X', hL, e1, e2, ⟨u, hx, hP, hF⟩, hce, hcv, hcl, go⟩
  · have hvv : v = v' := by injection hv
    subst hvv
    obtain ⟨k1, k2, k3⟩ := vx_keep h0 e1 hS hA hf hL hF
    obtain ⟨t2, a1, b1⟩ := kk v u T'.heap (locs ++ L) hq (by rw [e1]; exact hP) k1 k2 k3 T' rfl X'
    exact ⟨t2, go t2 a1, b1⟩
  · obtain ⟨k1, k2, k3⟩ := vx_keep h0 e1 hS hA hf hL hF
    obtain ⟨t2, a1, b1⟩ := kx E ce q u T'.heap (locs ++ L) hx (by rw [e1]; exact hP) k1 k2 k3 (by rw [e1]; exact hce) hcv hcl T' rfl X'
    exact ⟨t2, go.trans a1, b1⟩
theorem sx_callee (C : sx_Cx p l s m args meth c D G A cc nL own) (hB : ∀ k, k < n → A (b + k)) {H : Heap} {locs : List Loc} (hS : va_S A s.heap H locs) {U : State} (hU : U.heap = H) (hW : s.WarmedH U.vm) : sx_V D G (sx_A b n H.size) U U.heap := by
  rw [hU]
  have h1 : sx_V D G A s H := C.2.2.2.2.2.2.2.2.kept hS.2.1
  refine (h1.narrow (fun q hq => ?_)).warm hW
  rcases hq with ⟨h2, h3⟩ | h2
  · have h4 := hB (q - b) (by omega)
    rw [show b + (q - b) = q by omega] at h4
    exact h4
  · exact C.2.2.2.2.2.1 q (Nat.le_trans hS.1 h2)
theorem sx_sub_A (C : sx_Cx p l s m args meth c D G A cc nL own) (hB : ∀ k, k < n → A (b + k)) {H : Heap} {locs : List Loc} (hS : va_S A s.heap H locs) : ∀ q, sx_A b n H.size q → A q := fun q hq => by
  rcases hq with ⟨h2, h3⟩ | h2
  · have h4 := hB (q - b) (by omega)
    rw [show b + (q - b) = q by omega] at h4
    exact h4
  · exact C.2.2.2.2.2.1 q (Nat.le_trans hS.1 h2)
theorem sx_runV (C : sx_Cx p l s m args meth c D G A cc nL own) (hB : ∀ k, k < n → A (b + k)) {y : MethodName} {bytes : ByteArray} {maxL index na k ci fr lo mc ms : Nat} {ret : Option FieldType} {fs : List (Option (Option Nat))} {r : vw_C} {As : List Value} {st0 : List Value} {Qv : Option Value → sx_F → Prop} {X : String → sx_F → Prop} (d : decode cc pc = .ok (.invokevirtual index, 3))
    (ct : sx_Met l D G b n lay y bytes maxL ret fr lo mc ms (.ref (b + k) :: As) f Qv X) (hy : sx_Mi y bytes maxL ret na) (hlink : Cond.methodLink own index y ∈ sx_ws) (hinst : Cond.instanceMethod y ∈ sx_ws) (hsel : Cond.selects y.cls y y ∈ sx_ws)
    (hk : k < n) (hl : lay k = .inr (.inr (ci, fs))) (hc : vwCl[ci]? = some r) (hrc : r.1 = y.cls) (hn : As.length = na) (hst : st0 = As.reverse ++ .ref (b + k) :: st)
    (hR : (fr + 1 ≤ R.frames ∧ 8 + (maxL + 11) + lo ≤ R.locals) ∧ cells + mc ≤ R.cells ∧ slots + ms ≤ R.slots) (hcat : (st.map fun v => v.category).sum ≤ 8) {H : Heap} {locs : List Loc} {ls : Array Slot} (hP : va_P D vwCl (sx_w G b lay n f) H) (hS : va_S A s.heap H locs) (hls : lv_has ls nL lv) :
    vx_Run p l e R s m args below meth c H locs cells slots mc ms (F0 m pc ls st0) st (sx_Qc (sx_wp D G b lay n) (sx_A b n H.size) Qv (Value.ref (b + k) :: As).toArray) (sx_XC (sx_wp D G b lay n) (sx_A b n H.size) X) (sx_A b n H.size) := by
  have hg := sx_get (G := G) (b := b) (lay := lay) (f := f) hk
  rw [hl] at hg
  have hrv := va_recv C.2.2.2.2.2.2.2.2.1 hP hc hg
  rw [hrc] at hrv
  have cb : CallB R s args own index y bytes maxL ret (Cond.code y bytes maxL ret :: sx_ws) { frames := fr, cells := mc, slots := ms, locals := lo } mc ms na := callB_of na C.2.2.2.2.1 (sx_gi hy.1) rfl rfl rfl (C.2.2.2.2.1 _ hy.2.1) (C.2.2.2.2.1 _ hlink) hy.2.2 hR.1
  exact vx_runV (As := As) (rest := st) ⟨C.1, C.2.1, C.2.2.1, C.2.2.2.1, C.2.2.2.2.1⟩ (ct H.size) ⟨cb, C.2.2.2.2.1 _ hinst, C.2.2.2.2.1 _ hsel⟩ ⟨sx_blind, hrv, fun U hU hW => ⟨rfl, by rw [hU], by rw [hU]; exact hP, sx_callee C hB hS hU hW⟩⟩ rfl hn hls.1 hst (lv_room (pc := pc) hcat) d hR.2
theorem sx_runS (C : sx_Cx p l s m args meth c D G A cc nL own) (hB : ∀ k, k < n → A (b + k)) {y : MethodName} {bytes : ByteArray} {maxL index na fr lo mc ms : Nat} {ret : Option FieldType} {As : List Value} {st0 : List Value} {Qv : Option Value → sx_F → Prop} {X : String → sx_F → Prop} (d : decode cc pc = .ok (.invokestatic index, 3))
    (ct : sx_Met l D G b n lay y bytes maxL ret fr lo mc ms As f Qv X) (hy : sx_Mi y bytes maxL ret na) (hlink : Cond.methodLink own index y ∈ sx_ws) (hstat : Cond.static y ∈ sx_ws) (hn : As.length = na) (hst : st0 = As.reverse ++ st)
    (hR : (fr + 1 ≤ R.frames ∧ 8 + (maxL + 11) + lo ≤ R.locals) ∧ cells + mc ≤ R.cells ∧ slots + ms ≤ R.slots) (hcat : (st.map fun v => v.category).sum ≤ 8) {H : Heap} {locs : List Loc} {ls : Array Slot} (hP : va_P D vwCl (sx_w G b lay n f) H) (hS : va_S A s.heap H locs) (hls : lv_has ls nL lv) :
    vx_Run p l e R s m args below meth c H locs cells slots mc ms (F0 m pc ls st0) st (sx_Qc (sx_wp D G b lay n) (sx_A b n H.size) Qv As.toArray) (sx_XC (sx_wp D G b lay n) (sx_A b n H.size) X) (sx_A b n H.size) := by
  have cb : CallB R s args own index y bytes maxL ret (Cond.code y bytes maxL ret :: sx_ws) { frames := fr, cells := mc, slots := ms, locals := lo } mc ms na := callB_of na C.2.2.2.2.1 (sx_gi hy.1) rfl rfl rfl (C.2.2.2.2.1 _ hy.2.1) (C.2.2.2.2.1 _ hlink) hy.2.2 hR.1
  exact vx_runS (As := As) (rest := st) ⟨C.1, C.2.1, C.2.2.1, C.2.2.2.1, C.2.2.2.2.1⟩ (ct H.size) ⟨cb, C.2.2.2.2.1 _ hstat⟩ ⟨sx_blind, fun U hU hW => ⟨rfl, by rw [hU], by rw [hU]; exact hP, sx_callee C hB hS hU hW⟩⟩ rfl hn hls.1 hst (lv_room (pc := pc) hcat) d hR.2
theorem sx_runSN (C : sx_Cx p l s m args meth c D G A cc nL own) (hB : ∀ k, k < n → A (b + k)) {y : MethodName} {bytes : ByteArray} {maxL index na fr lo : Nat} {host : String} {ret : Option FieldType} {As : List Value} {st0 : List Value} {Qv : Option Value → sx_F → Prop} (d : decode cc pc = .ok (.invokestatic index, 3))
    (ct : sx_MetN l D G b n lay y bytes maxL ret fr lo As f Qv) (hy : sx_Mi y bytes maxL ret na) (hlink : Cond.methodLinkNest own index y host ∈ sx_nw) (hstat : Cond.static y ∈ sx_ws) (hn : As.length = na) (hst : st0 = As.reverse ++ st)
    (hR : (fr + 1 ≤ R.frames ∧ 8 + (maxL + 11) + lo ≤ R.locals) ∧ cells + 0 ≤ R.cells ∧ slots + 0 ≤ R.slots) (hcat : (st.map fun v => v.category).sum ≤ 8) {H : Heap} {locs : List Loc} {ls : Array Slot} (hP : va_P D vwCl (sx_w G b lay n f) H) (hS : va_S A s.heap H locs) (hls : lv_has ls nL lv) :
    vx_Run p l e R s m args below meth c H locs cells slots 0 0 (F0 m pc ls st0) st (sx_Qc (sx_wp D G b lay n) (sx_A b n H.size) Qv As.toArray) (sx_XC (sx_wp D G b lay n) (sx_A b n H.size) (fun _ _ => False)) (sx_A b n H.size) := by
  have cn := va_cnB (bytes := bytes) (maxL := maxL) (ret := ret) (ws := Cond.code y bytes maxL ret :: sx_ws) (rm := { frames := fr, cells := 0, slots := 0, locals := lo }) (mc := 0) (ms := 0) (R := R) na C.2.2.2.2.1 (sx_gi hy.1) rfl rfl rfl (C.2.2.2.2.2.2.2.2.2.1 _ hlink) (C.2.2.2.2.1 _ hy.2.1) hy.2.2 hR.1
  intro T hT Xs
  obtain ⟨v, st₀, t, T', L, h0, X', hL, e1, e2, hq, go⟩ := va_runSN (As := As) (rest := st) (l := l) (below := below) (meth := meth) (locs := locs) (cells := cells) (slots := slots) (e := e) ⟨C.1, C.2.1, C.2.2.1, C.2.2.2.1, C.2.2.2.2.1⟩ (ct H.size) ⟨cn, C.2.2.2.2.1 _ hstat, trivial⟩ ⟨sx_blind, fun U hU hW => ⟨rfl, by rw [hU], by rw [hU]; exact hP, sx_callee C hB hS hU hW⟩⟩ (g := F0 m pc ls st0) rfl hn hls.1 hst (lv_room (pc := pc) hcat) d hR.2 T hT Xs
  exact Or.inl ⟨v, st₀, t, T', L, h0, X', hL, e1, e2, hq, go⟩
/-- an instance method of this world is called; what it throws goes on to the caller -/
theorem sx_callV (C : sx_Cx p l s m args meth c D G A cc nL own) (ht : ∀ x ∈ c.exceptionTable.toList, False) (hB : ∀ k, k < n → A (b + k)) {y : MethodName} {bytes : ByteArray} {maxL index na k ci fr lo mc ms mc0 ms0 : Nat} {ret : Option FieldType} {fs : List (Option (Option Nat))} {r : vw_C} {As : List Value} {st0 : List Value} {Qv Qv0 : Option Value → sx_F → Prop} {X X0 : String → sx_F → Prop} (d : decode cc pc = .ok (.invokevirtual index, 3))
    (ct : sx_Met l D G b n lay y bytes maxL ret fr lo mc ms (.ref (b + k) :: As) f Qv X) (hy : sx_Mi y bytes maxL ret na) (hlink : Cond.methodLink own index y ∈ sx_ws) (hinst : Cond.instanceMethod y ∈ sx_ws) (hsel : Cond.selects y.cls y y ∈ sx_ws)
    (hk : k < n) (hl : lay k = .inr (.inr (ci, fs))) (hc : vwCl[ci]? = some r) (hrc : r.1 = y.cls) (hn : As.length = na) (hst : st0 = As.reverse ++ .ref (b + k) :: st)
    (hR : (fr + 1 ≤ R.frames ∧ 8 + (maxL + 11) + lo ≤ R.locals) ∧ cells + mc ≤ R.cells ∧ slots + ms ≤ R.slots) (hcat : (st.map fun v => v.category).sum ≤ 8) (hmc : cells + mc ≤ mc0 ∧ slots + ms ≤ ms0) (kx : ∀ E u, X E u → X0 E u) (q : Nat) (hq : pc + 3 = q)
    (kk : ∀ (v : Option Value) (f1 : sx_F), Qv v f1 → sx_J (sx_wp D G b lay n) p l e R s m args below meth c A nL (cells + mc) (slots + ms) (sx_fin (sx_wp D G b lay n) A below args s mc0 ms0 Qv0 X0) f1 q lv (v.toList ++ st)) :
    sx_J (sx_wp D G b lay n) p l e R s m args below meth c A nL cells slots (sx_fin (sx_wp D G b lay n) A below args s mc0 ms0 Qv0 X0) f pc lv st0 := by
  subst hq
  intro H locs ls hP hS hls
  refine sx_back (sx_runV C hB d ct hy hlink hinst hsel hk hl hc hrc hn hst hR hcat hP hS hls) hS (fun q _ h => sx_sub_A C hB hS q h) (sx_sub_A C hB hS) (fun v u H1 locs1 hq hP1 _ _ hS1 => kk v u hq H1 locs1 ls hP1 hS1 hls) (fun E ce q9 u H1 locs1 hx hP1 _ _ hS1 h1 h2 h3 => ?_)
  exact vx_out (fun x hx => (ht x hx).elim) C.2.2.2.2.2.2.1 h1 h2 h3 (fun t htt _ => ⟨u, kx E u hx, by rw [htt]; exact hP1, hS1.F htt⟩) hS1.2.2 hmc.1 hmc.2
theorem sx_callS (C : sx_Cx p l s m args meth c D G A cc nL own) (ht : ∀ x ∈ c.exceptionTable.toList, False) (hB : ∀ k, k < n → A (b + k)) {y : MethodName} {bytes : ByteArray} {maxL index na fr lo mc ms mc0 ms0 : Nat} {ret : Option FieldType} {As : List Value} {st0 : List Value} {Qv Qv0 : Option Value → sx_F → Prop} {X X0 : String → sx_F → Prop} (d : decode cc pc = .ok (.invokestatic index, 3))
    (ct : sx_Met l D G b n lay y bytes maxL ret fr lo mc ms As f Qv X) (hy : sx_Mi y bytes maxL ret na) (hlink : Cond.methodLink own index y ∈ sx_ws) (hstat : Cond.static y ∈ sx_ws) (hn : As.length = na) (hst : st0 = As.reverse ++ st)
    (hR : (fr + 1 ≤ R.frames ∧ 8 + (maxL + 11) + lo ≤ R.locals) ∧ cells + mc ≤ R.cells ∧ slots + ms ≤ R.slots) (hcat : (st.map fun v => v.category).sum ≤ 8) (hmc : cells + mc ≤ mc0 ∧ slots + ms ≤ ms0) (kx : ∀ E u, X E u → X0 E u) (q : Nat) (hq : pc + 3 = q)
    (kk : ∀ (v : Option Value) (f1 : sx_F), Qv v f1 → sx_J (sx_wp D G b lay n) p l e R s m args below meth c A nL (cells + mc) (slots + ms) (sx_fin (sx_wp D G b lay n) A below args s mc0 ms0 Qv0 X0) f1 q lv (v.toList ++ st)) :
    sx_J (sx_wp D G b lay n) p l e R s m args below meth c A nL cells slots (sx_fin (sx_wp D G b lay n) A below args s mc0 ms0 Qv0 X0) f pc lv st0 := by
  subst hq
  intro H locs ls hP hS hls
  refine sx_back (sx_runS C hB d ct hy hlink hstat hn hst hR hcat hP hS hls) hS (fun q _ h => sx_sub_A C hB hS q h) (sx_sub_A C hB hS) (fun v u H1 locs1 hq hP1 _ _ hS1 => kk v u hq H1 locs1 ls hP1 hS1 hls) (fun E ce q9 u H1 locs1 hx hP1 _ _ hS1 h1 h2 h3 => ?_)
  exact vx_out (fun x hx => (ht x hx).elim) C.2.2.2.2.2.2.1 h1 h2 h3 (fun t htt _ => ⟨u, kx E u hx, by rw [htt]; exact hP1, hS1.F htt⟩) hS1.2.2 hmc.1 hmc.2
theorem sx_callSN (C : sx_Cx p l s m args meth c D G A cc nL own) (hB : ∀ k, k < n → A (b + k)) {y : MethodName} {bytes : ByteArray} {maxL index na fr lo : Nat} {host : String} {ret : Option FieldType} {As : List Value} {st0 : List Value} {Qv : Option Value → sx_F → Prop} (d : decode cc pc = .ok (.invokestatic index, 3))
    (ct : sx_MetN l D G b n lay y bytes maxL ret fr lo As f Qv) (hy : sx_Mi y bytes maxL ret na) (hlink : Cond.methodLinkNest own index y host ∈ sx_nw) (hstat : Cond.static y ∈ sx_ws) (hn : As.length = na) (hst : st0 = As.reverse ++ st)
    (hR : (fr + 1 ≤ R.frames ∧ 8 + (maxL + 11) + lo ≤ R.locals) ∧ cells + 0 ≤ R.cells ∧ slots + 0 ≤ R.slots) (hcat : (st.map fun v => v.category).sum ≤ 8) (q : Nat) (hq : pc + 3 = q)
    (kk : ∀ (v : Option Value) (f1 : sx_F), Qv v f1 → sx_J (sx_wp D G b lay n) p l e R s m args below meth c A nL cells slots Q f1 q lv (v.toList ++ st)) :
    sx_J (sx_wp D G b lay n) p l e R s m args below meth c A nL cells slots Q f pc lv st0 := by
  subst hq
  intro H locs ls hP hS hls
  exact sx_back (sx_runSN C hB d ct hy hlink hstat hn hst hR hcat hP hS hls) hS (fun q _ h => sx_sub_A C hB hS q h) (sx_sub_A C hB hS) (fun v u H1 locs1 hq hP1 _ _ hS1 => kk v u hq H1 locs1 ls hP1 hS1 hls) (fun E ce q9 u H1 locs1 hx hP1 _ _ hS1 h1 h2 h3 => hx.elim)
end SC

