def z_T (f : sx_F) (S : z_S) : Prop := ∀ k, k ≤ S 0 0 → f 3 k = nI (z_tm S k)
def z_V (t : Nat) (f g : sx_F) : Prop := ∀ s, s < 60 → f 4 s = g 5 s ∧ ∃ v, v ≤ t ∧ g 5 s = nI v
def z_P (f g : sx_F) : Prop := ∃ w q, 80 ≤ w ∧ w ≤ 500 ∧ 1 ≤ q ∧ q ≤ 6 ∧ f 19 1 = nI w ∧ g 0 6 = nI w ∧ f 19 2 = nI q ∧ g 0 7 = nI q ∧ f 11 0 = 0 ∧ f 12 0 = 0 ∧ f 17 0 = 0 ∧ f 18 0 = 0
def z_C1 (f g : sx_F) (i : Nat) : Prop := (∃ a, a < 5 ∧ f (66 + 2 * i) 1 = nI a ∧ g 6 i = nI a) ∧ f (66 + 2 * i) 2 = g 7 i ∧ (g 7 i = -1 ∨ ((∃ d, d < 6 ∧ g 7 i = nI d) ∧ ∀ k, k < 12 → f (66 + 2 * i + 1) k = g 8 (12 * i + k)))
def z_C (f g : sx_F) : Prop := ∃ m, m ≤ 16 ∧ f 0 5 = nI m ∧ g 0 11 = nI m ∧ (∀ i, i < m → z_C1 f g i) ∧ ∀ i, m ≤ i → i < 16 → f (66 + 2 * i) 2 = -1
def z_bit (x : Int32) (k : Nat) : Int32 := (x >>> ((2 * nI k) &&& 31)) &&& 3
def z_D1 (f g : sx_F) (d s : Nat) : Prop := (∃ a, a ≤ 9 ∧ f (99 + 5 * d + 1) s = nI a ∧ g 9 (60 * d + s) = nI a) ∧ f (99 + 5 * d + 2) s = g 10 (60 * d + s)
def z_D2 (t : Nat) (f g : sx_F) (d s : Nat) : Prop := ∃ e v, e ≤ v ∧ v ≤ t ∧ f (99 + 5 * d + 4) s = nI e ∧ g 5 s = nI v ∧ ∀ k, k < 8 → ∃ a c, a ≤ 2 ∧ c ≤ v ∧ g 11 (8 * (60 * d + s) + k) = nI a ∧ g 12 (8 * (60 * d + s) + k) = nI c ∧ (if e = v then z_bit (f (99 + 5 * d + 3) s) k else 0) = (if c = v then nI a else 0)
def z_D (t : Nat) (f g : sx_F) : Prop := ∀ d s, d < 6 → s < 60 → z_D1 f g d s ∧ z_D2 t f g d s
def z_R (t : Nat) (f g : sx_F) (S : z_S) : Prop := z_X f S ∧ z_M g S ∧ z_W S ∧ z_T f S ∧ z_V t f g ∧ z_P f g ∧ z_C f g ∧ f 0 6 = g 0 12 ∧ z_D t f g
def z_I (t : Nat) (f g : sx_F) : Prop := ∃ S, z_R t f g S
def z_fx (f f' : sx_F) : Prop := (∀ k, (k ≤ 7 ∨ 66 ≤ k) → f' k = f k) ∧ (∀ k j, (k = 19 ∧ (j = 1 ∨ j = 2)) ∨ (j = 0 ∧ (k = 11 ∨ k = 12 ∨ k = 17 ∨ k = 18)) → f' k j = f k j)
def z_gx (g g' : sx_F) : Prop := (∀ k, (1 ≤ k ∧ k ≤ 12) → g' k = g k) ∧ (∀ j, (j = 5 ∨ j = 6 ∨ j = 7 ∨ j = 11 ∨ j = 12) → g' 0 j = g 0 j)
theorem z_R.fx {t : Nat} {f g f' g' : sx_F} {S : z_S} (R : z_R t f g S) (hf : z_fx f f') (hg : z_gx g g') : z_R t f' g' S := by
  unfold z_R z_X z_M z_T z_V z_P z_C z_C1 z_D z_D1 z_D2 at R ⊢
  simp (disch := omega) only [hf.1, hf.2, hg.1, hg.2]
  exact R
theorem z_R.mono {t : Nat} {f g : sx_F} {S : z_S} (R : z_R t f g S) : z_R (t + 1) f g S := by
  refine ⟨R.1, R.2.1, R.2.2.1, R.2.2.2.1, fun s hs => ?_, R.2.2.2.2.2.1, R.2.2.2.2.2.2.1, R.2.2.2.2.2.2.2.1, fun d s hd hs => ?_⟩
  · obtain ⟨h1, v, hv, h2⟩ := R.2.2.2.2.1 s hs
    exact ⟨h1, v, by omega, h2⟩
  · obtain ⟨h1, e, v, he, hv, h2⟩ := R.2.2.2.2.2.2.2.2 d s hd hs
    exact ⟨h1, e, v, he, by omega, h2⟩
theorem z_fx.refl (f : sx_F) : z_fx f f := ⟨fun _ _ => rfl, fun _ _ _ => rfl⟩
theorem z_gx.refl (f : sx_F) : z_gx f f := ⟨fun _ _ => rfl, fun _ _ => rfl⟩
theorem z_gx.trans {f g h : sx_F} (a : z_gx f g) (b : z_gx g h) : z_gx f h := ⟨fun k hk => (b.1 k hk).trans (a.1 k hk), fun k hk => (b.2 k hk).trans (a.2 k hk)⟩
theorem z_fx.trans {f g h : sx_F} (a : z_fx f g) (b : z_fx g h) : z_fx f h := ⟨fun k hk => (b.1 k hk).trans (a.1 k hk), fun k j h => (b.2 k j h).trans (a.2 k j h)⟩
theorem z_gx.u {g g' : sx_F} {k j : Nat} {v : Int32} (h : z_gx g g') (hk : 13 ≤ k ∨ (k = 0 ∧ ¬ (j = 5 ∨ j = 6 ∨ j = 7 ∨ j = 11 ∨ j = 12))) : z_gx g (sx_u g' k j v) := by
  refine ⟨fun i hi => ?_, fun i hi => ?_⟩
  · rw [sx_u_n (by omega)]
    exact h.1 i hi
  · rcases hk with hk | ⟨rfl, hk⟩
    · rw [sx_u_n (by omega)]
      exact h.2 i hi
    · rw [sx_u_s, pk_un (by intro e; subst e; exact hk hi)]
      exact h.2 i hi
theorem z_fx.u {f f' : sx_F} {k j : Nat} {v : Int32} (h : z_fx f f') (hk : 8 ≤ k ∧ k ≤ 65 ∧ ¬ ((k = 19 ∧ (j = 1 ∨ j = 2)) ∨ (j = 0 ∧ (k = 11 ∨ k = 12 ∨ k = 17 ∨ k = 18)))) : z_fx f (sx_u f' k j v) := by
  refine ⟨fun i hi => ?_, fun i x hi => ?_⟩
  · rw [sx_u_n (by omega)]
    exact h.1 i hi
  · by_cases e : i = k
    · subst e
      rw [sx_u_s, pk_un (fun e => hk.2.2 (by subst e; exact hi))]
      exact h.2 i x hi
    · rw [sx_u_n e]
      exact h.2 i x hi
theorem z_gx.go (g : sx_F) (c : Int32) : z_gx g (sx_u g 0 33 c) := z_gx.u (z_gx.refl g) (Or.inr ⟨rfl, by decide⟩)
theorem z_I.same {t : Nat} {f g f' g' : sx_F} (h : z_I t f g) (hf : z_fx f f') (hg : z_gx g g') : z_I (t + 1) f' g' := by
  obtain ⟨S, R⟩ := h
  exact ⟨S, (R.fx hf hg).mono⟩
theorem z_I.go {t : Nat} {f g : sx_F} (h : z_I t f g) (c : Int32) : z_I (t + 1) f (sx_u g 0 33 c) := h.same (z_fx.refl f) (z_gx.go g c)
theorem z_M.gx {g g' : sx_F} {S : z_S} (h : z_M g S) (hg : z_gx g g') : z_M g' S := by
  unfold z_M at h ⊢
  simp (disch := omega) only [hg.1, hg.2]
  exact h
theorem z_X.fx {f f' : sx_F} {S : z_S} (h : z_X f S) (hf : z_fx f f') : z_X f' S := by
  unfold z_X at h ⊢
  simp (disch := omega) only [hf.1]
  exact h
theorem z_33 {g : sx_F} {c : Int32} : (sx_u g 0 33 c) 0 33 = c := by rw [sx_u_s, pk_us]
theorem z_finE {g1 : sx_F} {k b : Int32} {o1 : Nat → Int64} {K : Prop} (h33 : g1 0 33 = k) (hk : k ≠ 0) (hK : K) : P_X7_thrown g1 (fun t => t = k ∧ (k = 0 → o1 0 = b.toInt64) ∧ K) := ⟨h33, fun e => absurd e hk, hK⟩
theorem z_fin0 {g1 : sx_F} {r b : Int32} {o : Nat → Int64} {K : Prop} (h33 : g1 0 33 = 0) (hb : r = b) (hK : K) : P_X7_thrown g1 (fun t => t = 0 ∧ ((0 : Int32) = 0 → (vp_updL o 0 r.toInt64) 0 = b.toInt64) ∧ K) := ⟨h33, fun _ => by rw [pk_uLs, hb], hK⟩
def z_u (S : z_S) (k j v : Nat) : z_S := fun i x => if i = k ∧ x = j then v else S i x
theorem z_us {S : z_S} {k j v : Nat} : z_u S k j v k j = v := if_pos ⟨rfl, rfl⟩
theorem z_un {S : z_S} {k j v i x : Nat} (h : i ≠ k ∨ x ≠ j) : z_u S k j v i x = S i x := if_neg (fun z => h.elim (fun a => a z.1) (fun a => a z.2))
theorem z_fl_c {S S' : z_S} {s : Nat} : ∀ k, (∀ j, j < k → S' 3 (8 * s + j) = S 3 (8 * s + j)) → z_fl S' s k = z_fl S s k
  | 0, _ => rfl
  | k + 1, h => by
    unfold z_fl
    rw [z_fl_c k (fun j hj => h j (by omega)), h k (by omega)]
theorem z_tm_c {S S' : z_S} : ∀ k, (∀ j, j < k → S' 1 j = S 1 j) → z_tm S' k = z_tm S k
  | 0, _ => rfl
  | k + 1, h => by
    unfold z_tm
    rw [z_tm_c k (fun j hj => h j (by omega)), h k (by omega)]
/-- a change of the score leaves the copies and the desks -/
theorem z_C.sc {f g f' g' : sx_F} (h : z_C f g) (h1 : ∀ k, 66 ≤ k → f' k = f k) (h2 : f' 0 5 = f 0 5) (h3 : g' 0 11 = g 0 11) (h4 : g' 6 = g 6) (h5 : g' 7 = g 7) (h6 : g' 8 = g 8) : z_C f' g' := by
  unfold z_C z_C1 at h ⊢
  simp (disch := omega) only [h1, h2, h3, h4, h5, h6]
  exact h
theorem z_D.sc {t : Nat} {f g f' g' : sx_F} (h : z_D t f g) (h1 : ∀ k, 66 ≤ k → f' k = f k) (h3 : g' 5 = g 5) (h4 : g' 9 = g 9) (h5 : g' 10 = g 10) (h6 : g' 11 = g 11) (h7 : g' 12 = g 12) : z_D t f' g' := by
  unfold z_D z_D1 z_D2 at h ⊢
  simp (disch := omega) only [h1, h3, h4, h5, h6, h7]
  exact h
/-- one version more: no bowing of the bar counts any more -/
theorem z_D.ver {t : Nat} {f g f' g' : sx_F} {s0 : Nat} {x : Int32} (hs0 : s0 < 60) (ht : t < 1000000) (h : z_D t f g) (h1 : ∀ k, 66 ≤ k → f' k = f k) (h3 : g' 5 = upd (g 5) s0 (g 5 s0 + 1)) (h4 : g' 9 = g 9) (h5 : g' 10 = g 10) (h6 : g' 11 = g 11) (h7 : g' 12 = g 12) : z_D (t + 1) f' g' := by
  intro d s hd hs
  obtain ⟨a1, e, v, he, hv, b1, b2, b3⟩ := h d s hd hs
  refine ⟨?_, ?_⟩
  · unfold z_D1 at a1 ⊢
    simp (disch := omega) only [h1, h4, h5]
    exact a1
  · unfold z_D2
    simp (disch := omega) only [h1, h3, h6, h7]
    by_cases c : s = s0
    · subst c
      refine ⟨e, v + 1, by omega, by omega, b1, by rw [pk_us, b2, nI_1], fun k hk => ?_⟩
      obtain ⟨a, c, e1, e2, e3, e4, e5⟩ := b3 k hk
      exact ⟨a, c, e1, by omega, e3, e4, by rw [if_neg (by omega), if_neg (by omega)]⟩
    · exact ⟨e, v, he, by omega, b1, by rw [pk_un c]; exact b2, b3⟩
theorem z_V.ver {t : Nat} {f g f' g' : sx_F} {s0 : Nat} (hs0 : s0 < 60) (h : z_V t f g) (h1 : f' 4 = upd (f 4) s0 (f 4 s0 + 1)) (h3 : g' 5 = upd (g 5) s0 (g 5 s0 + 1)) : z_V (t + 1) f' g' := by
  intro s hs
  obtain ⟨a1, v, hv, a2⟩ := h s hs
  rw [h1, h3]
  by_cases c : s = s0
  · subst c
    rw [pk_us, pk_us, a1]
    exact ⟨rfl, v + 1, by omega, by rw [a2, nI_1]⟩
  · rw [pk_un c, pk_un c]
    exact ⟨a1, v, by omega, a2⟩
theorem z_fin0T {g1 : sx_F} {r b : Int32} {o : Nat → Int64} {K : Prop} (h33 : g1 0 33 = 0) (hb : r = b) (hK : K) : P_X7_thrown g1 (fun t => t = 0 ∧ (True → (vp_updL o 0 r.toInt64) 0 = b.toInt64) ∧ K) := ⟨h33, fun _ => by rw [pk_uLs, hb], hK⟩
theorem z_un1 {S : z_S} {k j v i x : Nat} (h : i ≠ k) : z_u S k j v i x = S i x := z_un (Or.inl h)
