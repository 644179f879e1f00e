/-! THE BEST WAY'S LINES, IN BITS -/
theorem y_l_hd {e : Nat → Bool} {I : Nat} : ∀ d m, 0 < d → d ≤ I → ∃ k, 1 ≤ k ∧ k ≤ d ∧ y_l e I d m = (m + k) :: y_l e I (d - k) 0 ∧ (∀ i, I - d ≤ i → i + 1 < I - d + k → e i = false) ∧ (k < d → e (I - d + k - 1) = true)
  | 0, _, h, _ => absurd h (by omega)
  | d + 1, m, _, hd => by
    rw [y_l_s]
    by_cases c : d = 0 ∨ e (I - (d + 1)) = true
    · rw [if_pos c]
      refine ⟨1, Nat.le_refl _, by omega, rfl, fun i h1 h2 => by omega, fun h => ?_⟩
      rw [show I - (d + 1) + 1 - 1 = I - (d + 1) by omega]
      exact c.resolve_left (by omega)
    · rw [if_neg c]
      have d0 : 0 < d := Nat.pos_of_ne_zero (fun z => c (Or.inl z))
      obtain ⟨k, h1, h2, h3, h4, h5⟩ := y_l_hd (e := e) (I := I) d (m + 1) d0 (by omega)
      refine ⟨k + 1, by omega, by omega, ?_, fun i i1 i2 => ?_, fun h => ?_⟩
      · rw [h3, show m + 1 + k = m + (k + 1) by omega, show d + 1 - (k + 1) = d - k by omega]
      · by_cases ei : i = I - (d + 1)
        · rw [ei]
          exact Bool.eq_false_iff.mpr (fun z => c (Or.inr z))
        · exact h4 i (by omega) (by omega)
      · rw [show I - (d + 1) + (k + 1) - 1 = I - d + k - 1 by omega]
        exact h5 (by omega)
theorem y_walk {e : Nat → Bool} {I : Nat} {Z : Nat → Nat → Nat × Nat × Nat} {q : Nat} (h : y_pa I Z q 0 0 (y_l e I I 0)) : ∀ l, (∀ l', l' < l → z_ps Z q l' < I) → z_ps Z q l ≤ I ∧ y_pa I Z q (z_ps Z q l) (z_lp q l) (y_l e I (I - z_ps Z q l) 0)
  | 0, _ => ⟨Nat.zero_le _, h⟩
  | l + 1, hl => by
    obtain ⟨p1, p2⟩ := y_walk h l (fun l' h' => hl l' (by omega))
    have p3 := hl l (by omega)
    obtain ⟨k, k1, k2, k3, k4, k5⟩ := y_l_hd (e := e) (I := I) (I - z_ps Z q l) 0 (by omega) (by omega)
    rw [k3] at p2
    obtain ⟨p4, p5, p6⟩ := p2
    have es : z_ps Z q (l + 1) = z_ps Z q l + k := by
      show z_ps Z q l + (Z (z_ps Z q l) (z_lp q l)).2.2 = _
      rw [← p5]; omega
    rw [es]
    refine ⟨by omega, ?_⟩
    rw [show I - (z_ps Z q l + k) = I - z_ps Z q l - k by omega]
    rw [Nat.zero_add] at p6
    exact p6
theorem y_bits {e : Nat → Bool} {I : Nat} {Z : Nat → Nat → Nat × Nat × Nat} {q : Nat} (h : y_pa I Z q 0 0 (y_l e I I 0)) {l : Nat} (hl : ∀ l', l' < l + 1 → z_ps Z q l' < I) : z_ps Z q l < z_ps Z q (l + 1) ∧ z_ps Z q (l + 1) ≤ I ∧ (∀ i, z_ps Z q l ≤ i → i + 1 < z_ps Z q (l + 1) → e i = false) ∧ (z_ps Z q (l + 1) < I → e (z_ps Z q (l + 1) - 1) = true) := by
  obtain ⟨p1, p2⟩ := y_walk h l (fun l' h' => hl l' (by omega))
  have p3 := hl l (by omega)
  obtain ⟨k, k1, k2, k3, k4, k5⟩ := y_l_hd (e := e) (I := I) (I - z_ps Z q l) 0 (by omega) (by omega)
  rw [k3] at p2
  obtain ⟨p4, p5, p6⟩ := p2
  have es : z_ps Z q (l + 1) = z_ps Z q l + k := by
    show z_ps Z q l + (Z (z_ps Z q l) (z_lp q l)).2.2 = _
    rw [← p5]; omega
  rw [es]
  rw [show I - (I - z_ps Z q l) = z_ps Z q l by omega] at k4 k5
  exact ⟨by omega, by omega, k4, fun h => k5 (by omega)⟩
theorem y_turns {T : Nat → Nat} {I : Nat} {Z : Nat → Nat → Nat × Nat × Nat} {q : Nat} : ∀ (ks : List Nat) (l : Nat), y_pa I Z q (z_ps Z q l) (z_lp q l) ks → z_tn Z T q l + y_lt T q (z_ps Z q l) (z_lp q l) ks = z_tn Z T q (l + ks.length)
  | [], l, _ => rfl
  | k :: ks, l, h => by
    obtain ⟨h1, h2, h3⟩ := h
    have es : z_ps Z q (l + 1) = z_ps Z q l + k := by
      show z_ps Z q l + (Z (z_ps Z q l) (z_lp q l)).2.2 = _
      rw [← h2]
    rw [← es] at h3
    have ih := y_turns (T := T) ks (l + 1) h3
    have e1 : y_lt T q (z_ps Z q l) (z_lp q l) (k :: ks) = (if z_lp q l + 1 < q then 0 else T (z_ps Z q (l + 1))) + y_lt T q (z_ps Z q (l + 1)) (z_lp q (l + 1)) ks := by rw [es]; rfl
    have e2 : z_tn Z T q (l + 1) = z_tn Z T q l + (if z_lp q l + 1 < q then 0 else T (z_ps Z q (l + 1))) := rfl
    rw [e1, List.length_cons, show l + (ks.length + 1) = l + 1 + ks.length by omega, ← ih, e2]
    omega
/-! items and their bars -/
theorem y_itx {S : z_S} {bk j : Nat} (h : j < z_it S bk (S 0 0)) : z_xb S bk j < S 0 0 ∧ z_new S bk (z_xb S bk j) = true ∧ z_it S bk (z_xb S bk j) = j := by
  obtain ⟨x, h1, h2, h3⟩ := z_cnt_ex (p := z_new S bk) (S 0 0) j h
  have h3' : z_it S bk x = j := h3
  have e := z_xb_eq (S := S) (bk := bk) h1 h2
  rw [h3'] at e
  rw [e]
  exact ⟨h1, h2, h3'⟩
theorem y_xe_le {S : z_S} {bk j : Nat} (h : j < z_it S bk (S 0 0)) : z_xb S bk j < y_xe S bk j ∧ y_xe S bk j ≤ S 0 0 ∧ z_it S bk (y_xe S bk j) = j + 1 := by
  obtain ⟨h1, h2, h3⟩ := y_itx h
  unfold y_xe
  by_cases c : j + 1 < z_it S bk (S 0 0)
  · rw [if_pos c]
    obtain ⟨g1, g2, g3⟩ := y_itx c
    refine ⟨?_, by omega, g3⟩
    refine Nat.lt_of_not_le (fun z => ?_)
    have := z_cnt_mono (p := z_new S bk) z
    have : z_it S bk (z_xb S bk (j + 1)) ≤ z_it S bk (z_xb S bk j) := this
    omega
  · rw [if_neg c]
    exact ⟨h1, Nat.le_refl _, by omega⟩
theorem y_itin {S : z_S} {bk j b : Nat} (h : j < z_it S bk (S 0 0)) (h1 : z_xb S bk j ≤ b) (h2 : b < y_xe S bk j) : z_it S bk (b + 1) = j + 1 ∧ b < S 0 0 ∧ z_drw S bk b = z_drw S bk (z_xb S bk j) := by
  obtain ⟨x1, x2, x3⟩ := y_itx h
  obtain ⟨e1, e2, e3⟩ := y_xe_le h
  have lo : ∀ b', z_xb S bk j ≤ b' → b' < y_xe S bk j → z_it S bk (b' + 1) = j + 1 := fun b' b1 b2 => by
    have m1 : z_it S bk (z_xb S bk j + 1) ≤ z_it S bk (b' + 1) := z_cnt_mono (by omega)
    have m2 : z_it S bk (b' + 1) ≤ z_it S bk (y_xe S bk j) := z_cnt_mono (by omega)
    rw [y_it_new x2] at m1
    omega
  refine ⟨lo b h1 h2, by omega, ?_⟩
  have nn : ∀ b', z_xb S bk j < b' → b' < y_xe S bk j → z_drw S bk b' = 6 ∧ z_drw S bk (b' - 1) = 6 := fun b' b1 b2 => by
    have i1 := lo b' (by omega) b2
    have i2 := lo (b' - 1) (by omega) (by omega)
    rw [show b' - 1 + 1 = b' by omega] at i2
    have hn : z_new S bk b' = false := by
      refine Bool.eq_false_iff.mpr (fun z => ?_)
      rw [y_it_new z] at i1
      omega
    have := of_decide_eq_false hn
    exact (Decidable.not_not.mp this).2
  by_cases e : b = z_xb S bk j
  · rw [e]
  · rw [(nn b (by omega) h2).1]
    have := (nn (z_xb S bk j + 1) (by omega) (by omega)).2
    rw [show z_xb S bk j + 1 - 1 = z_xb S bk j by omega] at this
    rw [this]
theorem y_cue_drw {S : z_S} {bk b : Nat} (hbk : bk < 5) : (if z_drw S bk b = bk then (6 : Nat) else z_drw S bk b) = z_cueX S bk b := by
  unfold z_drw
  by_cases c : bk = 5 ∨ z_sil S (12 * bk + b) = false
  · rw [if_pos c, if_pos rfl]
    unfold z_cueX
    rw [if_neg (fun z => by
      have := c.resolve_left (by omega)
      rw [z.2.2.2.2.1] at this
      exact absurd this (by decide))]
  · rw [if_neg c]
    have := z_cueX_r (S := S) (bk := bk) (b := b)
    rw [if_neg (by omega)]
/-! the springs of a bar, by sixteenths -/
def y_is (S : z_S) (dr b s : Nat) : Bool := if dr = 6 then decide (s = 0) else z_pl S dr b s
def y_pc (S : z_S) (dr b : Nat) : Nat → Nat := z_cnt (y_is S dr b)
theorem y_pc_n6 {S : z_S} {dr b : Nat} (h : dr ≠ 6) : y_pc S dr b = z_pc S dr b := by
  unfold y_pc z_pc
  have : y_is S dr b = z_pl S dr b := funext (fun s => if_neg h)
  rw [this]
theorem y_pc_6 {S : z_S} {b : Nat} : ∀ s, y_pc S 6 b s = if s = 0 then 0 else 1
  | 0 => rfl
  | s + 1 => by
    show y_pc S 6 b s + (if y_is S 6 b s then 1 else 0) = _
    rw [y_pc_6 s]
    unfold y_is
    rw [if_pos rfl]
    by_cases e : s = 0
    · subst e; rfl
    · rw [decide_eq_false e]; simp [e]
theorem y_pc_end {S : z_S} {dr b : Nat} (h : 1 ≤ S 1 b) : y_pc S dr b (S 1 b) = z_np S dr b := by
  unfold z_np
  by_cases e : dr = 6
  · subst e
    rw [y_pc_6, if_neg (by omega), if_pos rfl]
  · rw [y_pc_n6 e, if_neg e]
theorem y_pc_lt {S : z_S} {dr b s : Nat} (h : s < S 1 b) (hs : y_is S dr b s = true) : y_pc S dr b s < z_np S dr b := by
  rw [← y_pc_end (S := S) (dr := dr) (b := b) (by omega)]
  have m : y_pc S dr b (s + 1) ≤ y_pc S dr b (S 1 b) := z_cnt_mono h
  have e : y_pc S dr b (s + 1) = y_pc S dr b s + (if y_is S dr b s then 1 else 0) := rfl
  rw [hs] at e
  simp at e
  omega
theorem y_st_pc {S : z_S} {dr b s : Nat} (h : s < S 1 b) (hs : y_is S dr b s = true) : z_st S dr b (y_pc S dr b s) = s := by
  by_cases e : dr = 6
  · subst e
    unfold y_is at hs
    rw [if_pos rfl] at hs
    unfold z_st
    rw [if_pos rfl]
    exact (of_decide_eq_true hs).symm
  · rw [y_pc_n6 e]
    unfold y_is at hs
    rw [if_neg e] at hs
    exact z_st_eq e h hs
theorem y_st_inv {S : z_S} {dr b i : Nat} (hl : 1 ≤ S 1 b) (h : i < z_np S dr b) : y_is S dr b (z_st S dr b i) = true ∧ z_st S dr b i < S 1 b ∧ y_pc S dr b (z_st S dr b i) = i := by
  unfold z_np at h
  by_cases e : dr = 6
  · subst e
    rw [if_pos rfl] at h
    have e0 : z_st S 6 b i = 0 := by unfold z_st; rw [if_pos rfl]
    rw [e0]
    refine ⟨rfl, hl, ?_⟩
    rw [y_pc_6, if_pos rfl]
    omega
  · rw [if_neg e] at h
    obtain ⟨q, h1, h2, h3⟩ := z_pl_ex h
    have e1 := z_st_eq e h1 h2
    rw [h3] at e1
    rw [e1, y_pc_n6 e]
    exact ⟨by unfold y_is; rw [if_neg e]; exact h2, h1, h3⟩
