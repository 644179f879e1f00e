/-- the best way, line by line: where it begins on the page, and with which item -/
def z_lp (q : Nat) : Nat → Nat | 0 => 0 | l + 1 => z_nl q (z_lp q l)
def z_ps (Z : Nat → Nat → Nat × Nat × Nat) (q : Nat) : Nat → Nat | 0 => 0 | l + 1 => z_ps Z q l + (Z (z_ps Z q l) (z_lp q l)).2.2
def z_tn (Z : Nat → Nat → Nat × Nat × Nat) (T : Nat → Nat) (q : Nat) : Nat → Nat := z_sm (fun l => if z_lp q l + 1 < q then 0 else T (z_ps Z q (l + 1)))
theorem z_lp_lt {q : Nat} (hq : 1 ≤ q) : ∀ l, z_lp q l < q
  | 0 => hq
  | l + 1 => by
    show z_nl q (z_lp q l) < q
    unfold z_nl
    split <;> omega
theorem z_lp_mod {q : Nat} (hq : 1 ≤ q) : ∀ l, z_lp q l = l % q
  | 0 => (Nat.zero_mod q).symm
  | l + 1 => by
    have ih := z_lp_mod hq l
    have lt := Nat.mod_lt l (show 0 < q by omega)
    show z_nl q (z_lp q l) = _
    rw [ih]
    unfold z_nl
    rw [Nat.add_mod]
    by_cases q1 : q = 1
    · subst q1
      rw [if_neg (by omega)]
      exact (Nat.mod_one _).symm
    · rw [Nat.mod_eq_of_lt (show 1 < q by omega)]
      by_cases c : l % q + 1 < q
      · rw [if_pos c, Nat.mod_eq_of_lt c]
      · rw [if_neg c, show l % q + 1 = q by omega, Nat.mod_self]
theorem z_Z_step {I : Nat} {W L T : Nat → Nat} {w q a l : Nat} (h : a < I) : 1 ≤ (z_Z I W L T w q a l).2.2 ∧ a + (z_Z I W L T w q a l).2.2 ≤ I ∧ (z_Z I W L T w q a l).2.1 = 1 + (z_Z I W L T w q (a + (z_Z I W L T w q a l).2.2) (z_nl q l)).2.1 := by
  have e := z_Z_eq (W := W) (L := L) (T := T) (w := w) (q := q) (l := l) h
  obtain ⟨p1, p2, p3, p4, p5, p6⟩ := z_sc_way (c := fun k => z_lc I W T w q a l k + (z_Z I W L T w q (a + k) (z_nl q l)).1) (n := fun k => 1 + (z_Z I W L T w q (a + k) (z_nl q l)).2.1) (ok := z_ok L w a) z_ok1 (I - a) (by omega)
  rw [← e] at p1 p2 p5
  exact ⟨p1, by omega, p5⟩
theorem z_path {I : Nat} {W L T : Nat → Nat} {w q : Nat} : ∀ l, l ≤ (z_Z I W L T w q 0 0).2.1 → z_ps (z_Z I W L T w q) q l ≤ I ∧ (z_Z I W L T w q (z_ps (z_Z I W L T w q) q l) (z_lp q l)).2.1 + l = (z_Z I W L T w q 0 0).2.1 ∧ (l < (z_Z I W L T w q 0 0).2.1 → z_ps (z_Z I W L T w q) q l < I)
  | 0, _ => by
    refine ⟨Nat.zero_le _, rfl, fun h => ?_⟩
    show 0 < I
    refine Nat.pos_of_ne_zero (fun z => ?_)
    subst z
    rw [z_Z_end] at h
    exact absurd h (Nat.lt_irrefl 0)
  | l + 1, h => by
    obtain ⟨p1, p2, p3⟩ := z_path (I := I) (W := W) (L := L) (T := T) (w := w) (q := q) l (by omega)
    obtain ⟨s1, s2, s3⟩ := z_Z_step (W := W) (L := L) (T := T) (w := w) (q := q) (l := z_lp q l) (p3 (by omega))
    have e : z_ps (z_Z I W L T w q) q (l + 1) = z_ps (z_Z I W L T w q) q l + (z_Z I W L T w q (z_ps (z_Z I W L T w q) q l) (z_lp q l)).2.2 := rfl
    rw [e]
    refine ⟨s2, ?_, fun h2 => ?_⟩
    · show (z_Z I W L T w q _ (z_nl q (z_lp q l))).2.1 + (l + 1) = _
      omega
    · refine Nat.lt_of_le_of_ne s2 (fun z => ?_)
      rw [z, z_Z_end] at s3
      have : (z_Z I W L T w q (z_ps (z_Z I W L T w q) q l) (z_lp q l)).2.1 = 1 := s3
      omega
/-- the way ends behind the last item -/
theorem z_path_end {I : Nat} {W L T : Nat → Nat} {w q : Nat} (hw : w ≤ 500) (hI : I ≤ 12) (hW : ∀ j, j < I → W j ≤ 768) (hT : ∀ j, T j ≤ 1600) : z_ps (z_Z I W L T w q) q (z_Z I W L T w q 0 0).2.1 = I := by
  obtain ⟨p1, p2, -⟩ := z_path (I := I) (W := W) (L := L) (T := T) (w := w) (q := q) _ (Nat.le_refl _)
  refine Nat.le_antisymm p1 (Nat.le_of_not_lt (fun z => ?_))
  obtain ⟨-, -, c⟩ := z_Z_le (L := L) (q := q) hw hI hW hT (I - z_ps (z_Z I W L T w q) q (z_Z I W L T w q 0 0).2.1) (z_ps (z_Z I W L T w q) q (z_Z I W L T w q 0 0).2.1) (z_lp q (z_Z I W L T w q 0 0).2.1) (by omega)
  have := c (by omega)
  omega
/-- the lines as they stand in the class's rows, up to one -/
def z_Ln (f : sx_F) (Z : Nat → Nat → Nat × Nat × Nat) (q n : Nat) : Prop := (∀ l, l < n → f 63 l = nI (z_ps Z q l)) ∧ ∀ l j, l < n → z_ps Z q l ≤ j → j < z_ps Z q (l + 1) → f 64 j = nI l
theorem x_setLines {f : sx_F} {I : Nat} {W L T : Nat → Nat} {w q : Nat} {Q : sx_F → Prop} (B : z_Bk f I W L T w q) (R : z_Rw f I W L T w q 0) (hw : w ≤ 500) (hI : I ≤ 12) (hq1 : 1 ≤ q) (hq : q ≤ 6) (hW : ∀ j, j < I → W j ≤ 768) (hT : ∀ j, T j ≤ 1600) (h : ∀ f' : sx_F, (∀ k, k ≠ 19 → k ≠ 63 → k ≠ 64 → f' k = f k) → (∀ j, j ≠ 7 → j ≠ 8 → f' 19 j = f 19 j) → f' 19 7 = nI (z_Z I W L T w q 0 0).2.1 → f' 19 8 = nI (z_tn (z_Z I W L T w q) T q (z_Z I W L T w q 0 0).2.1) → z_Ln f' (z_Z I W L T w q) q (z_Z I W L T w q 0 0).2.1 → f' 63 (z_Z I W L T w q 0 0).2.1 = nI I → Q f') : P_X3_setLines f Q := by
  intro B23 B51 b23 b51
  have hN : (z_Z I W L T w q 0 0).2.1 ≤ 12 := by
    have := (z_Z_le (L := L) (q := q) hw hI hW hT I 0 0 (by omega)).2.1
    omega
  have hend := z_path_end (L := L) (q := q) hw hI hW hT
  have hpath := @z_path I W L T w q
  generalize hNg : (z_Z I W L T w q 0 0).2.1 = N at hN hend hpath h
  have r0 := (R 0 0 (Nat.le_refl _) (by omega) (by omega)).2.1
  rw [hNg] at r0
  refine ⟨by unfold vp_in; decide, nm_e ⟨by unfold vp_in; decide, nm_e (nm_e ?_)⟩⟩
  rw [sb_cl0, r0]
  have loop : ∀ f' : sx_F, (∀ k, k ≠ 19 → k ≠ 63 → k ≠ 64 → f' k = f k) → (∀ j, j ≠ 7 → j ≠ 8 → f' 19 j = f 19 j) → f' 19 7 = nI N → f' 19 8 = nI (z_tn (z_Z I W L T w q) T q 0) → z_Ln f' (z_Z I W L T w q) q 0 → B23 f' (nI (z_ps (z_Z I W L T w q) q 0)) (nI (z_lp q 0)) (nI 0) := by
    refine z_up (B := fun l => ∀ f' : sx_F, (∀ k, k ≠ 19 → k ≠ 63 → k ≠ 64 → f' k = f k) → (∀ j, j ≠ 7 → j ≠ 8 → f' 19 j = f 19 j) → f' 19 7 = nI N → f' 19 8 = nI (z_tn (z_Z I W L T w q) T q l) → z_Ln f' (z_Z I W L T w q) q l → B23 f' (nI (z_ps (z_Z I W L T w q) q l)) (nI (z_lp q l)) (nI l)) N (fun l hl ih => ?_)
    intro f' f1 f2 f3 f4 f5
    obtain ⟨q1, q2, q3⟩ := hpath l hl
    have hlp := z_lp_lt hq1 l
    refine b23 _ _ _ _ ?_
    rw [f3, nI_clamp (n := N) (by omega)]
    refine pk_le N l (fun y => ⟨vp_in_nI (by omega) (by omega), nm_e ?_⟩) (fun y => ⟨vp_in_nI (by omega) (by omega), nm_e ⟨vp_in_nI (by omega) (by omega), nm_e ⟨vp_in_nI (by omega) (by omega), nm_e ?_⟩⟩⟩)
    · have e : l = N := by omega
      subst e
      refine h _ (fun k h1 h2 h3 => by rw [sx_u_n h2]; exact f1 k h1 h2 h3) (fun j h1 h2 => by rw [sx_u_n (by decide)]; exact f2 j h1 h2) (by rw [sx_u_n (by decide)]; exact f3) (by rw [sx_u_n (by decide)]; exact f4) ⟨fun i hi => by rw [sx_u_s, pk_un (by omega)]; exact f5.1 i hi, fun i j h1 h2 h3 => by rw [sx_u_n (by decide)]; exact f5.2 i j h1 h2 h3⟩ (by rw [sx_u_s, pk_us, hend])
    · have r := (R (z_ps (z_Z I W L T w q) q l) (z_lp q l) (Nat.zero_le _) q1 hlp).2.2 (q3 y)
      obtain ⟨s1, s2, s3⟩ := z_Z_step (W := W) (L := L) (T := T) (w := w) (q := q) (l := z_lp q l) (q3 y)
      have e1 : z_ps (z_Z I W L T w q) q (l + 1) = z_ps (z_Z I W L T w q) q l + (z_Z I W L T w q (z_ps (z_Z I W L T w q) q l) (z_lp q l)).2.2 := rfl
      rw [nI_clamp (n := l) (by omega), nI_clamp (n := z_ps (z_Z I W L T w q) q l) (by omega), nI_clamp (n := z_lp q l) (by omega), sx_u_n (by omega), f1 _ (by omega) (by omega) (by omega), r, ← e1]
      rw [← e1] at s2
      have lt : z_ps (z_Z I W L T w q) q l < z_ps (z_Z I W L T w q) q (l + 1) := by omega
      clear e1 s1 s3
      generalize hp : z_ps (z_Z I W L T w q) q l = p at q1 q2 q3 lt r
      generalize hp' : z_ps (z_Z I W L T w q) q (l + 1) = p' at s2 lt
      have inner : ∀ m i, i + m = p' → p ≤ i → ∀ f6 : sx_F, (∀ k, k ≠ 19 → k ≠ 63 → k ≠ 64 → f6 k = f k) → f6 19 = f' 19 → f6 63 = upd (f' 63) l (nI p) → (∀ j, j < p → f6 64 j = f' 64 j) → (∀ j, p ≤ j → j < i → f6 64 j = nI l) → B51 f6 (nI (z_lp q l)) (nI l) (nI p') (nI i) := by
        intro m
        induction m with
        | zero =>
          intro i hi hpi f6 v1 v2 v3 v4 v5
          have ei : i = p' := by omega
          subst ei
          refine b51 _ _ _ _ _ (pk_le i i (fun _ => x_nextOnPage (by rw [v2, f2 2 (by decide) (by decide)]; exact B.2.2.2.2) hq (by omega) (x_turnAhead (I := I) (W := W) (L := L) (T := T) (w := w) ?_ hI (by omega) s2 (nm_e (nm_e ?_)))) (fun y => absurd y (by omega)))
          · refine ⟨by rw [v1 8 (by decide) (by decide) (by decide)]; exact B.1, fun j hj => by rw [v1 17 (by decide) (by decide) (by decide), v1 18 (by decide) (by decide) (by decide)]; exact B.2.1 j hj, fun j hj => by rw [v1 20 (by decide) (by decide) (by decide)]; exact B.2.2.1 j hj, by rw [v2, f2 1 (by decide) (by decide)]; exact B.2.2.2.1, by rw [v2, f2 2 (by decide) (by decide)]; exact B.2.2.2.2⟩
          · rw [nI_1, v2, f4, nI_add]
            have ih2 := ih y (sx_u f6 19 8 (nI (z_tn (z_Z I W L T w q) T q l + (if z_lp q l + 1 < q then 0 else T i)))) (fun k h1 h2 h3 => by rw [sx_u_n h1]; exact v1 k h1 h2 h3) (fun j h1 h2 => by rw [sx_u_s, pk_un h2, v2]; exact f2 j h1 h2) (by rw [sx_u_s, pk_un (by decide), v2]; exact f3) ?_ ⟨fun i2 hi2 => ?_, fun i2 j h1 h2 h3 => ?_⟩
            · rw [hp'] at ih2; exact ih2
            · rw [sx_u_s, pk_us]
              show _ = nI (z_tn (z_Z I W L T w q) T q l + (if z_lp q l + 1 < q then 0 else T (z_ps (z_Z I W L T w q) q (l + 1))))
              rw [hp']
            · rw [sx_u_n (by decide), v3]
              by_cases e : i2 = l
              · rw [e, pk_us, hp]
              · rw [pk_un e]; exact f5.1 i2 (by omega)
            · rw [sx_u_n (by decide)]
              by_cases e : i2 = l
              · rw [e] at h2 h3 ⊢
                rw [hp] at h2
                rw [hp'] at h3
                exact v5 j h2 h3
              · have mono : z_ps (z_Z I W L T w q) q (i2 + 1) ≤ p := by
                  have : ∀ a b, a ≤ b → z_ps (z_Z I W L T w q) q a ≤ z_ps (z_Z I W L T w q) q b := by
                    intro a b hab
                    induction b with
                    | zero => rw [show a = 0 by omega]; exact Nat.le_refl _
                    | succ b ihb =>
                      by_cases e3 : a = b + 1
                      · rw [e3]; exact Nat.le_refl _
                      · exact Nat.le_trans (ihb (by omega)) (Nat.le_add_right _ _)
                  rw [← hp]
                  exact this (i2 + 1) l (by omega)
                rw [v4 j (by omega)]
                exact f5.2 i2 j (by omega) h2 h3
        | succ m ihm =>
          intro i hi hpi f6 v1 v2 v3 v4 v5
          refine b51 _ _ _ _ _ (pk_le p' i (fun y => absurd y (by omega)) (fun _ => ⟨vp_in_nI (by omega) (by omega), nm_e (nm_e ?_)⟩))
          rw [nI_1, nI_clamp (by omega)]
          refine ihm (i + 1) (by omega) (by omega) _ (fun k h1 h2 h3 => by rw [sx_u_n h3]; exact v1 k h1 h2 h3) (by rw [sx_u_n (by decide)]; exact v2) (by rw [sx_u_n (by decide)]; exact v3) (fun j hj => by rw [sx_u_s, pk_un (by omega)]; exact v4 j hj) (fun j h1 h2 => ?_)
          rw [sx_u_s]
          by_cases e : j = i
          · rw [e, pk_us]
          · rw [pk_un e]; exact v5 j h1 (by omega)
      exact inner (p' - p) p (by omega) (Nat.le_refl _) _ (fun k h1 h2 h3 => by rw [sx_u_n h2]; exact f1 k h1 h2 h3) (by rw [sx_u_n (by decide)]) (by rw [sx_u_s]) (fun j hj => by rw [sx_u_n (by decide)]) (fun j h1 h2 => absurd h2 (by omega))
  refine loop _ (fun k h1 h2 h3 => by rw [sx_u_n h1, sx_u_n h1]) (fun j h1 h2 => by rw [sx_u_s, pk_un h2, sx_u_s, pk_un h1]) (by rw [sx_u_s, pk_un (by decide), sx_u_s, pk_us]) (by rw [sx_u_s, pk_us]; rfl) ⟨fun i hi => absurd hi (by omega), fun i j hi => absurd hi (by omega)⟩
