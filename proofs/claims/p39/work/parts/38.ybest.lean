/-! THE BEST WAY, IN THE LAW -/
theorem l_best {f a : sx_F} {o : sl_O} {S : z_S} (Y : y_N a o S) (W : z_W S) {bk w q : Nat} (hbk : bk ≤ 5) (t : y_T (a 8) S bk) (h1 : a 7 1 = nI w) (hw : w ≤ 500) (h2 : a 7 2 = nI q) (hq1 : 1 ≤ q) (hq : q ≤ 6) {Q : Int32 → Prop} (h : ∀ y, y < 2 ^ (z_it S bk (S 0 0) - 1) → y_pa (z_it S bk (S 0 0)) (z_Z (z_it S bk (S 0 0)) (z_IW S bk) (z_IL S bk) (z_IT S bk) w q) q 0 0 (y_l (y_e y) (z_it S bk (S 0 0)) (z_it S bk (S 0 0)) 0) → Q (nI y)) : P_L_best f a o (nI bk) (nI (z_it S bk (S 0 0))) Q := by
  intro B9 B25 B103 B107 B108 B139 B147 h9 h25 h103 h107 h108 h139 h147
  have n6 := Y.1
  have it6 := y_it_le (S := S) (bk := bk) (S 0 0)
  have hIW : ∀ j, j < z_it S bk (S 0 0) → z_IW S bk j ≤ 768 := fun j hj => (z_IW_b W hbk hj).1
  have lc := fun (y : Nat) (hy : y < 2 ^ 31) (Q : Int32 → Prop) => l_cost (f := f) (y := y) (Q := Q) Y W hbk t h1 hw h2 hq1 hq hy false
  generalize hII : z_it S bk (S 0 0) = I at *
  have pw : 2 ^ (I - 1) ≤ 2 ^ 5 := Nat.pow_le_pow_right (by omega) (by omega)
  have bnd : ∀ y, y_lb I (z_IW S bk) w 0 (y_l (y_e y) I I 0) + y_lt (z_IT S bk) q 0 0 (y_l (y_e y) I I 0) < 2 ^ 30 ∧ (y_l (y_e y) I I 0).length ≤ 6 ∧ y_lr 0 (y_l (y_e y) I I 0) < 2 ^ 30 := by
    intro y
    obtain ⟨s1, s2⟩ := y_l_sum (e := y_e y) (I := I) I 0 (fun _ => rfl)
    have b0 := y_len_le _ s2
    have b1 := y_lb_le (W := z_IW S bk) (by omega) hw hIW (y_l (y_e y) I I 0) 0 (by omega)
    have b2 := y_lt_le (T := z_IT S bk) (q := q) (fun j => z_IT_le) (y_l (y_e y) I I 0) 0 0
    have b3 := y_lr_b (y_l (y_e y) I I 0) 0 (fun k hk => by have := y_sum_le _ k hk; omega)
    have b4 : 7 ^ (y_l (y_e y) I I 0).length ≤ 7 ^ 6 := Nat.pow_le_pow_right (by omega) (by omega)
    refine ⟨by omega, by omega, ?_⟩
    have : (7 : Nat) ^ 6 = 117649 := by decide
    omega
  have ll := fun (y : Nat) (hy : y < 2 ^ 31) (Q : Int32 → Prop) => l_lines (f := f) (a := a) (o := o) (I := I) (y := y) (Q := Q) (by omega) hy
  have lr := fun (y : Nat) (hy : y < 2 ^ 31) (Q : Int32 → Prop) => l_row (f := f) (a := a) (o := o) (I := I) (y := y) (Q := Q) (by omega) hy
  have key : ∀ d y, y + d = 2 ^ (I - 1) → ∀ v7 v8 : Int32, ((v7 = -1 ∧ ∀ y', y' < y → y_lk (z_IL S bk) w 0 (y_l (y_e y') I I 0) = false) ∨ ∃ y0, y0 < y ∧ v7 = nI y0 ∧ v8 = nI (y_lb I (z_IW S bk) w 0 (y_l (y_e y0) I I 0) + y_lt (z_IT S bk) q 0 0 (y_l (y_e y0) I I 0)) ∧ y_lk (z_IL S bk) w 0 (y_l (y_e y0) I I 0) = true ∧ ∀ y', y' < y → y_lk (z_IL S bk) w 0 (y_l (y_e y') I I 0) = true → y_be I (z_IW S bk) (z_IT S bk) w q y0 y') → B9 v7 v8 (nI y) := by
    intro d
    induction d with
    | zero =>
      intro y hy v7 v8 hst
      have fin : Q v7 := by
        rcases hst with ⟨e1, e2⟩ | ⟨y0, e1, e2, e3, e4, e5⟩
        · obtain ⟨y', hy', hv'⟩ := y_valid_ex (I := I) (L := z_IL S bk) (w := w)
          rw [e2 y' (by omega)] at hv'
          exact absurd hv' (by decide)
        · rw [e2]
          exact h y0 (by omega) (y_best (by omega) e4 (fun y' hy' hv' => e5 y' (by omega) hv'))
      have go : B25 v7 v8 (nI y) (nI y) 1 (nI (I - 1)) := by
        refine h25 _ _ _ _ _ _ ?_
        rw [z_l1, pk_shlN _ (I - 1) (y_s5 ⟨I - 1, by omega⟩) (by omega)]
        exact pk_le (1 * 2 ^ (I - 1)) y (fun _ => fin) (fun c => absurd c (by omega))
      refine h9 _ _ _ (pk_le I 0 (fun c => ?_) (fun c => ?_))
      · rw [show I - 1 = 0 by omega] at go; exact go
      · rw [show nI I - 1 = nI (I - 1) from pk_sub (a := I) (b := 1) (by omega)]; exact go
    | succ d ih =>
      intro y hy v7 v8 hst
      have st147 : ∀ v7 v8 : Int32, ((v7 = -1 ∧ ∀ y', y' < y + 1 → y_lk (z_IL S bk) w 0 (y_l (y_e y') I I 0) = false) ∨ ∃ y0, y0 < y + 1 ∧ v7 = nI y0 ∧ v8 = nI (y_lb I (z_IW S bk) w 0 (y_l (y_e y0) I I 0) + y_lt (z_IT S bk) q 0 0 (y_l (y_e y0) I I 0)) ∧ y_lk (z_IL S bk) w 0 (y_l (y_e y0) I I 0) = true ∧ ∀ y', y' < y + 1 → y_lk (z_IL S bk) w 0 (y_l (y_e y') I I 0) = true → y_be I (z_IW S bk) (z_IT S bk) w q y0 y') → B147 v7 v8 (nI y) := fun v7 v8 hv => h147 _ _ _ (nm_e (by rw [nI_1]; exact ih (y + 1) (by omega) v7 v8 hv))
      obtain ⟨c1, c2, c3⟩ := bnd y
      have go : B25 v7 v8 (nI y) (nI y) 1 (nI (I - 1)) := by
        refine h25 _ _ _ _ _ _ ?_
        rw [z_l1, pk_shlN _ (I - 1) (y_s5 ⟨I - 1, by omega⟩) (by omega)]
        refine pk_le (1 * 2 ^ (I - 1)) y (fun c => absurd c (by omega)) (fun _ => lc y (by omega) _ ?_)
        rcases hst with ⟨e1, e2⟩ | ⟨y0, e1, e2, e3, e4, e5⟩
        · rw [e1]
          refine ⟨fun _ => h107 _ _ _ _ (h108 _ _ _ _ _ ?_), fun z => absurd (by decide) z⟩
          cases hv : y_lk (z_IL S bk) w 0 (y_l (y_e y) I I 0)
          · refine ⟨fun _ => st147 _ _ (Or.inl ⟨rfl, fun y' hy' => ?_⟩), fun z => absurd (show (-1 : Int32) < 0 by decide) z⟩
            by_cases ey : y' = y
            · rw [ey]; exact hv
            · exact e2 y' (by omega)
          · rw [if_pos rfl, if_neg (by decide)]
            refine ⟨fun z => absurd z (nI_pos (by omega)), fun _ => ⟨fun _ => h139 _ _ (st147 _ _ (Or.inr ⟨y, by omega, rfl, rfl, hv, fun y' hy' hv' => ?_⟩)), fun z => absurd (by decide) z⟩⟩
            by_cases ey : y' = y
            · rw [ey]; exact Or.inr ⟨rfl, Or.inr ⟨rfl, Nat.le_refl _⟩⟩
            · rw [e2 y' (by omega)] at hv'
              exact absurd hv' (by decide)
        · rw [e2, e3]
          obtain ⟨g1, g2, g3⟩ := bnd y0
          refine ⟨fun z => absurd z (nI_pos (by omega)), fun _ => ?_⟩
          -- the better of the two
          have old : (y_lk (z_IL S bk) w 0 (y_l (y_e y) I I 0) = true → y_be I (z_IW S bk) (z_IT S bk) w q y0 y) → B147 (nI y0) (nI (y_lb I (z_IW S bk) w 0 (y_l (y_e y0) I I 0) + y_lt (z_IT S bk) q 0 0 (y_l (y_e y0) I I 0))) (nI y) := fun hbe => st147 _ _ (Or.inr ⟨y0, by omega, rfl, rfl, e4, fun y' hy' hv' => by
            by_cases ey : y' = y
            · rw [ey] at hv' ⊢; exact hbe hv'
            · exact e5 y' (by omega) hv'⟩)
          have new : y_lk (z_IL S bk) w 0 (y_l (y_e y) I I 0) = true → (∀ y', y_be I (z_IW S bk) (z_IT S bk) w q y0 y' → y_be I (z_IW S bk) (z_IT S bk) w q y y') → B139 (nI y) (nI (y_lb I (z_IW S bk) w 0 (y_l (y_e y) I I 0) + y_lt (z_IT S bk) q 0 0 (y_l (y_e y) I I 0))) := fun hv hbe => h139 _ _ (st147 _ _ (Or.inr ⟨y, by omega, rfl, rfl, hv, fun y' hy' hv' => by
            by_cases ey : y' = y
            · rw [ey]; exact Or.inr ⟨rfl, Or.inr ⟨rfl, Nat.le_refl _⟩⟩
            · exact hbe y' (e5 y' (by omega) hv')⟩))
          have k108 : ∀ s : Bool, s = decide ((y_l (y_e y) I I 0).length < (y_l (y_e y0) I I 0).length ∨ ((y_l (y_e y) I I 0).length = (y_l (y_e y0) I I 0).length ∧ y_lr 0 (y_l (y_e y) I I 0) < y_lr 0 (y_l (y_e y0) I I 0))) → B108 (nI y0) (nI (y_lb I (z_IW S bk) w 0 (y_l (y_e y0) I I 0) + y_lt (z_IT S bk) q 0 0 (y_l (y_e y0) I I 0))) (nI y) (if y_lk (z_IL S bk) w 0 (y_l (y_e y) I I 0) = true then nI (if false = true then y_lt (z_IT S bk) q 0 0 (y_l (y_e y) I I 0) else y_lb I (z_IW S bk) w 0 (y_l (y_e y) I I 0) + y_lt (z_IT S bk) q 0 0 (y_l (y_e y) I I 0)) else -1) (z_b s) := by
            intro s hs
            refine h108 _ _ _ _ _ ?_
            cases hv : y_lk (z_IL S bk) w 0 (y_l (y_e y) I I 0)
            · exact ⟨fun _ => old (fun z => by rw [hv] at z; exact absurd z (by decide)), fun z => absurd (show (-1 : Int32) < 0 by decide) z⟩
            · rw [if_pos rfl, if_neg (by decide)]
              refine ⟨fun z => absurd z (nI_pos (by omega)), fun _ => ⟨fun z => absurd z (nI_pos (by omega)), fun _ => pk_lt (y_lb I (z_IW S bk) w 0 (y_l (y_e y) I I 0) + y_lt (z_IT S bk) q 0 0 (y_l (y_e y) I I 0)) (y_lb I (z_IW S bk) w 0 (y_l (y_e y0) I I 0) + y_lt (z_IT S bk) q 0 0 (y_l (y_e y0) I I 0)) (fun c => new hv (fun y' hb => ?_)) (fun c => pk_eq (y_lb I (z_IW S bk) w 0 (y_l (y_e y) I I 0) + y_lt (z_IT S bk) q 0 0 (y_l (y_e y) I I 0)) (y_lb I (z_IW S bk) w 0 (y_l (y_e y0) I I 0) + y_lt (z_IT S bk) q 0 0 (y_l (y_e y0) I I 0)) (fun c4 => ?_) (fun c4 => old (fun _ => Or.inl (by omega))))⟩⟩
              · unfold y_be at hb ⊢; omega
              · cases s
                · have hn := of_decide_eq_false hs.symm
                  exact ⟨fun _ => old (fun _ => Or.inr ⟨by omega, by omega⟩), fun z => absurd rfl z⟩
                · have hy2 := of_decide_eq_true hs.symm
                  refine ⟨fun z => absurd z (by decide), fun _ => new hv (fun y' hb => ?_)⟩
                  unfold y_be at hb ⊢; omega
          refine ll y (by omega) _ (ll y0 (by omega) _ (pk_lt (y_l (y_e y) I I 0).length (y_l (y_e y0) I I 0).length (fun c => h103 _ _ _ _ (k108 true (decide_eq_true (Or.inl c)).symm)) (fun c => ll y (by omega) _ (ll y0 (by omega) _ (pk_eq (y_l (y_e y) I I 0).length (y_l (y_e y0) I I 0).length (fun c4 => lr y (by omega) _ (lr y0 (by omega) _ (pk_le (y_lr 0 (y_l (y_e y0) I I 0)) (y_lr 0 (y_l (y_e y) I I 0)) (fun c5 => h107 _ _ _ _ (k108 false ?_)) (fun c5 => h103 _ _ _ _ (k108 true ?_))))) (fun c4 => h107 _ _ _ _ (k108 false ?_)))))))
          · exact (decide_eq_false (by omega)).symm
          · exact (decide_eq_true (Or.inr ⟨c4, c5⟩)).symm
          · exact (decide_eq_false (by omega)).symm
      refine h9 _ _ _ (pk_le I 0 (fun c => ?_) (fun c => ?_))
      · rw [show I - 1 = 0 by omega] at go; exact go
      · rw [show nI I - 1 = nI (I - 1) from pk_sub (a := I) (b := 1) (by omega)]; exact go
  exact key (2 ^ (I - 1)) 0 (by omega) (-1) 0 (Or.inl ⟨rfl, fun y' hy' => absurd hy' (by omega)⟩)
