theorem y_G.c8 {a a' g : sx_F} {o : sl_O} {S : z_S} (G : y_G a o g S) (ha : ∀ i, i ≠ 8 → a' i = a i) : y_G a' o g S := by
  obtain ⟨Y, V, P, ⟨c12, m, hm, m1, m2, C⟩, K, Bw⟩ := G
  exact ⟨Y.cg ha, V.c (ha 2 (by decide)) rfl, P.c (by rw [ha 7 (by decide)]) (by rw [ha 7 (by decide)]) rfl rfl, ⟨by rw [ha 7 (by decide)]; exact c12, m, hm, by rw [ha 7 (by decide)]; exact m1, m2, fun i hi => (C i hi).c (ha 4 (by decide)) rfl rfl rfl⟩, K, Bw⟩
theorem l_isBook {t : Nat} {f a : sx_F} {o : sl_O} {n T z bk : Nat} (I0 : y_I t f a o n T) (hbk : bk ≤ 5) (hz : z < 10000000) {Q : Int32 → sx_F → sx_F → sl_O → Prop} (h : ∀ f' a', y_I t f' a' o n T → Q 1 f' a' o) : P_L_isBook f a o (nI bk) (nI z) Q := by
  intro B111 B141 B142 B150 B187 B198 B294 B297 B301 B302 B310 B328 B363 h111 h141 h142 h150 h187 h198 h294 h297 h301 h302 h310 h328 h363
  obtain ⟨g, S, R, G, hS, hT⟩ := I0
  subst hS
  have W := R.2.2.1
  have Y := G.1
  obtain ⟨w, q, w80, w500, q1, q3, p71, g06, p72, g07⟩ := G.2.2.1
  refine nm_e (l_items (Y.cg (fun i hi => if_neg hi)) W hbk (fun a' ha' T' => ?_))
  have ha : ∀ i, i ≠ 8 → a' i = a i := fun i hi => (ha' i hi).trans (if_neg hi)
  have Y' := Y.cg ha
  have G' := G.c8 ha
  have a71 : a' 7 1 = nI w := by rw [ha 7 (by decide)]; exact p71
  have a72 : a' 7 2 = nI q := by rw [ha 7 (by decide)]; exact p72
  refine l_best Y' W hbk T' a71 w500 a72 q1 (by omega) (fun y hy hpa => ?_)
  have I6 := y_it_le (S := S) (bk := bk) (S 0 0)
  have n6 := Y.1
  have hok : ∀ p, z_ok (z_IL S bk) w p 1 = true := fun p => decide_eq_true (Or.inl rfl)
  obtain ⟨-, -, r3, r4, r5⟩ := y_pa_of hok _ 0 0 hpa
  have hpath := @z_path (z_it S bk (S 0 0)) (z_IW S bk) (z_IL S bk) (z_IT S bk) w q
  have hend := z_path_end (L := z_IL S bk) (q := q) (I := z_it S bk (S 0 0)) w500 (by omega) (fun j hj => (z_IW_b W hbk hj).1) (T := z_IT S bk) (fun j => z_IT_le)
  have turns := y_turns (T := z_IT S bk) _ 0 hpa
  have hy31 : y < 2 ^ 31 := Nat.lt_of_lt_of_le hy (Nat.pow_le_pow_right (by omega) (by omega))
  have vit := fun (f' : sx_F) (R' : z_R t f' g S) (Q : Int32 → sx_F → Prop) (X : String → sx_F → Prop) => v_items (Q := Q) (X := X) R' hbk
  have vli := fun (f' : sx_F) (R' : z_R t f' g S) (Q : Int32 → sx_F → Prop) (X : String → sx_F → Prop) => v_lines (Q := Q) (X := X) R' hbk g06 w500 g07 (show q ≤ 6 by omega)
  have vco := fun (f' : sx_F) (R' : z_R t f' g S) (Q : Int32 → sx_F → Prop) (X : String → sx_F → Prop) => v_cost (Q := Q) (X := X) R' hbk g06 w500 g07 (show q ≤ 6 by omega)
  have vca := fun (f' : sx_F) (R' : z_R t f' g S) (Q : Int32 → sx_F → Prop) (X : String → sx_F → Prop) => v_costByAll (Q := Q) (X := X) R' hbk g06 w500 g07 (show q ≤ 6 by omega)
  have vtu := fun (f' : sx_F) (R' : z_R t f' g S) (Q : Int32 → sx_F → Prop) (X : String → sx_F → Prop) => v_turns (Q := Q) (X := X) R' hbk g06 w500 g07 (show q ≤ 6 by omega)
  have vlo := fun (f' : sx_F) (R' : z_R t f' g S) (b l : Nat) (hb : b < S 0 0) (Q : Int32 → sx_F → Prop) (X : String → sx_F → Prop) => v_lineOf (b := b) (l := l) (Q := Q) (X := X) R' hbk hb g06 w500 g07 (show q ≤ 6 by omega)
  have vwi := fun (f' : sx_F) (R' : z_R t f' g S) (j : Nat) (hj : j < z_it S bk (S 0 0)) (Q : Int32 → sx_F → Prop) (X : String → sx_F → Prop) => v_width (Q := Q) (X := X) R' hbk hj
  have lco := fun (f' : sx_F) (tr : Bool) (Q : Int32 → Prop) => l_cost (f := f') (Q := Q) Y' W hbk T' a71 w500 a72 q1 (show q ≤ 6 by omega) hy31 tr
  have ili := fun (f' : sx_F) (R' : z_R t f' g S) (l c p p' : Nat) (Q : Int32 → sx_F → sx_F → sl_O → Prop) => l_isLine (c := c) (l := l) (p := p) (p' := p') (Q := Q) R' Y' T' hbk a71 w500 g06 g07 (show q ≤ 6 by omega) hy31 rfl
  have itx := fun j (hj : j < z_it S bk (S 0 0)) => y_xe_le (S := S) (bk := bk) hj
  have itin := fun j b (hj : j < z_it S bk (S 0 0)) => y_itin (S := S) (bk := bk) (b := b) hj
  have TT := T'
  unfold y_T y_R at TT
  generalize hI : z_it S bk (S 0 0) = I at *
  have bits := fun (l : Nat) => y_bits (l := l) hpa
  generalize hZ : z_Z I (z_IW S bk) (z_IL S bk) (z_IT S bk) w q = Z at *
  have RR : ∀ f' f'', z_R t f' g S → z_fx f' f'' → z_R t f'' g S := fun f' f'' R' fx => R'.fx fx (z_gx.refl g)
  have done : ∀ f', z_R t f' g S → Q 1 f' a' o := fun f' R' => h f' a' ⟨g, S, R', G', rfl, hT⟩
  have bitl : ∀ l, l < (Z 0 0).2.1 → z_ps Z q l < z_ps Z q (l + 1) ∧ z_ps Z q (l + 1) ≤ I ∧ (∀ i, z_ps Z q l ≤ i → i + 1 < z_ps Z q (l + 1) → y_e y i = false) ∧ (z_ps Z q (l + 1) < I → y_e y (z_ps Z q (l + 1) - 1) = true) := fun l hl => bits l (fun l' h' => (hpath l' (by omega)).2.2 (by omega))
  have bitp : ∀ l, l < (Z 0 0).2.1 → 0 < z_ps Z q l → y_e y (z_ps Z q l - 1) = true := fun l hl h0 => by
    cases l with
    | zero => exact absurd h0 (Nat.lt_irrefl 0)
    | succ l => exact (bitl l (by omega)).2.2.2 ((hpath (l + 1) (by omega)).2.2 hl)
  -- a line
  have e328 : ∀ f', z_R t f' g S → B328 f' a' o (nI I) (nI y) 1 := by
    intro f' R'
    refine h328 _ _ _ _ _ _ ⟨fun c => absurd c (by decide), fun _ => pk_eq I 0 (fun _ => h363 _ _ _ (done f' R')) (fun c0 => ⟨nI_ne0 (by omega) (by omega), ?_⟩)⟩
    rw [show nI z - nI z / nI I * nI I = nI (z % I) from pk_rem (by omega) (by omega) (by omega)]
    have hc := Nat.mod_lt z (show 0 < I by omega)
    obtain ⟨l, l1, l2, l3⟩ := z_line (Z := Z) (q := q) (j := z % I) (Z 0 0).2.1 (by rw [hend]; exact hc)
    obtain ⟨b1, b2, b3, b4⟩ := bitl l l1
    exact ili f' R' l (z % I) _ _ _ l1 rfl rfl b1 b2 b3 (bitp l l1) b4 l2 l3 (fun f2 R2 => ⟨fun c => absurd c (by decide), fun _ => h363 _ _ _ (done f2 R2)⟩)
  -- the items
  have e150 : ∀ d j, j + d = I → ∀ v11 : Int32, (j < I → ∃ l, l < (Z 0 0).2.1 ∧ z_ps Z q l ≤ j ∧ j < z_ps Z q (l + 1) ∧ v11 = nI l) → ∀ f', z_R t f' g S → B150 f' a' o (nI I) (nI y) 1 v11 (nI j) := by
    intro d
    induction d with
    | zero =>
      intro j hj v11 _ f' R'
      exact h150 _ _ _ _ _ _ _ _ (pk_le I j (fun _ => e328 f' R') (fun c => absurd c (by omega)))
    | succ d ih =>
      intro j hj v11 hl f' R'
      obtain ⟨l, l1, l2, l3, l4⟩ := hl (by omega)
      subst l4
      have hjI : j < I := by omega
      obtain ⟨⟨t0, t1, t2⟩, t3, t4⟩ := TT j hjI
      obtain ⟨x1, x2, x3⟩ := itx j hjI
      refine h150 _ _ _ _ _ _ _ _ (pk_le I j (fun c => absurd c (by omega)) (fun _ => ⟨fun c => absurd c (by decide), fun _ => vwi f' R' j hjI _ _ (fun f1 fx1 => ⟨?_, ?_⟩)⟩))
      · rw [y_5, y_a3]
        exact vp_in_nI (by omega) (by omega)
      rw [y_5, y_a3, nI_clamp (n := 5 * j + 3) (by omega), t3]
      refine ⟨fun _ => h187 _ _ _ _ _ _ _ _ ?_, fun c => absurd rfl c⟩
      rw [y_5, nI_clamp (n := 5 * j) (by omega), t0]
      refine ⟨vp_in_nI (by omega) (by omega), nm_e ?_⟩
      have e310 : ∀ f', z_R t f' g S → B310 f' a' o (nI I) (nI y) 1 (nI l) (nI j) := by
        intro f' R'
        refine h310 _ _ _ _ _ _ _ _ ?_
        rw [y_bit hy31 (by omega), nI_add, nI_1]
        refine nm_e (nm_e (ih (j + 1) (by omega) _ (fun hj1 => ?_) f' R'))
        obtain ⟨b1, b2, b3, b4⟩ := bitl l l1
        have m2 := Nat.mod_lt (y / 2 ^ j) (show 0 < 2 by omega)
        by_cases c : j + 1 < z_ps Z q (l + 1)
        · have e := of_decide_eq_false (b3 j l2 c)
          exact ⟨l, l1, by omega, c, by rw [show y / 2 ^ j % 2 = 0 by omega, Nat.add_zero]⟩
        · have es : z_ps Z q (l + 1) = j + 1 := by omega
          rw [es] at b4
          have e := of_decide_eq_true (b4 hj1)
          rw [Nat.add_sub_cancel] at e
          have hl2 : l + 1 < (Z 0 0).2.1 := by
            refine Nat.lt_of_le_of_ne l1 (fun z => ?_)
            rw [← z, es] at hend
            omega
          have := (bitl (l + 1) hl2).1
          exact ⟨l + 1, hl2, by omega, by omega, by rw [e]⟩
      have e198 : ∀ d b, b + d = y_xe S bk j → z_xb S bk j ≤ b → ∀ f', z_R t f' g S → B198 f' a' o (nI I) (nI y) 1 (nI l) (nI j) (nI b) := by
        intro d2
        induction d2 with
        | zero =>
          intro b hb hxb f' R'
          refine h198 _ _ _ _ _ _ _ _ _ ?_
          rw [y_5, y_a1, nI_clamp (n := 5 * j + 1) (by omega), t1]
          exact ⟨vp_in_nI (by omega) (by omega), pk_lt (y_xe S bk j - 1) b (fun _ => e310 f' R') (fun c => absurd c (by omega))⟩
        | succ d2 ih2 =>
          intro b hb hxb f' R'
          obtain ⟨i1, i2, i3⟩ := itin j b hjI hxb (by omega)
          have v52 : vp_in (nI (5 * j + 2)) 30 := vp_in_nI (by omega) (by omega)
          refine h198 _ _ _ _ _ _ _ _ _ ?_
          rw [y_5, y_a1, y_a2, nI_clamp (n := 5 * j + 1) (by omega), nI_clamp (n := 5 * j + 2) (by omega), t1, t2]
          refine ⟨vp_in_nI (by omega) (by omega), pk_lt (y_xe S bk j - 1) b (fun c => absurd c (by omega)) (fun _ => ⟨fun c => absurd c (by decide), fun _ => ⟨fun _ => ?_, fun _ => e310 f' R'⟩⟩)⟩
          refine v_itemOf R' hbk i2 (fun f1 fx1 => ?_)
          have R1 := RR _ _ R' fx1
          rw [i1, Nat.add_sub_cancel]
          refine ⟨fun _ => vlo f1 R1 b l i2 _ _ l1 ?_ ?_ (fun f2 fx2 => ⟨fun _ => ?_, fun c => absurd rfl c⟩), fun c => absurd rfl c⟩
          · rw [i1, Nat.add_sub_cancel]; exact l2
          · rw [i1, Nat.add_sub_cancel]; exact l3
          have R2 := RR _ _ R1 fx2
          have e297 : B297 f2 a' o (nI I) (nI y) (nI l) (nI j) (nI b) := h297 _ _ _ _ _ _ _ _ (h302 _ _ _ _ _ _ _ _ _ (nm_e (by rw [nI_1]; exact ih2 (b + 1) (by omega) (by omega) f2 R2)))
          refine pk_eq bk 5 (fun _ => e297) (fun c5 => v_cue R2 (by omega) i2 ⟨v52, ?_⟩)
          have ec := y_cue_drw (S := S) (bk := bk) (b := b) (by omega)
          rw [← ec, i3]
          have e294 : ∀ s, B294 f2 a' o (nI I) (nI y) (nI l) (nI j) (nI b) s s := fun s => h294 _ _ _ _ _ _ _ _ _ _ ⟨fun _ => e297, fun c => absurd rfl c⟩
          have hdr := z_drw_le (S := S) (bk := bk) (b := z_xb S bk j) hbk
          by_cases cd : z_drw S bk (z_xb S bk j) = bk
          · rw [if_pos cd]
            refine ⟨fun _ => e294 (-1), fun c => absurd ?_ c⟩
            rw [cd, z_drn (by omega)]
          · rw [if_neg cd]
            refine ⟨fun c => absurd c (fun e => ?_), fun _ => ⟨v52, e294 _⟩⟩
            by_cases c6 : z_drw S bk (z_xb S bk j) = 6
            · rw [c6] at e
              exact z_nm (show bk < 2 ^ 31 by omega) e.symm
            · rw [z_drn c6] at e
              exact cd ((nI_eq (by omega) (by omega)).mp e)
      exact e198 (y_xe S bk j - z_xb S bk j) (z_xb S bk j) (by omega) (Nat.le_refl _) f1 (RR _ _ R' fx1)
  -- the turns
  have e111 : ∀ f', z_R t f' g S → B111 f' a' o (nI I) (nI y) := by
    intro f' R'
    refine h111 _ _ _ _ _ (vtu f' R' _ _ (fun f1 fx1 => lco f1 true _ ?_))
    have R1 := RR _ _ R' fx1
    rw [r3, if_pos rfl, if_pos rfl]
    refine ⟨fun _ => h142 _ _ _ _ _ _ (e150 I 0 (by omega) 0 (fun h0 => ?_) f1 R1), fun c => absurd ?_ c⟩
    · have hN : 0 < (Z 0 0).2.1 := by
        refine Nat.pos_of_ne_zero (fun z => ?_)
        rw [z] at hend
        have : z_ps Z q 0 = 0 := rfl
        omega
      have := (bitl 0 hN).1
      have e0 : z_ps Z q 0 = 0 := rfl
      exact ⟨0, hN, by omega, by omega, rfl⟩
    · rw [r5, Nat.zero_add] at turns
      rw [← turns]
      have e0 : z_tn Z (z_IT S bk) q 0 = 0 := rfl
      rw [e0, Nat.zero_add]
      rfl
  -- items, lines, cost
  refine vit f R _ _ (fun f1 fx1 => ⟨fun _ => ?_, fun c => absurd rfl c⟩)
  have R1 := RR _ _ R fx1
  refine vli f1 R1 _ _ (fun f2 fx2 => l_lines (by omega) hy31 ⟨fun _ => ?_, fun c => absurd (by rw [r5]) c⟩)
  have R2 := RR _ _ R1 fx2
  refine vco f2 R2 _ _ (fun f3 fx3 => lco f3 false _ ?_)
  have R3 := RR _ _ R2 fx3
  rw [r3, if_pos rfl, if_neg (by decide), r4]
  refine ⟨fun _ => ⟨fun _ => e111 f3 R3, fun _ => vca f3 R3 _ _ (fun f4 fx4 => ?_)⟩, fun c => absurd rfl c⟩
  have R4 := RR _ _ R3 fx4
  exact vco f4 R4 _ _ (fun f5 fx5 => ⟨fun _ => e111 f5 (RR _ _ R4 fx5), fun c => absurd rfl c⟩)
