/-- what the reference needs of a book to break it -/
def z_Bm (g : sx_F) (I : Nat) (W L : Nat → Nat) (w q : Nat) : Prop := g 0 20 = nI I ∧ (∀ j, j < I → g 20 j = nI (8 + W j) ∧ g 21 j = nI (8 + L j)) ∧ g 0 6 = nI w ∧ g 0 7 = nI q
def z_Rm (g : sx_F) (I : Nat) (W L T : Nat → Nat) (w q a : Nat) : Prop := ∀ e l, a ≤ e → e ≤ I → l < q → g 22 (6 * e + l) = nI (z_Z I W L T w q e l).1 ∧ g 23 (6 * e + l) = nI (z_Z I W L T w q e l).2.1 ∧ (e < I → g 24 (6 * e + l) = nI (z_Z I W L T w q e l).2.2)
theorem z_wid_s {W : Nat → Nat} {a e : Nat} (h : a ≤ e) : z_wid W a (e + 1) = z_wid W a e + (8 + W e) := by
  unfold z_wid
  have m := z_sm_mono (w := W) h
  rw [show z_sm W (e + 1) = z_sm W e + W e from rfl]
  omega
theorem z_nl_mod {q l : Nat} (hl : l < q) : (l + 1) % q = z_nl q l := by
  unfold z_nl
  by_cases c : l + 1 < q
  · rw [if_pos c, Nat.mod_eq_of_lt c]
  · rw [if_neg c, show l + 1 = q by omega, Nat.mod_self]
theorem m_breaks {g : sx_F} {I bk : Nat} {W L T : Nat → Nat} {w q : Nat} {Q : sx_F → Prop} (B : z_Bm g I W L w q) (hI : I ≤ 12) (hw : w ≤ 500) (hq1 : 1 ≤ q) (hq : q ≤ 6) (hW : ∀ j, j < I → W j ≤ 768) (hL : ∀ j, j < I → L j ≤ 288) (hT : ∀ j, T j ≤ 1600) (hTI : T I = 0)
    (ht : ∀ (g' : sx_F) (QQ : Int32 → Prop) (e : Nat), (∀ k, k ≠ 0 → k ≠ 22 → k ≠ 23 → k ≠ 24 → k ≠ 25 → g' k = g k) → (∀ j, j ≠ 31 → j ≠ 32 → g' 0 j = g 0 j) → 0 < e → e < I → QQ (nI (T e)) → P_X7_turnCost g' (nI bk) (g' 14 (e - 1)) QQ)
    (h : ∀ g' : sx_F, (∀ k, k ≠ 0 → k ≠ 22 → k ≠ 23 → k ≠ 24 → k ≠ 25 → g' k = g k) → (∀ j, j ≠ 31 → j ≠ 32 → g' 0 j = g 0 j) → z_Rm g' I W L T w q 0 → g' 0 31 = nI (z_Z I W L T w q 0 0).2.1 → g' 0 32 = nI (z_tn (z_Z I W L T w q) T q (z_Z I W L T w q 0 0).2.1) → (∀ l j, l < (z_Z I W L T w q 0 0).2.1 → z_ps (z_Z I W L T w q) q l ≤ j → j < z_ps (z_Z I W L T w q) q (l + 1) → g' 25 j = nI l) → Q g') : P_X7_breaks g (nI bk) Q := by
  intro B2 B53 B59 B92 B151 B225 B226 B282 B286 B287 B304 B343 B373 B407 B487 B488 b2 b53 b59 b92 b151 b225 b226 b282 b286 b287 b304 b343 b373 b407 b487 b488
  -- the lines, once the rows stand
  have lines : ∀ g2 : sx_F, (∀ k, k ≠ 22 → k ≠ 23 → k ≠ 24 → g2 k = g k) → z_Rm g2 I W L T w q 0 → B53 g2 (-1) := by
    intro g2 c1 c3
    have hN : (z_Z I W L T w q 0 0).2.1 ≤ 12 := by
      have := (z_Z_le (L := L) (q := q) hw hI hW hT I 0 0 (by omega)).2.1
      omega
    have hend := z_path_end (L := L) (q := q) hw hI hW hT
    have hpath := @z_path I W L T w q
    generalize hNg : (z_Z I W L T w q 0 0).2.1 = N at hN hend hpath h
    have c0 : g2 0 = g 0 := c1 0 (by decide) (by decide) (by decide)
    refine b53 _ _ ⟨fun _ => nm_e (nm_e ?_), fun y => absurd (by decide) y⟩
    have loop : ∀ g3 : sx_F, (∀ k, k ≠ 0 → k ≠ 25 → g3 k = g2 k) → (∀ j, j ≠ 31 → j ≠ 32 → g3 0 j = g 0 j) → g3 0 31 = nI 0 → g3 0 32 = nI (z_tn (z_Z I W L T w q) T q 0) → (∀ l j, l < 0 → z_ps (z_Z I W L T w q) q l ≤ j → j < z_ps (z_Z I W L T w q) q (l + 1) → g3 25 j = nI l) → B373 g3 (nI (z_ps (z_Z I W L T w q) q 0)) := by
      refine z_up (B := fun l => ∀ g3 : sx_F, (∀ k, k ≠ 0 → k ≠ 25 → g3 k = g2 k) → (∀ j, j ≠ 31 → j ≠ 32 → g3 0 j = g 0 j) → g3 0 31 = nI l → g3 0 32 = nI (z_tn (z_Z I W L T w q) T q l) → (∀ i j, i < l → z_ps (z_Z I W L T w q) q i ≤ j → j < z_ps (z_Z I W L T w q) q (i + 1) → g3 25 j = nI i) → B373 g3 (nI (z_ps (z_Z I W L T w q) q l))) N (fun l hl ih => ?_)
      intro g3 f1 f2 f3 f4 f5
      obtain ⟨q1, q2, q3⟩ := hpath l hl
      have hlp := z_lp_lt hq1 l
      refine b373 _ _ ?_
      rw [f2 20 (by decide) (by decide), B.1, f2 7 (by decide) (by decide), B.2.2.2, f3, pk_rem (a := l) (d := q) (by omega) (by omega) (by omega), ← z_lp_mod hq1 l]
      refine pk_le I (z_ps (z_Z I W L T w q) q l) (fun y => ?_) (fun y => ⟨nI_ne0 (by omega) (by omega), nm_e ?_⟩)
      · have e : l = N := by
          by_cases z : l < N
          · have := q3 z; omega
          · omega
        subst e
        exact h g3 (fun k h1 h2 h3 h4 h5 => by rw [f1 k h1 h5]; exact c1 k h2 h3 h4) f2 (fun e x he he2 hx => by rw [f1 22 (by decide) (by decide), f1 23 (by decide) (by decide), f1 24 (by decide) (by decide)]; exact c3 e x he he2 hx) f3 f4 f5
      · have lN : l < N := Nat.lt_of_not_le (fun z => by rw [show l = N by omega, hend] at y; omega)
        have r := (c3 (z_ps (z_Z I W L T w q) q l) (z_lp q l) (Nat.zero_le _) q1 hlp).2.2 y
        obtain ⟨s1, s2, s3⟩ := z_Z_step (W := W) (L := L) (T := T) (w := w) (q := q) (l := z_lp q l) y
        have ep : z_ps (z_Z I W L T w q) q (l + 1) = z_ps (z_Z I W L T w q) q l + (z_Z I W L T w q (z_ps (z_Z I W L T w q) q l) (z_lp q l)).2.2 := rfl
        rw [show (6 : Int32) * nI (z_ps (z_Z I W L T w q) q l) + nI (z_lp q l) = nI (6 * z_ps (z_Z I W L T w q) q l + z_lp q l) by rw [z_l6, pk_mul, nI_add], nI_clamp (n := 6 * z_ps (z_Z I W L T w q) q l + z_lp q l) (by omega), f1 24 (by decide) (by decide), r]
        refine ⟨vp_in_nI (by omega) (by omega), nm_e ?_⟩
        have inner : ∀ m i, i + m = z_ps (z_Z I W L T w q) q (l + 1) → z_ps (z_Z I W L T w q) q l ≤ i → ∀ g6 : sx_F, (∀ k, k ≠ 25 → g6 k = g3 k) → (∀ j, j < z_ps (z_Z I W L T w q) q l → g6 25 j = g3 25 j) → (∀ j, z_ps (z_Z I W L T w q) q l ≤ j → j < i → g6 25 j = nI l) → B407 g6 (nI (z_ps (z_Z I W L T w q) q l)) (nI (z_lp q l)) (nI (z_Z I W L T w q (z_ps (z_Z I W L T w q) q l) (z_lp q l)).2.2) (nI i) := by
          intro m
          induction m with
          | zero =>
            intro i hi hpi g6 v1 v2 v3
            have ei : i = z_ps (z_Z I W L T w q) q (l + 1) := by omega
            refine b407 _ _ _ _ _ ?_
            rw [nI_add, ← ep, ← ei]
            refine pk_le i i (fun _ => nm_e (nm_e ?_)) (fun z => absurd z (by omega))
            have fr0 : ∀ j, j ≠ 31 → j ≠ 32 → (sx_u g6 0 31 (g6 0 31 + 1)) 0 j = g 0 j := fun j h1 h2 => by rw [sx_u_s, pk_un h1, v1 0 (by decide)]; exact f2 j h1 h2
            have g31 : (sx_u g6 0 31 (g6 0 31 + 1)) 0 31 = nI (l + 1) := by rw [sx_u_s, pk_us, v1 0 (by decide), f3, nI_1]
            have g32 : (sx_u g6 0 31 (g6 0 31 + 1)) 0 32 = nI (z_tn (z_Z I W L T w q) T q l) := by rw [sx_u_s, pk_un (by decide), v1 0 (by decide)]; exact f4
            have gk : ∀ k, k ≠ 0 → (sx_u g6 0 31 (g6 0 31 + 1)) k = g6 k := fun k hk => sx_u_n hk
            generalize sx_u g6 0 31 (g6 0 31 + 1) = g7 at fr0 g31 g32 gk ⊢
            rw [fr0 7 (by decide) (by decide), B.2.2.2, fr0 20 (by decide) (by decide), B.1, g32, show nI q - 1 = nI (q - 1) from pk_sub (a := q) (b := 1) (by omega)]
            have etn : z_tn (z_Z I W L T w q) T q (l + 1) = z_tn (z_Z I W L T w q) T q l + (if z_lp q l + 1 < q then 0 else T (z_ps (z_Z I W L T w q) q (l + 1))) := rfl
            have fin : ∀ s2 : Int32, nI (z_tn (z_Z I W L T w q) T q l) + s2 = nI (z_tn (z_Z I W L T w q) T q (l + 1)) → B488 g7 (nI i) (nI (z_tn (z_Z I W L T w q) T q l)) s2 := by
              intro s2 hs2
              refine b488 _ _ _ _ (nm_e ?_)
              rw [hs2, ei]
              refine ih lN _ (fun k h1 h2 => by rw [sx_u_n h1, gk k h1, v1 k h2]; exact f1 k h1 h2) (fun j h1 h2 => by rw [sx_u_s, pk_un h2]; exact fr0 j h1 h2) (by rw [sx_u_s, pk_un (by decide)]; exact g31) (by rw [sx_u_s, pk_us]) (fun i2 j h1 h2 h3 => ?_)
              rw [sx_u_n (by decide), gk 25 (by decide)]
              by_cases e : i2 = l
              · rw [e] at h2 h3 ⊢
                exact v3 j h2 (by omega)
              · have mono : ∀ a b, a ≤ b → z_ps (z_Z I W L T w q) q a ≤ z_ps (z_Z I W L T w q) q b := by
                  intro a b hab
                  induction b with
                  | zero => rw [show a = 0 by omega]; exact Nat.le_refl _
                  | succ b ihb =>
                    by_cases e3 : a = b + 1
                    · rw [e3]; exact Nat.le_refl _
                    · exact Nat.le_trans (ihb (by omega)) (Nat.le_add_right _ _)
                have := mono (i2 + 1) l (by omega)
                rw [v2 j (by omega)]
                exact f5 i2 j (by omega) h2 h3
            refine pk_eq (z_lp q l) (q - 1) (fun y1 => ?_) (fun y1 => b487 _ _ _ (fin _ ?_))
            · rw [if_neg (by omega), ← ei] at etn
              refine pk_le I i (fun y2 => b487 _ _ _ (fin _ ?_)) (fun y2 => ?_)
              · rw [show i = I by omega, hTI] at etn
                rw [etn, Int32.add_zero, Nat.add_zero]
              · rw [show nI i - 1 = nI (i - 1) from pk_sub (a := i) (b := 1) (by omega), nI_clamp (by omega)]
                exact ⟨vp_in_nI (by omega) (by omega), ht g7 _ i (fun k h1 h2 h3 h4 h5 => by rw [gk k h1, v1 k h5, f1 k h1 h5]; exact c1 k h2 h3 h4) fr0 (by omega) (by omega) (fin _ (by rw [etn, nI_add]))⟩
            · rw [if_pos (by omega)] at etn
              rw [etn, Int32.add_zero, Nat.add_zero]
          | succ m ihm =>
            intro i hi hpi g6 v1 v2 v3
            refine b407 _ _ _ _ _ ?_
            rw [nI_add, ← ep]
            refine pk_le (z_ps (z_Z I W L T w q) q (l + 1)) i (fun z => absurd z (by omega)) (fun _ => ⟨vp_in_nI (by omega) (by omega), nm_e (nm_e ?_)⟩)
            rw [nI_1, nI_clamp (by omega), v1 0 (by decide), f3]
            refine ihm (i + 1) (by omega) (by omega) _ (fun k hk => by rw [sx_u_n hk]; exact v1 k hk) (fun j hj => by rw [sx_u_s, pk_un (by omega)]; exact v2 j hj) (fun j h1 h2 => ?_)
            rw [sx_u_s]
            by_cases e : j = i
            · rw [e, pk_us]
            · rw [pk_un e]; exact v3 j h1 (by omega)
        exact inner (z_ps (z_Z I W L T w q) q (l + 1) - z_ps (z_Z I W L T w q) q l) (z_ps (z_Z I W L T w q) q l) (by omega) (Nat.le_refl _) g3 (fun _ _ => rfl) (fun _ _ => rfl) (fun j h1 h2 => absurd h2 (by omega))
    exact loop _ (fun k h1 h2 => by rw [sx_u_n h1, sx_u_n h1]) (fun j h1 h2 => by rw [sx_u_s, pk_un h2, sx_u_s, pk_un h1, c0]) (by rw [sx_u_s, pk_un (by decide), sx_u_s, pk_us]; rfl) (by rw [sx_u_s, pk_us]; rfl) (fun i j hi => absurd hi (by omega))
  have rows : ∀ a g2, a ≤ I → (∀ k, k ≠ 22 → k ≠ 23 → k ≠ 24 → g2 k = g k) → z_Rm g2 I W L T w q a → ∀ v, ((a = 0 ∧ v = -1) ∨ (0 < a ∧ v = nI (a - 1))) → B53 g2 v := by
    intro a
    induction a with
    | zero =>
      intro g2 _ c1 c3 v hv
      rcases hv with ⟨-, hv⟩ | ⟨hv, -⟩
      · rw [hv]; exact lines g2 c1 c3
      · omega
    | succ a ih =>
      intro g2 ha c1 c3 v hv
      rcases hv with ⟨hv, -⟩ | ⟨-, hv⟩
      · omega
      rw [hv, show a + 1 - 1 = a by omega]
      refine b53 _ _ ⟨fun y => absurd y (nI_pos (by omega)), fun _ => ?_⟩
      have loop : ∀ g3 : sx_F, (∀ k, k ≠ 22 → k ≠ 23 → k ≠ 24 → g3 k = g k) → z_Rm g3 I W L T w q (a + 1) → (∀ l, l < 0 → g3 22 (6 * a + l) = nI (z_Z I W L T w q a l).1 ∧ g3 23 (6 * a + l) = nI (z_Z I W L T w q a l).2.1 ∧ g3 24 (6 * a + l) = nI (z_Z I W L T w q a l).2.2) → B59 g3 (nI a) (nI 0) := by
        refine z_up (B := fun l0 => ∀ g3 : sx_F, (∀ k, k ≠ 22 → k ≠ 23 → k ≠ 24 → g3 k = g k) → z_Rm g3 I W L T w q (a + 1) → (∀ l, l < l0 → g3 22 (6 * a + l) = nI (z_Z I W L T w q a l).1 ∧ g3 23 (6 * a + l) = nI (z_Z I W L T w q a l).2.1 ∧ g3 24 (6 * a + l) = nI (z_Z I W L T w q a l).2.2) → B59 g3 (nI a) (nI l0)) q (fun l hl ihl => ?_)
        intro g3 d1 d3 d4
        refine b59 _ _ _ ?_
        rw [d1 0 (by decide) (by decide) (by decide), B.2.2.2]
        refine pk_le q l (fun y => nm_e ?_) (fun y => nm_e ?_)
        · refine ih g3 (by omega) d1 (fun e x he he2 hx => ?_) _ ?_
          · by_cases ee : e = a
            · rw [ee]
              obtain ⟨v1, v2, v3⟩ := d4 x (by omega)
              exact ⟨v1, v2, fun _ => v3⟩
            · exact d3 e x (by omega) he2 hx
          · by_cases e0 : a = 0
            · exact Or.inl ⟨e0, by rw [e0]; decide⟩
            · refine Or.inr ⟨by omega, ?_⟩
              rw [show a = (a - 1) + 1 by omega, pk_m1]; rfl
        · rw [show (6 : Int32) * nI a + nI l = nI (6 * a + l) by rw [z_l6, pk_mul, nI_add], nI_clamp (n := 6 * a + l) (by omega)]
          refine ⟨vp_in_nI (by omega) (by omega), nm_e ?_⟩
          have hnl : z_nl q l < q := by unfold z_nl; split <;> omega
          generalize hc : (fun k => z_lc I W T w q a l k + (z_Z I W L T w q (a + k) (z_nl q l)).1) = c
          generalize hnn : (fun k => 1 + (z_Z I W L T w q (a + k) (z_nl q l)).2.1) = n
          have hZ : z_Z I W L T w q a l = z_sc c n (z_ok L w a) (I - a) := by rw [← hc, ← hnn]; exact z_Z_eq (by omega)
          have hcv : ∀ k, c k = z_lc I W T w q a l k + (z_Z I W L T w q (a + k) (z_nl q l)).1 := fun k => by rw [← hc]
          have hnv : ∀ k, n k = 1 + (z_Z I W L T w q (a + k) (z_nl q l)).2.1 := fun k => by rw [← hnn]
          have hcb : ∀ k, 1 ≤ k → a + k ≤ I → c k ≤ 500000000 ∧ n k ≤ 13 := fun k h1 h2 => by
            have b1 := z_lc_le (a := a) (l := l) (k := k) (q := q) hw hI hW hT h2
            obtain ⟨b2, b3, -⟩ := z_Z_le (L := L) (q := q) hw hI hW hT (I - (a + k)) (a + k) (z_nl q l) (by omega)
            rw [hcv, hnv]
            omega
          have inner : ∀ g4 : sx_F, (∀ k, k ≠ 22 → k ≠ 23 → k ≠ 24 → g4 k = g k) → (∀ i, i ≠ 6 * a + l → g4 22 i = g3 22 i ∧ g4 23 i = g3 23 i ∧ g4 24 i = g3 24 i) → (g4 24 (6 * a + l) = nI (z_sc c n (z_ok L w a) 0).2.2 ∧ (1 ≤ 0 → g4 22 (6 * a + l) = nI (z_sc c n (z_ok L w a) 0).1 ∧ g4 23 (6 * a + l) = nI (z_sc c n (z_ok L w a) 0).2.1)) → B92 g4 (nI a) (nI l) (nI (6 * a + l)) (nI (z_wid W a (a + 0))) (nI (z_wid L a (a + 0))) (nI (0 + 1)) := by
            refine z_up (B := fun k => ∀ g4 : sx_F, (∀ k, k ≠ 22 → k ≠ 23 → k ≠ 24 → g4 k = g k) → (∀ i, i ≠ 6 * a + l → g4 22 i = g3 22 i ∧ g4 23 i = g3 23 i ∧ g4 24 i = g3 24 i) → (g4 24 (6 * a + l) = nI (z_sc c n (z_ok L w a) k).2.2 ∧ (1 ≤ k → g4 22 (6 * a + l) = nI (z_sc c n (z_ok L w a) k).1 ∧ g4 23 (6 * a + l) = nI (z_sc c n (z_ok L w a) k).2.1)) → B92 g4 (nI a) (nI l) (nI (6 * a + l)) (nI (z_wid W a (a + k))) (nI (z_wid L a (a + k))) (nI (k + 1))) (I - a) (fun k hk ihk => ?_)
            intro g4 u1 u2 u3
            have u0 : g4 0 = g 0 := u1 0 (by decide) (by decide) (by decide)
            refine b92 _ _ _ _ _ _ _ ?_
            rw [u0, B.1, nI_add]
            refine pk_lt I (a + (k + 1)) (fun z => nm_e ?_) (fun z => ?_)
            · have ek : k = I - a := by omega
              rw [ek, ← hZ] at u3
              obtain ⟨u4, u5⟩ := u3
              obtain ⟨u6, u7⟩ := u5 (by omega)
              rw [nI_1]
              refine ihl y g4 u1 (fun e x he he2 hx => ?_) (fun x hx => ?_)
              · obtain ⟨r1, r2, r3⟩ := u2 (6 * e + x) (by omega)
                rw [r1, r2, r3]
                exact d3 e x he he2 hx
              · by_cases ex : x = l
                · rw [ex]; exact ⟨u6, u7, u4⟩
                · obtain ⟨r1, r2, r3⟩ := u2 (6 * a + x) (by omega)
                  rw [r1, r2, r3]
                  exact d4 x (by omega)
            have e1 : nI (a + (k + 1)) - 1 = nI (a + k) := pk_sub (a := a + (k + 1)) (b := 1) (by omega)
            obtain ⟨m1, m2⟩ := B.2.1 (a + k) (by omega)
            rw [e1, nI_clamp (n := a + k) (by omega), u1 20 (by decide) (by decide) (by decide), m1, nI_add, u1 21 (by decide) (by decide) (by decide), m2, nI_add, ← z_wid_s (W := W) (show a ≤ a + k by omega), ← z_wid_s (W := L) (show a ≤ a + k by omega)]
            have hwW := z_wid_le (a := a) hW (a + (k + 1)) (by omega) z
            have hwL := z_wid_le (a := a) hL (a + (k + 1)) (by omega) z
            have hwW' : z_wid W a (a + (k + 1)) ≤ 9312 := by
              rw [show a + (k + 1) - a = k + 1 by omega] at hwW; omega
            have hwL' : z_wid L a (a + (k + 1)) ≤ 9312 := by
              rw [show a + (k + 1) - a = k + 1 by omega] at hwL; omega
            rw [show a + k + 1 = a + (k + 1) by omega]
            obtain ⟨cb, nb⟩ := hcb (k + 1) (by omega) z
            have es : z_sc c n (z_ok L w a) (k + 1) = if z_ok L w a (k + 1) = true ∧ ((z_sc c n (z_ok L w a) k).2.2 = 0 ∨ c (k + 1) < (z_sc c n (z_ok L w a) k).1 ∨ (c (k + 1) = (z_sc c n (z_ok L w a) k).1 ∧ n (k + 1) < (z_sc c n (z_ok L w a) k).2.1)) then (c (k + 1), n (k + 1), k + 1) else z_sc c n (z_ok L w a) k := rfl
            have nx1 : 6 * (a + (k + 1)) + z_nl q l ≠ 6 * a + l := by omega
            obtain ⟨q1, q2, q3⟩ := u2 (6 * (a + (k + 1)) + z_nl q l) nx1
            obtain ⟨r1, r2, -⟩ := d3 (a + (k + 1)) (z_nl q l) (by omega) z hnl
            rw [r1] at q1
            rw [r2] at q2
            have next : ∀ g5 : sx_F, (∀ k, k ≠ 22 → k ≠ 23 → k ≠ 24 → g5 k = g k) → (∀ i, i ≠ 6 * a + l → g5 22 i = g3 22 i ∧ g5 23 i = g3 23 i ∧ g5 24 i = g3 24 i) → (g5 24 (6 * a + l) = nI (z_sc c n (z_ok L w a) (k + 1)).2.2 ∧ (1 ≤ k + 1 → g5 22 (6 * a + l) = nI (z_sc c n (z_ok L w a) (k + 1)).1 ∧ g5 23 (6 * a + l) = nI (z_sc c n (z_ok L w a) (k + 1)).2.1)) → B343 g5 (nI a) (nI l) (nI (6 * a + l)) (nI (z_wid W a (a + (k + 1)))) (nI (z_wid L a (a + (k + 1)))) (nI (k + 1)) := fun g5 v1 v2 v3 => b343 _ _ _ _ _ _ _ (nm_e (by rw [nI_1]; exact ihk (by omega) g5 v1 v2 v3))
            have same : 1 ≤ k → z_sc c n (z_ok L w a) (k + 1) = z_sc c n (z_ok L w a) k → B343 g4 (nI a) (nI l) (nI (6 * a + l)) (nI (z_wid W a (a + (k + 1)))) (nI (z_wid L a (a + (k + 1)))) (nI (k + 1)) := fun k1 e => next g4 u1 u2 (by rw [e]; exact ⟨u3.1, fun _ => u3.2 k1⟩)
            have T304 : ∀ bb : Bool, z_ok L w a (k + 1) = true → (bb = true ↔ ((z_sc c n (z_ok L w a) k).2.2 = 0 ∨ c (k + 1) < (z_sc c n (z_ok L w a) k).1 ∨ (c (k + 1) = (z_sc c n (z_ok L w a) k).1 ∧ n (k + 1) < (z_sc c n (z_ok L w a) k).2.1))) → B304 g4 (nI a) (nI l) (nI (6 * a + l)) (nI (z_wid W a (a + (k + 1)))) (nI (z_wid L a (a + (k + 1)))) (nI (k + 1)) (nI (6 * (a + (k + 1)) + z_nl q l)) (nI (c (k + 1))) (z_b bb) := by
              intro bb hok hbb
              refine b304 _ _ _ _ _ _ _ _ _ _ ?_
              cases bb
              · refine ⟨fun _ => ?_, fun y => absurd rfl y⟩
                have nc : ¬ ((z_sc c n (z_ok L w a) k).2.2 = 0 ∨ c (k + 1) < (z_sc c n (z_ok L w a) k).1 ∨ (c (k + 1) = (z_sc c n (z_ok L w a) k).1 ∧ n (k + 1) < (z_sc c n (z_ok L w a) k).2.1)) := fun y => absurd (hbb.mpr y) (by decide)
                rw [if_neg (fun y => nc y.2)] at es
                exact same (Nat.pos_of_ne_zero (fun y => nc (Or.inl (by rw [y]; rfl)))) es
              · refine ⟨fun y => absurd y (by decide), fun _ => ?_⟩
                rw [if_pos ⟨hok, hbb.mp rfl⟩] at es
                rw [nI_clamp (n := 6 * a + l) (by omega), nI_clamp (n := 6 * (a + (k + 1)) + z_nl q l) (by omega)]
                refine ⟨vp_in_nI (by omega) (by omega), nm_e ⟨vp_in_nI (by omega) (by omega), nm_e ⟨vp_in_nI (by omega) (by omega), vp_in_nI (by omega) (by omega), nm_e ?_⟩⟩⟩
                have e23 : (sx_u (sx_u g4 24 (6 * a + l) (nI (k + 1))) 22 (6 * a + l) (nI (c (k + 1)))) 23 (6 * (a + (k + 1)) + z_nl q l) + 1 = nI (n (k + 1)) := by
                  rw [sx_u_n (by decide), sx_u_n (by decide), q2, nI_1, hnv, Nat.add_comm]
                rw [e23]
                refine next _ (fun i h1 h2 h3 => by rw [sx_u_n h2, sx_u_n h1, sx_u_n h3]; exact u1 i h1 h2 h3) (fun i hi => ?_) ?_
                · obtain ⟨t1, t2, t3⟩ := u2 i hi
                  refine ⟨?_, ?_, ?_⟩
                  · rw [sx_u_n (by decide), sx_u_s, pk_un hi, sx_u_n (by decide)]; exact t1
                  · rw [sx_u_s, pk_un hi, sx_u_n (by decide), sx_u_n (by decide)]; exact t2
                  · rw [sx_u_n (by decide), sx_u_n (by decide), sx_u_s, pk_un hi]; exact t3
                · rw [es]
                  refine ⟨?_, fun _ => ⟨?_, ?_⟩⟩
                  · rw [sx_u_n (by decide), sx_u_n (by decide), sx_u_s, pk_us]
                  · rw [sx_u_n (by decide), sx_u_s, pk_us]
                  · rw [sx_u_s, pk_us]
            have T287 : ∀ bb : Bool, (bb = true ↔ ((z_sc c n (z_ok L w a) k).2.2 = 0 ∨ c (k + 1) < (z_sc c n (z_ok L w a) k).1 ∨ (c (k + 1) = (z_sc c n (z_ok L w a) k).1 ∧ n (k + 1) < (z_sc c n (z_ok L w a) k).2.1))) → B287 g4 (nI a) (nI l) (nI (6 * a + l)) (nI (z_wid W a (a + (k + 1)))) (nI (z_wid L a (a + (k + 1)))) (nI (k + 1)) (nI (6 * (a + (k + 1)) + z_nl q l)) (nI (c (k + 1))) (z_b bb) := by
              intro bb hbb
              refine b287 _ _ _ _ _ _ _ _ _ _ (pk_eq (k + 1) 1 (fun y => T304 bb (by rw [y]; exact z_ok1) hbb) (fun y => ?_))
              rw [u0, B.2.2.1]
              refine pk_lt w (z_wid L a (a + (k + 1))) (fun y1 => ?_) (fun y1 => T304 bb (decide_eq_true (Or.inr y1)) hbb)
              have nok : z_ok L w a (k + 1) = false := decide_eq_false (fun y2 => y2.elim y (fun y2 => by omega))
              rw [if_neg (fun y2 => by rw [nok] at y2; exact absurd y2.1 (by decide))] at es
              exact same (by omega) es
            have T226 : ∀ s0 s1 : Int32, s0 + s1 = nI (c (k + 1)) → B226 g4 (nI a) (nI l) (nI (6 * a + l)) (nI (z_wid W a (a + (k + 1)))) (nI (z_wid L a (a + (k + 1)))) (nI (k + 1)) (nI (6 * (a + (k + 1)) + z_nl q l)) s0 s1 := by
              intro s0 s1 hs
              refine b226 _ _ _ _ _ _ _ _ _ _ (nm_e ?_)
              rw [hs, nI_clamp (n := 6 * a + l) (by omega), nI_clamp (n := 6 * (a + (k + 1)) + z_nl q l) (by omega), u3.1, q2, nI_1]
              have yes : ((z_sc c n (z_ok L w a) k).2.2 = 0 ∨ c (k + 1) < (z_sc c n (z_ok L w a) k).1 ∨ (c (k + 1) = (z_sc c n (z_ok L w a) k).1 ∧ n (k + 1) < (z_sc c n (z_ok L w a) k).2.1)) → B282 g4 (nI a) (nI l) (nI (6 * a + l)) (nI (z_wid W a (a + (k + 1)))) (nI (z_wid L a (a + (k + 1)))) (nI (k + 1)) (nI (6 * (a + (k + 1)) + z_nl q l)) (nI (c (k + 1))) := fun y => b282 _ _ _ _ _ _ _ _ _ (T287 true ⟨fun _ => y, fun _ => rfl⟩)
              have no : ¬ ((z_sc c n (z_ok L w a) k).2.2 = 0 ∨ c (k + 1) < (z_sc c n (z_ok L w a) k).1 ∨ (c (k + 1) = (z_sc c n (z_ok L w a) k).1 ∧ n (k + 1) < (z_sc c n (z_ok L w a) k).2.1)) → B286 g4 (nI a) (nI l) (nI (6 * a + l)) (nI (z_wid W a (a + (k + 1)))) (nI (z_wid L a (a + (k + 1)))) (nI (k + 1)) (nI (6 * (a + (k + 1)) + z_nl q l)) (nI (c (k + 1))) := fun y => b286 _ _ _ _ _ _ _ _ _ (T287 false ⟨fun z => absurd z (by decide), fun z => absurd z y⟩)
              by_cases k0 : k = 0
              · have z0 : (z_sc c n (z_ok L w a) k).2.2 = 0 := by rw [k0]; rfl
                rw [z0]
                exact ⟨vp_in_nI (by omega) (by omega), fun _ => yes (Or.inl z0), fun y => absurd rfl y⟩
              · obtain ⟨p1, p2, p3, p4, p5, p6⟩ := z_sc_way (c := c) (n := n) (ok := z_ok L w a) z_ok1 k (by omega)
                obtain ⟨cb2, nb2⟩ := hcb _ p1 (show a + (z_sc c n (z_ok L w a) k).2.2 ≤ I by omega)
                rw [← p4] at cb2
                rw [← p5] at nb2
                obtain ⟨v1, v2⟩ := u3.2 (by omega)
                rw [v1, v2]
                have hn1 := hnv (k + 1)
                refine ⟨vp_in_nI (by omega) (by omega), pk_eq (z_sc c n (z_ok L w a) k).2.2 0 (fun y => yes (Or.inl y)) (fun y => ⟨vp_in_nI (by omega) (by omega), pk_lt (c (k + 1)) (z_sc c n (z_ok L w a) k).1 (fun y1 => yes (Or.inr (Or.inl y1))) (fun y1 => ⟨vp_in_nI (by omega) (by omega), pk_eq (c (k + 1)) (z_sc c n (z_ok L w a) k).1 (fun y2 => ⟨vp_in_nI (by omega) (by omega), vp_in_nI (by omega) (by omega), pk_le (z_sc c n (z_ok L w a) k).2.1 ((z_Z I W L T w q (a + (k + 1)) (z_nl q l)).2.1 + 1) (fun y3 => no (fun y4 => by omega)) (fun y3 => yes (Or.inr (Or.inr ⟨y2, by omega⟩)))⟩) (fun y2 => no (fun y4 => by omega))⟩)⟩)⟩
            have T151 : ∀ bb : Bool, bb = decide (a + (k + 1) = I) → B151 g4 (nI a) (nI l) (nI (6 * a + l)) (nI (z_wid W a (a + (k + 1)))) (nI (z_wid L a (a + (k + 1)))) (nI (k + 1)) (z_b bb) := by
              intro bb hbb
              refine b151 _ _ _ _ _ _ _ _ ?_
              rw [u0, B.2.2.2, nI_add, nI_1, pk_rem (a := l + 1) (d := q) (by omega) (by omega) (by omega), z_nl_mod y, z_l6, pk_mul, nI_add, e1]
              refine ⟨nI_ne0 (by omega) (by omega), nm_e (m_badness (by rw [u0]; exact B.2.2.1) hw (by omega) ⟨vp_in_nI (by omega) (by omega), nm_e ?_⟩)⟩
              rw [nI_clamp (n := 6 * (a + (k + 1)) + z_nl q l) (by omega), q1, nI_add, show nI q - 1 = nI (q - 1) from pk_sub (a := q) (b := 1) (by omega), hbb]
              have ec : c (k + 1) = z_bad w (z_wid W a (a + (k + 1))) (decide (a + (k + 1) = I)) + (if l + 1 < q then 0 else T (a + (k + 1))) + (z_Z I W L T w q (a + (k + 1)) (z_nl q l)).1 := hcv (k + 1)
              generalize z_bad w (z_wid W a (a + (k + 1))) (decide (a + (k + 1) = I)) = bd at ec ⊢
              refine pk_eq l (q - 1) (fun y1 => ?_) (fun y1 => ?_)
              · rw [if_neg (by omega)] at ec
                by_cases eI : a + (k + 1) = I
                · rw [decide_eq_true eI]
                  refine ⟨fun y2 => absurd y2 (by decide), fun _ => b225 _ _ _ _ _ _ _ _ _ (T226 _ _ ?_)⟩
                  rw [eI, hTI] at ec
                  rw [Int32.add_zero, eI, ec, Nat.add_zero]
                · rw [decide_eq_false eI]
                  refine ⟨fun _ => ⟨vp_in_nI (by omega) (by omega), ?_⟩, fun y2 => absurd rfl y2⟩
                  rw [nI_clamp (n := a + k) (by omega)]
                  have t := ht g4 (fun r24 => B226 g4 (nI a) (nI l) (nI (6 * a + l)) (nI (z_wid W a (a + (k + 1)))) (nI (z_wid L a (a + (k + 1)))) (nI (k + 1)) (nI (6 * (a + (k + 1)) + z_nl q l)) (nI (bd + (z_Z I W L T w q (a + (k + 1)) (z_nl q l)).1)) r24) (a + (k + 1)) (fun i _ h2 h3 h4 _ => u1 i h2 h3 h4) (fun j _ _ => by rw [u0]) (by omega) (by omega) (T226 _ _ (by rw [nI_add, ec]; exact congrArg nI (by omega)))
                  rw [show a + (k + 1) - 1 = a + k by omega] at t
                  exact t
              · rw [if_pos (by omega)] at ec
                refine b225 _ _ _ _ _ _ _ _ _ (T226 _ _ ?_)
                rw [Int32.add_zero, ec]
                exact congrArg nI (by omega)
            refine ⟨vp_in_nI (by omega) (by omega), nm_e ⟨vp_in_nI (by omega) (by omega), nm_e ?_⟩⟩
            exact pk_eq (a + (k + 1)) I (fun y1 => T151 true (by rw [decide_eq_true y1])) (fun y1 => T151 false (by rw [decide_eq_false y1]))
          rw [show z_wid W a (a + 0) = 0 by unfold z_wid; simp, show z_wid L a (a + 0) = 0 by unfold z_wid; simp] at inner
          exact inner (sx_u g3 24 (6 * a + l) 0) (fun k h1 h2 h3 => by rw [sx_u_n h3]; exact d1 k h1 h2 h3) (fun i hi => ⟨by rw [sx_u_n (by decide)], by rw [sx_u_n (by decide)], by rw [sx_u_s, pk_un hi]⟩) ⟨by rw [sx_u_s, pk_us]; rfl, fun z => absurd z (by omega)⟩
      exact loop g2 c1 c3 (fun l hl => absurd hl (by omega))
  have start : ∀ g2 : sx_F, (∀ k, k ≠ 22 → k ≠ 23 → k ≠ 24 → g2 k = g k) → (∀ l, l < 0 → g2 22 (6 * I + l) = 0 ∧ g2 23 (6 * I + l) = 0) → B2 g2 (nI 0) := by
    refine z_up (B := fun l0 => ∀ g2 : sx_F, (∀ k, k ≠ 22 → k ≠ 23 → k ≠ 24 → g2 k = g k) → (∀ l, l < l0 → g2 22 (6 * I + l) = 0 ∧ g2 23 (6 * I + l) = 0) → B2 g2 (nI l0)) q (fun l0 hl0 ihl => ?_)
    intro g2 c1 c3
    refine b2 _ _ ?_
    rw [c1 0 (by decide) (by decide) (by decide), B.2.2.2, B.1]
    refine pk_le q l0 (fun y => nm_e ?_) (fun y => ?_)
    · refine rows I g2 (Nat.le_refl _) c1 (fun e l he he2 hl => ?_) _ ?_
      · have ee : e = I := by omega
        rw [ee, z_Z_end]
        obtain ⟨v1, v2⟩ := c3 l (by omega)
        exact ⟨v1, v2, fun z => by omega⟩
      · by_cases e0 : I = 0
        · exact Or.inl ⟨e0, by rw [e0]; decide⟩
        · exact Or.inr ⟨by omega, pk_sub (a := I) (b := 1) (by omega)⟩
    · rw [show (6 : Int32) * nI I + nI l0 = nI (6 * I + l0) by rw [z_l6, pk_mul, nI_add], nI_clamp (n := 6 * I + l0) (by omega)]
      refine ⟨vp_in_nI (by omega) (by omega), nm_e ?_⟩
      rw [sx_u_n (by decide : (0 : Nat) ≠ 22), c1 0 (by decide) (by decide) (by decide), B.1, show (6 : Int32) * nI I + nI l0 = nI (6 * I + l0) by rw [z_l6, pk_mul, nI_add], nI_clamp (n := 6 * I + l0) (by omega)]
      refine ⟨vp_in_nI (by omega) (by omega), nm_e (nm_e ?_)⟩
      rw [nI_1]
      refine ihl y _ (fun k h1 h2 h3 => by rw [sx_u_n h2, sx_u_n h1]; exact c1 k h1 h2 h3) (fun l hl => ?_)
      simp (disch := omega) only [sx_u_n, sx_u_s]
      by_cases el : l = l0
      · rw [el, pk_us, pk_us]; exact ⟨rfl, rfl⟩
      · rw [pk_un (by omega), pk_un (by omega)]; exact c3 l (by omega)
  exact start g (fun _ _ _ _ => rfl) (fun l hl => absurd hl (by omega))
