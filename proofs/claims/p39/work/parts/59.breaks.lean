/-- what the reference needs of a book to break it -/
def z_Bm (g : sx_F) (I : Nat) (W L : Nat → Nat) (w q : Nat) : Prop := g 0 20 = nI I ∧ (∀ j, j < I → g 20 j = nI (8 + W j) ∧ g 21 j = nI (8 + L j)) ∧ g 0 6 = nI w ∧ g 0 7 = nI q
def z_Rm (g : sx_F) (I : Nat) (W L T : Nat → Nat) (w q a : Nat) : Prop := ∀ e l, a ≤ e → e ≤ I → l < q → g 22 (6 * e + l) = nI (z_Z I W L T w q e l).1 ∧ g 23 (6 * e + l) = nI (z_Z I W L T w q e l).2.1 ∧ (e < I → g 24 (6 * e + l) = nI (z_Z I W L T w q e l).2.2)
theorem z_wid_s {W : Nat → Nat} {a e : Nat} (h : a ≤ e) : z_wid W a (e + 1) = z_wid W a e + (8 + W e) := by
  unfold z_wid
  have m := z_sm_mono (w := W) h
  rw [show z_sm W (e + 1) = z_sm W e + W e from rfl]
  omega
theorem z_nl_mod {q l : Nat} (hl : l < q) : (l + 1) % q = z_nl q l := by
  unfold z_nl
  by_cases c : l + 1 < q
  · rw [if_pos c, Nat.mod_eq_of_lt c]
  · rw [if_neg c, show l + 1 = q by omega, Nat.mod_self]
theorem m_breaks {g : sx_F} {I bk : Nat} {W L T : Nat → Nat} {w q : Nat} {Q : sx_F → Prop} (B : z_Bm g I W L w q) (hI : I ≤ 12) (hw : w ≤ 500) (hq1 : 1 ≤ q) (hq : q ≤ 6) (hW : ∀ j, j < I → W j ≤ 768) (hL : ∀ j, j < I → L j ≤ 288) (hT : ∀ j, T j ≤ 1600) (hTI : T I = 0)
    (ht : ∀ (g' : sx_F) (QQ : Int32 → Prop) (e : Nat), (∀ k, k ≠ 0 → k ≠ 22 → k ≠ 23 → k ≠ 24 → k ≠ 25 → g' k = g k) → (∀ j, j ≠ 31 → j ≠ 32 → g' 0 j = g 0 j) → 0 < e → e < I → QQ (nI (T e)) → P_X7_turnCost g' (nI bk) (g' 14 (e - 1)) QQ)
    (h : ∀ g' : sx_F, (∀ k, k ≠ 0 → k ≠ 22 → k ≠ 23 → k ≠ 24 → k ≠ 25 → g' k = g k) → (∀ j, j ≠ 31 → j ≠ 32 → g' 0 j = g 0 j) → z_Rm g' I W L T w q 0 → g' 0 31 = nI (z_Z I W L T w q 0 0).2.1 → g' 0 32 = nI (z_tn (z_Z I W L T w q) T q (z_Z I W L T w q 0 0).2.1) → (∀ l j, l < (z_Z I W L T w q 0 0).2.1 → z_ps (z_Z I W L T w q) q l ≤ j → j < z_ps (z_Z I W L T w q) q (l + 1) → g' 25 j = nI l) → Q g') : P_X7_breaks g (nI bk) Q := by
  intro B2 B53 B59 B92 B151 B225 B226 B282 B286 B287 B304 B343 B373 B407 B487 B488 b2 b53 b59 b92 b151 b225 b226 b282 b286 b287 b304 b343 b373 b407 b487 b488
  -- the lines, once the rows stand
  have lines : ∀ g2 : sx_F, (∀ k, k ≠ 22 → k ≠ 23 → k ≠ 24 → g2 k = g k) → z_Rm g2 I W L T w q 0 → B53 g2 (-1) := by
    sorry
  have rows : ∀ a g2, a ≤ I → (∀ k, k ≠ 22 → k ≠ 23 → k ≠ 24 → g2 k = g k) → z_Rm g2 I W L T w q a → ∀ v, ((a = 0 ∧ v = -1) ∨ (0 < a ∧ v = nI (a - 1))) → B53 g2 v := by
    intro a
    induction a with
    | zero =>
      intro g2 _ c1 c3 v hv
      rcases hv with ⟨-, hv⟩ | ⟨hv, -⟩
      · rw [hv]; exact lines g2 c1 c3
      · omega
    | succ a ih =>
      intro g2 ha c1 c3 v hv
      rcases hv with ⟨hv, -⟩ | ⟨-, hv⟩
      · omega
      rw [hv, show a + 1 - 1 = a by omega]
      refine b53 _ _ ⟨fun y => absurd y (nI_pos (by omega)), fun _ => ?_⟩
      have loop : ∀ g3 : sx_F, (∀ k, k ≠ 22 → k ≠ 23 → k ≠ 24 → g3 k = g k) → z_Rm g3 I W L T w q (a + 1) → (∀ l, l < 0 → g3 22 (6 * a + l) = nI (z_Z I W L T w q a l).1 ∧ g3 23 (6 * a + l) = nI (z_Z I W L T w q a l).2.1 ∧ g3 24 (6 * a + l) = nI (z_Z I W L T w q a l).2.2) → B59 g3 (nI a) (nI 0) := by
        refine z_up (B := fun l0 => ∀ g3 : sx_F, (∀ k, k ≠ 22 → k ≠ 23 → k ≠ 24 → g3 k = g k) → z_Rm g3 I W L T w q (a + 1) → (∀ l, l < l0 → g3 22 (6 * a + l) = nI (z_Z I W L T w q a l).1 ∧ g3 23 (6 * a + l) = nI (z_Z I W L T w q a l).2.1 ∧ g3 24 (6 * a + l) = nI (z_Z I W L T w q a l).2.2) → B59 g3 (nI a) (nI l0)) q (fun l hl ihl => ?_)
        intro g3 d1 d3 d4
        refine b59 _ _ _ ?_
        rw [d1 0 (by decide) (by decide) (by decide), B.2.2.2]
        refine pk_le q l (fun y => nm_e ?_) (fun y => nm_e ?_)
        · refine ih g3 (by omega) d1 (fun e x he he2 hx => ?_) _ ?_
          · by_cases ee : e = a
            · rw [ee]
              obtain ⟨v1, v2, v3⟩ := d4 x (by omega)
              exact ⟨v1, v2, fun _ => v3⟩
            · exact d3 e x (by omega) he2 hx
          · by_cases e0 : a = 0
            · exact Or.inl ⟨e0, by rw [e0]; decide⟩
            · refine Or.inr ⟨by omega, ?_⟩
              rw [show a = (a - 1) + 1 by omega, pk_m1]; rfl
        · sorry
      exact loop g2 c1 c3 (fun l hl => absurd hl (by omega))
  have start : ∀ g2 : sx_F, (∀ k, k ≠ 22 → k ≠ 23 → k ≠ 24 → g2 k = g k) → (∀ l, l < 0 → g2 22 (6 * I + l) = 0 ∧ g2 23 (6 * I + l) = 0) → B2 g2 (nI 0) := by
    refine z_up (B := fun l0 => ∀ g2 : sx_F, (∀ k, k ≠ 22 → k ≠ 23 → k ≠ 24 → g2 k = g k) → (∀ l, l < l0 → g2 22 (6 * I + l) = 0 ∧ g2 23 (6 * I + l) = 0) → B2 g2 (nI l0)) q (fun l0 hl0 ihl => ?_)
    intro g2 c1 c3
    refine b2 _ _ ?_
    rw [c1 0 (by decide) (by decide) (by decide), B.2.2.2, B.1]
    refine pk_le q l0 (fun y => nm_e ?_) (fun y => ?_)
    · refine rows I g2 (Nat.le_refl _) c1 (fun e l he he2 hl => ?_) _ ?_
      · have ee : e = I := by omega
        rw [ee, z_Z_end]
        obtain ⟨v1, v2⟩ := c3 l (by omega)
        exact ⟨v1, v2, fun z => by omega⟩
      · by_cases e0 : I = 0
        · exact Or.inl ⟨e0, by rw [e0]; decide⟩
        · exact Or.inr ⟨by omega, pk_sub (a := I) (b := 1) (by omega)⟩
    · rw [show (6 : Int32) * nI I + nI l0 = nI (6 * I + l0) by rw [z_l6, pk_mul, nI_add], nI_clamp (n := 6 * I + l0) (by omega)]
      refine ⟨vp_in_nI (by omega) (by omega), nm_e ?_⟩
      rw [sx_u_n (by decide : (0 : Nat) ≠ 22), c1 0 (by decide) (by decide) (by decide), B.1, show (6 : Int32) * nI I + nI l0 = nI (6 * I + l0) by rw [z_l6, pk_mul, nI_add], nI_clamp (n := 6 * I + l0) (by omega)]
      refine ⟨vp_in_nI (by omega) (by omega), nm_e (nm_e ?_)⟩
      rw [nI_1]
      refine ihl y _ (fun k h1 h2 h3 => by rw [sx_u_n h2, sx_u_n h1]; exact c1 k h1 h2 h3) (fun l hl => ?_)
      simp (disch := omega) only [sx_u_n, sx_u_s]
      by_cases el : l = l0
      · rw [el, pk_us, pk_us]; exact ⟨rfl, rfl⟩
      · rw [pk_un (by omega), pk_un (by omega)]; exact c3 l (by omega)
  exact start g (fun _ _ _ _ => rfl) (fun l hl => absurd hl (by omega))
