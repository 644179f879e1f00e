theorem x_leastOfAllWays {f : sx_F} {I : Nat} {W L T : Nat → Nat} {w q : Nat} (B : z_Bk f I W L T w q) (hI : I ≤ 12) (hw : w ≤ 500) (hq : q ≤ 6) (hW : ∀ j, j < I → W j ≤ 768) (hL : ∀ j, j < I → L j ≤ 288) (hT : ∀ j, T j ≤ 1600) : ∀ d fuel a l dep, a + d = I → d < fuel → dep ≤ a → l < q → ∀ Q : Int32 → Prop, Q (nI (z_Z I W L T w q a l).1) → P_X3_leastOfAllWays fuel f (nI a) (nI l) (nI dep) Q := by
  intro d
  induction d using Nat.strongRecOn with
  | ind d ih =>
  intro fuel a l dep h1 h2 h3 hl Q hQ
  obtain ⟨m, rfl⟩ : ∃ m, fuel = m + 1 := ⟨fuel - 1, by omega⟩
  intro B35 B96 b35 b96
  have hnl : z_nl q l < q := by unfold z_nl; split <;> omega
  rw [B.1]
  refine pk_le I a (fun z => ?_) (fun z => pk_lt dep 12 (fun _ => x_nextOnPage B.2.2.2.2 hq (by omega) (nm_e ?_)) (fun z2 => absurd z2 (by omega)))
  · rw [show a = I by omega, z_Z_end] at hQ; exact hQ
  rw [nI_1]
  generalize hc : (fun k => z_lc I W T w q a l k + (z_Z I W L T w q (a + k) (z_nl q l)).1) = c
  generalize hnn : (fun k => 1 + (z_Z I W L T w q (a + k) (z_nl q l)).2.1) = n
  have hZ : z_Z I W L T w q a l = z_sc c n (z_ok L w a) (I - a) := by rw [← hc, ← hnn]; exact z_Z_eq (by omega)
  have hcv : ∀ k, c k = z_lc I W T w q a l k + (z_Z I W L T w q (a + k) (z_nl q l)).1 := fun k => by rw [← hc]
  have hcb : ∀ k, a + k ≤ I → c k ≤ 500000000 := fun k h2 => by
    have b1 := z_lc_le (a := a) (l := l) (k := k) (q := q) hw hI hW hT h2
    obtain ⟨b2, b3, -⟩ := z_Z_le (L := L) (q := q) hw hI hW hT (I - (a + k)) (a + k) (z_nl q l) (by omega)
    rw [hcv]
    omega
  rw [hZ] at hQ
  have loop : ∀ cur : Nat, ((0 = 0 ∧ cur = 1000000000) ∨ (1 ≤ 0 ∧ cur = (z_sc c n (z_ok L w a) 0).1)) → B35 (nI (z_nl q l)) (nI cur) (nI (a + (0 + 1))) := by
    refine z_up (B := fun k => ∀ cur : Nat, ((k = 0 ∧ cur = 1000000000) ∨ (1 ≤ k ∧ cur = (z_sc c n (z_ok L w a) k).1)) → B35 (nI (z_nl q l)) (nI cur) (nI (a + (k + 1)))) (I - a) (fun k hk ihk => ?_)
    intro cur hcur
    refine b35 _ _ _ ?_
    rw [B.1]
    refine pk_lt I (a + (k + 1)) (fun y => ?_) (fun y => x_mayBeLine B hI hw hL (by omega) y ?_)
    · rcases hcur with ⟨k0, -⟩ | ⟨-, e⟩
      · omega
      · rw [e, show k = I - a by omega]; exact hQ
    have es : z_sc c n (z_ok L w a) (k + 1) = if z_ok L w a (k + 1) = true ∧ ((z_sc c n (z_ok L w a) k).2.2 = 0 ∨ c (k + 1) < (z_sc c n (z_ok L w a) k).1 ∨ (c (k + 1) = (z_sc c n (z_ok L w a) k).1 ∧ n (k + 1) < (z_sc c n (z_ok L w a) k).2.1)) then (c (k + 1), n (k + 1), k + 1) else z_sc c n (z_ok L w a) k := rfl
    have go : ∀ cur' : Nat, cur' = (z_sc c n (z_ok L w a) (k + 1)).1 → B96 (nI (z_nl q l)) (nI cur') (nI (a + (k + 1))) := fun cur' e => b96 _ _ _ (nm_e (by
      rw [nI_1, show a + (k + 1) + 1 = a + (k + 1 + 1) by omega]
      exact ihk (by omega) cur' (Or.inr ⟨by omega, e⟩)))
    cases hok : z_ok L w a (k + 1)
    · refine ⟨fun _ => go cur ?_, fun u => absurd rfl u⟩
      rw [es, if_neg (fun u => by rw [hok] at u; exact absurd u.1 (by decide))]
      rcases hcur with ⟨k0, -⟩ | ⟨-, e⟩
      · rw [k0, z_ok1] at hok; exact absurd hok (by decide)
      · exact e
    · refine ⟨fun u => absurd u (by decide), fun _ => x_badness B hI hw hW (by omega) y (x_turnAhead B hI (by omega) y (nm_e ?_))⟩
      rw [nI_1, nI_add]
      refine ih (d - (k + 1)) (by omega) m (a + (k + 1)) (z_nl q l) (dep + 1) (by omega) (by omega) (by omega) hnl _ (nm_e ?_)
      have cb := hcb (k + 1) y
      have ec : nI (z_bad w (z_wid W a (a + (k + 1))) (decide (a + (k + 1) = I)) + if l + 1 < q then 0 else T (a + (k + 1))) + nI (z_Z I W L T w q (a + (k + 1)) (z_nl q l)).1 = nI (c (k + 1)) := by rw [nI_add, hcv]; rfl
      rw [ec]
      rcases hcur with ⟨k0, e⟩ | ⟨k1, e⟩
      · rw [e, if_pos (nI_lt (by omega) (by omega))]
        refine go _ ?_
        rw [es, if_pos ⟨hok, Or.inl (by rw [k0]; rfl)⟩]
      · obtain ⟨p1, p2, p3, p4, p5, p6⟩ := z_sc_way (c := c) (n := n) (ok := z_ok L w a) z_ok1 k k1
        have cb2 := hcb _ (show a + (z_sc c n (z_ok L w a) k).2.2 ≤ I by omega)
        rw [← p4] at cb2
        rw [e]
        by_cases lt : c (k + 1) < (z_sc c n (z_ok L w a) k).1
        · rw [if_pos (nI_lt lt (by omega))]
          refine go _ ?_
          rw [es, if_pos ⟨hok, Or.inr (Or.inl lt)⟩]
        · rw [if_neg (nI_nlt (by omega) (by omega))]
          refine go _ ?_
          rw [es]
          by_cases cnd : z_ok L w a (k + 1) = true ∧ ((z_sc c n (z_ok L w a) k).2.2 = 0 ∨ c (k + 1) < (z_sc c n (z_ok L w a) k).1 ∨ (c (k + 1) = (z_sc c n (z_ok L w a) k).1 ∧ n (k + 1) < (z_sc c n (z_ok L w a) k).2.1))
          · rw [if_pos cnd]
            show _ = c (k + 1)
            omega
          · rw [if_neg cnd]
  exact loop 1000000000 (Or.inl ⟨rfl, rfl⟩)
