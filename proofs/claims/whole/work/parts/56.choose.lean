/-- the class's rows of the table, of the items from one on -/
def z_Rw (f : sx_F) (I : Nat) (W L T : Nat → Nat) (w q a : Nat) : Prop := ∀ e l, a ≤ e → e ≤ I → l < q → f (22 + e) l = nI (z_Z I W L T w q e l).1 ∧ f (36 + e) l = nI (z_Z I W L T w q e l).2.1 ∧ (e < I → f (50 + e) l = nI (e + (z_Z I W L T w q e l).2.2))
theorem z_Bk.cg {f f' : sx_F} {I : Nat} {W L T : Nat → Nat} {w q : Nat} (B : z_Bk f I W L T w q) (h8 : f' 8 = f 8) (h17 : f' 17 = f 17) (h18 : f' 18 = f 18) (h19 : f' 19 = f 19) (h20 : f' 20 = f 20) : z_Bk f' I W L T w q := by
  unfold z_Bk at B ⊢
  rw [h8, h17, h18, h19, h20]
  exact B
theorem x_chooseLine {f : sx_F} {I : Nat} {W L T : Nat → Nat} {w q a l : Nat} {Q : sx_F → Prop} (B : z_Bk f I W L T w q) (hI : I ≤ 12) (hw : w ≤ 500) (hq : q ≤ 6) (hW : ∀ j, j < I → W j ≤ 768) (hL : ∀ j, j < I → L j ≤ 288) (hT : ∀ j, T j ≤ 1600) (ha : a < I) (hl : l < q) (R : z_Rw f I W L T w q (a + 1)) (h : ∀ f' : sx_F, (∀ k, k ≠ 22 + a → k ≠ 36 + a → k ≠ 50 + a → f' k = f k) → (∀ x, x ≠ l → f' (22 + a) x = f (22 + a) x ∧ f' (36 + a) x = f (36 + a) x ∧ f' (50 + a) x = f (50 + a) x) → f' (22 + a) l = nI (z_Z I W L T w q a l).1 → f' (36 + a) l = nI (z_Z I W L T w q a l).2.1 → f' (50 + a) l = nI (a + (z_Z I W L T w q a l).2.2) → Q f') : P_X3_chooseLine f (nI a) (nI l) Q := by
  intro B30 B134 B164 b30 b134 b164
  have hnl : z_nl q l < q := by unfold z_nl; split <;> omega
  rw [nI_clamp (n := a) (by omega), nI_clamp (n := l) (by omega)] at b30 b134 ⊢
  refine x_nextOnPage B.2.2.2.2 hq (by omega) ⟨vp_in_nI (by omega) (by omega), nm_e ⟨vp_in_nI (by omega) (by omega), nm_e ⟨vp_in_nI (by omega) (by omega), nm_e ⟨vp_in_nI (by omega) (by omega), nm_e (nm_e ?_)⟩⟩⟩⟩
  rw [nI_1]
  generalize hc : (fun k => z_lc I W T w q a l k + (z_Z I W L T w q (a + k) (z_nl q l)).1) = c
  generalize hnn : (fun k => 1 + (z_Z I W L T w q (a + k) (z_nl q l)).2.1) = n
  have hZ : z_Z I W L T w q a l = z_sc c n (z_ok L w a) (I - a) := by rw [← hc, ← hnn]; exact z_Z_eq ha
  have hcv : ∀ k, c k = z_lc I W T w q a l k + (z_Z I W L T w q (a + k) (z_nl q l)).1 := fun k => by rw [← hc]
  have hnv : ∀ k, n k = 1 + (z_Z I W L T w q (a + k) (z_nl q l)).2.1 := fun k => by rw [← hnn]
  have hcb : ∀ k, 1 ≤ k → a + k ≤ I → c k ≤ 500000000 ∧ n k ≤ 13 := fun k h1 h2 => by
    have b1 := z_lc_le (a := a) (l := l) (k := k) (q := q) hw hI hW hT h2
    obtain ⟨b2, b3, -⟩ := z_Z_le (L := L) (q := q) hw hI hW hT (I - (a + k)) (a + k) (z_nl q l) (by omega)
    rw [hcv, hnv]
    omega
  rw [hZ] at h
  have loop : ∀ f' : sx_F, (∀ k, k ≠ 22 + a → k ≠ 36 + a → k ≠ 50 + a → f' k = f k) → (∀ x, x ≠ l → f' (22 + a) x = f (22 + a) x ∧ f' (36 + a) x = f (36 + a) x ∧ f' (50 + a) x = f (50 + a) x) → ((0 = 0 ∧ f' (22 + a) l = 1000000000 ∧ f' (36 + a) l = 0) ∨ (1 ≤ 0 ∧ f' (22 + a) l = nI (z_sc c n (z_ok L w a) 0).1 ∧ f' (36 + a) l = nI (z_sc c n (z_ok L w a) 0).2.1 ∧ f' (50 + a) l = nI (a + (z_sc c n (z_ok L w a) 0).2.2))) → B30 f' (nI (z_nl q l)) (nI (a + (0 + 1))) := by
    refine z_up (B := fun k => ∀ f' : sx_F, (∀ k, k ≠ 22 + a → k ≠ 36 + a → k ≠ 50 + a → f' k = f k) → (∀ x, x ≠ l → f' (22 + a) x = f (22 + a) x ∧ f' (36 + a) x = f (36 + a) x ∧ f' (50 + a) x = f (50 + a) x) → ((k = 0 ∧ f' (22 + a) l = 1000000000 ∧ f' (36 + a) l = 0) ∨ (1 ≤ k ∧ f' (22 + a) l = nI (z_sc c n (z_ok L w a) k).1 ∧ f' (36 + a) l = nI (z_sc c n (z_ok L w a) k).2.1 ∧ f' (50 + a) l = nI (a + (z_sc c n (z_ok L w a) k).2.2))) → B30 f' (nI (z_nl q l)) (nI (a + (k + 1)))) (I - a) (fun k hk ih => ?_)
    intro f' f1 f2 f3
    have B' : z_Bk f' I W L T w q := B.cg (f1 8 (by omega) (by omega) (by omega)) (f1 17 (by omega) (by omega) (by omega)) (f1 18 (by omega) (by omega) (by omega)) (f1 19 (by omega) (by omega) (by omega)) (f1 20 (by omega) (by omega) (by omega))
    refine b30 _ _ _ ?_
    rw [B'.1]
    refine pk_lt I (a + (k + 1)) (fun z => ?_) (fun z => x_mayBeLine B' hI hw hL (by omega) z ?_)
    · have ek : k = I - a := by omega
      rcases f3 with ⟨k0, -⟩ | ⟨-, g1, g2, g3⟩
      · omega
      · rw [ek] at g1 g2 g3
        exact h f' f1 f2 g1 g2 g3
    cases hok : z_ok L w a (k + 1)
    · refine ⟨fun _ => ?_, fun y => absurd rfl y⟩
      have hk1 : 1 ≤ k := Nat.pos_of_ne_zero (fun y => by rw [y, z_ok1] at hok; exact absurd hok (by decide))
      have hw2 : w < z_wid L a (a + (k + 1)) := by
        unfold z_ok at hok
        rw [decide_eq_false_iff_not] at hok
        omega
      have grow : ∀ m, k + 1 ≤ m → w < z_wid L a (a + m) := by
        intro m hm
        induction m with
        | zero => omega
        | succ m ihm =>
          by_cases em : m + 1 = k + 1
          · rw [em]; exact hw2
          · have := ihm (by omega)
            have := z_wid_lt (W := L) (show a ≤ a + m by omega)
            rw [show a + (m + 1) = a + m + 1 by omega]
            omega
      have stop : z_sc c n (z_ok L w a) (I - a) = z_sc c n (z_ok L w a) k := z_sc_stop (I - a) hk (fun i h1 h2 => decide_eq_false (fun y => by
        have := grow i (by omega)
        omega))
      rcases f3 with ⟨k0, -⟩ | ⟨-, g1, g2, g3⟩
      · omega
      · rw [← stop] at g1 g2 g3
        exact h f' f1 f2 g1 g2 g3
    refine ⟨fun y => absurd y (by decide), fun _ => x_badness B' hI hw hW (by omega) z (x_turnAhead B' hI (by omega) z ⟨vp_in_nI (by omega) (by omega), nm_e ⟨vp_in_nI (by omega) (by omega), nm_e ⟨vp_in_nI (by omega) (by omega), nm_e ⟨vp_in_nI (by omega) (by omega), nm_e ⟨vp_in_nI (by omega) (by omega), nm_e ⟨vp_in_nI (by omega) (by omega), ?_⟩⟩⟩⟩⟩⟩)⟩
    obtain ⟨r1, r2, -⟩ := R (a + (k + 1)) (z_nl q l) (by omega) z hnl
    have ec : nI (z_bad w (z_wid W a (a + (k + 1))) (decide (a + (k + 1) = I))) + nI (if l + 1 < q then 0 else T (a + (k + 1))) + f' (22 + (nI (a + (k + 1))).toNatClampNeg) (nI (z_nl q l)).toNatClampNeg = nI (c (k + 1)) := by
      rw [nI_clamp (by omega), nI_clamp (by omega), f1 _ (by omega) (by omega) (by omega), r1, nI_add, nI_add, hcv]
      rfl
    have en : (1 : Int32) + f' (36 + (nI (a + (k + 1))).toNatClampNeg) (nI (z_nl q l)).toNatClampNeg = nI (n (k + 1)) := by
      rw [nI_clamp (by omega), nI_clamp (by omega), f1 _ (by omega) (by omega) (by omega), r2, hnv]
      exact nI_add 1 _
    rw [ec, en]
    obtain ⟨cb, nb⟩ := hcb (k + 1) (by omega) z
    have es : z_sc c n (z_ok L w a) (k + 1) = if z_ok L w a (k + 1) = true ∧ ((z_sc c n (z_ok L w a) k).2.2 = 0 ∨ c (k + 1) < (z_sc c n (z_ok L w a) k).1 ∨ (c (k + 1) = (z_sc c n (z_ok L w a) k).1 ∧ n (k + 1) < (z_sc c n (z_ok L w a) k).2.1)) then (c (k + 1), n (k + 1), k + 1) else z_sc c n (z_ok L w a) k := rfl
    -- it is taken
    have take : ((z_sc c n (z_ok L w a) k).2.2 = 0 ∨ c (k + 1) < (z_sc c n (z_ok L w a) k).1 ∨ (c (k + 1) = (z_sc c n (z_ok L w a) k).1 ∧ n (k + 1) < (z_sc c n (z_ok L w a) k).2.1)) → B134 f' (nI (z_nl q l)) (nI (a + (k + 1))) (nI (c (k + 1))) (nI (n (k + 1))) := by
      intro cnd
      rw [if_pos ⟨hok, cnd⟩] at es
      refine b134 _ _ _ _ _ ⟨vp_in_nI (by omega) (by omega), nm_e ⟨vp_in_nI (by omega) (by omega), nm_e ⟨vp_in_nI (by omega) (by omega), nm_e ⟨vp_in_nI (by omega) (by omega), nm_e ⟨vp_in_nI (by omega) (by omega), nm_e ⟨vp_in_nI (by omega) (by omega), nm_e (b164 _ _ _ (nm_e ?_))⟩⟩⟩⟩⟩⟩
      rw [nI_1, show a + (k + 1) + 1 = a + (k + 1 + 1) by omega]
      refine ih (by omega) _ (fun i h1 h2 h3 => by rw [sx_u_n h3, sx_u_n h2, sx_u_n h1]; exact f1 i h1 h2 h3) (fun x hx => ?_) (Or.inr ⟨by omega, ?_, ?_, ?_⟩)
      · obtain ⟨u1, u2, u3⟩ := f2 x hx
        simp (disch := omega) only [sx_u_n, sx_u_s, pk_un]
        exact ⟨u1, u2, u3⟩
      · rw [es]; simp (disch := omega) only [sx_u_n, sx_u_s, pk_us]
      · rw [es]; simp (disch := omega) only [sx_u_n, sx_u_s, pk_us]
      · rw [es]; simp (disch := omega) only [sx_u_n, sx_u_s, pk_us]
    have pass : ¬ ((z_sc c n (z_ok L w a) k).2.2 = 0 ∨ c (k + 1) < (z_sc c n (z_ok L w a) k).1 ∨ (c (k + 1) = (z_sc c n (z_ok L w a) k).1 ∧ n (k + 1) < (z_sc c n (z_ok L w a) k).2.1)) → B164 f' (nI (z_nl q l)) (nI (a + (k + 1))) := by
      intro cnd
      rw [if_neg (fun y => cnd y.2)] at es
      refine b164 _ _ _ (nm_e ?_)
      rw [nI_1, show a + (k + 1) + 1 = a + (k + 1 + 1) by omega]
      refine ih (by omega) f' f1 f2 (Or.inr ⟨by omega, ?_⟩)
      rw [es]
      rcases f3 with ⟨k0, -⟩ | ⟨-, g1⟩
      · exact absurd (Or.inl (by rw [k0]; rfl)) cnd
      · exact g1
    rcases f3 with ⟨k0, g1, g2⟩ | ⟨k1, g1, g2, g3⟩
    · rw [g1]
      exact pk_lt (c (k + 1)) 1000000000 (fun _ => take (Or.inl (by rw [k0]; rfl))) (fun y => absurd y (by omega))
    · obtain ⟨p1, p2, p3, p4, p5, p6⟩ := z_sc_way (c := c) (n := n) (ok := z_ok L w a) z_ok1 k k1
      obtain ⟨cb2, nb2⟩ := hcb _ p1 (show a + (z_sc c n (z_ok L w a) k).2.2 ≤ I by omega)
      rw [← p4] at cb2
      rw [← p5] at nb2
      rw [g1]
      refine pk_lt (c (k + 1)) (z_sc c n (z_ok L w a) k).1 (fun y => take (Or.inr (Or.inl y))) (fun y => ⟨vp_in_nI (by omega) (by omega), nm_e ⟨vp_in_nI (by omega) (by omega), ?_⟩⟩)
      rw [g1]
      refine pk_eq (c (k + 1)) (z_sc c n (z_ok L w a) k).1 (fun y1 => ⟨vp_in_nI (by omega) (by omega), nm_e ⟨vp_in_nI (by omega) (by omega), ?_⟩⟩) (fun y1 => pass (fun u => ?_))
      · rw [g2]
        exact pk_le (z_sc c n (z_ok L w a) k).2.1 (n (k + 1)) (fun y2 => pass (fun u => by omega)) (fun y2 => take (Or.inr (Or.inr ⟨y1, y2⟩)))
      · omega
  exact loop _ (fun i h1 h2 h3 => by rw [sx_u_n h2, sx_u_n h1]) (fun x hx => by simp (disch := omega) only [sx_u_n, sx_u_s, pk_un]; exact ⟨trivial, trivial, trivial⟩) (Or.inl ⟨rfl, by simp (disch := omega) only [sx_u_n, sx_u_s, pk_us], by simp (disch := omega) only [sx_u_n, sx_u_s, pk_us]⟩)
