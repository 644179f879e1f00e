theorem m_springAt {g : sx_F} {S : z_S} {bk b xb : Nat} {x : Int32} {Q : Int32 → Prop} (W : z_W S) (H : z_H g S bk (S 0 0)) (Y : z_Y g S bk (z_it S bk (S 0 0))) (hb : b < S 0 0) (hxb : xb ≤ b) (hnx : z_new S bk xb = true) (hit : z_it S bk (b + 1) = z_it S bk xb + 1) (h1 : xb = b → ∀ i, i < z_np S (z_drw S bk xb) xb → x = nI (z_st S (z_drw S bk xb) xb i) → (∀ k, k < i → x ≠ nI (z_st S (z_drw S bk xb) xb k)) → Q (nI (z_spb S bk xb + i))) (h0 : (xb = b → ∀ i, i < z_np S (z_drw S bk xb) xb → x ≠ nI (z_st S (z_drw S bk xb) xb i)) → Q (-1)) : P_X7_springAt g (nI b) x Q := by
  have hn := W.1
  have hitn : z_it S bk (S 0 0) ≤ S 0 0 := z_cnt_le _
  have hmono : z_it S bk (b + 1) ≤ z_it S bk (S 0 0) := z_cnt_mono (show b + 1 ≤ S 0 0 from hb)
  have hlen := W.2.1 xb (by omega)
  have hnp := z_np_b (S := S) (dr := z_drw S bk xb) (b := xb) hlen.2
  have hsp := z_spb_le (bk := bk) W xb (by omega)
  have e13 := (H.2.1 xb (by omega) hnx).1
  have F := (Y.2 xb (by omega) hnx (by omega)).1.at_
  have e16 := Y.1 xb (by omega) (by omega)
  have e16' := Y.1 (b + 1) (by omega) (by omega)
  have esp : z_spb S bk (b + 1) = z_spb S bk xb + z_np S (z_drw S bk xb) xb := by
    have e1 : z_spb S bk (xb + 1) = z_spb S bk xb + z_np S (z_drw S bk xb) xb := by
      show z_spb S bk xb + (if z_new S bk xb then z_np S (z_drw S bk xb) xb else 0) = _
      rw [hnx]; rfl
    rw [← e1]
    refine z_sm_cnt' (p := z_new S bk) (w := fun b => z_np S (z_drw S bk b) b) ?_
    show z_it S bk (b + 1) = z_it S bk (xb + 1)
    rw [hit, z_it_s, hnx]; rfl
  rw [hit, esp] at e16'
  intro B14 B51 b14 b51
  refine m_itemWith H hn hb ?_
  rw [hit, show z_it S bk xb + 1 - 1 = z_it S bk xb by omega, nI_clamp (n := z_it S bk xb) (by omega), e16]
  refine ⟨vp_in_nI (by omega) (by omega), nm_e ?_⟩
  generalize hJ : z_it S bk xb = J at *
  generalize hs0 : z_spb S bk xb = s0 at *
  generalize hdr : z_drw S bk xb = dr at *
  have key : (xb = b → ∀ k, k < 0 → x ≠ nI (z_st S dr xb k)) → B14 (nI J) (nI (s0 + 0)) := by
    refine z_up (B := fun i => (xb = b → ∀ k, k < i → x ≠ nI (z_st S dr xb k)) → B14 (nI J) (nI (s0 + i))) (z_np S dr xb) (fun i hi ih => ?_)
    intro hk
    refine b14 _ _ ?_
    rw [nI_1, nI_clamp (n := J + 1) (by omega), e16']
    refine ⟨vp_in_nI (by omega) (by omega), pk_le (s0 + z_np S dr xb) (s0 + i) (fun c => h0 (fun e k hk2 => hk e k (by omega))) (fun c => ⟨vp_in_nI (by omega) (by omega), ?_⟩)⟩
    have ci : i < z_np S dr xb := by omega
    rw [nI_clamp (n := J) (by omega), e13]
    refine pk_eq xb b (fun e => ⟨vp_in_nI (by omega) (by omega), ?_⟩) (fun e => b51 _ _ (nm_e ?_))
    · rw [nI_clamp (n := s0 + i) (by omega), (F i ci).1]
      refine ⟨fun y => h1 e i ci y.symm (hk e), fun y => b51 _ _ (nm_e ?_)⟩
      rw [nI_1]
      refine ih ci (fun _ k hk2 => ?_)
      by_cases ek : k = i
      · rw [ek]; exact fun z => y z.symm
      · exact hk e k (by omega)
    · rw [nI_1]
      exact ih ci (fun z => absurd z e)
  exact key (fun _ k hk => absurd hk (by omega))
theorem m_placeOf {g : sx_F} {I : Nat} {NP : Nat → Nat} {SW SL : Nat → Nat → Nat} {w N l p p' J i : Nat} {bar : Int32} {Q : Int32 → Prop} (hbar : ∀ QQ : Int32 → Prop, QQ (nI J) → P_X7_itemWith g bar QQ) (hI : I ≤ 12) (hw : w ≤ 500) (g20 : g 0 20 = nI I) (g6 : g 0 6 = nI w) (g31 : g 0 31 = nI N) (hN : N ≤ 12) (hlN : l < N) (hend : p' = I ↔ l + 1 = N) (g16 : ∀ k, k ≤ I → g 16 k = nI (z_sm NP k)) (hNP : ∀ k, k < I → NP k ≤ 32) (g18 : ∀ k e, k < I → e < NP k → g 18 (z_sm NP k + e) = nI (SW k e) ∧ g 19 (z_sm NP k + e) = nI (SL k e)) (gin : ∀ k, p ≤ k → k < p' → g 25 k = nI l) (gout : ∀ k, k < I → ¬ (p ≤ k ∧ k < p') → ¬ g 25 k = nI l) (hp : p ≤ J) (hp' : J < p') (hI' : p' ≤ I) (hi : i < NP J) (hWb : ∀ k, k < I → z_sm (SW k) (NP k) ≤ 768) (hS : ∀ k e, SL k e ≤ SW k e) (hW1 : ∀ k, k < I → 1 ≤ z_sm (SW k) (NP k)) (h : Q (nI (z_plc I w (fun k => z_sm (SW k) (NP k)) (fun k => z_sm (SL k) (NP k)) J p p' (z_sm (fun k => z_sm (SW k) (NP k)) J - z_sm (fun k => z_sm (SW k) (NP k)) p + z_sm (SW J) i) (z_sm (fun k => z_sm (SL k) (NP k)) J - z_sm (fun k => z_sm (SL k) (NP k)) p + z_sm (SL J) i)))) : P_X7_placeOf g bar (nI (z_sm NP J + i)) Q := by
  have hsl : ∀ k, z_sm (SL k) (NP k) ≤ z_sm (SW k) (NP k) := fun k => z_sm_le2 (hS k) _
  have hNPs : ∀ k, k ≤ I → z_sm NP k ≤ 384 := fun k hk => Nat.le_trans (z_sm_leN hNP k hk) (by omega)
  have hNPe : ∀ k, k < I → z_sm NP k + NP k ≤ 384 := fun k hk => hNPs (k + 1) hk
  have hsJ := hNPe J (by omega)
  have ahW := z_ah_sum (NP := NP) (V := SW) (i := i) hp hp' (by omega)
  have ahL := z_ah_sum (NP := NP) (V := SL) (i := i) hp hp' (by omega)
  have lmW := z_lm_end (h := fun k => z_sm (SW k) (NP k)) (show p ≤ p' by omega) hI'
  have lmL := z_lm_end (h := fun k => z_sm (SL k) (NP k)) (show p ≤ p' by omega) hI'
  have lm1 := z_lm_end (h := fun _ => 1) (show p ≤ p' by omega) hI'
  have lmJ := z_lm_end (h := fun k => if k < J then 1 else 0) (show p ≤ p' by omega) hI'
  have laW := z_lm_end (h := z_ah NP SW (z_sm NP J + i)) (show p ≤ p' by omega) hI'
  have laL := z_lm_end (h := z_ah NP SL (z_sm NP J + i)) (show p ≤ p' by omega) hI'
  rw [ahW] at laW
  rw [ahL] at laL
  rw [z_sm_one, z_sm_one] at lm1
  rw [z_sm_J, z_sm_J, if_neg (show ¬ p' ≤ J by omega), if_pos hp] at lmJ
  have mW := z_sm_mono (w := fun k => z_sm (SW k) (NP k)) hp
  have mL := z_sm_mono (w := fun k => z_sm (SL k) (NP k)) hp
  have mW' := z_sm_mono (w := fun k => z_sm (SW k) (NP k)) (show p ≤ p' by omega)
  have mL' := z_sm_mono (w := fun k => z_sm (SL k) (NP k)) (show p ≤ p' by omega)
  have sJ := z_sm_sub hsl (a := p) J hp
  have sP := z_sm_sub hsl (a := p) p' (by omega)
  have bJ' : z_sm (fun k => z_sm (SW k) (NP k)) J - z_sm (fun k => z_sm (SW k) (NP k)) p ≤ 9216 := Nat.le_trans (z_sm_lt hWb (a := p) J hp (by omega)) (z_prd (Nat.le_refl 768) (show J - p ≤ 12 by omega))
  have bP' : z_sm (fun k => z_sm (SW k) (NP k)) p' - z_sm (fun k => z_sm (SW k) (NP k)) p ≤ 9216 := Nat.le_trans (z_sm_lt hWb (a := p) p' (by omega) hI') (z_prd (Nat.le_refl 768) (show p' - p ≤ 12 by omega))
  have aP := z_sm_pos (w := fun k => z_sm (SW k) (NP k)) (show p < p' by omega) (hW1 p (by omega))
  have iW : z_sm (SW J) i ≤ 768 := Nat.le_trans (z_sm_mono (w := SW J) (show i ≤ NP J by omega)) (hWb J (by omega))
  have iL : z_sm (SL J) i ≤ z_sm (SW J) i := z_sm_le2 (hS J) i
  intro B35 B68 B69 B91 B103 B172 B194 B203 B264 B298 b35 b68 b69 b91 b103 b172 b194 b203 b264 b298
  refine hbar _ ?_
  rw [nI_clamp (n := J) (by omega), gin J hp hp']
  refine ⟨vp_in_nI (by omega) (by omega), nm_e ?_⟩
  refine z_up (B := fun k => B35 (nI J) (nI l) (nI (z_lm p p' (z_ah NP SW (z_sm NP J + i)) k)) (nI (z_lm p p' (z_ah NP SL (z_sm NP J + i)) k)) (nI (z_lm p p' (fun k => z_sm (SW k) (NP k)) k)) (nI (z_lm p p' (fun k => z_sm (SL k) (NP k)) k)) (nI (z_lm p p' (fun _ => 1) k)) (nI (z_lm p p' (fun k => if k < J then 1 else 0) k)) (nI k)) I (fun k hk ih => ?_)
  refine b35 _ _ _ _ _ _ _ _ _ ?_
  rw [g20]
  refine pk_le I k (fun c => ?_) (fun c => ⟨vp_in_nI (by omega) (by omega), ?_⟩)
  · -- the end
    have ek : k = I := by omega
    rw [ek, laW, laL, lmW, lmL, lm1, lmJ, g6, g31]
    have eW : z_wid (fun k => z_sm (SW k) (NP k)) p p' = 8 * (p' - p) + (z_sm (fun k => z_sm (SW k) (NP k)) p' - z_sm (fun k => z_sm (SW k) (NP k)) p) := rfl
    have eL : z_wid (fun k => z_sm (SL k) (NP k)) p p' = 8 * (p' - p) + (z_sm (fun k => z_sm (SL k) (NP k)) p' - z_sm (fun k => z_sm (SL k) (NP k)) p) := rfl
    unfold z_plc at h
    generalize hah : z_sm (fun k => z_sm (SW k) (NP k)) J - z_sm (fun k => z_sm (SW k) (NP k)) p + z_sm (SW J) i = ah at h ⊢
    generalize hal : z_sm (fun k => z_sm (SL k) (NP k)) J - z_sm (fun k => z_sm (SL k) (NP k)) p + z_sm (SL J) i = al at h ⊢
    have hlea : al ≤ ah := by omega
    have hah' : ah ≤ 10000 := by omega
    generalize hall : z_sm (fun k => z_sm (SW k) (NP k)) p' - z_sm (fun k => z_sm (SW k) (NP k)) p = all at *
    generalize hlst : z_sm (fun k => z_sm (SL k) (NP k)) p' - z_sm (fun k => z_sm (SL k) (NP k)) p = lst at *
    generalize z_wid (fun k => z_sm (SW k) (NP k)) p p' = wd at *
    generalize z_wid (fun k => z_sm (SL k) (NP k)) p p' = ld at *
    rw [show (8 : Int32) * nI (J - p) + 4 + nI ah = nI (8 * (J - p) + 4 + ah) from by rw [z_l8, z_l4, pk_mul, nI_add, nI_add], z_ss, show (8 : Int32) * nI (p' - p) + nI all = nI wd from by rw [z_l8, pk_mul, nI_add, eW]]
    refine nm_e (nm_e ?_)
    by_cases c : w < wd
    · rw [if_pos c] at h
      rw [z_subneg (by omega)]
      have ng : ¬ 0 ≤ -nI (wd - w) := by
        rw [Int32.le_iff_toInt_le, ← z_subneg (show w ≤ wd by omega), pk_sub_toInt (by omega) (by omega)]
        show ¬ (0 : Int) ≤ (w : Int) - wd
        omega
      have le0 : -nI (wd - w) ≤ 0 := by
        rcases Int32.le_total 0 (-nI (wd - w)) with z | z
        · exact absurd z ng
        · exact z
      refine ⟨fun _ => b264 _ _ _ _ _ _ ⟨fun y => absurd y ng, fun _ => ?_⟩, fun y => absurd le0 y⟩
      rw [Int32.neg_neg]
      refine pk_le all lst (fun y => ?_) (fun y => ?_)
      · rw [if_neg (by omega)] at h; exact h
      · rw [if_pos (by omega)] at h
        rw [pk_sub (a := all) (b := lst) (by omega)]
        have eab : wd - ld = all - lst := by omega
        rw [eab] at h
        have out : ∀ m : Nat, m = (if all - lst < wd - w then all - lst else wd - w) → B298 (nI ah) (nI al) (nI all) (nI lst) (nI (8 * (J - p) + 4 + ah)) (nI m) := by
          intro m hm
          rw [← hm] at h
          have hm2 : m ≤ all - lst := by rw [hm]; split <;> omega
          refine b298 _ _ _ _ _ _ ?_
          rw [pk_sub (a := all) (b := lst) (by omega), pk_sub (a := ah) (b := al) hlea]
          have hprod : m * (ah - al) ≤ 10000 * 10000 := z_prd (by omega) (by omega)
          have hdiv : m * (ah - al) / (all - lst) ≤ ah - al := by
            refine Nat.div_le_of_le_mul ?_
            exact Nat.mul_le_mul hm2 (Nat.le_refl _)
          refine ⟨nI_ne0 (by omega) (by omega), ?_⟩
          rw [pk_mul, pk_div (by omega) (by omega) (by omega), pk_sub (by omega)]
          exact h
        refine pk_le (all - lst) (wd - w) (fun z => out _ ?_) (fun z => out _ ?_)
        · split <;> omega
        · split <;> omega
    · rw [if_neg c] at h
      rw [pk_sub (a := w) (b := wd) (by omega)]
      have fin : B264 (nI ah) (nI al) (nI all) (nI lst) (nI (8 * (J - p) + 4 + ah)) (nI (w - wd)) ∨ (w - wd ≠ 0 ∧ p' ≠ I) := by
        by_cases d : p' = I
        · rw [if_pos d] at h
          exact Or.inl (b264 _ _ _ _ _ _ ⟨fun _ => h, fun y => absurd (nI_pos' (by omega)) y⟩)
        · rw [if_neg d] at h
          by_cases e : w - wd = 0
          · rw [e, Nat.zero_mul, Nat.zero_div, Nat.add_zero] at h
            exact Or.inl (b264 _ _ _ _ _ _ ⟨fun _ => h, fun y => absurd (nI_pos' (by omega)) y⟩)
          · exact Or.inr ⟨e, d⟩
      refine pk_le (w - wd) 0 (fun y => fin.resolve_right (fun z => z.1 (by omega))) (fun y => ?_)
      rw [show nI N - 1 = nI (N - 1) from pk_sub (a := N) (b := 1) (by omega)]
      refine pk_le (N - 1) l (fun z => fin.resolve_right (fun u => u.2 (hend.mpr (by omega)))) (fun z => ⟨nI_ne0 (by omega) (by omega), ?_⟩)
      rw [if_neg (fun u => by have := hend.mp u; omega)] at h
      have hprod : (w - wd) * ah ≤ 500 * 10000 := z_prd (by omega) (by omega)
      rw [pk_mul, pk_div (by omega) (by omega) (by omega), nI_add]
      exact h
  · -- one item more
    have i2 := ih c
    rw [z_lm_s, z_lm_s, z_lm_s, z_lm_s, z_lm_s, z_lm_s] at i2
    rw [nI_clamp (n := k) (by omega)]
    have hlmb : ∀ h k, (∀ x, h x ≤ 1) → z_lm p p' h k ≤ k := fun h k hh => by
      have := z_sm_le (w := fun k => if p ≤ k ∧ k < p' then h k else 0) (c := 1) (fun x => by
        have := hh x
        show (if p ≤ x ∧ x < p' then h x else 0) ≤ 1
        split <;> omega) k
      have e : z_lm p p' h k ≤ 1 * k := this
      omega
    have hsk := hNPe k c
    by_cases inl : p ≤ k ∧ k < p'
    · rw [if_pos inl, if_pos inl, if_pos inl, if_pos inl, if_pos inl, if_pos inl] at i2
      have e25 := gin k inl.1 inl.2
      generalize z_lm p p' (z_ah NP SW (z_sm NP J + i)) k = v5 at i2 ⊢
      generalize z_lm p p' (z_ah NP SL (z_sm NP J + i)) k = v6 at i2 ⊢
      generalize z_lm p p' (fun k => z_sm (SW k) (NP k)) k = v7 at i2 ⊢
      generalize z_lm p p' (fun k => z_sm (SL k) (NP k)) k = v8 at i2 ⊢
      generalize z_lm p p' (fun _ => 1) k = v9 at i2 ⊢
      generalize z_lm p p' (fun k => if k < J then 1 else 0) k = v10 at i2 ⊢
      have inner : ∀ e, e ≤ NP k → B103 (nI J) (nI l) (nI (v5 + z_sm (fun y => if z_sm NP k + y < z_sm NP J + i then SW k y else 0) e)) (nI (v6 + z_sm (fun y => if z_sm NP k + y < z_sm NP J + i then SL k y else 0) e)) (nI (v7 + z_sm (SW k) e)) (nI (v8 + z_sm (SL k) e)) (nI (v9 + 1)) (nI (v10 + if k < J then 1 else 0)) (nI k) (nI (z_sm NP k + e)) := by
        intro e he
        obtain ⟨d, hd⟩ : ∃ d, e + d = NP k := ⟨NP k - e, by omega⟩
        clear he
        induction d generalizing e with
        | zero =>
          refine b103 _ _ _ _ _ _ _ _ _ _ ?_
          rw [nI_1, nI_clamp (n := k + 1) (by omega), g16 (k + 1) (by omega)]
          refine ⟨vp_in_nI (by omega) (by omega), pk_le (z_sm NP (k + 1)) (z_sm NP k + e) (fun _ => b203 _ _ _ _ _ _ _ _ _ (nm_e ?_)) (fun y => ?_) rfl rfl (by show z_sm NP k + NP k < _; omega)⟩
          · rw [nI_1, show e = NP k by omega]
            exact i2
          · exfalso
            have y' : z_sm NP k + e < z_sm NP k + NP k := y
            omega
        | succ d ihd =>
          have nx := ihd (e + 1) (by omega)
          have en : e < NP k := by omega
          obtain ⟨r1, r2⟩ := g18 k e c en
          refine b103 _ _ _ _ _ _ _ _ _ _ ?_
          rw [nI_1, nI_clamp (n := k + 1) (by omega), g16 (k + 1) (by omega), nI_clamp (n := k) (by omega), e25, nI_clamp (n := z_sm NP k + e) (by omega), r1, r2, nI_add, nI_add]
          refine ⟨vp_in_nI (by omega) (by omega), pk_le (z_sm NP (k + 1)) (z_sm NP k + e) (fun y => ?_) (fun y => ⟨vp_in_nI (by omega) (by omega), fun _ => ⟨vp_in_nI (by omega) (by omega), nm_e ⟨vp_in_nI (by omega) (by omega), nm_e ?_⟩⟩, fun z => absurd rfl z⟩) rfl rfl (by show z_sm NP k + NP k < _; omega)⟩
          · exfalso
            have y' : z_sm NP k + NP k ≤ z_sm NP k + e := y
            omega
          have s5 : z_sm (fun y => if z_sm NP k + y < z_sm NP J + i then SW k y else 0) (e + 1) = z_sm (fun y => if z_sm NP k + y < z_sm NP J + i then SW k y else 0) e + (if z_sm NP k + e < z_sm NP J + i then SW k e else 0) := rfl
          have s6 : z_sm (fun y => if z_sm NP k + y < z_sm NP J + i then SL k y else 0) (e + 1) = z_sm (fun y => if z_sm NP k + y < z_sm NP J + i then SL k y else 0) e + (if z_sm NP k + e < z_sm NP J + i then SL k e else 0) := rfl
          have s7 : z_sm (SW k) (e + 1) = z_sm (SW k) e + SW k e := rfl
          have s8 : z_sm (SL k) (e + 1) = z_sm (SL k) e + SL k e := rfl
          rw [s5, s6, s7, s8, ← Nat.add_assoc, ← Nat.add_assoc, ← Nat.add_assoc, ← Nat.add_assoc, ← Nat.add_assoc] at nx
          refine pk_le (z_sm NP J + i) (z_sm NP k + e) (fun y => b172 _ _ _ _ _ _ _ _ _ _ _ (nm_e ?_)) (fun y => ⟨vp_in_nI (by omega) (by omega), b172 _ _ _ _ _ _ _ _ _ _ _ (nm_e ?_)⟩)
          · rw [if_neg (by omega), if_neg (by omega)] at nx
            refine pk_le (z_sm NP J + i) (z_sm NP k + e) (fun _ => b194 _ _ _ _ _ _ _ _ _ _ _ (nm_e (nm_e ?_))) (fun z => absurd z (by omega))
            rw [nI_1, Int32.add_zero, Int32.add_zero]
            exact nx
          · rw [if_pos y, if_pos y] at nx
            rw [nI_clamp (n := z_sm NP k + e) (by omega), r2]
            refine pk_le (z_sm NP J + i) (z_sm NP k + e) (fun z => absurd z (by omega)) (fun _ => ⟨vp_in_nI (by omega) (by omega), b194 _ _ _ _ _ _ _ _ _ _ _ (nm_e (nm_e ?_))⟩)
            rw [nI_1, nI_add, nI_add]
            exact nx
      have start := inner 0 (Nat.zero_le _)
      have aft : ∀ c2 : Nat, c2 = (if k < J then 1 else 0) → B69 (nI J) (nI l) (nI v5) (nI v6) (nI v7) (nI v8) (nI v9) (nI k) (nI v10) (nI c2) := by
        intro c2 hc2
        refine b69 _ _ _ _ _ _ _ _ _ _ (nm_e ?_)
        rw [nI_add, hc2, nI_clamp (n := k) (by omega), e25]
        refine ⟨vp_in_nI (by omega) (by omega), fun _ => b91 _ _ _ _ _ _ _ _ _ _ (nm_e ⟨vp_in_nI (by omega) (by omega), ?_⟩), fun z => absurd rfl z⟩
        rw [nI_1, nI_clamp (n := k) (by omega), g16 k (by omega)]
        exact nm_e start
      rw [e25]
      refine ⟨fun _ => pk_le J k (fun y => b68 _ _ _ _ _ _ _ _ _ ?_) (fun y => ?_), fun z => absurd rfl z⟩
      · have := aft 0 (by rw [if_neg (by omega)])
        exact this
      · have := aft 1 (by rw [if_pos y])
        exact this
    · rw [if_neg inl, if_neg inl, if_neg inl, if_neg inl, if_neg inl, if_neg inl, Nat.add_zero, Nat.add_zero, Nat.add_zero, Nat.add_zero, Nat.add_zero, Nat.add_zero] at i2
      have e25 := gout k c inl
      generalize z_lm p p' (z_ah NP SW (z_sm NP J + i)) k = v5 at i2 ⊢
      generalize z_lm p p' (z_ah NP SL (z_sm NP J + i)) k = v6 at i2 ⊢
      generalize z_lm p p' (fun k => z_sm (SW k) (NP k)) k = v7 at i2 ⊢
      generalize z_lm p p' (fun k => z_sm (SL k) (NP k)) k = v8 at i2 ⊢
      generalize z_lm p p' (fun _ => 1) k = v9 at i2 ⊢
      generalize z_lm p p' (fun k => if k < J then 1 else 0) k = v10 at i2 ⊢
      refine ⟨fun z => absurd z e25, fun _ => b68 _ _ _ _ _ _ _ _ _ (b69 _ _ _ _ _ _ _ _ _ _ (nm_e ?_))⟩
      rw [Int32.add_zero, nI_clamp (n := k) (by omega)]
      refine ⟨vp_in_nI (by omega) (by omega), fun z => absurd z e25, fun _ => b91 _ _ _ _ _ _ _ _ _ _ (nm_e ⟨vp_in_nI (by omega) (by omega), ?_⟩)⟩
      rw [Int32.add_zero, nI_clamp (n := k) (by omega), g16 k (by omega)]
      refine nm_e (b103 _ _ _ _ _ _ _ _ _ _ ?_)
      have out : B203 (nI J) (nI l) (nI v5) (nI v6) (nI v7) (nI v8) (nI v9) (nI v10) (nI k) := b203 _ _ _ _ _ _ _ _ _ (nm_e (by rw [nI_1]; exact i2))
      rw [nI_1, nI_clamp (n := k + 1) (by omega), nI_clamp (n := k) (by omega)]
      exact ⟨vp_in_nI (by omega) (by omega), fun _ => out, fun _ => ⟨vp_in_nI (by omega) (by omega), fun z => absurd z e25, fun _ => out⟩⟩
