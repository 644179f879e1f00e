def z_NP (S : z_S) (bk k : Nat) : Nat := z_np S (z_drw S bk (z_xb S bk k)) (z_xb S bk k)
def z_SW (S : z_S) (bk k : Nat) : Nat → Nat := z_sw S (z_drw S bk (z_xb S bk k)) (z_xb S bk k)
def z_SL (S : z_S) (bk k : Nat) : Nat → Nat := z_sl S (z_drw S bk (z_xb S bk k)) (z_xb S bk k)
theorem z_IW_eq {S : z_S} {bk : Nat} : (fun k => z_sm (z_SW S bk k) (z_NP S bk k)) = z_IW S bk := funext (fun _ => z_Wb_sm.1.symm)
theorem z_IL_eq {S : z_S} {bk : Nat} : (fun k => z_sm (z_SL S bk k) (z_NP S bk k)) = z_IL S bk := funext (fun _ => z_Wb_sm.2.symm)
theorem z_spb_it {S : z_S} {bk : Nat} : ∀ b, b ≤ S 0 0 → z_spb S bk b = z_sm (z_NP S bk) (z_it S bk b)
  | 0, _ => rfl
  | b + 1, h => by
    have h1 := z_spb_it (S := S) (bk := bk) b (by omega)
    have e1 : z_spb S bk (b + 1) = z_spb S bk b + (if z_new S bk b then z_np S (z_drw S bk b) b else 0) := rfl
    rw [e1, z_it_s, h1]
    cases hn : z_new S bk b
    · rfl
    · have ex := z_xb_eq (show b < S 0 0 by omega) hn
      show _ = z_sm (z_NP S bk) (z_it S bk b) + z_NP S bk (z_it S bk b)
      unfold z_NP
      rw [ex]; rfl
theorem z_H.go {g : sx_F} {S : z_S} {bk e : Nat} {c : Int32} (H : z_H g S bk e) : z_H (sx_u g 0 33 c) S bk e := by
  unfold z_H at H ⊢
  rw [sx_u_s, pk_un (by decide), sx_u_n (by decide), sx_u_n (by decide), sx_u_n (by decide)]
  exact H
theorem k_place {t : Nat} {f g : sx_F} {o : Nat → Int64} {x y u : Int32} (h : z_I t f g) : P_case_place f g o x y u (z_I (t + 1)) := by
  have hI := h
  obtain ⟨S, R⟩ := h
  have W := R.2.2.1
  have hn := W.1
  unfold P_case_place P_L_place P_X6_place
  have bad : ∀ QQ : Int32 → sx_F → Prop, ((x < 0 ∨ nI 6 ≤ x) ∨ (y < 0 ∨ nI (S 0 0) ≤ y)) → QQ 0 (sx_u g 0 33 1) → P_X7_place g x y u QQ := by
    intro QQ hb q B19 B20 B43 B55 h19 h20 h43 h55
    have k : B19 g := h19 _ (h20 _ _ ⟨fun _ => h43 _ _ ⟨fun _ => h55 _ _ _ (m_goes_1 ⟨fun _ => q, fun c => absurd rfl c⟩), fun c => absurd rfl c⟩, fun c => absurd rfl c⟩)
    refine m_isBook ?_
    rcases z_b_cases (decide (¬ x < 0 ∧ ¬ nI 6 ≤ x)) with e | e
    · rw [e]; exact ⟨fun _ => k, fun c => absurd rfl c⟩
    · rw [e]
      refine ⟨fun c => absurd c (by decide), fun _ => m_isBar R.2.1.1 (by omega) ?_⟩
      rcases hb with hb | hb
      · rw [z_no hb] at e; exact absurd e (by decide)
      · rw [z_no hb]; exact ⟨fun _ => k, fun c => absurd rfl c⟩
  rcases pk_ix x (n := 6) (by omega) with hx | hx | ⟨bk, hbk, rfl⟩
  · exact x_needIndex_f (Or.inl hx) ⟨rfl, bad _ (Or.inl (Or.inl hx)) (z_finE z_33 (by decide) (hI.go _))⟩
  · exact x_needIndex_f (Or.inr hx) ⟨rfl, bad _ (Or.inl (Or.inr hx)) (z_finE z_33 (by decide) (hI.go _))⟩
  refine x_breakBook R (by omega) (fun f' w q p1 p2 p3 p4 p5 p6 fx Z' d11 d12 G Bk _ _ _ ln l63 => ?_)
  rw [Z'.1]
  rcases pk_ix y (n := S 0 0) (by omega) with hy | hy | ⟨b, hb, rfl⟩
  · exact x_needIndex_f (Or.inl hy) ⟨rfl, bad _ (Or.inr (Or.inl hy)) (z_finE z_33 (by decide) (hI.same fx (z_gx.go g _)))⟩
  · exact x_needIndex_f (Or.inr hy) ⟨rfl, bad _ (Or.inr (Or.inr hy)) (z_finE z_33 (by decide) (hI.same fx (z_gx.go g _)))⟩
  clear bad
  have hitn : z_it S bk (S 0 0) ≤ S 0 0 := z_cnt_le _
  have hmono : z_it S bk (b + 1) ≤ z_it S bk (S 0 0) := z_cnt_mono (show b + 1 ≤ S 0 0 from hb)
  obtain ⟨xb, c1, c2, c3, c4, c5⟩ := z_first (S := S) (bk := bk) b
  have hexb := z_xb_eq (S := S) (bk := bk) (show xb < S 0 0 by omega) c2
  have hlen := W.2.1 xb (by omega)
  have hdr := z_drw_le (S := S) (bk := bk) (b := xb) (by omega)
  have hnp := z_np_b (S := S) (dr := z_drw S bk xb) (b := xb) hlen.2
  have hsp := z_spb_le (bk := bk) W xb (by omega)
  have hWa : ∀ j, j < z_it S bk (S 0 0) → z_IW S bk j ≤ 768 := fun j hj => (z_IW_b W (by omega) hj).1
  have hTa : ∀ j, z_IT S bk j ≤ 1600 := fun j => z_IT_le
  have hLW : ∀ j, z_IL S bk j ≤ z_IW S bk j := fun j => by
    rw [← z_IL_eq, ← z_IW_eq]
    exact z_sm_le2 (fun e => z_swl.1) _
  have hW1 : ∀ j, j < z_it S bk (S 0 0) → 1 ≤ z_IW S bk j := fun j hj => Nat.le_trans (z_IW_b W (by omega) hj).2.1 (hLW j)
  have hNle := (z_Z_le (L := z_IL S bk) (q := q) p2 (show z_it S bk (S 0 0) ≤ 12 by omega) hWa hTa (z_it S bk (S 0 0)) 0 0 (by omega)).2.1
  have hend0 := z_path_end (L := z_IL S bk) (q := q) p2 (show z_it S bk (S 0 0) ≤ 12 by omega) hWa hTa
  have hpath := @z_path (z_it S bk (S 0 0)) (z_IW S bk) (z_IL S bk) (z_IT S bk) w q
  obtain ⟨l, l1, l2, l3⟩ := z_line (j := z_it S bk xb) _ (show z_it S bk xb < z_ps (z_Z (z_it S bk (S 0 0)) (z_IW S bk) (z_IL S bk) (z_IT S bk) w q) q _ by rw [hend0]; omega)
  have lend : z_ps (z_Z (z_it S bk (S 0 0)) (z_IW S bk) (z_IL S bk) (z_IT S bk) w q) q (l + 1) = z_it S bk (S 0 0) ↔ l + 1 = (z_Z (z_it S bk (S 0 0)) (z_IW S bk) (z_IL S bk) (z_IT S bk) w q 0 0).2.1 := by
    refine ⟨fun e => ?_, fun e => by rw [e]; exact hend0⟩
    obtain ⟨h1, h2, h3⟩ := hpath (l + 1) l1
    exact Nat.le_antisymm l1 (Nat.le_of_not_lt (fun z => by have := h3 z; omega))
  have lpI := (hpath (l + 1) l1).1
  -- the reference
  have ref : ∀ QQ : Int32 → sx_F → Prop, ((xb = b → ∀ i, i < z_np S (z_drw S bk xb) xb → u ≠ nI (z_st S (z_drw S bk xb) xb i)) → ∀ g', z_gx g g' → QQ 0 (sx_u g' 0 33 1)) → (xb = b → ∀ i, i < z_np S (z_drw S bk xb) xb → u = nI (z_st S (z_drw S bk xb) xb i) → (∀ k, k < i → u ≠ nI (z_st S (z_drw S bk xb) xb k)) → ∀ g', z_gx g g' → QQ (nI (z_plc (z_it S bk (S 0 0)) w (z_IW S bk) (z_IL S bk) (z_it S bk xb) (z_ps (z_Z (z_it S bk (S 0 0)) (z_IW S bk) (z_IL S bk) (z_IT S bk) w q) q l) (z_ps (z_Z (z_it S bk (S 0 0)) (z_IW S bk) (z_IL S bk) (z_IT S bk) w q) q (l + 1)) (z_sm (z_IW S bk) (z_it S bk xb) - z_sm (z_IW S bk) (z_ps (z_Z (z_it S bk (S 0 0)) (z_IW S bk) (z_IL S bk) (z_IT S bk) w q) q l) + z_sm (z_sw S (z_drw S bk xb) xb) i) (z_sm (z_IL S bk) (z_it S bk xb) - z_sm (z_IL S bk) (z_ps (z_Z (z_it S bk (S 0 0)) (z_IW S bk) (z_IL S bk) (z_IT S bk) w q) q l) + z_sm (z_sl S (z_drw S bk xb) xb) i))) (sx_u g' 0 33 0)) → P_X7_place g (nI bk) (nI b) u QQ := by
    intro QQ q0 q1 B19 B20 B43 B55 h19 h20 h43 h55
    refine m_isBook ?_
    rw [z_yes hbk (by omega)]
    refine ⟨fun c => absurd c (by decide), fun _ => m_isBar R.2.1.1 (by omega) ?_⟩
    rw [z_yes hb (by omega)]
    refine ⟨fun c => absurd c (by decide), fun _ => h20 _ _ ⟨fun c => absurd c (by decide), fun _ => m_lays R.2.1 W (by omega) p2 p3 p4 p5 p6 (fun g' gx gj gh gy _ e31 _ e25 => ?_)⟩⟩
    refine m_springAt W gh gy hb c1 c2 c3 (fun e i hi hu hk => ?_) (fun hu => ?_)
    · refine h43 _ _ ⟨fun z => absurd z (z_nm (by omega)), fun _ => h55 _ _ _ (m_goes_0 ⟨fun c => absurd c (by decide), fun _ => ?_⟩)⟩
      have fin := q1 e i hi hu hk g' gx
      have hJx : z_SW S bk (z_it S bk xb) = z_sw S (z_drw S bk xb) xb := by unfold z_SW; rw [hexb]
      have hJl : z_SL S bk (z_it S bk xb) = z_sl S (z_drw S bk xb) xb := by unfold z_SL; rw [hexb]
      have hJn : z_NP S bk (z_it S bk xb) = z_np S (z_drw S bk xb) xb := by unfold z_NP; rw [hexb]
      rw [← hJx, ← hJl] at fin
      rw [z_spb_it xb (by omega)]
      have hx : ∀ k, k < z_it S bk (S 0 0) → ∃ x, x < S 0 0 ∧ z_new S bk x = true ∧ z_it S bk x = k ∧ z_xb S bk k = x := fun k hk => by
        obtain ⟨x, hx, hnx, hjx⟩ := z_cnt_ex (p := z_new S bk) (S 0 0) k hk
        have hjx : z_it S bk x = k := hjx
        have ex := z_xb_eq hx hnx
        rw [hjx] at ex
        exact ⟨x, hx, hnx, hjx, ex⟩
      refine m_placeOf (I := z_it S bk (S 0 0)) (NP := z_NP S bk) (SW := z_SW S bk) (SL := z_SL S bk) (w := w) (l := l) (N := (z_Z (z_it S bk (S 0 0)) (z_IW S bk) (z_IL S bk) (z_IT S bk) w q 0 0).2.1) (fun QQ2 hq2 => m_itemWith gh.go hn hb (by rw [c3]; exact hq2)) (by omega) p2 (by rw [sx_u_s, pk_un (by decide)]; exact gh.1) (by rw [sx_u_s, pk_un (by decide), gx.2 6 (by omega)]; exact p5) (by rw [sx_u_s, pk_un (by decide)]; exact e31) (by omega) l1 lend (fun k hk => ?_) (fun k hk => ?_) (fun k e hk he => ?_) (fun k hk hk2 => ?_) (fun k hk hk2 => ?_) l2 l3 lpI (by rw [hJn]; exact hi) (fun k hk => ?_) (fun k e => z_swl.1) (fun k hk => ?_) ?_
      · rw [sx_u_n (by decide)]
        by_cases ek : k = z_it S bk (S 0 0)
        · rw [ek, gy.1 (S 0 0) (Nat.le_refl _) (Nat.le_refl _), z_spb_it _ (Nat.le_refl _)]
        · obtain ⟨x, hx, hnx, hjx, ex⟩ := hx k (by omega)
          rw [← hjx, gy.1 x (by omega) (by omega), z_spb_it x (by omega)]
      · obtain ⟨x, hx, hnx, hjx, ex⟩ := hx k hk
        unfold z_NP
        rw [ex]
        exact z_np_b (W.2.1 x hx).2
      · obtain ⟨x, hx, hnx, hjx, ex⟩ := hx k hk
        have F := (gy.2 x hx hnx (by omega)).1.at_
        unfold z_NP at he
        rw [ex] at he
        have F2 := (F e he).2
        rw [sx_u_n (by decide), sx_u_n (by decide)]
        rw [← hjx, ← z_spb_it x (by omega)]
        unfold z_SW z_SL
        rw [hjx, ex]
        exact F2
      · rw [sx_u_n (by decide)]
        exact e25 l k l1 hk hk2
      · rw [sx_u_n (by decide)]
        obtain ⟨l', m1, m2, m3⟩ := z_line (j := k) _ (show k < z_ps (z_Z (z_it S bk (S 0 0)) (z_IW S bk) (z_IL S bk) (z_IT S bk) w q) q _ by rw [hend0]; exact hk)
        rw [e25 l' k m1 m2 m3]
        intro z
        have : l' = l := (nI_eq (by omega) (by omega)).mp z
        subst this
        exact hk2 ⟨m2, m3⟩
      · have := hWa k hk
        rw [← z_IW_eq] at this
        exact this
      · have := hW1 k hk
        rw [← z_IW_eq] at this
        exact this
      · rw [z_IW_eq, z_IL_eq]
        exact fin
    · exact h43 _ _ ⟨fun _ => h55 _ _ _ (m_goes_1 ⟨fun _ => q0 hu g' gx, fun c => absurd rfl c⟩), fun c => absurd rfl c⟩
  refine x_needIndex_t hb (by omega) ?_
  unfold P_X0_drawSpring
  rw [nI_clamp (n := b) (by omega), G.2.2.1 b hb, c3, show z_it S bk xb + 1 - 1 = z_it S bk xb by omega]
  refine ⟨vp_in_nI (by omega) (by omega), nm_e ⟨vp_in_nI (by omega) (by omega), vp_in_nI (by omega) (by omega), ?_⟩⟩
  rw [nI_clamp (n := z_it S bk xb) (by omega), (G.2.1 xb (by omega) c2).1, (G.2.1 xb (by omega) c2).2]
  refine x_draw Z' W hdr (by omega) d11 d12 (fun f2 g1 D => ⟨vp_in_nI (by omega) (by omega), ?_⟩)
  have fx2 : z_fx f f2 := fx.trans ⟨fun k hk => g1 k (by omega) (by omega) (by omega) (by omega) (by omega), fun k j hk => by
    rcases hk with ⟨rfl, -⟩ | ⟨rfl, rfl | rfl | rfl | rfl⟩
    · rw [g1 19 (by decide) (by decide) (by decide) (by decide) (by decide)]
    · rw [D.1, d11]
    · rw [D.2.1, d12]
    · rw [g1 17 (by decide) (by decide) (by decide) (by decide) (by decide)]
    · rw [g1 18 (by decide) (by decide) (by decide) (by decide) (by decide)]⟩
  rw [g1 14 (by decide) (by decide) (by decide) (by decide) (by decide), (G.2.1 xb (by omega) c2).1]
  obtain ⟨D1, D2, D3⟩ := D.at_
  have none : ∀ P1 : Prop, (xb = b → ∀ i, i < z_np S (z_drw S bk xb) xb → u ≠ nI (z_st S (z_drw S bk xb) xb i)) → ((-1 : Int32) = -1 → ("java/lang/IndexOutOfBoundsException" = "java/lang/IndexOutOfBoundsException" ∧ P_X7_place g (nI bk) (nI b) u (fun b g1 => P_X7_thrown g1 (fun t_1 => t_1 = 1 ∧ ((1 : Int32) = 0 → o 0 = b.toInt64) ∧ z_I (t + 1) f2 g1)))) ∧ (¬ (-1 : Int32) = -1 → P1) := fun P1 hz => ⟨fun _ => ⟨rfl, ref _ (fun _ g' gx => z_finE z_33 (by decide) (hI.same fx2 (gx.trans (z_gx.go g' _)))) (fun e i hi hu _ => absurd hu (hz e i hi))⟩, fun c => absurd rfl c⟩
  refine pk_eq xb b (fun e => ?_) (fun e => none _ (fun z => absurd z e))
  refine x_springFrom D1 hnp D2 (fun i hi hu hk => ⟨fun z => absurd z (z_nm (by omega)), fun _ => ⟨vp_in_nI (by omega) (by omega), ?_⟩⟩) (fun hz => none _ (fun _ => hz))
  show P_X3_springAt f2 (f2 15 b) (nI i) _
  rw [g1 15 (by decide) (by decide) (by decide) (by decide) (by decide), G.2.2.1 b hb, c3, show z_it S bk xb + 1 - 1 = z_it S bk xb by omega]
  refine x_springAt (I := z_it S bk (S 0 0)) (W := z_IW S bk) (L := z_IL S bk) (T := z_IT S bk) (w := w) (q := q) (l := l) (p := z_ps (z_Z (z_it S bk (S 0 0)) (z_IW S bk) (z_IL S bk) (z_IT S bk) w q) q l) (p' := z_ps (z_Z (z_it S bk (S 0 0)) (z_IW S bk) (z_IL S bk) (z_IT S bk) w q) q (l + 1)) (Bk.cg (g1 8 (by decide) (by decide) (by decide) (by decide) (by decide)) (g1 17 (by decide) (by decide) (by decide) (by decide) (by decide)) (g1 18 (by decide) (by decide) (by decide) (by decide) (by decide)) (g1 19 (by decide) (by decide) (by decide) (by decide) (by decide)) (g1 20 (by decide) (by decide) (by decide) (by decide) (by decide))) (by omega) p2 hWa hLW hW1 (by omega) ?_ ?_ ?_ l2 l3 lpI (by omega) (D3 i (by omega)).1 (D3 i (by omega)).2 ?_ (z_sm_le2 (fun e => z_swl.1) i) (nm_e (ref _ (fun hz => absurd hu (hz e i hi)) (fun e2 i2 hi2 hu2 hk2 g' gx => ?_)))
  · rw [g1 64 (by decide) (by decide) (by decide) (by decide) (by decide)]
    exact ln.2 l _ l1 l2 l3
  · rw [g1 63 (by decide) (by decide) (by decide) (by decide) (by decide)]
    exact ln.1 l l1
  · rw [g1 63 (by decide) (by decide) (by decide) (by decide) (by decide)]
    by_cases el : l + 1 = (z_Z (z_it S bk (S 0 0)) (z_IW S bk) (z_IL S bk) (z_IT S bk) w q 0 0).2.1
    · rw [lend.mpr el, el]; exact l63
    · exact ln.1 (l + 1) (by omega)
  · have e1 : z_IW S bk (z_it S bk xb) = z_sm (z_sw S (z_drw S bk xb) xb) (z_np S (z_drw S bk xb) xb) := by
      unfold z_IW
      rw [hexb]
      exact z_Wb_sm.1
    rw [e1]
    exact z_sm_mono (by omega)
  · have ei : i = i2 := by
      rcases Nat.lt_trichotomy i i2 with z | z | z
      · exact absurd hu (hk2 i z)
      · exact z
      · exact absurd hu2 (hk i2 z)
    subst ei
    exact z_fin0 z_33 rfl (hI.same fx2 (gx.trans (z_gx.go g' _)))
