theorem v_place {t : Nat} {f g : sx_F} {S : z_S} (R : z_R t f g S) {bk b w q l : Nat} {u : Int32} (hbk : bk ≤ 5) (hb : b < S 0 0) (h1 : g 0 6 = nI w) (h2 : w ≤ 500) (h3 : g 0 7 = nI q) (h4 : q ≤ 6) (c2 : z_new S bk b = true) (l1 : l < (z_Z (z_it S bk (S 0 0)) (z_IW S bk) (z_IL S bk) (z_IT S bk) w q 0 0).2.1) (l2 : z_ps (z_Z (z_it S bk (S 0 0)) (z_IW S bk) (z_IL S bk) (z_IT S bk) w q) q l ≤ z_it S bk b) (l3 : z_it S bk b < z_ps (z_Z (z_it S bk (S 0 0)) (z_IW S bk) (z_IL S bk) (z_IT S bk) w q) q (l + 1)) {Q : Int32 → sx_F → Prop} {X : String → sx_F → Prop}
    (q0 : (∀ i, i < z_np S (z_drw S bk b) b → u ≠ nI (z_st S (z_drw S bk b) b i)) → ∀ f', z_fx f f' → X "java/lang/IndexOutOfBoundsException" f')
    (q1 : ∀ i, i < z_np S (z_drw S bk b) b → u = nI (z_st S (z_drw S bk b) b i) → (∀ k, k < i → u ≠ nI (z_st S (z_drw S bk b) b k)) → ∀ f', z_fx f f' → Q (nI (z_plc (z_it S bk (S 0 0)) w (z_IW S bk) (z_IL S bk) (z_it S bk b) (z_ps (z_Z (z_it S bk (S 0 0)) (z_IW S bk) (z_IL S bk) (z_IT S bk) w q) q l) (z_ps (z_Z (z_it S bk (S 0 0)) (z_IW S bk) (z_IL S bk) (z_IT S bk) w q) q (l + 1)) (z_sm (z_IW S bk) (z_it S bk b) - z_sm (z_IW S bk) (z_ps (z_Z (z_it S bk (S 0 0)) (z_IW S bk) (z_IL S bk) (z_IT S bk) w q) q l) + z_sm (z_sw S (z_drw S bk b) b) i) (z_sm (z_IL S bk) (z_it S bk b) - z_sm (z_IL S bk) (z_ps (z_Z (z_it S bk (S 0 0)) (z_IW S bk) (z_IL S bk) (z_IT S bk) w q) q l) + z_sm (z_sl S (z_drw S bk b) b) i))) f') : P_X6_place f (nI bk) (nI b) u Q X := by
  have W := R.2.2.1
  have hn := W.1
  unfold P_X6_place
  refine x_breakBook R hbk (fun f' w' q' p1 p2 p3 p4 p5 p6 fx Z' d11 d12 G Bk _ _ _ ln l63 => ?_)
  obtain ⟨rfl, rfl⟩ := v_wq R h1 h2 h3 h4 p5 p2 p6 p4
  rw [Z'.1]
  have hitn : z_it S bk (S 0 0) ≤ S 0 0 := z_cnt_le _
  have hmono : z_it S bk (b + 1) ≤ z_it S bk (S 0 0) := z_cnt_mono (show b + 1 ≤ S 0 0 from hb)
  have c3 : z_it S bk (b + 1) = z_it S bk b + 1 := y_it_new c2
  have hexb := z_xb_eq (S := S) (bk := bk) hb c2
  have hlen := W.2.1 b hb
  have hdr := z_drw_le (S := S) (bk := bk) (b := b) hbk
  have hnp := z_np_b (S := S) (dr := z_drw S bk b) (b := b) hlen.2
  have hWa : ∀ j, j < z_it S bk (S 0 0) → z_IW S bk j ≤ 768 := fun j hj => (z_IW_b W hbk hj).1
  have hTa : ∀ j, z_IT S bk j ≤ 1600 := fun j => z_IT_le
  have hLW : ∀ j, z_IL S bk j ≤ z_IW S bk j := fun j => by
    rw [← z_IL_eq, ← z_IW_eq]
    exact z_sm_le2 (fun e => z_swl.1) _
  have hW1 : ∀ j, j < z_it S bk (S 0 0) → 1 ≤ z_IW S bk j := fun j hj => Nat.le_trans (z_IW_b W hbk hj).2.1 (hLW j)
  have hNle := (z_Z_le (L := z_IL S bk) (q := q') p2 (show z_it S bk (S 0 0) ≤ 12 by omega) hWa hTa (z_it S bk (S 0 0)) 0 0 (by omega)).2.1
  have hend0 := z_path_end (L := z_IL S bk) (q := q') p2 (show z_it S bk (S 0 0) ≤ 12 by omega) hWa hTa
  have hpath := @z_path (z_it S bk (S 0 0)) (z_IW S bk) (z_IL S bk) (z_IT S bk) w' q'
  have lend : z_ps (z_Z (z_it S bk (S 0 0)) (z_IW S bk) (z_IL S bk) (z_IT S bk) w' q') q' (l + 1) = z_it S bk (S 0 0) ↔ l + 1 = (z_Z (z_it S bk (S 0 0)) (z_IW S bk) (z_IL S bk) (z_IT S bk) w' q' 0 0).2.1 := by
    refine ⟨fun e => ?_, fun e => by rw [e]; exact hend0⟩
    obtain ⟨h1, h2, h3⟩ := hpath (l + 1) l1
    exact Nat.le_antisymm l1 (Nat.le_of_not_lt (fun z => by have := h3 z; omega))
  have lpI := (hpath (l + 1) l1).1
  refine x_needIndex_t hb (by omega) ?_
  unfold P_X0_drawSpring
  rw [nI_clamp (n := b) (by omega), G.2.2.1 b hb, c3, show z_it S bk b + 1 - 1 = z_it S bk b by omega]
  refine ⟨vp_in_nI (by omega) (by omega), nm_e ⟨vp_in_nI (by omega) (by omega), vp_in_nI (by omega) (by omega), ?_⟩⟩
  rw [nI_clamp (n := z_it S bk b) (by omega), (G.2.1 b hb c2).1, (G.2.1 b hb c2).2]
  refine x_draw Z' W hdr hb d11 d12 (fun f2 g1 D => ⟨vp_in_nI (by omega) (by omega), ?_⟩)
  have fx2 : z_fx f f2 := fx.trans ⟨fun k hk => g1 k (by omega) (by omega) (by omega) (by omega) (by omega), fun k j hk => by
    rcases hk with ⟨rfl, -⟩ | ⟨rfl, rfl | rfl | rfl | rfl⟩
    · rw [g1 19 (by decide) (by decide) (by decide) (by decide) (by decide)]
    · rw [D.1, d11]
    · rw [D.2.1, d12]
    · rw [g1 17 (by decide) (by decide) (by decide) (by decide) (by decide)]
    · rw [g1 18 (by decide) (by decide) (by decide) (by decide) (by decide)]⟩
  rw [g1 14 (by decide) (by decide) (by decide) (by decide) (by decide), (G.2.1 b hb c2).1]
  obtain ⟨D1, D2, D3⟩ := D.at_
  refine pk_eq b b (fun _ => ?_) (fun e => absurd rfl e)
  refine x_springFrom D1 hnp D2 (fun i hi hu hk => ⟨fun z => absurd z (z_nm (by omega)), fun _ => ⟨vp_in_nI (by omega) (by omega), ?_⟩⟩) (fun hz => ⟨fun _ => q0 hz f2 fx2, fun c => absurd rfl c⟩)
  show P_X3_springAt f2 (f2 15 b) (nI i) _
  rw [g1 15 (by decide) (by decide) (by decide) (by decide) (by decide), G.2.2.1 b hb, c3, show z_it S bk b + 1 - 1 = z_it S bk b by omega]
  refine x_springAt (I := z_it S bk (S 0 0)) (W := z_IW S bk) (L := z_IL S bk) (T := z_IT S bk) (w := w') (q := q') (l := l) (p := z_ps (z_Z (z_it S bk (S 0 0)) (z_IW S bk) (z_IL S bk) (z_IT S bk) w' q') q' l) (p' := z_ps (z_Z (z_it S bk (S 0 0)) (z_IW S bk) (z_IL S bk) (z_IT S bk) w' q') q' (l + 1)) (Bk.cg (g1 8 (by decide) (by decide) (by decide) (by decide) (by decide)) (g1 17 (by decide) (by decide) (by decide) (by decide) (by decide)) (g1 18 (by decide) (by decide) (by decide) (by decide) (by decide)) (g1 19 (by decide) (by decide) (by decide) (by decide) (by decide)) (g1 20 (by decide) (by decide) (by decide) (by decide) (by decide))) (by omega) p2 hWa hLW hW1 (by omega) ?_ ?_ ?_ l2 l3 lpI (by omega) (D3 i (by omega)).1 (D3 i (by omega)).2 ?_ (z_sm_le2 (fun e => z_swl.1) i) (q1 i hi hu hk f2 fx2)
  · rw [g1 64 (by decide) (by decide) (by decide) (by decide) (by decide)]
    exact ln.2 l _ l1 l2 l3
  · rw [g1 63 (by decide) (by decide) (by decide) (by decide) (by decide)]
    exact ln.1 l l1
  · rw [g1 63 (by decide) (by decide) (by decide) (by decide) (by decide)]
    by_cases el : l + 1 = (z_Z (z_it S bk (S 0 0)) (z_IW S bk) (z_IL S bk) (z_IT S bk) w' q' 0 0).2.1
    · rw [lend.mpr el, el]; exact l63
    · exact ln.1 (l + 1) (by omega)
  · have e1 : z_IW S bk (z_it S bk b) = z_sm (z_sw S (z_drw S bk b) b) (z_np S (z_drw S bk b) b) := by
      unfold z_IW
      rw [hexb]
      exact z_Wb_sm.1
    rw [e1]
    exact z_sm_mono (by omega)
