theorem z_line {Z : Nat → Nat → Nat × Nat × Nat} {q j : Nat} : ∀ n, j < z_ps Z q n → ∃ l, l < n ∧ z_ps Z q l ≤ j ∧ j < z_ps Z q (l + 1)
  | 0, h => absurd h (Nat.not_lt_zero _)
  | n + 1, h => by
    by_cases c : j < z_ps Z q n
    · obtain ⟨l, h1, h2, h3⟩ := z_line n c
      exact ⟨l, by omega, h2, h3⟩
    · exact ⟨n, by omega, by omega, h⟩
theorem k_lineOf {t : Nat} {f g : sx_F} {o : Nat → Int64} {x y : Int32} (h : z_I t f g) : P_case_lineOf f g o x y (z_I (t + 1)) := by
  have hI := h
  obtain ⟨S, R⟩ := h
  have W := R.2.2.1
  have hn := W.1
  unfold P_case_lineOf P_L_lineOf P_X6_lineOf
  have bad : ∀ QQ : Int32 → sx_F → Prop, ((x < 0 ∨ nI 6 ≤ x) ∨ (y < 0 ∨ nI (S 0 0) ≤ y)) → QQ 0 (sx_u g 0 33 1) → P_X7_lineOf g x y QQ := by
    intro QQ hb q B20 B21 h20 h21
    have k : B20 g := h20 _ (h21 _ _ (m_goes_1 ⟨fun _ => q, fun c => absurd rfl c⟩))
    refine m_isBook ?_
    rcases z_b_cases (decide (¬ x < 0 ∧ ¬ nI 6 ≤ x)) with e | e
    · rw [e]; exact ⟨fun _ => k, fun c => absurd rfl c⟩
    · rw [e]
      refine ⟨fun c => absurd c (by decide), fun _ => m_isBar R.2.1.1 (by omega) ?_⟩
      rcases hb with hb | hb
      · rw [z_no hb] at e; exact absurd e (by decide)
      · rw [z_no hb]; exact ⟨fun _ => k, fun c => absurd rfl c⟩
  rcases pk_ix x (n := 6) (by omega) with hx | hx | ⟨bk, hbk, rfl⟩
  · exact x_needIndex_f (Or.inl hx) ⟨rfl, bad _ (Or.inl (Or.inl hx)) (z_finE z_33 (by decide) (hI.go _))⟩
  · exact x_needIndex_f (Or.inr hx) ⟨rfl, bad _ (Or.inl (Or.inr hx)) (z_finE z_33 (by decide) (hI.go _))⟩
  refine x_breakBook R (by omega) (fun f' w q p1 p2 p3 p4 p5 p6 fx Z' _ _ G _ _ _ _ ln _ => ?_)
  rw [Z'.1]
  rcases pk_ix y (n := S 0 0) (by omega) with hy | hy | ⟨b, hb, rfl⟩
  · exact x_needIndex_f (Or.inl hy) ⟨rfl, bad _ (Or.inr (Or.inl hy)) (z_finE z_33 (by decide) (hI.same fx (z_gx.go g _)))⟩
  · exact x_needIndex_f (Or.inr hy) ⟨rfl, bad _ (Or.inr (Or.inr hy)) (z_finE z_33 (by decide) (hI.same fx (z_gx.go g _)))⟩
  have hitn : z_it S bk (S 0 0) ≤ S 0 0 := z_cnt_le _
  have hp := z_it_pos (S := S) (bk := bk) (show 0 < b + 1 by omega)
  have hmono : z_it S bk (b + 1) ≤ z_it S bk (S 0 0) := z_cnt_mono (show b + 1 ≤ S 0 0 from hb)
  refine x_needIndex_t hb (by omega) ⟨vp_in_nI (by omega) (by omega), ?_⟩
  rw [nI_clamp (n := b) (by omega), G.2.2.1 b hb]
  refine ⟨vp_in_nI (by omega) (by omega), nm_e ?_⟩
  have hend := z_path_end (I := z_it S bk (S 0 0)) (W := z_IW S bk) (L := z_IL S bk) (T := z_IT S bk) (w := w) (q := q) p2 (by omega) (fun j hj => (z_IW_b W (by omega) hj).1) (fun j => z_IT_le)
  obtain ⟨l, l1, l2, l3⟩ := z_line (j := z_it S bk (b + 1) - 1) _ (show z_it S bk (b + 1) - 1 < z_ps (z_Z (z_it S bk (S 0 0)) (z_IW S bk) (z_IL S bk) (z_IT S bk) w q) q _ by rw [hend]; omega)
  rw [nI_clamp (n := z_it S bk (b + 1) - 1) (by omega), ln.2 l _ l1 l2 l3]
  intro B20 B21 h20 h21
  refine m_isBook ?_
  rw [z_yes hbk (by omega)]
  refine ⟨fun c => absurd c (by decide), fun _ => m_isBar R.2.1.1 (by omega) ?_⟩
  rw [z_yes hb (by omega)]
  refine ⟨fun c => absurd c (by decide), fun _ => h21 _ _ (m_goes_0 ⟨fun c => absurd c (by decide), fun _ => m_lays (R.2.1.gx (z_gx.go g 0)) W (by omega) p2 p3 p4 (by rw [sx_u_s, pk_un (by decide)]; exact p5) (by rw [sx_u_s, pk_un (by decide)]; exact p6) (fun g' gx gj gh _ _ _ _ v3 => m_itemWith gh hn hb ⟨vp_in_nI (by omega) (by omega), z_fin0 (by rw [gj 33 (by decide) (by decide) (by decide)]; exact z_33) ?_ (hI.same fx ((z_gx.go g 0).trans gx))⟩)⟩)⟩
  rw [nI_clamp (by omega), v3 l _ l1 l2 l3]
