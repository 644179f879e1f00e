theorem k_width {t : Nat} {f g : sx_F} {o : Nat → Int64} {x y : Int32} (h : z_I t f g) : P_case_width f g o x y (z_I (t + 1)) := by
  have hI := h
  obtain ⟨S, R⟩ := h
  have W := R.2.2.1
  have hn := W.1
  obtain ⟨w, q, p1, p2, p3, p4, p5, p6, p7, p8, -⟩ := R.2.2.2.2.2.1
  unfold P_case_width P_L_width P_X6_width
  have bad1 : ∀ QQ : Int32 → sx_F → Prop, (x < 0 ∨ nI 6 ≤ x) → QQ 0 (sx_u g 0 33 1) → P_X7_width g x y QQ := by
    intro QQ hb q B14 B37 B38 h14 h37 h38
    refine m_isBook ?_
    rw [z_no hb]
    exact ⟨fun _ => h14 _ _ ⟨fun _ => h37 _ (h38 _ _ (m_goes_1 ⟨fun _ => q, fun c => absurd rfl c⟩)), fun c => absurd rfl c⟩, fun c => absurd rfl c⟩
  rcases pk_ix x (n := 6) (by omega) with hx | hx | ⟨bk, hbk, rfl⟩
  · exact x_needIndex_f (Or.inl hx) ⟨rfl, bad1 _ (Or.inl hx) (z_finE z_33 (by decide) (hI.go _))⟩
  · exact x_needIndex_f (Or.inr hx) ⟨rfl, bad1 _ (Or.inr hx) (z_finE z_33 (by decide) (hI.go _))⟩
  have hitn : z_it S bk (S 0 0) ≤ S 0 0 := z_cnt_le _
  have ref : ∀ QQ : Int32 → sx_F → Prop, ((y < 0 ∨ nI (z_it S bk (S 0 0)) ≤ y) → ∀ g', z_gx g g' → QQ 0 (sx_u g' 0 33 1)) → (∀ j, j < z_it S bk (S 0 0) → y = nI j → ∀ g', z_gx g g' → QQ (nI (8 + z_IW S bk j)) (sx_u g' 0 33 0)) → P_X7_width g (nI bk) y QQ := by
    intro QQ q1 q0 B14 B37 B38 h14 h37 h38
    refine m_isBook ?_
    rw [z_yes hbk (by omega)]
    refine ⟨fun c => absurd c (by decide), fun _ => m_lays R.2.1 W (by omega) p2 p3 p4 p6 p8 (fun g' gx gj gh yy _ _ _ _ => h14 _ _ ⟨fun c => absurd c (by decide), fun _ => ?_⟩)⟩
    rw [gh.1]
    rcases pk_ix y (n := z_it S bk (S 0 0)) (by omega) with hy | hy | ⟨j, hj, rfl⟩
    · exact m_in_f (Or.inl hy) ⟨fun _ => h37 _ (h38 _ _ (m_goes_1 ⟨fun _ => q1 (Or.inl hy) g' gx, fun c => absurd rfl c⟩)), fun c => absurd rfl c⟩
    · exact m_in_f (Or.inr ((z_pred y (by omega)).mpr hy)) ⟨fun _ => h37 _ (h38 _ _ (m_goes_1 ⟨fun _ => q1 (Or.inr hy) g' gx, fun c => absurd rfl c⟩)), fun c => absurd rfl c⟩
    · refine m_in_t (nI_pos (by omega)) (by rw [z_pred (nI j) (by omega)]; exact nI_ge hj (by omega)) ⟨fun c => absurd c (by decide), fun _ => h38 _ _ (m_goes_0 ⟨fun c => absurd c (by decide), fun _ => ⟨vp_in_nI (by omega) (by omega), ?_⟩⟩)⟩
      obtain ⟨xb, hxb, hnx, hjx⟩ := z_cnt_ex (p := z_new S bk) (S 0 0) j hj
      have hjx : z_it S bk xb = j := hjx
      have ex := z_xb_eq hxb hnx
      rw [hjx] at ex
      have e20 := (yy.2 xb hxb hnx (by omega)).2.1
      rw [hjx] at e20
      have q := q0 j hj rfl g' gx
      rw [nI_clamp (by omega), sx_u_n (by decide), e20]
      unfold z_IW at q
      rw [ex] at q
      exact q
  refine x_openBook R (by omega) (fun f' fx Z' _ _ _ _ G => ?_)
  rw [G.1]
  rcases pk_ix y (n := z_it S bk (S 0 0)) (by omega) with hy | hy | ⟨j, hj, rfl⟩
  · exact x_needIndex_f (Or.inl hy) ⟨rfl, ref _ (fun _ g' gx => z_finE z_33 (by decide) (hI.same fx (gx.trans (z_gx.go g' _)))) (fun j _ e => absurd hy (by rw [e]; exact nI_pos (by omega)))⟩
  · exact x_needIndex_f (Or.inr hy) ⟨rfl, ref _ (fun _ g' gx => z_finE z_33 (by decide) (hI.same fx (gx.trans (z_gx.go g' _)))) (fun j hj e => absurd hy (by rw [e]; exact nI_ge hj (by omega)))⟩
  refine x_needIndex_t hj (by omega) ?_
  unfold P_X0_widthOf
  rw [nI_1, nI_clamp (n := j + 1) (by omega), nI_clamp (n := j) (by omega), (G.sums (show j + 1 ≤ _ from hj)).1, (G.sums (show j ≤ _ by omega)).1, z_widI (z_IW S bk) (by omega), z_wid_1]
  refine ⟨vp_in_nI (by omega) (by omega), vp_in_nI (by omega) (by omega), nm_e (ref _ (fun z => absurd z (fun z => z.elim (nI_pos (by omega)) (nI_ge hj (by omega)))) (fun j' hj' e g' gx => ?_))⟩
  have ej : j = j' := (nI_eq (by omega) (by omega)).mp e
  subst ej
  exact z_fin0 z_33 rfl (hI.same fx (gx.trans (z_gx.go g' _)))
