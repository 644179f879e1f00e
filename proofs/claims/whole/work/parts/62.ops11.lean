theorem k_lines {t : Nat} {f g : sx_F} {o : Nat → Int64} {x : Int32} (h : z_I t f g) : P_case_lines f g o x (z_I (t + 1)) := by
  have hI := h
  obtain ⟨S, R⟩ := h
  unfold P_case_lines P_L_lines P_X6_lines
  have bad : ∀ QQ : Int32 → sx_F → Prop, (x < 0 ∨ nI 6 ≤ x) → QQ 0 (sx_u g 0 33 1) → P_X7_lines g x QQ := by
    intro QQ hb q
    refine m_isBook ?_
    rw [z_no hb]
    exact m_goes_1 ⟨fun _ => q, fun c => absurd rfl c⟩
  rcases pk_ix x (n := 6) (by omega) with hx | hx | ⟨bk, hbk, rfl⟩
  · exact x_needIndex_f (Or.inl hx) ⟨rfl, bad _ (Or.inl hx) (z_finE z_33 (by decide) (hI.go _))⟩
  · exact x_needIndex_f (Or.inr hx) ⟨rfl, bad _ (Or.inr hx) (z_finE z_33 (by decide) (hI.go _))⟩
  refine x_breakBook R (by omega) (fun f' w q p1 p2 p3 p4 p5 p6 fx _ _ _ _ _ _ u1 _ _ _ => nm_e ?_)
  refine m_isBook ?_
  rw [z_yes hbk (by omega)]
  refine m_goes_0 ⟨fun c => absurd c (by decide), fun _ => m_lays (R.2.1.gx (z_gx.go g 0)) R.2.2.1 (by omega) p2 p3 p4 (by rw [sx_u_s, pk_un (by decide)]; exact p5) (by rw [sx_u_s, pk_un (by decide)]; exact p6) (fun g' gx gj _ _ _ v1 _ _ => z_fin0 (by rw [gj 33 (by decide) (by decide) (by decide)]; exact z_33) ?_ (hI.same fx ((z_gx.go g 0).trans gx)))⟩
  rw [u1, v1]
theorem k_turns {t : Nat} {f g : sx_F} {o : Nat → Int64} {x : Int32} (h : z_I t f g) : P_case_turns f g o x (z_I (t + 1)) := by
  have hI := h
  obtain ⟨S, R⟩ := h
  unfold P_case_turns P_L_turns P_X6_turns
  have bad : ∀ QQ : Int32 → sx_F → Prop, (x < 0 ∨ nI 6 ≤ x) → QQ 0 (sx_u g 0 33 1) → P_X7_turns g x QQ := by
    intro QQ hb q
    refine m_isBook ?_
    rw [z_no hb]
    exact m_goes_1 ⟨fun _ => q, fun c => absurd rfl c⟩
  rcases pk_ix x (n := 6) (by omega) with hx | hx | ⟨bk, hbk, rfl⟩
  · exact x_needIndex_f (Or.inl hx) ⟨rfl, bad _ (Or.inl hx) (z_finE z_33 (by decide) (hI.go _))⟩
  · exact x_needIndex_f (Or.inr hx) ⟨rfl, bad _ (Or.inr hx) (z_finE z_33 (by decide) (hI.go _))⟩
  refine x_breakBook R (by omega) (fun f' w q p1 p2 p3 p4 p5 p6 fx _ _ _ _ _ _ _ u2 _ _ => nm_e ?_)
  refine m_isBook ?_
  rw [z_yes hbk (by omega)]
  refine m_goes_0 ⟨fun c => absurd c (by decide), fun _ => m_lays (R.2.1.gx (z_gx.go g 0)) R.2.2.1 (by omega) p2 p3 p4 (by rw [sx_u_s, pk_un (by decide)]; exact p5) (by rw [sx_u_s, pk_un (by decide)]; exact p6) (fun g' gx gj _ _ _ _ v2 _ => z_fin0 (by rw [gj 33 (by decide) (by decide) (by decide)]; exact z_33) ?_ (hI.same fx ((z_gx.go g 0).trans gx)))⟩
  rw [u2, v2]
theorem k_cost {t : Nat} {f g : sx_F} {o : Nat → Int64} {x : Int32} (h : z_I t f g) : P_case_cost f g o x (z_I (t + 1)) := by
  have hI := h
  obtain ⟨S, R⟩ := h
  unfold P_case_cost P_L_cost P_X6_cost
  have bad : ∀ QQ : Int32 → sx_F → Prop, (x < 0 ∨ nI 6 ≤ x) → QQ 0 (sx_u g 0 33 1) → P_X7_cost g x QQ := by
    intro QQ hb q
    refine m_isBook ?_
    rw [z_no hb]
    exact m_goes_1 ⟨fun _ => q, fun c => absurd rfl c⟩
  rcases pk_ix x (n := 6) (by omega) with hx | hx | ⟨bk, hbk, rfl⟩
  · exact x_needIndex_f (Or.inl hx) ⟨rfl, bad _ (Or.inl hx) (z_finE z_33 (by decide) (hI.go _))⟩
  · exact x_needIndex_f (Or.inr hx) ⟨rfl, bad _ (Or.inr hx) (z_finE z_33 (by decide) (hI.go _))⟩
  refine x_breakBook R (by omega) (fun f' w q p1 p2 p3 p4 p5 p6 fx _ _ _ _ _ rw0 _ _ _ _ => ⟨by unfold vp_in; decide, nm_e ⟨by unfold vp_in; decide, nm_e ?_⟩⟩)
  rw [sb_cl0, show f' (22 + 0) 0 = _ from (rw0 0 0 (Nat.le_refl _) (Nat.zero_le _) (by omega)).1]
  refine m_isBook ?_
  rw [z_yes hbk (by omega)]
  refine m_goes_0 ⟨fun c => absurd c (by decide), fun _ => m_lays (R.2.1.gx (z_gx.go g 0)) R.2.2.1 (by omega) p2 p3 p4 (by rw [sx_u_s, pk_un (by decide)]; exact p5) (by rw [sx_u_s, pk_un (by decide)]; exact p6) (fun g' gx gj gh _ rm _ _ _ => ?_)⟩
  have e22 := (rm 0 0 (Nat.le_refl _) (Nat.zero_le _) (by omega)).1
  rw [gh.1, sb_cl0]
  refine ⟨fun y => z_fin0 (by rw [gj 33 (by decide) (by decide) (by decide)]; exact z_33) ?_ (hI.same fx ((z_gx.go g 0).trans gx)), fun y => ⟨by unfold vp_in; decide, z_fin0 (by rw [gj 33 (by decide) (by decide) (by decide)]; exact z_33) ?_ (hI.same fx ((z_gx.go g 0).trans gx))⟩⟩
  · have i0 : z_it S bk (S 0 0) = 0 := by
      have hle : z_it S bk (S 0 0) ≤ S 0 0 := z_cnt_le _
      have hn := R.2.2.1.1
      exact (nI_eq (a := z_it S bk (S 0 0)) (b := 0) (by omega) (by omega)).mp y
    rw [i0, z_Z_end]; rfl
  · rw [show g' 22 0 = _ from e22]
