theorem k_costByAll {t : Nat} {f g : sx_F} {o : Nat → Int64} {x : Int32} (h : z_I t f g) : P_case_costByAll f g o x (z_I (t + 1)) := by
  have hI := h
  obtain ⟨S, R⟩ := h
  have W := R.2.2.1
  have hn := W.1
  obtain ⟨w, q, p1, p2, p3, p4, p5, p6, p7, p8, -⟩ := R.2.2.2.2.2.1
  unfold P_case_costByAll P_L_costByAll P_X6_costByAll
  have bad : ∀ QQ : Int32 → sx_F → Prop, (x < 0 ∨ nI 6 ≤ x) → QQ 0 (sx_u g 0 33 1) → P_X7_costByAll g x QQ := by
    intro QQ hb q
    show P_X7_cost g x _
    refine m_isBook ?_
    rw [z_no hb]
    exact m_goes_1 ⟨fun _ => q, fun c => absurd rfl c⟩
  rcases pk_ix x (n := 6) (by omega) with hx | hx | ⟨bk, hbk, rfl⟩
  · exact x_needIndex_f (Or.inl hx) ⟨rfl, bad _ (Or.inl hx) (z_finE z_33 (by decide) (hI.go _))⟩
  · exact x_needIndex_f (Or.inr hx) ⟨rfl, bad _ (Or.inr hx) (z_finE z_33 (by decide) (hI.go _))⟩
  have hitn : z_it S bk (S 0 0) ≤ S 0 0 := z_cnt_le _
  refine x_openBook R (by omega) (fun f' fx Z' f19 _ _ h8 G => ?_)
  refine x_priceTurns Z' W (by omega) h8 G (fun f1 a1 a2 a3 => ?_)
  have hB : z_Bk f1 (z_it S bk (S 0 0)) (z_IW S bk) (z_IL S bk) (z_IT S bk) w q := by
    refine ⟨by rw [a1 8 (by decide)]; exact G.1, fun j hj => by rw [a1 17 (by decide), a1 18 (by decide)]; exact G.sums hj, fun j hj => ?_, by rw [a1 19 (by decide), f19 19 (by omega)]; exact p5, by rw [a1 19 (by decide), f19 19 (by omega)]; exact p7⟩
    unfold z_IT
    by_cases e : j < z_it S bk (S 0 0)
    · rw [if_pos e]
      obtain ⟨x, hx, hnx, hjx⟩ := z_cnt_ex (p := z_new S bk) (S 0 0) j e
      have hjx : z_it S bk x = j := hjx
      have ex := z_xb_eq hx hnx
      rw [hjx] at ex
      rw [ex, ← hjx]
      exact a2 x hx hnx
    · rw [if_neg e, show j = z_it S bk (S 0 0) by omega]
      exact a3
  have fx1 : z_fx f f1 := fx.trans ⟨fun k hk => a1 k (by omega), fun k j hk => by rw [a1 k (by omega)]⟩
  refine x_leastOfAllWays hB (by omega) p2 p4 (fun j hj => (z_IW_b W (by omega) hj).1) (fun j hj => (z_IW_b W (by omega) hj).2.2) (fun j => z_IT_le) (z_it S bk (S 0 0)) 14 0 0 0 (by omega) (by omega) (by omega) (by omega) _ (nm_e ?_)
  show P_X7_cost g (nI bk) _
  refine m_isBook ?_
  rw [z_yes hbk (by omega)]
  refine m_goes_0 ⟨fun c => absurd c (by decide), fun _ => m_lays (R.2.1.gx (z_gx.go g 0)) R.2.2.1 (by omega) p2 p3 p4 (by rw [sx_u_s, pk_un (by decide)]; exact p6) (by rw [sx_u_s, pk_un (by decide)]; exact p8) (fun g' gx gj gh _ rm _ _ _ => ?_)⟩
  have e22 := (rm 0 0 (Nat.le_refl _) (Nat.zero_le _) (by omega)).1
  rw [gh.1, sb_cl0]
  refine ⟨fun y => z_fin0 (by rw [gj 33 (by decide) (by decide) (by decide)]; exact z_33) ?_ (hI.same fx1 ((z_gx.go g 0).trans gx)), fun y => ⟨by unfold vp_in; decide, z_fin0 (by rw [gj 33 (by decide) (by decide) (by decide)]; exact z_33) ?_ (hI.same fx1 ((z_gx.go g 0).trans gx))⟩⟩
  · have i0 : z_it S bk (S 0 0) = 0 := by
      have hle : z_it S bk (S 0 0) ≤ S 0 0 := z_cnt_le _
      have hn := R.2.2.1.1
      exact (nI_eq (a := z_it S bk (S 0 0)) (b := 0) (by omega) (by omega)).mp y
    rw [i0, z_Z_end]; rfl
  · rw [show g' 22 0 = _ from e22]
