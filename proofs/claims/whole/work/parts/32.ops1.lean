theorem k_bar {t : Nat} {f g : sx_F} {o : Nat → Int64} {x : Int32} (ht : t < 1000000) (h : z_I t f g) : P_case_bar f g o x (z_I (t + 1)) := by
  obtain ⟨S, R⟩ := h
  have hn := R.2.2.1.1
  unfold P_case_bar P_L_bar P_X6_bar
  by_cases c1 : x < 1 ∨ 32 < x
  · refine x_needValue_f c1 (Or.inl ⟨rfl, ?_⟩)
    intro B hB
    refine m_in_f c1 ?_
    have k : ∀ y, B g 0 y := fun y => hB _ _ _ (m_goes_1 ⟨fun _ => z_finE z_33 (by decide) (z_I.go ⟨S, R⟩ _), fun c => absurd rfl c⟩)
    exact ⟨fun _ => k 0, fun _ => k 1⟩
  · have h1 : ¬ x < 1 := fun c => c1 (Or.inl c)
    have h2 : ¬ 32 < x := fun c => c1 (Or.inr c)
    refine x_needValue_t h1 h2 ?_
    rw [R.1.1]
    refine pk_lt (S 0 0) 12 (fun c => ?_) (fun c => Or.inr ⟨rfl, ?_⟩)
    · obtain ⟨j, hj, rfl⟩ : ∃ j : Nat, j ≤ 32 ∧ x = nI j := nI_of2 (M := 32) rfl (fun z => h1 (Int32.lt_trans z (by decide))) (Int32.not_lt.mp h2)
      have hj1 : 1 ≤ j := Nat.le_of_not_lt (fun z => h1 (nI_lt (a := j) (b := 1) z (by omega)))
      have hfx := R.1
      have hM := R.2.1
      refine ⟨?_, nm_e ⟨?_, ?_, nm_e (nm_e (nm_e ?_))⟩⟩
      · rw [R.1.1]; exact vp_in_nI c (by omega)
      · simp (disch := decide) only [sx_u_n]; rw [R.1.1]; exact vp_in_nI (by omega) (by omega)
      · simp (disch := decide) only [sx_u_n]; rw [R.1.1, nI_1]; exact vp_in_nI (by omega) (by omega)
      simp (disch := decide) only [sx_u_n, sx_u_s, pk_us]
      intro B hB
      refine m_in_t h1 h2 ?_
      rw [R.2.1.1]
      refine pk_le 12 (S 0 0) (fun z => absurd z (by omega)) (fun _ => hB _ _ _ (m_goes_0 ⟨fun z => absurd z (by decide), fun _ => ?_⟩))
      have hg0 : (sx_u g 0 33 0) 0 5 = nI (S 0 0) := by rw [sx_u_s, pk_un (by decide)]; exact R.2.1.1
      have hg1 : sx_u g 0 33 0 1 = g 1 := sx_u_n (by decide)
      refine ⟨?_, nm_e (nm_e ?_)⟩
      · rw [hg0]; exact vp_in_nI c (by omega)
      refine z_fin0T (by rw [sx_u_s, pk_un (by decide), sx_u_n (by decide)]; exact z_33) (by rw [sx_u_s, pk_us, sx_u_n (by decide), hg0, R.1.1]) ?_
      rw [sx_u_n (by decide : (0 : Nat) ≠ 1), hg0, R.1.1, nI_1, nI_clamp (by omega), nI_clamp (by omega)]
      have tm := R.2.2.2.1 (S 0 0) (Nat.le_refl _)
      rw [tm, nI_add]
      refine ⟨z_u (z_u S 1 (S 0 0) j) 0 0 (S 0 0 + 1), ⟨?_, ?_, ?_, ?_, ?_⟩, ⟨?_, ?_, ?_, ?_, ?_⟩, ⟨?_, ?_, ?_, ?_, ?_, ?_, ?_⟩, ?_, ?_, ?_, ?_, ?_, ?_⟩
      · simp (disch := decide) only [sx_u_n, sx_u_s, pk_us, z_us]
      · intro k hk
        simp (disch := decide) only [sx_u_n, sx_u_s, z_un1]
        by_cases e : k = S 0 0
        · rw [e, pk_us, z_us]
        · rw [pk_un e, z_un (Or.inr e)]; exact R.1.2.1 k hk
      · intro k hk
        simp (disch := decide) only [sx_u_n, z_un1]
        exact R.1.2.2.1 k hk
      · intro k hk
        simp (disch := decide) only [sx_u_n, z_un1]
        exact R.1.2.2.2.1 k hk
      · intro k hk
        simp (disch := decide) only [sx_u_n, z_un1]
        exact R.1.2.2.2.2 k hk
      · simp (disch := decide) only [sx_u_n, sx_u_s, pk_us, z_us]
      · intro k hk
        simp (disch := decide) only [sx_u_n, sx_u_s, z_un1]
        by_cases e : k = S 0 0
        · rw [e, pk_us, z_us]
        · rw [pk_un e, z_un (Or.inr e)]; exact R.2.1.2.1 k hk
      · intro k hk
        simp (disch := decide) only [sx_u_n, z_un1]
        exact R.2.1.2.2.1 k hk
      · intro k hk
        simp (disch := decide) only [sx_u_n, z_un1]
        exact R.2.1.2.2.2.1 k hk
      · intro k hk
        simp (disch := decide) only [sx_u_n, z_un1]
        exact R.2.1.2.2.2.2 k hk
      · rw [z_us]; omega
      · intro k hk
        rw [z_us] at hk
        rw [z_un (Or.inl (by decide))]
        by_cases e : k = S 0 0
        · rw [e, z_us]; omega
        · rw [z_un (Or.inr e)]; exact R.2.2.1.2.1 k (by omega)
      · intro s hs
        rw [z_un (Or.inl (by decide)), z_un (Or.inl (by decide))]
        exact R.2.2.1.2.2.1 s hs
      · intro s hs
        rw [z_un (Or.inl (by decide)), z_un (Or.inl (by decide)), z_un (Or.inl (by decide)), z_un (Or.inl (by decide))]
        exact R.2.2.1.2.2.2.1 s hs
      · intro s k hs
        rw [z_un (Or.inl (by decide)), z_un (Or.inl (by decide)), z_un (Or.inl (by decide)), z_un (Or.inl (by decide))]
        exact R.2.2.1.2.2.2.2.1 s k hs
      · intro i b hi hb
        rw [z_us] at hb
        rw [z_fl_c (S := S) _ (fun k _ => by rw [z_un (Or.inl (by decide)), z_un (Or.inl (by decide))]), z_un (Or.inl (by decide)), z_un (Or.inl (by decide)), z_un (k := 0) (Or.inl (by decide))]
        by_cases e : b = S 0 0
        · rw [e, R.2.2.1.2.2.2.2.2.2 i (S 0 0) hi c (Nat.le_refl _)]
          exact Nat.zero_le _
        · rw [z_un (Or.inr e)]
          exact R.2.2.1.2.2.2.2.2.1 i b hi (by omega)
      · intro i b hi hb hb2
        rw [z_us] at hb2
        rw [z_un (Or.inl (by decide)), z_un (Or.inl (by decide))]
        exact R.2.2.1.2.2.2.2.2.2 i b hi hb (by omega)
      · intro k hk
        rw [z_us] at hk
        have e2 : ∀ i, i ≤ S 0 0 → z_tm (z_u (z_u S 1 (S 0 0) j) 0 0 (S 0 0 + 1)) i = z_tm S i := fun i hi => z_tm_c i (fun q hq => by rw [z_un1 (by decide), z_un (Or.inr (by omega))])
        simp (disch := decide) only [sx_u_n, sx_u_s]
        by_cases e : k = S 0 0 + 1
        · rw [e, pk_us]
          show _ = nI (z_tm (z_u (z_u S 1 (S 0 0) j) 0 0 (S 0 0 + 1)) (S 0 0) + z_u (z_u S 1 (S 0 0) j) 0 0 (S 0 0 + 1) 1 (S 0 0))
          rw [e2 _ (Nat.le_refl _), z_un1 (by decide), z_us]
        · rw [pk_un e, e2 k (by omega)]
          exact R.2.2.2.1 k (by omega)
      · intro s hs
        simp (disch := decide) only [sx_u_n]
        obtain ⟨a1, v, hv, a2⟩ := R.2.2.2.2.1 s hs
        exact ⟨a1, v, by omega, a2⟩
      · obtain ⟨w, q, a⟩ := R.2.2.2.2.2.1
        refine ⟨w, q, ?_⟩
        simp (disch := decide) only [sx_u_n, sx_u_s, pk_un]
        exact a
      · exact R.2.2.2.2.2.2.1.sc (fun k hk => by rw [sx_u_n (by omega), sx_u_n (by omega), sx_u_n (by omega)]) (by simp (disch := decide) only [sx_u_n]) (by simp (disch := decide) only [sx_u_n, sx_u_s, pk_un]) (by simp (disch := decide) only [sx_u_n]) (by simp (disch := decide) only [sx_u_n]) (by simp (disch := decide) only [sx_u_n])
      · simp (disch := decide) only [sx_u_n, sx_u_s, pk_un]
        exact R.2.2.2.2.2.2.2.1
      · exact R.mono.2.2.2.2.2.2.2.2.sc (fun k hk => by rw [sx_u_n (by omega), sx_u_n (by omega), sx_u_n (by omega)]) (by simp (disch := decide) only [sx_u_n]) (by simp (disch := decide) only [sx_u_n]) (by simp (disch := decide) only [sx_u_n]) (by simp (disch := decide) only [sx_u_n]) (by simp (disch := decide) only [sx_u_n])
    · intro B hB
      refine m_in_t h1 h2 ?_
      rw [R.2.1.1]
      exact pk_le 12 (S 0 0) (fun _ => hB _ _ _ (m_goes_2 ⟨fun _ => z_finE z_33 (by decide) (z_I.go ⟨S, R⟩ _), fun c => absurd rfl c⟩)) (fun z => absurd z (by omega))
