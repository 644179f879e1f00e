theorem z_R.cp {t : Nat} {f g f' g' : sx_F} {S : z_S} (R : z_R t f g S) (hf : ∀ k, ((1 ≤ k ∧ k ≤ 65) ∨ 99 ≤ k) → f' k = f k) (hg : ∀ k, ((1 ≤ k ∧ k ≤ 5) ∨ 9 ≤ k) → g' k = g k) (hg0 : ∀ j, (j = 5 ∨ j = 6 ∨ j = 7) → g' 0 j = g 0 j) (hC : z_C f' g') (h6 : f' 0 6 = g' 0 12) : z_R (t + 1) f' g' S := by
  obtain ⟨R1, R2, R3, R4, R5, R6, R7, R8, R9⟩ := R.mono
  refine ⟨?_, ?_, R3, ?_, ?_, ?_, hC, h6, ?_⟩
  · unfold z_X at R1 ⊢
    simp (disch := omega) only [hf]
    exact R1
  · unfold z_M at R2 ⊢
    simp (disch := omega) only [hg, hg0]
    exact R2
  · unfold z_T at R4 ⊢
    simp (disch := omega) only [hf]
    exact R4
  · unfold z_V at R5 ⊢
    simp (disch := omega) only [hf, hg]
    exact R5
  · unfold z_P at R6 ⊢
    simp (disch := omega) only [hf, hg0]
    exact R6
  · unfold z_D z_D1 z_D2 at R9 ⊢
    simp (disch := omega) only [hf, hg]
    exact R9
theorem k_copy {t : Nat} {f g : sx_F} {o : Nat → Int64} {x : Int32} (h : z_I t f g) : P_case_copy f g o x (z_I (t + 1)) := by
  have hI := h
  obtain ⟨S, R⟩ := h
  obtain ⟨m, hm, e1, e2, C1, C2⟩ := R.2.2.2.2.2.2.1
  unfold P_case_copy P_L_copy P_X6_copy
  have bad : ∀ QQ : Int32 → sx_F → Prop, (x < 0 ∨ nI 5 ≤ x) → QQ 0 (sx_u g 0 33 1) → P_X7_copy g x QQ := by
    intro QQ hb q B hB
    have k : ∀ y, B g 0 y := fun y => hB _ _ _ (m_goes_1 ⟨fun _ => q, fun c => absurd rfl c⟩)
    refine m_isInstrument ?_
    rw [z_no hb]
    exact ⟨fun _ => k 0, fun _ => k 1⟩
  rcases pk_ix x (n := 5) (by omega) with hx | hx | ⟨a, ha, rfl⟩
  · exact x_needIndex_f (Or.inl hx) (Or.inl ⟨rfl, bad _ (Or.inl hx) (z_finE z_33 (by decide) (hI.go _))⟩)
  · exact x_needIndex_f (Or.inr hx) (Or.inl ⟨rfl, bad _ (Or.inr hx) (z_finE z_33 (by decide) (hI.go _))⟩)
  refine x_needIndex_t (n := 5) ha (by omega) ?_
  rw [e1]
  refine pk_lt m 16 (fun c => ⟨vp_in_nI c (by omega), nm_e (nm_e (nm_e (nm_e ?_)))⟩) (fun c => Or.inr ⟨rfl, ?_⟩)
  · rw [nI_clamp (by omega)]
    intro B hB
    refine m_isInstrument ?_
    rw [z_yes ha (by omega), e2]
    refine pk_le 16 m (fun z => absurd z (by omega)) (fun _ => hB _ _ _ (m_goes_0 ⟨fun z => absurd z (by decide), fun _ => ?_⟩))
    rw [show (sx_u g 0 33 0) 0 11 = nI m by rw [sx_u_s, pk_un (by decide)]; exact e2]
    refine ⟨vp_in_nI c (by omega), nm_e ?_⟩
    rw [show (sx_u (sx_u g 0 33 0) 6 (nI m).toNatClampNeg (nI a)) 0 11 = nI m by rw [sx_u_n (by decide), sx_u_s, pk_un (by decide)]; exact e2]
    refine ⟨vp_in_nI c (by omega), nm_e (nm_e ?_)⟩
    rw [nI_clamp (by omega)]
    refine z_fin0 (by simp (disch := decide) only [sx_u_n, sx_u_s, pk_un, pk_us]) ?_ ⟨S, R.cp ?_ ?_ ?_ ⟨m + 1, by omega, ?_, ?_, fun i hi => ?_, fun i hi hi2 => ?_⟩ ?_⟩
    · rw [sx_u_s, pk_us, sx_u_s, pk_us, sx_u_n (by omega), e1, sx_u_n (by decide), sx_u_n (by decide), sx_u_s, pk_un (by decide), e2]
    · intro k hk; rw [sx_u_n (by omega), sx_u_n (by omega)]
    · intro k hk; rw [sx_u_n (by omega), sx_u_n (by omega), sx_u_n (by omega), sx_u_n (by omega)]
    · intro j hj
      rw [sx_u_s, pk_un (by omega), sx_u_n (by decide), sx_u_n (by decide), sx_u_s, pk_un (by omega)]
    · rw [sx_u_s, pk_us, sx_u_n (by omega), e1, nI_1]
    · rw [sx_u_s, pk_us, sx_u_n (by decide), sx_u_n (by decide), sx_u_s, pk_un (by decide), e2, nI_1]
    · unfold z_C1
      by_cases e : i = m
      · subst e
        rw [sx_u_n (by omega), sx_u_s, pk_us, pk_un (by decide), sx_u_n (by decide), sx_u_n (by decide), sx_u_s, pk_us, sx_u_n (by decide), sx_u_s, pk_us]
        exact ⟨⟨a, ha, rfl, rfl⟩, C2 i (Nat.le_refl _) c, Or.inl rfl⟩
      · have hc := C1 i (by omega)
        rw [sx_u_n (by omega), sx_u_n (by omega), sx_u_n (k := 0) (by decide), sx_u_n (k := 7) (by decide), sx_u_s, pk_un (by omega), sx_u_n (by decide), sx_u_n (k := 0) (by decide), sx_u_s, pk_un (by omega), sx_u_n (by decide), sx_u_n (by decide), sx_u_n (by omega), sx_u_n (by omega), sx_u_n (by decide), sx_u_n (by decide), sx_u_n (by decide), sx_u_n (by decide)]
        exact hc
    · rw [sx_u_n (by omega), sx_u_n (by omega)]
      exact C2 i (by omega) hi2
    · rw [sx_u_s, pk_un (by decide), sx_u_n (by omega), sx_u_s, pk_un (by decide), sx_u_n (by decide), sx_u_n (by decide), sx_u_s, pk_un (by decide)]
      exact R.2.2.2.2.2.2.2.1
  · intro B hB
    refine m_isInstrument ?_
    rw [z_yes ha (by omega), e2]
    exact pk_le 16 m (fun _ => hB _ _ _ (m_goes_2 ⟨fun _ => z_finE z_33 (by decide) (hI.go _), fun c => absurd rfl c⟩)) (fun z => absurd z (by omega))
theorem x_needCopyOut {f : sx_F} {m i : Nat} {Q : Nat → Prop} {X : String → Prop} (hm : f 0 5 = nI m) (hm16 : m ≤ 16) (hi : i < m) (h0 : f (66 + 2 * i) 2 = -1 → X "java/lang/IllegalStateException") (h1 : ¬ f (66 + 2 * i) 2 = -1 → Q (66 + 2 * i)) : P_X6_needCopyOut f (nI i) Q X := by
  unfold P_X6_needCopyOut
  rw [hm]
  refine x_needIndex_t hi (by omega) ⟨vp_in_nI (by omega) (by omega), nm_e ?_⟩
  rw [nI_clamp (by omega)]
  exact ⟨fun c => ⟨fun _ => h0 c, fun z => absurd rfl z⟩, fun c => ⟨fun z => absurd z (by decide), fun _ => h1 c⟩⟩
theorem m_isAway {g : sx_F} {m i : Nat} {Q : Int32 → Prop} (hm : g 0 11 = nI m) (hm16 : m ≤ 16) (hi : i < m) (h : Q (z_b (decide (¬ g 7 i = -1)))) : P_X7_isAway g (nI i) Q := by
  refine m_isCopy hm (by omega) ?_
  rw [z_yes hi (by omega)]
  refine ⟨fun c => absurd c (by decide), fun _ => ⟨vp_in_nI (by omega) (by omega), ?_⟩⟩
  rw [nI_clamp (by omega)]
  refine ⟨fun c => ?_, fun c => ?_⟩
  · rw [decide_eq_false (fun z => z c)] at h; exact h
  · rw [decide_eq_true c] at h; exact h
theorem m_isAway_f {g : sx_F} {m : Nat} {x : Int32} {Q : Int32 → Prop} (hm : g 0 11 = nI m) (hm16 : m ≤ 16) (hx : x < 0 ∨ nI m ≤ x) (h : Q 0) : P_X7_isAway g x Q := by
  refine m_isCopy hm (by omega) ?_
  rw [z_no hx]
  exact ⟨fun _ => h, fun c => absurd rfl c⟩
/-- a copy as it stands in both, with its part -/
theorem z_C1.cnt {t : Nat} {f g : sx_F} {S : z_S} {i a n : Nat} (R : z_R t f g S) (h : z_C1 f g i) (ha : a < 5) (hn : n ≤ 12) : z_cnt (z_ow f (66 + 2 * i) a) n = z_cnt (z_owm g i a) n := z_cnt_c n (fun b hb => z_ow_eq R h ha (by omega))
theorem k_giveBack {t : Nat} {f g : sx_F} {o : Nat → Int64} {x : Int32} (h : z_I t f g) : P_case_giveBack f g o x (z_I (t + 1)) := by
  have hI := h
  obtain ⟨S, R⟩ := h
  have hn := R.2.2.1.1
  obtain ⟨m, hm, e1, e2, C1, C2⟩ := R.2.2.2.2.2.2.1
  unfold P_case_giveBack P_L_giveBack P_X6_giveBack
  have bad : ∀ QQ : Int32 → sx_F → Prop, (x < 0 ∨ nI m ≤ x) → QQ 0 (sx_u g 0 33 1) → P_X7_giveBack g x QQ := by
    intro QQ hb q
    refine m_isCopy e2 (by omega) ?_
    rw [z_no hb]
    exact m_isAway_f e2 hm hb (m_goes_1 ⟨fun _ => q, fun c => absurd rfl c⟩)
  rcases pk_ix x (n := m) (by omega) with hx | hx | ⟨i, hi, rfl⟩
  · exact x_needIndex_f (Or.inl hx) (Or.inl ⟨rfl, bad _ (Or.inl hx) (z_finE z_33 (by decide) (hI.go _))⟩)
  · exact x_needIndex_f (by rw [e1]; exact Or.inr hx) (Or.inl ⟨rfl, bad _ (Or.inr hx) (z_finE z_33 (by decide) (hI.go _))⟩)
  have hc := C1 i hi
  obtain ⟨⟨a, ha, a1, a2⟩, a3, a4⟩ := hc
  refine x_needCopyOut e1 hm hi (fun c => Or.inr ⟨rfl, ?_⟩) (fun c => x_countDebts (n := S 0 0) R.1.1 hn a1 ha (nm_e (nm_e ?_)))
  · refine m_isCopy e2 (by omega) ?_
    rw [z_yes hi (by omega)]
    refine m_isAway e2 hm hi ?_
    rw [decide_eq_false (fun z => z (by rw [← a3]; exact c))]
    exact m_goes_2 ⟨fun _ => z_finE z_33 (by decide) (hI.go _), fun c => absurd rfl c⟩
  · refine m_isCopy e2 (by omega) ?_
    rw [z_yes hi (by omega)]
    refine m_isAway e2 hm hi ?_
    rw [decide_eq_true (show ¬ g 7 i = -1 by rw [← a3]; exact c)]
    refine m_goes_0 ⟨fun c => absurd c (by decide), fun _ => m_owedBy (n := S 0 0) (a := a) (by rw [sx_u_s, pk_un (by decide)]; exact R.2.1.1) hn (by omega) (by rw [sx_u_n (by decide)]; exact a2) ha ⟨vp_in_nI (by omega) (by omega), nm_e ?_⟩⟩
    rw [nI_clamp (by omega)]
    refine z_fin0 (by rw [sx_u_n (by decide)]; exact z_33) ?_ ⟨S, R.cp ?_ ?_ ?_ ⟨m, hm, ?_, ?_, fun j hj => ?_, fun j hj hj2 => ?_⟩ ?_⟩
    · rw [(C1 i hi).cnt R ha hn]
      exact congrArg nI (z_cnt_c _ (fun b hb => by unfold z_owm; rw [sx_u_n (by decide), sx_u_n (by decide), sx_u_n (by decide)]))
    · intro k hk; rw [sx_u_n (by omega)]
    · intro k hk; rw [sx_u_n (by omega), sx_u_n (by omega)]
    · intro j hj; rw [sx_u_n (by decide), sx_u_s, pk_un (by omega)]
    · rw [sx_u_n (by omega)]; exact e1
    · rw [sx_u_n (by decide), sx_u_s, pk_un (by decide)]; exact e2
    · unfold z_C1
      by_cases e : j = i
      · subst e
        rw [sx_u_s, pk_us, pk_un (by decide), sx_u_s, pk_us, sx_u_n (by decide), sx_u_n (by decide)]
        exact ⟨⟨a, ha, a1, a2⟩, rfl, Or.inl rfl⟩
      · have hc := C1 j hj
        simp (disch := omega) only [sx_u_n, sx_u_s, pk_un]
        exact hc
    · by_cases e : j = i
      · omega
      · rw [sx_u_n (by omega)]; exact C2 j hj hj2
    · rw [sx_u_n (by omega), sx_u_n (by decide), sx_u_s, pk_un (by decide)]
      exact R.2.2.2.2.2.2.2.1
/-- all versions of a copy anew, in both -/
theorem z_C1.taken {t : Nat} {f g f' g' : sx_F} {S : z_S} {i a : Nat} (R : z_R t f g S) (ha : a < 5) (a1 : f' (66 + 2 * i) 1 = nI a) (a2 : g' 6 i = nI a) (a3 : f' (66 + 2 * i) 2 = g' 7 i) (a4 : ∃ d, d < 6 ∧ g' 7 i = nI d) (a5 : ∀ k, k < 12 → f' (66 + 2 * i + 1) k = if k < S 0 0 then f 4 (12 * a + k) else -1) (a6 : ∀ k, k < 12 → g' 8 (12 * i + k) = if k < S 0 0 then g 5 (12 * a + k) else -1) : z_C1 f' g' i :=
  ⟨⟨a, ha, a1, a2⟩, a3, Or.inr ⟨a4, fun k hk => by rw [a5 k hk, a6 k hk, (R.2.2.2.2.1 (12 * a + k) (by omega)).1]⟩⟩
theorem k_paste {t : Nat} {f g : sx_F} {o : Nat → Int64} {x : Int32} (h : z_I t f g) : P_case_paste f g o x (z_I (t + 1)) := by
  have hI := h
  obtain ⟨S, R⟩ := h
  have hn := R.2.2.1.1
  obtain ⟨m, hm, e1, e2, C1, C2⟩ := R.2.2.2.2.2.2.1
  unfold P_case_paste P_L_paste P_X6_paste
  have bad : ∀ QQ : Int32 → sx_F → Prop, (x < 0 ∨ nI m ≤ x) → QQ 0 (sx_u g 0 33 1) → P_X7_paste g x QQ := by
    intro QQ hb q
    refine m_isCopy e2 (by omega) ?_
    rw [z_no hb]
    exact m_isAway_f e2 hm hb (m_goes_1 ⟨fun _ => q, fun c => absurd rfl c⟩)
  rcases pk_ix x (n := m) (by omega) with hx | hx | ⟨i, hi, rfl⟩
  · exact x_needIndex_f (Or.inl hx) (Or.inl ⟨rfl, bad _ (Or.inl hx) (z_finE z_33 (by decide) (hI.go _))⟩)
  · exact x_needIndex_f (by rw [e1]; exact Or.inr hx) (Or.inl ⟨rfl, bad _ (Or.inr hx) (z_finE z_33 (by decide) (hI.go _))⟩)
  have hc := C1 i hi
  obtain ⟨⟨a, ha, a1, a2⟩, a3, a4⟩ := hc
  refine x_needCopyOut e1 hm hi (fun c => Or.inr ⟨rfl, ?_⟩) (fun c => x_countDebts (n := S 0 0) R.1.1 hn a1 ha (x_takeVersions (by omega) R.1.1 hn a1 ha (fun f' b1 b2 => nm_e ?_)))
  · refine m_isCopy e2 (by omega) ?_
    rw [z_yes hi (by omega)]
    refine m_isAway e2 hm hi ?_
    rw [decide_eq_false (fun z => z (by rw [← a3]; exact c))]
    exact m_goes_2 ⟨fun _ => z_finE z_33 (by decide) (hI.go _), fun c => absurd rfl c⟩
  · refine m_isCopy e2 (by omega) ?_
    rw [z_yes hi (by omega)]
    refine m_isAway e2 hm hi ?_
    rw [decide_eq_true (show ¬ g 7 i = -1 by rw [← a3]; exact c)]
    have g5 : (sx_u g 0 33 0) 0 5 = nI (S 0 0) := by rw [sx_u_s, pk_un (by decide)]; exact R.2.1.1
    have g6 : (sx_u g 0 33 0) 6 i = nI a := by rw [sx_u_n (by decide)]; exact a2
    refine m_goes_0 ⟨fun c => absurd c (by decide), fun _ => m_owedBy (n := S 0 0) (a := a) g5 hn (by omega) g6 ha (m_renews g5 hn (by omega) g6 ha (fun g' d1 d2 d3 => ?_))⟩
    have d0 : ∀ j, j ≠ 33 → g' 0 j = g 0 j := fun j hj => by rw [d1 0 (by decide), sx_u_s, pk_un hj]
    have dk : ∀ k, k ≠ 8 → k ≠ 0 → g' k = g k := fun k h1 h2 => by rw [d1 k h1, sx_u_n h2]
    refine z_fin0 (by rw [d1 0 (by decide)]; exact z_33) ?_ ⟨S, R.cp ?_ ?_ ?_ ⟨m, hm, ?_, ?_, fun j hj => ?_, fun j hj hj2 => ?_⟩ ?_⟩
    · rw [(C1 i hi).cnt R ha hn]
      exact congrArg nI (z_cnt_c _ (fun b hb => by unfold z_owm; rw [sx_u_n (by decide), sx_u_n (by decide), sx_u_n (by decide)]))
    · intro k hk; exact b1 k (by omega)
    · intro k hk; exact dk k (by omega) (by omega)
    · intro j hj; exact d0 j (by omega)
    · rw [b1 0 (by omega)]; exact e1
    · rw [d0 11 (by decide)]; exact e2
    · by_cases e : j = i
      · subst e
        refine z_C1.taken R ha (by rw [b1 _ (by omega)]; exact a1) (by rw [dk 6 (by decide) (by decide)]; exact a2) (by rw [b1 _ (by omega), dk 7 (by decide) (by decide)]; exact a3) ?_ b2 (fun k hk => by rw [d3 k hk, sx_u_n (by decide)])
        rw [dk 7 (by decide) (by decide)]
        rcases a4 with z | z
        · exact absurd (a3.trans z) c
        · exact z.1
      · have hc := C1 j hj
        unfold z_C1 at hc ⊢
        rw [b1 _ (by omega), b1 _ (by omega), dk 6 (by decide) (by decide), dk 7 (by decide) (by decide)]
        refine ⟨hc.1, hc.2.1, hc.2.2.imp id (fun z => ⟨z.1, fun k hk => ?_⟩)⟩
        rw [d2 _ (by omega), sx_u_n (by decide)]
        exact z.2 k hk
    · rw [b1 _ (by omega)]; exact C2 j hj hj2
    · rw [b1 0 (by omega), d0 12 (by decide)]
      exact R.2.2.2.2.2.2.2.1
theorem k_deskOf {t : Nat} {f g : sx_F} {o : Nat → Int64} {x : Int32} (h : z_I t f g) : P_case_deskOf f g o x (z_I (t + 1)) := by
  have hI := h
  obtain ⟨S, R⟩ := h
  obtain ⟨m, hm, e1, e2, C1, C2⟩ := R.2.2.2.2.2.2.1
  unfold P_case_deskOf P_L_deskOf P_X6_deskOf
  have bad : ∀ QQ : Int32 → sx_F → Prop, (x < 0 ∨ nI m ≤ x) → QQ 0 (sx_u g 0 33 1) → P_X7_deskOf g x QQ := by
    intro QQ hb q
    refine m_isCopy e2 (by omega) ?_
    rw [z_no hb]
    exact m_goes_1 ⟨fun _ => q, fun c => absurd rfl c⟩
  rw [e1]
  rcases pk_ix x (n := m) (by omega) with hx | hx | ⟨i, hi, rfl⟩
  · exact x_needIndex_f (Or.inl hx) ⟨rfl, bad _ (Or.inl hx) (z_finE z_33 (by decide) (hI.go _))⟩
  · exact x_needIndex_f (Or.inr hx) ⟨rfl, bad _ (Or.inr hx) (z_finE z_33 (by decide) (hI.go _))⟩
  refine x_needIndex_t hi (by omega) ⟨vp_in_nI (by omega) (by omega), nm_e (nm_e ?_)⟩
  rw [nI_clamp (by omega)]
  refine m_isCopy e2 (by omega) ?_
  rw [z_yes hi (by omega)]
  refine m_goes_0 ⟨fun c => absurd c (by decide), fun _ => ⟨vp_in_nI (by omega) (by omega), z_fin0 z_33 ?_ (hI.go _)⟩⟩
  rw [nI_clamp (by omega), sx_u_n (by decide)]
  exact (C1 i hi).2.1
theorem k_owed {t : Nat} {f g : sx_F} {o : Nat → Int64} {x : Int32} (h : z_I t f g) : P_case_owed f g o x (z_I (t + 1)) := by
  have hI := h
  obtain ⟨S, R⟩ := h
  have hn := R.2.2.1.1
  obtain ⟨m, hm, e1, e2, C1, C2⟩ := R.2.2.2.2.2.2.1
  unfold P_case_owed P_L_owed P_X6_owed
  have bad : ∀ QQ : Int32 → sx_F → Prop, (x < 0 ∨ nI m ≤ x) → QQ 0 (sx_u g 0 33 1) → P_X7_owed g x QQ := by
    intro QQ hb q
    refine m_isCopy e2 (by omega) ?_
    rw [z_no hb]
    exact m_goes_1 ⟨fun _ => q, fun c => absurd rfl c⟩
  rw [e1]
  rcases pk_ix x (n := m) (by omega) with hx | hx | ⟨i, hi, rfl⟩
  · exact x_needIndex_f (Or.inl hx) ⟨rfl, bad _ (Or.inl hx) (z_finE z_33 (by decide) (hI.go _))⟩
  · exact x_needIndex_f (Or.inr hx) ⟨rfl, bad _ (Or.inr hx) (z_finE z_33 (by decide) (hI.go _))⟩
  obtain ⟨⟨a, ha, a1, a2⟩, a3, a4⟩ := C1 i hi
  refine x_needIndex_t hi (by omega) ⟨vp_in_nI (by omega) (by omega), nm_e ?_⟩
  rw [nI_clamp (by omega)]
  refine x_countDebts (n := S 0 0) R.1.1 hn a1 ha (nm_e ?_)
  refine m_isCopy e2 (by omega) ?_
  rw [z_yes hi (by omega)]
  refine m_goes_0 ⟨fun c => absurd c (by decide), fun _ => m_owedBy (n := S 0 0) (a := a) (by rw [sx_u_s, pk_un (by decide)]; exact R.2.1.1) hn (by omega) (by rw [sx_u_n (by decide)]; exact a2) ha (z_fin0 z_33 ?_ (hI.go _))⟩
  rw [(C1 i hi).cnt R ha hn]
  exact congrArg nI (z_cnt_c _ (fun b hb => by unfold z_owm; rw [sx_u_n (by decide), sx_u_n (by decide), sx_u_n (by decide)]))
theorem k_has {t : Nat} {f g : sx_F} {o : Nat → Int64} {x y : Int32} (h : z_I t f g) : P_case_has f g o x y (z_I (t + 1)) := by
  have hI := h
  obtain ⟨S, R⟩ := h
  have hn := R.2.2.1.1
  obtain ⟨m, hm, e1, e2, C1, C2⟩ := R.2.2.2.2.2.2.1
  unfold P_case_has P_L_has P_X6_has
  have bad : ∀ QQ : Int32 → sx_F → Prop, ((x < 0 ∨ nI m ≤ x) ∨ (y < 0 ∨ nI (S 0 0) ≤ y)) → QQ 0 (sx_u g 0 33 1) → P_X7_has g x y QQ := by
    intro QQ hb q B21 B22 h21 h22
    have k : B21 g := h21 _ (h22 _ _ (m_goes_1 ⟨fun _ => q, fun c => absurd rfl c⟩))
    refine m_isCopy e2 (by omega) ?_
    rcases z_b_cases (decide (¬ x < 0 ∧ ¬ nI m ≤ x)) with e | e
    · rw [e]; exact ⟨fun _ => k, fun c => absurd rfl c⟩
    · rw [e]
      refine ⟨fun c => absurd c (by decide), fun _ => m_isBar R.2.1.1 (by omega) ?_⟩
      rcases hb with hb | hb
      · rw [z_no hb] at e; exact absurd e (by decide)
      · rw [z_no hb]; exact ⟨fun _ => k, fun c => absurd rfl c⟩
  rw [e1, R.1.1]
  rcases pk_ix x (n := m) (by omega) with hx | hx | ⟨i, hi, rfl⟩
  · exact x_needIndex_f (Or.inl hx) ⟨rfl, bad _ (Or.inl (Or.inl hx)) (z_finE z_33 (by decide) (hI.go _))⟩
  · exact x_needIndex_f (Or.inr hx) ⟨rfl, bad _ (Or.inl (Or.inr hx)) (z_finE z_33 (by decide) (hI.go _))⟩
  refine x_needIndex_t hi (by omega) ?_
  rcases pk_ix y (n := S 0 0) (by omega) with hy | hy | ⟨b, hb, rfl⟩
  · exact x_needIndex_f (Or.inl hy) ⟨rfl, bad _ (Or.inr (Or.inl hy)) (z_finE z_33 (by decide) (hI.go _))⟩
  · exact x_needIndex_f (Or.inr hy) ⟨rfl, bad _ (Or.inr (Or.inr hy)) (z_finE z_33 (by decide) (hI.go _))⟩
  obtain ⟨⟨a, ha, a1, a2⟩, a3, a4⟩ := C1 i hi
  refine x_needIndex_t hb (by omega) ⟨vp_in_nI (by omega) (by omega), nm_e ?_⟩
  rw [nI_clamp (by omega)]
  refine x_versionOf a1 ha (by omega) (nm_e ?_)
  intro B21 B22 h21 h22
  refine m_isCopy e2 (by omega) ?_
  rw [z_yes hi (by omega)]
  refine ⟨fun c => absurd c (by decide), fun _ => m_isBar R.2.1.1 (by omega) ?_⟩
  rw [z_yes hb (by omega)]
  refine ⟨fun c => absurd c (by decide), fun _ => h22 _ _ (m_goes_0 ⟨fun c => absurd c (by decide), fun _ => ⟨vp_in_nI (by omega) (by omega), ?_⟩⟩)⟩
  rw [nI_clamp (n := i) (by omega), z_cell]
  simp (disch := decide) only [sx_u_n]
  rw [a2, a3]
  refine ⟨fun c => ⟨vp_in_nI (by omega) (by omega), m_cell ⟨vp_in_nI (by omega) (by omega), z_fin0T z_33 ?_ (hI.go _)⟩⟩, fun c => ⟨vp_in_nI (by omega) (by omega), z_fin0T z_33 ?_ (hI.go _)⟩⟩
  · rw [if_pos c, nI_clamp (by omega), (R.2.2.2.2.1 _ (by omega)).1]
  · rw [if_neg c, nI_clamp (by omega)]
    rcases a4 with z | z
    · exact absurd z c
    · exact z.2 b (by omega)
