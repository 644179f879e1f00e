theorem k_mark {t : Nat} {f g : sx_F} {o : Nat → Int64} {x y w : Int32} (h : z_I t f g) : P_case_mark f g o x y w (z_I (t + 1)) := by
  have hI := h
  obtain ⟨S, R⟩ := h
  have hn := R.2.2.1.1
  obtain ⟨m, hm, e1, e2, C1, C2⟩ := R.2.2.2.2.2.2.1
  unfold P_case_mark P_L_mark P_X6_mark
  have bad : ∀ QQ : Int32 → sx_F → Prop, ((x < 0 ∨ nI m ≤ x) ∨ (y < 0 ∨ nI (S 0 0) ≤ y)) → QQ 0 (sx_u g 0 33 1) → P_X7_mark g x y w QQ := by
    intro QQ hb q B20 B21 B57 B58 h20 h21 h57 h58
    have k : B20 g := h20 _ (h21 _ _ ⟨fun _ => h57 _ _ (h58 _ _ _ (m_in (m_goes_1 ⟨fun _ => q, fun c => absurd rfl c⟩))), fun c => absurd rfl c⟩)
    refine m_isCopy e2 (by omega) ?_
    rcases z_b_cases (decide (¬ x < 0 ∧ ¬ nI m ≤ x)) with e | e
    · rw [e]; exact ⟨fun _ => k, fun c => absurd rfl c⟩
    · rw [e]
      refine ⟨fun c => absurd c (by decide), fun _ => m_isBar R.2.1.1 (by omega) ?_⟩
      rcases hb with hb | hb
      · rw [z_no hb] at e; exact absurd e (by decide)
      · rw [z_no hb]; exact ⟨fun _ => k, fun c => absurd rfl c⟩
  rw [e1, R.1.1]
  rcases pk_ix x (n := m) (by omega) with hx | hx | ⟨i, hi, rfl⟩
  · exact x_needIndex_f (Or.inl hx) (Or.inl ⟨rfl, bad _ (Or.inl (Or.inl hx)) (z_finE z_33 (by decide) (hI.go _))⟩)
  · exact x_needIndex_f (Or.inr hx) (Or.inl ⟨rfl, bad _ (Or.inl (Or.inr hx)) (z_finE z_33 (by decide) (hI.go _))⟩)
  refine x_needIndex_t hi (by omega) ?_
  rcases pk_ix y (n := S 0 0) (by omega) with hy | hy | ⟨b, hb, rfl⟩
  · exact x_needIndex_f (Or.inl hy) (Or.inl ⟨rfl, bad _ (Or.inr (Or.inl hy)) (z_finE z_33 (by decide) (hI.go _))⟩)
  · exact x_needIndex_f (Or.inr hy) (Or.inl ⟨rfl, bad _ (Or.inr (Or.inr hy)) (z_finE z_33 (by decide) (hI.go _))⟩)
  refine x_needIndex_t hb (by omega) ?_
  obtain ⟨⟨a, ha, a1, a2⟩, a3, a4⟩ := C1 i hi
  -- the reference, once it is known what is meant
  have ref : ∀ QQ : Int32 → sx_F → Prop, ((w < 0 ∨ 9 < w) → QQ 0 (sx_u g 0 33 2)) → (¬ (w < 0 ∨ 9 < w) → (g 7 i = -1 ∨ g 8 (12 * i + b) = -1) → QQ 0 (sx_u g 0 33 3)) → (¬ (w < 0 ∨ 9 < w) → ¬ g 7 i = -1 → ¬ g 8 (12 * i + b) = -1 → ∀ d, d < 6 → g 7 i = nI d → QQ (g 9 (60 * d + (12 * a + b))) (sx_u (sx_u (sx_u g 0 33 0) 9 (60 * d + (12 * a + b)) w) 10 (60 * d + (12 * a + b)) (g 8 (12 * i + b)))) → P_X7_mark g (nI i) (nI b) w QQ := by
    intro QQ q2 q3 q0 B20 B21 B57 B58 h20 h21 h57 h58
    refine m_isCopy e2 (by omega) ?_
    rw [z_yes hi (by omega)]
    refine ⟨fun c => absurd c (by decide), fun _ => m_isBar R.2.1.1 (by omega) ?_⟩
    rw [z_yes hb (by omega)]
    refine ⟨fun c => absurd c (by decide), fun _ => h21 _ _ ⟨fun c => absurd c (by decide), fun _ => ⟨vp_in_nI (by omega) (by omega), ?_⟩⟩⟩
    have no : (g 7 i = -1 ∨ g 8 (12 * i + b) = -1) → B57 g 1 := fun z => h57 _ _ (h58 _ _ _ (by
      by_cases c : w < 0 ∨ 9 < w
      · exact m_in_f c (m_goes_2 ⟨fun _ => q2 c, fun c => absurd rfl c⟩)
      · exact m_in_t (fun z => c (Or.inl z)) (fun z => c (Or.inr z)) (m_goes_3 ⟨fun _ => q3 c z, fun c => absurd rfl c⟩)))
    rw [nI_clamp (n := i) (by omega), z_cell, nI_clamp (by omega)]
    refine ⟨fun c => no (Or.inl c), fun c1 => ⟨vp_in_nI (by omega) (by omega), fun c => no (Or.inr c), fun c2 => h58 _ _ _ ?_⟩⟩
    by_cases c : w < 0 ∨ 9 < w
    · exact m_in_f c (m_goes_2 ⟨fun _ => q2 c, fun c => absurd rfl c⟩)
    · refine m_in_t (fun z => c (Or.inl z)) (fun z => c (Or.inr z)) (m_goes_0 ⟨fun c => absurd c (by decide), fun _ => ⟨vp_in_nI (by omega) (by omega), vp_in_nI (by omega) (by omega), ?_⟩⟩)
      rw [nI_clamp (n := i) (by omega), z_cell]
      simp (disch := decide) only [sx_u_n]
      obtain ⟨⟨d, hd, ed⟩, -⟩ := a4.resolve_left c1
      rw [a2, ed]
      refine m_cell (nm_e ?_)
      rw [z_at2]
      refine ⟨vp_in_nI (by omega) (by omega), nm_e ⟨vp_in_nI (by omega) (by omega), nm_e ⟨vp_in_nI (by omega) (by omega), vp_in_nI (by omega) (by omega), nm_e ?_⟩⟩⟩
      rw [nI_clamp (n := 60 * d + (12 * a + b)) (by omega), nI_clamp (n := 12 * i + b) (by omega)]
      simp (disch := decide) only [sx_u_n]
      exact q0 c c1 c2 d hd ed
  by_cases cw : w < 0 ∨ 9 < w
  · exact x_needValue_f cw (Or.inr (Or.inl ⟨rfl, ref _ (fun _ => z_finE z_33 (by decide) (hI.go _)) (fun z => absurd cw z) (fun z => absurd cw z)⟩))
  refine x_needValue_t (fun z => cw (Or.inl z)) (fun z => cw (Or.inr z)) ?_
  obtain ⟨p, hp, rfl⟩ : ∃ j : Nat, j ≤ 9 ∧ w = nI j := nI_of2 (M := 9) rfl (fun z => cw (Or.inl z)) (Int32.not_lt.mp (fun z => cw (Or.inr z)))
  refine x_needCopyOut e1 hm hi (fun c => Or.inr (Or.inr ⟨rfl, ?_⟩)) (fun c => ?_)
  · exact ref _ (fun z => absurd z cw) (fun _ _ => z_finE z_33 (by decide) (hI.go _)) (fun _ z => absurd (by rw [← a3]; exact c) z)
  have cg : ¬ g 7 i = -1 := by rw [← a3]; exact c
  obtain ⟨⟨d, hd, ed⟩, ev⟩ := a4.resolve_left cg
  refine x_versionOf a1 ha (by omega) ?_
  rw [if_neg c, ev b (by omega)]
  refine ⟨fun z => ⟨fun y => absurd y (by decide), fun _ => Or.inr (Or.inr ⟨rfl, ref _ (fun z => absurd z cw) (fun _ _ => z_finE z_33 (by decide) (hI.go _)) (fun _ _ y => absurd z y)⟩)⟩, fun z => ⟨fun _ => ?_, fun y => absurd rfl y⟩⟩
  rw [a1, a3, ed]
  refine x_slotOf ⟨vp_in_nI (by omega) (by omega), nm_e ?_⟩
  rw [nI_clamp (by omega)]
  refine x_versionOf a1 ha (by omega) ?_
  rw [if_neg c, ev b (by omega)]
  unfold P_X2_changeMark
  rw [nI_clamp (by omega)]
  refine ⟨vp_in_nI (by omega) (by omega), nm_e ⟨vp_in_nI (by omega) (by omega), nm_e ⟨vp_in_nI (by omega) (by omega), nm_e (nm_e (ref _ (fun z => absurd z cw) (fun _ y => absurd y (fun y => y.elim cg z)) (fun _ _ _ d' hd' ed' => ?_)))⟩⟩⟩
  have : d = d' := (nI_eq (by omega) (by omega)).mp (ed.symm.trans ed')
  subst this
  have hs : 12 * a + b < 60 := by omega
  generalize 12 * a + b = s at hs
  obtain ⟨⟨⟨p0, hp0, q1, q2⟩, q3⟩, -⟩ := R.2.2.2.2.2.2.2.2 d s hd hs
  refine z_fin0 (by rw [sx_u_n (by decide), sx_u_n (by decide)]; exact z_33) (by rw [q1, q2]) ⟨S, R.dk ?_ ?_ ?_ ?_⟩
  · intro k hk; rw [sx_u_n (by omega), sx_u_n (by omega)]
  · intro k hk; rw [sx_u_n (by omega), sx_u_n (by omega), sx_u_n (by omega)]
  · intro j hj; rw [sx_u_n (by decide), sx_u_n (by decide), sx_u_s, pk_un hj]
  · intro d' s' hd' hs'
    obtain ⟨⟨⟨r0, hr0, r1, r2⟩, r3⟩, r4⟩ := R.mono.2.2.2.2.2.2.2.2 d' s' hd' hs'
    refine ⟨⟨?_, ?_⟩, ?_⟩
    · by_cases e5 : d' = d
      · subst e5
        by_cases e6 : s' = s
        · subst e6
          simp (disch := omega) only [sx_u_n, sx_u_s, pk_us]
          exact ⟨p, hp, rfl, rfl⟩
        · simp (disch := omega) only [sx_u_n, sx_u_s, pk_un]
          exact ⟨r0, hr0, r1, r2⟩
      · simp (disch := omega) only [sx_u_n, sx_u_s, pk_un]
        exact ⟨r0, hr0, r1, r2⟩
    · by_cases e5 : d' = d
      · subst e5
        by_cases e6 : s' = s
        · subst e6
          simp (disch := omega) only [sx_u_n, sx_u_s, pk_us]
        · simp (disch := omega) only [sx_u_n, sx_u_s, pk_un]
          exact r3
      · simp (disch := omega) only [sx_u_n, sx_u_s, pk_un]
        exact r3
    · unfold z_D2 at r4 ⊢
      simp (disch := omega) only [sx_u_n]
      exact r4
theorem m_bow {t : Nat} {f g : sx_F} {S : z_S} {m i a b k : Nat} {w : Int32} {QQ : Int32 → sx_F → Prop} (R : z_R t f g S) (e2 : g 0 11 = nI m) (hm : m ≤ 16) (hi : i < m) (ha : a < 5) (a2 : g 6 i = nI a) (hb : b < S 0 0) (hk : k < S 2 (12 * a + b)) (a4 : g 7 i = -1 ∨ ∃ d, d < 6 ∧ g 7 i = nI d) (q2 : (w < 0 ∨ 2 < w) → QQ 0 (sx_u g 0 33 2)) (q3 : ¬ (w < 0 ∨ 2 < w) → (g 7 i = -1 ∨ z_owm g i a b = true) → QQ 0 (sx_u g 0 33 3)) (q0 : ¬ (w < 0 ∨ 2 < w) → ¬ g 7 i = -1 → z_owm g i a b = false → ∀ d, d < 6 → g 7 i = nI d → QQ (z_bM g d (12 * a + b) k) (sx_u (sx_u (sx_u g 0 33 0) 11 (8 * (60 * d + (12 * a + b)) + k) w) 12 (8 * (60 * d + (12 * a + b)) + k) (g 5 (12 * a + b)))) : P_X7_bow g (nI i) (nI b) (nI k) w QQ := by
  have hn := R.2.2.1.1
  have hs : 12 * a + b < 60 := by omega
  have hc8 := R.2.2.1.2.2.1 _ hs
  intro B31 B32 B72 B73 h31 h32 h72 h73
  refine m_isCopy e2 (by omega) ?_
  rw [z_yes hi (by omega)]
  refine ⟨fun c => absurd c (by decide), fun _ => ⟨vp_in_nI (by omega) (by omega), ?_⟩⟩
  rw [nI_clamp (n := i) (by omega), a2]
  refine m_isNote_t R.2.1 R.2.2.1 ha hb hk ⟨fun c => absurd c (by decide), fun _ => h32 _ _ ?_⟩
  by_cases c : w < 0 ∨ 2 < w
  · have k3 : ∀ z, B73 g 1 0 z := fun z => h73 _ _ _ _ (m_goes_2 ⟨fun _ => q2 c, fun c => absurd rfl c⟩)
    refine m_in_f c ⟨fun c => absurd c (by decide), fun _ => ⟨vp_in_nI (by omega) (by omega), fun _ => h72 _ _ _ (k3 0), fun _ => m_owes (by omega) a2 ha (by omega) ?_⟩⟩
    cases z_owm g i a b
    · exact ⟨fun _ => k3 1, fun c => absurd rfl c⟩
    · exact ⟨fun c => absurd c (by decide), fun _ => h72 _ _ _ (k3 0)⟩
  · refine m_in_t (fun z => c (Or.inl z)) (fun z => c (Or.inr z)) ⟨fun c => absurd c (by decide), fun _ => ⟨vp_in_nI (by omega) (by omega), ?_⟩⟩
    rw [nI_clamp (n := i) (by omega)]
    have no : (g 7 i = -1 ∨ z_owm g i a b = true) → B72 g 1 1 := fun z => h72 _ _ _ (h73 _ _ _ _ (m_goes_3 ⟨fun _ => q3 c z, fun c => absurd rfl c⟩))
    refine ⟨fun c1 => no (Or.inl c1), fun c1 => m_owes (by omega) a2 ha (by omega) ?_⟩
    cases hz : z_owm g i a b
    · refine ⟨fun _ => h73 _ _ _ _ (m_goes_0 ⟨fun c => absurd c (by decide), fun _ => ⟨vp_in_nI (by omega) (by omega), ?_⟩⟩), fun c => absurd rfl c⟩
      rw [nI_clamp (n := i) (by omega)]
      simp (disch := decide) only [sx_u_n]
      obtain ⟨d, hd, ed⟩ := a4.resolve_left c1
      rw [a2, ed]
      refine m_cell ⟨vp_in_nI (by omega) (by omega), nm_e ⟨vp_in_nI (by omega) (by omega), m_bowing hd hs (by omega) ?_⟩⟩
      rw [z_at3, nI_clamp (n := 12 * a + b) (by omega), nI_clamp (n := 8 * (60 * d + (12 * a + b)) + k) (by omega)]
      refine ⟨vp_in_nI (by omega) (by omega), nm_e ⟨vp_in_nI (by omega) (by omega), vp_in_nI (by omega) (by omega), nm_e ?_⟩⟩
      have q := q0 c c1 hz d hd ed
      rw [show (sx_u (sx_u g 0 33 0) 11 (8 * (60 * d + (12 * a + b)) + k) w) 5 = g 5 by rw [sx_u_n (by decide), sx_u_n (by decide)]]
      rw [show z_bM (sx_u g 0 33 0) d (12 * a + b) k = z_bM g d (12 * a + b) k by unfold z_bM; rw [sx_u_n (by decide), sx_u_n (by decide), sx_u_n (by decide)]]
      exact q
    · exact ⟨fun c => absurd c (by decide), fun _ => no (Or.inr hz)⟩
theorem k_bow {t : Nat} {f g : sx_F} {o : Nat → Int64} {x y v w : Int32} (ht : t < 1000000) (h : z_I t f g) : P_case_bow f g o x y v w (z_I (t + 1)) := by
  have hI := h
  obtain ⟨S, R⟩ := h
  have hn := R.2.2.1.1
  obtain ⟨m, hm, e1, e2, C1, C2⟩ := R.2.2.2.2.2.2.1
  unfold P_case_bow P_L_bow P_X6_bow
  have bad : ∀ QQ : Int32 → sx_F → Prop, ((x < 0 ∨ nI m ≤ x) ∨ ∃ i a : Nat, i < m ∧ a < 5 ∧ x = nI i ∧ g 6 i = nI a ∧ ((y < 0 ∨ nI (S 0 0) ≤ y) ∨ ∃ b, b < S 0 0 ∧ y = nI b ∧ (v < 0 ∨ nI (S 2 (12 * a + b)) ≤ v))) → QQ 0 (sx_u g 0 33 1) → P_X7_bow g x y v w QQ := by
    intro QQ hb q B31 B32 B72 B73 h31 h32 h72 h73
    have k73 : ∀ r, B73 g 0 r 0 := fun r => h73 _ _ _ _ (m_goes_1 ⟨fun _ => q, fun c => absurd rfl c⟩)
    have k : B31 g := h31 _ (h32 _ _ (m_in ⟨fun _ => h72 _ _ _ (k73 _), fun c => absurd rfl c⟩))
    refine m_isCopy e2 (by omega) ?_
    rcases hb with hb | ⟨i, a, hi, ha, rfl, a2, hb⟩
    · rw [z_no hb]; exact ⟨fun _ => k, fun c => absurd rfl c⟩
    · rw [z_yes hi (by omega)]
      refine ⟨fun c => absurd c (by decide), fun _ => ⟨vp_in_nI (by omega) (by omega), ?_⟩⟩
      rw [nI_clamp (by omega), a2]
      refine m_isNote_f R.2.1 R.2.2.1 ?_ ⟨fun _ => k, fun c => absurd rfl c⟩
      rcases hb with hb | ⟨b, hb, rfl, hv⟩
      · exact Or.inl (Or.inr hb)
      · exact Or.inr ⟨a, b, ha, hb, rfl, rfl, hv⟩
  rw [e1]
  rcases pk_ix x (n := m) (by omega) with hx | hx | ⟨i, hi, rfl⟩
  · exact x_needIndex_f (Or.inl hx) (Or.inl ⟨rfl, bad _ (Or.inl (Or.inl hx)) (z_finE z_33 (by decide) (hI.go _))⟩)
  · exact x_needIndex_f (Or.inr hx) (Or.inl ⟨rfl, bad _ (Or.inl (Or.inr hx)) (z_finE z_33 (by decide) (hI.go _))⟩)
  obtain ⟨⟨a, ha, a1, a2⟩, a3, a4⟩ := C1 i hi
  refine x_needIndex_t hi (by omega) ⟨vp_in_nI (by omega) (by omega), nm_e ?_⟩
  rw [nI_clamp (by omega), a1]
  rcases pk_ix y (n := S 0 0) (by omega) with hy | hy | ⟨b, hb, rfl⟩
  · exact x_needSlot_f R.1 (Or.inr (Or.inl hy)) (Or.inl ⟨rfl, bad _ (Or.inr ⟨i, a, hi, ha, rfl, a2, Or.inl (Or.inl hy)⟩) (z_finE z_33 (by decide) (hI.go _))⟩)
  · exact x_needSlot_f R.1 (Or.inr (Or.inr hy)) (Or.inl ⟨rfl, bad _ (Or.inr ⟨i, a, hi, ha, rfl, a2, Or.inl (Or.inr hy)⟩) (z_finE z_33 (by decide) (hI.go _))⟩)
  have hs : 12 * a + b < 60 := by omega
  have hc8 := R.2.2.1.2.2.1 _ hs
  refine x_needSlot_t R.1 R.2.2.1 ha hb ⟨vp_in_nI (by omega) (by omega), ?_⟩
  rw [nI_clamp (by omega), R.1.2.2.1 _ hs]
  rcases pk_ix v (n := S 2 (12 * a + b)) (by omega) with hv | hv | ⟨k, hk, rfl⟩
  · exact x_needIndex_f (Or.inl hv) (Or.inl ⟨rfl, bad _ (Or.inr ⟨i, a, hi, ha, rfl, a2, Or.inr ⟨b, hb, rfl, Or.inl hv⟩⟩) (z_finE z_33 (by decide) (hI.go _))⟩)
  · exact x_needIndex_f (Or.inr hv) (Or.inl ⟨rfl, bad _ (Or.inr ⟨i, a, hi, ha, rfl, a2, Or.inr ⟨b, hb, rfl, Or.inr hv⟩⟩) (z_finE z_33 (by decide) (hI.go _))⟩)
  have b4 : g 7 i = -1 ∨ ∃ d, d < 6 ∧ g 7 i = nI d := a4.imp id (fun z => z.1)
  refine x_needIndex_t hk (by omega) ?_
  by_cases cw : w < 0 ∨ 2 < w
  · exact x_needValue_f cw (Or.inr (Or.inl ⟨rfl, m_bow R e2 hm hi ha a2 hb hk b4 (fun _ => z_finE z_33 (by decide) (hI.go _)) (fun z => absurd cw z) (fun z => absurd cw z)⟩))
  refine x_needValue_t (fun z => cw (Or.inl z)) (fun z => cw (Or.inr z)) ?_
  obtain ⟨p, hp, rfl⟩ : ∃ j : Nat, j ≤ 2 ∧ w = nI j := nI_of2 (M := 2) rfl (fun z => cw (Or.inl z)) (Int32.not_lt.mp (fun z => cw (Or.inr z)))
  refine x_needCopyOut e1 hm hi (fun c => Or.inr (Or.inr ⟨rfl, ?_⟩)) (fun c => ?_)
  · exact m_bow R e2 hm hi ha a2 hb hk b4 (fun z => absurd z cw) (fun _ _ => z_finE z_33 (by decide) (hI.go _)) (fun _ z => absurd (by rw [← a3]; exact c) z)
  have cg : ¬ g 7 i = -1 := by rw [← a3]; exact c
  refine x_owes a1 ha (by omega) ?_
  rw [z_ow_eq R (C1 i hi) ha (by omega)]
  cases hz : z_owm g i a b
  · refine ⟨fun _ => ?_, fun y => absurd rfl y⟩
    obtain ⟨d, hd, ed⟩ := b4.resolve_left cg
    rw [a3, ed, nI_clamp (n := d) (by omega)]
    refine ⟨vp_in_nI (by omega) (by omega), nm_e ⟨vp_in_nI (by omega) (by omega), fun B36 h36 => x_bowingAt hs ⟨vp_in_nI (by omega) (by omega), ?_⟩⟩⟩
    rw [nI_clamp (n := 12 * a + b) (by omega)]
    have fin : ∀ (f' : sx_F) (r : Int32), r = z_bX f d (12 * a + b) k → (∀ q, q ≠ 99 + 5 * d + 3 → q ≠ 99 + 5 * d + 4 → f' q = f q) → (∀ s, s ≠ 12 * a + b → f' (99 + 5 * d + 3) s = f (99 + 5 * d + 3) s ∧ f' (99 + 5 * d + 4) s = f (99 + 5 * d + 4) s) → f' (99 + 5 * d + 4) (12 * a + b) = f 4 (12 * a + b) → (∀ j, j < 8 → z_bit (f' (99 + 5 * d + 3) (12 * a + b)) j = if j = k then nI p else z_bX f d (12 * a + b) j) → ∀ o1 : Nat → Int64, o1 = vp_updL o 0 r.toInt64 → P_X7_bow g (nI i) (nI b) (nI k) (nI p) (fun bb g1 => P_X7_thrown g1 (fun tt => tt = 0 ∧ ((0 : Int32) = 0 → o1 0 = bb.toInt64) ∧ z_I (t + 1) f' g1)) := by
      intro f' r hr u1 u2 u3 u4
      refine nm_e (m_bow R e2 hm hi ha a2 hb hk b4 (fun z => absurd z cw) (fun _ z => absurd z (fun z => z.elim cg (fun z => by rw [hz] at z; exact absurd z (by decide)))) (fun _ _ _ d' hd' ed' => ?_))
      have : d = d' := (nI_eq (by omega) (by omega)).mp (ed.symm.trans ed')
      subst this
      rw [hr]
      refine z_fin0 (by rw [sx_u_n (by decide), sx_u_n (by decide)]; exact z_33) (z_bXM ht R hd hs (by omega)).1 ⟨S, R.dk ?_ ?_ ?_ ?_⟩
      · intro q hq; exact u1 q (by omega) (by omega)
      · intro q hq; rw [sx_u_n (by omega), sx_u_n (by omega), sx_u_n (by omega)]
      · intro j hj; rw [sx_u_n (by decide), sx_u_n (by decide), sx_u_s, pk_un hj]
      · generalize 12 * a + b = s at hs u2 u3 u4
        intro d' s' hd' hs'
        obtain ⟨r1, e, ver, r2, r3, r4, r5, r6⟩ := R.mono.2.2.2.2.2.2.2.2 d' s' hd' hs'
        refine ⟨?_, ?_⟩
        · unfold z_D1 at r1 ⊢
          rw [u1 _ (by omega) (by omega), u1 _ (by omega) (by omega)]
          simp (disch := decide) only [sx_u_n]
          exact r1
        · unfold z_D2
          simp (disch := decide) only [sx_u_n, sx_u_s]
          by_cases e5 : d' = d ∧ s' = s
          · obtain ⟨rfl, rfl⟩ := e5
            have hver := (R.2.2.2.2.1 s' hs).1
            refine ⟨ver, ver, Nat.le_refl _, r3, by rw [u3, hver, r5], r5, fun j hj => ?_⟩
            rw [u4 j hj]
            by_cases ej : j = k
            · subst ej
              refine ⟨p, ver, hp, Nat.le_refl _, by rw [pk_us], by rw [pk_us, r5], by rw [if_pos rfl, if_pos rfl, if_pos rfl]⟩
            · obtain ⟨a', c', f1, f2, f3, f4, f5⟩ := r6 j hj
              refine ⟨a', c', f1, f2, by rw [pk_un (by omega)]; exact f3, by rw [pk_un (by omega)]; exact f4, ?_⟩
              rw [if_pos rfl, if_neg ej, (z_bXM ht R hd hs hj).1]
              unfold z_bM
              rw [f3, f4, r5]
              have i2 : (nI c' = nI ver) ↔ c' = ver := nI_eq (by omega) (by omega)
              simp only [i2]
          · refine ⟨e, ver, r2, r3, ?_, r5, fun j hj => ?_⟩
            · by_cases e6 : d' = d
              · subst e6
                rw [(u2 s' (fun z => e5 ⟨rfl, z⟩)).2]; exact r4
              · rw [u1 _ (by omega) (by omega)]; exact r4
            · obtain ⟨a', c', f1, f2, f3, f4, f5⟩ := r6 j hj
              refine ⟨a', c', f1, f2, by rw [pk_un (by omega)]; exact f3, by rw [pk_un (by omega)]; exact f4, ?_⟩
              by_cases e6 : d' = d
              · subst e6
                rw [(u2 s' (fun z => e5 ⟨rfl, z⟩)).1]; exact f5
              · rw [u1 _ (by omega) (by omega)]; exact f5
    refine ⟨fun ce => h36 _ _ ⟨vp_in_nI (by omega) (by omega), vp_in_nI (by omega) (by omega), nm_e ?_⟩, fun ce => ⟨vp_in_nI (by omega) (by omega), nm_e ⟨vp_in_nI (by omega) (by omega), nm_e (h36 _ _ ⟨vp_in_nI (by omega) (by omega), vp_in_nI (by omega) (by omega), nm_e ?_⟩)⟩⟩⟩
    · rw [nI_clamp (n := 12 * a + b) (by omega)]
      refine fin _ _ rfl (fun q h3 h4 => by rw [sx_u_n h3]) (fun s hs => ⟨by rw [sx_u_s, pk_un hs], by rw [sx_u_n (by omega)]⟩) (by rw [sx_u_n (by omega)]; exact ce) (fun j hj => ?_)
      rw [sx_u_s, pk_us]
      show z_bit (z_put _ (nI p) k) j = _
      by_cases ej : j = k
      · rw [ej, if_pos rfl, z_bit_s (by omega) hp]
      · rw [if_neg ej, z_bit_n (by omega) hj ej hp]
        unfold z_bX
        rw [if_pos ce]
    · rw [nI_clamp (n := 12 * a + b) (by omega)]
      refine fin _ _ rfl (fun q h3 h4 => by rw [sx_u_n h3, sx_u_n h3, sx_u_n h4]) (fun s hs => ⟨by rw [sx_u_s, pk_un hs, sx_u_s, pk_un hs, sx_u_n (by omega)], by rw [sx_u_n (by omega), sx_u_n (by omega), sx_u_s, pk_un hs]⟩) (by rw [sx_u_n (by omega), sx_u_n (by omega), sx_u_s, pk_us]) (fun j hj => ?_)
      rw [sx_u_s, pk_us, sx_u_s, pk_us]
      show z_bit (z_put _ (nI p) k) j = _
      by_cases ej : j = k
      · rw [ej, if_pos rfl, z_bit_s (by omega) hp]
      · rw [if_neg ej, z_bit_n (by omega) hj ej hp, z_bit_0 hj]
        unfold z_bX
        rw [if_neg ce]
  · exact ⟨fun y => absurd y (by decide), fun _ => Or.inr (Or.inr ⟨rfl, m_bow R e2 hm hi ha a2 hb hk b4 (fun z => absurd z cw) (fun _ _ => z_finE z_33 (by decide) (hI.go _)) (fun _ _ z => by rw [hz] at z; exact absurd z (by decide))⟩)⟩
