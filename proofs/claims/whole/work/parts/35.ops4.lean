theorem k_bars {t : Nat} {f g : sx_F} (h : z_I t f g) : P_case_bars f g (z_I (t + 1)) := by
  have hI := h
  obtain ⟨S, R⟩ := h
  refine nm_e ⟨?_, hI.go _⟩
  rw [R.1.1, sx_u_s, pk_un (by decide)]
  exact R.2.1.1.symm
theorem k_copies {t : Nat} {f g : sx_F} (h : z_I t f g) : P_case_copies f g (z_I (t + 1)) := by
  have hI := h
  obtain ⟨S, R⟩ := h
  obtain ⟨m, hm, e1, e2, -⟩ := R.2.2.2.2.2.2.1
  refine nm_e ⟨?_, hI.go _⟩
  rw [e1, sx_u_s, pk_un (by decide)]
  exact e2.symm
theorem k_concerts {t : Nat} {f g : sx_F} (h : z_I t f g) : P_case_concerts f g (z_I (t + 1)) := by
  have hI := h
  obtain ⟨S, R⟩ := h
  refine nm_e ⟨?_, hI.go _⟩
  rw [sx_u_s, pk_un (by decide)]
  exact R.2.2.2.2.2.2.2.1
theorem k_notes {t : Nat} {f g : sx_F} {o : Nat → Int64} {x1 x2 : Int32} (h : z_I t f g) : P_case_notes f g o x1 x2 (z_I (t + 1)) := by
  have hI := h
  obtain ⟨S, R⟩ := h
  have hn := R.2.2.1.1
  unfold P_case_notes P_L_notes P_X6_notes
  rcases z_pair x1 x2 (a := 5) (n := S 0 0) (by omega) (by omega) with hbad | ⟨i, b, hi, hb, rfl, rfl⟩
  · refine x_needSlot_f R.1 hbad ⟨rfl, ?_⟩
    intro B20 B21 h20 h21
    exact m_pair_f R.2.1 R.2.2.1 hbad (h20 _ (h21 _ _ (m_goes_1 ⟨fun _ => z_finE z_33 (by decide) (hI.go _), fun c => absurd rfl c⟩)))
  have hs : 12 * i + b < 60 := by omega
  refine x_needSlot_t R.1 R.2.2.1 hi hb ⟨vp_in_nI (by omega) (by omega), nm_e ?_⟩
  intro B20 B21 h20 h21
  refine m_pair_t R.2.1 R.2.2.1 hi hb (h21 _ _ (m_goes_0 ⟨fun c => absurd c (by decide), fun _ => m_cell ⟨vp_in_nI (by omega) (by omega), ?_⟩⟩))
  refine z_fin0 z_33 ?_ (hI.go _)
  rw [nI_clamp (by omega), sx_u_n (by decide), R.1.2.2.1 _ hs, R.2.1.2.2.1 _ hs]
theorem k_version {t : Nat} {f g : sx_F} {o : Nat → Int64} {x1 x2 : Int32} (h : z_I t f g) : P_case_version f g o x1 x2 (z_I (t + 1)) := by
  have hI := h
  obtain ⟨S, R⟩ := h
  have hn := R.2.2.1.1
  unfold P_case_version P_L_version P_X6_version
  rcases z_pair x1 x2 (a := 5) (n := S 0 0) (by omega) (by omega) with hbad | ⟨i, b, hi, hb, rfl, rfl⟩
  · refine x_needSlot_f R.1 hbad ⟨rfl, ?_⟩
    intro B20 B21 h20 h21
    exact m_pair_f R.2.1 R.2.2.1 hbad (h20 _ (h21 _ _ (m_goes_1 ⟨fun _ => z_finE z_33 (by decide) (hI.go _), fun c => absurd rfl c⟩)))
  have hs : 12 * i + b < 60 := by omega
  refine x_needSlot_t R.1 R.2.2.1 hi hb ⟨vp_in_nI (by omega) (by omega), nm_e ?_⟩
  intro B20 B21 h20 h21
  refine m_pair_t R.2.1 R.2.2.1 hi hb (h21 _ _ (m_goes_0 ⟨fun c => absurd c (by decide), fun _ => m_cell ⟨vp_in_nI (by omega) (by omega), ?_⟩⟩))
  refine z_fin0 z_33 ?_ (hI.go _)
  rw [nI_clamp (by omega), sx_u_n (by decide), (R.2.2.2.2.1 _ hs).1]
theorem k_noteAt {t : Nat} {f g : sx_F} {o : Nat → Int64} {x1 x2 x3 : Int32} (h : z_I t f g) : P_case_noteAt f g o x1 x2 x3 (z_I (t + 1)) := by
  have hI := h
  obtain ⟨S, R⟩ := h
  have hn := R.2.2.1.1
  unfold P_case_noteAt P_L_noteAt P_X6_noteAt
  have bad : ∀ QQ : Int32 → sx_F → Prop, ((((x1 < 0 ∨ nI 5 ≤ x1) ∨ (x2 < 0 ∨ nI (S 0 0) ≤ x2)) ∨ ∃ i b : Nat, i < 5 ∧ b < S 0 0 ∧ x1 = nI i ∧ x2 = nI b ∧ (x3 < 0 ∨ nI (S 2 (12 * i + b)) ≤ x3))) → QQ 0 (sx_u g 0 33 1) → P_X7_noteAt g x1 x2 x3 QQ := fun QQ hb q => m_isNote_f R.2.1 R.2.2.1 hb (m_goes_1 ⟨fun _ => q, fun c => absurd rfl c⟩)
  rcases z_pair x1 x2 (a := 5) (n := S 0 0) (by omega) (by omega) with hbad | ⟨i, b, hi, hb, rfl, rfl⟩
  · exact x_needSlot_f R.1 hbad ⟨rfl, bad _ (Or.inl hbad) (z_finE z_33 (by decide) (hI.go _))⟩
  have hs : 12 * i + b < 60 := by omega
  have hc8 := R.2.2.1.2.2.1 _ hs
  refine x_needSlot_t R.1 R.2.2.1 hi hb ⟨vp_in_nI (by omega) (by omega), ?_⟩
  rw [nI_clamp (by omega), R.1.2.2.1 _ hs]
  rcases pk_ix x3 (n := S 2 (12 * i + b)) (by omega) with h3 | h3 | ⟨k, hk, rfl⟩
  · exact x_needIndex_f (Or.inl h3) ⟨rfl, bad _ (Or.inr ⟨i, b, hi, hb, rfl, rfl, Or.inl h3⟩) (z_finE z_33 (by decide) (hI.go _))⟩
  · exact x_needIndex_f (Or.inr h3) ⟨rfl, bad _ (Or.inr ⟨i, b, hi, hb, rfl, rfl, Or.inr h3⟩) (z_finE z_33 (by decide) (hI.go _))⟩
  refine x_needIndex_t hk (by omega) (x_lengthAt R.1 hs (by omega) (x_pitchAt R.1 hs (by omega) (nm_e ?_)))
  refine m_isNote_t R.2.1 R.2.2.1 hi hb hk (m_goes_0 ⟨fun c => absurd c (by decide), fun _ => m_cell (nm_e ⟨?_, ?_, ?_⟩)⟩)
  · rw [z_at']; exact vp_in_nI (by omega) (by omega)
  · rw [z_at']; exact vp_in_nI (by omega) (by omega)
  · refine z_fin0 z_33 ?_ (hI.go _)
    rw [z_at', nI_clamp (by omega), sx_u_n (by decide), sx_u_n (by decide), R.2.1.2.2.2.1 _ (by omega), R.2.1.2.2.2.2 _ (by omega)]
theorem m_time {g : sx_F} {S : z_S} (M : z_M g S) (W : z_W S) {x : Int32} {Q : Int32 → sx_F → Prop} (h1 : (x < 0 ∨ nI (S 0 0 + 1) ≤ x) → Q 0 (sx_u g 0 33 1)) (h2 : ∀ b, b ≤ S 0 0 → x = nI b → Q (nI (z_tm S b)) (sx_u g 0 33 0)) : P_X7_time g x Q := by
  have hn := W.1
  intro B hB
  have e : ∀ y : Int32, nI (S 0 0) < y ↔ nI (S 0 0 + 1) ≤ y := fun y => by
    rw [← z_pred y (n := S 0 0 + 1) (by omega), nI_pred]
  rw [M.1]
  rcases pk_ix x (n := S 0 0 + 1) (by omega) with hx | hx | ⟨b, hb, rfl⟩
  · exact m_in_f (Or.inl hx) (m_goes_1 (hB _ _ _ _ ⟨fun _ => h1 (Or.inl hx), fun c => absurd rfl c⟩))
  · exact m_in_f (Or.inr ((e x).mpr hx)) (m_goes_1 (hB _ _ _ _ ⟨fun _ => h1 (Or.inr hx), fun c => absurd rfl c⟩))
  · refine m_in_t (nI_pos (by omega)) (nI_nlt (by omega) (by omega)) (m_goes_0 ?_)
    have q := h2 b (by omega) rfl
    refine z_up (B := fun k => B (sx_u g 0 33 0) (nI (z_tm S k)) 1 (nI k)) b (fun k hk ih => hB _ _ _ _ ⟨fun c => absurd c (by decide), fun _ => pk_le b k (fun c => ?_) (fun c => ⟨vp_in_nI (by omega) (by omega), nm_e (nm_e ?_)⟩)⟩)
    · rw [show k = b by omega]; exact q
    · rw [nI_clamp (by omega), sx_u_n (by decide), M.2.1 k (by omega), nI_add, nI_1]
      exact ih c
theorem k_time {t : Nat} {f g : sx_F} {o : Nat → Int64} {x : Int32} (h : z_I t f g) : P_case_time f g o x (z_I (t + 1)) := by
  have hI := h
  obtain ⟨S, R⟩ := h
  have hn := R.2.2.1.1
  unfold P_case_time P_L_time P_X6_time
  rw [R.1.1, nI_1]
  rcases pk_ix x (n := S 0 0 + 1) (by omega) with hx | hx | ⟨b, hb, rfl⟩
  · exact x_needIndex_f (Or.inl hx) ⟨rfl, m_time R.2.1 R.2.2.1 (fun _ => z_finE z_33 (by decide) (hI.go _)) (fun b hb e => absurd hx (by rw [e]; exact nI_pos (by omega)))⟩
  · exact x_needIndex_f (Or.inr hx) ⟨rfl, m_time R.2.1 R.2.2.1 (fun _ => z_finE z_33 (by decide) (hI.go _)) (fun b hb e => absurd hx (by rw [e]; exact nI_ge (by omega) (by omega)))⟩
  · refine x_needIndex_t hb (by omega) ⟨vp_in_nI (by omega) (by omega), nm_e (m_time R.2.1 R.2.2.1 (fun c => absurd c (fun z => z.elim (nI_pos (by omega)) (nI_ge hb (by omega)))) (fun b' hb' e => ?_))⟩
    have eb : b = b' := (nI_eq (by omega) (by omega)).mp e
    subst eb
    refine z_fin0 z_33 ?_ (hI.go _)
    rw [nI_clamp (by omega), R.2.2.2.1 b hb']
theorem k_timeByBars {t : Nat} {f g : sx_F} {o : Nat → Int64} {x : Int32} (h : z_I t f g) : P_case_timeByBars f g o x (z_I (t + 1)) := by
  have hI := h
  obtain ⟨S, R⟩ := h
  have hn := R.2.2.1.1
  unfold P_case_timeByBars P_L_timeByBars P_X6_timeByBars
  rw [R.1.1, nI_1]
  rcases pk_ix x (n := S 0 0 + 1) (by omega) with hx | hx | ⟨b, hb, rfl⟩
  · exact x_needIndex_f (Or.inl hx) ⟨rfl, m_time R.2.1 R.2.2.1 (fun _ => z_finE z_33 (by decide) (hI.go _)) (fun b hb e => absurd hx (by rw [e]; exact nI_pos (by omega)))⟩
  · exact x_needIndex_f (Or.inr hx) ⟨rfl, m_time R.2.1 R.2.2.1 (fun _ => z_finE z_33 (by decide) (hI.go _)) (fun b hb e => absurd hx (by rw [e]; exact nI_ge (by omega) (by omega)))⟩
  · refine x_needIndex_t hb (by omega) (x_countTime R.1 R.2.2.1 (by omega) (nm_e (m_time R.2.1 R.2.2.1 (fun c => absurd c (fun z => z.elim (nI_pos (by omega)) (nI_ge hb (by omega)))) (fun b' hb' e => ?_))))
    have eb : b = b' := (nI_eq (by omega) (by omega)).mp e
    subst eb
    exact z_fin0 z_33 rfl (hI.go _)
