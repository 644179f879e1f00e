theorem z_R.dk {t : Nat} {f g f' g' : sx_F} {S : z_S} (R : z_R t f g S) (hf : ∀ k, k < 99 → f' k = f k) (hg : ∀ k, (1 ≤ k ∧ k ≤ 8) → g' k = g k) (hg0 : ∀ j, j ≠ 33 → g' 0 j = g 0 j) (hD : z_D (t + 1) f' g') : z_R (t + 1) f' g' S := by
  obtain ⟨R1, R2, R3, R4, R5, R6, R7, R8, R9⟩ := R.mono
  refine ⟨?_, ?_, R3, ?_, ?_, ?_, ?_, ?_, hD⟩
  · unfold z_X at R1 ⊢
    simp (disch := omega) only [hf]
    exact R1
  · unfold z_M at R2 ⊢
    simp (disch := omega) only [hg, hg0]
    exact R2
  · unfold z_T at R4 ⊢
    simp (disch := omega) only [hf]
    exact R4
  · unfold z_V at R5 ⊢
    simp (disch := omega) only [hf, hg]
    exact R5
  · unfold z_P at R6 ⊢
    simp (disch := omega) only [hf, hg0]
    exact R6
  · obtain ⟨m, hm, e1, e2, C1, C2⟩ := R7
    refine ⟨m, hm, by rw [hf 0 (by omega)]; exact e1, by rw [hg0 11 (by decide)]; exact e2, fun i hi => ?_, fun i hi hi2 => by rw [hf _ (by omega)]; exact C2 i hi hi2⟩
    have hc := C1 i hi
    unfold z_C1 at hc ⊢
    rw [hf _ (by omega), hf _ (by omega), hg 6 (by decide), hg 7 (by decide), hg 8 (by decide)]
    exact hc
  · rw [hf 0 (by omega), hg0 12 (by decide)]; exact R8
def z_bX (f : sx_F) (d s k : Nat) : Int32 := if f (99 + 5 * d + 4) s = f 4 s then z_bit (f (99 + 5 * d + 3) s) k else 0
def z_bM (g : sx_F) (d s k : Nat) : Int32 := if g 12 (8 * (60 * d + s) + k) = g 5 s then g 11 (8 * (60 * d + s) + k) else 0
theorem z_bXM {t : Nat} {f g : sx_F} {S : z_S} (ht : t < 1000000) (R : z_R t f g S) {d s k : Nat} (hd : d < 6) (hs : s < 60) (hk : k < 8) : z_bX f d s k = z_bM g d s k ∧ ∃ a, a ≤ 2 ∧ z_bM g d s k = nI a := by
  obtain ⟨-, e, v, he, hv, b1, b2, b3⟩ := R.2.2.2.2.2.2.2.2 d s hd hs
  obtain ⟨a, c, ha, hc, c1, c2, c3⟩ := b3 k hk
  have hver := (R.2.2.2.2.1 s hs).1
  unfold z_bX z_bM
  rw [hver, b1, b2, c1, c2]
  have i1 : (nI e = nI v) ↔ e = v := nI_eq (by omega) (by omega)
  have i2 : (nI c = nI v) ↔ c = v := nI_eq (by omega) (by omega)
  refine ⟨?_, ?_⟩
  · simp only [i1, i2]
    exact c3
  · by_cases z : c = v
    · exact ⟨a, ha, by rw [if_pos (i2.mpr z)]⟩
    · exact ⟨0, by omega, by rw [if_neg (fun y => z (i2.mp y))]; rfl⟩
theorem x_bowingAt {f : sx_F} {d s k : Nat} {Q : Int32 → Prop} (hs : s < 60) (h : Q (z_bX f d s k)) : P_X2_bowingAt f (99 + 5 * d) (nI s) (nI k) (f 4 s) Q := by
  unfold P_X2_bowingAt
  rw [nI_clamp (by omega)]
  unfold z_bX at h
  refine ⟨vp_in_nI (by omega) (by omega), fun c => ⟨vp_in_nI (by omega) (by omega), ?_⟩, fun c => ?_⟩
  · rw [if_pos c] at h; exact h
  · rw [if_neg c] at h; exact h
theorem z_at3 (d s k : Nat) : 8 * (60 * nI d + nI s) + nI k = nI (8 * (60 * d + s) + k) := by
  rw [z_l8, z_l60, pk_mul, nI_add, pk_mul, nI_add]
theorem z_at2 (d s : Nat) : 60 * nI d + nI s = nI (60 * d + s) := by
  rw [z_l60, pk_mul, nI_add]
theorem m_bowing {g : sx_F} {d s k : Nat} {Q : Int32 → Prop} (hd : d < 6) (hs : s < 60) (hk : k < 8) (h : Q (z_bM g d s k)) : P_X7_bowing g (nI d) (nI s) (nI k) Q := by
  unfold P_X7_bowing
  rw [z_at3]
  refine nm_e ⟨vp_in_nI (by omega) (by omega), vp_in_nI (by omega) (by omega), ?_⟩
  rw [nI_clamp (by omega), nI_clamp (by omega)]
  unfold z_bM at h
  refine ⟨fun c => ⟨vp_in_nI (by omega) (by omega), ?_⟩, fun c => ?_⟩
  · rw [if_pos c] at h; exact h
  · rw [if_neg c] at h; exact h
theorem k_markOf {t : Nat} {f g : sx_F} {o : Nat → Int64} {x y w : Int32} (h : z_I t f g) : P_case_markOf f g o x y w (z_I (t + 1)) := by
  have hI := h
  obtain ⟨S, R⟩ := h
  have hn := R.2.2.1.1
  unfold P_case_markOf P_L_markOf P_X6_markOf
  have bad : ∀ QQ : Int32 → sx_F → Prop, ((x < 0 ∨ nI 6 ≤ x) ∨ ((y < 0 ∨ nI 5 ≤ y) ∨ (w < 0 ∨ nI (S 0 0) ≤ w))) → QQ 0 (sx_u g 0 33 1) → P_X7_markOf g x y w QQ := by
    intro QQ hb q B28 B29 h28 h29
    have k : B28 g := h28 _ (h29 _ _ (m_goes_1 ⟨fun _ => q, fun c => absurd rfl c⟩))
    by_cases c : x < 0 ∨ 5 < x
    · exact m_in_f c ⟨fun _ => k, fun c => absurd rfl c⟩
    · refine m_in_t (fun z => c (Or.inl z)) (fun z => c (Or.inr z)) ⟨fun c => absurd c (by decide), fun _ => ?_⟩
      rcases hb with hb | hb
      · rcases hb with hb | hb
        · exact absurd (Or.inl hb) c
        · exact absurd (Or.inr ((z_pred x (n := 6) (by omega)).mpr hb)) c
      · exact m_pair_f R.2.1 R.2.2.1 hb k
  rcases pk_ix x (n := 6) (by omega) with hx | hx | ⟨d, hd, rfl⟩
  · exact x_needIndex_f (Or.inl hx) ⟨rfl, bad _ (Or.inl (Or.inl hx)) (z_finE z_33 (by decide) (hI.go _))⟩
  · exact x_needIndex_f (Or.inr hx) ⟨rfl, bad _ (Or.inl (Or.inr hx)) (z_finE z_33 (by decide) (hI.go _))⟩
  refine x_needIndex_t (n := 6) hd (by omega) ⟨vp_in_nI (by omega) (by omega), nm_e ?_⟩
  rw [nI_clamp (by omega)]
  rcases z_pair y w (a := 5) (n := S 0 0) (by omega) (by omega) with hbad | ⟨i, b, hi, hb, rfl, rfl⟩
  · exact x_needSlot_f R.1 hbad ⟨rfl, bad _ (Or.inr hbad) (z_finE z_33 (by decide) (hI.go _))⟩
  refine x_needSlot_t R.1 R.2.2.1 hi hb ⟨vp_in_nI (by omega) (by omega), nm_e ?_⟩
  rw [nI_clamp (by omega)]
  intro B28 B29 h28 h29
  refine m_in_t (nI_pos (by omega)) (nI_nlt (a := 5) (b := d) (by omega) (by omega)) ⟨fun c => absurd c (by decide), fun _ => m_pair_t R.2.1 R.2.2.1 hi hb (h29 _ _ (m_goes_0 ⟨fun c => absurd c (by decide), fun _ => m_cell ?_⟩))⟩
  rw [z_at2, nI_clamp (by omega)]
  refine ⟨vp_in_nI (by omega) (by omega), z_fin0 z_33 ?_ (hI.go _)⟩
  rw [sx_u_n (by decide)]
  obtain ⟨⟨⟨a, ha, a1, a2⟩, -⟩, -⟩ := R.2.2.2.2.2.2.2.2 d (12 * i + b) hd (by omega)
  rw [a1, a2]
theorem k_oldMarks {t : Nat} {f g : sx_F} {o : Nat → Int64} {x : Int32} (h : z_I t f g) : P_case_oldMarks f g o x (z_I (t + 1)) := by
  have hI := h
  obtain ⟨S, R⟩ := h
  unfold P_case_oldMarks P_L_oldMarks P_X6_oldMarks
  have bad : ∀ QQ : Int32 → sx_F → Prop, (x < 0 ∨ 5 < x) → QQ 0 (sx_u g 0 33 1) → P_X7_oldMarks g x QQ := by
    intro QQ hb q B18 B71 B72 h18 h71 h72
    exact m_in_f hb (m_goes_1 (h18 _ _ _ _ ⟨fun _ => q, fun c => absurd rfl c⟩))
  rcases pk_ix x (n := 6) (by omega) with hx | hx | ⟨d, hd, rfl⟩
  · exact x_needIndex_f (Or.inl hx) ⟨rfl, bad _ (Or.inl hx) (z_finE z_33 (by decide) (hI.go _))⟩
  · exact x_needIndex_f (Or.inr hx) ⟨rfl, bad _ (Or.inr ((z_pred x (n := 6) (by omega)).mpr hx)) (z_finE z_33 (by decide) (hI.go _))⟩
  refine x_needIndex_t (n := 6) hd (by omega) ⟨vp_in_nI (by omega) (by omega), nm_e ?_⟩
  rw [nI_clamp (by omega)]
  have hD := fun s (hs : s < 60) => (R.2.2.2.2.2.2.2.2 d s hd hs).1
  have hv := fun s (hs : s < 60) => (R.2.2.2.2.1 s hs).1
  -- the reference's count, and its end
  have ref : ∀ QQ : Int32 → sx_F → Prop, QQ (nI (z_cnt (fun s => decide (¬ g 9 (60 * d + s) = 0 ∧ ¬ g 10 (60 * d + s) = g 5 s)) 60)) (sx_u g 0 33 0) → P_X7_oldMarks g (nI d) QQ := by
    intro QQ q B18 B71 B72 h18 h71 h72
    refine m_in_t (nI_pos (by omega)) (nI_nlt (a := 5) (b := d) (by omega) (by omega)) (m_goes_0 ?_)
    refine z_up (B := fun k => B18 (sx_u g 0 33 0) (nI (z_cnt (fun s => decide (¬ g 9 (60 * d + s) = 0 ∧ ¬ g 10 (60 * d + s) = g 5 s)) k)) 1 (nI k)) 60 (fun k hk ih => h18 _ _ _ _ ⟨fun c => absurd c (by decide), fun _ => pk_le 60 k (fun c => ?_) (fun c => ?_)⟩)
    · rw [show k = 60 by omega]; exact q
    · rw [z_at2, nI_clamp (n := k) (by omega), nI_clamp (n := 60 * d + k) (by omega)]
      simp (disch := decide) only [sx_u_n]
      have i2 : B18 (sx_u g 0 33 0) (nI (z_cnt (fun s => decide (¬ g 9 (60 * d + s) = 0 ∧ ¬ g 10 (60 * d + s) = g 5 s)) k + (if decide (¬ g 9 (60 * d + k) = 0 ∧ ¬ g 10 (60 * d + k) = g 5 k) then 1 else 0))) 1 (nI (k + 1)) := ih c
      obtain ⟨⟨a, ha, a1, a2⟩, a3⟩ := hD k c
      have no : ¬ (¬ g 9 (60 * d + k) = 0 ∧ ¬ g 10 (60 * d + k) = g 5 k) → B71 (sx_u g 0 33 0) 1 (nI k) (nI (z_cnt (fun s => decide (¬ g 9 (60 * d + s) = 0 ∧ ¬ g 10 (60 * d + s) = g 5 s)) k)) := fun z => by
        rw [decide_eq_false z] at i2
        exact h71 _ _ _ _ (h72 _ _ _ _ _ (nm_e (nm_e (by rw [nI_1]; exact (Int32.add_zero _).symm ▸ i2))))
      refine ⟨vp_in_nI (by omega) (by omega), ?_⟩
      by_cases z : a = 0
      · rw [a2, z]
        exact ⟨fun _ => no (fun y => y.1 (by rw [a2, z]; rfl)), fun y => absurd (nI_le (Nat.le_refl 0) (by omega)) y⟩
      · have nz : ¬ g 9 (60 * d + k) = 0 := by rw [a2]; exact nI_ne0 (by omega) (by omega)
        refine ⟨fun y => absurd y (by rw [a2]; exact nI_nle (by omega) (by omega)), fun _ => ⟨vp_in_nI (by omega) (by omega), vp_in_nI (by omega) (by omega), fun y => no (fun w => w.2 y), fun y => ?_⟩⟩
        rw [decide_eq_true (show ¬ g 9 (60 * d + k) = 0 ∧ ¬ g 10 (60 * d + k) = g 5 k from ⟨nz, y⟩)] at i2
        exact h72 _ _ _ _ _ (nm_e (nm_e (by rw [nI_1, nI_1]; exact i2)))
  have hc : z_cnt (fun s => decide (¬ f (99 + 5 * d + 1) s = 0 ∧ ¬ f (99 + 5 * d + 2) s = f 4 s)) 60 = z_cnt (fun s => decide (¬ g 9 (60 * d + s) = 0 ∧ ¬ g 10 (60 * d + s) = g 5 s)) 60 := z_cnt_c 60 (fun s hs => by
    obtain ⟨⟨a, ha, a1, a2⟩, a3⟩ := hD s hs
    rw [a1, a2, a3, hv s hs])
  intro B4 B37 h4 h37
  refine z_up (B := fun k => B4 (nI (z_cnt (fun s => decide (¬ f (99 + 5 * d + 1) s = 0 ∧ ¬ f (99 + 5 * d + 2) s = f 4 s)) k)) (nI k)) 60 (fun k hk ih => h4 _ _ (pk_le 60 k (fun c => ?_) (fun c => ?_)))
  · rw [show k = 60 by omega, hc]
    exact nm_e (ref _ (z_fin0 z_33 rfl (hI.go _)))
  · rw [nI_clamp (by omega)]
    have i2 : B4 (nI (z_cnt (fun s => decide (¬ f (99 + 5 * d + 1) s = 0 ∧ ¬ f (99 + 5 * d + 2) s = f 4 s)) k + (if decide (¬ f (99 + 5 * d + 1) k = 0 ∧ ¬ f (99 + 5 * d + 2) k = f 4 k) then 1 else 0))) (nI (k + 1)) := ih c
    have no : ¬ (¬ f (99 + 5 * d + 1) k = 0 ∧ ¬ f (99 + 5 * d + 2) k = f 4 k) → B37 (nI (z_cnt (fun s => decide (¬ f (99 + 5 * d + 1) s = 0 ∧ ¬ f (99 + 5 * d + 2) s = f 4 s)) k)) (nI k) := fun z => by
      rw [decide_eq_false z] at i2
      exact h37 _ _ (nm_e (by rw [nI_1]; exact i2))
    refine ⟨vp_in_nI (by omega) (by omega), fun y => no (fun w => w.1 y), fun y => ⟨vp_in_nI (by omega) (by omega), vp_in_nI (by omega) (by omega), fun y2 => no (fun w => w.2 y2), fun y2 => nm_e ?_⟩⟩
    rw [decide_eq_true (show ¬ f (99 + 5 * d + 1) k = 0 ∧ ¬ f (99 + 5 * d + 2) k = f 4 k from ⟨y, y2⟩)] at i2
    exact h37 _ _ (nm_e (by rw [nI_1, nI_1]; exact i2))
