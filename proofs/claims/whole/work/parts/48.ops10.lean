theorem z_cnt_ex {p : Nat → Bool} : ∀ e j, j < z_cnt p e → ∃ x, x < e ∧ p x = true ∧ z_cnt p x = j
  | 0, j, h => absurd h (Nat.not_lt_zero _)
  | e + 1, j, h => by
    rw [z_cnt_s] at h
    by_cases c : j < z_cnt p e
    · obtain ⟨x, h1, h2, h3⟩ := z_cnt_ex e j c
      exact ⟨x, by omega, h2, h3⟩
    · cases hp : p e
      · rw [hp] at h; simp at h; exact absurd h c
      · rw [hp] at h
        simp at h
        exact ⟨e, by omega, hp, by omega⟩
/-- the first bar of a bar's item -/
theorem z_first {S : z_S} {bk : Nat} : ∀ b, ∃ x, x ≤ b ∧ z_new S bk x = true ∧ z_it S bk (b + 1) = z_it S bk x + 1 ∧ z_drw S bk x = z_drw S bk b ∧ (x < b → z_drw S bk b = 6)
  | 0 => ⟨0, Nat.le_refl _, z_new0 S bk, by rw [z_it_s, z_new0]; rfl, rfl, fun z => absurd z (by omega)⟩
  | b + 1 => by
    cases hn : z_new S bk (b + 1)
    · obtain ⟨x, h1, h2, h3, h4, h5⟩ := z_first (S := S) (bk := bk) b
      have hq : 0 < b + 1 ∧ z_drw S bk (b + 1) = 6 ∧ z_drw S bk (b + 1 - 1) = 6 := by
        unfold z_new at hn
        rw [decide_eq_false_iff_not] at hn
        exact Decidable.not_not.mp hn
      rw [show b + 1 - 1 = b by omega] at hq
      exact ⟨x, by omega, h2, by rw [z_it_s, hn, h3]; rfl, by rw [h4, hq.2.1, hq.2.2], fun _ => hq.2.1⟩
    · exact ⟨b + 1, Nat.le_refl _, hn, by rw [z_it_s, hn]; rfl, rfl, fun z => absurd z (by omega)⟩
/-- the last bar of a bar's item -/
theorem z_last {S : z_S} {bk n : Nat} : ∀ d b, b + d + 1 = n → ∃ l, b ≤ l ∧ l < n ∧ (l + 1 = n ∨ z_new S bk (l + 1) = true) ∧ z_it S bk (l + 1) = z_it S bk (b + 1)
  | 0, b, h => ⟨b, Nat.le_refl _, by omega, Or.inl (by omega), rfl⟩
  | d + 1, b, h => by
    cases hn : z_new S bk (b + 1)
    · obtain ⟨l, h1, h2, h3, h4⟩ := z_last (S := S) (bk := bk) (n := n) d (b + 1) (by omega)
      exact ⟨l, by omega, h2, h3, by rw [h4, z_it_s, hn]; rfl⟩
    · exact ⟨b, Nat.le_refl _, by omega, Or.inr hn, rfl⟩
theorem m_itemWith {g : sx_F} {S : z_S} {bk b : Nat} {Q : Int32 → Prop} (H : z_H g S bk (S 0 0)) (hn : S 0 0 ≤ 12) (hb : b < S 0 0) (h : Q (nI (z_it S bk (b + 1) - 1))) : P_X7_itemWith g (nI b) Q := by
  intro B2 h2
  have hp := z_it_pos (S := S) (bk := bk) (show 0 < b + 1 by omega)
  have hle : z_it S bk (b + 1) ≤ b + 1 := z_cnt_le (b + 1)
  refine z_up (B := fun j => B2 (nI j)) (z_it S bk (b + 1) - 1) (fun j hj ih => h2 _ ⟨vp_in_nI (by omega) (by omega), ?_⟩)
  rw [nI_clamp (by omega)]
  by_cases e : j = z_it S bk (b + 1) - 1
  · obtain ⟨l, h1, h3, h4, h5⟩ := z_last (S := S) (bk := bk) (n := S 0 0) (S 0 0 - b - 1) b (by omega)
    have hl := H.2.2 l h3 h4
    rw [h5, ← e] at hl
    rw [hl]
    exact pk_le b l (fun _ => by rw [e]; exact h) (fun c => absurd c (by omega))
  · obtain ⟨x, h1, h3, h4⟩ := z_cnt_ex (p := z_new S bk) (b + 1) (j + 1) (by show j + 1 < z_it S bk (b + 1); omega)
    have hx : x ≠ 0 := fun z => by rw [z] at h4; exact absurd h4 (by show (0 : Nat) ≠ j + 1; omega)
    have hl := H.2.2 (x - 1) (by omega) (Or.inr (by rw [show x - 1 + 1 = x by omega]; exact h3))
    rw [show x - 1 + 1 = x by omega, show z_it S bk x - 1 = j by show z_cnt (z_new S bk) x - 1 = j; omega] at hl
    rw [hl]
    refine pk_le b (x - 1) (fun c => absurd c (by omega)) (fun _ => nm_e ?_)
    rw [nI_1]
    exact ih (by omega)
theorem x_openBook {t : Nat} {f g : sx_F} {S : z_S} {bk : Nat} {Q : sx_F → Prop} {X : String → sx_F → Prop} (R : z_R t f g S) (hbk : bk ≤ 5) (h : ∀ f' : sx_F, z_fx f f' → z_X f' S → (∀ k, 19 ≤ k → f' k = f k) → f' 11 0 = 0 → f' 12 0 = 0 → f' 8 2 = nI bk → z_G f' S bk (S 0 0) → Q f') : P_X6_openBook f (nI bk) Q X := by
  obtain ⟨w, q, p1, p2, p3, p4, p5, p6, p7, p8, p11, p12, p17, p18⟩ := R.2.2.2.2.2.1
  refine x_needIndex_t (n := 6) (by omega) (by omega) (x_gather R.1 R.2.2.1 hbk p11 p12 p17 p18 (fun f' a1 a2 a3 a4 a5 => ?_))
  have a0 := a5.2.2.2.1 0 (by omega)
  have fx : z_fx f f' := by
    refine ⟨fun k hk => a1 k (by omega), fun k j hk => ?_⟩
    rcases hk with ⟨rfl, hk⟩ | ⟨rfl, rfl | rfl | rfl | rfl⟩
    · rw [a1 19 (by omega)]
    · rw [a2, p11]
    · rw [a3, p12]
    · rw [p17]; exact a0.1
    · rw [p18]; exact a0.2
  exact h f' fx (R.1.fx fx) (fun k hk => a1 k (by omega)) a2 a3 a4 a5
theorem z_gx_items {g g' : sx_F} (h1 : ∀ k, (1 ≤ k ∧ k ≤ 12) ∨ 16 ≤ k → g' k = g k) (h2 : ∀ j, j ≠ 20 → g' 0 j = g 0 j) : z_gx g g' := ⟨fun k hk => h1 k (Or.inl hk), fun j hj => h2 j (by omega)⟩
theorem k_items {t : Nat} {f g : sx_F} {o : Nat → Int64} {x : Int32} (h : z_I t f g) : P_case_items f g o x (z_I (t + 1)) := by
  have hI := h
  obtain ⟨S, R⟩ := h
  unfold P_case_items P_L_items P_X6_items
  have bad : ∀ QQ : Int32 → sx_F → Prop, (x < 0 ∨ nI 6 ≤ x) → QQ 0 (sx_u g 0 33 1) → P_X7_items g x QQ := by
    intro QQ hb q
    refine m_isBook ?_
    rw [z_no hb]
    exact m_goes_1 ⟨fun _ => q, fun c => absurd rfl c⟩
  rcases pk_ix x (n := 6) (by omega) with hx | hx | ⟨bk, hbk, rfl⟩
  · exact x_needIndex_f (Or.inl hx) ⟨rfl, bad _ (Or.inl hx) (z_finE z_33 (by decide) (hI.go _))⟩
  · exact x_needIndex_f (Or.inr hx) ⟨rfl, bad _ (Or.inr hx) (z_finE z_33 (by decide) (hI.go _))⟩
  refine x_openBook R (by omega) (fun f' fx _ _ _ _ _ G => nm_e ?_)
  refine m_isBook ?_
  rw [z_yes hbk (by omega)]
  refine m_goes_0 ⟨fun c => absurd c (by decide), fun _ => m_laysItems (R.2.1.gx (z_gx.go g 0)) R.2.2.1 (by omega) (fun g' a1 a2 a3 => z_fin0 (by rw [a2 33 (by decide)]; exact z_33) ?_ (hI.same fx ((z_gx.go g 0).trans (z_gx_items a1 a2))))⟩
  rw [G.1, a3.1]
theorem k_itemOf {t : Nat} {f g : sx_F} {o : Nat → Int64} {x y : Int32} (h : z_I t f g) : P_case_itemOf f g o x y (z_I (t + 1)) := by
  have hI := h
  obtain ⟨S, R⟩ := h
  have hn := R.2.2.1.1
  unfold P_case_itemOf P_L_itemOf P_X6_itemOf
  have bad : ∀ QQ : Int32 → sx_F → Prop, ((x < 0 ∨ nI 6 ≤ x) ∨ (y < 0 ∨ nI (S 0 0) ≤ y)) → QQ 0 (sx_u g 0 33 1) → P_X7_itemOf g x y QQ := by
    intro QQ hb q B20 B21 h20 h21
    have k : B20 g := h20 _ (h21 _ _ (m_goes_1 ⟨fun _ => q, fun c => absurd rfl c⟩))
    refine m_isBook ?_
    rcases z_b_cases (decide (¬ x < 0 ∧ ¬ nI 6 ≤ x)) with e | e
    · rw [e]; exact ⟨fun _ => k, fun c => absurd rfl c⟩
    · rw [e]
      refine ⟨fun c => absurd c (by decide), fun _ => m_isBar R.2.1.1 (by omega) ?_⟩
      rcases hb with hb | hb
      · rw [z_no hb] at e; exact absurd e (by decide)
      · rw [z_no hb]; exact ⟨fun _ => k, fun c => absurd rfl c⟩
  rcases pk_ix x (n := 6) (by omega) with hx | hx | ⟨bk, hbk, rfl⟩
  · exact x_needIndex_f (Or.inl hx) ⟨rfl, bad _ (Or.inl (Or.inl hx)) (z_finE z_33 (by decide) (hI.go _))⟩
  · exact x_needIndex_f (Or.inr hx) ⟨rfl, bad _ (Or.inl (Or.inr hx)) (z_finE z_33 (by decide) (hI.go _))⟩
  refine x_openBook R (by omega) (fun f' fx Z' _ _ _ _ G => ?_)
  rw [Z'.1]
  rcases pk_ix y (n := S 0 0) (by omega) with hy | hy | ⟨b, hb, rfl⟩
  · exact x_needIndex_f (Or.inl hy) ⟨rfl, bad _ (Or.inr (Or.inl hy)) (z_finE z_33 (by decide) (hI.same fx (z_gx.go g _)))⟩
  · exact x_needIndex_f (Or.inr hy) ⟨rfl, bad _ (Or.inr (Or.inr hy)) (z_finE z_33 (by decide) (hI.same fx (z_gx.go g _)))⟩
  refine x_needIndex_t hb (by omega) ⟨vp_in_nI (by omega) (by omega), nm_e ?_⟩
  rw [nI_clamp (by omega), G.2.2.1 b hb]
  intro B20 B21 h20 h21
  refine m_isBook ?_
  rw [z_yes hbk (by omega)]
  refine ⟨fun c => absurd c (by decide), fun _ => m_isBar R.2.1.1 (by omega) ?_⟩
  rw [z_yes hb (by omega)]
  refine ⟨fun c => absurd c (by decide), fun _ => h21 _ _ (m_goes_0 ⟨fun c => absurd c (by decide), fun _ => m_laysItems (R.2.1.gx (z_gx.go g 0)) R.2.2.1 (by omega) (fun g' a1 a2 a3 => m_itemWith a3 hn hb (z_fin0 (by rw [a2 33 (by decide)]; exact z_33) rfl (hI.same fx ((z_gx.go g 0).trans (z_gx_items a1 a2)))))⟩)⟩
theorem k_cue {t : Nat} {f g : sx_F} {o : Nat → Int64} {x y : Int32} (h : z_I t f g) : P_case_cue f g o x y (z_I (t + 1)) := by
  have hI := h
  obtain ⟨S, R⟩ := h
  have hn := R.2.2.1.1
  unfold P_case_cue P_L_cue P_X6_cue
  rcases z_pair x y (a := 5) (n := S 0 0) (by omega) (by omega) with hbad | ⟨i, b, hi, hb, rfl, rfl⟩
  · refine x_needSlot_f R.1 hbad ⟨rfl, ?_⟩
    intro B20 B21 h20 h21
    exact m_pair_f R.2.1 R.2.2.1 hbad (h20 _ (h21 _ _ (m_goes_1 ⟨fun _ => z_finE z_33 (by decide) (hI.go _), fun c => absurd rfl c⟩)))
  refine x_needSlot_t R.1 R.2.2.1 hi hb (x_cuePlayer R.1 R.2.2.1 hi hb (nm_e ?_))
  intro B20 B21 h20 h21
  refine m_pair_t R.2.1 R.2.2.1 hi hb (h21 _ _ (m_goes_0 ⟨fun c => absurd c (by decide), fun _ => m_laysItems (R.2.1.gx (z_gx.go g 0)) R.2.2.1 (by omega) (fun g' a1 a2 a3 => m_itemWith a3 hn hb ?_)⟩))
  obtain ⟨xb, c1, c2, c3, c4, c5⟩ := z_first (S := S) (bk := i) b
  have hle : z_it S i xb ≤ xb := z_cnt_le xb
  rw [c3, show z_it S i xb + 1 - 1 = z_it S i xb by omega, nI_clamp (by omega), (a3.2.1 xb (by omega) c2).2, c4]
  have fin : ∀ v : Int32, v = z_dr (z_cueX S i b) → P_X7_thrown g' (fun tt => tt = 0 ∧ ((0 : Int32) = 0 → (vp_updL o 0 (z_dr (z_cueX S i b)).toInt64) 0 = v.toInt64) ∧ z_I (t + 1) f g') := fun v hv => z_fin0 (by rw [a2 33 (by decide)]; exact z_33) hv.symm (hI.same (z_fx.refl f) ((z_gx.go g 0).trans (z_gx_items a1 a2)))
  refine ⟨vp_in_nI (by omega) (by omega), nm_e ?_⟩
  cases s : z_sil S (12 * i + b)
  · have e1 : z_drw S i b = i := if_pos (Or.inr s)
    have e2 : z_cueX S i b = 6 := if_neg (fun z => by rw [s] at z; exact absurd z.2.2.2.2.1 (by decide))
    rw [e1, z_drn (by omega)]
    exact ⟨fun _ => fin _ (by rw [e2]; rfl), fun c => absurd rfl c⟩
  · have e1 : z_drw S i b = z_cueX S i b := if_neg (fun z => z.elim (by omega) (fun z => by rw [s] at z; exact absurd z (by decide)))
    rw [e1]
    refine ⟨fun c => ?_, fun _ => fin _ rfl⟩
    rcases z_cueX_r (S := S) (bk := i) (b := b) with z | z
    · rw [z] at c; exact absurd c.symm (z_nm (by omega))
    · rw [z_drn (by omega)] at c
      exact absurd ((nI_eq (by omega) (by omega)).mp c) z.2.1
