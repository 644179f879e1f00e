theorem x_deskHasPart {f : sx_F} {m d a : Nat} {Q : Int32 → Prop} (hm : f 0 5 = nI m) (hm16 : m ≤ 16) (h : Q (z_b (decide (¬ z_cnt (fun j => decide (f (66 + 2 * j) 2 = nI d ∧ f (66 + 2 * j) 1 = nI a)) m = 0)))) : P_X6_deskHasPart f (nI d) (nI a) Q := by
  intro B2 B38 h2 h38
  have key : z_cnt (fun j => decide (f (66 + 2 * j) 2 = nI d ∧ f (66 + 2 * j) 1 = nI a)) 0 = 0 → B2 (nI 0) := by
    refine z_up (B := fun k => z_cnt (fun j => decide (f (66 + 2 * j) 2 = nI d ∧ f (66 + 2 * j) 1 = nI a)) k = 0 → B2 (nI k)) m (fun k hk ih => ?_)
    intro h0
    refine h2 _ ?_
    rw [hm]
    refine pk_le m k (fun c => ?_) (fun c => ⟨vp_in_nI (by omega) (by omega), nm_e ?_⟩)
    · rw [show m = k by omega, h0] at h; exact h
    · rw [nI_clamp (by omega)]
      have go : ¬ (f (66 + 2 * k) 2 = nI d ∧ f (66 + 2 * k) 1 = nI a) → B38 (nI k) := fun z => h38 _ (nm_e (by
        rw [nI_1]
        refine ih c ?_
        show z_cnt _ k + (if decide (f (66 + 2 * k) 2 = nI d ∧ f (66 + 2 * k) 1 = nI a) then 1 else 0) = 0
        rw [h0, decide_eq_false z]; rfl))
      refine ⟨fun z1 => ⟨vp_in_nI (by omega) (by omega), nm_e ?_⟩, fun z1 => go (fun z => z1 z.1)⟩
      refine ⟨fun z2 => ?_, fun z2 => go (fun z => z2 z.2)⟩
      have nz : ¬ z_cnt (fun j => decide (f (66 + 2 * j) 2 = nI d ∧ f (66 + 2 * j) 1 = nI a)) m = 0 := fun z => by
        have e2 := (z_cnt_0 m).mp z k c
        simp only [decide_eq_false_iff_not] at e2
        exact e2 ⟨z1, z2⟩
      rw [decide_eq_true nz] at h
      exact h
  exact key rfl
theorem m_lend {g : sx_F} {m i d a : Nat} {QQ : Int32 → sx_F → Prop} (hm : g 0 11 = nI m) (hm16 : m ≤ 16) (hi : i < m) (hd : d < 6) (ha : g 6 i = nI a) (q2 : (¬ g 7 i = -1 ∨ ¬ z_cnt (fun j => decide (g 7 j = nI d ∧ g 6 j = nI a)) m = 0) → QQ 0 (sx_u g 0 33 2)) (q0 : g 7 i = -1 → z_cnt (fun j => decide (g 7 j = nI d ∧ g 6 j = nI a)) m = 0 → P_X7_renews (sx_u (sx_u g 0 33 0) 7 i (nI d)) (nI i) (fun g13 => P_X7_away g13 (fun r14 => QQ r14 g13))) : P_X7_lend g (nI i) (nI d) QQ := by
  intro B21 B22 B41 B42 B47 B92 B96 B97 B105 h21 h22 h41 h42 h47 h92 h96 h97 h105
  have go : B47 g 1 (z_b (decide (g 7 i = -1 ∧ z_cnt (fun j => decide (g 7 j = nI d ∧ g 6 j = nI a)) 0 = 0))) (nI 0) := by
    refine z_up (B := fun k => B47 g 1 (z_b (decide (g 7 i = -1 ∧ z_cnt (fun j => decide (g 7 j = nI d ∧ g 6 j = nI a)) k = 0))) (nI k)) m (fun k hk ih => h47 _ _ _ _ ?_)
    rw [hm]
    refine pk_le m k (fun c => h105 _ _ _ ?_) (fun c => ⟨fun z => absurd z (by decide), fun _ => ?_⟩)
    · rw [show k = m by omega]
      by_cases z : g 7 i = -1 ∧ z_cnt (fun j => decide (g 7 j = nI d ∧ g 6 j = nI a)) m = 0
      · rw [decide_eq_true z]
        refine m_goes_0 ⟨fun c => absurd c (by decide), fun _ => ⟨vp_in_nI (by omega) (by omega), nm_e ?_⟩⟩
        rw [nI_clamp (by omega)]
        exact q0 z.1 z.2
      · rw [decide_eq_false z]
        refine m_goes_2 ⟨fun _ => q2 ?_, fun c => absurd rfl c⟩
        by_cases z1 : g 7 i = -1
        · exact Or.inr (fun z2 => z ⟨z1, z2⟩)
        · exact Or.inl z1
    · have i2 : B47 g 1 (z_b (decide (g 7 i = -1 ∧ z_cnt (fun j => decide (g 7 j = nI d ∧ g 6 j = nI a)) k + (if decide (g 7 k = nI d ∧ g 6 k = nI a) then 1 else 0) = 0))) (nI (k + 1)) := ih c
      by_cases z : g 7 i = -1 ∧ z_cnt (fun j => decide (g 7 j = nI d ∧ g 6 j = nI a)) k = 0
      · rw [decide_eq_true z]
        refine ⟨fun z => absurd z (by decide), fun _ => ⟨vp_in_nI (by omega) (by omega), ?_⟩⟩
        rw [nI_clamp (n := k) (by omega), nI_clamp (by omega), ha]
        rw [z.2] at i2
        have b0 : ¬ (g 7 k = nI d ∧ g 6 k = nI a) → B92 g 1 (nI k) := fun y => by
          rw [decide_eq_false y] at i2
          rw [decide_eq_true (show g 7 i = -1 ∧ 0 + (if false = true then 1 else 0) = 0 from ⟨z.1, rfl⟩)] at i2
          exact h92 _ _ _ (h97 _ _ _ _ (nm_e (by rw [nI_1]; exact i2)))
        refine ⟨fun z1 => ⟨vp_in_nI (by omega) (by omega), vp_in_nI (by omega) (by omega), fun z2 => ?_, fun z2 => b0 (fun y => z2 y.2)⟩, fun z1 => b0 (fun y => z1 y.1)⟩
        rw [decide_eq_true (show g 7 k = nI d ∧ g 6 k = nI a from ⟨z1, z2⟩)] at i2
        rw [decide_eq_false (fun y => absurd y.2 (by simp))] at i2
        exact h96 _ _ _ (h97 _ _ _ _ (nm_e (by rw [nI_1]; exact i2)))
      · rw [decide_eq_false z]
        rw [decide_eq_false (fun y => z ⟨y.1, by omega⟩)] at i2
        exact ⟨fun _ => h96 _ _ _ (h97 _ _ _ _ (nm_e (by rw [nI_1]; exact i2))), fun y => absurd rfl y⟩
  refine m_isCopy hm (by omega) ?_
  rw [z_yes hi (by omega)]
  refine ⟨fun c => absurd c (by decide), fun _ => m_in_t (nI_pos (by omega)) (nI_nlt (a := 5) (b := d) (by omega) (by omega)) ⟨fun c => absurd c (by decide), fun _ => h22 _ _ ⟨fun c => absurd c (by decide), fun _ => ⟨vp_in_nI (by omega) (by omega), ?_⟩⟩⟩⟩
  rw [nI_clamp (by omega)]
  by_cases z : g 7 i = -1
  · rw [decide_eq_true (show g 7 i = -1 ∧ z_cnt (fun j => decide (g 7 j = nI d ∧ g 6 j = nI a)) 0 = 0 from ⟨z, rfl⟩)] at go
    exact ⟨fun _ => h42 _ _ _ go, fun c => absurd z c⟩
  · rw [decide_eq_false (fun y => z y.1)] at go
    exact ⟨fun c => absurd c z, fun _ => h41 _ _ (h42 _ _ _ go)⟩
theorem k_lend {t : Nat} {f g : sx_F} {o : Nat → Int64} {x y : Int32} (h : z_I t f g) : P_case_lend f g o x y (z_I (t + 1)) := by
  have hI := h
  obtain ⟨S, R⟩ := h
  have hn := R.2.2.1.1
  obtain ⟨m, hm, e1, e2, C1, C2⟩ := R.2.2.2.2.2.2.1
  unfold P_case_lend P_L_lend P_X6_lend
  have bad : ∀ QQ : Int32 → sx_F → Prop, ((x < 0 ∨ nI m ≤ x) ∨ (y < 0 ∨ nI 6 ≤ y)) → QQ 0 (sx_u g 0 33 1) → P_X7_lend g x y QQ := by
    intro QQ hb q B21 B22 B41 B42 B47 B92 B96 B97 B105 h21 h22 h41 h42 h47 h92 h96 h97 h105
    have k105 : ∀ z, B105 g 0 z := fun z => h105 _ _ _ (m_goes_1 ⟨fun _ => q, fun c => absurd rfl c⟩)
    have k : B21 g := h21 _ (h22 _ _ ⟨fun _ => h41 _ _ (h42 _ _ _ (h47 _ _ _ _ ⟨fun _ => k105 0, fun _ => ⟨fun _ => k105 0, fun c => absurd rfl c⟩⟩)), fun c => absurd rfl c⟩)
    refine m_isCopy e2 (by omega) ?_
    rcases z_b_cases (decide (¬ x < 0 ∧ ¬ nI m ≤ x)) with e | e
    · rw [e]; exact ⟨fun _ => k, fun c => absurd rfl c⟩
    · rw [e]
      refine ⟨fun c => absurd c (by decide), fun _ => ?_⟩
      rcases hb with hb | hb
      · rw [z_no hb] at e; exact absurd e (by decide)
      · refine m_in_f ?_ ⟨fun _ => k, fun c => absurd rfl c⟩
        rcases hb with hb | hb
        · exact Or.inl hb
        · exact Or.inr ((z_pred y (n := 6) (by omega)).mpr hb)
  rw [e1]
  rcases pk_ix x (n := m) (by omega) with hx | hx | ⟨i, hi, rfl⟩
  · exact x_needIndex_f (Or.inl hx) (Or.inl ⟨rfl, bad _ (Or.inl (Or.inl hx)) (z_finE z_33 (by decide) (hI.go _))⟩)
  · exact x_needIndex_f (Or.inr hx) (Or.inl ⟨rfl, bad _ (Or.inl (Or.inr hx)) (z_finE z_33 (by decide) (hI.go _))⟩)
  refine x_needIndex_t hi (by omega) ?_
  rcases pk_ix y (n := 6) (by omega) with hy | hy | ⟨d, hd, rfl⟩
  · exact x_needIndex_f (Or.inl hy) (Or.inl ⟨rfl, bad _ (Or.inr (Or.inl hy)) (z_finE z_33 (by decide) (hI.go _))⟩)
  · exact x_needIndex_f (Or.inr hy) (Or.inl ⟨rfl, bad _ (Or.inr (Or.inr hy)) (z_finE z_33 (by decide) (hI.go _))⟩)
  obtain ⟨⟨a, ha, a1, a2⟩, a3, a4⟩ := C1 i hi
  refine x_needIndex_t (n := 6) hd (by omega) ⟨vp_in_nI (by omega) (by omega), nm_e ?_⟩
  rw [nI_clamp (by omega)]
  have hcn : z_cnt (fun j => decide (f (66 + 2 * j) 2 = nI d ∧ f (66 + 2 * j) 1 = nI a)) m = z_cnt (fun j => decide (g 7 j = nI d ∧ g 6 j = nI a)) m := z_cnt_c m (fun j hj => by
    obtain ⟨⟨b, hb, b1, b2⟩, b3, -⟩ := C1 j hj
    rw [b3, b1, b2])
  refine x_isOut ?_
  by_cases c : f (66 + 2 * i) 2 = -1
  · have cg : g 7 i = -1 := by rw [← a3]; exact c
    rw [decide_eq_false (fun z => z c)]
    refine ⟨fun _ => ?_, fun z => absurd rfl z⟩
    rw [a1]
    refine x_deskHasPart e1 hm ?_
    rw [hcn]
    by_cases cc : z_cnt (fun j => decide (g 7 j = nI d ∧ g 6 j = nI a)) m = 0
    · rw [decide_eq_false (fun z => z cc)]
      refine ⟨fun _ => nm_e (x_takeVersions (n := S 0 0) (a := a) (by omega) (by rw [sx_u_n (by omega)]; exact R.1.1) hn (by rw [sx_u_s, pk_un (by decide)]; exact a1) ha (fun f' b1 b2 => ?_)), fun z => absurd rfl z⟩
      have b0 : f' 0 = f 0 := by rw [b1 0 (by omega), sx_u_n (by omega)]
      refine x_copiesOut (m := m) (by rw [b0]; exact e1) hm (nm_e (m_lend e2 hm hi hd a2 (fun z => absurd z (fun z => z.elim (fun z => z cg) (fun z => z cc))) (fun _ _ => ?_)))
      refine m_renews (n := S 0 0) (a := a) (by rw [sx_u_n (by decide), sx_u_s, pk_un (by decide)]; exact R.2.1.1) hn (by omega) (by rw [sx_u_n (by decide), sx_u_n (by decide)]; exact a2) ha (fun g' d1 d2 d3 => ?_)
      have d0 : ∀ j, j ≠ 33 → g' 0 j = g 0 j := fun j hj => by rw [d1 0 (by decide), sx_u_n (by decide), sx_u_s, pk_un hj]
      have dk : ∀ k, k ≠ 8 → k ≠ 7 → k ≠ 0 → g' k = g k := fun k h1 h2 h3 => by rw [d1 k h1, sx_u_n h2, sx_u_n h3]
      have d7 : g' 7 = upd (g 7) i (nI d) := by rw [d1 7 (by decide), sx_u_s, sx_u_n (by decide)]
      have fd : ∀ j, j < m → f' (66 + 2 * j) 2 = g' 7 j := fun j hj => by
        rw [b1 _ (by omega), d7]
        by_cases e : j = i
        · subst e; rw [sx_u_s, pk_us, pk_us]
        · rw [sx_u_n (by omega), pk_un e]; exact (C1 j hj).2.1
      refine m_away (m := m) (by rw [d0 11 (by decide)]; exact e2) hm (z_fin0 (by rw [d1 0 (by decide), sx_u_n (by decide)]; exact z_33) ?_ ⟨S, R.cp ?_ ?_ ?_ ⟨m, hm, by rw [b0]; exact e1, by rw [d0 11 (by decide)]; exact e2, fun j hj => ?_, fun j hj hj2 => ?_⟩ ?_⟩)
      · exact congrArg nI (z_out_eq fd)
      · intro k hk; rw [b1 k (by omega), sx_u_n (by omega)]
      · intro k hk; exact dk k (by omega) (by omega) (by omega)
      · intro j hj; exact d0 j (by omega)
      · by_cases e : j = i
        · subst e
          exact z_C1.taken R ha (by rw [b1 _ (by omega), sx_u_s, pk_un (by decide)]; exact a1) (by rw [dk 6 (by decide) (by decide) (by decide)]; exact a2) (fd j hj) ⟨d, hd, by rw [d7, pk_us]⟩ (fun k hk => by rw [b2 k hk, sx_u_n (by omega)]) (fun k hk => by rw [d3 k hk, sx_u_n (by decide), sx_u_n (by decide)])
        · have hc := C1 j hj
          unfold z_C1 at hc
          refine ⟨?_, fd j hj, ?_⟩
          · rw [b1 _ (by omega), sx_u_n (by omega), dk 6 (by decide) (by decide) (by decide)]; exact hc.1
          · rw [d7, pk_un e]
            refine hc.2.2.imp id (fun z => ⟨z.1, fun k hk => ?_⟩)
            rw [d2 _ (by omega), b1 _ (by omega), sx_u_n (by omega), sx_u_n (by decide), sx_u_n (by decide)]
            exact z.2 k hk
      · rw [b1 _ (by omega), sx_u_n (by omega)]; exact C2 j hj hj2
      · rw [b0, d0 12 (by decide)]
        exact R.2.2.2.2.2.2.2.1
    · rw [decide_eq_true cc]
      exact ⟨fun z => absurd z (by decide), fun _ => Or.inr ⟨rfl, m_lend e2 hm hi hd a2 (fun _ => z_finE z_33 (by decide) (hI.go _)) (fun _ z => absurd z cc)⟩⟩
  · have cg : ¬ g 7 i = -1 := by rw [← a3]; exact c
    rw [decide_eq_true c]
    exact ⟨fun z => absurd z (by decide), fun _ => Or.inr ⟨rfl, m_lend e2 hm hi hd a2 (fun _ => z_finE z_33 (by decide) (hI.go _)) (fun z _ => absurd z cg)⟩⟩
theorem x_anyCopyOwes {t : Nat} {f g : sx_F} {S : z_S} {m : Nat} {Q : Int32 → Prop} (R : z_R t f g S) (hm : f 0 5 = nI m) (hm16 : m ≤ 16) (C1 : ∀ i, i < m → z_C1 f g i) (q1 : (∃ i a, i < m ∧ a < 5 ∧ g 6 i = nI a ∧ ¬ z_cnt (z_owm g i a) (S 0 0) = 0) → Q 1) (q0 : (∀ i a, i < m → a < 5 → g 6 i = nI a → z_cnt (z_owm g i a) (S 0 0) = 0) → Q 0) : P_X6_anyCopyOwes f Q := by
  have hn := R.2.2.1.1
  intro B2 h2
  have key : (∀ i a, i < 0 → a < 5 → g 6 i = nI a → z_cnt (z_owm g i a) (S 0 0) = 0) → B2 (nI 0) := by
    refine z_up (B := fun k => (∀ i a, i < k → a < 5 → g 6 i = nI a → z_cnt (z_owm g i a) (S 0 0) = 0) → B2 (nI k)) m (fun k hk ih => ?_)
    intro h0
    refine h2 _ ?_
    rw [hm]
    refine pk_le m k (fun c => ?_) (fun c => ⟨vp_in_nI (by omega) (by omega), nm_e ?_⟩)
    · rw [show k = m by omega] at h0; exact q0 h0
    · rw [nI_clamp (by omega)]
      obtain ⟨⟨a, ha, a1, a2⟩, a3, a4⟩ := C1 k c
      refine x_countDebts (n := S 0 0) R.1.1 hn a1 ha ?_
      rw [(C1 k c).cnt R ha hn]
      have hle := z_cnt_le (p := z_owm g k a) (S 0 0)
      refine pk_le (z_cnt (z_owm g k a) (S 0 0)) 0 (fun c1 => nm_e ?_) (fun c1 => q1 ⟨k, a, c, ha, a2, by omega⟩)
      rw [nI_1]
      refine ih c (fun i b hi hb hb2 => ?_)
      by_cases e : i = k
      · subst e
        have : a = b := (nI_eq (by omega) (by omega)).mp (a2.symm.trans hb2)
        subst this
        omega
      · exact h0 i b (by omega) hb hb2
  exact key (fun i a hi => absurd hi (by omega))
theorem m_play {g : sx_F} {n m : Nat} {QQ : Int32 → sx_F → Prop} (hn : g 0 5 = nI n) (hn12 : n ≤ 12) (hm : g 0 11 = nI m) (hm16 : m ≤ 16) (hA : ∀ i, i < m → ∃ a, a < 5 ∧ g 6 i = nI a) (q1 : (z_cnt (fun i => decide (¬ g 7 i = -1)) m = 0 ∨ ∃ i a, i < m ∧ a < 5 ∧ g 6 i = nI a ∧ ¬ z_cnt (z_owm g i a) n = 0) → QQ 0 (sx_u g 0 33 1)) (q0 : ¬ z_cnt (fun i => decide (¬ g 7 i = -1)) m = 0 → (∀ i a, i < m → a < 5 → g 6 i = nI a → z_cnt (z_owm g i a) n = 0) → QQ (nI (z_cnt (fun i => decide (¬ g 7 i = -1)) m)) (sx_u (sx_u g 0 33 0) 0 12 (g 0 12 + 1))) : P_X7_play g QQ := by
  intro B12 B15 B39 B40 h12 h15 h39 h40
  have hle := z_cnt_le (p := fun i => decide (¬ g 7 i = -1)) m
  have go0 : QQ 0 (sx_u g 0 33 1) → ∀ d k, k + d = m → B15 g 0 (nI k) := by
    intro q d
    induction d with
    | zero =>
      intro k hk
      refine h15 _ _ _ ?_
      rw [hm]
      exact pk_le m k (fun c => m_goes_1 ⟨fun _ => q, fun c => absurd rfl c⟩) (fun c => absurd c (by omega))
    | succ d ih =>
      intro k hk
      refine h15 _ _ _ ?_
      rw [hm]
      exact pk_le m k (fun c => absurd c (by omega)) (fun c => ⟨fun _ => h39 _ _ (h40 _ _ _ (nm_e (by rw [nI_1]; exact ih (k + 1) (by omega)))), fun c => absurd rfl c⟩)
  refine m_away hm hm16 (pk_le (z_cnt (fun i => decide (¬ g 7 i = -1)) m) 0 (fun c => h12 _ _ (go0 (q1 (Or.inl (by omega))) m 0 (by omega))) (fun c => h12 _ _ ?_))
  have go : (∀ i a, i < 0 → a < 5 → g 6 i = nI a → z_cnt (z_owm g i a) n = 0) → B15 g 1 (nI 0) := by
    refine z_up (B := fun k => (∀ i a, i < k → a < 5 → g 6 i = nI a → z_cnt (z_owm g i a) n = 0) → B15 g 1 (nI k)) m (fun k hk ih => ?_)
    intro h0
    refine h15 _ _ _ ?_
    rw [hm]
    refine pk_le m k (fun c1 => m_goes_0 ⟨fun z => absurd z (by decide), fun _ => nm_e ?_⟩) (fun c1 => ⟨fun z => absurd z (by decide), fun _ => ?_⟩)
    · rw [show (sx_u g 0 33 0) 0 12 = g 0 12 by rw [sx_u_s, pk_un (by decide)]]
      refine m_away (m := m) (by rw [sx_u_s, pk_un (by decide), sx_u_s, pk_un (by decide)]; exact hm) hm16 ?_
      rw [show k = m by omega] at h0
      have q := q0 (by omega) h0
      rw [show (sx_u (sx_u g 0 33 0) 0 12 (g 0 12 + 1)) 7 = g 7 by rw [sx_u_n (by decide), sx_u_n (by decide)]]
      exact q
    · obtain ⟨a, ha, a2⟩ := hA k c1
      refine m_owedBy (n := n) hn hn12 (by omega) a2 ha ?_
      have hle := z_cnt_le (p := z_owm g k a) n
      refine pk_eq _ 0 (fun c2 => h40 _ _ _ (nm_e ?_)) (fun c2 => h39 _ _ (h40 _ _ _ (nm_e ?_)))
      · rw [nI_1]
        refine ih c1 (fun i b hi hb hb2 => ?_)
        by_cases e : i = k
        · subst e
          have : a = b := (nI_eq (by omega) (by omega)).mp (a2.symm.trans hb2)
          subst this
          exact c2
        · exact h0 i b (by omega) hb hb2
      · rw [nI_1]
        exact go0 (q1 (Or.inr ⟨k, a, c1, ha, a2, c2⟩)) (m - (k + 1)) (k + 1) (by omega)
  exact go (fun i a hi => absurd hi (by omega))
theorem k_play {t : Nat} {f g : sx_F} {o : Nat → Int64} (h : z_I t f g) : P_case_play f g o (z_I (t + 1)) := by
  have hI := h
  obtain ⟨S, R⟩ := h
  have hn := R.2.2.1.1
  obtain ⟨m, hm, e1, e2, C1, C2⟩ := R.2.2.2.2.2.2.1
  unfold P_case_play P_L_play P_X6_play
  have hA : ∀ i, i < m → ∃ a, a < 5 ∧ g 6 i = nI a := fun i hi => by
    obtain ⟨⟨a, ha, a1, a2⟩, -⟩ := C1 i hi
    exact ⟨a, ha, a2⟩
  have ho := z_out_eq (f := f) (g := g) (m := m) (fun i hi => (C1 i hi).2.1)
  have hle := z_cnt_le (p := fun i => decide (¬ g 7 i = -1)) m
  refine x_copiesOut e1 hm ?_
  rw [ho]
  refine pk_eq _ 0 (fun c => ⟨rfl, m_play R.2.1.1 hn e2 hm hA (fun _ => z_finE z_33 (by decide) (hI.go _)) (fun z => absurd c z)⟩) (fun c => x_anyCopyOwes R e1 hm C1 (fun q => ?_) (fun q => ?_))
  · exact ⟨fun z => absurd z (by decide), fun _ => ⟨rfl, m_play R.2.1.1 hn e2 hm hA (fun _ => z_finE z_33 (by decide) (hI.go _)) (fun _ z => by
      obtain ⟨i, a, hi, ha, b1, b2⟩ := q
      exact absurd (z i a hi ha b1) b2)⟩⟩
  · refine ⟨fun _ => nm_e (nm_e (m_play R.2.1.1 hn e2 hm hA (fun z => ?_) (fun _ _ => z_fin0 (by rw [sx_u_s, pk_un (by decide)]; exact z_33) rfl ⟨S, R.cp ?_ ?_ ?_ (R.2.2.2.2.2.2.1.sc ?_ ?_ ?_ ?_ ?_ ?_) ?_⟩))), fun z => absurd rfl z⟩
    · rcases z with z | ⟨i, a, hi, ha, b1, b2⟩
      · exact absurd z c
      · exact absurd (q i a hi ha b1) b2
    · intro k hk; rw [sx_u_n (by omega)]
    · intro k hk; rw [sx_u_n (by omega), sx_u_n (by omega)]
    · intro j hj; rw [sx_u_s, pk_un (by omega), sx_u_s, pk_un (by omega)]
    · intro k hk; rw [sx_u_n (by omega)]
    · rw [sx_u_s, pk_un (by decide)]
    · rw [sx_u_s, pk_un (by decide), sx_u_s, pk_un (by decide)]
    · rw [sx_u_n (by decide), sx_u_n (by decide)]
    · rw [sx_u_n (by decide), sx_u_n (by decide)]
    · rw [sx_u_n (by decide), sx_u_n (by decide)]
    · rw [sx_u_s, pk_us, sx_u_s, pk_us, R.2.2.2.2.2.2.2.1]
