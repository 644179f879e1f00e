theorem m_isNote_f {g : sx_F} {S : z_S} (M : z_M g S) (W : z_W S) {x1 x2 x3 : Int32} {Q : Int32 → Prop} (h : ((x1 < 0 ∨ nI 5 ≤ x1) ∨ (x2 < 0 ∨ nI (S 0 0) ≤ x2)) ∨ ∃ i b : Nat, i < 5 ∧ b < S 0 0 ∧ x1 = nI i ∧ x2 = nI b ∧ (x3 < 0 ∨ nI (S 2 (12 * i + b)) ≤ x3)) (hQ : Q 0) : P_X7_isNote g x1 x2 x3 Q := by
  have hn := W.1
  unfold P_X7_isNote
  rcases h with hbad | ⟨i, b, hi, hb, rfl, rfl, h3⟩
  · refine m_isInstrument ?_
    rcases z_b_cases (decide (¬ x1 < 0 ∧ ¬ nI 5 ≤ x1)) with e | e
    · rw [e]; exact ⟨fun _ => hQ, fun c => absurd rfl c⟩
    · rw [e]
      refine ⟨fun c => absurd c (by decide), fun _ => m_isBar M.1 (by omega) ?_⟩
      rcases hbad with hbad | hbad
      · rw [z_no hbad] at e; exact absurd e (by decide)
      · rw [z_no hbad]; exact ⟨fun _ => hQ, fun c => absurd rfl c⟩
  · have hs : 12 * i + b < 60 := by omega
    have hc8 := W.2.2.1 _ hs
    refine m_isInstrument ?_
    rw [z_yes hi (by omega)]
    refine ⟨fun c => absurd c (by decide), fun _ => m_isBar M.1 (by omega) ?_⟩
    rw [z_yes hb (by omega)]
    refine ⟨fun c => absurd c (by decide), fun _ => m_cell ⟨vp_in_nI (by omega) (by omega), ?_⟩⟩
    rw [nI_clamp (by omega), M.2.2.1 _ hs]
    refine m_in_f ?_ ⟨fun _ => hQ, fun c => absurd rfl c⟩
    rw [z_pred x3 (by omega)]
    exact h3
theorem m_isNote_t {g : sx_F} {S : z_S} (M : z_M g S) (W : z_W S) {i b k : Nat} {Q : Int32 → Prop} (hi : i < 5) (hb : b < S 0 0) (hk : k < S 2 (12 * i + b)) (hQ : Q 1) : P_X7_isNote g (nI i) (nI b) (nI k) Q := by
  have hn := W.1
  unfold P_X7_isNote
  have hs : 12 * i + b < 60 := by omega
  have hc8 := W.2.2.1 _ hs
  refine m_isInstrument ?_
  rw [z_yes hi (by omega)]
  refine ⟨fun c => absurd c (by decide), fun _ => m_isBar M.1 (by omega) ?_⟩
  rw [z_yes hb (by omega)]
  refine ⟨fun c => absurd c (by decide), fun _ => m_cell ⟨vp_in_nI (by omega) (by omega), ?_⟩⟩
  rw [nI_clamp (by omega), M.2.2.1 _ hs]
  refine m_in_t (nI_pos (by omega)) ?_ ⟨fun c => absurd c (by decide), fun _ => hQ⟩
  rw [z_pred (nI k) (by omega)]
  exact nI_ge hk (by omega)
theorem z_W.mend {S : z_S} {j p : Nat} (W : z_W S) (hp : p ≤ 60) : z_W (z_u S 4 j p) := by
  have t (i x : Nat) (h : i ≠ 4) : z_u S 4 j p i x = S i x := z_un1 h
  refine ⟨by rw [t 0 0 (by decide)]; exact W.1, fun k hk => ?_, fun x hx => ?_, fun x hx => ?_, fun x k hx hk => ?_, fun i b hi hb => ?_, fun i b hi hb hb2 => ?_⟩
  · rw [t 1 k (by decide)]; rw [t 0 0 (by decide)] at hk; exact W.2.1 k hk
  · rw [t 2 x (by decide)]; exact W.2.2.1 x hx
  · rw [t 3 x (by decide)]
    refine ⟨(W.2.2.2.1 x hx).1, ?_⟩
    by_cases e : x = j
    · rw [e, z_us]; exact hp
    · rw [z_un (Or.inr e)]; exact (W.2.2.2.1 x hx).2
  · rw [t 3 _ (by decide)]; rw [t 2 _ (by decide)] at hk; exact W.2.2.2.2.1 x k hx hk
  · rw [t 0 0 (by decide)] at hb
    rw [t 1 _ (by decide), t 2 _ (by decide), z_fl_c (S := S) (S' := z_u S 4 j p) _ (fun q _ => t 3 _ (by decide))]
    exact W.2.2.2.2.2.1 i b hi hb
  · rw [t 0 0 (by decide)] at hb2
    rw [t 2 _ (by decide)]; exact W.2.2.2.2.2.2 i b hi hb hb2
theorem z_W.empty {S : z_S} {s : Nat} (W : z_W S) : z_W (z_u S 2 s 0) := by
  have t (i x : Nat) (h : i ≠ 2) : z_u S 2 s 0 i x = S i x := z_un1 h
  have t2 (x : Nat) : z_u S 2 s 0 2 x ≤ S 2 x := by
    by_cases e : x = s
    · rw [e, z_us]; exact Nat.zero_le _
    · rw [z_un (Or.inr e)]; exact Nat.le_refl _
  refine ⟨by rw [t 0 0 (by decide)]; exact W.1, fun k hk => ?_, fun x hx => ?_, fun x hx => ?_, fun x k hx hk => ?_, fun i b hi hb => ?_, fun i b hi hb hb2 => ?_⟩
  · rw [t 1 k (by decide)]; rw [t 0 0 (by decide)] at hk; exact W.2.1 k hk
  · exact Nat.le_trans (t2 x) (W.2.2.1 x hx)
  · rw [t 3 x (by decide), t 4 x (by decide)]; exact W.2.2.2.1 x hx
  · rw [t 3 _ (by decide)]; exact W.2.2.2.2.1 x k hx (Nat.lt_of_lt_of_le hk (t2 x))
  · rw [t 0 0 (by decide)] at hb
    rw [t 1 _ (by decide), z_fl_c (S := S) (S' := z_u S 2 s 0) _ (fun q _ => t 3 _ (by decide))]
    exact Nat.le_trans (z_fl_le _ (t2 _)) (W.2.2.2.2.2.1 i b hi hb)
  · rw [t 0 0 (by decide)] at hb2
    have := W.2.2.2.2.2.2 i b hi hb hb2
    have := t2 (12 * i + b)
    omega
theorem k_mend {t : Nat} {f g : sx_F} {o : Nat → Int64} {x1 x2 x3 x4 : Int32} (ht : t < 1000000) (h : z_I t f g) : P_case_mend f g o x1 x2 x3 x4 (z_I (t + 1)) := by
  have hI := h
  obtain ⟨S, R⟩ := h
  have hn := R.2.2.1.1
  unfold P_case_mend P_L_mend P_X6_mend
  have bad : ∀ QQ : Int32 → sx_F → Prop, ((((x1 < 0 ∨ nI 5 ≤ x1) ∨ (x2 < 0 ∨ nI (S 0 0) ≤ x2)) ∨ ∃ i b : Nat, i < 5 ∧ b < S 0 0 ∧ x1 = nI i ∧ x2 = nI b ∧ (x3 < 0 ∨ nI (S 2 (12 * i + b)) ≤ x3))) → QQ 0 (sx_u g 0 33 1) → P_X7_mend g x1 x2 x3 x4 QQ := by
    intro QQ hb q B hB
    refine m_isNote_f R.2.1 R.2.2.1 hb (m_in (m_goes_1 ⟨fun _ => q, fun c => absurd rfl c⟩))
  rcases z_pair x1 x2 (a := 5) (n := S 0 0) (by omega) (by omega) with hbad | ⟨i, b, hi, hb, rfl, rfl⟩
  · exact x_needSlot_f R.1 hbad (Or.inl ⟨rfl, bad _ (Or.inl hbad) (z_finE z_33 (by decide) (hI.go _))⟩)
  have hs : 12 * i + b < 60 := by omega
  have hc8 := R.2.2.1.2.2.1 _ hs
  refine x_needSlot_t R.1 R.2.2.1 hi hb ⟨vp_in_nI (by omega) (by omega), ?_⟩
  rw [nI_clamp (by omega), R.1.2.2.1 _ hs]
  rcases pk_ix x3 (n := S 2 (12 * i + b)) (by omega) with h3 | h3 | ⟨k, hk, rfl⟩
  · exact x_needIndex_f (Or.inl h3) (Or.inl ⟨rfl, bad _ (Or.inr ⟨i, b, hi, hb, rfl, rfl, Or.inl h3⟩) (z_finE z_33 (by decide) (hI.go _))⟩)
  · exact x_needIndex_f (Or.inr h3) (Or.inl ⟨rfl, bad _ (Or.inr ⟨i, b, hi, hb, rfl, rfl, Or.inr h3⟩) (z_finE z_33 (by decide) (hI.go _))⟩)
  refine x_needIndex_t hk (by omega) ?_
  by_cases c4 : x4 < 0 ∨ 60 < x4
  · refine x_needValue_f c4 (Or.inr ⟨rfl, ?_⟩)
    intro B hB
    exact m_isNote_t R.2.1 R.2.2.1 hi hb hk (m_in_f c4 (m_goes_2 ⟨fun _ => z_finE z_33 (by decide) (hI.go _), fun c => absurd rfl c⟩))
  have h1 : ¬ x4 < 0 := fun c => c4 (Or.inl c)
  have h2 : ¬ 60 < x4 := fun c => c4 (Or.inr c)
  obtain ⟨p, hp, rfl⟩ : ∃ j : Nat, j ≤ 60 ∧ x4 = nI j := nI_of2 (M := 60) rfl h1 (Int32.not_lt.mp h2)
  refine x_needValue_t h1 h2 ?_
  unfold P_X4_changePitch
  rw [z_at]
  refine nm_e ⟨vp_in_nI (by omega) (by omega), ?_⟩
  rw [nI_clamp (by omega), R.1.2.2.2.2 _ (by omega)]
  have hp60 := (R.2.2.1.2.2.2.1 (8 * (12 * i + b) + k) (by omega)).2
  have ref : ∀ QQ : Int32 → sx_F → Prop, QQ (nI (S 4 (8 * (12 * i + b) + k))) (sx_u (sx_u (sx_u g 0 33 0) 3 (8 * (12 * i + b) + k) (nI p)) 5 (12 * i + b) (g 5 (12 * i + b) + nI (if S 4 (8 * (12 * i + b) + k) = p then 0 else 1))) → P_X7_mend g (nI i) (nI b) (nI k) (nI p) QQ := by
    intro QQ q B hB
    refine m_isNote_t R.2.1 R.2.2.1 hi hb hk (m_in_t h1 h2 (m_goes_0 ⟨fun c => absurd c (by decide), fun _ => m_cell ?_⟩))
    rw [z_at', nI_clamp (n := 8 * (12 * i + b) + k) (by omega)]
    simp (disch := decide) only [sx_u_n]
    rw [R.2.1.2.2.2.2 _ (by omega)]
    refine ⟨vp_in_nI (by omega) (by omega), nm_e ⟨vp_in_nI (by omega) (by omega), nm_e ⟨vp_in_nI (by omega) (by omega), ?_⟩⟩⟩
    rw [nI_clamp (by omega)]
    simp (disch := decide) only [sx_u_n]
    refine pk_eq _ _ (fun c => hB _ _ _ _ _ ⟨vp_in_nI (by omega) (by omega), nm_e ?_⟩) (fun c => hB _ _ _ _ _ ⟨vp_in_nI (by omega) (by omega), nm_e ?_⟩)
    · rw [if_pos c] at q
      rw [nI_clamp (by omega)]
      exact q
    · rw [if_neg c] at q
      rw [nI_clamp (by omega)]
      exact q
  have X' : ∀ f' : sx_F, f' 1 = f 1 → f' 2 = f 2 → f' 5 = f 5 → f' 6 = f 6 → f' 7 = upd (f 7) (8 * (12 * i + b) + k) (nI p) → z_X f' (z_u S 4 (8 * (12 * i + b) + k) p) := by
    intro f' e1 e2 e5 e6 e7
    refine ⟨?_, fun k hk => ?_, fun k hk => ?_, fun k hk => ?_, fun q hq => ?_⟩
    · rw [e1, z_un1 (by decide)]; exact R.1.1
    · rw [e2, z_un1 (by decide)]; exact R.1.2.1 k hk
    · rw [e5, z_un1 (by decide)]; exact R.1.2.2.1 k hk
    · rw [e6, z_un1 (by decide)]; exact R.1.2.2.2.1 k hk
    · rw [e7]
      by_cases e : q = 8 * (12 * i + b) + k
      · rw [e, pk_us, z_us]
      · rw [pk_un e, z_un (Or.inr e)]; exact R.1.2.2.2.2 q hq
  have M' : ∀ x y, z_M (sx_u (sx_u (sx_u g 0 33 0) 3 (8 * (12 * i + b) + k) (nI p)) 5 x y) (z_u S 4 (8 * (12 * i + b) + k) p) := by
    intro x y
    refine ⟨?_, fun k hk => ?_, fun k hk => ?_, fun k hk => ?_, fun q hq => ?_⟩
    · simp (disch := decide) only [sx_u_n, sx_u_s, pk_un, z_un1]; exact R.2.1.1
    · simp (disch := decide) only [sx_u_n, z_un1]; exact R.2.1.2.1 k hk
    · simp (disch := decide) only [sx_u_n, z_un1]; exact R.2.1.2.2.1 k hk
    · simp (disch := decide) only [sx_u_n, z_un1]; exact R.2.1.2.2.2.1 k hk
    · simp (disch := decide) only [sx_u_n, sx_u_s]
      by_cases e : q = 8 * (12 * i + b) + k
      · rw [e, pk_us, z_us]
      · rw [pk_un e, z_un (Or.inr e)]; exact R.2.1.2.2.2.2 q hq
  refine nm_e (pk_eq _ _ (fun c => nm_e (ref _ ?_)) (fun c => ⟨vp_in_nI (by omega) (by omega), nm_e ⟨vp_in_nI (by omega) (by omega), vp_in_nI (by omega) (by omega), nm_e (nm_e (ref _ ?_))⟩⟩))
  · refine z_fin0 (by rw [sx_u_n (by decide), sx_u_n (by decide)]; exact z_33) rfl ⟨_, R.sc ht (X' f rfl rfl rfl rfl ?_) (M' _ _) (R.2.2.1.mend hp) (z_un1 (by decide)) (fun _ => z_un1 (by decide)) (fun _ _ => rfl) ?_ ?_ (fun _ => 0) ?_⟩
    · funext q
      by_cases e : q = 8 * (12 * i + b) + k
      · rw [e, pk_us, R.1.2.2.2.2 _ (by omega), c]
      · rw [pk_un e]
    · intro k hk; rw [sx_u_n (by omega), sx_u_n (by omega), sx_u_n (by omega)]
    · intro j hj; simp (disch := decide) only [sx_u_n, sx_u_s]; rw [pk_un hj]
    · intro s hs
      refine ⟨Nat.zero_le _, (Int32.add_zero _).symm, ?_⟩
      rw [sx_u_s, if_pos c]
      by_cases e : s = 12 * i + b
      · rw [e, pk_us]
      · rw [pk_un e, sx_u_n (by decide), sx_u_n (by decide)]; exact (Int32.add_zero _).symm
  · rw [nI_clamp (n := 12 * i + b) (by omega)]
    refine z_fin0 (by rw [sx_u_n (by decide), sx_u_n (by decide)]; exact z_33) rfl ⟨_, R.sc ht (X' _ ?_ ?_ ?_ ?_ ?_) (M' _ _) (R.2.2.1.mend hp) (z_un1 (by decide)) (fun _ => z_un1 (by decide)) ?_ ?_ ?_ (fun s => if s = 12 * i + b then 1 else 0) ?_⟩
    · rw [sx_u_n (by decide), sx_u_n (by decide)]
    · rw [sx_u_n (by decide), sx_u_n (by decide)]
    · rw [sx_u_n (by decide), sx_u_n (by decide)]
    · rw [sx_u_n (by decide), sx_u_n (by decide)]
    · rw [sx_u_n (by decide), sx_u_s]
    · intro k hk; rw [sx_u_n (by omega), sx_u_n (by omega)]
    · intro k hk; rw [sx_u_n (by omega), sx_u_n (by omega), sx_u_n (by omega)]
    · intro j hj; simp (disch := decide) only [sx_u_n, sx_u_s]; rw [pk_un hj]
    · intro s hs
      rw [sx_u_s, sx_u_s, if_neg c, sx_u_n (by decide), sx_u_n (by decide), sx_u_n (by decide)]
      by_cases e : s = 12 * i + b
      · rw [e, if_pos rfl, pk_us, pk_us]; exact ⟨Nat.le_refl _, rfl, rfl⟩
      · rw [if_neg e, pk_un e, pk_un e]; exact ⟨by omega, (Int32.add_zero _).symm, (Int32.add_zero _).symm⟩
theorem m_pair_f {g : sx_F} {S : z_S} (M : z_M g S) (W : z_W S) {x1 x2 : Int32} {A B : Prop} (h : (x1 < 0 ∨ nI 5 ≤ x1) ∨ (x2 < 0 ∨ nI (S 0 0) ≤ x2)) (hA : A) : P_X7_isInstrument g x1 (fun r => ((r = 0 → A) ∧ (¬ r = 0 → (P_X7_isBar g x2 (fun r => ((r = 0 → A) ∧ (¬ r = 0 → B))))))) := by
  have hn := W.1
  refine m_isInstrument ?_
  rcases z_b_cases (decide (¬ x1 < 0 ∧ ¬ nI 5 ≤ x1)) with e | e
  · rw [e]; exact ⟨fun _ => hA, fun c => absurd rfl c⟩
  · rw [e]
    refine ⟨fun c => absurd c (by decide), fun _ => m_isBar M.1 (by omega) ?_⟩
    rcases h with hbad | hbad
    · rw [z_no hbad] at e; exact absurd e (by decide)
    · rw [z_no hbad]; exact ⟨fun _ => hA, fun c => absurd rfl c⟩
theorem m_pair_t {g : sx_F} {S : z_S} (M : z_M g S) (W : z_W S) {i b : Nat} {A B : Prop} (hi : i < 5) (hb : b < S 0 0) (hB : B) : P_X7_isInstrument g (nI i) (fun r => ((r = 0 → A) ∧ (¬ r = 0 → (P_X7_isBar g (nI b) (fun r => ((r = 0 → A) ∧ (¬ r = 0 → B))))))) := by
  have hn := W.1
  refine m_isInstrument ?_
  rw [z_yes hi (by omega)]
  refine ⟨fun c => absurd c (by decide), fun _ => m_isBar M.1 (by omega) ?_⟩
  rw [z_yes hb (by omega)]
  exact ⟨fun c => absurd c (by decide), fun _ => hB⟩
theorem k_empty {t : Nat} {f g : sx_F} {o : Nat → Int64} {x1 x2 : Int32} (ht : t < 1000000) (h : z_I t f g) : P_case_empty f g o x1 x2 (z_I (t + 1)) := by
  have hI := h
  obtain ⟨S, R⟩ := h
  have hn := R.2.2.1.1
  unfold P_case_empty P_L_empty P_X6_empty
  rcases z_pair x1 x2 (a := 5) (n := S 0 0) (by omega) (by omega) with hbad | ⟨i, b, hi, hb, rfl, rfl⟩
  · refine x_needSlot_f R.1 hbad ⟨rfl, ?_⟩
    intro B20 B21 B69 h20 h21 h69
    exact m_pair_f R.2.1 R.2.2.1 hbad (h20 _ (h21 _ _ (m_goes_1 ⟨fun _ => z_finE z_33 (by decide) (hI.go _), fun c => absurd rfl c⟩)))
  have hs : 12 * i + b < 60 := by omega
  have hc8 := R.2.2.1.2.2.1 _ hs
  refine x_needSlot_t R.1 R.2.2.1 hi hb ?_
  have ref : ∀ QQ : Int32 → sx_F → Prop, QQ (nI (S 2 (12 * i + b))) (sx_u (sx_u (sx_u g 0 33 0) 4 (12 * i + b) 0) 5 (12 * i + b) (g 5 (12 * i + b) + nI (if S 2 (12 * i + b) = 0 then 0 else 1))) → P_X7_empty g (nI i) (nI b) QQ := by
    intro QQ q B20 B21 B69 h20 h21 h69
    refine m_pair_t R.2.1 R.2.2.1 hi hb (h21 _ _ (m_goes_0 ⟨fun c => absurd c (by decide), fun _ => m_cell ⟨vp_in_nI (by omega) (by omega), ?_⟩⟩))
    rw [nI_clamp (n := 12 * i + b) (by omega)]
    simp (disch := decide) only [sx_u_n]
    rw [R.2.1.2.2.1 _ hs]
    refine nm_e ⟨vp_in_nI (by omega) (by omega), nm_e ⟨vp_in_nI (by omega) (by omega), ?_⟩⟩
    simp (disch := decide) only [sx_u_n]
    refine pk_eq _ 0 (fun c => h69 _ _ _ _ _ ⟨vp_in_nI (by omega) (by omega), nm_e ?_⟩) (fun c => h69 _ _ _ _ _ ⟨vp_in_nI (by omega) (by omega), nm_e ?_⟩)
    · rw [if_pos c] at q
      rw [nI_clamp (by omega)]
      exact q
    · rw [if_neg c] at q
      rw [nI_clamp (by omega)]
      exact q
  have X' : ∀ f' : sx_F, f' 1 = f 1 → f' 2 = f 2 → f' 5 = upd (f 5) (12 * i + b) 0 → f' 6 = f 6 → f' 7 = f 7 → z_X f' (z_u S 2 (12 * i + b) 0) := by
    intro f' e1 e2 e5 e6 e7
    refine ⟨?_, fun k hk => ?_, fun q hq => ?_, fun k hk => ?_, fun k hk => ?_⟩
    · rw [e1, z_un1 (by decide)]; exact R.1.1
    · rw [e2, z_un1 (by decide)]; exact R.1.2.1 k hk
    · rw [e5]
      by_cases e : q = 12 * i + b
      · rw [e, pk_us, z_us]; rfl
      · rw [pk_un e, z_un (Or.inr e)]; exact R.1.2.2.1 q hq
    · rw [e6, z_un1 (by decide)]; exact R.1.2.2.2.1 k hk
    · rw [e7, z_un1 (by decide)]; exact R.1.2.2.2.2 k hk
  have M' : ∀ x y, z_M (sx_u (sx_u (sx_u g 0 33 0) 4 (12 * i + b) 0) 5 x y) (z_u S 2 (12 * i + b) 0) := by
    intro x y
    refine ⟨?_, fun k hk => ?_, fun q hq => ?_, fun k hk => ?_, fun k hk => ?_⟩
    · simp (disch := decide) only [sx_u_n, sx_u_s, pk_un, z_un1]; exact R.2.1.1
    · simp (disch := decide) only [sx_u_n, z_un1]; exact R.2.1.2.1 k hk
    · simp (disch := decide) only [sx_u_n, sx_u_s]
      by_cases e : q = 12 * i + b
      · rw [e, pk_us, z_us]; rfl
      · rw [pk_un e, z_un (Or.inr e)]; exact R.2.1.2.2.1 q hq
    · simp (disch := decide) only [sx_u_n, z_un1]; exact R.2.1.2.2.2.1 k hk
    · simp (disch := decide) only [sx_u_n, z_un1]; exact R.2.1.2.2.2.2 k hk
  unfold P_X4_takeNotes
  rw [nI_clamp (n := 12 * i + b) (by omega), R.1.2.2.1 _ hs]
  refine ⟨vp_in_nI (by omega) (by omega), nm_e (pk_le _ 0 (fun c => nm_e (ref _ ?_)) (fun c => ⟨vp_in_nI (by omega) (by omega), nm_e ⟨vp_in_nI (by omega) (by omega), vp_in_nI (by omega) (by omega), nm_e (nm_e (ref _ ?_))⟩⟩))⟩
  · have c0 : S 2 (12 * i + b) = 0 := by omega
    refine z_fin0 (by rw [sx_u_n (by decide), sx_u_n (by decide)]; exact z_33) rfl ⟨_, R.sc ht (X' f rfl rfl ?_ rfl rfl) (M' _ _) R.2.2.1.empty (z_un1 (by decide)) (fun _ => z_un1 (by decide)) (fun _ _ => rfl) ?_ ?_ (fun _ => 0) ?_⟩
    · funext q
      by_cases e : q = 12 * i + b
      · rw [e, pk_us, R.1.2.2.1 _ hs, c0]; rfl
      · rw [pk_un e]
    · intro k hk; rw [sx_u_n (by omega), sx_u_n (by omega), sx_u_n (by omega)]
    · intro j hj; simp (disch := decide) only [sx_u_n, sx_u_s]; rw [pk_un hj]
    · intro s hs
      refine ⟨Nat.zero_le _, (Int32.add_zero _).symm, ?_⟩
      rw [sx_u_s, if_pos c0]
      by_cases e : s = 12 * i + b
      · rw [e, pk_us]
      · rw [pk_un e, sx_u_n (by decide), sx_u_n (by decide)]; exact (Int32.add_zero _).symm
  · have c0 : ¬ S 2 (12 * i + b) = 0 := by omega
    refine z_fin0 (by rw [sx_u_n (by decide), sx_u_n (by decide)]; exact z_33) rfl ⟨_, R.sc ht (X' _ ?_ ?_ ?_ ?_ ?_) (M' _ _) R.2.2.1.empty (z_un1 (by decide)) (fun _ => z_un1 (by decide)) ?_ ?_ ?_ (fun s => if s = 12 * i + b then 1 else 0) ?_⟩
    · rw [sx_u_n (by decide), sx_u_n (by decide)]
    · rw [sx_u_n (by decide), sx_u_n (by decide)]
    · rw [sx_u_n (by decide), sx_u_s]
    · rw [sx_u_n (by decide), sx_u_n (by decide)]
    · rw [sx_u_n (by decide), sx_u_n (by decide)]
    · intro k hk; rw [sx_u_n (by omega), sx_u_n (by omega)]
    · intro k hk; rw [sx_u_n (by omega), sx_u_n (by omega), sx_u_n (by omega)]
    · intro j hj; simp (disch := decide) only [sx_u_n, sx_u_s]; rw [pk_un hj]
    · intro s hs
      rw [sx_u_s, sx_u_s, if_neg c0, sx_u_n (by decide), sx_u_n (by decide), sx_u_n (by decide)]
      by_cases e : s = 12 * i + b
      · rw [e, if_pos rfl, pk_us, pk_us]; exact ⟨Nat.le_refl _, rfl, rfl⟩
      · rw [if_neg e, pk_un e, pk_un e]; exact ⟨by omega, (Int32.add_zero _).symm, (Int32.add_zero _).symm⟩
theorem k_setPaper {t : Nat} {f g : sx_F} {o : Nat → Int64} {x1 x2 : Int32} (h : z_I t f g) : P_case_setPaper f g o x1 x2 (z_I (t + 1)) := by
  have hI := h
  obtain ⟨S, R⟩ := h
  obtain ⟨w, q, p1, p2, p3, p4, p5, p6, p7, p8, p9⟩ := R.2.2.2.2.2.1
  unfold P_case_setPaper P_L_setPaper P_X6_setPaper
  by_cases c1 : x1 < 80 ∨ 500 < x1
  · refine x_needValue_f c1 ⟨rfl, ?_⟩
    intro B27 B28 h27 h28
    exact m_in_f c1 ⟨fun _ => h27 _ (h28 _ _ (m_goes_1 ⟨fun _ => z_finE z_33 (by decide) (hI.go _), fun c => absurd rfl c⟩)), fun c => absurd rfl c⟩
  have a1 : ¬ x1 < 80 := fun c => c1 (Or.inl c)
  have a2 : ¬ 500 < x1 := fun c => c1 (Or.inr c)
  refine x_needValue_t a1 a2 ?_
  by_cases c2 : x2 < 1 ∨ 6 < x2
  · refine x_needValue_f c2 ⟨rfl, ?_⟩
    intro B27 B28 h27 h28
    exact m_in_t a1 a2 ⟨fun c => absurd c (by decide), fun _ => m_in_f c2 ⟨fun _ => h27 _ (h28 _ _ (m_goes_1 ⟨fun _ => z_finE z_33 (by decide) (hI.go _), fun c => absurd rfl c⟩)), fun c => absurd rfl c⟩⟩
  have b1 : ¬ x2 < 1 := fun c => c2 (Or.inl c)
  have b2 : ¬ 6 < x2 := fun c => c2 (Or.inr c)
  refine x_needValue_t b1 b2 ?_
  obtain ⟨w', hw', rfl⟩ : ∃ j : Nat, j ≤ 500 ∧ x1 = nI j := nI_of2 (M := 500) rfl (fun z => a1 (Int32.lt_trans z (by decide))) (Int32.not_lt.mp a2)
  have hw1 : 80 ≤ w' := Nat.le_of_not_lt (fun z => a1 (nI_lt (a := w') (b := 80) z (by omega)))
  obtain ⟨q', hq', rfl⟩ : ∃ j : Nat, j ≤ 6 ∧ x2 = nI j := nI_of2 (M := 6) rfl (fun z => b1 (Int32.lt_trans z (by decide))) (Int32.not_lt.mp b2)
  have hq1 : 1 ≤ q' := Nat.le_of_not_lt (fun z => b1 (nI_lt (a := q') (b := 1) z (by omega)))
  refine nm_e (nm_e (nm_e (nm_e ?_)))
  intro B27 B28 h27 h28
  refine m_in_t a1 a2 ⟨fun c => absurd c (by decide), fun _ => m_in_t b1 b2 ⟨fun c => absurd c (by decide), fun _ => h28 _ _ (m_goes_0 ⟨fun c => absurd c (by decide), fun _ => nm_e (nm_e (nm_e ?_))⟩)⟩⟩
  rw [p5, sx_u_s, pk_un (by decide), p6]
  refine z_fin0 (by rw [sx_u_s, pk_un (by decide), sx_u_s, pk_un (by decide)]; exact z_33) rfl ⟨S, ?_⟩
  obtain ⟨R1, R2, R3, R4, R5, R6, R7, R8, R9⟩ := R.mono
  refine ⟨z_Xc R1 ?_ ?_ ?_ ?_ ?_, ?_, R3, ?_, ?_, ⟨w', q', hw1, hw', hq1, hq', ?_, ?_, ?_, ?_, ?_⟩, R7.sc ?_ ?_ ?_ ?_ ?_ ?_, ?_, R9.sc ?_ ?_ ?_ ?_ ?_ ?_⟩
  · rw [sx_u_n (by decide), sx_u_n (by decide)]
  · rw [sx_u_n (by decide), sx_u_n (by decide)]
  · rw [sx_u_n (by decide), sx_u_n (by decide)]
  · rw [sx_u_n (by decide), sx_u_n (by decide)]
  · rw [sx_u_n (by decide), sx_u_n (by decide)]
  · unfold z_M
    simp (disch := decide) only [sx_u_n, sx_u_s, pk_un]
    exact R2
  · unfold z_T
    simp (disch := decide) only [sx_u_n]
    exact R4
  · unfold z_V
    simp (disch := decide) only [sx_u_n]
    exact R5
  · simp (disch := decide) only [sx_u_s, pk_un, pk_us]
  · simp (disch := decide) only [sx_u_s, pk_un, pk_us]
  · simp (disch := decide) only [sx_u_s, pk_un, pk_us]
  · simp (disch := decide) only [sx_u_s, pk_un, pk_us]
  · simp (disch := decide) only [sx_u_n]; exact p9
  · intro k hk; rw [sx_u_n (by omega), sx_u_n (by omega)]
  · simp (disch := decide) only [sx_u_n]
  · simp (disch := decide) only [sx_u_s, pk_un]
  · simp (disch := decide) only [sx_u_n]
  · simp (disch := decide) only [sx_u_n]
  · simp (disch := decide) only [sx_u_n]
  · simp (disch := decide) only [sx_u_n, sx_u_s, pk_un]
    exact R8
  · intro k hk; rw [sx_u_n (by omega), sx_u_n (by omega)]
  · simp (disch := decide) only [sx_u_n]
  · simp (disch := decide) only [sx_u_n]
  · simp (disch := decide) only [sx_u_n]
  · simp (disch := decide) only [sx_u_n]
  · simp (disch := decide) only [sx_u_n]
