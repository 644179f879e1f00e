/-- what a change of notes keeps -/
theorem z_R.sc {t : Nat} {f g f' g' : sx_F} {S S' : z_S} (ht : t < 1000000) (R : z_R t f g S) (X' : z_X f' S') (M' : z_M g' S') (W' : z_W S') (h0 : S' 0 0 = S 0 0) (h1 : ∀ k, S' 1 k = S 1 k) (hf : ∀ k, (k ≤ 3 ∨ 8 ≤ k) → f' k = f k) (hg : ∀ k, (6 ≤ k ∧ k ≤ 12) → g' k = g k) (hg0 : ∀ j, j ≠ 33 → g' 0 j = g 0 j) (d : Nat → Nat) (hv : ∀ s, s < 60 → d s ≤ 1 ∧ f' 4 s = f 4 s + nI (d s) ∧ g' 5 s = g 5 s + nI (d s)) : z_R (t + 1) f' g' S' := by
  refine ⟨X', M', W', fun k hk => ?_, fun s hs => ?_, ?_, ?_, ?_, fun q s hq hs => ⟨?_, ?_⟩⟩
  · rw [h0] at hk
    rw [hf 3 (by decide), z_tm_c (S := S) (S' := S') k (fun j _ => h1 j)]
    exact R.2.2.2.1 k hk
  · obtain ⟨d1, d2, d3⟩ := hv s hs
    obtain ⟨a1, v, hv, a2⟩ := R.2.2.2.2.1 s hs
    rw [d2, d3, a1]
    exact ⟨rfl, v + d s, by omega, by rw [a2, nI_add]⟩
  · obtain ⟨w, q, a⟩ := R.2.2.2.2.2.1
    refine ⟨w, q, ?_⟩
    rw [hf 19 (by decide), hg0 6 (by decide), hg0 7 (by decide), hf 11 (by decide), hf 12 (by decide), hf 17 (by decide), hf 18 (by decide)]
    exact a
  · exact R.2.2.2.2.2.2.1.sc (fun k hk => hf k (by omega)) (by rw [hf 0 (by decide)]) (hg0 11 (by decide)) (hg 6 (by decide)) (hg 7 (by decide)) (hg 8 (by decide))
  · rw [hf 0 (by decide), hg0 12 (by decide)]
    exact R.2.2.2.2.2.2.2.1
  · have a1 := (R.2.2.2.2.2.2.2.2 q s hq hs).1
    unfold z_D1 at a1 ⊢
    rw [hf _ (by omega), hf _ (by omega), hg 9 (by decide), hg 10 (by decide)]
    exact a1
  · obtain ⟨e, v, he, hve, b1, b2, b3⟩ := (R.2.2.2.2.2.2.2.2 q s hq hs).2
    obtain ⟨d1, d2, d3⟩ := hv s hs
    refine ⟨e, v + d s, by omega, by omega, by rw [hf _ (by omega)]; exact b1, by rw [d3, b2, nI_add], fun k hk => ?_⟩
    obtain ⟨a, c, e1, e2, e3, e4, e5⟩ := b3 k hk
    rw [hf _ (by omega), hg 11 (by decide), hg 12 (by decide)]
    refine ⟨a, c, e1, by omega, e3, e4, ?_⟩
    by_cases z : d s = 0
    · rw [z]
      exact e5
    · rw [if_neg (by omega), if_neg (by omega)]
theorem z_W.n12 {S : z_S} (W : z_W S) : S 0 0 ≤ 12 := W.1
theorem z_fl_le {S : z_S} (s : Nat) : ∀ {a b : Nat}, a ≤ b → z_fl S s a ≤ z_fl S s b := by
  intro a b h
  induction b with
  | zero => rw [show a = 0 by omega]; exact Nat.le_refl _
  | succ b ih =>
    by_cases e : a = b + 1
    · rw [e]; exact Nat.le_refl _
    · exact Nat.le_trans (ih (by omega)) (Nat.le_add_right _ _)
theorem z_W.note {S : z_S} {i b l p : Nat} (W : z_W S) (hi : i < 5) (hb : b < S 0 0) (hc : S 2 (12 * i + b) < 8) (hl : 1 ≤ l ∧ l ≤ 32) (hp : p ≤ 60) (hf : z_fl S (12 * i + b) (S 2 (12 * i + b)) + l ≤ S 1 b) : z_W (z_u (z_u (z_u S 3 (8 * (12 * i + b) + S 2 (12 * i + b)) l) 4 (8 * (12 * i + b) + S 2 (12 * i + b)) p) 2 (12 * i + b) (S 2 (12 * i + b) + 1)) := by
  have hn := W.1
  generalize hs : 12 * i + b = s at hc hf ⊢
  generalize hcc : S 2 s = c at hc hf ⊢
  generalize hT : z_u (z_u (z_u S 3 (8 * s + c) l) 4 (8 * s + c) p) 2 s (c + 1) = T
  have t0 : ∀ x, T 0 x = S 0 x := fun x => by rw [← hT, z_un1 (by decide), z_un1 (by decide), z_un1 (by decide)]
  have t1 : ∀ x, T 1 x = S 1 x := fun x => by rw [← hT, z_un1 (by decide), z_un1 (by decide), z_un1 (by decide)]
  have t2s : T 2 s = c + 1 := by rw [← hT, z_us]
  have t2 : ∀ x, x ≠ s → T 2 x = S 2 x := fun x hx => by rw [← hT, z_un (Or.inr hx), z_un1 (by decide), z_un1 (by decide)]
  have t3s : T 3 (8 * s + c) = l := by rw [← hT, z_un1 (by decide), z_un1 (by decide), z_us]
  have t3 : ∀ x, x ≠ 8 * s + c → T 3 x = S 3 x := fun x hx => by rw [← hT, z_un1 (by decide), z_un1 (by decide), z_un (Or.inr hx)]
  have t4s : T 4 (8 * s + c) = p := by rw [← hT, z_un1 (by decide), z_us]
  have t4 : ∀ x, x ≠ 8 * s + c → T 4 x = S 4 x := fun x hx => by rw [← hT, z_un1 (by decide), z_un (Or.inr hx), z_un1 (by decide)]
  refine ⟨by rw [t0]; exact hn, fun k hk => ?_, fun x hx => ?_, fun x hx => ?_, fun x k hx hk => ?_, fun i' b' hi' hb' => ?_, fun i' b' hi' hb' hb2 => ?_⟩
  · rw [t1]; rw [t0] at hk; exact W.2.1 k hk
  · by_cases e : x = s
    · rw [e, t2s]; omega
    · rw [t2 x e]; exact W.2.2.1 x hx
  · have a := W.2.2.2.1 x hx
    by_cases e : x = 8 * s + c
    · rw [e, t3s, t4s]; omega
    · rw [t3 x e, t4 x e]; exact a
  · by_cases e : x = s
    · rw [e, t2s] at hk
      rw [e]
      by_cases e2 : k = c
      · rw [e2, t3s]; exact hl.1
      · rw [t3 _ (by omega)]; exact W.2.2.2.2.1 s k (by omega) (by omega)
    · rw [t2 x e] at hk
      have := W.2.2.1 x hx
      rw [t3 _ (by omega)]; exact W.2.2.2.2.1 x k hx hk
  · rw [t0] at hb'
    rw [t1]
    by_cases e : 12 * i' + b' = s
    · have eb : b' = b := by omega
      rw [e, t2s, eb]
      show z_fl T s c + T 3 (8 * s + c) ≤ _
      rw [t3s, z_fl_c (S := S) (S' := T) c (fun j hj => t3 _ (by omega))]
      exact hf
    · rw [t2 _ e]
      have := W.2.2.1 (12 * i' + b') (by omega)
      rw [z_fl_c (S := S) (S' := T) _ (fun j hj => t3 _ (by omega))]
      exact W.2.2.2.2.2.1 i' b' hi' hb'
  · rw [t0] at hb2
    rw [t2 _ (by omega)]
    exact W.2.2.2.2.2.2 i' b' hi' hb' hb2
theorem x_addNote {f : sx_F} {S : z_S} (Z : z_X f S) {s : Nat} (hs : s < 60) (hc : S 2 s < 8) {x2 x3 : Int32} {Q : Int32 → sx_F → Prop} (h : Q (nI (S 2 s + 1)) (sx_u (sx_u (sx_u (sx_u f 6 (8 * s + S 2 s) x2) 7 (8 * s + S 2 s) x3) 5 s (nI (S 2 s + 1))) 4 s (f 4 s + 1))) : P_X4_addNote f (nI s) x2 x3 Q := by
  unfold P_X4_addNote
  refine ⟨vp_in_nI hs (by omega), ?_⟩
  rw [nI_clamp (by omega), Z.2.2.1 _ hs, z_at]
  refine nm_e ⟨vp_in_nI (by omega) (by omega), nm_e ⟨vp_in_nI (by omega) (by omega), nm_e ⟨vp_in_nI (by omega) (by omega), vp_in_nI (by omega) (by omega), nm_e ⟨vp_in_nI (by omega) (by omega), vp_in_nI (by omega) (by omega), nm_e ⟨vp_in_nI (by omega) (by omega), ?_⟩⟩⟩⟩⟩
  simp (disch := decide) only [sx_u_n, sx_u_s, pk_us]
  rw [Z.2.2.1 _ hs, nI_1, nI_clamp (by omega)]
  exact h
theorem k_note {t : Nat} {f g : sx_F} {o : Nat → Int64} {x1 x2 x3 x4 : Int32} (ht : t < 1000000) (h : z_I t f g) : P_case_note f g o x1 x2 x3 x4 (z_I (t + 1)) := by
  have hI := h
  obtain ⟨S, R⟩ := h
  have hn := R.2.2.1.1
  unfold P_case_note P_L_note P_X6_note
  rcases z_pair x1 x2 (a := 5) (n := S 0 0) (by omega) (by omega) with hbad | ⟨i, b, hi, hb, rfl, rfl⟩
  · refine x_needSlot_f R.1 hbad (Or.inl ⟨rfl, ?_⟩)
    intro B19 B20 B47 B48 B64 B116 B117 h19 h20 h47 h48 h64 h116 h117
    have e64 : ∀ y, B64 g 0 y 0 := fun y => h64 _ _ _ _ ⟨fun _ => h116 _ _ _ _ (h117 _ _ _ _ _ (m_goes_1 ⟨fun _ => z_finE z_33 (by decide) (hI.go _), fun c => absurd rfl c⟩)), fun c => absurd rfl c⟩
    have e48 : ∀ y, B48 g 0 y := fun y => h48 _ _ _ ⟨fun _ => e64 y, fun c => absurd rfl c⟩
    have e19 : B19 g := h19 _ (h20 _ _ (m_in (by
      rcases z_b_cases (decide (¬ x3 < 1 ∧ ¬ 32 < x3)) with e | e
      · rw [e]; exact ⟨fun _ => h47 _ _ (e48 0), fun c => absurd rfl c⟩
      · rw [e]
        refine ⟨fun c => absurd c (by decide), fun _ => m_in ?_⟩
        rcases z_b_cases (decide (¬ x4 < 0 ∧ ¬ 60 < x4)) with e | e
        · rw [e]; exact ⟨fun _ => h47 _ _ (e48 0), fun c => absurd rfl c⟩
        · rw [e]; exact ⟨fun c => absurd c (by decide), fun _ => e48 1⟩)))
    refine m_isInstrument ?_
    rcases z_b_cases (decide (¬ x1 < 0 ∧ ¬ nI 5 ≤ x1)) with e | e
    · rw [e]; exact ⟨fun _ => e19, fun c => absurd rfl c⟩
    · rw [e]
      refine ⟨fun c => absurd c (by decide), fun _ => m_isBar R.2.1.1 (by omega) ?_⟩
      rcases hbad with hbad | hbad
      · rw [z_no hbad] at e; exact absurd e (by decide)
      · rw [z_no hbad]; exact ⟨fun _ => e19, fun c => absurd rfl c⟩
  have hs : 12 * i + b < 60 := by omega
  have hc8 := R.2.2.1.2.2.1 _ hs
  refine x_needSlot_t R.1 R.2.2.1 hi hb ?_
  by_cases cf : (¬ x3 < 1 ∧ ¬ 32 < x3) ∧ (¬ x4 < 0 ∧ ¬ 60 < x4)
  · obtain ⟨l, hl, rfl⟩ : ∃ j : Nat, j ≤ 32 ∧ x3 = nI j := nI_of2 (M := 32) rfl (fun z => cf.1.1 (Int32.lt_trans z (by decide))) (Int32.not_lt.mp cf.1.2)
    have hl1 : 1 ≤ l := Nat.le_of_not_lt (fun z => cf.1.1 (nI_lt (a := l) (b := 1) z (by omega)))
    obtain ⟨p, hp, rfl⟩ : ∃ j : Nat, j ≤ 60 ∧ x4 = nI j := nI_of2 (M := 60) rfl cf.2.1 (Int32.not_lt.mp cf.2.2)
    refine x_needValue_t cf.1.1 cf.1.2 (x_needValue_t cf.2.1 cf.2.2 ⟨vp_in_nI (by omega) (by omega), ?_⟩)
    rw [nI_clamp (by omega), R.1.2.2.1 _ hs]
    -- what the reference does, in all three cases
    have ref : ∀ QQ : Int32 → sx_F → Prop, ((8 ≤ S 2 (12 * i + b) ∨ S 1 b < z_fl S (12 * i + b) (S 2 (12 * i + b)) + l) → QQ 0 (sx_u g 0 33 3)) → (S 2 (12 * i + b) < 8 → z_fl S (12 * i + b) (S 2 (12 * i + b)) + l ≤ S 1 b → QQ (nI (S 2 (12 * i + b) + 1)) (sx_u (sx_u (sx_u (sx_u (sx_u g 0 33 0) 2 (8 * (12 * i + b) + S 2 (12 * i + b)) (nI l)) 3 (8 * (12 * i + b) + S 2 (12 * i + b)) (nI p)) 4 (12 * i + b) (nI (S 2 (12 * i + b) + 1))) 5 (12 * i + b) (g 5 (12 * i + b) + 1))) → P_X7_note g (nI i) (nI b) (nI l) (nI p) QQ := by
      intro QQ q3 q0 B19 B20 B47 B48 B64 B116 B117 h19 h20 h47 h48 h64 h116 h117
      refine m_isInstrument ?_
      rw [z_yes hi (by omega)]
      refine ⟨fun c => absurd c (by decide), fun _ => m_isBar R.2.1.1 (by omega) ?_⟩
      rw [z_yes hb (by omega)]
      refine ⟨fun c => absurd c (by decide), fun _ => h20 _ _ (m_in_t cf.1.1 cf.1.2 ⟨fun c => absurd c (by decide), fun _ => m_in_t cf.2.1 cf.2.2 ⟨fun c => absurd c (by decide), fun _ => ?_⟩⟩)⟩
      refine h48 _ _ _ ⟨fun c => absurd c (by decide), fun _ => m_cell (h64 _ _ _ _ ⟨fun c => absurd c (by decide), fun _ => ⟨vp_in_nI (by omega) (by omega), ?_⟩⟩)⟩
      have no : (8 ≤ S 2 (12 * i + b) ∨ S 1 b < z_fl S (12 * i + b) (S 2 (12 * i + b)) + l) → B116 g 1 1 (nI (12 * i + b)) := fun z => h116 _ _ _ _ (h117 _ _ _ _ _ (m_goes_3 ⟨fun _ => q3 z, fun c => absurd rfl c⟩))
      rw [nI_clamp (by omega), R.2.1.2.2.1 _ hs]
      refine pk_le 8 (S 2 (12 * i + b)) (fun c => no (Or.inl c)) (fun c => ⟨fun c => absurd c (by decide), fun _ => ⟨vp_in_nI (by omega) (by omega), m_filled R.2.1 hs hc8 ⟨vp_in_nI (by omega) (by omega), ?_⟩⟩⟩)
      have hfl := R.2.2.1.2.2.2.2.2.1 i b hi hb
      have hlen := (R.2.2.1.2.1 b hb).2
      rw [nI_clamp (by omega), R.2.1.2.1 b (by omega), nI_add]
      refine pk_lt _ _ (fun c1 => no (Or.inr c1)) (fun c1 => h117 _ _ _ _ _ (m_goes_0 ⟨fun c => absurd c (by decide), fun _ => ⟨vp_in_nI (by omega) (by omega), ?_⟩⟩))
      have g4 : (sx_u g 0 33 0) 4 (12 * i + b) = nI (S 2 (12 * i + b)) := by rw [sx_u_n (by decide)]; exact R.2.1.2.2.1 _ hs
      simp (disch := decide) only [sx_u_n] at g4 ⊢
      rw [nI_clamp (n := 12 * i + b) (by omega), g4, z_at']
      refine ⟨vp_in_nI (by omega) (by omega), nm_e ⟨vp_in_nI (by omega) (by omega), ?_⟩⟩
      simp (disch := decide) only [sx_u_n]
      rw [g4, z_at']
      refine ⟨vp_in_nI (by omega) (by omega), nm_e ⟨vp_in_nI (by omega) (by omega), vp_in_nI (by omega) (by omega), nm_e ⟨vp_in_nI (by omega) (by omega), vp_in_nI (by omega) (by omega), nm_e ⟨vp_in_nI (by omega) (by omega), ?_⟩⟩⟩⟩
      simp (disch := decide) only [sx_u_n, sx_u_s, pk_us]
      rw [g4, nI_1, nI_clamp (n := 8 * (12 * i + b) + S 2 (12 * i + b)) (by omega)]
      exact q0 c c1
    refine pk_lt (S 2 (12 * i + b)) 8 (fun c => x_filled R.1 R.2.2.1 hs ⟨vp_in_nI (by omega) (by omega), ?_⟩) (fun c => Or.inr (Or.inr ⟨rfl, ?_⟩))
    · have hfl := R.2.2.1.2.2.2.2.2.1 i b hi hb
      have hlen := (R.2.2.1.2.1 b hb).2
      rw [nI_clamp (by omega), R.1.2.1 b (by omega), nI_add]
      refine pk_le _ _ (fun c1 => ?_) (fun c1 => Or.inr (Or.inr ⟨rfl, ?_⟩))
      · refine x_addNote R.1 hs c (nm_e (ref _ (fun z => absurd z (by omega)) (fun _ _ => ?_)))
        refine z_fin0 (by rw [sx_u_n (by decide), sx_u_n (by decide), sx_u_n (by decide), sx_u_n (by decide)]; exact z_33) rfl ⟨_, R.sc ht ?_ ?_ (R.2.2.1.note hi hb c ⟨hl1, hl⟩ hp c1) ?_ ?_ ?_ ?_ ?_ (fun s => if s = 12 * i + b then 1 else 0) ?_⟩
        · refine ⟨?_, fun k hk => ?_, fun k hk => ?_, fun k hk => ?_, fun k hk => ?_⟩
          · simp (disch := decide) only [sx_u_n, z_un1]; exact R.1.1
          · simp (disch := decide) only [sx_u_n, z_un1]; exact R.1.2.1 k hk
          · simp (disch := decide) only [sx_u_n, sx_u_s]
            by_cases e : k = 12 * i + b
            · rw [e, pk_us, z_us]
            · rw [pk_un e, z_un (Or.inr e)]; simp (disch := decide) only [z_un1]; exact R.1.2.2.1 k hk
          · simp (disch := decide) only [sx_u_n, sx_u_s, z_un1]
            by_cases e : k = 8 * (12 * i + b) + S 2 (12 * i + b)
            · rw [e, pk_us, z_us]
            · rw [pk_un e, z_un (Or.inr e)]; exact R.1.2.2.2.1 k hk
          · simp (disch := decide) only [sx_u_n, sx_u_s, z_un1]
            by_cases e : k = 8 * (12 * i + b) + S 2 (12 * i + b)
            · rw [e, pk_us, z_us]
            · rw [pk_un e, z_un (Or.inr e)]; simp (disch := decide) only [z_un1]; exact R.1.2.2.2.2 k hk
        · refine ⟨?_, fun k hk => ?_, fun k hk => ?_, fun k hk => ?_, fun k hk => ?_⟩
          · simp (disch := decide) only [sx_u_n, sx_u_s, pk_un, z_un1]; exact R.2.1.1
          · simp (disch := decide) only [sx_u_n, z_un1]; exact R.2.1.2.1 k hk
          · simp (disch := decide) only [sx_u_n, sx_u_s]
            by_cases e : k = 12 * i + b
            · rw [e, pk_us, z_us]
            · rw [pk_un e, z_un (Or.inr e)]; simp (disch := decide) only [z_un1]; exact R.2.1.2.2.1 k hk
          · simp (disch := decide) only [sx_u_n, sx_u_s, z_un1]
            by_cases e : k = 8 * (12 * i + b) + S 2 (12 * i + b)
            · rw [e, pk_us, z_us]
            · rw [pk_un e, z_un (Or.inr e)]; exact R.2.1.2.2.2.1 k hk
          · simp (disch := decide) only [sx_u_n, sx_u_s, z_un1]
            by_cases e : k = 8 * (12 * i + b) + S 2 (12 * i + b)
            · rw [e, pk_us, z_us]
            · rw [pk_un e, z_un (Or.inr e)]; simp (disch := decide) only [z_un1]; exact R.2.1.2.2.2.2 k hk
        · simp (disch := decide) only [z_un1]
        · intro k; simp (disch := decide) only [z_un1]
        · intro k hk; rw [sx_u_n (by omega), sx_u_n (by omega), sx_u_n (by omega), sx_u_n (by omega)]
        · intro k hk; rw [sx_u_n (by omega), sx_u_n (by omega), sx_u_n (by omega), sx_u_n (by omega), sx_u_n (by omega)]
        · intro j hj; simp (disch := decide) only [sx_u_n, sx_u_s]; rw [pk_un hj]
        · intro s hs
          simp (disch := decide) only [sx_u_n, sx_u_s]
          by_cases e : s = 12 * i + b
          · rw [e, if_pos rfl, pk_us, pk_us]; exact ⟨Nat.le_refl _, rfl, rfl⟩
          · rw [if_neg e, pk_un e, pk_un e]; exact ⟨by omega, (Int32.add_zero _).symm, (Int32.add_zero _).symm⟩
      · exact ref _ (fun _ => z_finE z_33 (by decide) (hI.go _)) (fun z1 z2 => absurd c1 (by omega))
    · exact ref _ (fun _ => z_finE z_33 (by decide) (hI.go _)) (fun z => absurd z (by omega))
  · have ref : ∀ QQ : Int32 → sx_F → Prop, QQ 0 (sx_u g 0 33 2) → P_X7_note g (nI i) (nI b) x3 x4 QQ := by
      intro QQ q2 B19 B20 B47 B48 B64 B116 B117 h19 h20 h47 h48 h64 h116 h117
      have e116 : B116 g 1 0 (nI (12 * i + b)) := h116 _ _ _ _ (h117 _ _ _ _ _ (m_goes_2 ⟨fun _ => q2, fun c => absurd rfl c⟩))
      have e64 : B64 g 1 0 (nI (12 * i + b)) := h64 _ _ _ _ ⟨fun c => absurd c (by decide), fun _ => ⟨vp_in_nI (by omega) (by omega), ⟨fun _ => e116, fun _ => ⟨fun _ => e116, fun c => absurd rfl c⟩⟩⟩⟩
      have e48 : B48 g 1 0 := h48 _ _ _ ⟨fun c => absurd c (by decide), fun _ => m_cell e64⟩
      refine m_isInstrument ?_
      rw [z_yes hi (by omega)]
      refine ⟨fun c => absurd c (by decide), fun _ => m_isBar R.2.1.1 (by omega) ?_⟩
      rw [z_yes hb (by omega)]
      refine ⟨fun c => absurd c (by decide), fun _ => h20 _ _ ?_⟩
      by_cases c1 : x3 < 1 ∨ 32 < x3
      · exact m_in_f c1 ⟨fun _ => h47 _ _ e48, fun c => absurd rfl c⟩
      · have c2 : x4 < 0 ∨ 60 < x4 := Decidable.byContradiction (fun z => cf ⟨⟨fun a => c1 (Or.inl a), fun a => c1 (Or.inr a)⟩, ⟨fun a => z (Or.inl a), fun a => z (Or.inr a)⟩⟩)
        exact m_in_t (fun a => c1 (Or.inl a)) (fun a => c1 (Or.inr a)) ⟨fun c => absurd c (by decide), fun _ => m_in_f c2 ⟨fun _ => h47 _ _ e48, fun c => absurd rfl c⟩⟩
    by_cases c1 : x3 < 1 ∨ 32 < x3
    · exact x_needValue_f c1 (Or.inr (Or.inl ⟨rfl, ref _ (z_finE z_33 (by decide) (hI.go _))⟩))
    · have c2 : x4 < 0 ∨ 60 < x4 := Decidable.byContradiction (fun z => cf ⟨⟨fun a => c1 (Or.inl a), fun a => c1 (Or.inr a)⟩, ⟨fun a => z (Or.inl a), fun a => z (Or.inr a)⟩⟩)
      exact x_needValue_t (fun a => c1 (Or.inl a)) (fun a => c1 (Or.inr a)) (x_needValue_f c2 (Or.inr (Or.inl ⟨rfl, ref _ (z_finE z_33 (by decide) (hI.go _))⟩)))
