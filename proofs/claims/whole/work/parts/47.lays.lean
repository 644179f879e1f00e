/-- the items of a book's first bars, as they stand in the reference's rows -/
def z_H (g : sx_F) (S : z_S) (bk e : Nat) : Prop := g 0 20 = nI (z_it S bk e) ∧ (∀ b, b < e → z_new S bk b = true → g 13 (z_it S bk b) = nI b ∧ g 15 (z_it S bk b) = z_dr (z_drw S bk b)) ∧ ∀ b, b < e → (b + 1 = e ∨ z_new S bk (b + 1) = true) → g 14 (z_it S bk (b + 1) - 1) = nI b
theorem z_it_run {S : z_S} {bk v : Nat} : ∀ w, v < w → z_new S bk v = true → (∀ b, v < b → b < w → z_new S bk b = false) → z_it S bk w = z_it S bk v + 1 := by
  intro w
  induction w with
  | zero => intro h; omega
  | succ w ih =>
    intro h h1 h2
    rw [z_it_s]
    by_cases e : w = v
    · rw [e, h1]; rfl
    · rw [ih (by omega) h1 (fun b hb hb2 => h2 b hb (by omega)), h2 w (by omega) (by omega)]; rfl
theorem m_adds {g : sx_F} {S : z_S} {bk v w : Nat} {Q : sx_F → Prop} (H : z_H g S bk v) (hv : v < w) (hw : w ≤ 12) (h1 : z_new S bk v = true) (h2 : ∀ b, v < b → b < w → z_new S bk b = false) (h : ∀ g' : sx_F, (∀ k, (1 ≤ k ∧ k ≤ 12) ∨ 16 ≤ k → g' k = g k) → (∀ j, j ≠ 20 → g' 0 j = g 0 j) → z_H g' S bk w → Q g') : P_X7_adds g (nI v) (nI (w - 1)) (z_dr (z_drw S bk v)) Q := by
  have hit : z_it S bk v ≤ v := z_cnt_le v
  have eit := z_it_run w hv h1 h2
  obtain ⟨H1, H2, H3⟩ := H
  unfold P_X7_adds
  rw [H1, nI_clamp (by omega)]
  refine ⟨vp_in_nI (by omega) (by omega), nm_e ?_⟩
  rw [sx_u_n (by decide : (0 : Nat) ≠ 13), H1, nI_clamp (by omega)]
  refine ⟨vp_in_nI (by omega) (by omega), nm_e ?_⟩
  rw [sx_u_n (by decide : (0 : Nat) ≠ 14), sx_u_n (by decide : (0 : Nat) ≠ 13), H1, nI_clamp (by omega)]
  refine ⟨vp_in_nI (by omega) (by omega), nm_e (nm_e ?_)⟩
  rw [sx_u_n (by decide : (0 : Nat) ≠ 15), sx_u_n (by decide : (0 : Nat) ≠ 14), sx_u_n (by decide : (0 : Nat) ≠ 13), H1, nI_1]
  refine h _ (fun k hk => by rw [sx_u_n (by omega), sx_u_n (by omega), sx_u_n (by omega), sx_u_n (by omega)]) (fun j hj => by rw [sx_u_s, pk_un hj, sx_u_n (by decide), sx_u_n (by decide), sx_u_n (by decide)]) ⟨by rw [sx_u_s, pk_us, eit], fun b hb hb2 => ?_, fun b hb hb2 => ?_⟩
  · simp (disch := decide) only [sx_u_n, sx_u_s]
    by_cases eb : b = v
    · rw [eb, pk_us, pk_us]; exact ⟨rfl, rfl⟩
    · have lt : b < v := Nat.lt_of_not_le (fun z => by rw [h2 b (by omega) hb] at hb2; exact absurd hb2 (by decide))
      have := z_cnt_lt (p := z_new S bk) lt hb2
      have ne : z_it S bk b ≠ z_it S bk v := by show z_cnt (z_new S bk) b ≠ z_cnt (z_new S bk) v; omega
      rw [pk_un ne, pk_un ne]
      exact H2 b lt hb2
  · simp (disch := decide) only [sx_u_n, sx_u_s]
    by_cases eb : b + 1 = w
    · rw [eb, eit, show z_it S bk v + 1 - 1 = z_it S bk v by omega, pk_us, show w - 1 = b by omega]
    · have hb3 := hb2.resolve_left eb
      have lt : b < v := Nat.lt_of_not_le (fun z => by rw [h2 (b + 1) (by omega) (by omega)] at hb3; exact absurd hb3 (by decide))
      have hp := z_it_pos (S := S) (bk := bk) (show 0 < b + 1 by omega)
      have := z_cnt_mono (p := z_new S bk) (show b + 1 ≤ v by omega)
      have ne : z_it S bk (b + 1) - 1 ≠ z_it S bk v := by
        have e : z_it S bk (b + 1) ≤ z_it S bk v := this
        omega
      rw [pk_un ne]
      exact H3 b lt (Or.inr hb3)
theorem m_laysItems {g : sx_F} {S : z_S} {bk : Nat} {Q : sx_F → Prop} (M : z_M g S) (W : z_W S) (hbk : bk ≤ 5) (h : ∀ g' : sx_F, (∀ k, (1 ≤ k ∧ k ≤ 12) ∨ 16 ≤ k → g' k = g k) → (∀ j, j ≠ 20 → g' 0 j = g 0 j) → z_H g' S bk (S 0 0) → Q g') : P_X7_laysItems g (nI bk) Q := by
  have hn := W.1
  intro B7 B17 B45 B89 B90 B109 B131 b7 b17 b45 b89 b90 b109 b131
  refine nm_e ?_
  -- what the reference keeps at the head
  have key : ∀ d v, v + d = S 0 0 → ∀ g' : sx_F, (∀ k, (1 ≤ k ∧ k ≤ 12) ∨ 16 ≤ k → g' k = g k) → (∀ j, j ≠ 20 → g' 0 j = g 0 j) → z_H g' S bk v → (v = 0 ∨ bk = 5 ∨ z_sil S (12 * bk + (v - 1)) = false ∨ v = S 0 0 ∨ z_sil S (12 * bk + v) = false) → B7 g' (nI v) := by
    intro d
    induction d using Nat.strongRecOn with
    | ind d ih =>
    intro v hv g' f1 f2 f3 f4
    have M' : z_M g' S := by
      unfold z_M at M ⊢
      rw [f2 5 (by decide), f1 1 (by decide), f1 4 (by decide), f1 2 (by decide), f1 3 (by decide)]
      exact M
    refine b7 _ _ ?_
    rw [M'.1]
    refine pk_le (S 0 0) v (fun c => h g' f1 f2 (by rw [show S 0 0 = v by omega]; exact f3)) (fun c => ?_)
    -- the end of the silence
    have fin : ∀ w, v ≤ w → w ≤ S 0 0 → (∀ b, v ≤ b → b < w → bk ≠ 5 ∧ z_sil S (12 * bk + b) = true) → (bk = 5 ∨ w = S 0 0 ∨ z_sil S (12 * bk + w) = false) → B45 g' (nI v) (nI w) := by
      intro w h1 h2 h3 h4
      refine b45 _ _ _ (pk_eq w v (fun e => ?_) (fun e => ?_))
      · subst e
        have hs : bk = 5 ∨ z_sil S (12 * bk + w) = false := h4.imp id (fun z => z.resolve_left (by omega))
        have hdw : z_drw S bk w = bk := if_pos hs
        have ad := m_adds (w := w + 1) (Q := fun g13 => ∀ y14 : Int32, y14 = nI w + 1 → B131 g13 y14) f3 (by omega) (by omega) (decide_eq_true (fun z => by rw [hdw] at z; omega)) (fun b hb hb2 => absurd hb (by omega)) (fun g2 a1 a2 a3 => nm_e (b131 _ _ (by
          rw [nI_1]
          exact ih (d - 1) (by omega) (w + 1) (by omega) g2 (fun k hk => by rw [a1 k hk]; exact f1 k hk) (fun j hj => by rw [a2 j hj]; exact f2 j hj) a3 (Or.inr (hs.imp id (fun z => Or.inl (by rw [show w + 1 - 1 = w by omega]; exact z)))))))
        rw [hdw, z_drn (by omega), show w + 1 - 1 = w by omega] at ad
        exact ad
      · have hvw : v < w := by omega
        have nb5 : bk ≠ 5 := (h3 v (Nat.le_refl _) hvw).1
        have sil : ∀ b, v ≤ b → b < w → z_sil S (12 * bk + b) = true := fun b a1 a2 => (h3 b a1 a2).2
        have hst : v = 0 ∨ z_sil S (12 * bk + (v - 1)) = false := by
          rcases f4 with z | z | z | z | z
          · exact Or.inl z
          · exact absurd z nb5
          · exact Or.inr z
          · omega
          · rw [sil v (Nat.le_refl _) hvw] at z; exact absurd z (by decide)
        have dS : ∀ b, v ≤ b → b < w → z_drw S bk b = z_cueX S bk b := fun b a1 a2 => if_neg (fun z => z.elim nb5 (fun z => by rw [sil b a1 a2] at z; exact absurd z (by decide)))
        have dIn : ∀ b, v ≤ b → b + 1 < w → z_drw S bk b = 6 := fun b a1 a2 => by
          rw [dS b a1 (by omega)]
          exact if_neg (fun z => by rw [sil (b + 1) (by omega) a2] at z; exact absurd z.2.2.2.2.2 (by decide))
        have hnv : z_new S bk v = true := decide_eq_true (fun z => by
          rcases hst with y | y
          · omega
          · have e : z_drw S bk (v - 1) = bk := if_pos (Or.inr y)
            rw [e] at z
            omega)
        have nIn : ∀ b, v < b → b < w → z_drw S bk b = 6 → z_new S bk b = false := fun b a1 a2 a3 => decide_eq_false (fun z => z ⟨by omega, a3, dIn (b - 1) (by omega) (by omega)⟩)
        -- one rest
        have rest : z_drw S bk (w - 1) = 6 → B90 g' (nI v) (nI w) (-1) := by
          intro hq
          have dv : z_drw S bk v = 6 := by
            by_cases e2 : v + 1 < w
            · exact dIn v (Nat.le_refl _) e2
            · rw [show v = w - 1 by omega]; exact hq
          refine b90 _ _ _ _ ⟨fun _ => ?_, fun z => absurd rfl z⟩
          refine b109 _ _ _ _ _ ?_
          have ad := m_adds (w := w) (Q := fun g16 => ((-1 : Int32) = -1 → B131 g16 (nI w)) ∧ (¬ (-1 : Int32) = -1 → P_X7_adds g16 (nI w - 1) (nI w - 1) (-1) (fun g18 => B131 g18 (nI w)))) f3 hvw (by omega) hnv (fun b a1 a2 => nIn b a1 a2 (by
            by_cases e2 : b + 1 < w
            · exact dIn b (by omega) e2
            · rw [show b = w - 1 by omega]; exact hq)) (fun g2 a1 a2 a3 => ⟨fun _ => b131 _ _ (ih (d - (w - v)) (by omega) w (by omega) g2 (fun k hk => by rw [a1 k hk]; exact f1 k hk) (fun j hj => by rw [a2 j hj]; exact f2 j hj) a3 (Or.inr (Or.inr (Or.inr (h4.resolve_left nb5))))), fun z => absurd rfl z⟩)
          rw [dv, z_dr6] at ad
          rw [show nI w - 1 = nI (w - 1) from pk_sub (a := w) (b := 1) (by omega)]
          rw [show nI w - 1 = nI (w - 1) from pk_sub (a := w) (b := 1) (by omega)] at ad
          exact ad
        have short : ¬ (3 ≤ w - v ∧ w < S 0 0) → z_drw S bk (w - 1) = 6 := fun z => by
          rw [dS (w - 1) (by omega) (by omega)]
          refine if_neg (fun y => ?_)
          obtain ⟨y1, y2, y3, y4, y5, y6⟩ := y
          have lt3 : w - v < 3 := by omega
          rcases hst with q | q
          · omega
          · by_cases e1 : w - v = 1
            · rw [show w - 1 - 1 = v - 1 by omega, q] at y4; exact absurd y4 (by decide)
            · rw [show w - 1 - 2 = v - 1 by omega, q] at y3; exact absurd y3 (by decide)
        rw [show (nI w - nI v) = nI (w - v) from pk_sub (by omega), M'.1]
        refine pk_lt (w - v) 3 (fun z => b89 _ _ _ (rest (short (by omega)))) (fun z => pk_le (S 0 0) w (fun y => b89 _ _ _ (rest (short (by omega)))) (fun y => ?_))
        rw [show nI w - 1 = nI (w - 1) from pk_sub (a := w) (b := 1) (by omega)]
        refine m_cueFor M' W (by omega) (by omega) ?_
        have hcue : z_drw S bk (w - 1) = z_best S bk (w - 1) 5 := by
          rw [dS (w - 1) (by omega) (by omega)]
          refine if_pos ⟨by omega, by omega, sil _ (by omega) (by omega), sil _ (by omega) (by omega), sil _ (by omega) (by omega), ?_⟩
          rw [show w - 1 + 1 = w by omega]
          exact (h4.resolve_left nb5).resolve_left (by omega)
        rw [← hcue]
        by_cases q6 : z_drw S bk (w - 1) = 6
        · rw [q6]; exact rest q6
        · have hq5 : z_drw S bk (w - 1) < 5 := by
            rw [hcue] at q6 ⊢
            rcases z_best_r (S := S) (bk := bk) (b := w - 1) 5 (Nat.le_refl _) with q | q
            · exact absurd q q6
            · exact q.1
          have nq : ¬ z_dr (z_drw S bk (w - 1)) = -1 := fun q => q6 ((z_dr_m1 (by omega)).mp q)
          refine b90 _ _ _ _ ⟨fun q => absurd q nq, fun _ => b109 _ _ _ _ _ ?_⟩
          have dv : z_drw S bk v = 6 := dIn v (Nat.le_refl _) (by omega)
          have ad := m_adds (w := w - 1) (Q := fun g16 => (z_dr (z_drw S bk (w - 1)) = -1 → B131 g16 (nI w)) ∧ (¬ z_dr (z_drw S bk (w - 1)) = -1 → P_X7_adds g16 (nI w - 1) (nI w - 1) (z_dr (z_drw S bk (w - 1))) (fun g18 => B131 g18 (nI w)))) f3 (by omega) (by omega) hnv (fun b a1 a2 => nIn b a1 (by omega) (dIn b (by omega) (by omega))) (fun g2 a1 a2 a3 => ⟨fun q => absurd q nq, fun _ => by
            have ad2 := m_adds (w := w) (Q := fun g18 => B131 g18 (nI w)) a3 (by omega) (by omega) (decide_eq_true (fun q => q6 q.2.1)) (fun b a1 a2 => absurd a1 (by omega)) (fun g3 c1 c2 c3 => b131 _ _ (ih (d - (w - v)) (by omega) w (by omega) g3 (fun k hk => by rw [c1 k hk, a1 k hk]; exact f1 k hk) (fun j hj => by rw [c2 j hj, a2 j hj]; exact f2 j hj) c3 (Or.inr (Or.inr (Or.inr (h4.resolve_left nb5))))))
            rw [show nI w - 1 = nI (w - 1) from pk_sub (a := w) (b := 1) (by omega)]
            exact ad2⟩)
          rw [dv, z_dr6, show w - 1 - 1 = w - 2 by omega] at ad
          rw [show nI w - 2 = nI (w - 2) from pk_sub (a := w) (b := 2) (by omega)]
          exact ad
    -- the silence itself
    have run : ∀ k w, w + k = S 0 0 → v ≤ w → (∀ b, v ≤ b → b < w → bk ≠ 5 ∧ z_sil S (12 * bk + b) = true) → B17 g' (nI v) (nI w) := by
      intro k
      induction k with
      | zero =>
        intro w e1 e2 e3
        refine b17 _ _ _ (pk_eq bk 5 (fun z => fin w e2 (by omega) e3 (Or.inl z)) (fun z => ?_))
        rw [M'.1]
        exact pk_le (S 0 0) w (fun _ => fin w e2 (by omega) e3 (Or.inr (Or.inl (by omega)))) (fun y => absurd y (by omega))
      | succ k ihk =>
        intro w e1 e2 e3
        refine b17 _ _ _ (pk_eq bk 5 (fun z => fin w e2 (by omega) e3 (Or.inl z)) (fun z => ?_))
        rw [M'.1]
        refine pk_le (S 0 0) w (fun y => absurd y (by omega)) (fun y => m_isSilent M' W (by omega) (by omega) ?_)
        cases s : z_sil S (12 * bk + w)
        · exact ⟨fun _ => fin w e2 (by omega) e3 (Or.inr (Or.inr s)), fun q => absurd rfl q⟩
        · refine ⟨fun q => absurd q (by decide), fun _ => nm_e ?_⟩
          rw [nI_1]
          refine ihk (w + 1) (by omega) (by omega) (fun b a1 a2 => ?_)
          by_cases eb : b = w
          · rw [eb]; exact ⟨z, s⟩
          · exact e3 b a1 (by omega)
    exact run d v hv (Nat.le_refl _) (fun b a1 a2 => absurd a1 (by omega))
  refine key (S 0 0) 0 (by omega) _ (fun k hk => sx_u_n (by omega)) (fun j hj => by rw [sx_u_s, pk_un hj]) ⟨by rw [sx_u_s, pk_us]; rfl, fun b hb => absurd hb (by omega), fun b hb => absurd hb (by omega)⟩ (Or.inl rfl)
