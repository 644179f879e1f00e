/-! THE LAW'S CUE: from the last instrument down, of several the lowest -/
def y_so (S : z_S) (bk b j : Nat) : Prop := j ≠ bk ∧ z_sil S (12 * j + b) = false
def y_Sp (S : z_S) (bk b lo hi r : Nat) : Prop := (r = 6 ∧ ∀ j, lo ≤ j → j < hi → ¬ y_so S bk b j) ∨ (lo ≤ r ∧ r < hi ∧ y_so S bk b r ∧ ∀ j, lo ≤ j → j < hi → y_so S bk b j → S 2 (12 * j + b) < S 2 (12 * r + b) ∨ (S 2 (12 * j + b) = S 2 (12 * r + b) ∧ r ≤ j))
theorem y_Sp_u {S : z_S} {bk b lo hi r r' : Nat} (h : y_Sp S bk b lo hi r) (h' : y_Sp S bk b lo hi r') : r = r' := by
  rcases h with ⟨h1, h2⟩ | ⟨h1, h2, h3, h4⟩
  · rcases h' with ⟨g1, g2⟩ | ⟨g1, g2, g3, g4⟩
    · omega
    · exact absurd g3 (h2 r' g1 g2)
  · rcases h' with ⟨g1, g2⟩ | ⟨g1, g2, g3, g4⟩
    · exact absurd h3 (g2 r h1 h2)
    · have a := h4 r' g1 g2 g3
      have b := g4 r h1 h2 h3
      omega
theorem y_best_sp {S : z_S} {bk b : Nat} : ∀ k, k ≤ 5 → y_Sp S bk b 0 k (z_best S bk b k)
  | 0, _ => Or.inl ⟨rfl, fun j _ h => absurd h (by omega)⟩
  | k + 1, h => by
    have ih := y_best_sp (S := S) (bk := bk) (b := b) k (by omega)
    have e : z_best S bk b (k + 1) = if k ≠ bk ∧ z_sil S (12 * k + b) = false ∧ z_mo S (z_best S bk b k) b < S 2 (12 * k + b) then k else z_best S bk b k := rfl
    rw [e]
    by_cases c : k ≠ bk ∧ z_sil S (12 * k + b) = false ∧ z_mo S (z_best S bk b k) b < S 2 (12 * k + b)
    · rw [if_pos c]
      refine Or.inr ⟨Nat.zero_le _, by omega, ⟨c.1, c.2.1⟩, fun j _ hj hs => ?_⟩
      by_cases ej : j = k
      · subst ej; exact Or.inr ⟨rfl, Nat.le_refl _⟩
      · rcases ih with ⟨h1, h2⟩ | ⟨h1, h2, h3, h4⟩
        · exact absurd hs (h2 j (Nat.zero_le _) (by omega))
        · have h5 := h4 j (Nat.zero_le _) (by omega) hs
          have h6 : z_mo S (z_best S bk b k) b = S 2 (12 * z_best S bk b k + b) := if_neg (by omega)
          omega
    · rw [if_neg c]
      rcases ih with ⟨h1, h2⟩ | ⟨h1, h2, h3, h4⟩
      · refine Or.inl ⟨h1, fun j _ hj hs => ?_⟩
        by_cases ej : j = k
        · subst ej
          refine c ⟨hs.1, hs.2, ?_⟩
          rw [h1]
          exact z_sil_pos hs.2
        · exact h2 j (Nat.zero_le _) (by omega) hs
      · refine Or.inr ⟨h1, by omega, h3, fun j _ hj hs => ?_⟩
        by_cases ej : j = k
        · subst ej
          have h6 : z_mo S (z_best S bk b j) b = S 2 (12 * z_best S bk b j + b) := if_neg (by omega)
          have h7 : ¬ z_mo S (z_best S bk b j) b < S 2 (12 * j + b) := fun z => c ⟨hs.1, hs.2, z⟩
          omega
        · exact h4 j (Nat.zero_le _) (by omega) hs
theorem l_cue {f a : sx_F} {o : sl_O} {S : z_S} (Y : y_N a o S) (W : z_W S) {bk b : Nat} (hk : bk < 5) (hb : b < 6) {Q : Int32 → Prop} (h : Q (z_dr (z_best S bk b 5))) : P_L_cue f a o (nI bk) (nI b) Q := by
  intro B6 B32 B33 B66 B71 B73 h6 h32 h33 h66 h71 h73
  have key : ∀ m r, m ≤ 5 → y_Sp S bk b m 5 r → B6 (z_dr r) (if m = 0 then -1 else nI (m - 1)) := by
    intro m
    induction m with
    | zero =>
      intro r _ hr
      rw [y_Sp_u hr (y_best_sp 5 (Nat.le_refl _))]
      rw [if_pos rfl]
      exact h6 _ _ ⟨fun _ => h, fun c => absurd (by decide) c⟩
    | succ m ih =>
      intro r hm hr
      rw [if_neg (by omega), show m + 1 - 1 = m by omega]
      have nx : nI m + (-1) = if m = 0 then -1 else nI (m - 1) := by
        by_cases c : m = 0
        · rw [if_pos c, c]; rfl
        · rw [if_neg c]
          obtain ⟨j, rfl⟩ : ∃ j, m = j + 1 := ⟨m - 1, by omega⟩
          exact pk_m1 j
      have go : ∀ r', y_Sp S bk b m 5 r' → B73 (nI m) (z_dr r') := by
        intro r' hr'
        refine h73 _ _ (nm_e ?_)
        rw [nx]
        exact ih r' (by omega) hr'
      have no : ¬ y_so S bk b m → B71 (z_dr r) (nI m) := by
        intro hn
        refine h71 _ _ (go r ?_)
        rcases hr with ⟨h1, h2⟩ | ⟨h1, h2, h3, h4⟩
        · refine Or.inl ⟨h1, fun j hj hj5 => ?_⟩
          by_cases ej : j = m
          · subst ej; exact hn
          · exact h2 j (by omega) hj5
        · refine Or.inr ⟨by omega, h2, h3, fun j hj hj5 hs => ?_⟩
          by_cases ej : j = m
          · subst ej; exact absurd hs hn
          · exact h4 j (by omega) hj5 hs
      have n32 : ¬ y_so S bk b m → B32 (z_dr r) (nI m) := fun hn => h32 _ _ (h33 _ _ _ ⟨fun _ => no hn, fun c => absurd rfl c⟩)
      refine h6 _ _ ⟨fun c => absurd c (nI_pos (by omega)), fun _ => pk_eq m bk (fun e => n32 (fun z => z.1 e)) (fun e => l_isSilent Y W (by omega) hb ?_)⟩
      cases s : z_sil S (12 * m + b)
      · refine ⟨fun _ => h33 _ _ _ ⟨fun c => absurd c (by decide), fun _ => ?_⟩, fun c => absurd rfl c⟩
        have hs : y_so S bk b m := ⟨e, s⟩
        rw [y_cell]
        rcases hr with ⟨h1, h2⟩ | ⟨h1, h2, h3, h4⟩
        · rw [h1, z_dr6]
          refine ⟨fun _ => h66 _ ?_, fun c => absurd (by decide) c⟩
          have hg := go m (Or.inr ⟨Nat.le_refl _, by omega, hs, fun j hj hj5 hsj => by
            by_cases ej : j = m
            · subst ej; exact Or.inr ⟨rfl, Nat.le_refl _⟩
            · exact absurd hsj (h2 j (by omega) hj5)⟩)
          rw [z_drn (by omega)] at hg
          exact hg
        · have n71 := fun hn => no hn
          rw [z_drn (by omega)] at n71 ⊢
          refine ⟨fun c => absurd c (nI_pos (by omega)), fun _ => ⟨vp_in_nI (by omega) (by omega), ?_⟩⟩
          rw [y_cell]
          refine ⟨vp_in_nI (by omega) (by omega), ?_⟩
          rw [nI_clamp (by omega), nI_clamp (by omega), (Y.2.2.2 m b (by omega) hb).1, (Y.2.2.2 r b (by omega) hb).1]
          have w1 := W.2.2.1 (12 * m + b) (by omega)
          have w2 := W.2.2.1 (12 * r + b) (by omega)
          refine pk_lt _ _ (fun c => ?_) (fun c => h66 _ ?_)
          · refine h71 _ _ ?_
            have hg := go r (Or.inr ⟨by omega, h2, h3, fun j hj hj5 hsj => by
              by_cases ej : j = m
              · subst ej; exact Or.inl c
              · exact h4 j (by omega) hj5 hsj⟩)
            rw [z_drn (by omega)] at hg
            exact hg
          · have hg := go m (Or.inr ⟨Nat.le_refl _, by omega, hs, fun j hj hj5 hsj => by
              by_cases ej : j = m
              · subst ej; exact Or.inr ⟨rfl, Nat.le_refl _⟩
              · have := h4 j (by omega) hj5 hsj
                omega⟩)
            rw [z_drn (by omega)] at hg
            exact hg
      · exact ⟨fun z => absurd z (by decide), fun _ => n32 (fun z => by
        have z2 := z.2
        rw [s] at z2
        exact absurd z2 (by decide))⟩
  have k5 := key 5 6 (Nat.le_refl _) (Or.inl ⟨rfl, fun j h1 h2 => absurd h2 (by omega)⟩)
  rw [if_neg (by omega), z_dr6] at k5
  exact k5
