/-! THE ITEMS OF A BOOK. a drawer as a number: 0..4 an instrument, 5 the score, 6 a rest -/
def z_dr (d : Nat) : Int32 := if d = 6 then -1 else nI d
theorem z_dr6 : z_dr 6 = -1 := rfl
theorem z_drn {d : Nat} (h : d ≠ 6) : z_dr d = nI d := if_neg h
theorem z_dr_m1 {d : Nat} (h : d ≤ 6) : z_dr d = -1 ↔ d = 6 := by
  by_cases e : d = 6
  · rw [e]; exact ⟨fun _ => rfl, fun _ => rfl⟩
  · rw [z_drn e]; exact ⟨fun z => absurd z (z_nm (by omega)), fun z => absurd z e⟩
def z_mo (S : z_S) (p b : Nat) : Nat := if p = 6 then 0 else S 2 (12 * p + b)
def z_best (S : z_S) (bk b : Nat) : Nat → Nat
  | 0 => 6
  | k + 1 => if k ≠ bk ∧ z_sil S (12 * k + b) = false ∧ z_mo S (z_best S bk b k) b < S 2 (12 * k + b) then k else z_best S bk b k
theorem z_best_r {S : z_S} {bk b : Nat} : ∀ k, k ≤ 5 → z_best S bk b k = 6 ∨ (z_best S bk b k < k ∧ z_best S bk b k ≠ bk ∧ z_sil S (12 * z_best S bk b k + b) = false)
  | 0, _ => Or.inl rfl
  | k + 1, h => by
    have ih := z_best_r (S := S) (bk := bk) (b := b) k (by omega)
    show (if k ≠ bk ∧ z_sil S (12 * k + b) = false ∧ z_mo S (z_best S bk b k) b < S 2 (12 * k + b) then k else z_best S bk b k) = 6 ∨ ((if k ≠ bk ∧ z_sil S (12 * k + b) = false ∧ z_mo S (z_best S bk b k) b < S 2 (12 * k + b) then k else z_best S bk b k) < k + 1 ∧ (if k ≠ bk ∧ z_sil S (12 * k + b) = false ∧ z_mo S (z_best S bk b k) b < S 2 (12 * k + b) then k else z_best S bk b k) ≠ bk ∧ z_sil S (12 * (if k ≠ bk ∧ z_sil S (12 * k + b) = false ∧ z_mo S (z_best S bk b k) b < S 2 (12 * k + b) then k else z_best S bk b k) + b) = false)
    by_cases c : k ≠ bk ∧ z_sil S (12 * k + b) = false ∧ z_mo S (z_best S bk b k) b < S 2 (12 * k + b)
    · rw [if_pos c]
      exact Or.inr ⟨by omega, c.1, c.2.1⟩
    · rw [if_neg c]
      rcases ih with e | e
      · exact Or.inl e
      · exact Or.inr ⟨by omega, e.2⟩
theorem z_sil_pos {S : z_S} {s : Nat} (h : z_sil S s = false) : 0 < S 2 s := by
  refine Nat.pos_of_ne_zero (fun e => ?_)
  have : z_sil S s = true := decide_eq_true (fun j hj => absurd hj (by omega))
  rw [this] at h
  exact absurd h (by decide)
def z_cueX (S : z_S) (bk b : Nat) : Nat := if 2 ≤ b ∧ b + 1 < S 0 0 ∧ z_sil S (12 * bk + (b - 2)) = true ∧ z_sil S (12 * bk + (b - 1)) = true ∧ z_sil S (12 * bk + b) = true ∧ z_sil S (12 * bk + (b + 1)) = false then z_best S bk b 5 else 6
def z_drw (S : z_S) (bk b : Nat) : Nat := if bk = 5 ∨ z_sil S (12 * bk + b) = false then bk else z_cueX S bk b
theorem z_cueX_r {S : z_S} {bk b : Nat} : z_cueX S bk b = 6 ∨ (z_cueX S bk b < 5 ∧ z_cueX S bk b ≠ bk ∧ z_sil S (12 * z_cueX S bk b + b) = false) := by
  unfold z_cueX
  split
  · exact z_best_r 5 (by omega)
  · exact Or.inl rfl
theorem z_drw_le {S : z_S} {bk b : Nat} (h : bk ≤ 5) : z_drw S bk b ≤ 6 := by
  unfold z_drw
  split
  · omega
  · rcases z_cueX_r (S := S) (bk := bk) (b := b) with e | e <;> omega
theorem x_cuePlayer {f : sx_F} {S : z_S} (Z : z_X f S) (W : z_W S) {bk b : Nat} (hk : bk < 5) (hb : b < S 0 0) {Q : Int32 → Prop} (h : Q (z_dr (z_cueX S bk b))) : P_X4_cuePlayer f (nI bk) (nI b) Q := by
  have hn := W.1
  intro B61 B62 B78 B128 h61 h62 h78 h128
  have no : ¬ (2 ≤ b ∧ b + 1 < S 0 0 ∧ z_sil S (12 * bk + (b - 2)) = true ∧ z_sil S (12 * bk + (b - 1)) = true ∧ z_sil S (12 * bk + b) = true ∧ z_sil S (12 * bk + (b + 1)) = false) → B61 := fun z => h61 (h62 _ ⟨fun _ => by
    unfold z_cueX at h
    rw [if_neg z] at h
    exact h, fun c => absurd rfl c⟩)
  refine pk_lt b 2 (fun c => no (fun z => by omega)) (fun c => ?_)
  rw [nI_1, Z.1]
  refine pk_le (S 0 0) (b + 1) (fun c1 => no (fun z => by omega)) (fun c1 => ?_)
  rw [show nI b - 2 = nI (b - 2) from pk_sub (a := b) (b := 2) c, show nI b - 1 = nI (b - 1) from pk_sub (a := b) (b := 1) (by omega)]
  refine x_isSilent Z W hk (by omega) ?_
  cases s1 : z_sil S (12 * bk + (b - 2))
  · exact ⟨fun _ => no (fun z => by rw [s1] at z; exact absurd z.2.2.1 (by decide)), fun c => absurd rfl c⟩
  refine ⟨fun c => absurd c (by decide), fun _ => x_isSilent Z W hk (by omega) ?_⟩
  cases s2 : z_sil S (12 * bk + (b - 1))
  · exact ⟨fun _ => no (fun z => by rw [s2] at z; exact absurd z.2.2.2.1 (by decide)), fun c => absurd rfl c⟩
  refine ⟨fun c => absurd c (by decide), fun _ => x_isSilent Z W hk (by omega) ?_⟩
  cases s3 : z_sil S (12 * bk + b)
  · exact ⟨fun _ => no (fun z => by rw [s3] at z; exact absurd z.2.2.2.2.1 (by decide)), fun c => absurd rfl c⟩
  refine ⟨fun c => absurd c (by decide), fun _ => x_isSilent Z W hk (by omega) ?_⟩
  cases s4 : z_sil S (12 * bk + (b + 1))
  · refine ⟨fun _ => h62 _ ⟨fun c => absurd c (by decide), fun _ => ?_⟩, fun c => absurd rfl c⟩
    unfold z_cueX at h
    rw [if_pos ⟨c, c1, s1, s2, s3, s4⟩] at h
    refine z_up (B := fun k => B78 (z_dr (z_best S bk b k)) (nI (z_mo S (z_best S bk b k) b)) (nI k)) 5 (fun k hk5 ih => h78 _ _ _ (pk_le 5 k (fun c => ?_) (fun c => x_slotOf ⟨vp_in_nI (by omega) (by omega), nm_e ?_⟩)))
    · rw [show k = 5 by omega]; exact h
    · have hs : 12 * k + b < 60 := by omega
      have hcs := W.2.2.1 _ hs
      rw [nI_clamp (by omega), Z.2.2.1 _ hs]
      have i2 := ih c
      have hle : z_mo S (z_best S bk b k) b ≤ 8 := by
        unfold z_mo
        split
        · omega
        · rcases z_best_r (S := S) (bk := bk) (b := b) k hk5 with e | e
          · omega
          · exact W.2.2.1 _ (by omega)
      have st : (k ≠ bk ∧ z_sil S (12 * k + b) = false ∧ z_mo S (z_best S bk b k) b < S 2 (12 * k + b)) → z_best S bk b (k + 1) = k := fun z => if_pos z
      have sf : ¬ (k ≠ bk ∧ z_sil S (12 * k + b) = false ∧ z_mo S (z_best S bk b k) b < S 2 (12 * k + b)) → z_best S bk b (k + 1) = z_best S bk b k := fun z => if_neg z
      have n128 : ¬ (k ≠ bk ∧ z_sil S (12 * k + b) = false ∧ z_mo S (z_best S bk b k) b < S 2 (12 * k + b)) → B128 (z_dr (z_best S bk b k)) (nI (z_mo S (z_best S bk b k) b)) (nI k) := fun z => h128 _ _ _ (nm_e (by rw [nI_1]; rw [sf z] at i2; exact i2))
      refine pk_eq k bk (fun e => n128 (fun z => z.1 e)) (fun e => pk_le (S 2 (12 * k + b)) (z_mo S (z_best S bk b k) b) (fun e1 => n128 (fun z => by omega)) (fun e1 => x_isSilent Z W c (by omega) ?_))
      cases s5 : z_sil S (12 * k + b)
      · refine ⟨fun _ => h128 _ _ _ (nm_e ?_), fun c => absurd rfl c⟩
        rw [nI_1]
        rw [st ⟨e, s5, e1⟩, z_drn (by omega), show z_mo S k b = S 2 (12 * k + b) from if_neg (by omega)] at i2
        exact i2
      · exact ⟨fun c => absurd c (by decide), fun _ => n128 (fun z => by rw [s5] at z; exact absurd z.2.1 (by decide))⟩
  · exact ⟨fun c => absurd c (by decide), fun _ => no (fun z => by rw [s4] at z; exact absurd z.2.2.2.2.2 (by decide))⟩
theorem m_cueFor {g : sx_F} {S : z_S} (M : z_M g S) (W : z_W S) {bk b : Nat} (hk : bk < 5) (hb : b < S 0 0) {Q : Int32 → Prop} (h : Q (z_dr (z_best S bk b 5))) : P_X7_cueFor g (nI bk) (nI b) Q := by
  have hn := W.1
  intro B5 B31 B32 B68 B73 B74 h5 h31 h32 h68 h73 h74
  refine z_up (B := fun k => B5 (z_dr (z_best S bk b k)) (nI k)) 5 (fun k hk5 ih => h5 _ _ (pk_le 5 k (fun c => ?_) (fun c => ?_)))
  · rw [show k = 5 by omega]; exact h
  have i2 := ih c
  have sf : ¬ (k ≠ bk ∧ z_sil S (12 * k + b) = false ∧ z_mo S (z_best S bk b k) b < S 2 (12 * k + b)) → z_best S bk b (k + 1) = z_best S bk b k := fun z => if_neg z
  have st : (k ≠ bk ∧ z_sil S (12 * k + b) = false ∧ z_mo S (z_best S bk b k) b < S 2 (12 * k + b)) → z_best S bk b (k + 1) = k := fun z => if_pos z
  have n73 : ¬ (k ≠ bk ∧ z_sil S (12 * k + b) = false ∧ z_mo S (z_best S bk b k) b < S 2 (12 * k + b)) → B73 (z_dr (z_best S bk b k)) (nI k) := fun z => h73 _ _ (h74 _ _ (nm_e (by rw [nI_1]; rw [sf z] at i2; exact i2)))
  have n31 : ¬ (k ≠ bk ∧ z_sil S (12 * k + b) = false ∧ z_mo S (z_best S bk b k) b < S 2 (12 * k + b)) → B31 (z_dr (z_best S bk b k)) (nI k) := fun z => h31 _ _ (h32 _ _ _ ⟨fun _ => n73 z, fun c => absurd rfl c⟩)
  refine pk_eq k bk (fun e => n31 (fun z => z.1 e)) (fun e => m_isSilent M W c (by omega) ?_)
  cases s5 : z_sil S (12 * k + b)
  · refine ⟨fun _ => h32 _ _ _ ⟨fun c => absurd c (by decide), fun _ => ?_⟩, fun c => absurd rfl c⟩
    have y68 : z_mo S (z_best S bk b k) b < S 2 (12 * k + b) → B68 (nI k) := fun z => h68 _ (h74 _ _ (nm_e (by rw [nI_1]; rw [st ⟨e, s5, z⟩, z_drn (by omega)] at i2; exact i2)))
    rcases z_best_r (S := S) (bk := bk) (b := b) k hk5 with e6 | ⟨e6, -, -⟩
    · rw [e6]
      rw [e6, show z_mo S 6 b = 0 from rfl] at y68
      exact ⟨fun _ => y68 (z_sil_pos s5), fun c => absurd rfl c⟩
    · have ne : z_best S bk b k ≠ 6 := by omega
      rw [show z_mo S (z_best S bk b k) b = S 2 (12 * z_best S bk b k + b) from if_neg ne] at y68 n73
      have hs : 12 * k + b < 60 := by omega
      have hs2 : 12 * z_best S bk b k + b < 60 := by omega
      have hc1 := W.2.2.1 _ hs
      have hc2 := W.2.2.1 _ hs2
      rw [z_drn ne] at n73 ⊢
      refine ⟨fun z => absurd z (z_nm (by omega)), fun _ => m_cell ⟨vp_in_nI (by omega) (by omega), m_cell ⟨vp_in_nI (by omega) (by omega), ?_⟩⟩⟩
      rw [nI_clamp (by omega), nI_clamp (by omega), M.2.2.1 _ hs, M.2.2.1 _ hs2]
      exact pk_le (S 2 (12 * k + b)) (S 2 (12 * z_best S bk b k + b)) (fun z => n73 (fun y => by omega)) (fun z => y68 z)
  · exact ⟨fun c => absurd c (by decide), fun _ => n31 (fun z => by rw [s5] at z; exact absurd z.2.1 (by decide))⟩
theorem x_drawerOf {f : sx_F} {S : z_S} (Z : z_X f S) (W : z_W S) {bk b : Nat} (hk : bk ≤ 5) (hb : b < S 0 0) (h8 : f 8 2 = nI bk) {Q : Int32 → Prop} (h : Q (z_dr (z_drw S bk b))) : P_X0_drawerOf f (nI b) Q := by
  have hn := W.1
  intro B23 h23
  rw [h8] at h23 ⊢
  unfold z_drw at h
  refine pk_eq bk 5 (fun c => h23 ?_) (fun c => x_isSilent Z W (by omega) (by omega) ?_)
  · rw [if_pos (Or.inl c), z_drn (by omega)] at h; exact h
  · cases s : z_sil S (12 * bk + b)
    · rw [if_pos (Or.inr s), z_drn (by omega)] at h
      exact ⟨fun _ => h23 h, fun c => absurd rfl c⟩
    · rw [if_neg (fun z => z.elim c (fun z => by rw [s] at z; exact absurd z (by decide)))] at h
      exact ⟨fun z => absurd z (by decide), fun _ => x_cuePlayer Z W (by omega) hb h⟩
