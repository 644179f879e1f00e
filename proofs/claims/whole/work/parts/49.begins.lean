theorem z_bgk_at {S : z_S} (W : z_W S) {s p k : Nat} (hs : s < 60) (hk : z_fl S s k = p) : ∀ c, k < c → c ≤ S 2 s → z_bgk S s p c = if S 4 (8 * s + k) = 0 then 1 else 2
  | 0, h, _ => absurd h (Nat.not_lt_zero _)
  | c + 1, h, h2 => by
    show (if z_fl S s c = p then (if S 4 (8 * s + c) = 0 then 1 else 2) else z_bgk S s p c) = _
    by_cases e : c = k
    · rw [e, if_pos hk]
    · have := z_fl_lt W hs (show k < c by omega) (by omega)
      rw [if_neg (by omega)]
      exact z_bgk_at W hs hk c (by omega) (by omega)
theorem m_begins {g : sx_F} {S : z_S} (M : z_M g S) (W : z_W S) {i b p : Nat} (hi : i < 5) (hb : b < S 0 0) (hp : p < 32) {Q : Int32 → Prop} (h : Q (nI (z_bg S (12 * i + b) (S 1 b) p))) : P_X7_begins g (nI i) (nI b) (nI p) Q := by
  have hn := W.1
  intro B13 h13
  refine m_cell ?_
  have hs : 12 * i + b < 60 := by omega
  have hfl := W.2.2.2.2.2.1 i b hi hb
  have hlen := W.2.1 b hb
  generalize 12 * i + b = s at hs h hfl
  have hc := W.2.2.1 s hs
  have key : (∀ j, j < 0 → z_fl S s j ≠ p) → B13 (nI s) (nI (z_fl S s 0)) (nI 0) := by
    refine z_up (B := fun k => (∀ j, j < k → z_fl S s j ≠ p) → B13 (nI s) (nI (z_fl S s k)) (nI k)) (S 2 s) (fun k hk ih => ?_)
    intro h0
    have hle := z_fl_le (S := S) s hk
    refine h13 _ _ _ ⟨vp_in_nI (by omega) (by omega), ?_⟩
    rw [nI_clamp (n := s) (by omega), M.2.2.1 s hs]
    refine pk_le (S 2 s) k (fun c => ?_) (fun c => ?_)
    · have ek : k = S 2 s := by omega
      subst ek
      have z0 : z_bgk S s p (S 2 s) = 0 := z_bgk_0 _ h0
      unfold z_bg at h
      rw [if_pos z0] at h
      refine pk_eq (z_fl S s (S 2 s)) p (fun e => ⟨vp_in_nI (by omega) (by omega), ?_⟩) (fun e => ?_)
      · rw [nI_clamp (by omega), M.2.1 b (by omega)]
        refine pk_le (S 1 b) (z_fl S s (S 2 s)) (fun c1 => ?_) (fun c1 => ?_)
        · rw [if_neg (by omega)] at h; exact h
        · rw [if_pos ⟨e, by omega⟩] at h; exact h
      · rw [if_neg (fun z => e z.1)] at h; exact h
    · rw [z_at', nI_clamp (n := 8 * s + k) (by omega)]
      refine pk_eq (z_fl S s k) p (fun e => ⟨vp_in_nI (by omega) (by omega), ?_⟩) (fun e => ⟨vp_in_nI (by omega) (by omega), nm_e (nm_e ?_)⟩)
      · have z1 := z_bgk_at W hs e (S 2 s) c (Nat.le_refl _)
        have hp60 := (W.2.2.2.1 (8 * s + k) (by omega)).2
        rw [M.2.2.2.2 _ (by omega)]
        unfold z_bg at h
        rw [z1] at h
        refine pk_le (S 4 (8 * s + k)) 0 (fun y => ?_) (fun y => ?_)
        · rw [if_pos (show S 4 (8 * s + k) = 0 by omega), if_neg (by decide)] at h; exact h
        · rw [if_neg (show ¬ S 4 (8 * s + k) = 0 by omega), if_neg (by decide)] at h; exact h
      · rw [M.2.2.2.1 _ (by omega), nI_add, nI_1]
        refine ih c (fun j hj => ?_)
        by_cases ej : j = k
        · rw [ej]; exact e
        · exact h0 j (by omega)
  exact key (fun j hj => absurd hj (by omega))
theorem m_halvings {g : sx_F} {l : Nat} {Q : Int32 → Prop} (hl : l < 2 ^ 6) (h : Q (nI (z_hv 6 l))) : P_X7_halvings g (nI l) Q := by
  intro B4 h4
  have key : ∀ d l a, l < 2 ^ d → d ≤ 6 → Q (nI (a + z_hv d l)) → B4 (nI a) (nI l) := by
    intro d
    induction d with
    | zero =>
      intro l a hl _ hq
      exact h4 _ _ (pk_le l 1 (fun _ => hq) (fun c => absurd c (by omega)))
    | succ d ih =>
      intro l a hl hd hq
      have hl' : l < 2 ^ d * 2 := by rw [← Nat.pow_succ]; exact hl
      have h2 : 2 ^ d ≤ 2 ^ 6 := Nat.pow_le_pow_right (by decide) (by omega)
      refine h4 _ _ (pk_le l 1 (fun c => ?_) (fun c => nm_e (nm_e ?_)))
      · rw [show z_hv (d + 1) l = 0 from if_pos c] at hq; exact hq
      · rw [show z_hv (d + 1) l = z_hv d (l / 2) + 1 from if_neg (by omega), show a + (z_hv d (l / 2) + 1) = (a + 1) + z_hv d (l / 2) by omega] at hq
        have e : nI l / 2 = nI (l / 2) := pk_div (a := l) (d := 2) (by omega) (by omega) (by omega)
        rw [e, nI_1]
        exact ih (l / 2) (a + 1) (by omega) (by omega) hq
  have h' : Q (nI (0 + z_hv 6 l)) := by rw [Nat.zero_add]; exact h
  exact key 6 l 0 hl (by omega) h'
theorem z_pl0 {S : z_S} {dr b : Nat} (W : z_W S) (hd : dr ≤ 5) (hb : b < S 0 0) : z_pl S dr b 0 = true := by
  have hn := W.1
  have hlen := W.2.1 b hb
  obtain ⟨i, hi, hin⟩ : ∃ i, i < 5 ∧ z_in dr i = true := by
    by_cases e : dr = 5
    · exact ⟨0, by omega, decide_eq_true (Or.inl e)⟩
    · exact ⟨dr, by omega, decide_eq_true (Or.inr rfl)⟩
  have hs : 12 * i + b < 60 := by omega
  have pos : 0 < z_bg S (12 * i + b) (S 1 b) 0 := by
    unfold z_bg
    by_cases c : S 2 (12 * i + b) = 0
    · rw [c]
      rw [if_pos (show z_bgk S (12 * i + b) 0 0 = 0 from rfl), if_pos (show z_fl S (12 * i + b) 0 = 0 ∧ 0 < S 1 b from ⟨rfl, by omega⟩)]
      omega
    · rw [z_bgk_at W hs (show z_fl S (12 * i + b) 0 = 0 from rfl) _ (by omega) (Nat.le_refl _)]
      by_cases z : S 4 (8 * (12 * i + b) + 0) = 0
      · rw [if_pos z, if_neg (by decide)]; omega
      · rw [if_neg z, if_neg (by decide)]; omega
  refine decide_eq_true ?_
  refine Nat.pos_of_ne_zero (fun z => ?_)
  have := (z_cnt_0 (p := fun k => z_in dr k && decide (0 < z_bg S (12 * k + b) (S 1 b) 0)) 5).mp z i hi
  rw [hin, decide_eq_true pos] at this
  exact absurd this (by decide)
/-- how many of the instruments before one begin, where the drawer is one alone -/
theorem z_cnt_in {dr : Nat} {p : Nat → Bool} (hd : dr < 5) : ∀ m, m ≤ dr → z_cnt (fun k => z_in dr k && p k) m = 0
  | 0, _ => rfl
  | m + 1, h => by
    rw [z_cnt_s, z_cnt_in hd m (by omega), show z_in dr m = false from decide_eq_false (fun z => by omega)]
    rfl
theorem z_cnt_in2 {dr : Nat} {p : Nat → Bool} (hd : dr < 5) : ∀ m, dr < m → z_cnt (fun k => z_in dr k && p k) m = z_cnt (fun k => z_in dr k && p k) (dr + 1)
  | 0, h => absurd h (Nat.not_lt_zero _)
  | m + 1, h => by
    by_cases e : m = dr
    · rw [e]
    · rw [z_cnt_s, z_cnt_in2 hd m (by omega), show z_in dr m = false from decide_eq_false (fun z => by omega)]
      simp
