theorem z_nm {d : Nat} (h : d < 2 ^ 31) : ¬ nI d = -1 := fun e => nI_pos h (by rw [e]; decide)
def z_cnt (p : Nat → Bool) : Nat → Nat | 0 => 0 | k + 1 => z_cnt p k + (if p k then 1 else 0)
theorem z_cnt_c {p q : Nat → Bool} : ∀ k, (∀ j, j < k → p j = q j) → z_cnt p k = z_cnt q k
  | 0, _ => rfl
  | k + 1, h => by
    unfold z_cnt
    rw [z_cnt_c k (fun j hj => h j (by omega)), h k (by omega)]
theorem z_cnt_le {p : Nat → Bool} : ∀ k, z_cnt p k ≤ k
  | 0 => Nat.le_refl _
  | k + 1 => by
    unfold z_cnt
    have := z_cnt_le (p := p) k
    split <;> omega
theorem z_cnt_0 {p : Nat → Bool} : ∀ k, z_cnt p k = 0 ↔ ∀ j, j < k → p j = false
  | 0 => ⟨fun _ j hj => absurd hj (by omega), fun _ => rfl⟩
  | k + 1 => by
    unfold z_cnt
    have ih := z_cnt_0 (p := p) k
    constructor
    · intro h j hj
      by_cases e : j = k
      · rw [e]
        cases hp : p k
        · rfl
        · rw [hp] at h; simp at h
      · exact ih.mp (by omega) j (by omega)
    · intro h
      rw [ih.mpr (fun j hj => h j (by omega)), h k (by omega)]
      rfl
def z_ow (f : sx_F) (o a b : Nat) : Bool := decide (¬ f o 2 = -1 ∧ ¬ f (o + 1) b = f 4 (12 * a + b))
def z_owm (g : sx_F) (i a b : Nat) : Bool := decide (¬ g 7 i = -1 ∧ ¬ g 8 (12 * i + b) = g 5 (12 * a + b))
theorem x_isOut {f : sx_F} {o : Nat} {Q : Int32 → Prop} (h : Q (z_b (decide (¬ f o 2 = -1)))) : P_X1_isOut f o Q := by
  refine ⟨fun c => ?_, fun c => ?_⟩
  · rw [decide_eq_false (fun z => z c)] at h; exact h
  · rw [decide_eq_true c] at h; exact h
theorem x_scoreVersion {f : sx_F} {o a b : Nat} {Q : Int32 → Prop} (h1 : f o 1 = nI a) (ha : a < 5) (hb : b < 12) (h : Q (f 4 (12 * a + b))) : P_X1_scoreVersion f o (nI b) Q := by
  unfold P_X1_scoreVersion
  rw [h1]
  refine x_slotOf ⟨vp_in_nI (by omega) (by omega), ?_⟩
  rw [nI_clamp (by omega)]
  exact h
theorem x_versionOf {f : sx_F} {o a b : Nat} {Q : Int32 → Prop} (h1 : f o 1 = nI a) (ha : a < 5) (hb : b < 12) (h : Q (if f o 2 = -1 then f 4 (12 * a + b) else f (o + 1) b)) : P_X1_versionOf f o (nI b) Q := by
  refine ⟨fun c => ⟨fun _ => x_scoreVersion h1 ha hb ?_, fun c => absurd rfl c⟩, fun c => ⟨fun e => absurd e (by decide), fun _ => ⟨vp_in_nI (by omega) (by omega), ?_⟩⟩⟩
  · rw [if_pos c] at h; exact h
  · rw [if_neg c] at h; rw [nI_clamp (by omega)]; exact h
theorem x_owes {f : sx_F} {o a b : Nat} {Q : Int32 → Prop} (h1 : f o 1 = nI a) (ha : a < 5) (hb : b < 12) (h : Q (z_b (z_ow f o a b))) : P_X1_owes f o (nI b) Q := by
  refine x_versionOf h1 ha hb (x_scoreVersion h1 ha hb ?_)
  unfold z_ow at h
  by_cases c : f o 2 = -1
  · rw [decide_eq_false (fun z => z.1 c)] at h
    rw [if_pos c]
    exact ⟨fun _ => h, fun z => absurd rfl z⟩
  · rw [if_neg c]
    refine ⟨fun z => ?_, fun z => ?_⟩
    · rw [decide_eq_false (fun y => y.2 z)] at h; exact h
    · rw [decide_eq_true ⟨c, z⟩] at h; exact h
theorem x_countDebts {f : sx_F} {n o a : Nat} {Q : Int32 → Prop} (hn : f 1 0 = nI n) (hn12 : n ≤ 12) (h1 : f o 1 = nI a) (ha : a < 5) (h : Q (nI (z_cnt (z_ow f o a) n))) : P_X1_countDebts f o Q := by
  intro B4 B26 h4 h26
  refine z_up (B := fun k => B4 (nI (z_cnt (z_ow f o a) k)) (nI k)) n (fun k hk ih => h4 _ _ ?_)
  rw [hn]
  refine pk_le n k (fun c => ?_) (fun c => x_owes h1 ha (by omega) ?_)
  · rw [show k = n by omega]; exact h
  · have i2 : B4 (nI (z_cnt (z_ow f o a) k + (if z_ow f o a k then 1 else 0))) (nI (k + 1)) := ih c
    cases hp : z_ow f o a k
    · rw [hp] at i2
      exact ⟨fun _ => h26 _ _ (nm_e (by rw [nI_1]; exact i2)), fun z => absurd rfl z⟩
    · rw [hp] at i2
      exact ⟨fun z => absurd z (by decide), fun _ => nm_e (h26 _ _ (nm_e (by rw [nI_1, nI_1]; exact i2)))⟩
theorem m_owes {g : sx_F} {i a b : Nat} {Q : Int32 → Prop} (hi : i < 16) (h1 : g 6 i = nI a) (ha : a < 5) (hb : b < 12) (h : Q (z_b (z_owm g i a b))) : P_X7_owes g (nI i) (nI b) Q := by
  unfold P_X7_owes
  rw [z_cell, nI_clamp (n := i) (by omega), h1, nI_clamp (n := 12 * i + b) (by omega)]
  unfold z_owm at h
  refine ⟨vp_in_nI (by omega) (by omega), fun c => ?_, fun c => ⟨vp_in_nI (by omega) (by omega), vp_in_nI (by omega) (by omega), m_cell ⟨vp_in_nI (by omega) (by omega), fun z => ?_, fun z => ?_⟩⟩⟩
  · rw [decide_eq_false (fun z => z.1 c)] at h; exact h
  · rw [nI_clamp (by omega)] at z
    rw [decide_eq_false (fun y => y.2 z)] at h; exact h
  · rw [nI_clamp (by omega)] at z
    rw [decide_eq_true ⟨c, z⟩] at h; exact h
theorem m_owedBy {g : sx_F} {n i a : Nat} {Q : Int32 → Prop} (hn : g 0 5 = nI n) (hn12 : n ≤ 12) (hi : i < 16) (h1 : g 6 i = nI a) (ha : a < 5) (h : Q (nI (z_cnt (z_owm g i a) n))) : P_X7_owedBy g (nI i) Q := by
  intro B4 B27 h4 h27
  refine z_up (B := fun k => B4 (nI (z_cnt (z_owm g i a) k)) (nI k)) n (fun k hk ih => h4 _ _ ?_)
  rw [hn]
  refine pk_le n k (fun c => ?_) (fun c => m_owes hi h1 ha (by omega) ?_)
  · rw [show k = n by omega]; exact h
  · have i2 : B4 (nI (z_cnt (z_owm g i a) k + (if z_owm g i a k then 1 else 0))) (nI (k + 1)) := ih c
    cases hp : z_owm g i a k
    · rw [hp] at i2
      exact ⟨fun _ => h27 _ _ _ (nm_e (nm_e (by rw [nI_1]; exact (Int32.add_zero _).symm ▸ i2))), fun z => absurd rfl z⟩
    · rw [hp] at i2
      exact ⟨fun z => absurd z (by decide), fun _ => h27 _ _ _ (nm_e (nm_e (by rw [nI_1, nI_1]; exact i2)))⟩
theorem z_ow_eq {t : Nat} {f g : sx_F} {S : z_S} {i a b : Nat} (R : z_R t f g S) (h : z_C1 f g i) (ha : a < 5) (hb : b < 12) : z_ow f (66 + 2 * i) a b = z_owm g i a b := by
  unfold z_ow z_owm
  rw [h.2.1, (R.2.2.2.2.1 (12 * a + b) (by omega)).1]
  rcases h.2.2 with e | ⟨-, e⟩
  · rw [decide_eq_false (fun z => z.1 e), decide_eq_false (fun z => z.1 e)]
  · rw [e b hb]
theorem x_copiesOut {f : sx_F} {m : Nat} {Q : Int32 → Prop} (hm : f 0 5 = nI m) (hm16 : m ≤ 16) (h : Q (nI (z_cnt (fun i => decide (¬ f (66 + 2 * i) 2 = -1)) m))) : P_X6_copiesOut f Q := by
  intro B4 B27 h4 h27
  refine z_up (B := fun k => B4 (nI (z_cnt (fun i => decide (¬ f (66 + 2 * i) 2 = -1)) k)) (nI k)) m (fun k hk ih => h4 _ _ ?_)
  rw [hm]
  refine pk_le m k (fun c => ?_) (fun c => ⟨vp_in_nI (by omega) (by omega), nm_e ?_⟩)
  · rw [show k = m by omega]; exact h
  · rw [nI_clamp (by omega)]
    refine x_isOut ?_
    have i2 : B4 (nI (z_cnt (fun i => decide (¬ f (66 + 2 * i) 2 = -1)) k + (if decide (¬ f (66 + 2 * k) 2 = -1) then 1 else 0))) (nI (k + 1)) := ih c
    cases hp : decide (¬ f (66 + 2 * k) 2 = -1)
    · rw [hp] at i2
      exact ⟨fun _ => h27 _ _ (nm_e (by rw [nI_1]; exact i2)), fun z => absurd rfl z⟩
    · rw [hp] at i2
      exact ⟨fun z => absurd z (by decide), fun _ => nm_e (h27 _ _ (nm_e (by rw [nI_1, nI_1]; exact i2)))⟩
theorem m_away {g : sx_F} {m : Nat} {Q : Int32 → Prop} (hm : g 0 11 = nI m) (hm16 : m ≤ 16) (h : Q (nI (z_cnt (fun i => decide (¬ g 7 i = -1)) m))) : P_X7_away g Q := by
  intro B4 B28 h4 h28
  refine z_up (B := fun k => B4 (nI (z_cnt (fun i => decide (¬ g 7 i = -1)) k)) (nI k)) m (fun k hk ih => h4 _ _ ?_)
  rw [hm]
  refine pk_le m k (fun c => ?_) (fun c => ⟨vp_in_nI (by omega) (by omega), ?_⟩)
  · rw [show k = m by omega]; exact h
  · rw [nI_clamp (by omega)]
    have i2 : B4 (nI (z_cnt (fun i => decide (¬ g 7 i = -1)) k + (if decide (¬ g 7 k = -1) then 1 else 0))) (nI (k + 1)) := ih c
    refine ⟨fun c1 => ?_, fun c1 => ?_⟩
    · rw [decide_eq_false (fun z => z c1)] at i2
      exact h28 _ _ _ (nm_e (nm_e (by rw [nI_1]; exact (Int32.add_zero _).symm ▸ i2)))
    · rw [decide_eq_true c1] at i2
      exact h28 _ _ _ (nm_e (nm_e (by rw [nI_1, nI_1]; exact i2)))
theorem z_out_eq {f g : sx_F} {m : Nat} (h : ∀ i, i < m → f (66 + 2 * i) 2 = g 7 i) : z_cnt (fun i => decide (¬ f (66 + 2 * i) 2 = -1)) m = z_cnt (fun i => decide (¬ g 7 i = -1)) m :=
  z_cnt_c m (fun i hi => by rw [h i hi])
theorem x_takeVersions {f : sx_F} {n o a : Nat} {Q : sx_F → Prop} (ho : 66 ≤ o) (hn : f 1 0 = nI n) (hn12 : n ≤ 12) (h1 : f o 1 = nI a) (ha : a < 5) (h : ∀ f' : sx_F, (∀ k, k ≠ o + 1 → f' k = f k) → (∀ k, k < 12 → f' (o + 1) k = if k < n then f 4 (12 * a + k) else -1) → Q f') : P_X1_takeVersions f o Q := by
  intro B2 B33 h2 h33
  have key : ∀ f' : sx_F, (∀ k, k ≠ o + 1 → f' k = f k) → (∀ k, k < 0 → f' (o + 1) k = if k < n then f 4 (12 * a + k) else -1) → B2 f' (nI 0) := by
    refine z_up (B := fun j => ∀ f' : sx_F, (∀ k, k ≠ o + 1 → f' k = f k) → (∀ k, k < j → f' (o + 1) k = if k < n then f 4 (12 * a + k) else -1) → B2 f' (nI j)) 12 (fun j hj ih => ?_)
    intro f' e1 e2
    refine h2 _ _ (pk_le 12 j (fun c => h f' e1 (fun k hk => e2 k (by omega))) (fun c => ?_))
    rw [e1 1 (by omega), hn]
    have st : ∀ v, v = (if j < n then f 4 (12 * a + j) else -1) → B33 f' (nI j) (nI j) v := by
      intro v hv
      refine h33 _ _ _ _ ⟨vp_in_nI (by omega) (by omega), nm_e (nm_e ?_)⟩
      rw [nI_clamp (by omega), nI_1]
      refine ih c _ (fun k hk => by rw [sx_u_n hk]; exact e1 k hk) (fun k hk => ?_)
      rw [sx_u_s]
      by_cases e : k = j
      · rw [e, pk_us]; exact hv
      · rw [pk_un e]; exact e2 k (by omega)
    refine pk_le n j (fun c1 => st _ (by rw [if_neg (by omega)])) (fun c1 => x_scoreVersion (a := a) (by rw [e1 o (by omega)]; exact h1) ha c (st _ (by rw [if_pos c1, e1 4 (by omega)])))
  exact key f (fun _ _ => rfl) (fun k hk => absurd hk (by omega))
theorem m_renews {g : sx_F} {n i a : Nat} {Q : sx_F → Prop} (hn : g 0 5 = nI n) (hn12 : n ≤ 12) (hi : i < 16) (h1 : g 6 i = nI a) (ha : a < 5) (h : ∀ g' : sx_F, (∀ k, k ≠ 8 → g' k = g k) → (∀ j, (j < 12 * i ∨ 12 * i + 12 ≤ j) → g' 8 j = g 8 j) → (∀ k, k < 12 → g' 8 (12 * i + k) = if k < n then g 5 (12 * a + k) else -1) → Q g') : P_X7_renews g (nI i) Q := by
  intro B2 B45 h2 h45
  have key : ∀ g' : sx_F, (∀ k, k ≠ 8 → g' k = g k) → (∀ j, (j < 12 * i ∨ 12 * i + 12 ≤ j) → g' 8 j = g 8 j) → (∀ k, k < 0 → g' 8 (12 * i + k) = if k < n then g 5 (12 * a + k) else -1) → B2 g' (nI 0) := by
    refine z_up (B := fun j => ∀ g' : sx_F, (∀ k, k ≠ 8 → g' k = g k) → (∀ j, (j < 12 * i ∨ 12 * i + 12 ≤ j) → g' 8 j = g 8 j) → (∀ k, k < j → g' 8 (12 * i + k) = if k < n then g 5 (12 * a + k) else -1) → B2 g' (nI j)) 12 (fun j hj ih => ?_)
    intro g' e1 e0 e2
    refine h2 _ _ (pk_le 12 j (fun c => h g' e1 e0 (fun k hk => e2 k (by omega))) (fun c => ?_))
    rw [e1 0 (by omega), hn, z_cell, nI_clamp (n := i) (by omega), e1 6 (by omega), h1]
    have st : ∀ v, v = (if j < n then g 5 (12 * a + j) else -1) → B45 g' (nI j) (nI (12 * i + j)) v := by
      intro v hv
      refine h45 _ _ _ _ ⟨vp_in_nI (by omega) (by omega), nm_e (nm_e ?_)⟩
      rw [nI_clamp (by omega), nI_1]
      refine ih c _ (fun k hk => by rw [sx_u_n hk]; exact e1 k hk) (fun q hq => ?_) (fun k hk => ?_)
      · rw [sx_u_s, pk_un (by omega)]; exact e0 q hq
      · rw [sx_u_s]
        by_cases e : k = j
        · rw [e, pk_us]; exact hv
        · rw [pk_un (by omega)]; exact e2 k (by omega)
    refine pk_le n j (fun c1 => st _ (by rw [if_neg (by omega)])) (fun c1 => ⟨vp_in_nI (by omega) (by omega), m_cell ⟨vp_in_nI (by omega) (by omega), st _ ?_⟩⟩)
    rw [if_pos c1, nI_clamp (by omega), e1 5 (by omega)]
  exact key g (fun _ _ => rfl) (fun _ _ => rfl) (fun k hk => absurd hk (by omega))
