/-! THE LAW'S COPIES, MARKS AND BOWINGS -/
def y_Vr (a g : sx_F) : Prop := ∀ i b, i < 5 → b < 6 → ∃ v, v ≤ 60 ∧ a 2 (6 * i + b) = nI v ∧ g 5 (12 * i + b) = nI v
def y_Pp (a g : sx_F) : Prop := ∃ w q, 80 ≤ w ∧ w ≤ 500 ∧ 1 ≤ q ∧ q ≤ 3 ∧ a 7 1 = nI w ∧ g 0 6 = nI w ∧ a 7 2 = nI q ∧ g 0 7 = nI q
def y_C1 (a g : sx_F) (n i : Nat) : Prop := ∃ x, x < 3 ∧ a 4 (8 * i) = nI x ∧ g 6 i = nI x ∧ a 4 (8 * i + 1) = g 7 i ∧ (g 7 i = -1 ∨ ((∃ d, d < 6 ∧ g 7 i = nI d) ∧ ∀ b, b < 6 → a 4 (8 * i + 2 + b) = g 8 (12 * i + b) ∧ (g 8 (12 * i + b) = -1 ∨ ∃ v, v ≤ 60 ∧ g 8 (12 * i + b) = nI v) ∧ (n ≤ b → g 8 (12 * i + b) = -1)))
def y_Cp (a g : sx_F) (n : Nat) : Prop := a 7 4 = g 0 12 ∧ ∃ m, m ≤ 6 ∧ a 7 3 = nI m ∧ g 0 11 = nI m ∧ ∀ i, i < m → y_C1 a g n i
def y_K (o : sl_O) (g : sx_F) (n : Nat) : Prop := ∀ d i, d < 6 → i < 5 → (∀ b, b < 6 → ∃ s v, s ≤ 9 ∧ v ≤ 60 ∧ y_bt (o 5 (5 * d + i)) (10 * b) 10 = s + 16 * v ∧ g 9 (60 * d + (12 * i + b)) = nI s ∧ g 10 (60 * d + (12 * i + b)) = nI v) ∧ ∀ b, n ≤ b → b < 12 → g 9 (60 * d + (12 * i + b)) = 0
def y_Bw (o : sl_O) (g : sx_F) : Prop := (∀ d i b k, d < 4 → i < 2 → b < 6 → k < 8 → ∃ h v, h ≤ 2 ∧ v ≤ 60 ∧ y_bt (o 6 (12 * d + (6 * i + b))) (8 * k) 8 = h + 4 * v ∧ g 11 (8 * (60 * d + (12 * i + b)) + k) = nI h ∧ g 12 (8 * (60 * d + (12 * i + b)) + k) = nI v) ∧ ∀ d s k, 4 ≤ d → d < 6 → s < 60 → k < 8 → g 11 (8 * (60 * d + s) + k) = 0
def y_G (a : sx_F) (o : sl_O) (g : sx_F) (S : z_S) : Prop := y_N a o S ∧ y_Vr a g ∧ y_Pp a g ∧ y_Cp a g (S 0 0) ∧ y_K o g (S 0 0) ∧ y_Bw o g
theorem y_N.c2 {a a' : sx_F} {o o' : sl_O} {S : z_S} (h : y_N a o S) (h7 : a' 7 0 = a 7 0) (h3 : a' 3 = a 3) (h1 : a' 1 = a 1) (h0 : o' 0 = o 0) : y_N a' o' S := by
  unfold y_N at h ⊢
  rw [h7, h3, h1, h0]
  exact h
theorem y_Vr.c {a a' g g' : sx_F} (h : y_Vr a g) (h2 : a' 2 = a 2) (h5 : g' 5 = g 5) : y_Vr a' g' := by
  unfold y_Vr at h ⊢
  rw [h2, h5]
  exact h
theorem y_Pp.c {a a' g g' : sx_F} (h : y_Pp a g) (h1 : a' 7 1 = a 7 1) (h2 : a' 7 2 = a 7 2) (g6 : g' 0 6 = g 0 6) (g7 : g' 0 7 = g 0 7) : y_Pp a' g' := by
  unfold y_Pp at h ⊢
  rw [h1, h2, g6, g7]
  exact h
theorem y_Cp.c {a a' g g' : sx_F} {n : Nat} (h : y_Cp a g n) (h3 : a' 7 3 = a 7 3) (h4 : a' 7 4 = a 7 4) (a4 : a' 4 = a 4) (g11 : g' 0 11 = g 0 11) (g12 : g' 0 12 = g 0 12) (g6 : g' 6 = g 6) (g7 : g' 7 = g 7) (g8 : g' 8 = g 8) : y_Cp a' g' n := by
  unfold y_Cp y_C1 at h ⊢
  rw [h3, h4, a4, g11, g12, g6, g7, g8]
  exact h
theorem y_K.c {o o' : sl_O} {g g' : sx_F} {n : Nat} (h : y_K o g n) (h5 : o' 5 = o 5) (g9 : g' 9 = g 9) (g10 : g' 10 = g 10) : y_K o' g' n := by
  unfold y_K at h ⊢
  rw [h5, g9, g10]
  exact h
theorem y_Bw.c {o o' : sl_O} {g g' : sx_F} (h : y_Bw o g) (h6 : o' 6 = o 6) (g11 : g' 11 = g 11) (g12 : g' 12 = g 12) : y_Bw o' g' := by
  unfold y_Bw at h ⊢
  rw [h6, g11, g12]
  exact h
theorem y_rem {z d : Nat} (hz : z < 2 ^ 31) (h0 : 0 < d) (hd : d < 2 ^ 31) : nI z - nI z / nI d * nI d = nI (z % d) := pk_rem hz h0 hd
theorem y_cl0 : (0 : Int32).toNatClampNeg = 0 := rfl
theorem y_cl3 : (3 : Int32).toNatClampNeg = 3 := rfl
theorem y_cl4 : (4 : Int32).toNatClampNeg = 4 := rfl
theorem l_owes {f a g : sx_F} {o : sl_O} {n m i x b : Nat} (V : y_Vr a g) (C : y_C1 a g n i) (hm : m ≤ 6) (hi : i < m) (hx : x < 3) (h6 : g 6 i = nI x) (hb : b < 6) {Q : Int32 → Prop} (h : Q (z_b (z_owm g i x b))) : P_L_owes f a o (nI i) (nI b) Q := by
  obtain ⟨x', hx', c1, c2, c3, c4⟩ := C
  have ex : x = x' := (nI_eq (by omega) (by omega)).mp (h6.symm.trans c2)
  subst ex
  obtain ⟨v, hv, v1, v2⟩ := V x b (by omega) hb
  unfold P_L_owes
  unfold z_owm at h
  rw [y_8, nI_1, nI_clamp (n := 8 * i + 1) (by omega), c3]
  refine ⟨vp_in_nI (by omega) (by omega), fun c => ?_, fun c => ?_⟩
  · rcases c4 with e | ⟨⟨d, hd, e⟩, -⟩
    · rw [decide_eq_false (fun z => z.1 e)] at h; exact h
    · rw [e] at c; exact absurd c (nI_pos (by omega))
  · rcases c4 with e | ⟨⟨d, hd, e⟩, c5⟩
    · rw [e] at c; exact absurd (show (-1 : Int32) < 0 by decide) c
    · obtain ⟨d1, d2, d3⟩ := c5 b hb
      rw [show nI (8 * i) + 2 = nI (8 * i + 2) from nI_add _ 2, nI_add, nI_clamp (n := 8 * i) (by omega), c1, y_cell, nI_clamp (n := 8 * i + 2 + b) (by omega), nI_clamp (n := 6 * x + b) (by omega), d1, v1]
      refine ⟨vp_in_nI (by omega) (by omega), vp_in_nI (by omega) (by omega), vp_in_nI (by omega) (by omega), fun c => ?_, fun c => ?_⟩
      · rw [decide_eq_false (fun z => z.2 (by rw [v2]; exact c))] at h; exact h
      · rw [decide_eq_true ⟨by rw [e]; exact z_nm (by omega), fun z => c (by rw [v2] at z; exact z)⟩] at h; exact h
theorem l_owed {f a g : sx_F} {o : sl_O} {n m i x : Nat} (V : y_Vr a g) (C : y_C1 a g n i) (hm : m ≤ 6) (hi : i < m) (hx : x < 3) (h6 : g 6 i = nI x) (hn : n ≤ 6) (h7 : a 7 0 = nI n) {Q : Int32 → Prop} (h : Q (nI (z_cnt (z_owm g i x) n))) : P_L_owed f a o (nI i) Q := by
  intro B6 B32 h6' h32
  have key : B6 (nI (z_cnt (z_owm g i x) 0)) (nI 0) := by
    refine z_up (B := fun b => B6 (nI (z_cnt (z_owm g i x) b)) (nI b)) n (fun b hb ih => h6' _ _ ⟨y_v05, ?_⟩)
    rw [y_cl0, h7]
    refine pk_le n b (fun c => ?_) (fun c => l_owes V C hm hi hx h6 (by omega) ?_)
    · rw [show b = n by omega]; exact h
    · have i2 : B6 (nI (z_cnt (z_owm g i x) b + (if z_owm g i x b then 1 else 0))) (nI (b + 1)) := ih c
      cases hp : z_owm g i x b
      · rw [hp] at i2
        exact ⟨fun _ => h32 _ _ _ (nm_e (nm_e (by rw [nI_1]; exact (Int32.add_zero _).symm ▸ i2))), fun z => absurd rfl z⟩
      · rw [hp] at i2
        exact ⟨fun z => absurd z (by decide), fun _ => h32 _ _ _ (nm_e (nm_e (by rw [nI_1, nI_1]; exact i2)))⟩
  exact key
theorem l_bowing {f a g : sx_F} {o : sl_O} {d i b k : Nat} (V : y_Vr a g) (B : y_Bw o g) (hd : d < 4) (hi : i < 2) (hb : b < 6) (hk : k < 8) {Q : Int32 → Prop} (h : Q (z_bM g d (12 * i + b) k)) : P_L_bowing f a o (nI d) (nI (6 * i + b)) (nI k) Q := by
  obtain ⟨u, v, hu, hv, e1, e2, e3⟩ := B.1 d i b k hd hi hb hk
  obtain ⟨w, hw, w1, w2⟩ := V i b (by omega) hb
  unfold P_L_bowing
  unfold z_bM at h
  rw [show (12 : Int32) * nI d = nI (12 * d) from pk_mul 12 d, nI_add, nI_clamp (n := 12 * d + (6 * i + b)) (by omega), nI_clamp (n := 6 * i + b) (by omega), y_8, y_get (m := 8) (by omega) (by omega) (by decide), e1, w1]
  refine ⟨vp_in_nI (by omega) (by omega), nm_e ⟨vp_in_nI (by omega) (by omega), ?_⟩⟩
  rw [show nI (u + 4 * v) - nI (u + 4 * v) / 4 * 4 = nI ((u + 4 * v) % 4) from pk_rem (d := 4) (by omega) (by omega) (by omega), show nI (u + 4 * v) / 4 = nI ((u + 4 * v) / 4) from pk_div (d := 4) (by omega) (by omega) (by omega), show (u + 4 * v) / 4 = v by omega, show (u + 4 * v) % 4 = u by omega]
  rw [e2, e3, w2] at h
  refine ⟨fun c => ?_, fun c => ?_⟩
  · rw [if_pos c] at h; exact h
  · rw [if_neg c] at h; exact h
theorem y_cnt_fl {p : Nat → Bool} {a : Nat} : ∀ c, a ≤ c → (∀ j, a ≤ j → j < c → p j = false) → z_cnt p c = z_cnt p a
  | 0, h, _ => by rw [show a = 0 by omega]
  | c + 1, h, hp => by
    by_cases e : a = c + 1
    · rw [e]
    · have ih := y_cnt_fl (p := p) (a := a) c (by omega) (fun j h1 h2 => hp j h1 (by omega))
      show z_cnt p c + (if p c then 1 else 0) = _
      rw [hp c (by omega) (by omega), ih]
      rfl
theorem y_sm_add {A B : Nat → Nat} : ∀ n, z_sm (fun b => A b + B b) n = z_sm A n + z_sm B n
  | 0 => rfl
  | n + 1 => by
    show z_sm (fun b => A b + B b) n + (A n + B n) = (z_sm A n + A n) + (z_sm B n + B n)
    rw [y_sm_add n]
    omega
theorem y_sm_z {A : Nat → Nat} : ∀ n, (∀ b, b < n → A b = 0) → z_sm A n = 0
  | 0, _ => rfl
  | n + 1, h => by
    show z_sm A n + A n = 0
    rw [y_sm_z n (fun b hb => h b (by omega)), h n (by omega)]
theorem y_cl_le {g : sx_F} {st s k : Nat} : z_cl g st s k ≤ 1 := by
  unfold z_cl
  split <;> omega
theorem y_sm_le {A : Nat → Nat} {c : Nat} (h : ∀ b, A b ≤ c) : ∀ n, z_sm A n ≤ c * n
  | 0 => Nat.zero_le _
  | n + 1 => by
    show z_sm A n + A n ≤ c * (n + 1)
    have := y_sm_le h n
    have := h n
    rw [Nat.mul_succ]
    omega
theorem y_clp {a b : Nat} (ha : a ≤ 2) (hb : b ≤ 2) : (nI a * nI b = 2) ↔ (¬ nI a = 0 ∧ ¬ nI b = 0 ∧ ¬ nI a = nI b) := by
  rw [pk_mul]
  rcases (show a = 0 ∨ a = 1 ∨ a = 2 by omega) with rfl | rfl | rfl <;> rcases (show b = 0 ∨ b = 1 ∨ b = 2 by omega) with rfl | rfl | rfl <;> decide
