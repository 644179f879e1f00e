abbrev z_S : Type := Nat → Nat → Nat
def z_fl (S : z_S) (s : Nat) : Nat → Nat | 0 => 0 | k + 1 => z_fl S s k + S 3 (8 * s + k)
def z_tm (S : z_S) : Nat → Nat | 0 => 0 | k + 1 => z_tm S k + S 1 k
def z_b (p : Bool) : Int32 := if p then 1 else 0
def z_sk (S : z_S) (s k : Nat) : Bool := decide (∀ j, j < k → S 4 (8 * s + j) = 0)
def z_sil (S : z_S) (s : Nat) : Bool := z_sk S s (S 2 s)
def z_X (f : sx_F) (S : z_S) : Prop := f 1 0 = nI (S 0 0) ∧ (∀ k, k < 12 → f 2 k = nI (S 1 k)) ∧ (∀ s, s < 60 → f 5 s = nI (S 2 s)) ∧ (∀ j, j < 480 → f 6 j = nI (S 3 j)) ∧ (∀ j, j < 480 → f 7 j = nI (S 4 j))
def z_M (g : sx_F) (S : z_S) : Prop := g 0 5 = nI (S 0 0) ∧ (∀ k, k < 12 → g 1 k = nI (S 1 k)) ∧ (∀ s, s < 60 → g 4 s = nI (S 2 s)) ∧ (∀ j, j < 480 → g 2 j = nI (S 3 j)) ∧ (∀ j, j < 480 → g 3 j = nI (S 4 j))
def z_W (S : z_S) : Prop := S 0 0 ≤ 12 ∧ (∀ k, k < S 0 0 → 1 ≤ S 1 k ∧ S 1 k ≤ 32) ∧ (∀ s, s < 60 → S 2 s ≤ 8) ∧ (∀ j, j < 480 → S 3 j ≤ 32 ∧ S 4 j ≤ 60) ∧ (∀ s k, s < 60 → k < S 2 s → 1 ≤ S 3 (8 * s + k)) ∧ (∀ i b, i < 5 → b < S 0 0 → z_fl S (12 * i + b) (S 2 (12 * i + b)) ≤ S 1 b) ∧ (∀ i b, i < 5 → b < 12 → S 0 0 ≤ b → S 2 (12 * i + b) = 0)
theorem z_Xc {f f' : sx_F} {S : z_S} (Z : z_X f S) (h1 : f' 1 = f 1) (h2 : f' 2 = f 2) (h5 : f' 5 = f 5) (h6 : f' 6 = f 6) (h7 : f' 7 = f 7) : z_X f' S := by
  unfold z_X
  rw [h1, h2, h5, h6, h7]
  exact Z
theorem z_Xu {f : sx_F} {S : z_S} {k j : Nat} {v : Int32} (Z : z_X f S) (h : 1 ≠ k ∧ 2 ≠ k ∧ 5 ≠ k ∧ 6 ≠ k ∧ 7 ≠ k) : z_X (sx_u f k j v) S :=
  z_Xc Z (sx_u_n h.1) (sx_u_n h.2.1) (sx_u_n h.2.2.1) (sx_u_n h.2.2.2.1) (sx_u_n h.2.2.2.2)
theorem z_l0 : (0 : Int32) = nI 0 := rfl
theorem z_l1 : (1 : Int32) = nI 1 := rfl
theorem z_l2 : (2 : Int32) = nI 2 := rfl
theorem z_l3 : (3 : Int32) = nI 3 := rfl
theorem z_l4 : (4 : Int32) = nI 4 := rfl
theorem z_l5 : (5 : Int32) = nI 5 := rfl
theorem z_l6 : (6 : Int32) = nI 6 := rfl
theorem z_l8 : (8 : Int32) = nI 8 := rfl
theorem z_l9 : (9 : Int32) = nI 9 := rfl
theorem z_l12 : (12 : Int32) = nI 12 := rfl
theorem z_l16 : (16 : Int32) = nI 16 := rfl
theorem z_l32 : (32 : Int32) = nI 32 := rfl
theorem z_l60 : (60 : Int32) = nI 60 := rfl
theorem z_vin {n N : Nat} (h : n < N) (hN : N < 2 ^ 31) : vp_in (nI n) N ↔ True := ⟨fun _ => trivial, fun _ => vp_in_nI h hN⟩
theorem z_slot (i b : Nat) : nI i * 12 + nI b = nI (12 * i + b) := by
  rw [z_l12, pk_mul, nI_add, Nat.mul_comm]
theorem z_cell (i b : Nat) : 12 * nI i + nI b = nI (12 * i + b) := by
  rw [z_l12, pk_mul, nI_add]
theorem z_at (s k : Nat) : nI s * 8 + nI k = nI (8 * s + k) := by
  rw [z_l8, pk_mul, nI_add, Nat.mul_comm]
theorem z_at' (s k : Nat) : 8 * nI s + nI k = nI (8 * s + k) := by
  rw [z_l8, pk_mul, nI_add]
theorem z_up {B : Nat → Prop} (N : Nat) (h : ∀ i, i ≤ N → (i < N → B (i + 1)) → B i) : B 0 := by
  have k : ∀ d i, i + d = N → B i := by
    intro d
    induction d with
    | zero => intro i hi; exact h i (by omega) (fun c => absurd c (by omega))
    | succ d ih => intro i hi; exact h i (by omega) (fun _ => ih (i + 1) (by omega))
  exact k N 0 (by omega)
theorem x_slotOf {f : sx_F} {i b : Nat} {Q : Int32 → Prop} (h : Q (nI (12 * i + b))) : P_X6_slotOf f (nI i) (nI b) Q := by
  unfold P_X6_slotOf
  rw [z_slot]
  exact h
theorem x_pitchAt {f : sx_F} {S : z_S} (Z : z_X f S) {s k : Nat} (hs : s < 60) (hk : k < 8) {Q : Int32 → Prop} (h : Q (nI (S 4 (8 * s + k)))) : P_X4_pitchAt f (nI s) (nI k) Q := by
  unfold P_X4_pitchAt
  rw [z_at, nI_clamp (by omega), Z.2.2.2.2 _ (by omega)]
  exact ⟨vp_in_nI (by omega) (by omega), h⟩
theorem x_lengthAt {f : sx_F} {S : z_S} (Z : z_X f S) {s k : Nat} (hs : s < 60) (hk : k < 8) {Q : Int32 → Prop} (h : Q (nI (S 3 (8 * s + k)))) : P_X4_lengthAt f (nI s) (nI k) Q := by
  unfold P_X4_lengthAt
  rw [z_at, nI_clamp (by omega), Z.2.2.2.1 _ (by omega)]
  exact ⟨vp_in_nI (by omega) (by omega), h⟩
theorem x_filled {f : sx_F} {S : z_S} (Z : z_X f S) (W : z_W S) {s : Nat} (hs : s < 60) {Q : Int32 → Prop} (h : Q (nI (z_fl S s (S 2 s)))) : P_X4_filled f (nI s) Q := by
  intro B hB
  have hc := W.2.2.1 s hs
  refine z_up (B := fun k => B (nI (z_fl S s k)) (nI k)) (S 2 s) (fun k hk ih => hB _ _ ⟨vp_in_nI (by omega) (by omega), ?_⟩)
  rw [nI_clamp (by omega), Z.2.2.1 s hs]
  refine pk_le (S 2 s) k (fun c => ?_) (fun c => x_lengthAt Z hs (by omega) (nm_e (nm_e ?_)))
  · have e : k = S 2 s := by omega
    rw [e]; exact h
  · rw [nI_add, nI_1]
    exact ih c
theorem x_isSilent {f : sx_F} {S : z_S} (Z : z_X f S) (W : z_W S) {i b : Nat} (hi : i < 5) (hb : b < 12) {Q : Int32 → Prop} (h : Q (z_b (z_sil S (12 * i + b)))) : P_X4_isSilent f (nI i) (nI b) Q := by
  intro B hB
  refine x_slotOf ?_
  have hs : 12 * i + b < 60 := by omega
  generalize 12 * i + b = s at hs h
  have hc := W.2.2.1 s hs
  have key : (∀ k, k < 0 → S 4 (8 * s + k) = 0) → B (nI s) (nI 0) := by
    refine z_up (B := fun k => (∀ j, j < k → S 4 (8 * s + j) = 0) → B (nI s) (nI k)) (S 2 s) (fun k hk ih => ?_)
    intro h0
    refine hB _ _ ⟨vp_in_nI (by omega) (by omega), ?_⟩
    rw [nI_clamp (by omega), Z.2.2.1 s hs]
    refine pk_le (S 2 s) k (fun c => ?_) (fun c => x_pitchAt Z hs (by omega) ?_)
    · have e : z_sil S s = true := decide_eq_true (fun j hj => h0 j (by omega))
      rw [e] at h; exact h
    · have hp := (W.2.2.2.1 (8 * s + k) (by omega)).2
      refine pk_le (S 4 (8 * s + k)) 0 (fun c1 => nm_e ?_) (fun c1 => ?_)
      · rw [nI_1]
        refine ih c (fun j hj => ?_)
        by_cases e : j = k
        · subst e; omega
        · exact h0 j (by omega)
      · have e : z_sil S s = false := decide_eq_false (fun z => by have := z k c; omega)
        rw [e] at h; exact h
  exact key (fun k hk => absurd hk (by omega))
theorem x_countTime {f : sx_F} {S : z_S} (Z : z_X f S) (W : z_W S) {b : Nat} (hb : b ≤ S 0 0) {Q : Int32 → Prop} (h : Q (nI (z_tm S b))) : P_X4_countTime f (nI b) Q := by
  intro B hB
  have hn := W.1
  refine z_up (B := fun k => B (nI (z_tm S k)) (nI k)) b (fun k hk ih => hB _ _ ?_)
  refine pk_le b k (fun c => ?_) (fun c => ⟨vp_in_nI (by omega) (by omega), nm_e (nm_e ?_)⟩)
  · have e : k = b := by omega
    rw [e]; exact h
  · rw [nI_clamp (by omega), Z.2.1 k (by omega), nI_add, nI_1]
    exact ih c
theorem x_needIndex_f {f : sx_F} {x c : Int32} {Q : Prop} {X : String → Prop} (h : x < 0 ∨ c ≤ x) (hX : X "java/lang/IndexOutOfBoundsException") : P_X6_needIndex f x c Q X := by
  intro B hB
  refine ⟨fun _ => hB hX, fun c1 => ⟨fun c2 => ?_, fun _ => hB hX⟩⟩
  rcases h with h | h
  · exact absurd h c1
  · exact absurd c2 (Int32.not_lt.mpr h)
theorem x_needIndex_t {f : sx_F} {j n : Nat} {Q : Prop} {X : String → Prop} (h : j < n) (hn : n < 2 ^ 31) (hQ : Q) : P_X6_needIndex f (nI j) (nI n) Q X := by
  intro B hB
  exact ⟨fun c => absurd c (nI_pos (by omega)), fun _ => ⟨fun _ => hQ, fun c => absurd (nI_lt h hn) c⟩⟩
theorem x_needValue_f {f : sx_F} {x a c : Int32} {Q : Prop} {X : String → Prop} (h : x < a ∨ c < x) (hX : X "java/lang/IllegalArgumentException") : P_X6_needValue f x a c Q X := by
  intro B hB
  refine ⟨fun _ => hB hX, fun c1 => ⟨fun c2 => ?_, fun _ => hB hX⟩⟩
  rcases h with h | h
  · exact absurd h c1
  · exact absurd c2 (Int32.not_le.mpr h)
theorem x_needValue_t {f : sx_F} {x a c : Int32} {Q : Prop} {X : String → Prop} (h1 : ¬ x < a) (h2 : ¬ c < x) (hQ : Q) : P_X6_needValue f x a c Q X := by
  intro B hB
  exact ⟨fun c => absurd c h1, fun _ => ⟨fun _ => hQ, fun c => absurd (Int32.not_lt.mp h2) c⟩⟩
theorem x_needSlot_f {f : sx_F} {S : z_S} (Z : z_X f S) {x y : Int32} {Q : Int32 → Prop} {X : String → Prop} (h : (x < 0 ∨ 5 ≤ x) ∨ (y < 0 ∨ nI (S 0 0) ≤ y)) (hX : X "java/lang/IndexOutOfBoundsException") : P_X6_needSlot f x y Q X := by
  unfold P_X6_needSlot
  rcases pk_ix x (n := 5) (by omega) with h1 | h1 | ⟨j, hj, rfl⟩
  · exact x_needIndex_f (Or.inl h1) hX
  · exact x_needIndex_f (Or.inr h1) hX
  · refine x_needIndex_t (n := 5) hj (by omega) (x_needIndex_f ?_ hX)
    rcases h with h | h
    · rcases h with h | h
      · exact absurd h (nI_pos (by omega))
      · exact absurd h (nI_ge (a := j) (b := 5) hj (by omega))
    · rw [Z.1]; exact h
theorem x_needSlot_t {f : sx_F} {S : z_S} (Z : z_X f S) (W : z_W S) {i b : Nat} (hi : i < 5) (hb : b < S 0 0) {Q : Int32 → Prop} {X : String → Prop} (hQ : Q (nI (12 * i + b))) : P_X6_needSlot f (nI i) (nI b) Q X := by
  unfold P_X6_needSlot
  have := W.1
  refine x_needIndex_t (n := 5) hi (by omega) ?_
  rw [Z.1]
  exact x_needIndex_t hb (by omega) (x_slotOf hQ)
theorem z_pair (x y : Int32) {a n : Nat} (ha : a < 2 ^ 31) (hn : n < 2 ^ 31) : ((x < 0 ∨ nI a ≤ x) ∨ (y < 0 ∨ nI n ≤ y)) ∨ ∃ i b : Nat, i < a ∧ b < n ∧ x = nI i ∧ y = nI b := by
  rcases pk_ix x ha with h | h | ⟨i, hi, rfl⟩
  · exact Or.inl (Or.inl (Or.inl h))
  · exact Or.inl (Or.inl (Or.inr h))
  · rcases pk_ix y hn with h | h | ⟨b, hb, rfl⟩
    · exact Or.inl (Or.inr (Or.inl h))
    · exact Or.inl (Or.inr (Or.inr h))
    · exact Or.inr ⟨i, b, hi, hb, rfl, rfl⟩
theorem z_b_cases (p : Bool) : z_b p = 0 ∨ z_b p = 1 := by cases p <;> simp [z_b]
theorem z_pred (x : Int32) {n : Nat} (hn : n < 2 ^ 30) : nI n - 1 < x ↔ nI n ≤ x := by
  rw [Int32.lt_iff_toInt_lt, Int32.le_iff_toInt_le, z_l1, pk_sub_toInt hn (by omega), nI_toInt (by omega)]
  omega
theorem z_no {x : Int32} {n : Nat} (h : x < 0 ∨ nI n ≤ x) : decide (¬ x < 0 ∧ ¬ nI n ≤ x) = false := decide_eq_false (fun z => h.elim z.1 z.2)
theorem z_yes {j n : Nat} (h : j < n) (hn : n < 2 ^ 31) : decide (¬ nI j < 0 ∧ ¬ nI n ≤ nI j) = true := decide_eq_true ⟨nI_pos (by omega), nI_ge h hn⟩
def z_T (f : sx_F) (S : z_S) : Prop := ∀ k, k ≤ S 0 0 → f 3 k = nI (z_tm S k)
def z_V (t : Nat) (f g : sx_F) : Prop := ∀ s, s < 60 → f 4 s = g 5 s ∧ ∃ v, v ≤ t ∧ g 5 s = nI v
def z_P (f g : sx_F) : Prop := ∃ w q, 80 ≤ w ∧ w ≤ 500 ∧ 1 ≤ q ∧ q ≤ 6 ∧ f 19 1 = nI w ∧ g 0 6 = nI w ∧ f 19 2 = nI q ∧ g 0 7 = nI q ∧ f 11 0 = 0 ∧ f 12 0 = 0 ∧ f 17 0 = 0 ∧ f 18 0 = 0
def z_C1 (f g : sx_F) (i : Nat) : Prop := (∃ a, a < 5 ∧ f (66 + 2 * i) 1 = nI a ∧ g 6 i = nI a) ∧ f (66 + 2 * i) 2 = g 7 i ∧ (g 7 i = -1 ∨ ((∃ d, d < 6 ∧ g 7 i = nI d) ∧ ∀ k, k < 12 → f (66 + 2 * i + 1) k = g 8 (12 * i + k)))
def z_C (f g : sx_F) : Prop := ∃ m, m ≤ 16 ∧ f 0 5 = nI m ∧ g 0 11 = nI m ∧ (∀ i, i < m → z_C1 f g i) ∧ ∀ i, m ≤ i → i < 16 → f (66 + 2 * i) 2 = -1
def z_bit (x : Int32) (k : Nat) : Int32 := (x >>> ((2 * nI k) &&& 31)) &&& 3
def z_D1 (f g : sx_F) (d s : Nat) : Prop := (∃ a, a ≤ 9 ∧ f (99 + 5 * d + 1) s = nI a ∧ g 9 (60 * d + s) = nI a) ∧ f (99 + 5 * d + 2) s = g 10 (60 * d + s)
def z_D2 (t : Nat) (f g : sx_F) (d s : Nat) : Prop := ∃ e v, e ≤ v ∧ v ≤ t ∧ f (99 + 5 * d + 4) s = nI e ∧ g 5 s = nI v ∧ ∀ k, k < 8 → ∃ a c, a ≤ 2 ∧ c ≤ v ∧ g 11 (8 * (60 * d + s) + k) = nI a ∧ g 12 (8 * (60 * d + s) + k) = nI c ∧ (if e = v then z_bit (f (99 + 5 * d + 3) s) k else 0) = (if c = v then nI a else 0)
def z_D (t : Nat) (f g : sx_F) : Prop := ∀ d s, d < 6 → s < 60 → z_D1 f g d s ∧ z_D2 t f g d s
def z_R (t : Nat) (f g : sx_F) (S : z_S) : Prop := z_X f S ∧ z_M g S ∧ z_W S ∧ z_T f S ∧ z_V t f g ∧ z_P f g ∧ z_C f g ∧ f 0 6 = g 0 12 ∧ z_D t f g
def z_I (t : Nat) (f g : sx_F) : Prop := ∃ S, z_R t f g S
def z_fx (f f' : sx_F) : Prop := (∀ k, (k ≤ 7 ∨ 66 ≤ k) → f' k = f k) ∧ (∀ k j, (k = 19 ∧ (j = 1 ∨ j = 2)) ∨ (j = 0 ∧ (k = 11 ∨ k = 12 ∨ k = 17 ∨ k = 18)) → f' k j = f k j)
def z_gx (g g' : sx_F) : Prop := (∀ k, (1 ≤ k ∧ k ≤ 12) → g' k = g k) ∧ (∀ j, (j = 5 ∨ j = 6 ∨ j = 7 ∨ j = 11 ∨ j = 12) → g' 0 j = g 0 j)
theorem z_R.fx {t : Nat} {f g f' g' : sx_F} {S : z_S} (R : z_R t f g S) (hf : z_fx f f') (hg : z_gx g g') : z_R t f' g' S := by
  unfold z_R z_X z_M z_T z_V z_P z_C z_C1 z_D z_D1 z_D2 at R ⊢
  simp (disch := omega) only [hf.1, hf.2, hg.1, hg.2]
  exact R
theorem z_R.mono {t : Nat} {f g : sx_F} {S : z_S} (R : z_R t f g S) : z_R (t + 1) f g S := by
  refine ⟨R.1, R.2.1, R.2.2.1, R.2.2.2.1, fun s hs => ?_, R.2.2.2.2.2.1, R.2.2.2.2.2.2.1, R.2.2.2.2.2.2.2.1, fun d s hd hs => ?_⟩
  · obtain ⟨h1, v, hv, h2⟩ := R.2.2.2.2.1 s hs
    exact ⟨h1, v, by omega, h2⟩
  · obtain ⟨h1, e, v, he, hv, h2⟩ := R.2.2.2.2.2.2.2.2 d s hd hs
    exact ⟨h1, e, v, he, by omega, h2⟩
theorem z_fx.refl (f : sx_F) : z_fx f f := ⟨fun _ _ => rfl, fun _ _ _ => rfl⟩
theorem z_gx.refl (f : sx_F) : z_gx f f := ⟨fun _ _ => rfl, fun _ _ => rfl⟩
theorem z_gx.trans {f g h : sx_F} (a : z_gx f g) (b : z_gx g h) : z_gx f h := ⟨fun k hk => (b.1 k hk).trans (a.1 k hk), fun k hk => (b.2 k hk).trans (a.2 k hk)⟩
theorem z_fx.trans {f g h : sx_F} (a : z_fx f g) (b : z_fx g h) : z_fx f h := ⟨fun k hk => (b.1 k hk).trans (a.1 k hk), fun k j h => (b.2 k j h).trans (a.2 k j h)⟩
theorem z_gx.u {g g' : sx_F} {k j : Nat} {v : Int32} (h : z_gx g g') (hk : 13 ≤ k ∨ (k = 0 ∧ ¬ (j = 5 ∨ j = 6 ∨ j = 7 ∨ j = 11 ∨ j = 12))) : z_gx g (sx_u g' k j v) := by
  refine ⟨fun i hi => ?_, fun i hi => ?_⟩
  · rw [sx_u_n (by omega)]
    exact h.1 i hi
  · rcases hk with hk | ⟨rfl, hk⟩
    · rw [sx_u_n (by omega)]
      exact h.2 i hi
    · rw [sx_u_s, pk_un (by intro e; subst e; exact hk hi)]
      exact h.2 i hi
theorem z_fx.u {f f' : sx_F} {k j : Nat} {v : Int32} (h : z_fx f f') (hk : 8 ≤ k ∧ k ≤ 65 ∧ ¬ ((k = 19 ∧ (j = 1 ∨ j = 2)) ∨ (j = 0 ∧ (k = 11 ∨ k = 12 ∨ k = 17 ∨ k = 18)))) : z_fx f (sx_u f' k j v) := by
  refine ⟨fun i hi => ?_, fun i x hi => ?_⟩
  · rw [sx_u_n (by omega)]
    exact h.1 i hi
  · by_cases e : i = k
    · subst e
      rw [sx_u_s, pk_un (fun e => hk.2.2 (by subst e; exact hi))]
      exact h.2 i x hi
    · rw [sx_u_n e]
      exact h.2 i x hi
theorem z_gx.go (g : sx_F) (c : Int32) : z_gx g (sx_u g 0 33 c) := z_gx.u (z_gx.refl g) (Or.inr ⟨rfl, by decide⟩)
theorem z_I.same {t : Nat} {f g f' g' : sx_F} (h : z_I t f g) (hf : z_fx f f') (hg : z_gx g g') : z_I (t + 1) f' g' := by
  obtain ⟨S, R⟩ := h
  exact ⟨S, (R.fx hf hg).mono⟩
theorem z_I.go {t : Nat} {f g : sx_F} (h : z_I t f g) (c : Int32) : z_I (t + 1) f (sx_u g 0 33 c) := h.same (z_fx.refl f) (z_gx.go g c)
theorem z_M.gx {g g' : sx_F} {S : z_S} (h : z_M g S) (hg : z_gx g g') : z_M g' S := by
  unfold z_M at h ⊢
  simp (disch := omega) only [hg.1, hg.2]
  exact h
theorem z_X.fx {f f' : sx_F} {S : z_S} (h : z_X f S) (hf : z_fx f f') : z_X f' S := by
  unfold z_X at h ⊢
  simp (disch := omega) only [hf.1]
  exact h
theorem z_33 {g : sx_F} {c : Int32} : (sx_u g 0 33 c) 0 33 = c := by rw [sx_u_s, pk_us]
def z_u (S : z_S) (k j v : Nat) : z_S := fun i x => if i = k ∧ x = j then v else S i x
theorem z_us {S : z_S} {k j v : Nat} : z_u S k j v k j = v := if_pos ⟨rfl, rfl⟩
theorem z_un {S : z_S} {k j v i x : Nat} (h : i ≠ k ∨ x ≠ j) : z_u S k j v i x = S i x := if_neg (fun z => h.elim (fun a => a z.1) (fun a => a z.2))
theorem z_fl_c {S S' : z_S} {s : Nat} : ∀ k, (∀ j, j < k → S' 3 (8 * s + j) = S 3 (8 * s + j)) → z_fl S' s k = z_fl S s k
  | 0, _ => rfl
  | k + 1, h => by
    unfold z_fl
    rw [z_fl_c k (fun j hj => h j (by omega)), h k (by omega)]
theorem z_tm_c {S S' : z_S} : ∀ k, (∀ j, j < k → S' 1 j = S 1 j) → z_tm S' k = z_tm S k
  | 0, _ => rfl
  | k + 1, h => by
    unfold z_tm
    rw [z_tm_c k (fun j hj => h j (by omega)), h k (by omega)]
theorem z_C.sc {f g f' g' : sx_F} (h : z_C f g) (h1 : ∀ k, 66 ≤ k → f' k = f k) (h2 : f' 0 5 = f 0 5) (h3 : g' 0 11 = g 0 11) (h4 : g' 6 = g 6) (h5 : g' 7 = g 7) (h6 : g' 8 = g 8) : z_C f' g' := by
  unfold z_C z_C1 at h ⊢
  simp (disch := omega) only [h1, h2, h3, h4, h5, h6]
  exact h
theorem z_D.sc {t : Nat} {f g f' g' : sx_F} (h : z_D t f g) (h1 : ∀ k, 66 ≤ k → f' k = f k) (h3 : g' 5 = g 5) (h4 : g' 9 = g 9) (h5 : g' 10 = g 10) (h6 : g' 11 = g 11) (h7 : g' 12 = g 12) : z_D t f' g' := by
  unfold z_D z_D1 z_D2 at h ⊢
  simp (disch := omega) only [h1, h3, h4, h5, h6, h7]
  exact h
theorem z_D.ver {t : Nat} {f g f' g' : sx_F} {s0 : Nat} {x : Int32} (hs0 : s0 < 60) (ht : t < 1000000) (h : z_D t f g) (h1 : ∀ k, 66 ≤ k → f' k = f k) (h3 : g' 5 = upd (g 5) s0 (g 5 s0 + 1)) (h4 : g' 9 = g 9) (h5 : g' 10 = g 10) (h6 : g' 11 = g 11) (h7 : g' 12 = g 12) : z_D (t + 1) f' g' := by
  intro d s hd hs
  obtain ⟨a1, e, v, he, hv, b1, b2, b3⟩ := h d s hd hs
  refine ⟨?_, ?_⟩
  · unfold z_D1 at a1 ⊢
    simp (disch := omega) only [h1, h4, h5]
    exact a1
  · unfold z_D2
    simp (disch := omega) only [h1, h3, h6, h7]
    by_cases c : s = s0
    · subst c
      refine ⟨e, v + 1, by omega, by omega, b1, by rw [pk_us, b2, nI_1], fun k hk => ?_⟩
      obtain ⟨a, c, e1, e2, e3, e4, e5⟩ := b3 k hk
      exact ⟨a, c, e1, by omega, e3, e4, by rw [if_neg (by omega), if_neg (by omega)]⟩
    · exact ⟨e, v, he, by omega, b1, by rw [pk_un c]; exact b2, b3⟩
theorem z_V.ver {t : Nat} {f g f' g' : sx_F} {s0 : Nat} (hs0 : s0 < 60) (h : z_V t f g) (h1 : f' 4 = upd (f 4) s0 (f 4 s0 + 1)) (h3 : g' 5 = upd (g 5) s0 (g 5 s0 + 1)) : z_V (t + 1) f' g' := by
  intro s hs
  obtain ⟨a1, v, hv, a2⟩ := h s hs
  rw [h1, h3]
  by_cases c : s = s0
  · subst c
    rw [pk_us, pk_us, a1]
    exact ⟨rfl, v + 1, by omega, by rw [a2, nI_1]⟩
  · rw [pk_un c, pk_un c]
    exact ⟨a1, v, by omega, a2⟩
theorem z_un1 {S : z_S} {k j v i x : Nat} (h : i ≠ k) : z_u S k j v i x = S i x := z_un (Or.inl h)
theorem z_R.sc {t : Nat} {f g f' g' : sx_F} {S S' : z_S} (ht : t < 1000000) (R : z_R t f g S) (X' : z_X f' S') (M' : z_M g' S') (W' : z_W S') (h0 : S' 0 0 = S 0 0) (h1 : ∀ k, S' 1 k = S 1 k) (hf : ∀ k, (k ≤ 3 ∨ 8 ≤ k) → f' k = f k) (hg : ∀ k, (6 ≤ k ∧ k ≤ 12) → g' k = g k) (hg0 : ∀ j, j ≠ 33 → g' 0 j = g 0 j) (d : Nat → Nat) (hv : ∀ s, s < 60 → d s ≤ 1 ∧ f' 4 s = f 4 s + nI (d s) ∧ g' 5 s = g 5 s + nI (d s)) : z_R (t + 1) f' g' S' := by
  refine ⟨X', M', W', fun k hk => ?_, fun s hs => ?_, ?_, ?_, ?_, fun q s hq hs => ⟨?_, ?_⟩⟩
  · rw [h0] at hk
    rw [hf 3 (by decide), z_tm_c (S := S) (S' := S') k (fun j _ => h1 j)]
    exact R.2.2.2.1 k hk
  · obtain ⟨d1, d2, d3⟩ := hv s hs
    obtain ⟨a1, v, hv, a2⟩ := R.2.2.2.2.1 s hs
    rw [d2, d3, a1]
    exact ⟨rfl, v + d s, by omega, by rw [a2, nI_add]⟩
  · obtain ⟨w, q, a⟩ := R.2.2.2.2.2.1
    refine ⟨w, q, ?_⟩
    rw [hf 19 (by decide), hg0 6 (by decide), hg0 7 (by decide), hf 11 (by decide), hf 12 (by decide), hf 17 (by decide), hf 18 (by decide)]
    exact a
  · exact R.2.2.2.2.2.2.1.sc (fun k hk => hf k (by omega)) (by rw [hf 0 (by decide)]) (hg0 11 (by decide)) (hg 6 (by decide)) (hg 7 (by decide)) (hg 8 (by decide))
  · rw [hf 0 (by decide), hg0 12 (by decide)]
    exact R.2.2.2.2.2.2.2.1
  · have a1 := (R.2.2.2.2.2.2.2.2 q s hq hs).1
    unfold z_D1 at a1 ⊢
    rw [hf _ (by omega), hf _ (by omega), hg 9 (by decide), hg 10 (by decide)]
    exact a1
  · obtain ⟨e, v, he, hve, b1, b2, b3⟩ := (R.2.2.2.2.2.2.2.2 q s hq hs).2
    obtain ⟨d1, d2, d3⟩ := hv s hs
    refine ⟨e, v + d s, by omega, by omega, by rw [hf _ (by omega)]; exact b1, by rw [d3, b2, nI_add], fun k hk => ?_⟩
    obtain ⟨a, c, e1, e2, e3, e4, e5⟩ := b3 k hk
    rw [hf _ (by omega), hg 11 (by decide), hg 12 (by decide)]
    refine ⟨a, c, e1, by omega, e3, e4, ?_⟩
    by_cases z : d s = 0
    · rw [z]
      exact e5
    · rw [if_neg (by omega), if_neg (by omega)]
theorem z_W.n12 {S : z_S} (W : z_W S) : S 0 0 ≤ 12 := W.1
theorem z_fl_le {S : z_S} (s : Nat) : ∀ {a b : Nat}, a ≤ b → z_fl S s a ≤ z_fl S s b := by
  intro a b h
  induction b with
  | zero => rw [show a = 0 by omega]; exact Nat.le_refl _
  | succ b ih =>
    by_cases e : a = b + 1
    · rw [e]; exact Nat.le_refl _
    · exact Nat.le_trans (ih (by omega)) (Nat.le_add_right _ _)
theorem z_W.note {S : z_S} {i b l p : Nat} (W : z_W S) (hi : i < 5) (hb : b < S 0 0) (hc : S 2 (12 * i + b) < 8) (hl : 1 ≤ l ∧ l ≤ 32) (hp : p ≤ 60) (hf : z_fl S (12 * i + b) (S 2 (12 * i + b)) + l ≤ S 1 b) : z_W (z_u (z_u (z_u S 3 (8 * (12 * i + b) + S 2 (12 * i + b)) l) 4 (8 * (12 * i + b) + S 2 (12 * i + b)) p) 2 (12 * i + b) (S 2 (12 * i + b) + 1)) := by
  have hn := W.1
  generalize hs : 12 * i + b = s at hc hf ⊢
  generalize hcc : S 2 s = c at hc hf ⊢
  generalize hT : z_u (z_u (z_u S 3 (8 * s + c) l) 4 (8 * s + c) p) 2 s (c + 1) = T
  have t0 : ∀ x, T 0 x = S 0 x := fun x => by rw [← hT, z_un1 (by decide), z_un1 (by decide), z_un1 (by decide)]
  have t1 : ∀ x, T 1 x = S 1 x := fun x => by rw [← hT, z_un1 (by decide), z_un1 (by decide), z_un1 (by decide)]
  have t2s : T 2 s = c + 1 := by rw [← hT, z_us]
  have t2 : ∀ x, x ≠ s → T 2 x = S 2 x := fun x hx => by rw [← hT, z_un (Or.inr hx), z_un1 (by decide), z_un1 (by decide)]
  have t3s : T 3 (8 * s + c) = l := by rw [← hT, z_un1 (by decide), z_un1 (by decide), z_us]
  have t3 : ∀ x, x ≠ 8 * s + c → T 3 x = S 3 x := fun x hx => by rw [← hT, z_un1 (by decide), z_un1 (by decide), z_un (Or.inr hx)]
  have t4s : T 4 (8 * s + c) = p := by rw [← hT, z_un1 (by decide), z_us]
  have t4 : ∀ x, x ≠ 8 * s + c → T 4 x = S 4 x := fun x hx => by rw [← hT, z_un1 (by decide), z_un (Or.inr hx), z_un1 (by decide)]
  refine ⟨by rw [t0]; exact hn, fun k hk => ?_, fun x hx => ?_, fun x hx => ?_, fun x k hx hk => ?_, fun i' b' hi' hb' => ?_, fun i' b' hi' hb' hb2 => ?_⟩
  · rw [t1]; rw [t0] at hk; exact W.2.1 k hk
  · by_cases e : x = s
    · rw [e, t2s]; omega
    · rw [t2 x e]; exact W.2.2.1 x hx
  · have a := W.2.2.2.1 x hx
    by_cases e : x = 8 * s + c
    · rw [e, t3s, t4s]; omega
    · rw [t3 x e, t4 x e]; exact a
  · by_cases e : x = s
    · rw [e, t2s] at hk
      rw [e]
      by_cases e2 : k = c
      · rw [e2, t3s]; exact hl.1
      · rw [t3 _ (by omega)]; exact W.2.2.2.2.1 s k (by omega) (by omega)
    · rw [t2 x e] at hk
      have := W.2.2.1 x hx
      rw [t3 _ (by omega)]; exact W.2.2.2.2.1 x k hx hk
  · rw [t0] at hb'
    rw [t1]
    by_cases e : 12 * i' + b' = s
    · have eb : b' = b := by omega
      rw [e, t2s, eb]
      show z_fl T s c + T 3 (8 * s + c) ≤ _
      rw [t3s, z_fl_c (S := S) (S' := T) c (fun j hj => t3 _ (by omega))]
      exact hf
    · rw [t2 _ e]
      have := W.2.2.1 (12 * i' + b') (by omega)
      rw [z_fl_c (S := S) (S' := T) _ (fun j hj => t3 _ (by omega))]
      exact W.2.2.2.2.2.1 i' b' hi' hb'
  · rw [t0] at hb2
    rw [t2 _ (by omega)]
    exact W.2.2.2.2.2.2 i' b' hi' hb' hb2
theorem x_addNote {f : sx_F} {S : z_S} (Z : z_X f S) {s : Nat} (hs : s < 60) (hc : S 2 s < 8) {x2 x3 : Int32} {Q : Int32 → sx_F → Prop} (h : Q (nI (S 2 s + 1)) (sx_u (sx_u (sx_u (sx_u f 6 (8 * s + S 2 s) x2) 7 (8 * s + S 2 s) x3) 5 s (nI (S 2 s + 1))) 4 s (f 4 s + 1))) : P_X4_addNote f (nI s) x2 x3 Q := by
  unfold P_X4_addNote
  refine ⟨vp_in_nI hs (by omega), ?_⟩
  rw [nI_clamp (by omega), Z.2.2.1 _ hs, z_at]
  refine nm_e ⟨vp_in_nI (by omega) (by omega), nm_e ⟨vp_in_nI (by omega) (by omega), nm_e ⟨vp_in_nI (by omega) (by omega), vp_in_nI (by omega) (by omega), nm_e ⟨vp_in_nI (by omega) (by omega), vp_in_nI (by omega) (by omega), nm_e ⟨vp_in_nI (by omega) (by omega), ?_⟩⟩⟩⟩⟩
  simp (disch := decide) only [sx_u_n, sx_u_s, pk_us]
  rw [Z.2.2.1 _ hs, nI_1, nI_clamp (by omega)]
  exact h
theorem z_W.mend {S : z_S} {j p : Nat} (W : z_W S) (hp : p ≤ 60) : z_W (z_u S 4 j p) := by
  have t (i x : Nat) (h : i ≠ 4) : z_u S 4 j p i x = S i x := z_un1 h
  refine ⟨by rw [t 0 0 (by decide)]; exact W.1, fun k hk => ?_, fun x hx => ?_, fun x hx => ?_, fun x k hx hk => ?_, fun i b hi hb => ?_, fun i b hi hb hb2 => ?_⟩
  · rw [t 1 k (by decide)]; rw [t 0 0 (by decide)] at hk; exact W.2.1 k hk
  · rw [t 2 x (by decide)]; exact W.2.2.1 x hx
  · rw [t 3 x (by decide)]
    refine ⟨(W.2.2.2.1 x hx).1, ?_⟩
    by_cases e : x = j
    · rw [e, z_us]; exact hp
    · rw [z_un (Or.inr e)]; exact (W.2.2.2.1 x hx).2
  · rw [t 3 _ (by decide)]; rw [t 2 _ (by decide)] at hk; exact W.2.2.2.2.1 x k hx hk
  · rw [t 0 0 (by decide)] at hb
    rw [t 1 _ (by decide), t 2 _ (by decide), z_fl_c (S := S) (S' := z_u S 4 j p) _ (fun q _ => t 3 _ (by decide))]
    exact W.2.2.2.2.2.1 i b hi hb
  · rw [t 0 0 (by decide)] at hb2
    rw [t 2 _ (by decide)]; exact W.2.2.2.2.2.2 i b hi hb hb2
theorem z_W.empty {S : z_S} {s : Nat} (W : z_W S) : z_W (z_u S 2 s 0) := by
  have t (i x : Nat) (h : i ≠ 2) : z_u S 2 s 0 i x = S i x := z_un1 h
  have t2 (x : Nat) : z_u S 2 s 0 2 x ≤ S 2 x := by
    by_cases e : x = s
    · rw [e, z_us]; exact Nat.zero_le _
    · rw [z_un (Or.inr e)]; exact Nat.le_refl _
  refine ⟨by rw [t 0 0 (by decide)]; exact W.1, fun k hk => ?_, fun x hx => ?_, fun x hx => ?_, fun x k hx hk => ?_, fun i b hi hb => ?_, fun i b hi hb hb2 => ?_⟩
  · rw [t 1 k (by decide)]; rw [t 0 0 (by decide)] at hk; exact W.2.1 k hk
  · exact Nat.le_trans (t2 x) (W.2.2.1 x hx)
  · rw [t 3 x (by decide), t 4 x (by decide)]; exact W.2.2.2.1 x hx
  · rw [t 3 _ (by decide)]; exact W.2.2.2.2.1 x k hx (Nat.lt_of_lt_of_le hk (t2 x))
  · rw [t 0 0 (by decide)] at hb
    rw [t 1 _ (by decide), z_fl_c (S := S) (S' := z_u S 2 s 0) _ (fun q _ => t 3 _ (by decide))]
    exact Nat.le_trans (z_fl_le _ (t2 _)) (W.2.2.2.2.2.1 i b hi hb)
  · rw [t 0 0 (by decide)] at hb2
    have := W.2.2.2.2.2.2 i b hi hb hb2
    have := t2 (12 * i + b)
    omega
theorem z_nm {d : Nat} (h : d < 2 ^ 31) : ¬ nI d = -1 := fun e => nI_pos h (by rw [e]; decide)
def z_cnt (p : Nat → Bool) : Nat → Nat | 0 => 0 | k + 1 => z_cnt p k + (if p k then 1 else 0)
theorem z_cnt_c {p q : Nat → Bool} : ∀ k, (∀ j, j < k → p j = q j) → z_cnt p k = z_cnt q k
  | 0, _ => rfl
  | k + 1, h => by
    unfold z_cnt
    rw [z_cnt_c k (fun j hj => h j (by omega)), h k (by omega)]
theorem z_cnt_le {p : Nat → Bool} : ∀ k, z_cnt p k ≤ k
  | 0 => Nat.le_refl _
  | k + 1 => by
    unfold z_cnt
    have := z_cnt_le (p := p) k
    split <;> omega
theorem z_cnt_0 {p : Nat → Bool} : ∀ k, z_cnt p k = 0 ↔ ∀ j, j < k → p j = false
  | 0 => ⟨fun _ j hj => absurd hj (by omega), fun _ => rfl⟩
  | k + 1 => by
    unfold z_cnt
    have ih := z_cnt_0 (p := p) k
    constructor
    · intro h j hj
      by_cases e : j = k
      · rw [e]
        cases hp : p k
        · rfl
        · rw [hp] at h; simp at h
      · exact ih.mp (by omega) j (by omega)
    · intro h
      rw [ih.mpr (fun j hj => h j (by omega)), h k (by omega)]
      rfl
def z_ow (f : sx_F) (o a b : Nat) : Bool := decide (¬ f o 2 = -1 ∧ ¬ f (o + 1) b = f 4 (12 * a + b))
def z_owm (g : sx_F) (i a b : Nat) : Bool := decide (¬ g 7 i = -1 ∧ ¬ g 8 (12 * i + b) = g 5 (12 * a + b))
theorem x_isOut {f : sx_F} {o : Nat} {Q : Int32 → Prop} (h : Q (z_b (decide (¬ f o 2 = -1)))) : P_X1_isOut f o Q := by
  refine ⟨fun c => ?_, fun c => ?_⟩
  · rw [decide_eq_false (fun z => z c)] at h; exact h
  · rw [decide_eq_true c] at h; exact h
theorem x_scoreVersion {f : sx_F} {o a b : Nat} {Q : Int32 → Prop} (h1 : f o 1 = nI a) (ha : a < 5) (hb : b < 12) (h : Q (f 4 (12 * a + b))) : P_X1_scoreVersion f o (nI b) Q := by
  unfold P_X1_scoreVersion
  rw [h1]
  refine x_slotOf ⟨vp_in_nI (by omega) (by omega), ?_⟩
  rw [nI_clamp (by omega)]
  exact h
theorem x_versionOf {f : sx_F} {o a b : Nat} {Q : Int32 → Prop} (h1 : f o 1 = nI a) (ha : a < 5) (hb : b < 12) (h : Q (if f o 2 = -1 then f 4 (12 * a + b) else f (o + 1) b)) : P_X1_versionOf f o (nI b) Q := by
  refine ⟨fun c => ⟨fun _ => x_scoreVersion h1 ha hb ?_, fun c => absurd rfl c⟩, fun c => ⟨fun e => absurd e (by decide), fun _ => ⟨vp_in_nI (by omega) (by omega), ?_⟩⟩⟩
  · rw [if_pos c] at h; exact h
  · rw [if_neg c] at h; rw [nI_clamp (by omega)]; exact h
theorem x_owes {f : sx_F} {o a b : Nat} {Q : Int32 → Prop} (h1 : f o 1 = nI a) (ha : a < 5) (hb : b < 12) (h : Q (z_b (z_ow f o a b))) : P_X1_owes f o (nI b) Q := by
  refine x_versionOf h1 ha hb (x_scoreVersion h1 ha hb ?_)
  unfold z_ow at h
  by_cases c : f o 2 = -1
  · rw [decide_eq_false (fun z => z.1 c)] at h
    rw [if_pos c]
    exact ⟨fun _ => h, fun z => absurd rfl z⟩
  · rw [if_neg c]
    refine ⟨fun z => ?_, fun z => ?_⟩
    · rw [decide_eq_false (fun y => y.2 z)] at h; exact h
    · rw [decide_eq_true ⟨c, z⟩] at h; exact h
theorem x_countDebts {f : sx_F} {n o a : Nat} {Q : Int32 → Prop} (hn : f 1 0 = nI n) (hn12 : n ≤ 12) (h1 : f o 1 = nI a) (ha : a < 5) (h : Q (nI (z_cnt (z_ow f o a) n))) : P_X1_countDebts f o Q := by
  intro B4 B26 h4 h26
  refine z_up (B := fun k => B4 (nI (z_cnt (z_ow f o a) k)) (nI k)) n (fun k hk ih => h4 _ _ ?_)
  rw [hn]
  refine pk_le n k (fun c => ?_) (fun c => x_owes h1 ha (by omega) ?_)
  · rw [show k = n by omega]; exact h
  · have i2 : B4 (nI (z_cnt (z_ow f o a) k + (if z_ow f o a k then 1 else 0))) (nI (k + 1)) := ih c
    cases hp : z_ow f o a k
    · rw [hp] at i2
      exact ⟨fun _ => h26 _ _ (nm_e (by rw [nI_1]; exact i2)), fun z => absurd rfl z⟩
    · rw [hp] at i2
      exact ⟨fun z => absurd z (by decide), fun _ => nm_e (h26 _ _ (nm_e (by rw [nI_1, nI_1]; exact i2)))⟩
theorem z_ow_eq {t : Nat} {f g : sx_F} {S : z_S} {i a b : Nat} (R : z_R t f g S) (h : z_C1 f g i) (ha : a < 5) (hb : b < 12) : z_ow f (66 + 2 * i) a b = z_owm g i a b := by
  unfold z_ow z_owm
  rw [h.2.1, (R.2.2.2.2.1 (12 * a + b) (by omega)).1]
  rcases h.2.2 with e | ⟨-, e⟩
  · rw [decide_eq_false (fun z => z.1 e), decide_eq_false (fun z => z.1 e)]
  · rw [e b hb]
theorem x_copiesOut {f : sx_F} {m : Nat} {Q : Int32 → Prop} (hm : f 0 5 = nI m) (hm16 : m ≤ 16) (h : Q (nI (z_cnt (fun i => decide (¬ f (66 + 2 * i) 2 = -1)) m))) : P_X6_copiesOut f Q := by
  intro B4 B27 h4 h27
  refine z_up (B := fun k => B4 (nI (z_cnt (fun i => decide (¬ f (66 + 2 * i) 2 = -1)) k)) (nI k)) m (fun k hk ih => h4 _ _ ?_)
  rw [hm]
  refine pk_le m k (fun c => ?_) (fun c => ⟨vp_in_nI (by omega) (by omega), nm_e ?_⟩)
  · rw [show k = m by omega]; exact h
  · rw [nI_clamp (by omega)]
    refine x_isOut ?_
    have i2 : B4 (nI (z_cnt (fun i => decide (¬ f (66 + 2 * i) 2 = -1)) k + (if decide (¬ f (66 + 2 * k) 2 = -1) then 1 else 0))) (nI (k + 1)) := ih c
    cases hp : decide (¬ f (66 + 2 * k) 2 = -1)
    · rw [hp] at i2
      exact ⟨fun _ => h27 _ _ (nm_e (by rw [nI_1]; exact i2)), fun z => absurd rfl z⟩
    · rw [hp] at i2
      exact ⟨fun z => absurd z (by decide), fun _ => nm_e (h27 _ _ (nm_e (by rw [nI_1, nI_1]; exact i2)))⟩
theorem z_out_eq {f g : sx_F} {m : Nat} (h : ∀ i, i < m → f (66 + 2 * i) 2 = g 7 i) : z_cnt (fun i => decide (¬ f (66 + 2 * i) 2 = -1)) m = z_cnt (fun i => decide (¬ g 7 i = -1)) m :=
  z_cnt_c m (fun i hi => by rw [h i hi])
theorem x_takeVersions {f : sx_F} {n o a : Nat} {Q : sx_F → Prop} (ho : 66 ≤ o) (hn : f 1 0 = nI n) (hn12 : n ≤ 12) (h1 : f o 1 = nI a) (ha : a < 5) (h : ∀ f' : sx_F, (∀ k, k ≠ o + 1 → f' k = f k) → (∀ k, k < 12 → f' (o + 1) k = if k < n then f 4 (12 * a + k) else -1) → Q f') : P_X1_takeVersions f o Q := by
  intro B2 B33 h2 h33
  have key : ∀ f' : sx_F, (∀ k, k ≠ o + 1 → f' k = f k) → (∀ k, k < 0 → f' (o + 1) k = if k < n then f 4 (12 * a + k) else -1) → B2 f' (nI 0) := by
    refine z_up (B := fun j => ∀ f' : sx_F, (∀ k, k ≠ o + 1 → f' k = f k) → (∀ k, k < j → f' (o + 1) k = if k < n then f 4 (12 * a + k) else -1) → B2 f' (nI j)) 12 (fun j hj ih => ?_)
    intro f' e1 e2
    refine h2 _ _ (pk_le 12 j (fun c => h f' e1 (fun k hk => e2 k (by omega))) (fun c => ?_))
    rw [e1 1 (by omega), hn]
    have st : ∀ v, v = (if j < n then f 4 (12 * a + j) else -1) → B33 f' (nI j) (nI j) v := by
      intro v hv
      refine h33 _ _ _ _ ⟨vp_in_nI (by omega) (by omega), nm_e (nm_e ?_)⟩
      rw [nI_clamp (by omega), nI_1]
      refine ih c _ (fun k hk => by rw [sx_u_n hk]; exact e1 k hk) (fun k hk => ?_)
      rw [sx_u_s]
      by_cases e : k = j
      · rw [e, pk_us]; exact hv
      · rw [pk_un e]; exact e2 k (by omega)
    refine pk_le n j (fun c1 => st _ (by rw [if_neg (by omega)])) (fun c1 => x_scoreVersion (a := a) (by rw [e1 o (by omega)]; exact h1) ha c (st _ (by rw [if_pos c1, e1 4 (by omega)])))
  exact key f (fun _ _ => rfl) (fun k hk => absurd hk (by omega))
theorem z_R.cp {t : Nat} {f g f' g' : sx_F} {S : z_S} (R : z_R t f g S) (hf : ∀ k, ((1 ≤ k ∧ k ≤ 65) ∨ 99 ≤ k) → f' k = f k) (hg : ∀ k, ((1 ≤ k ∧ k ≤ 5) ∨ 9 ≤ k) → g' k = g k) (hg0 : ∀ j, (j = 5 ∨ j = 6 ∨ j = 7) → g' 0 j = g 0 j) (hC : z_C f' g') (h6 : f' 0 6 = g' 0 12) : z_R (t + 1) f' g' S := by
  obtain ⟨R1, R2, R3, R4, R5, R6, R7, R8, R9⟩ := R.mono
  refine ⟨?_, ?_, R3, ?_, ?_, ?_, hC, h6, ?_⟩
  · unfold z_X at R1 ⊢
    simp (disch := omega) only [hf]
    exact R1
  · unfold z_M at R2 ⊢
    simp (disch := omega) only [hg, hg0]
    exact R2
  · unfold z_T at R4 ⊢
    simp (disch := omega) only [hf]
    exact R4
  · unfold z_V at R5 ⊢
    simp (disch := omega) only [hf, hg]
    exact R5
  · unfold z_P at R6 ⊢
    simp (disch := omega) only [hf, hg0]
    exact R6
  · unfold z_D z_D1 z_D2 at R9 ⊢
    simp (disch := omega) only [hf, hg]
    exact R9
theorem x_needCopyOut {f : sx_F} {m i : Nat} {Q : Nat → Prop} {X : String → Prop} (hm : f 0 5 = nI m) (hm16 : m ≤ 16) (hi : i < m) (h0 : f (66 + 2 * i) 2 = -1 → X "java/lang/IllegalStateException") (h1 : ¬ f (66 + 2 * i) 2 = -1 → Q (66 + 2 * i)) : P_X6_needCopyOut f (nI i) Q X := by
  unfold P_X6_needCopyOut
  rw [hm]
  refine x_needIndex_t hi (by omega) ⟨vp_in_nI (by omega) (by omega), nm_e ?_⟩
  rw [nI_clamp (by omega)]
  exact ⟨fun c => ⟨fun _ => h0 c, fun z => absurd rfl z⟩, fun c => ⟨fun z => absurd z (by decide), fun _ => h1 c⟩⟩
theorem z_C1.cnt {t : Nat} {f g : sx_F} {S : z_S} {i a n : Nat} (R : z_R t f g S) (h : z_C1 f g i) (ha : a < 5) (hn : n ≤ 12) : z_cnt (z_ow f (66 + 2 * i) a) n = z_cnt (z_owm g i a) n := z_cnt_c n (fun b hb => z_ow_eq R h ha (by omega))
theorem z_C1.taken {t : Nat} {f g f' g' : sx_F} {S : z_S} {i a : Nat} (R : z_R t f g S) (ha : a < 5) (a1 : f' (66 + 2 * i) 1 = nI a) (a2 : g' 6 i = nI a) (a3 : f' (66 + 2 * i) 2 = g' 7 i) (a4 : ∃ d, d < 6 ∧ g' 7 i = nI d) (a5 : ∀ k, k < 12 → f' (66 + 2 * i + 1) k = if k < S 0 0 then f 4 (12 * a + k) else -1) (a6 : ∀ k, k < 12 → g' 8 (12 * i + k) = if k < S 0 0 then g 5 (12 * a + k) else -1) : z_C1 f' g' i :=
  ⟨⟨a, ha, a1, a2⟩, a3, Or.inr ⟨a4, fun k hk => by rw [a5 k hk, a6 k hk, (R.2.2.2.2.1 (12 * a + k) (by omega)).1]⟩⟩
theorem x_deskHasPart {f : sx_F} {m d a : Nat} {Q : Int32 → Prop} (hm : f 0 5 = nI m) (hm16 : m ≤ 16) (h : Q (z_b (decide (¬ z_cnt (fun j => decide (f (66 + 2 * j) 2 = nI d ∧ f (66 + 2 * j) 1 = nI a)) m = 0)))) : P_X6_deskHasPart f (nI d) (nI a) Q := by
  intro B2 B38 h2 h38
  have key : z_cnt (fun j => decide (f (66 + 2 * j) 2 = nI d ∧ f (66 + 2 * j) 1 = nI a)) 0 = 0 → B2 (nI 0) := by
    refine z_up (B := fun k => z_cnt (fun j => decide (f (66 + 2 * j) 2 = nI d ∧ f (66 + 2 * j) 1 = nI a)) k = 0 → B2 (nI k)) m (fun k hk ih => ?_)
    intro h0
    refine h2 _ ?_
    rw [hm]
    refine pk_le m k (fun c => ?_) (fun c => ⟨vp_in_nI (by omega) (by omega), nm_e ?_⟩)
    · rw [show m = k by omega, h0] at h; exact h
    · rw [nI_clamp (by omega)]
      have go : ¬ (f (66 + 2 * k) 2 = nI d ∧ f (66 + 2 * k) 1 = nI a) → B38 (nI k) := fun z => h38 _ (nm_e (by
        rw [nI_1]
        refine ih c ?_
        show z_cnt _ k + (if decide (f (66 + 2 * k) 2 = nI d ∧ f (66 + 2 * k) 1 = nI a) then 1 else 0) = 0
        rw [h0, decide_eq_false z]; rfl))
      refine ⟨fun z1 => ⟨vp_in_nI (by omega) (by omega), nm_e ?_⟩, fun z1 => go (fun z => z1 z.1)⟩
      refine ⟨fun z2 => ?_, fun z2 => go (fun z => z2 z.2)⟩
      have nz : ¬ z_cnt (fun j => decide (f (66 + 2 * j) 2 = nI d ∧ f (66 + 2 * j) 1 = nI a)) m = 0 := fun z => by
        have e2 := (z_cnt_0 m).mp z k c
        simp only [decide_eq_false_iff_not] at e2
        exact e2 ⟨z1, z2⟩
      rw [decide_eq_true nz] at h
      exact h
  exact key rfl
theorem x_anyCopyOwes {t : Nat} {f g : sx_F} {S : z_S} {m : Nat} {Q : Int32 → Prop} (R : z_R t f g S) (hm : f 0 5 = nI m) (hm16 : m ≤ 16) (C1 : ∀ i, i < m → z_C1 f g i) (q1 : (∃ i a, i < m ∧ a < 5 ∧ g 6 i = nI a ∧ ¬ z_cnt (z_owm g i a) (S 0 0) = 0) → Q 1) (q0 : (∀ i a, i < m → a < 5 → g 6 i = nI a → z_cnt (z_owm g i a) (S 0 0) = 0) → Q 0) : P_X6_anyCopyOwes f Q := by
  have hn := R.2.2.1.1
  intro B2 h2
  have key : (∀ i a, i < 0 → a < 5 → g 6 i = nI a → z_cnt (z_owm g i a) (S 0 0) = 0) → B2 (nI 0) := by
    refine z_up (B := fun k => (∀ i a, i < k → a < 5 → g 6 i = nI a → z_cnt (z_owm g i a) (S 0 0) = 0) → B2 (nI k)) m (fun k hk ih => ?_)
    intro h0
    refine h2 _ ?_
    rw [hm]
    refine pk_le m k (fun c => ?_) (fun c => ⟨vp_in_nI (by omega) (by omega), nm_e ?_⟩)
    · rw [show k = m by omega] at h0; exact q0 h0
    · rw [nI_clamp (by omega)]
      obtain ⟨⟨a, ha, a1, a2⟩, a3, a4⟩ := C1 k c
      refine x_countDebts (n := S 0 0) R.1.1 hn a1 ha ?_
      rw [(C1 k c).cnt R ha hn]
      have hle := z_cnt_le (p := z_owm g k a) (S 0 0)
      refine pk_le (z_cnt (z_owm g k a) (S 0 0)) 0 (fun c1 => nm_e ?_) (fun c1 => q1 ⟨k, a, c, ha, a2, by omega⟩)
      rw [nI_1]
      refine ih c (fun i b hi hb hb2 => ?_)
      by_cases e : i = k
      · subst e
        have : a = b := (nI_eq (by omega) (by omega)).mp (a2.symm.trans hb2)
        subst this
        omega
      · exact h0 i b (by omega) hb hb2
  exact key (fun i a hi => absurd hi (by omega))
def z_put (x a : Int32) (k : Nat) : Int32 := (x &&& ((3 <<< ((2 * nI k) &&& 31)) ^^^ (-1))) ||| (a <<< ((2 * nI k) &&& 31))
theorem z_c8 {P : Nat → Prop} (h0 : P 0) (h1 : P 1) (h2 : P 2) (h3 : P 3) (h4 : P 4) (h5 : P 5) (h6 : P 6) (h7 : P 7) {k : Nat} (hk : k < 8) : P k := by
  rcases (show k = 0 ∨ k = 1 ∨ k = 2 ∨ k = 3 ∨ k = 4 ∨ k = 5 ∨ k = 6 ∨ k = 7 by omega) with rfl | rfl | rfl | rfl | rfl | rfl | rfl | rfl <;> assumption
theorem z_sh {k : Nat} (hk : k < 8) : ((((2 * nI k) &&& 31) : Int32).toBitVec.smod 32).toNat = 2 * k :=
  z_c8 (P := fun k => ((((2 * nI k) &&& 31) : Int32).toBitVec.smod 32).toNat = 2 * k) (by decide) (by decide) (by decide) (by decide) (by decide) (by decide) (by decide) (by decide) hk
theorem z_bit_v (x : Int32) {k : Nat} (hk : k < 8) : (z_bit x k).toBitVec = x.toBitVec.sshiftRight (2 * k) &&& 3#32 := by
  unfold z_bit
  rw [Int32.toBitVec_and, Int32.toBitVec_shiftRight]
  show x.toBitVec.sshiftRight (((((2 * nI k) &&& 31) : Int32).toBitVec.smod 32).toNat) &&& _ = _
  rw [z_sh hk]
  rfl
theorem z_put_v (x a : Int32) {k : Nat} (hk : k < 8) : (z_put x a k).toBitVec = (x.toBitVec &&& ((3#32 <<< (2 * k)) ^^^ (-1#32))) ||| (a.toBitVec <<< (2 * k)) := by
  unfold z_put
  rw [Int32.toBitVec_or, Int32.toBitVec_and, Int32.toBitVec_xor, Int32.toBitVec_shiftLeft, Int32.toBitVec_shiftLeft]
  show (x.toBitVec &&& ((3#32 <<< (((((2 * nI k) &&& 31) : Int32).toBitVec.smod 32).toNat)) ^^^ _)) ||| (a.toBitVec <<< (((((2 * nI k) &&& 31) : Int32).toBitVec.smod 32).toNat)) = _
  rw [z_sh hk]
  rfl
theorem z_3bit (n : Nat) : (3#32).getLsbD n = decide (n < 2) := by
  by_cases h : n < 2
  · rcases (show n = 0 ∨ n = 1 by omega) with rfl | rfl <;> rfl
  · rw [decide_eq_false h]
    exact (BitVec.getLsbD_ofNat 32 3 n).trans (by rw [Nat.testBit_lt_two_pow (Nat.lt_of_lt_of_le (by decide : 3 < 2 ^ 2) (Nat.pow_le_pow_right (by decide) (by omega)))]; simp)
theorem z_bit_0 {k : Nat} (hk : k < 8) : z_bit 0 k = 0 := by
  apply Int32.toBitVec_inj.mp
  rw [z_bit_v 0 hk]
  simp
theorem z_abit {a n : Nat} (ha : a ≤ 2) (hn : 2 ≤ n) : (nI a).toBitVec.getLsbD n = false := by
  show (BitVec.ofNat 32 a).getLsbD n = false
  rw [BitVec.getLsbD_ofNat, Nat.testBit_lt_two_pow (Nat.lt_of_lt_of_le (by omega : a < 2 ^ 2) (Nat.pow_le_pow_right (by decide) hn))]
  simp
theorem z_ones {n : Nat} (hn : n < 32) : (-1#32).getLsbD n = true := by
  rw [show (-1#32) = BitVec.allOnes 32 by decide, BitVec.getLsbD_allOnes, decide_eq_true hn]
theorem z_put_b (x : Int32) {a k n : Nat} (hk : k < 8) (hn : n < 32) : (z_put x (nI a) k).toBitVec.getLsbD n = ((x.toBitVec.getLsbD n && ((!decide (n < 2 * k) && decide (n - 2 * k < 2)) ^^ true)) || (!decide (n < 2 * k) && (nI a).toBitVec.getLsbD (n - 2 * k))) := by
  rw [z_put_v _ _ hk, BitVec.getLsbD_or, BitVec.getLsbD_and, BitVec.getLsbD_xor, z_ones hn, BitVec.getLsbD_shiftLeft, BitVec.getLsbD_shiftLeft, z_3bit, decide_eq_true hn, Bool.true_and]
theorem z_bit_b (x : Int32) {k i : Nat} (hk : k < 8) (hi : i < 2) : (z_bit x k).toBitVec.getLsbD i = x.toBitVec.getLsbD (2 * k + i) := by
  rw [z_bit_v _ hk, BitVec.getLsbD_and, z_3bit, decide_eq_true hi, Bool.and_true, BitVec.getLsbD_sshiftRight, if_pos (by omega), decide_eq_false (by omega)]
  rfl
theorem z_bit_h (x : Int32) {k i : Nat} (hk : k < 8) (hi : ¬ i < 2) : (z_bit x k).toBitVec.getLsbD i = false := by
  rw [z_bit_v _ hk, BitVec.getLsbD_and, z_3bit, decide_eq_false hi, Bool.and_false]
theorem z_bit_s {x : Int32} {a k : Nat} (hk : k < 8) (ha : a ≤ 2) : z_bit (z_put x (nI a) k) k = nI a := by
  apply Int32.toBitVec_inj.mp
  apply BitVec.eq_of_getLsbD_eq
  intro i hi
  by_cases h : i < 2
  · rw [z_bit_b _ hk h, z_put_b _ hk (by omega), decide_eq_false (by omega), decide_eq_true (by omega), show 2 * k + i - 2 * k = i by omega]
    simp
  · rw [z_bit_h _ hk h, z_abit ha (by omega)]
theorem z_bit_n {x : Int32} {a k j : Nat} (hk : k < 8) (hj : j < 8) (n : j ≠ k) (ha : a ≤ 2) : z_bit (z_put x (nI a) k) j = z_bit x j := by
  apply Int32.toBitVec_inj.mp
  apply BitVec.eq_of_getLsbD_eq
  intro i hi
  by_cases h : i < 2
  · rw [z_bit_b _ hj h, z_bit_b _ hj h, z_put_b _ hk (by omega)]
    by_cases c : 2 * j + i < 2 * k
    · rw [decide_eq_true c]
      simp
    · rw [decide_eq_false c, decide_eq_false (by omega), z_abit ha (by omega)]
      simp
  · rw [z_bit_h _ hj h, z_bit_h _ hj h]
theorem z_R.dk {t : Nat} {f g f' g' : sx_F} {S : z_S} (R : z_R t f g S) (hf : ∀ k, k < 99 → f' k = f k) (hg : ∀ k, (1 ≤ k ∧ k ≤ 8) → g' k = g k) (hg0 : ∀ j, j ≠ 33 → g' 0 j = g 0 j) (hD : z_D (t + 1) f' g') : z_R (t + 1) f' g' S := by
  obtain ⟨R1, R2, R3, R4, R5, R6, R7, R8, R9⟩ := R.mono
  refine ⟨?_, ?_, R3, ?_, ?_, ?_, ?_, ?_, hD⟩
  · unfold z_X at R1 ⊢
    simp (disch := omega) only [hf]
    exact R1
  · unfold z_M at R2 ⊢
    simp (disch := omega) only [hg, hg0]
    exact R2
  · unfold z_T at R4 ⊢
    simp (disch := omega) only [hf]
    exact R4
  · unfold z_V at R5 ⊢
    simp (disch := omega) only [hf, hg]
    exact R5
  · unfold z_P at R6 ⊢
    simp (disch := omega) only [hf, hg0]
    exact R6
  · obtain ⟨m, hm, e1, e2, C1, C2⟩ := R7
    refine ⟨m, hm, by rw [hf 0 (by omega)]; exact e1, by rw [hg0 11 (by decide)]; exact e2, fun i hi => ?_, fun i hi hi2 => by rw [hf _ (by omega)]; exact C2 i hi hi2⟩
    have hc := C1 i hi
    unfold z_C1 at hc ⊢
    rw [hf _ (by omega), hf _ (by omega), hg 6 (by decide), hg 7 (by decide), hg 8 (by decide)]
    exact hc
  · rw [hf 0 (by omega), hg0 12 (by decide)]; exact R8
def z_bX (f : sx_F) (d s k : Nat) : Int32 := if f (99 + 5 * d + 4) s = f 4 s then z_bit (f (99 + 5 * d + 3) s) k else 0
def z_bM (g : sx_F) (d s k : Nat) : Int32 := if g 12 (8 * (60 * d + s) + k) = g 5 s then g 11 (8 * (60 * d + s) + k) else 0
theorem z_bXM {t : Nat} {f g : sx_F} {S : z_S} (ht : t < 1000000) (R : z_R t f g S) {d s k : Nat} (hd : d < 6) (hs : s < 60) (hk : k < 8) : z_bX f d s k = z_bM g d s k ∧ ∃ a, a ≤ 2 ∧ z_bM g d s k = nI a := by
  obtain ⟨-, e, v, he, hv, b1, b2, b3⟩ := R.2.2.2.2.2.2.2.2 d s hd hs
  obtain ⟨a, c, ha, hc, c1, c2, c3⟩ := b3 k hk
  have hver := (R.2.2.2.2.1 s hs).1
  unfold z_bX z_bM
  rw [hver, b1, b2, c1, c2]
  have i1 : (nI e = nI v) ↔ e = v := nI_eq (by omega) (by omega)
  have i2 : (nI c = nI v) ↔ c = v := nI_eq (by omega) (by omega)
  refine ⟨?_, ?_⟩
  · simp only [i1, i2]
    exact c3
  · by_cases z : c = v
    · exact ⟨a, ha, by rw [if_pos (i2.mpr z)]⟩
    · exact ⟨0, by omega, by rw [if_neg (fun y => z (i2.mp y))]; rfl⟩
theorem x_bowingAt {f : sx_F} {d s k : Nat} {Q : Int32 → Prop} (hs : s < 60) (h : Q (z_bX f d s k)) : P_X2_bowingAt f (99 + 5 * d) (nI s) (nI k) (f 4 s) Q := by
  unfold P_X2_bowingAt
  rw [nI_clamp (by omega)]
  unfold z_bX at h
  refine ⟨vp_in_nI (by omega) (by omega), fun c => ⟨vp_in_nI (by omega) (by omega), ?_⟩, fun c => ?_⟩
  · rw [if_pos c] at h; exact h
  · rw [if_neg c] at h; exact h
theorem z_at3 (d s k : Nat) : 8 * (60 * nI d + nI s) + nI k = nI (8 * (60 * d + s) + k) := by
  rw [z_l8, z_l60, pk_mul, nI_add, pk_mul, nI_add]
theorem z_at2 (d s : Nat) : 60 * nI d + nI s = nI (60 * d + s) := by
  rw [z_l60, pk_mul, nI_add]
def z_sm (p : Nat → Nat) : Nat → Nat | 0 => 0 | k + 1 => z_sm p k + p k
theorem z_sm_c {p q : Nat → Nat} : ∀ k, (∀ j, j < k → p j = q j) → z_sm p k = z_sm q k
  | 0, _ => rfl
  | k + 1, h => by
    unfold z_sm
    rw [z_sm_c k (fun j hj => h j (by omega)), h k (by omega)]
theorem z_sm_3 (p q r : Nat → Nat) : ∀ n, z_sm (fun k => p k + q k + r k) n = z_sm p n + z_sm q n + z_sm r n
  | 0 => rfl
  | n + 1 => by
    have := z_sm_3 p q r n
    unfold z_sm
    omega
def z_cl (g : sx_F) (st s k : Nat) : Nat := if ¬ z_bM g (2 * st) s k = 0 ∧ ¬ z_bM g (2 * st + 1) s k = 0 ∧ ¬ z_bM g (2 * st) s k = z_bM g (2 * st + 1) s k then 1 else 0
theorem x_clashesAt {t : Nat} {f g : sx_F} {S : z_S} {i st : Nat} {Q : Int32 → Prop} (ht : t < 1000000) (R : z_R t f g S) (hi : i < 5) (hst : st < 3) (h : Q (nI (z_sm (fun b => z_sm (z_cl g st (12 * i + b)) (S 2 (12 * i + b))) (S 0 0)))) : P_X6_clashesAt f (99 + 5 * (2 * st)) (99 + 5 * (2 * st + 1)) (nI i) Q := by
  have hn := R.2.2.1.1
  intro B6 B41 B100 h6 h41 h100
  refine z_up (B := fun b => B6 (nI (z_sm (fun b => z_sm (z_cl g st (12 * i + b)) (S 2 (12 * i + b))) b)) (nI b)) (S 0 0) (fun b hb ih => h6 _ _ ?_)
  rw [R.1.1]
  refine pk_le (S 0 0) b (fun c => by rw [show b = S 0 0 by omega]; exact h) (fun c => x_slotOf ⟨vp_in_nI (by omega) (by omega), nm_e ?_⟩)
  have i1 : B6 (nI (z_sm (fun b => z_sm (z_cl g st (12 * i + b)) (S 2 (12 * i + b))) b + z_sm (z_cl g st (12 * i + b)) (S 2 (12 * i + b)))) (nI (b + 1)) := ih c
  have hs : 12 * i + b < 60 := by omega
  generalize 12 * i + b = s at hs i1
  have hc := R.2.2.1.2.2.1 s hs
  rw [nI_clamp (by omega)]
  generalize z_sm (fun b => z_sm (z_cl g st (12 * i + b)) (S 2 (12 * i + b))) b = z at i1
  have key : B41 (nI (z + z_sm (z_cl g st s) 0)) (nI b) (nI s) (f 4 s) (nI 0) := by
    refine z_up (B := fun k => B41 (nI (z + z_sm (z_cl g st s) k)) (nI b) (nI s) (f 4 s) (nI k)) (S 2 s) (fun k hk ih => h41 _ _ _ _ _ ⟨vp_in_nI (by omega) (by omega), ?_⟩)
    rw [nI_clamp (by omega), R.1.2.2.1 s hs]
    refine pk_le (S 2 s) k (fun c => nm_e ?_) (fun c => x_bowingAt hs (x_bowingAt hs ?_))
    · rw [show k = S 2 s by omega, nI_1]; exact i1
    · have i2 : B41 (nI (z + (z_sm (z_cl g st s) k + z_cl g st s k))) (nI b) (nI s) (f 4 s) (nI (k + 1)) := ih c
      rw [(z_bXM ht R (d := 2 * st) (by omega) hs (by omega)).1, (z_bXM ht R (d := 2 * st + 1) (by omega) hs (by omega)).1]
      unfold z_cl at i2
      have no : ¬ (¬ z_bM g (2 * st) s k = 0 ∧ ¬ z_bM g (2 * st + 1) s k = 0 ∧ ¬ z_bM g (2 * st) s k = z_bM g (2 * st + 1) s k) → B100 (nI (z + z_sm (z_cl g st s) k)) (nI b) (nI s) (f 4 s) (nI k) := fun y => by
        rw [if_neg y] at i2
        exact h100 _ _ _ _ _ (nm_e (by rw [nI_1]; exact i2))
      refine ⟨fun y => no (fun w => w.1 y), fun y1 => ⟨fun y => no (fun w => w.2.1 y), fun y2 => ⟨fun y => no (fun w => w.2.2 y), fun y3 => nm_e ?_⟩⟩⟩
      rw [if_pos ⟨y1, y2, y3⟩] at i2
      exact h100 _ _ _ _ _ (nm_e (by rw [nI_1, nI_1]; exact i2))
  exact key
def z_dr (d : Nat) : Int32 := if d = 6 then -1 else nI d
theorem z_dr6 : z_dr 6 = -1 := rfl
theorem z_drn {d : Nat} (h : d ≠ 6) : z_dr d = nI d := if_neg h
theorem z_dr_m1 {d : Nat} (h : d ≤ 6) : z_dr d = -1 ↔ d = 6 := by
  by_cases e : d = 6
  · rw [e]; exact ⟨fun _ => rfl, fun _ => rfl⟩
  · rw [z_drn e]; exact ⟨fun z => absurd z (z_nm (by omega)), fun z => absurd z e⟩
def z_mo (S : z_S) (p b : Nat) : Nat := if p = 6 then 0 else S 2 (12 * p + b)
def z_best (S : z_S) (bk b : Nat) : Nat → Nat
  | 0 => 6
  | k + 1 => if k ≠ bk ∧ z_sil S (12 * k + b) = false ∧ z_mo S (z_best S bk b k) b < S 2 (12 * k + b) then k else z_best S bk b k
theorem z_best_r {S : z_S} {bk b : Nat} : ∀ k, k ≤ 5 → z_best S bk b k = 6 ∨ (z_best S bk b k < k ∧ z_best S bk b k ≠ bk ∧ z_sil S (12 * z_best S bk b k + b) = false)
  | 0, _ => Or.inl rfl
  | k + 1, h => by
    have ih := z_best_r (S := S) (bk := bk) (b := b) k (by omega)
    show (if k ≠ bk ∧ z_sil S (12 * k + b) = false ∧ z_mo S (z_best S bk b k) b < S 2 (12 * k + b) then k else z_best S bk b k) = 6 ∨ ((if k ≠ bk ∧ z_sil S (12 * k + b) = false ∧ z_mo S (z_best S bk b k) b < S 2 (12 * k + b) then k else z_best S bk b k) < k + 1 ∧ (if k ≠ bk ∧ z_sil S (12 * k + b) = false ∧ z_mo S (z_best S bk b k) b < S 2 (12 * k + b) then k else z_best S bk b k) ≠ bk ∧ z_sil S (12 * (if k ≠ bk ∧ z_sil S (12 * k + b) = false ∧ z_mo S (z_best S bk b k) b < S 2 (12 * k + b) then k else z_best S bk b k) + b) = false)
    by_cases c : k ≠ bk ∧ z_sil S (12 * k + b) = false ∧ z_mo S (z_best S bk b k) b < S 2 (12 * k + b)
    · rw [if_pos c]
      exact Or.inr ⟨by omega, c.1, c.2.1⟩
    · rw [if_neg c]
      rcases ih with e | e
      · exact Or.inl e
      · exact Or.inr ⟨by omega, e.2⟩
theorem z_sil_pos {S : z_S} {s : Nat} (h : z_sil S s = false) : 0 < S 2 s := by
  refine Nat.pos_of_ne_zero (fun e => ?_)
  have : z_sil S s = true := decide_eq_true (fun j hj => absurd hj (by omega))
  rw [this] at h
  exact absurd h (by decide)
def z_cueX (S : z_S) (bk b : Nat) : Nat := if 2 ≤ b ∧ b + 1 < S 0 0 ∧ z_sil S (12 * bk + (b - 2)) = true ∧ z_sil S (12 * bk + (b - 1)) = true ∧ z_sil S (12 * bk + b) = true ∧ z_sil S (12 * bk + (b + 1)) = false then z_best S bk b 5 else 6
def z_drw (S : z_S) (bk b : Nat) : Nat := if bk = 5 ∨ z_sil S (12 * bk + b) = false then bk else z_cueX S bk b
theorem z_cueX_r {S : z_S} {bk b : Nat} : z_cueX S bk b = 6 ∨ (z_cueX S bk b < 5 ∧ z_cueX S bk b ≠ bk ∧ z_sil S (12 * z_cueX S bk b + b) = false) := by
  unfold z_cueX
  split
  · exact z_best_r 5 (by omega)
  · exact Or.inl rfl
theorem z_drw_le {S : z_S} {bk b : Nat} (h : bk ≤ 5) : z_drw S bk b ≤ 6 := by
  unfold z_drw
  split
  · omega
  · rcases z_cueX_r (S := S) (bk := bk) (b := b) with e | e <;> omega
theorem x_cuePlayer {f : sx_F} {S : z_S} (Z : z_X f S) (W : z_W S) {bk b : Nat} (hk : bk < 5) (hb : b < S 0 0) {Q : Int32 → Prop} (h : Q (z_dr (z_cueX S bk b))) : P_X4_cuePlayer f (nI bk) (nI b) Q := by
  have hn := W.1
  intro B61 B62 B78 B128 h61 h62 h78 h128
  have no : ¬ (2 ≤ b ∧ b + 1 < S 0 0 ∧ z_sil S (12 * bk + (b - 2)) = true ∧ z_sil S (12 * bk + (b - 1)) = true ∧ z_sil S (12 * bk + b) = true ∧ z_sil S (12 * bk + (b + 1)) = false) → B61 := fun z => h61 (h62 _ ⟨fun _ => by
    unfold z_cueX at h
    rw [if_neg z] at h
    exact h, fun c => absurd rfl c⟩)
  refine pk_lt b 2 (fun c => no (fun z => by omega)) (fun c => ?_)
  rw [nI_1, Z.1]
  refine pk_le (S 0 0) (b + 1) (fun c1 => no (fun z => by omega)) (fun c1 => ?_)
  rw [show nI b - 2 = nI (b - 2) from pk_sub (a := b) (b := 2) c, show nI b - 1 = nI (b - 1) from pk_sub (a := b) (b := 1) (by omega)]
  refine x_isSilent Z W hk (by omega) ?_
  cases s1 : z_sil S (12 * bk + (b - 2))
  · exact ⟨fun _ => no (fun z => by rw [s1] at z; exact absurd z.2.2.1 (by decide)), fun c => absurd rfl c⟩
  refine ⟨fun c => absurd c (by decide), fun _ => x_isSilent Z W hk (by omega) ?_⟩
  cases s2 : z_sil S (12 * bk + (b - 1))
  · exact ⟨fun _ => no (fun z => by rw [s2] at z; exact absurd z.2.2.2.1 (by decide)), fun c => absurd rfl c⟩
  refine ⟨fun c => absurd c (by decide), fun _ => x_isSilent Z W hk (by omega) ?_⟩
  cases s3 : z_sil S (12 * bk + b)
  · exact ⟨fun _ => no (fun z => by rw [s3] at z; exact absurd z.2.2.2.2.1 (by decide)), fun c => absurd rfl c⟩
  refine ⟨fun c => absurd c (by decide), fun _ => x_isSilent Z W hk (by omega) ?_⟩
  cases s4 : z_sil S (12 * bk + (b + 1))
  · refine ⟨fun _ => h62 _ ⟨fun c => absurd c (by decide), fun _ => ?_⟩, fun c => absurd rfl c⟩
    unfold z_cueX at h
    rw [if_pos ⟨c, c1, s1, s2, s3, s4⟩] at h
    refine z_up (B := fun k => B78 (z_dr (z_best S bk b k)) (nI (z_mo S (z_best S bk b k) b)) (nI k)) 5 (fun k hk5 ih => h78 _ _ _ (pk_le 5 k (fun c => ?_) (fun c => x_slotOf ⟨vp_in_nI (by omega) (by omega), nm_e ?_⟩)))
    · rw [show k = 5 by omega]; exact h
    · have hs : 12 * k + b < 60 := by omega
      have hcs := W.2.2.1 _ hs
      rw [nI_clamp (by omega), Z.2.2.1 _ hs]
      have i2 := ih c
      have hle : z_mo S (z_best S bk b k) b ≤ 8 := by
        unfold z_mo
        split
        · omega
        · rcases z_best_r (S := S) (bk := bk) (b := b) k hk5 with e | e
          · omega
          · exact W.2.2.1 _ (by omega)
      have st : (k ≠ bk ∧ z_sil S (12 * k + b) = false ∧ z_mo S (z_best S bk b k) b < S 2 (12 * k + b)) → z_best S bk b (k + 1) = k := fun z => if_pos z
      have sf : ¬ (k ≠ bk ∧ z_sil S (12 * k + b) = false ∧ z_mo S (z_best S bk b k) b < S 2 (12 * k + b)) → z_best S bk b (k + 1) = z_best S bk b k := fun z => if_neg z
      have n128 : ¬ (k ≠ bk ∧ z_sil S (12 * k + b) = false ∧ z_mo S (z_best S bk b k) b < S 2 (12 * k + b)) → B128 (z_dr (z_best S bk b k)) (nI (z_mo S (z_best S bk b k) b)) (nI k) := fun z => h128 _ _ _ (nm_e (by rw [nI_1]; rw [sf z] at i2; exact i2))
      refine pk_eq k bk (fun e => n128 (fun z => z.1 e)) (fun e => pk_le (S 2 (12 * k + b)) (z_mo S (z_best S bk b k) b) (fun e1 => n128 (fun z => by omega)) (fun e1 => x_isSilent Z W c (by omega) ?_))
      cases s5 : z_sil S (12 * k + b)
      · refine ⟨fun _ => h128 _ _ _ (nm_e ?_), fun c => absurd rfl c⟩
        rw [nI_1]
        rw [st ⟨e, s5, e1⟩, z_drn (by omega), show z_mo S k b = S 2 (12 * k + b) from if_neg (by omega)] at i2
        exact i2
      · exact ⟨fun c => absurd c (by decide), fun _ => n128 (fun z => by rw [s5] at z; exact absurd z.2.1 (by decide))⟩
  · exact ⟨fun c => absurd c (by decide), fun _ => no (fun z => by rw [s4] at z; exact absurd z.2.2.2.2.2 (by decide))⟩
theorem x_drawerOf {f : sx_F} {S : z_S} (Z : z_X f S) (W : z_W S) {bk b : Nat} (hk : bk ≤ 5) (hb : b < S 0 0) (h8 : f 8 2 = nI bk) {Q : Int32 → Prop} (h : Q (z_dr (z_drw S bk b))) : P_X0_drawerOf f (nI b) Q := by
  have hn := W.1
  intro B23 h23
  rw [h8] at h23 ⊢
  unfold z_drw at h
  refine pk_eq bk 5 (fun c => h23 ?_) (fun c => x_isSilent Z W (by omega) (by omega) ?_)
  · rw [if_pos (Or.inl c), z_drn (by omega)] at h; exact h
  · cases s : z_sil S (12 * bk + b)
    · rw [if_pos (Or.inr s), z_drn (by omega)] at h
      exact ⟨fun _ => h23 h, fun c => absurd rfl c⟩
    · rw [if_neg (fun z => z.elim c (fun z => by rw [s] at z; exact absurd z (by decide)))] at h
      exact ⟨fun z => absurd z (by decide), fun _ => x_cuePlayer Z W (by omega) hb h⟩
def z_bgk (S : z_S) (s at_ : Nat) : Nat → Nat
  | 0 => 0
  | k + 1 => if z_fl S s k = at_ then (if S 4 (8 * s + k) = 0 then 1 else 2) else z_bgk S s at_ k
def z_bg (S : z_S) (s len at_ : Nat) : Nat := if z_bgk S s at_ (S 2 s) = 0 then (if z_fl S s (S 2 s) = at_ ∧ at_ < len then 1 else 0) else z_bgk S s at_ (S 2 s)
theorem z_bgk_0 {S : z_S} {s p : Nat} : ∀ k, (∀ j, j < k → z_fl S s j ≠ p) → z_bgk S s p k = 0
  | 0, _ => rfl
  | k + 1, h => by
    show (if z_fl S s k = p then (if S 4 (8 * s + k) = 0 then 1 else 2) else z_bgk S s p k) = 0
    rw [if_neg (h k (by omega))]
    exact z_bgk_0 k (fun j hj => h j (by omega))
theorem z_bgk_le {S : z_S} {s p : Nat} : ∀ k, z_bgk S s p k ≤ 2
  | 0 => Nat.zero_le _
  | k + 1 => by
    have := z_bgk_le (S := S) (s := s) (p := p) k
    show (if z_fl S s k = p then (if S 4 (8 * s + k) = 0 then 1 else 2) else z_bgk S s p k) ≤ 2
    split
    · split <;> omega
    · exact this
theorem z_bg_le {S : z_S} {s len p : Nat} : z_bg S s len p ≤ 2 := by
  unfold z_bg
  split
  · split <;> omega
  · exact z_bgk_le _
theorem z_fl_lt {S : z_S} (W : z_W S) {s : Nat} (hs : s < 60) : ∀ {a b : Nat}, a < b → b ≤ S 2 s → z_fl S s a < z_fl S s b := by
  intro a b h
  induction b with
  | zero => omega
  | succ b ih =>
    intro hb
    have h1 := W.2.2.2.2.1 s b hs (by omega)
    have e : z_fl S s (b + 1) = z_fl S s b + S 3 (8 * s + b) := rfl
    by_cases c : a = b
    · rw [c, e]; omega
    · have := ih (by omega) (by omega)
      omega
def z_ap (v : Int32) (q : Nat) : Int32 := if q = 0 then v else if v = -1 then (if q = 2 then 1 else 0) else (if q = 2 then v + 1 else v)
theorem z_ap0 (v : Int32) : z_ap v 0 = v := rfl
theorem x_addPlace {f : sx_F} {p : Nat} {q : Bool} {Q : sx_F → Prop} (hp : p < 32) (h : ∀ f' : sx_F, (∀ k, k ≠ 13 → f' k = f k) → (∀ x, x ≠ p → f' 13 x = f 13 x) → f' 13 p = z_ap (f 13 p) (if q then 2 else 1) → Q f') : P_X5_addPlace f (nI p) (z_b q) Q := by
  intro B17 h17
  rw [nI_clamp (by omega)] at h17 ⊢
  have vi : vp_in (nI p) 32 := vp_in_nI (by omega) (by omega)
  have two : ∀ g : sx_F, (∀ k, k ≠ 13 → g k = f k) → (∀ x, x ≠ p → g 13 x = f 13 x) → g 13 p = z_ap (f 13 p) 1 → B17 g := by
    intro g g1 g2 g3
    refine h17 g ?_
    cases q
    · exact ⟨fun _ => h g g1 g2 g3, fun c => absurd rfl c⟩
    · refine ⟨fun c => absurd c (by decide), fun _ => ⟨vi, vi, nm_e (h _ (fun k hk => by rw [sx_u_n hk]; exact g1 k hk) (fun x hx => by rw [sx_u_s, pk_un hx]; exact g2 x hx) ?_)⟩⟩
      rw [sx_u_s, pk_us, g3]
      unfold z_ap
      by_cases c : f 13 p = -1
      · rw [if_neg (by decide), if_pos c, if_neg (by decide), if_pos rfl, if_neg (by decide), if_pos c, if_pos rfl]; rfl
      · rw [if_neg (by decide), if_neg c, if_neg (by decide), if_pos rfl, if_neg (by decide), if_neg c, if_pos rfl]
  refine ⟨vi, fun c => ⟨vi, nm_e (two _ (fun k hk => sx_u_n hk) (fun x hx => by rw [sx_u_s, pk_un hx]) ?_)⟩, fun c => two f (fun _ _ => rfl) (fun _ _ => rfl) ?_⟩
  · rw [sx_u_s, pk_us]
    unfold z_ap
    rw [if_neg (by decide), if_pos c, if_neg (by decide)]
  · unfold z_ap
    rw [if_neg (by decide), if_neg c, if_neg (by decide)]
theorem x_addPlaces {f : sx_F} {S : z_S} {s len : Nat} {Q : sx_F → Prop} (Z : z_X f S) (W : z_W S) (hs : s < 60) (hl : len ≤ 32) (hf : z_fl S s (S 2 s) ≤ len) (h : ∀ f' : sx_F, (∀ k, k ≠ 13 → f' k = f k) → (∀ p, p < len → f' 13 p = z_ap (f 13 p) (z_bg S s len p)) → Q f') : P_X5_addPlaces f (nI s) (nI len) Q := by
  intro B6 B41 B62 h6 h41 h62
  have hc := W.2.2.1 s hs
  have key : ∀ f' : sx_F, (∀ k, k ≠ 13 → f' k = f k) → (∀ p, f' 13 p = z_ap (f 13 p) (z_bgk S s p 0)) → B6 f' (nI (z_fl S s 0)) (nI 0) := by
    refine z_up (B := fun k => ∀ f' : sx_F, (∀ k, k ≠ 13 → f' k = f k) → (∀ p, f' 13 p = z_ap (f 13 p) (z_bgk S s p k)) → B6 f' (nI (z_fl S s k)) (nI k)) (S 2 s) (fun k hk ih => ?_)
    intro f' f1 f2
    have Z' : z_X f' S := z_Xc Z (f1 1 (by decide)) (f1 2 (by decide)) (f1 5 (by decide)) (f1 6 (by decide)) (f1 7 (by decide))
    have hle := z_fl_le (S := S) s hk
    refine h6 _ _ _ ⟨vp_in_nI (by omega) (by omega), ?_⟩
    rw [nI_clamp (by omega), Z'.2.2.1 s hs]
    refine pk_le (S 2 s) k (fun c => ?_) (fun c => ?_)
    · have e : k = S 2 s := by omega
      subst e
      refine h62 _ _ (pk_le len (z_fl S s (S 2 s)) (fun c1 => h f' f1 (fun p hp => ?_)) (fun c1 => x_addPlace (q := false) (by omega) (fun f2' g1 g2 g3 => h f2' (fun k hk => by rw [g1 k hk]; exact f1 k hk) (fun p hp => ?_))))
      · rw [f2 p]
        unfold z_bg
        rw [if_neg (show ¬ (z_fl S s (S 2 s) = p ∧ p < len) by omega)]
        split
        · rename_i e; rw [e]
        · rfl
      · by_cases e : p = z_fl S s (S 2 s)
        · have z0 : z_bgk S s p (S 2 s) = 0 := z_bgk_0 _ (fun j hj => by have := z_fl_lt W hs hj (Nat.le_refl _); omega)
          rw [e, g3, f2, ← e, z0]
          unfold z_bg
          rw [if_pos z0, if_pos (show z_fl S s (S 2 s) = p ∧ p < len from ⟨e.symm, hp⟩)]
          rfl
        · rw [g2 p e, f2 p]
          unfold z_bg
          rw [if_neg (show ¬ (z_fl S s (S 2 s) = p ∧ p < len) by omega)]
          split
          · rename_i e; rw [e]
          · rfl
    · have lt := z_fl_lt W hs c (Nat.le_refl _)
      have st : ∀ q : Bool, (q = decide (¬ S 4 (8 * s + k) = 0)) → B41 f' (nI (z_fl S s k)) (nI k) (nI (z_fl S s k)) (z_b q) := by
        intro q hq
        refine h41 _ _ _ _ _ (x_addPlace (by omega) (fun f2' g1 g2 g3 => ?_))
        have Z2 : z_X f2' S := z_Xc Z' (g1 1 (by decide)) (g1 2 (by decide)) (g1 5 (by decide)) (g1 6 (by decide)) (g1 7 (by decide))
        refine x_lengthAt Z2 hs (by omega) (nm_e (nm_e ?_))
        rw [nI_add, nI_1]
        refine ih c f2' (fun k hk => by rw [g1 k hk]; exact f1 k hk) (fun p => ?_)
        show f2' 13 p = z_ap (f 13 p) (if z_fl S s k = p then (if S 4 (8 * s + k) = 0 then 1 else 2) else z_bgk S s p k)
        by_cases e : z_fl S s k = p
        · have z0 : z_bgk S s p k = 0 := z_bgk_0 _ (fun j hj => by have := z_fl_lt W hs hj (Nat.le_of_lt c); omega)
          rw [if_pos e, ← e, g3, f2, e, z0, hq]
          by_cases z : S 4 (8 * s + k) = 0
          · rw [if_pos z, decide_eq_false (fun y => y z)]; rfl
          · rw [if_neg z, decide_eq_true z]; rfl
        · rw [if_neg e, g2 p (fun z => e z.symm), f2 p]
      refine pk_le len (z_fl S s k) (fun c1 => absurd c1 (by omega)) (fun _ => x_pitchAt Z' hs (by omega) ?_)
      have hp60 := (W.2.2.2.1 (8 * s + k) (by omega)).2
      refine pk_le (S 4 (8 * s + k)) 0 (fun z => ?_) (fun z => ?_)
      · exact st false (by rw [decide_eq_false (by omega)])
      · exact st true (by rw [decide_eq_true (by omega)])
  exact key f (fun _ _ => rfl) (fun p => (z_ap0 _).symm)
def z_in (dr k : Nat) : Bool := decide (dr = 5 ∨ dr = k)
def z_bn (S : z_S) (dr b p : Nat) : Nat → Nat := z_cnt (fun k => z_in dr k && decide (0 < z_bg S (12 * k + b) (S 1 b) p))
def z_sn (S : z_S) (dr b p : Nat) : Nat → Nat := z_cnt (fun k => z_in dr k && decide (z_bg S (12 * k + b) (S 1 b) p = 2))
def z_pl (S : z_S) (dr b p : Nat) : Bool := decide (0 < z_bn S dr b p 5)
def z_so (S : z_S) (dr b p m : Nat) : Int32 := if z_bn S dr b p m = 0 then -1 else nI (z_sn S dr b p m)
theorem z_sn_le {S : z_S} {dr b p : Nat} (m : Nat) : z_sn S dr b p m ≤ m := z_cnt_le m
theorem z_cnt_s (p : Nat → Bool) (k : Nat) : z_cnt p (k + 1) = z_cnt p k + (if p k then 1 else 0) := rfl
theorem z_so_s {S : z_S} {dr b p m : Nat} (hm : m < 5) : z_so S dr b p (m + 1) = if z_in dr m then z_ap (z_so S dr b p m) (z_bg S (12 * m + b) (S 1 b) p) else z_so S dr b p m := by
  have h2 := z_bg_le (S := S) (s := 12 * m + b) (len := S 1 b) (p := p)
  have hs := z_sn_le (S := S) (dr := dr) (b := b) (p := p) m
  have eb : z_bn S dr b p (m + 1) = z_bn S dr b p m + (if z_in dr m && decide (0 < z_bg S (12 * m + b) (S 1 b) p) then 1 else 0) := rfl
  have es : z_sn S dr b p (m + 1) = z_sn S dr b p m + (if z_in dr m && decide (z_bg S (12 * m + b) (S 1 b) p = 2) then 1 else 0) := rfl
  unfold z_so
  rw [eb, es]
  cases z_in dr m
  · simp
  · generalize z_bg S (12 * m + b) (S 1 b) p = q at h2
    unfold z_ap
    rcases (show q = 0 ∨ q = 1 ∨ q = 2 by omega) with rfl | rfl | rfl
    · simp
    · by_cases c : z_bn S dr b p m = 0
      · have c' : z_sn S dr b p m = 0 := by
          unfold z_bn at c
          unfold z_sn
          rw [z_cnt_0] at c ⊢
          intro j hj
          have := c j hj
          simp only [Bool.and_eq_false_iff, decide_eq_false_iff_not] at this ⊢
          rcases this with z | z
          · exact Or.inl z
          · exact Or.inr (by omega)
        simp [c, c', nI_0]
      · simp [c, z_nm (show z_sn S dr b p m < 2 ^ 31 by omega)]
    · by_cases c : z_bn S dr b p m = 0
      · have c' : z_sn S dr b p m = 0 := by
          unfold z_bn at c
          unfold z_sn
          rw [z_cnt_0] at c ⊢
          intro j hj
          have := c j hj
          simp only [Bool.and_eq_false_iff, decide_eq_false_iff_not] at this ⊢
          rcases this with z | z
          · exact Or.inl z
          · exact Or.inr (by omega)
        simp [c, c']; rfl
      · simp [c, z_nm (show z_sn S dr b p m < 2 ^ 31 by omega), nI_succ]
def z_nx (p : Nat → Bool) : Nat → Nat → Nat | 0, a => a | d + 1, a => if p a then a else z_nx p d (a + 1)
def z_hv : Nat → Nat → Nat | 0, _ => 0 | d + 1, l => if l ≤ 1 then 0 else z_hv d (l / 2) + 1
theorem z_nx_le {p : Nat → Bool} : ∀ d a, a ≤ z_nx p d a ∧ z_nx p d a ≤ a + d
  | 0, a => ⟨Nat.le_refl _, Nat.le_refl _⟩
  | d + 1, a => by
    have := z_nx_le (p := p) d (a + 1)
    show a ≤ (if p a then a else z_nx p d (a + 1)) ∧ (if p a then a else z_nx p d (a + 1)) ≤ a + (d + 1)
    split <;> omega
theorem z_hv_le : ∀ d l, z_hv d l ≤ d
  | 0, _ => Nat.le_refl _
  | d + 1, l => by
    have := z_hv_le d (l / 2)
    show (if l ≤ 1 then 0 else z_hv d (l / 2) + 1) ≤ d + 1
    split <;> omega
theorem x_nextPlace {f : sx_F} {p len : Nat} {P : Nat → Bool} {Q : Int32 → Prop} (hl : len ≤ 32) (hp : p < len) (hs : ∀ q, q < len → (f 13 q = -1 ↔ P q = false)) (h : Q (nI (z_nx P (len - (p + 1)) (p + 1)))) : P_X5_nextPlace f (nI p) (nI len) Q := by
  intro B4 h4
  refine nm_e ?_
  rw [nI_1]
  have key : ∀ d a, a + d = len → Q (nI (z_nx P d a)) → B4 (nI a) := by
    intro d
    induction d with
    | zero =>
      intro a ha hq
      refine h4 _ (pk_le len a (fun _ => ?_) (fun c => absurd c (by omega)))
      rw [show len = a by omega]; exact hq
    | succ d ih =>
      intro a ha hq
      refine h4 _ (pk_le len a (fun c => absurd c (by omega)) (fun c => ⟨vp_in_nI (by omega) (by omega), ?_⟩))
      rw [nI_clamp (by omega)]
      have e : z_nx P (d + 1) a = if P a then a else z_nx P d (a + 1) := rfl
      rw [e] at hq
      cases hP : P a
      · rw [hP] at hq
        refine ⟨fun _ => nm_e ?_, fun z => absurd ((hs a c).mpr hP) z⟩
        rw [nI_1]; exact ih (a + 1) (by omega) hq
      · rw [hP] at hq
        refine ⟨fun z => ?_, fun _ => hq⟩
        have := (hs a c).mp z
        rw [hP] at this; exact absurd this (by decide)
  exact key (len - (p + 1)) (p + 1) (by omega) h
theorem x_naturalWidth {f : sx_F} {l : Nat} {Q : Int32 → Prop} (hl : l < 2 ^ 6) (h : Q (nI (6 + 3 * z_hv 6 l))) : P_X5_naturalWidth f (nI l) Q := by
  intro B5 h5
  have key : ∀ d l a, l < 2 ^ d → d ≤ 6 → Q (nI (a + 3 * z_hv d l)) → B5 (nI a) (nI l) := by
    intro d
    induction d with
    | zero =>
      intro l a hl _ hq
      exact h5 _ _ (pk_le l 1 (fun _ => hq) (fun c => absurd c (by omega)))
    | succ d ih =>
      intro l a hl hd hq
      have hl' : l < 2 ^ d * 2 := by rw [← Nat.pow_succ]; exact hl
      have h2 : 2 ^ d ≤ 2 ^ 6 := Nat.pow_le_pow_right (by decide) (by omega)
      refine h5 _ _ (pk_le l 1 (fun c => ?_) (fun c => nm_e (nm_e ?_)))
      · rw [show z_hv (d + 1) l = 0 from if_pos c] at hq; exact hq
      · rw [show z_hv (d + 1) l = z_hv d (l / 2) + 1 from if_neg (by omega), show a + 3 * (z_hv d (l / 2) + 1) = (a + 3) + 3 * z_hv d (l / 2) by omega] at hq
        have e : nI l / 2 = nI (l / 2) := pk_div (a := l) (d := 2) (by omega) (by omega) (by omega)
        rw [e]
        rw [show nI a + 3 = nI (a + 3) from nI_add a 3]
        exact ih (l / 2) (a + 3) (by omega) (by omega) hq
  exact key 6 l 6 hl (by omega) h
theorem z_cnt_mono {p : Nat → Bool} {a b : Nat} (h : a ≤ b) : z_cnt p a ≤ z_cnt p b := by
  induction b with
  | zero => rw [show a = 0 by omega]; exact Nat.le_refl _
  | succ b ih =>
    by_cases e : a = b + 1
    · rw [e]; exact Nat.le_refl _
    · rw [z_cnt_s]; exact Nat.le_trans (ih (by omega)) (Nat.le_add_right _ _)
theorem z_cnt_lt {p : Nat → Bool} {a b : Nat} (h : a < b) (hp : p a = true) : z_cnt p a < z_cnt p b := by
  have := z_cnt_mono (p := p) (show a + 1 ≤ b from h)
  rw [z_cnt_s, hp] at this
  exact this
def z_le (S : z_S) (dr b p : Nat) : Nat := 4 + z_sn S dr b p 5
def z_wd (S : z_S) (dr b p : Nat) : Nat := if 6 + 3 * z_hv 6 (z_nx (z_pl S dr b) (S 1 b - (p + 1)) (p + 1) - p) < z_le S dr b p then z_le S dr b p else 6 + 3 * z_hv 6 (z_nx (z_pl S dr b) (S 1 b - (p + 1)) (p + 1) - p)
def z_ws (S : z_S) (dr b : Nat) : Nat → Nat := z_sm (fun p => if z_pl S dr b p then z_wd S dr b p else 0)
def z_ls (S : z_S) (dr b : Nat) : Nat → Nat := z_sm (fun p => if z_pl S dr b p then z_le S dr b p else 0)
def z_pc (S : z_S) (dr b : Nat) : Nat → Nat := z_cnt (z_pl S dr b)
def z_sp (f : sx_F) (S : z_S) (dr b e : Nat) : Prop := f 9 0 = nI (z_pc S dr b e) ∧ (∀ q, q < e → z_pl S dr b q = true → f 10 (z_pc S dr b q) = nI q) ∧ ∀ q, q ≤ e → f 11 (z_pc S dr b q) = nI (z_ws S dr b q) ∧ f 12 (z_pc S dr b q) = nI (z_ls S dr b q)
theorem x_addSpring {f : sx_F} {c : Nat} {x1 x2 x3 : Int32} {Q : sx_F → Prop} (h0 : f 9 0 = nI c) (hc : c < 32) (h : ∀ f' : sx_F, (∀ k, k ≠ 9 → k ≠ 10 → k ≠ 11 → k ≠ 12 → f' k = f k) → f' 9 0 = nI (c + 1) → f' 10 = upd (f 10) c x1 → f' 11 = upd (f 11) (c + 1) (f 11 c + x2) → f' 12 = upd (f 12) (c + 1) (f 12 c + x3) → Q f') : P_X5_addSpring f x1 x2 x3 Q := by
  unfold P_X5_addSpring
  rw [h0, nI_clamp (by omega)]
  refine ⟨vp_in_nI (by omega) (by omega), nm_e ?_⟩
  simp (disch := decide) only [sx_u_n]
  rw [h0, nI_1, nI_clamp (by omega), nI_clamp (by omega)]
  refine ⟨vp_in_nI (by omega) (by omega), vp_in_nI (by omega) (by omega), nm_e ?_⟩
  simp (disch := decide) only [sx_u_n]
  rw [h0, nI_1, nI_clamp (by omega), nI_clamp (by omega)]
  refine ⟨vp_in_nI (by omega) (by omega), vp_in_nI (by omega) (by omega), nm_e (nm_e ?_)⟩
  simp (disch := decide) only [sx_u_n]
  rw [h0, nI_1]
  refine h _ (fun k h9 h10 h11 h12 => by rw [sx_u_n h9, sx_u_n h12, sx_u_n h11, sx_u_n h10]) (by rw [sx_u_s, pk_us]) ?_ ?_ ?_
  · simp (disch := decide) only [sx_u_n, sx_u_s]
  · simp (disch := decide) only [sx_u_n, sx_u_s]
  · simp (disch := decide) only [sx_u_n, sx_u_s]
theorem z_sn_5 {S : z_S} {dr b p : Nat} : z_sn S dr b p 5 ≤ 5 := z_cnt_le 5
theorem x_addSprings {f : sx_F} {S : z_S} {dr b : Nat} {Q : sx_F → Prop} (hl : S 1 b ≤ 32) (h13 : ∀ q, q < S 1 b → f 13 q = z_so S dr b q 5) (h0 : z_sp f S dr b 0) (h : ∀ f' : sx_F, (∀ k, k ≠ 9 → k ≠ 10 → k ≠ 11 → k ≠ 12 → f' k = f k) → z_sp f' S dr b (S 1 b) → Q f') : P_X5_addSprings f (nI (S 1 b)) Q := by
  have so : ∀ q, z_so S dr b q 5 = -1 ↔ z_pl S dr b q = false := fun q => by
    unfold z_so z_pl
    have := z_sn_5 (S := S) (dr := dr) (b := b) (p := q)
    by_cases c : z_bn S dr b q 5 = 0
    · rw [if_pos c, decide_eq_false (by omega)]; exact ⟨fun _ => rfl, fun _ => rfl⟩
    · rw [if_neg c, decide_eq_true (by omega)]; exact ⟨fun z => absurd z (z_nm (by omega)), fun z => absurd z (by decide)⟩
  intro B2 B51 h2 h51
  have key : ∀ f' : sx_F, (∀ k, k ≠ 9 → k ≠ 10 → k ≠ 11 → k ≠ 12 → f' k = f k) → z_sp f' S dr b 0 → B2 f' (nI 0) := by
    refine z_up (B := fun p => ∀ f' : sx_F, (∀ k, k ≠ 9 → k ≠ 10 → k ≠ 11 → k ≠ 12 → f' k = f k) → z_sp f' S dr b p → B2 f' (nI p)) (S 1 b) (fun p hp ih => ?_)
    intro f' f1 f2
    refine h2 _ _ (pk_le (S 1 b) p (fun c => ?_) (fun c => ?_))
    · rw [show p = S 1 b by omega] at f2; exact h f' f1 f2
    have hcp : z_pc S dr b p ≤ p := z_cnt_le p
    rw [nI_clamp (n := p) (by omega), f1 13 (by decide) (by decide) (by decide) (by decide), h13 p c]
    have epc : z_pc S dr b (p + 1) = z_pc S dr b p + (if z_pl S dr b p then 1 else 0) := rfl
    have ews : z_ws S dr b (p + 1) = z_ws S dr b p + (if z_pl S dr b p then z_wd S dr b p else 0) := rfl
    have els : z_ls S dr b (p + 1) = z_ls S dr b p + (if z_pl S dr b p then z_le S dr b p else 0) := rfl
    refine ⟨vp_in_nI (by omega) (by omega), fun z => ?_, fun z => ⟨vp_in_nI (by omega) (by omega), nm_e ?_⟩⟩
    · have e := (so p).mp z
      rw [e] at epc ews els
      refine h51 _ _ (nm_e ?_)
      rw [nI_1]
      refine ih c f' f1 ⟨by rw [epc]; exact f2.1, fun q hq hq2 => ?_, fun q hq => ?_⟩
      · by_cases eq : q = p
        · rw [eq, e] at hq2; exact absurd hq2 (by decide)
        · exact f2.2.1 q (by omega) hq2
      · by_cases eq : q = p + 1
        · rw [eq, epc, ews, els]; exact f2.2.2 p (Nat.le_refl _)
        · exact f2.2.2 q (by omega)
    · have e : z_pl S dr b p = true := by
        cases y : z_pl S dr b p
        · exact absurd ((so p).mpr y) z
        · rfl
      have sne : z_so S dr b p 5 = nI (z_sn S dr b p 5) := by
        unfold z_so at z ⊢
        split
        · rename_i y; rw [if_pos y] at z; exact absurd rfl z
        · rfl
      rw [e] at epc ews els
      rw [sne, show (4 : Int32) + nI (z_sn S dr b p 5) = nI (z_le S dr b p) from nI_add 4 _]
      have hnx := z_nx_le (p := z_pl S dr b) (S 1 b - (p + 1)) (p + 1)
      refine x_nextPlace (P := z_pl S dr b) hl c (fun q hq => by rw [f1 13 (by decide) (by decide) (by decide) (by decide), h13 q hq]; exact so q) ?_
      rw [pk_sub (by omega)]
      refine x_naturalWidth (by omega) ?_
      have hhv := z_hv_le 6 (z_nx (z_pl S dr b) (S 1 b - (p + 1)) (p + 1) - p)
      have h5 := z_sn_5 (S := S) (dr := dr) (b := b) (p := p)
      have ewd : (if nI (6 + 3 * z_hv 6 (z_nx (z_pl S dr b) (S 1 b - (p + 1)) (p + 1) - p)) < nI (z_le S dr b p) then nI (z_le S dr b p) else nI (6 + 3 * z_hv 6 (z_nx (z_pl S dr b) (S 1 b - (p + 1)) (p + 1) - p))) = nI (z_wd S dr b p) := by
        unfold z_wd
        by_cases y : 6 + 3 * z_hv 6 (z_nx (z_pl S dr b) (S 1 b - (p + 1)) (p + 1) - p) < z_le S dr b p
        · rw [if_pos y, if_pos (nI_lt y (by unfold z_le; omega))]
        · rw [if_neg y, if_neg (nI_nlt (by omega) (by omega))]
      rw [ewd]
      refine x_addSpring f2.1 (by omega) (fun f3 g1 g2 g3 g4 g5 => h51 _ _ (nm_e ?_))
      rw [nI_1]
      refine ih c f3 (fun k a1 a2 a3 a4 => by rw [g1 k a1 a2 a3 a4]; exact f1 k a1 a2 a3 a4) ⟨by rw [epc]; exact g2, fun q hq hq2 => ?_, fun q hq => ?_⟩
      · rw [g3]
        by_cases eq : q = p
        · rw [eq, pk_us]
        · have := z_cnt_lt (p := z_pl S dr b) (show q < p by omega) hq2
          rw [pk_un (by show z_cnt (z_pl S dr b) q ≠ z_cnt (z_pl S dr b) p; omega)]
          exact f2.2.1 q (by omega) hq2
      · rw [g4, g5]
        by_cases eq : q = p + 1
        · rw [eq, epc, ews, els]
          simp only [if_true]
          rw [pk_us, pk_us, (f2.2.2 p (Nat.le_refl _)).1, (f2.2.2 p (Nat.le_refl _)).2, nI_add, nI_add]
          exact ⟨rfl, rfl⟩
        · have := z_cnt_mono (p := z_pl S dr b) (show q ≤ p by omega)
          have ne : z_pc S dr b q ≠ z_pc S dr b p + 1 := by show z_cnt (z_pl S dr b) q ≠ z_cnt (z_pl S dr b) p + 1; omega
          rw [pk_un ne, pk_un ne]
          exact f2.2.2 q (by omega)
  exact key f (fun _ _ _ _ _ => rfl) h0
theorem x_fill {f : sx_F} {k0 N : Nat} {v : Int32} {Q : sx_F → Prop} (hN : N < 1000) (h : ∀ f' : sx_F, (∀ k, k ≠ k0 → f' k = f k) → (∀ x, x < N → f' k0 x = v) → Q f') : P_J7_fill_53178 f k0 N v Q := by
  intro B5 h5
  refine nm_e ?_
  have key : ∀ f' : sx_F, (∀ k, k ≠ k0 → f' k = f k) → (∀ x, x < 0 → f' k0 x = v) → B5 f' (nI 0) (nI N) := by
    refine z_up (B := fun i => ∀ f' : sx_F, (∀ k, k ≠ k0 → f' k = f k) → (∀ x, x < i → f' k0 x = v) → B5 f' (nI i) (nI N)) N (fun i hi ih => ?_)
    intro f' f1 f2
    refine h5 _ _ _ (pk_le N i (fun c => h f' f1 (fun x hx => f2 x (by omega))) (fun c => ⟨vp_in_nI (by omega) (by omega), nm_e (nm_e ?_)⟩))
    rw [nI_1, nI_clamp (by omega)]
    refine ih c _ (fun k hk => by rw [sx_u_n hk]; exact f1 k hk) (fun x hx => ?_)
    rw [sx_u_s]
    by_cases e : x = i
    · rw [e, pk_us]
    · rw [pk_un e]; exact f2 x (by omega)
  exact key f (fun _ _ => rfl) (fun x hx => absurd hx (by omega))
def z_dn (f : sx_F) (S : z_S) (dr b : Nat) : Prop := f 11 0 = 0 ∧ f 12 0 = 0 ∧ ((dr = 6 ∧ f 9 0 = 1 ∧ f 10 0 = 0 ∧ f 11 1 = 24 ∧ f 12 1 = 16) ∨ (dr ≠ 6 ∧ z_sp f S dr b (S 1 b)))
theorem x_draw {f : sx_F} {S : z_S} {dr b : Nat} {Q : sx_F → Prop} (Z : z_X f S) (W : z_W S) (hd : dr ≤ 6) (hb : b < S 0 0) (h11 : f 11 0 = 0) (h12 : f 12 0 = 0) (h : ∀ f' : sx_F, (∀ k, k ≠ 9 → k ≠ 10 → k ≠ 11 → k ≠ 12 → k ≠ 13 → f' k = f k) → z_dn f' S dr b → Q f') : P_X5_draw f (z_dr dr) (nI b) Q := by
  have hn := W.1
  have hlen := W.2.1 b hb
  intro B31 B48 B65 h31 h48 h65
  refine nm_e ?_
  by_cases e6 : dr = 6
  · rw [e6]
    refine ⟨fun _ => ?_, fun c => absurd rfl c⟩
    refine x_addSpring (c := 0) (by rw [sx_u_s, pk_us]; rfl) (by omega) (fun f' g1 g2 g3 g4 g5 => h f' (fun k h9 h10 h11 h12 h13 => by rw [g1 k h9 h10 h11 h12, sx_u_n h9]) ?_)
    refine ⟨?_, ?_, Or.inl ⟨e6, g2, ?_, ?_, ?_⟩⟩
    · rw [g4, pk_un (by decide), sx_u_n (by decide)]; exact h11
    · rw [g5, pk_un (by decide), sx_u_n (by decide)]; exact h12
    · rw [g3, pk_us]
    · rw [g4, pk_us, sx_u_n (by decide), h11]; rfl
    · rw [g5, pk_us, sx_u_n (by decide), h12]; rfl
  · have ed : z_dr dr = nI dr := z_drn e6
    rw [ed] at h31 ⊢
    refine ⟨fun c => absurd c (z_nm (by omega)), fun _ => x_fill (by omega) (fun f0 a1 a2 => ?_)⟩
    have key : ∀ f' : sx_F, (∀ k, k ≠ 9 → k ≠ 13 → f' k = f k) → f' 9 0 = 0 → (∀ q, q < S 1 b → f' 13 q = z_so S dr b q 0) → B31 f' (nI 0) := by
      refine z_up (B := fun i => ∀ f' : sx_F, (∀ k, k ≠ 9 → k ≠ 13 → f' k = f k) → f' 9 0 = 0 → (∀ q, q < S 1 b → f' 13 q = z_so S dr b q i) → B31 f' (nI i)) 5 (fun i hi ih => ?_)
      intro f' f1 f2 f3
      have Z' : z_X f' S := z_Xc Z (f1 1 (by decide) (by decide)) (f1 2 (by decide) (by decide)) (f1 5 (by decide) (by decide)) (f1 6 (by decide) (by decide)) (f1 7 (by decide) (by decide))
      refine h31 _ _ (pk_le 5 i (fun c => ⟨vp_in_nI (by omega) (by omega), ?_⟩) (fun c => ?_))
      · rw [nI_clamp (by omega), Z'.2.1 b (by omega)]
        have e5 : i = 5 := by omega
        subst e5
        refine x_addSprings (dr := dr) hlen.2 f3 ⟨f2, fun q hq => absurd hq (by omega), fun q hq => ?_⟩ (fun f4 g1 g2 => h f4 (fun k h9 h10 h11 h12 h13 => by rw [g1 k h9 h10 h11 h12]; exact f1 k h9 h13) ?_)
        · rw [show q = 0 by omega]
          exact ⟨by rw [show z_pc S dr b 0 = 0 from rfl, f1 11 (by decide) (by decide), h11]; rfl, by rw [show z_pc S dr b 0 = 0 from rfl, f1 12 (by decide) (by decide), h12]; rfl⟩
        · exact ⟨(g2.2.2 0 (by omega)).1, (g2.2.2 0 (by omega)).2, Or.inr ⟨e6, g2⟩⟩
      · have go : z_in dr i = true → B48 f' (nI i) := fun z => h48 _ _ (x_slotOf ⟨vp_in_nI (by omega) (by omega), by
          rw [nI_clamp (by omega), Z'.2.1 b (by omega)]
          refine x_addPlaces Z' W (by omega) hlen.2 (W.2.2.2.2.2.1 i b c hb) (fun f4 g1 g2 => h65 _ _ (nm_e ?_))
          rw [nI_1]
          refine ih c f4 (fun k h9 h13 => by rw [g1 k h13]; exact f1 k h9 h13) (by rw [g1 9 (by decide)]; exact f2) (fun q hq => ?_)
          rw [g2 q hq, f3 q hq, z_so_s c, z, if_pos rfl]⟩)
        have pass : z_in dr i = false → B65 f' (nI i) := fun z => h65 _ _ (nm_e (by
          rw [nI_1]
          refine ih c f' f1 f2 (fun q hq => ?_)
          rw [f3 q hq, z_so_s c, z]; rfl))
        refine pk_eq dr 5 (fun c5 => go (decide_eq_true (Or.inl c5))) (fun c5 => pk_eq dr i (fun ci => go (decide_eq_true (Or.inr ci))) (fun ci => pass (decide_eq_false (fun y => y.elim c5 ci))))
    exact key f0 (fun k h9 h13 => by rw [a1 k h13, sx_u_n h9]) (by rw [a1 9 (by decide), sx_u_s, pk_us]) (fun q hq => by rw [a2 q (by omega)]; rfl)
def z_new (S : z_S) (bk b : Nat) : Bool := decide (¬ (0 < b ∧ z_drw S bk b = 6 ∧ z_drw S bk (b - 1) = 6))
def z_it (S : z_S) (bk : Nat) : Nat → Nat := z_cnt (z_new S bk)
def z_Wb (S : z_S) (dr b : Nat) : Nat := if dr = 6 then 24 else z_ws S dr b (S 1 b)
def z_Lb (S : z_S) (dr b : Nat) : Nat := if dr = 6 then 16 else z_ls S dr b (S 1 b)
def z_wsum (S : z_S) (bk : Nat) : Nat → Nat := z_sm (fun b => if z_new S bk b then z_Wb S (z_drw S bk b) b else 0)
def z_lsum (S : z_S) (bk : Nat) : Nat → Nat := z_sm (fun b => if z_new S bk b then z_Lb S (z_drw S bk b) b else 0)
def z_G (f : sx_F) (S : z_S) (bk e : Nat) : Prop := f 8 3 = nI (z_it S bk e) ∧ (∀ b, b < e → z_new S bk b = true → f 14 (z_it S bk b) = nI b ∧ f 16 (z_it S bk b) = z_dr (z_drw S bk b)) ∧ (∀ b, b < e → f 15 b = nI (z_it S bk (b + 1) - 1)) ∧ (∀ b, b ≤ e → f 17 (z_it S bk b) = nI (z_wsum S bk b) ∧ f 18 (z_it S bk b) = nI (z_lsum S bk b)) ∧ (0 < e → f 16 (z_it S bk e - 1) = z_dr (z_drw S bk (e - 1)))
theorem z_it_s (S : z_S) (bk b : Nat) : z_it S bk (b + 1) = z_it S bk b + (if z_new S bk b then 1 else 0) := rfl
theorem z_new0 (S : z_S) (bk : Nat) : z_new S bk 0 = true := decide_eq_true (fun z => absurd z.1 (by omega))
theorem z_it_pos {S : z_S} {bk e : Nat} (h : 0 < e) : 0 < z_it S bk e := Nat.lt_of_le_of_lt (Nat.zero_le _) (z_cnt_lt (p := z_new S bk) h (z_new0 S bk))
theorem x_widthOfAll {f : sx_F} {S : z_S} {dr b : Nat} {Q : Int32 → Prop} (hl : S 1 b ≤ 32) (h : z_dn f S dr b) (hq : Q (nI (z_Wb S dr b))) : P_X5_widthOfAll f Q := by
  unfold P_X5_widthOfAll
  rcases h.2.2 with ⟨h1, h2, h3, h4, h5⟩ | ⟨h1, h2, h3, h4⟩
  · rw [h2]
    exact ⟨by unfold vp_in; decide, by rw [show (1 : Int32).toNatClampNeg = 1 by decide, h4]; rw [show z_Wb S dr b = 24 from if_pos h1] at hq; exact hq⟩
  · have := z_cnt_le (p := z_pl S dr b) (S 1 b)
    have e : z_pc S dr b (S 1 b) ≤ S 1 b := this
    rw [h2, nI_clamp (by omega), (h4 _ (Nat.le_refl _)).1]
    rw [show z_Wb S dr b = z_ws S dr b (S 1 b) from if_neg h1] at hq
    exact ⟨vp_in_nI (by omega) (by omega), hq⟩
theorem x_leastOfAll {f : sx_F} {S : z_S} {dr b : Nat} {Q : Int32 → Prop} (hl : S 1 b ≤ 32) (h : z_dn f S dr b) (hq : Q (nI (z_Lb S dr b))) : P_X5_leastOfAll f Q := by
  unfold P_X5_leastOfAll
  rcases h.2.2 with ⟨h1, h2, h3, h4, h5⟩ | ⟨h1, h2, h3, h4⟩
  · rw [h2]
    exact ⟨by unfold vp_in; decide, by rw [show (1 : Int32).toNatClampNeg = 1 by decide, h5]; rw [show z_Lb S dr b = 16 from if_pos h1] at hq; exact hq⟩
  · have := z_cnt_le (p := z_pl S dr b) (S 1 b)
    have e : z_pc S dr b (S 1 b) ≤ S 1 b := this
    rw [h2, nI_clamp (by omega), (h4 _ (Nat.le_refl _)).2]
    rw [show z_Lb S dr b = z_ls S dr b (S 1 b) from if_neg h1] at hq
    exact ⟨vp_in_nI (by omega) (by omega), hq⟩
theorem z_dn.cg {f f' : sx_F} {S : z_S} {dr b : Nat} (h : z_dn f S dr b) (h9 : f' 9 = f 9) (h10 : f' 10 = f 10) (h11 : f' 11 = f 11) (h12 : f' 12 = f 12) : z_dn f' S dr b := by
  unfold z_dn z_sp at h ⊢
  rw [h9, h10, h11, h12]
  exact h
theorem x_addItem {f : sx_F} {S : z_S} {dr b c : Nat} {Q : sx_F → Prop} (Z : z_X f S) (W : z_W S) (hd : dr ≤ 6) (hb : b < S 0 0) (h11 : f 11 0 = 0) (h12 : f 12 0 = 0) (h8 : f 8 3 = nI c) (hc : c < 12) (h : ∀ f' : sx_F, (∀ k, (k ≤ 7 ∨ k = 15 ∨ 19 ≤ k) → f' k = f k) → f' 11 0 = 0 → f' 12 0 = 0 → f' 8 2 = f 8 2 → f' 8 3 = nI (c + 1) → f' 14 = upd (f 14) c (nI b) → f' 16 = upd (f 16) c (z_dr dr) → f' 17 = upd (f 17) (c + 1) (f 17 c + nI (z_Wb S dr b)) → f' 18 = upd (f 18) (c + 1) (f 18 c + nI (z_Lb S dr b)) → Q f') : P_X0_addItem f (nI b) (z_dr dr) Q := by
  have hn := W.1
  have hlen := W.2.1 b hb
  unfold P_X0_addItem
  rw [h8, nI_clamp (by omega)]
  refine ⟨vp_in_nI (by omega) (by omega), nm_e ?_⟩
  rw [sx_u_n (by decide : (8 : Nat) ≠ 14), h8, nI_clamp (by omega)]
  refine ⟨vp_in_nI (by omega) (by omega), nm_e (x_draw (z_Xu (z_Xu Z (by decide)) (by decide)) W hd hb (by rw [sx_u_n (by decide), sx_u_n (by decide)]; exact h11) (by rw [sx_u_n (by decide), sx_u_n (by decide)]; exact h12) (fun g3 g1 g2 => ?_))⟩
  have e8 : g3 8 = f 8 := by rw [g1 8 (by decide) (by decide) (by decide) (by decide) (by decide), sx_u_n (by decide), sx_u_n (by decide)]
  rw [show g3 8 3 = nI c by rw [e8]; exact h8, nI_1, nI_clamp (by omega), nI_clamp (by omega)]
  refine ⟨vp_in_nI (by omega) (by omega), x_widthOfAll hlen.2 g2 ⟨vp_in_nI (by omega) (by omega), nm_e ?_⟩⟩
  rw [sx_u_n (by decide : (8 : Nat) ≠ 17), e8, h8, nI_1, nI_clamp (by omega), nI_clamp (by omega)]
  refine ⟨vp_in_nI (by omega) (by omega), x_leastOfAll hlen.2 (g2.cg (sx_u_n (by decide)) (sx_u_n (by decide)) (sx_u_n (by decide)) (sx_u_n (by decide))) ⟨vp_in_nI (by omega) (by omega), nm_e (nm_e ?_)⟩⟩
  rw [show (sx_u (sx_u g3 17 (c + 1) (g3 17 c + nI (z_Wb S dr b))) 18 (c + 1) ((sx_u g3 17 (c + 1) (g3 17 c + nI (z_Wb S dr b))) 18 c + nI (z_Lb S dr b))) 8 3 = nI c by rw [sx_u_n (by decide), sx_u_n (by decide), e8, h8], nI_1]
  have gk : ∀ k, k ≠ 9 → k ≠ 10 → k ≠ 11 → k ≠ 12 → k ≠ 13 → k ≠ 14 → k ≠ 16 → g3 k = f k := fun k a1 a2 a3 a4 a5 a6 a7 => by rw [g1 k a1 a2 a3 a4 a5, sx_u_n a7, sx_u_n a6]
  refine h _ (fun k hk => ?_) ?_ ?_ ?_ ?_ ?_ ?_ ?_ ?_
  · rw [sx_u_n (by omega), sx_u_n (by omega), sx_u_n (by omega)]
    exact gk k (by omega) (by omega) (by omega) (by omega) (by omega) (by omega) (by omega)
  · rw [sx_u_n (by decide), sx_u_n (by decide), sx_u_n (by decide)]; exact g2.1
  · rw [sx_u_n (by decide), sx_u_n (by decide), sx_u_n (by decide)]; exact g2.2.1
  · rw [sx_u_s, pk_un (by decide), sx_u_n (by decide), sx_u_n (by decide), e8]
  · rw [sx_u_s, pk_us]
  · rw [sx_u_n (by decide), sx_u_n (by decide), sx_u_n (by decide), g1 14 (by decide) (by decide) (by decide) (by decide) (by decide), sx_u_n (by decide), sx_u_s]
  · rw [sx_u_n (by decide), sx_u_n (by decide), sx_u_n (by decide), g1 16 (by decide) (by decide) (by decide) (by decide) (by decide), sx_u_s, sx_u_n (by decide)]
  · rw [sx_u_n (by decide), sx_u_n (by decide), sx_u_s, gk 17 (by decide) (by decide) (by decide) (by decide) (by decide) (by decide) (by decide)]
  · rw [sx_u_n (by decide), sx_u_s, sx_u_n (by decide), gk 18 (by decide) (by decide) (by decide) (by decide) (by decide) (by decide) (by decide)]
theorem x_gather {f : sx_F} {S : z_S} {bk : Nat} {Q : sx_F → Prop} (Z : z_X f S) (W : z_W S) (hbk : bk ≤ 5) (h11 : f 11 0 = 0) (h12 : f 12 0 = 0) (h17 : f 17 0 = 0) (h18 : f 18 0 = 0) (h : ∀ f' : sx_F, (∀ k, (k ≤ 7 ∨ 19 ≤ k) → f' k = f k) → f' 11 0 = 0 → f' 12 0 = 0 → f' 8 2 = nI bk → z_G f' S bk (S 0 0) → Q f') : P_X0_gather f (nI bk) Q := by
  have hn := W.1
  intro B12 B60 B61 B74 b12 b60 b61 b74
  refine nm_e (nm_e ?_)
  have key : ∀ f' : sx_F, (∀ k, (k ≤ 7 ∨ 19 ≤ k) → f' k = f k) → f' 11 0 = 0 → f' 12 0 = 0 → f' 8 2 = nI bk → z_G f' S bk 0 → B12 f' (nI 0) := by
    refine z_up (B := fun e => ∀ f' : sx_F, (∀ k, (k ≤ 7 ∨ 19 ≤ k) → f' k = f k) → f' 11 0 = 0 → f' 12 0 = 0 → f' 8 2 = nI bk → z_G f' S bk e → B12 f' (nI e)) (S 0 0) (fun e he ih => ?_)
    intro f' f1 f2 f3 f4 f5
    have Z' : z_X f' S := z_Xc Z (f1 1 (by decide)) (f1 2 (by decide)) (f1 5 (by decide)) (f1 6 (by decide)) (f1 7 (by decide))
    refine b12 _ _ ?_
    rw [Z'.1]
    refine pk_le (S 0 0) e (fun c => h f' f1 f2 f3 f4 (by rw [show S 0 0 = e by omega]; exact f5)) (fun c => x_drawerOf Z' W hbk c f4 ?_)
    have hdr := z_drw_le (S := S) (bk := bk) (b := e) hbk
    have hit : z_it S bk e ≤ e := z_cnt_le e
    obtain ⟨g1, g2, g3, g4, g5⟩ := f5
    have eit := z_it_s S bk e
    have ews : z_wsum S bk (e + 1) = z_wsum S bk e + (if z_new S bk e then z_Wb S (z_drw S bk e) e else 0) := rfl
    have els : z_lsum S bk (e + 1) = z_lsum S bk e + (if z_new S bk e then z_Lb S (z_drw S bk e) e else 0) := rfl
    -- behind the item, the bar's own
    have tail : ∀ f2' : sx_F, (∀ k, (k ≤ 7 ∨ 19 ≤ k) → f2' k = f k) → f2' 11 0 = 0 → f2' 12 0 = 0 → f2' 8 2 = nI bk → f2' 15 = f' 15 → f2' 8 3 = nI (z_it S bk (e + 1)) → (∀ b, b < e + 1 → z_new S bk b = true → f2' 14 (z_it S bk b) = nI b ∧ f2' 16 (z_it S bk b) = z_dr (z_drw S bk b)) → (∀ b, b ≤ e + 1 → f2' 17 (z_it S bk b) = nI (z_wsum S bk b) ∧ f2' 18 (z_it S bk b) = nI (z_lsum S bk b)) → f2' 16 (z_it S bk (e + 1) - 1) = z_dr (z_drw S bk e) → B74 f2' (nI e) := by
      intro f2' a1 a2 a3 a4 a5 a6 a7 a8 a9
      have hp := z_it_pos (S := S) (bk := bk) (show 0 < e + 1 by omega)
      refine b74 _ _ ⟨vp_in_nI (by omega) (by omega), nm_e (nm_e ?_)⟩
      rw [nI_1, nI_clamp (by omega), a6, show nI (z_it S bk (e + 1)) - 1 = nI (z_it S bk (e + 1) - 1) from pk_sub (a := z_it S bk (e + 1)) (b := 1) (by omega)]
      refine ih c _ (fun k hk => by rw [sx_u_n (by omega)]; exact a1 k hk) (by rw [sx_u_n (by decide)]; exact a2) (by rw [sx_u_n (by decide)]; exact a3) (by rw [sx_u_n (by decide)]; exact a4) ⟨by rw [sx_u_n (by decide)]; exact a6, fun b hb hb2 => by rw [sx_u_n (by decide), sx_u_n (by decide)]; exact a7 b hb hb2, fun b hb => ?_, fun b hb => by rw [sx_u_n (by decide), sx_u_n (by decide)]; exact a8 b hb, fun _ => by rw [sx_u_n (by decide)]; exact a9⟩
      rw [sx_u_s]
      by_cases eb : b = e
      · rw [eb, pk_us]
      · rw [pk_un eb, a5]; exact g3 b (by omega)
    have isnew : z_new S bk e = true → B61 f' (nI e) (z_dr (z_drw S bk e)) 0 := fun hnw => by
      refine b61 _ _ _ _ ⟨fun _ => x_addItem Z' W hdr c f2 f3 g1 (by omega) (fun f2' a1 a2 a3 a4 a5 a6 a7 a8 a9 => ?_), fun z => absurd rfl z⟩
      rw [hnw] at eit ews els
      simp only [if_true] at eit ews els
      refine tail f2' (fun k hk => by rw [a1 k (by omega)]; exact f1 k hk) a2 a3 (by rw [a4]; exact f4) (a1 15 (by omega)) (by rw [eit]; exact a5) (fun b hb hb2 => ?_) (fun b hb => ?_) ?_
      · rw [a6, a7]
        by_cases eb : b = e
        · rw [eb, pk_us, pk_us]; exact ⟨rfl, rfl⟩
        · have := z_cnt_lt (p := z_new S bk) (show b < e by omega) hb2
          have ne : z_it S bk b ≠ z_it S bk e := by show z_cnt (z_new S bk) b ≠ z_cnt (z_new S bk) e; omega
          rw [pk_un ne, pk_un ne]
          exact g2 b (by omega) hb2
      · rw [a8, a9]
        by_cases eb : b = e + 1
        · rw [eb, eit, pk_us, pk_us, ews, els, (g4 e (Nat.le_refl _)).1, (g4 e (Nat.le_refl _)).2, nI_add, nI_add]
          exact ⟨rfl, rfl⟩
        · have := z_cnt_mono (p := z_new S bk) (show b ≤ e by omega)
          have ne : z_it S bk b ≠ z_it S bk e + 1 := by show z_cnt (z_new S bk) b ≠ z_cnt (z_new S bk) e + 1; omega
          rw [pk_un ne, pk_un ne]
          exact g4 b (by omega)
      · rw [eit, a7, show z_it S bk e + 1 - 1 = z_it S bk e by omega, pk_us]
    have old : z_drw S bk e = 6 → 0 < e → z_drw S bk (e - 1) = 6 → B61 f' (nI e) (z_dr (z_drw S bk e)) 1 := fun d1 d2 d3 => b61 _ _ _ _ ⟨fun z => absurd z (by decide), fun _ => by
      have hnw : z_new S bk e = false := decide_eq_false (fun z => z ⟨d2, d1, d3⟩)
      rw [hnw] at eit ews els
      refine tail f' f1 f2 f3 f4 rfl (by rw [eit]; exact g1) (fun b hb hb2 => ?_) (fun b hb => ?_) ?_
      · by_cases eb : b = e
        · rw [eb, hnw] at hb2; exact absurd hb2 (by decide)
        · exact g2 b (by omega) hb2
      · by_cases eb : b = e + 1
        · rw [eb, eit, ews, els]; exact g4 e (Nat.le_refl _)
        · exact g4 b (by omega)
      · rw [eit]
        have := g5 d2
        rw [d3, ← d1] at this
        exact this⟩
    have n60 : z_new S bk e = true → B60 f' (nI e) (z_dr (z_drw S bk e)) := fun z => b60 _ _ _ (isnew z)
    refine ⟨fun z => ?_, fun z => n60 (decide_eq_true (fun y => z ((z_dr_m1 hdr).mpr y.2.1)))⟩
    have d1 := (z_dr_m1 hdr).mp z
    rw [g1]
    refine pk_le _ 0 (fun z1 => ?_) (fun z1 => ?_)
    · have e0 : e = 0 := Nat.eq_zero_of_not_pos (fun z2 => by have := z_it_pos (S := S) (bk := bk) z2; omega)
      exact n60 (decide_eq_true (fun y => by omega))
    · have ep : 0 < e := Nat.pos_of_ne_zero (fun y => by rw [y] at z1; exact absurd (show 0 < 0 from z1) (Nat.lt_irrefl 0))
      rw [show nI (z_it S bk e) - 1 = nI (z_it S bk e - 1) from pk_sub (a := z_it S bk e) (b := 1) (by omega), nI_clamp (by omega), g5 ep]
      have hdr2 := z_drw_le (S := S) (bk := bk) (b := e - 1) hbk
      refine ⟨vp_in_nI (by omega) (by omega), fun y => old d1 ep ((z_dr_m1 hdr2).mp y), fun y => n60 (decide_eq_true (fun w => y ((z_dr_m1 hdr2).mpr w.2.2)))⟩
  refine key _ (fun k hk => by rw [sx_u_n (by omega), sx_u_n (by omega)]) (by rw [sx_u_n (by decide), sx_u_n (by decide)]; exact h11) (by rw [sx_u_n (by decide), sx_u_n (by decide)]; exact h12) (by rw [sx_u_s, pk_un (by decide), sx_u_s, pk_us]) ⟨by rw [sx_u_s, pk_us]; rfl, fun b hb => absurd hb (by omega), fun b hb => absurd hb (by omega), fun b hb => ?_, fun z => absurd z (by omega)⟩
  rw [show b = 0 by omega, sx_u_n (by decide), sx_u_n (by decide), sx_u_n (by decide), sx_u_n (by decide)]
  exact ⟨h17, h18⟩
def z_H (g : sx_F) (S : z_S) (bk e : Nat) : Prop := g 0 20 = nI (z_it S bk e) ∧ (∀ b, b < e → z_new S bk b = true → g 13 (z_it S bk b) = nI b ∧ g 15 (z_it S bk b) = z_dr (z_drw S bk b)) ∧ ∀ b, b < e → (b + 1 = e ∨ z_new S bk (b + 1) = true) → g 14 (z_it S bk (b + 1) - 1) = nI b
