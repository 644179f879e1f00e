/-! PURE: the score as numbers. S 0 0 bars, S 1 k lengths, S 2 s counts, S 3 j note lengths, S 4 j pitches -/
abbrev z_S : Type := Nat → Nat → Nat
def z_fl (S : z_S) (s : Nat) : Nat → Nat | 0 => 0 | k + 1 => z_fl S s k + S 3 (8 * s + k)
def z_tm (S : z_S) : Nat → Nat | 0 => 0 | k + 1 => z_tm S k + S 1 k
def z_b (p : Bool) : Int32 := if p then 1 else 0
def z_sk (S : z_S) (s k : Nat) : Bool := decide (∀ j, j < k → S 4 (8 * s + j) = 0)
def z_sil (S : z_S) (s : Nat) : Bool := z_sk S s (S 2 s)
def z_X (f : sx_F) (S : z_S) : Prop := f 1 0 = nI (S 0 0) ∧ (∀ k, k < 12 → f 2 k = nI (S 1 k)) ∧ (∀ s, s < 60 → f 5 s = nI (S 2 s)) ∧ (∀ j, j < 480 → f 6 j = nI (S 3 j)) ∧ (∀ j, j < 480 → f 7 j = nI (S 4 j))
def z_M (g : sx_F) (S : z_S) : Prop := g 0 5 = nI (S 0 0) ∧ (∀ k, k < 12 → g 1 k = nI (S 1 k)) ∧ (∀ s, s < 60 → g 4 s = nI (S 2 s)) ∧ (∀ j, j < 480 → g 2 j = nI (S 3 j)) ∧ (∀ j, j < 480 → g 3 j = nI (S 4 j))
def z_W (S : z_S) : Prop := S 0 0 ≤ 12 ∧ (∀ k, k < S 0 0 → 1 ≤ S 1 k ∧ S 1 k ≤ 32) ∧ (∀ s, s < 60 → S 2 s ≤ 8) ∧ (∀ j, j < 480 → S 3 j ≤ 32 ∧ S 4 j ≤ 60) ∧ (∀ s k, s < 60 → k < S 2 s → 1 ≤ S 3 (8 * s + k)) ∧ (∀ i b, i < 5 → b < S 0 0 → z_fl S (12 * i + b) (S 2 (12 * i + b)) ≤ S 1 b) ∧ (∀ i b, i < 5 → b < 12 → S 0 0 ≤ b → S 2 (12 * i + b) = 0)
theorem z_Xc {f f' : sx_F} {S : z_S} (Z : z_X f S) (h1 : f' 1 = f 1) (h2 : f' 2 = f 2) (h5 : f' 5 = f 5) (h6 : f' 6 = f 6) (h7 : f' 7 = f 7) : z_X f' S := by
  unfold z_X
  rw [h1, h2, h5, h6, h7]
  exact Z
theorem z_Xu {f : sx_F} {S : z_S} {k j : Nat} {v : Int32} (Z : z_X f S) (h : 1 ≠ k ∧ 2 ≠ k ∧ 5 ≠ k ∧ 6 ≠ k ∧ 7 ≠ k) : z_X (sx_u f k j v) S :=
  z_Xc Z (sx_u_n h.1) (sx_u_n h.2.1) (sx_u_n h.2.2.1) (sx_u_n h.2.2.2.1) (sx_u_n h.2.2.2.2)
theorem z_l0 : (0 : Int32) = nI 0 := rfl
theorem z_l1 : (1 : Int32) = nI 1 := rfl
theorem z_l2 : (2 : Int32) = nI 2 := rfl
theorem z_l3 : (3 : Int32) = nI 3 := rfl
theorem z_l4 : (4 : Int32) = nI 4 := rfl
theorem z_l5 : (5 : Int32) = nI 5 := rfl
theorem z_l6 : (6 : Int32) = nI 6 := rfl
theorem z_l8 : (8 : Int32) = nI 8 := rfl
theorem z_l9 : (9 : Int32) = nI 9 := rfl
theorem z_l12 : (12 : Int32) = nI 12 := rfl
theorem z_l16 : (16 : Int32) = nI 16 := rfl
theorem z_l32 : (32 : Int32) = nI 32 := rfl
theorem z_l60 : (60 : Int32) = nI 60 := rfl
theorem z_vin {n N : Nat} (h : n < N) (hN : N < 2 ^ 31) : vp_in (nI n) N ↔ True := ⟨fun _ => trivial, fun _ => vp_in_nI h hN⟩
theorem z_slot (i b : Nat) : nI i * 12 + nI b = nI (12 * i + b) := by
  rw [z_l12, pk_mul, nI_add, Nat.mul_comm]
theorem z_cell (i b : Nat) : 12 * nI i + nI b = nI (12 * i + b) := by
  rw [z_l12, pk_mul, nI_add]
theorem z_at (s k : Nat) : nI s * 8 + nI k = nI (8 * s + k) := by
  rw [z_l8, pk_mul, nI_add, Nat.mul_comm]
theorem z_at' (s k : Nat) : 8 * nI s + nI k = nI (8 * s + k) := by
  rw [z_l8, pk_mul, nI_add]
/-- from the end of a count down to its beginning -/
theorem z_up {B : Nat → Prop} (N : Nat) (h : ∀ i, i ≤ N → (i < N → B (i + 1)) → B i) : B 0 := by
  have k : ∀ d i, i + d = N → B i := by
    intro d
    induction d with
    | zero => intro i hi; exact h i (by omega) (fun c => absurd c (by omega))
    | succ d ih => intro i hi; exact h i (by omega) (fun _ => ih (i + 1) (by omega))
  exact k N 0 (by omega)
theorem x_slotOf {f : sx_F} {i b : Nat} {Q : Int32 → Prop} (h : Q (nI (12 * i + b))) : P_X6_slotOf f (nI i) (nI b) Q := by
  unfold P_X6_slotOf
  rw [z_slot]
  exact h
theorem x_pitchAt {f : sx_F} {S : z_S} (Z : z_X f S) {s k : Nat} (hs : s < 60) (hk : k < 8) {Q : Int32 → Prop} (h : Q (nI (S 4 (8 * s + k)))) : P_X4_pitchAt f (nI s) (nI k) Q := by
  unfold P_X4_pitchAt
  rw [z_at, nI_clamp (by omega), Z.2.2.2.2 _ (by omega)]
  exact ⟨vp_in_nI (by omega) (by omega), h⟩
theorem x_lengthAt {f : sx_F} {S : z_S} (Z : z_X f S) {s k : Nat} (hs : s < 60) (hk : k < 8) {Q : Int32 → Prop} (h : Q (nI (S 3 (8 * s + k)))) : P_X4_lengthAt f (nI s) (nI k) Q := by
  unfold P_X4_lengthAt
  rw [z_at, nI_clamp (by omega), Z.2.2.2.1 _ (by omega)]
  exact ⟨vp_in_nI (by omega) (by omega), h⟩
theorem x_filled {f : sx_F} {S : z_S} (Z : z_X f S) (W : z_W S) {s : Nat} (hs : s < 60) {Q : Int32 → Prop} (h : Q (nI (z_fl S s (S 2 s)))) : P_X4_filled f (nI s) Q := by
  intro B hB
  have hc := W.2.2.1 s hs
  refine z_up (B := fun k => B (nI (z_fl S s k)) (nI k)) (S 2 s) (fun k hk ih => hB _ _ ⟨vp_in_nI (by omega) (by omega), ?_⟩)
  rw [nI_clamp (by omega), Z.2.2.1 s hs]
  refine pk_le (S 2 s) k (fun c => ?_) (fun c => x_lengthAt Z hs (by omega) (nm_e (nm_e ?_)))
  · have e : k = S 2 s := by omega
    rw [e]; exact h
  · rw [nI_add, nI_1]
    exact ih c
theorem x_isSilent {f : sx_F} {S : z_S} (Z : z_X f S) (W : z_W S) {i b : Nat} (hi : i < 5) (hb : b < 12) {Q : Int32 → Prop} (h : Q (z_b (z_sil S (12 * i + b)))) : P_X4_isSilent f (nI i) (nI b) Q := by
  intro B hB
  refine x_slotOf ?_
  have hs : 12 * i + b < 60 := by omega
  generalize 12 * i + b = s at hs h
  have hc := W.2.2.1 s hs
  have key : (∀ k, k < 0 → S 4 (8 * s + k) = 0) → B (nI s) (nI 0) := by
    refine z_up (B := fun k => (∀ j, j < k → S 4 (8 * s + j) = 0) → B (nI s) (nI k)) (S 2 s) (fun k hk ih => ?_)
    intro h0
    refine hB _ _ ⟨vp_in_nI (by omega) (by omega), ?_⟩
    rw [nI_clamp (by omega), Z.2.2.1 s hs]
    refine pk_le (S 2 s) k (fun c => ?_) (fun c => x_pitchAt Z hs (by omega) ?_)
    · have e : z_sil S s = true := decide_eq_true (fun j hj => h0 j (by omega))
      rw [e] at h; exact h
    · have hp := (W.2.2.2.1 (8 * s + k) (by omega)).2
      refine pk_le (S 4 (8 * s + k)) 0 (fun c1 => nm_e ?_) (fun c1 => ?_)
      · rw [nI_1]
        refine ih c (fun j hj => ?_)
        by_cases e : j = k
        · subst e; omega
        · exact h0 j (by omega)
      · have e : z_sil S s = false := decide_eq_false (fun z => by have := z k c; omega)
        rw [e] at h; exact h
  exact key (fun k hk => absurd hk (by omega))
theorem x_countTime {f : sx_F} {S : z_S} (Z : z_X f S) (W : z_W S) {b : Nat} (hb : b ≤ S 0 0) {Q : Int32 → Prop} (h : Q (nI (z_tm S b))) : P_X4_countTime f (nI b) Q := by
  intro B hB
  have hn := W.1
  refine z_up (B := fun k => B (nI (z_tm S k)) (nI k)) b (fun k hk ih => hB _ _ ?_)
  refine pk_le b k (fun c => ?_) (fun c => ⟨vp_in_nI (by omega) (by omega), nm_e (nm_e ?_)⟩)
  · have e : k = b := by omega
    rw [e]; exact h
  · rw [nI_clamp (by omega), Z.2.1 k (by omega), nI_add, nI_1]
    exact ih c
/-! what the class's calls ask of their arguments -/
theorem x_needIndex_f {f : sx_F} {x c : Int32} {Q : Prop} {X : String → Prop} (h : x < 0 ∨ c ≤ x) (hX : X "java/lang/IndexOutOfBoundsException") : P_X6_needIndex f x c Q X := by
  intro B hB
  refine ⟨fun _ => hB hX, fun c1 => ⟨fun c2 => ?_, fun _ => hB hX⟩⟩
  rcases h with h | h
  · exact absurd h c1
  · exact absurd c2 (Int32.not_lt.mpr h)
theorem x_needIndex_t {f : sx_F} {j n : Nat} {Q : Prop} {X : String → Prop} (h : j < n) (hn : n < 2 ^ 31) (hQ : Q) : P_X6_needIndex f (nI j) (nI n) Q X := by
  intro B hB
  exact ⟨fun c => absurd c (nI_pos (by omega)), fun _ => ⟨fun _ => hQ, fun c => absurd (nI_lt h hn) c⟩⟩
theorem x_needValue_f {f : sx_F} {x a c : Int32} {Q : Prop} {X : String → Prop} (h : x < a ∨ c < x) (hX : X "java/lang/IllegalArgumentException") : P_X6_needValue f x a c Q X := by
  intro B hB
  refine ⟨fun _ => hB hX, fun c1 => ⟨fun c2 => ?_, fun _ => hB hX⟩⟩
  rcases h with h | h
  · exact absurd h c1
  · exact absurd c2 (Int32.not_le.mpr h)
theorem x_needValue_t {f : sx_F} {x a c : Int32} {Q : Prop} {X : String → Prop} (h1 : ¬ x < a) (h2 : ¬ c < x) (hQ : Q) : P_X6_needValue f x a c Q X := by
  intro B hB
  exact ⟨fun c => absurd c h1, fun _ => ⟨fun _ => hQ, fun c => absurd (Int32.not_lt.mp h2) c⟩⟩
theorem x_needSlot_f {f : sx_F} {S : z_S} (Z : z_X f S) {x y : Int32} {Q : Int32 → Prop} {X : String → Prop} (h : (x < 0 ∨ 5 ≤ x) ∨ (y < 0 ∨ nI (S 0 0) ≤ y)) (hX : X "java/lang/IndexOutOfBoundsException") : P_X6_needSlot f x y Q X := by
  unfold P_X6_needSlot
  rcases pk_ix x (n := 5) (by omega) with h1 | h1 | ⟨j, hj, rfl⟩
  · exact x_needIndex_f (Or.inl h1) hX
  · exact x_needIndex_f (Or.inr h1) hX
  · refine x_needIndex_t (n := 5) hj (by omega) (x_needIndex_f ?_ hX)
    rcases h with h | h
    · rcases h with h | h
      · exact absurd h (nI_pos (by omega))
      · exact absurd h (nI_ge (a := j) (b := 5) hj (by omega))
    · rw [Z.1]; exact h
theorem x_needSlot_t {f : sx_F} {S : z_S} (Z : z_X f S) (W : z_W S) {i b : Nat} (hi : i < 5) (hb : b < S 0 0) {Q : Int32 → Prop} {X : String → Prop} (hQ : Q (nI (12 * i + b))) : P_X6_needSlot f (nI i) (nI b) Q X := by
  unfold P_X6_needSlot
  have := W.1
  refine x_needIndex_t (n := 5) hi (by omega) ?_
  rw [Z.1]
  exact x_needIndex_t hb (by omega) (x_slotOf hQ)
/-- an argument of an instrument and one of a bar: one is none, or both are -/
theorem z_pair (x y : Int32) {a n : Nat} (ha : a < 2 ^ 31) (hn : n < 2 ^ 31) : ((x < 0 ∨ nI a ≤ x) ∨ (y < 0 ∨ nI n ≤ y)) ∨ ∃ i b : Nat, i < a ∧ b < n ∧ x = nI i ∧ y = nI b := by
  rcases pk_ix x ha with h | h | ⟨i, hi, rfl⟩
  · exact Or.inl (Or.inl (Or.inl h))
  · exact Or.inl (Or.inl (Or.inr h))
  · rcases pk_ix y hn with h | h | ⟨b, hb, rfl⟩
    · exact Or.inl (Or.inr (Or.inl h))
    · exact Or.inl (Or.inr (Or.inr h))
    · exact Or.inr ⟨i, b, hi, hb, rfl, rfl⟩
/-! the reference's -/
theorem m_in_t {f : sx_F} {x a b : Int32} {Q : Int32 → Prop} (h1 : ¬ x < a) (h2 : ¬ b < x) (hQ : Q 1) : P_X7_in f x a b Q := ⟨fun c => absurd c h1, fun _ => ⟨fun c => absurd c h2, fun _ => hQ⟩⟩
theorem m_in_f {f : sx_F} {x a b : Int32} {Q : Int32 → Prop} (h : x < a ∨ b < x) (hQ : Q 0) : P_X7_in f x a b Q := ⟨fun _ => hQ, fun c1 => ⟨fun _ => hQ, fun c2 => absurd h (fun z => z.elim c1 c2)⟩⟩
/-- both at once: one value, and what it says -/
theorem m_in {f : sx_F} {x a b : Int32} {Q : Int32 → Prop} (h : Q (z_b (decide (¬ x < a ∧ ¬ b < x)))) : P_X7_in f x a b Q := by
  by_cases c1 : x < a
  · rw [decide_eq_false (fun z => z.1 c1)] at h
    exact m_in_f (Or.inl c1) h
  · by_cases c2 : b < x
    · rw [decide_eq_false (fun z => z.2 c2)] at h
      exact m_in_f (Or.inr c2) h
    · rw [decide_eq_true ⟨c1, c2⟩] at h
      exact m_in_t c1 c2 h
theorem m_goes_1 {f : sx_F} {y z : Int32} {Q : Int32 → sx_F → Prop} (hQ : Q 0 (sx_u f 0 33 1)) : P_X7_goes f 0 y z Q := by
  intro B hB
  refine ⟨fun _ => hB _ _ (nm_e ?_), fun c => absurd rfl c⟩
  rw [sx_u_s, pk_us]
  exact ⟨fun c => absurd c (by decide), fun _ => hQ⟩
theorem m_goes_2 {f : sx_F} {z : Int32} {Q : Int32 → sx_F → Prop} (hQ : Q 0 (sx_u f 0 33 2)) : P_X7_goes f 1 0 z Q := by
  intro B hB
  refine ⟨fun c => absurd c (by decide), fun _ => ⟨fun _ => hB _ _ (nm_e ?_), fun c => absurd rfl c⟩⟩
  rw [sx_u_s, pk_us]
  exact ⟨fun c => absurd c (by decide), fun _ => hQ⟩
theorem m_goes_3 {f : sx_F} {Q : Int32 → sx_F → Prop} (hQ : Q 0 (sx_u f 0 33 3)) : P_X7_goes f 1 1 0 Q := by
  intro B hB
  refine ⟨fun c => absurd c (by decide), fun _ => ⟨fun c => absurd c (by decide), fun _ => ⟨fun _ => hB _ _ (nm_e ?_), fun c => absurd rfl c⟩⟩⟩
  rw [sx_u_s, pk_us]
  exact ⟨fun c => absurd c (by decide), fun _ => hQ⟩
theorem m_goes_0 {f : sx_F} {Q : Int32 → sx_F → Prop} (hQ : Q 1 (sx_u f 0 33 0)) : P_X7_goes f 1 1 1 Q := by
  intro B hB
  refine ⟨fun c => absurd c (by decide), fun _ => ⟨fun c => absurd c (by decide), fun _ => ⟨fun c => absurd c (by decide), fun _ => hB _ _ (nm_e ?_)⟩⟩⟩
  rw [sx_u_s, pk_us]
  exact ⟨fun _ => hQ, fun c => absurd rfl c⟩
theorem z_b_cases (p : Bool) : z_b p = 0 ∨ z_b p = 1 := by cases p <;> simp [z_b]
theorem m_isInstrument {f : sx_F} {x : Int32} {Q : Int32 → Prop} (h : Q (z_b (decide (¬ x < 0 ∧ ¬ nI 5 ≤ x)))) : P_X7_isInstrument f x Q := by
  refine m_in ⟨z_b_cases _, ?_⟩
  have e : (¬ x < 0 ∧ ¬ (4 : Int32) < x) ↔ (¬ x < 0 ∧ ¬ nI 5 ≤ x) := by
    have : (4 : Int32) < x ↔ nI 5 ≤ x := by
      rw [Int32.lt_iff_toInt_lt, Int32.le_iff_toInt_le]
      exact Iff.rfl
    rw [this]
  rw [decide_eq_decide.mpr e]
  exact h
theorem m_isBook {f : sx_F} {x : Int32} {Q : Int32 → Prop} (h : Q (z_b (decide (¬ x < 0 ∧ ¬ nI 6 ≤ x)))) : P_X7_isBook f x Q := by
  refine m_in ⟨z_b_cases _, ?_⟩
  have e : (¬ x < 0 ∧ ¬ (5 : Int32) < x) ↔ (¬ x < 0 ∧ ¬ nI 6 ≤ x) := by
    have : (5 : Int32) < x ↔ nI 6 ≤ x := by
      rw [Int32.lt_iff_toInt_lt, Int32.le_iff_toInt_le]
      exact Iff.rfl
    rw [this]
  rw [decide_eq_decide.mpr e]
  exact h
theorem z_pred (x : Int32) {n : Nat} (hn : n < 2 ^ 30) : nI n - 1 < x ↔ nI n ≤ x := by
  rw [Int32.lt_iff_toInt_lt, Int32.le_iff_toInt_le, z_l1, pk_sub_toInt hn (by omega), nI_toInt (by omega)]
  omega
theorem m_isBar {f : sx_F} {n : Nat} (hn : f 0 5 = nI n) (hl : n < 2 ^ 30) {x : Int32} {Q : Int32 → Prop} (h : Q (z_b (decide (¬ x < 0 ∧ ¬ nI n ≤ x)))) : P_X7_isBar f x Q := by
  refine m_in ⟨z_b_cases _, ?_⟩
  rw [hn, decide_eq_decide.mpr (show (¬ x < 0 ∧ ¬ nI n - 1 < x) ↔ _ from by rw [z_pred x hl])]
  exact h
theorem m_isCopy {f : sx_F} {n : Nat} (hn : f 0 11 = nI n) (hl : n < 2 ^ 30) {x : Int32} {Q : Int32 → Prop} (h : Q (z_b (decide (¬ x < 0 ∧ ¬ nI n ≤ x)))) : P_X7_isCopy f x Q := by
  refine m_in ⟨z_b_cases _, ?_⟩
  rw [hn, decide_eq_decide.mpr (show (¬ x < 0 ∧ ¬ nI n - 1 < x) ↔ _ from by rw [z_pred x hl])]
  exact h
theorem z_no {x : Int32} {n : Nat} (h : x < 0 ∨ nI n ≤ x) : decide (¬ x < 0 ∧ ¬ nI n ≤ x) = false := decide_eq_false (fun z => h.elim z.1 z.2)
theorem z_yes {j n : Nat} (h : j < n) (hn : n < 2 ^ 31) : decide (¬ nI j < 0 ∧ ¬ nI n ≤ nI j) = true := decide_eq_true ⟨nI_pos (by omega), nI_ge h hn⟩
theorem m_cell {f : sx_F} {i b : Nat} {Q : Int32 → Prop} (h : Q (nI (12 * i + b))) : P_X7_cell f (nI i) (nI b) Q := by
  unfold P_X7_cell
  rw [z_cell]
  exact h
theorem m_filled {g : sx_F} {S : z_S} (Z : z_M g S) {s c : Nat} (hs : s < 60) (hc : c ≤ 8) {Q : Int32 → Prop} (h : Q (nI (z_fl S s c))) : P_X7_filled g (nI s) (nI c) Q := by
  intro B hB
  refine z_up (B := fun k => B (nI (z_fl S s k)) (nI k)) c (fun k hk ih => hB _ _ ?_)
  refine pk_le c k (fun e => ?_) (fun e => ?_)
  · have e : k = c := by omega
    rw [e]; exact h
  · rw [z_at', nI_clamp (by omega), Z.2.2.2.1 _ (by omega)]
    refine ⟨vp_in_nI (by omega) (by omega), nm_e (nm_e ?_)⟩
    rw [nI_add, nI_1]
    exact ih e
theorem m_isSilent {g : sx_F} {S : z_S} (Z : z_M g S) (W : z_W S) {i b : Nat} (hi : i < 5) (hb : b < 12) {Q : Int32 → Prop} (h : Q (z_b (z_sil S (12 * i + b)))) : P_X7_isSilent g (nI i) (nI b) Q := by
  intro B12 B48 B49 h12 h48 h49
  refine m_cell ?_
  have hs : 12 * i + b < 60 := by omega
  generalize 12 * i + b = s at hs h
  have hc := W.2.2.1 s hs
  have key : B12 (z_b (z_sk S s 0)) (nI s) (nI 0) := by
    refine z_up (B := fun k => B12 (z_b (z_sk S s k)) (nI s) (nI k)) (S 2 s) (fun k hk ih => h12 _ _ _ ⟨vp_in_nI (by omega) (by omega), ?_⟩)
    rw [nI_clamp (by omega), Z.2.2.1 s hs]
    refine pk_le (S 2 s) k (fun c => ?_) (fun c => ?_)
    · have e : k = S 2 s := by omega
      subst e
      exact ⟨z_b_cases _, h⟩
    · have i2 : B12 (z_b (z_sk S s (k + 1))) (nI s) (nI (k + 1)) := ih c
      unfold z_sk at i2 ⊢
      have hp := (W.2.2.2.1 (8 * s + k) (by omega)).2
      refine ⟨fun c1 => h48 _ _ (h49 _ _ _ (nm_e ?_)), fun c1 => ?_⟩
      · have d1 : ¬ ∀ j, j < k → S 4 (8 * s + j) = 0 := fun z => by
          rw [decide_eq_true z] at c1
          exact absurd c1 (by decide)
        rw [decide_eq_false (fun z => d1 (fun j hj => z j (by omega)))] at i2
        rw [nI_1]
        exact i2
      · have d1 : ∀ j, j < k → S 4 (8 * s + j) = 0 := by
          refine Decidable.byContradiction (fun z => ?_)
          rw [decide_eq_false z] at c1
          exact absurd rfl c1
        rw [z_at', nI_clamp (by omega), Z.2.2.2.2 _ (by omega)]
        refine ⟨vp_in_nI (by omega) (by omega), pk_eq (S 4 (8 * s + k)) 0 (fun c2 => h49 _ _ _ (nm_e ?_)) (fun c2 => h48 _ _ (h49 _ _ _ (nm_e ?_)))⟩
        · rw [decide_eq_true (fun j hj => by
            by_cases e : j = k
            · rw [e]; exact c2
            · exact d1 j (by omega))] at i2
          rw [nI_1]
          exact i2
        · rw [decide_eq_false (fun z => c2 (z k (by omega)))] at i2
          rw [nI_1]
          exact i2
  rw [show z_sk S s 0 = true from decide_eq_true (fun j hj => absurd hj (by omega))] at key
  exact key
