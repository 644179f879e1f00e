/-! THE BEGINNING: what the constructors leave -/
def z_c200 : Nat → Int32 := fun j => cond (Nat.beq j 1) 200 (cond (Nat.beq j 2) 3 0)
def z_c2m : Nat → Int32 := fun j => cond (Nat.beq j 2) (-1) 0
def z_c67 : Nat → Int32 := fun j => cond (Nat.beq j 6) 200 (cond (Nat.beq j 7) 3 0)
def fX0 : sx_F := fun k => cond (Nat.beq k 19) z_c200 (cond (and (and (Nat.ble 66 k) (Nat.ble k 97)) (Nat.beq (k % 2) 0)) z_c2m (fun _ => 0))
def fM0 : sx_F := fun k => cond (Nat.beq k 0) z_c67 (fun _ => 0)
theorem z_nb {a b : Nat} (h : a ≠ b) : Nat.beq a b = false := Bool.eq_false_iff.mpr (fun z => h (Nat.eq_of_beq_eq_true z))
theorem fX0_z {k : Nat} (h1 : k ≠ 19) (h2 : ¬ (66 ≤ k ∧ k ≤ 97 ∧ k % 2 = 0)) : fX0 k = fun _ => 0 := by
  unfold fX0
  rw [show Nat.beq k 19 = false from z_nb h1, cond_false]
  have e : (and (and (Nat.ble 66 k) (Nat.ble k 97)) (Nat.beq (k % 2) 0)) = false := by
    refine Bool.eq_false_iff.mpr (fun z => h2 ?_)
    rw [Bool.and_eq_true, Bool.and_eq_true] at z
    exact ⟨Nat.le_of_ble_eq_true z.1.1, Nat.le_of_ble_eq_true z.1.2, Nat.eq_of_beq_eq_true z.2⟩
  rw [e, cond_false]
theorem fX0_c {i : Nat} (h : i < 16) : fX0 (66 + 2 * i) = z_c2m := by
  unfold fX0
  rw [show Nat.beq (66 + 2 * i) 19 = false from z_nb (by omega), cond_false]
  have e : (and (and (Nat.ble 66 (66 + 2 * i)) (Nat.ble (66 + 2 * i) 97)) (Nat.beq ((66 + 2 * i) % 2) 0)) = true := by
    rw [Bool.and_eq_true, Bool.and_eq_true]
    exact ⟨⟨Nat.ble_eq_true_of_le (by omega), Nat.ble_eq_true_of_le (by omega)⟩, by rw [show (66 + 2 * i) % 2 = 0 by omega]; rfl⟩
  rw [e, cond_true]
theorem fM0_z {k : Nat} (h : k ≠ 0) : fM0 k = fun _ => 0 := by
  unfold fM0
  rw [show Nat.beq k 0 = false from z_nb h, cond_false]
theorem z_bit0 : ∀ k, k < 8 → z_bit 0 k = 0 := by
  intro k hk
  rcases (show k = 0 ∨ k = 1 ∨ k = 2 ∨ k = 3 ∨ k = 4 ∨ k = 5 ∨ k = 6 ∨ k = 7 by omega) with rfl | rfl | rfl | rfl | rfl | rfl | rfl | rfl <;> decide
theorem z_start : z_I 0 fX0 fM0 := by
  refine ⟨fun _ _ => 0, ?_, ?_, ?_, ?_, ?_, ?_, ?_, ?_, ?_⟩
  · unfold z_X
    rw [fX0_z (k := 1) (by decide) (by decide), fX0_z (k := 2) (by decide) (by decide), fX0_z (k := 5) (by decide) (by decide), fX0_z (k := 6) (by decide) (by decide), fX0_z (k := 7) (by decide) (by decide)]
    exact ⟨rfl, fun _ _ => rfl, fun _ _ => rfl, fun _ _ => rfl, fun _ _ => rfl⟩
  · unfold z_M
    rw [fM0_z (k := 1) (by decide), fM0_z (k := 2) (by decide), fM0_z (k := 3) (by decide), fM0_z (k := 4) (by decide)]
    exact ⟨rfl, fun _ _ => rfl, fun _ _ => rfl, fun _ _ => rfl, fun _ _ => rfl⟩
  · exact ⟨Nat.zero_le _, fun k hk => absurd hk (Nat.not_lt_zero _), fun s hs => Nat.zero_le _, fun j hj => ⟨Nat.zero_le _, Nat.zero_le _⟩, fun s k hs hk => absurd hk (Nat.not_lt_zero _), fun i b hi hb => absurd hb (Nat.not_lt_zero _), fun i b hi hb h => rfl⟩
  · intro k hk
    rw [show k = 0 from Nat.le_zero.mp hk, fX0_z (by decide) (by decide)]
    rfl
  · intro s hs
    rw [fX0_z (by decide) (by decide), fM0_z (by decide)]
    exact ⟨rfl, 0, Nat.le_refl _, rfl⟩
  · refine ⟨200, 3, by omega, by omega, by omega, by omega, rfl, rfl, rfl, rfl, ?_, ?_, ?_, ?_⟩
    · rw [fX0_z (by decide) (by decide)]
    · rw [fX0_z (by decide) (by decide)]
    · rw [fX0_z (by decide) (by decide)]
    · rw [fX0_z (by decide) (by decide)]
  · refine ⟨0, by omega, ?_, rfl, fun i hi => absurd hi (by omega), fun i _ hi => ?_⟩
    · rw [fX0_z (by decide) (by decide)]; rfl
    · rw [fX0_c hi]; rfl
  · rw [fX0_z (by decide) (by decide)]; rfl
  · intro d s hd hs
    refine ⟨⟨⟨0, by omega, ?_, ?_⟩, ?_⟩, ?_⟩
    · rw [fX0_z (by omega) (by omega)]; rfl
    · rw [fM0_z (by decide)]; rfl
    · rw [fX0_z (by omega) (by omega), fM0_z (by decide)]
    · refine ⟨0, 0, Nat.le_refl _, Nat.le_refl _, ?_, ?_, fun k hk => ⟨0, 0, by omega, by omega, ?_, ?_, ?_⟩⟩
      · rw [fX0_z (by omega) (by omega)]; rfl
      · rw [fM0_z (by decide)]; rfl
      · rw [fM0_z (by decide)]; rfl
      · rw [fM0_z (by decide)]; rfl
      · rw [if_pos rfl, if_pos rfl, fX0_z (by omega) (by omega), z_bit0 k hk]; rfl
