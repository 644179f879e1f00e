theorem z_sm_cg {v w : Nat → Nat} : ∀ n, (∀ k, k < n → v k = w k) → z_sm v n = z_sm w n
  | 0, _ => rfl
  | n + 1, h => by
    show z_sm v n + v n = z_sm w n + w n
    rw [z_sm_cg n (fun k hk => h k (by omega)), h n (by omega)]
theorem z_sm_0 {v : Nat → Nat} {a : Nat} : ∀ n, a ≤ n → (∀ k, a ≤ k → k < n → v k = 0) → z_sm v n = z_sm v a
  | 0, h, _ => by rw [show a = 0 by omega]
  | n + 1, h, h2 => by
    by_cases e : a = n + 1
    · rw [e]
    · show z_sm v n + v n = _
      rw [z_sm_0 n (by omega) (fun k h3 h4 => h2 k h3 (by omega)), h2 n (by omega) (by omega)]; rfl
def z_lm (p p' : Nat) (h : Nat → Nat) : Nat → Nat := z_sm (fun k => if p ≤ k ∧ k < p' then h k else 0)
theorem z_lm_s {p p' : Nat} {h : Nat → Nat} {k : Nat} : z_lm p p' h (k + 1) = z_lm p p' h k + (if p ≤ k ∧ k < p' then h k else 0) := rfl
theorem z_lm_end {p p' : Nat} {h : Nat → Nat} {I : Nat} (h1 : p ≤ p') (h2 : p' ≤ I) : z_lm p p' h I = z_sm h p' - z_sm h p := by
  have e1 : z_lm p p' h I = z_lm p p' h p' := z_sm_0 I h2 (fun k a _ => if_neg (by omega))
  have e2 : z_lm p p' h p = 0 := z_sm_0 p (Nat.zero_le _) (fun k _ b => if_neg (by omega))
  have e3 : ∀ d, p + d ≤ p' → z_lm p p' h (p + d) = z_sm h (p + d) - z_sm h p := by
    intro d
    induction d with
    | zero => intro _; rw [Nat.add_zero, e2]; omega
    | succ d ih =>
      intro hd
      have m := z_sm_mono (w := h) (show p ≤ p + d by omega)
      rw [show p + (d + 1) = (p + d) + 1 by omega, z_lm_s, ih (by omega), if_pos (by omega)]
      show _ = z_sm h (p + d) + h (p + d) - z_sm h p
      omega
  rw [e1]
  have := e3 (p' - p) (by omega)
  rw [show p + (p' - p) = p' by omega] at this
  exact this
theorem z_sm_one : ∀ n, z_sm (fun _ => 1) n = n
  | 0 => rfl
  | n + 1 => by
    show z_sm (fun _ => 1) n + 1 = n + 1
    rw [z_sm_one n]
def z_ah (NP : Nat → Nat) (V : Nat → Nat → Nat) (s k : Nat) : Nat := z_sm (fun y => if z_sm NP k + y < s then V k y else 0) (NP k)
theorem z_ah_lt {NP : Nat → Nat} {V : Nat → Nat → Nat} {J i k : Nat} (h : k < J) : z_ah NP V (z_sm NP J + i) k = z_sm (V k) (NP k) := by
  unfold z_ah
  refine z_sm_cg _ (fun y hy => if_pos ?_)
  have m := z_sm_mono (w := NP) (show k + 1 ≤ J from h)
  have e : z_sm NP (k + 1) = z_sm NP k + NP k := rfl
  omega
theorem z_ah_eq {NP : Nat → Nat} {V : Nat → Nat → Nat} {J i : Nat} (h : i ≤ NP J) : z_ah NP V (z_sm NP J + i) J = z_sm (V J) i := by
  unfold z_ah
  rw [z_sm_0 (a := i) (NP J) h (fun y h1 _ => if_neg (by omega))]
  exact z_sm_cg _ (fun y hy => if_pos (by omega))
theorem z_ah_gt {NP : Nat → Nat} {V : Nat → Nat → Nat} {J i k : Nat} (h : J < k) (hi : i ≤ NP J) : z_ah NP V (z_sm NP J + i) k = 0 := by
  unfold z_ah
  refine z_sm_0 (a := 0) _ (Nat.zero_le _) (fun y _ _ => if_neg ?_)
  have m := z_sm_mono (w := NP) (show J + 1 ≤ k from h)
  have e : z_sm NP (J + 1) = z_sm NP J + NP J := rfl
  omega
theorem z_ah_sum {NP : Nat → Nat} {V : Nat → Nat → Nat} {J i p p' : Nat} (hp : p ≤ J) (hp' : J < p') (hi : i ≤ NP J) : z_sm (z_ah NP V (z_sm NP J + i)) p' - z_sm (z_ah NP V (z_sm NP J + i)) p = z_sm (fun k => z_sm (V k) (NP k)) J - z_sm (fun k => z_sm (V k) (NP k)) p + z_sm (V J) i := by
  have e1 : z_sm (z_ah NP V (z_sm NP J + i)) p' = z_sm (z_ah NP V (z_sm NP J + i)) (J + 1) := z_sm_0 p' hp' (fun k h1 _ => z_ah_gt (by omega) hi)
  have e2 : z_sm (z_ah NP V (z_sm NP J + i)) (J + 1) = z_sm (z_ah NP V (z_sm NP J + i)) J + z_ah NP V (z_sm NP J + i) J := rfl
  have e3 : ∀ n, n ≤ J → z_sm (z_ah NP V (z_sm NP J + i)) n = z_sm (fun k => z_sm (V k) (NP k)) n := fun n hn => z_sm_cg n (fun k hk => z_ah_lt (by omega))
  have m := z_sm_mono (w := fun k => z_sm (V k) (NP k)) hp
  rw [e1, e2, e3 J (Nat.le_refl _), e3 p hp, z_ah_eq hi]
  omega
theorem z_sm_J {J : Nat} : ∀ n, z_sm (fun k => if k < J then 1 else 0) n = if n ≤ J then n else J
  | 0 => by rw [if_pos (Nat.zero_le _)]; rfl
  | n + 1 => by
    show z_sm (fun k => if k < J then 1 else 0) n + (if n < J then 1 else 0) = _
    rw [z_sm_J n]
    by_cases c : n < J
    · rw [if_pos (by omega), if_pos c, if_pos (by omega)]
    · by_cases d : n = J
      · rw [if_pos (by omega), if_neg c, if_neg (by omega)]; omega
      · rw [if_neg (by omega), if_neg c, if_neg (by omega)]; rfl
theorem z_sm_leN {NP : Nat → Nat} {c I : Nat} (h : ∀ k, k < I → NP k ≤ c) : ∀ k, k ≤ I → z_sm NP k ≤ c * k
  | 0, _ => Nat.zero_le _
  | k + 1, hk => by
    have i := z_sm_leN h k (by omega)
    have := h k (by omega)
    show z_sm NP k + NP k ≤ _
    rw [Nat.mul_succ]
    omega
def z_NP (S : z_S) (bk k : Nat) : Nat := z_np S (z_drw S bk (z_xb S bk k)) (z_xb S bk k)
def z_SW (S : z_S) (bk k : Nat) : Nat → Nat := z_sw S (z_drw S bk (z_xb S bk k)) (z_xb S bk k)
def z_SL (S : z_S) (bk k : Nat) : Nat → Nat := z_sl S (z_drw S bk (z_xb S bk k)) (z_xb S bk k)
theorem z_IW_eq {S : z_S} {bk : Nat} : (fun k => z_sm (z_SW S bk k) (z_NP S bk k)) = z_IW S bk := funext (fun _ => z_Wb_sm.1.symm)
theorem z_IL_eq {S : z_S} {bk : Nat} : (fun k => z_sm (z_SL S bk k) (z_NP S bk k)) = z_IL S bk := funext (fun _ => z_Wb_sm.2.symm)
theorem z_spb_it {S : z_S} {bk : Nat} : ∀ b, b ≤ S 0 0 → z_spb S bk b = z_sm (z_NP S bk) (z_it S bk b)
  | 0, _ => rfl
  | b + 1, h => by
    have h1 := z_spb_it (S := S) (bk := bk) b (by omega)
    have e1 : z_spb S bk (b + 1) = z_spb S bk b + (if z_new S bk b then z_np S (z_drw S bk b) b else 0) := rfl
    rw [e1, z_it_s, h1]
    cases hn : z_new S bk b
    · rfl
    · have ex := z_xb_eq (show b < S 0 0 by omega) hn
      show _ = z_sm (z_NP S bk) (z_it S bk b) + z_NP S bk (z_it S bk b)
      unfold z_NP
      rw [ex]; rfl
theorem z_H.go {g : sx_F} {S : z_S} {bk e : Nat} {c : Int32} (H : z_H g S bk e) : z_H (sx_u g 0 33 c) S bk e := by
  unfold z_H at H ⊢
  rw [sx_u_s, pk_un (by decide), sx_u_n (by decide), sx_u_n (by decide), sx_u_n (by decide)]
  exact H
def z_c67 : Nat → Int32 := fun j => cond (Nat.beq j 6) 200 (cond (Nat.beq j 7) 3 0)
def fM0 : sx_F := fun k => cond (Nat.beq k 0) z_c67 (fun _ => 0)
theorem z_nb {a b : Nat} (h : a ≠ b) : Nat.beq a b = false := Bool.eq_false_iff.mpr (fun z => h (Nat.eq_of_beq_eq_true z))
theorem fX0_z {k : Nat} (h1 : k ≠ 19) (h2 : ¬ (66 ≤ k ∧ k ≤ 97 ∧ k % 2 = 0)) : fX0 k = fun _ => 0 := by
  unfold fX0
  rw [show Nat.beq k 19 = false from z_nb h1, cond_false]
  have e : (and (and (Nat.ble 66 k) (Nat.ble k 97)) (Nat.beq (k % 2) 0)) = false := by
    refine Bool.eq_false_iff.mpr (fun z => h2 ?_)
    rw [Bool.and_eq_true, Bool.and_eq_true] at z
    exact ⟨Nat.le_of_ble_eq_true z.1.1, Nat.le_of_ble_eq_true z.1.2, Nat.eq_of_beq_eq_true z.2⟩
  rw [e, cond_false]
theorem fX0_c {i : Nat} (h : i < 16) : fX0 (66 + 2 * i) = z_c2m := by
  unfold fX0
  rw [show Nat.beq (66 + 2 * i) 19 = false from z_nb (by omega), cond_false]
  have e : (and (and (Nat.ble 66 (66 + 2 * i)) (Nat.ble (66 + 2 * i) 97)) (Nat.beq ((66 + 2 * i) % 2) 0)) = true := by
    rw [Bool.and_eq_true, Bool.and_eq_true]
    exact ⟨⟨Nat.ble_eq_true_of_le (by omega), Nat.ble_eq_true_of_le (by omega)⟩, by rw [show (66 + 2 * i) % 2 = 0 by omega]; rfl⟩
  rw [e, cond_true]
theorem fM0_z {k : Nat} (h : k ≠ 0) : fM0 k = fun _ => 0 := by
  unfold fM0
  rw [show Nat.beq k 0 = false from z_nb h, cond_false]
theorem z_bit0 : ∀ k, k < 8 → z_bit 0 k = 0 := by
  intro k hk
  rcases (show k = 0 ∨ k = 1 ∨ k = 2 ∨ k = 3 ∨ k = 4 ∨ k = 5 ∨ k = 6 ∨ k = 7 by omega) with rfl | rfl | rfl | rfl | rfl | rfl | rfl | rfl <;> decide
theorem z_start : z_I 0 fX0 fM0 := by
  refine ⟨fun _ _ => 0, ?_, ?_, ?_, ?_, ?_, ?_, ?_, ?_, ?_⟩
  · unfold z_X
    rw [fX0_z (k := 1) (by decide) (by decide), fX0_z (k := 2) (by decide) (by decide), fX0_z (k := 5) (by decide) (by decide), fX0_z (k := 6) (by decide) (by decide), fX0_z (k := 7) (by decide) (by decide)]
    exact ⟨rfl, fun _ _ => rfl, fun _ _ => rfl, fun _ _ => rfl, fun _ _ => rfl⟩
  · unfold z_M
    rw [fM0_z (k := 1) (by decide), fM0_z (k := 2) (by decide), fM0_z (k := 3) (by decide), fM0_z (k := 4) (by decide)]
    exact ⟨rfl, fun _ _ => rfl, fun _ _ => rfl, fun _ _ => rfl, fun _ _ => rfl⟩
  · exact ⟨Nat.zero_le _, fun k hk => absurd hk (Nat.not_lt_zero _), fun s hs => Nat.zero_le _, fun j hj => ⟨Nat.zero_le _, Nat.zero_le _⟩, fun s k hs hk => absurd hk (Nat.not_lt_zero _), fun i b hi hb => absurd hb (Nat.not_lt_zero _), fun i b hi hb h => rfl⟩
  · intro k hk
    rw [show k = 0 from Nat.le_zero.mp hk, fX0_z (by decide) (by decide)]
    rfl
  · intro s hs
    rw [fX0_z (by decide) (by decide), fM0_z (by decide)]
    exact ⟨rfl, 0, Nat.le_refl _, rfl⟩
  · refine ⟨200, 3, by omega, by omega, by omega, by omega, rfl, rfl, rfl, rfl, ?_, ?_, ?_, ?_⟩
    · rw [fX0_z (by decide) (by decide)]
    · rw [fX0_z (by decide) (by decide)]
    · rw [fX0_z (by decide) (by decide)]
    · rw [fX0_z (by decide) (by decide)]
  · refine ⟨0, by omega, ?_, rfl, fun i hi => absurd hi (by omega), fun i _ hi => ?_⟩
    · rw [fX0_z (by decide) (by decide)]; rfl
    · rw [fX0_c hi]; rfl
  · rw [fX0_z (by decide) (by decide)]; rfl
  · intro d s hd hs
    refine ⟨⟨⟨0, by omega, ?_, ?_⟩, ?_⟩, ?_⟩
    · rw [fX0_z (by omega) (by omega)]; rfl
    · rw [fM0_z (by decide)]; rfl
    · rw [fX0_z (by omega) (by omega), fM0_z (by decide)]
    · refine ⟨0, 0, Nat.le_refl _, Nat.le_refl _, ?_, ?_, fun k hk => ⟨0, 0, by omega, by omega, ?_, ?_, ?_⟩⟩
      · rw [fX0_z (by omega) (by omega)]; rfl
      · rw [fM0_z (by decide)]; rfl
      · rw [fM0_z (by decide)]; rfl
      · rw [fM0_z (by decide)]; rfl
      · rw [if_pos rfl, if_pos rfl, fX0_z (by omega) (by omega), z_bit0 k hk]; rfl
