theorem z_sm_cg {v w : Nat → Nat} : ∀ n, (∀ k, k < n → v k = w k) → z_sm v n = z_sm w n
  | 0, _ => rfl
  | n + 1, h => by
    show z_sm v n + v n = z_sm w n + w n
    rw [z_sm_cg n (fun k hk => h k (by omega)), h n (by omega)]
theorem z_sm_0 {v : Nat → Nat} {a : Nat} : ∀ n, a ≤ n → (∀ k, a ≤ k → k < n → v k = 0) → z_sm v n = z_sm v a
  | 0, h, _ => by rw [show a = 0 by omega]
  | n + 1, h, h2 => by
    by_cases e : a = n + 1
    · rw [e]
    · show z_sm v n + v n = _
      rw [z_sm_0 n (by omega) (fun k h3 h4 => h2 k h3 (by omega)), h2 n (by omega) (by omega)]; rfl
/-- sums over a line's items -/
def z_lm (p p' : Nat) (h : Nat → Nat) : Nat → Nat := z_sm (fun k => if p ≤ k ∧ k < p' then h k else 0)
theorem z_lm_s {p p' : Nat} {h : Nat → Nat} {k : Nat} : z_lm p p' h (k + 1) = z_lm p p' h k + (if p ≤ k ∧ k < p' then h k else 0) := rfl
theorem z_lm_end {p p' : Nat} {h : Nat → Nat} {I : Nat} (h1 : p ≤ p') (h2 : p' ≤ I) : z_lm p p' h I = z_sm h p' - z_sm h p := by
  have e1 : z_lm p p' h I = z_lm p p' h p' := z_sm_0 I h2 (fun k a _ => if_neg (by omega))
  have e2 : z_lm p p' h p = 0 := z_sm_0 p (Nat.zero_le _) (fun k _ b => if_neg (by omega))
  have e3 : ∀ d, p + d ≤ p' → z_lm p p' h (p + d) = z_sm h (p + d) - z_sm h p := by
    intro d
    induction d with
    | zero => intro _; rw [Nat.add_zero, e2]; omega
    | succ d ih =>
      intro hd
      have m := z_sm_mono (w := h) (show p ≤ p + d by omega)
      rw [show p + (d + 1) = (p + d) + 1 by omega, z_lm_s, ih (by omega), if_pos (by omega)]
      show _ = z_sm h (p + d) + h (p + d) - z_sm h p
      omega
  rw [e1]
  have := e3 (p' - p) (by omega)
  rw [show p + (p' - p) = p' by omega] at this
  exact this
theorem z_sm_one : ∀ n, z_sm (fun _ => 1) n = n
  | 0 => rfl
  | n + 1 => by
    show z_sm (fun _ => 1) n + 1 = n + 1
    rw [z_sm_one n]
/-- what stands ahead of a spring of an item J -/
def z_ah (NP : Nat → Nat) (V : Nat → Nat → Nat) (s k : Nat) : Nat := z_sm (fun y => if z_sm NP k + y < s then V k y else 0) (NP k)
theorem z_ah_lt {NP : Nat → Nat} {V : Nat → Nat → Nat} {J i k : Nat} (h : k < J) : z_ah NP V (z_sm NP J + i) k = z_sm (V k) (NP k) := by
  unfold z_ah
  refine z_sm_cg _ (fun y hy => if_pos ?_)
  have m := z_sm_mono (w := NP) (show k + 1 ≤ J from h)
  have e : z_sm NP (k + 1) = z_sm NP k + NP k := rfl
  omega
theorem z_ah_eq {NP : Nat → Nat} {V : Nat → Nat → Nat} {J i : Nat} (h : i ≤ NP J) : z_ah NP V (z_sm NP J + i) J = z_sm (V J) i := by
  unfold z_ah
  rw [z_sm_0 (a := i) (NP J) h (fun y h1 _ => if_neg (by omega))]
  exact z_sm_cg _ (fun y hy => if_pos (by omega))
theorem z_ah_gt {NP : Nat → Nat} {V : Nat → Nat → Nat} {J i k : Nat} (h : J < k) (hi : i ≤ NP J) : z_ah NP V (z_sm NP J + i) k = 0 := by
  unfold z_ah
  refine z_sm_0 (a := 0) _ (Nat.zero_le _) (fun y _ _ => if_neg ?_)
  have m := z_sm_mono (w := NP) (show J + 1 ≤ k from h)
  have e : z_sm NP (J + 1) = z_sm NP J + NP J := rfl
  omega
theorem z_ah_sum {NP : Nat → Nat} {V : Nat → Nat → Nat} {J i p p' : Nat} (hp : p ≤ J) (hp' : J < p') (hi : i ≤ NP J) : z_sm (z_ah NP V (z_sm NP J + i)) p' - z_sm (z_ah NP V (z_sm NP J + i)) p = z_sm (fun k => z_sm (V k) (NP k)) J - z_sm (fun k => z_sm (V k) (NP k)) p + z_sm (V J) i := by
  have e1 : z_sm (z_ah NP V (z_sm NP J + i)) p' = z_sm (z_ah NP V (z_sm NP J + i)) (J + 1) := z_sm_0 p' hp' (fun k h1 _ => z_ah_gt (by omega) hi)
  have e2 : z_sm (z_ah NP V (z_sm NP J + i)) (J + 1) = z_sm (z_ah NP V (z_sm NP J + i)) J + z_ah NP V (z_sm NP J + i) J := rfl
  have e3 : ∀ n, n ≤ J → z_sm (z_ah NP V (z_sm NP J + i)) n = z_sm (fun k => z_sm (V k) (NP k)) n := fun n hn => z_sm_cg n (fun k hk => z_ah_lt (by omega))
  have m := z_sm_mono (w := fun k => z_sm (V k) (NP k)) hp
  rw [e1, e2, e3 J (Nat.le_refl _), e3 p hp, z_ah_eq hi]
  omega
theorem z_sm_J {J : Nat} : ∀ n, z_sm (fun k => if k < J then 1 else 0) n = if n ≤ J then n else J
  | 0 => by rw [if_pos (Nat.zero_le _)]; rfl
  | n + 1 => by
    show z_sm (fun k => if k < J then 1 else 0) n + (if n < J then 1 else 0) = _
    rw [z_sm_J n]
    by_cases c : n < J
    · rw [if_pos (by omega), if_pos c, if_pos (by omega)]
    · by_cases d : n = J
      · rw [if_pos (by omega), if_neg c, if_neg (by omega)]; omega
      · rw [if_neg (by omega), if_neg c, if_neg (by omega)]; rfl
theorem z_sm_leN {NP : Nat → Nat} {c I : Nat} (h : ∀ k, k < I → NP k ≤ c) : ∀ k, k ≤ I → z_sm NP k ≤ c * k
  | 0, _ => Nat.zero_le _
  | k + 1, hk => by
    have i := z_sm_leN h k (by omega)
    have := h k (by omega)
    show z_sm NP k + NP k ≤ _
    rw [Nat.mul_succ]
    omega
