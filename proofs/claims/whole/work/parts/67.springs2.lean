/-! SPRINGS BY THEIR NUMBERS -/
def z_st (S : z_S) (dr b i : Nat) : Nat := if dr = 6 then 0 else z_nth (z_pl S dr b) i (S 1 b)
def z_sw (S : z_S) (dr b i : Nat) : Nat := if dr = 6 then 24 else z_wd S dr b (z_st S dr b i)
def z_sl (S : z_S) (dr b i : Nat) : Nat := if dr = 6 then 16 else z_le S dr b (z_st S dr b i)
theorem z_st_eq {S : z_S} {dr b q : Nat} (h6 : dr ≠ 6) (hq : q < S 1 b) (hp : z_pl S dr b q = true) : z_st S dr b (z_pc S dr b q) = q := by
  unfold z_st
  rw [if_neg h6]
  exact z_nth_eq hp _ hq
theorem z_ws_it {S : z_S} {dr b : Nat} (h6 : dr ≠ 6) : ∀ q, q ≤ S 1 b → z_ws S dr b q = z_sm (z_sw S dr b) (z_pc S dr b q) ∧ z_ls S dr b q = z_sm (z_sl S dr b) (z_pc S dr b q)
  | 0, _ => ⟨rfl, rfl⟩
  | q + 1, h => by
    obtain ⟨h1, h2⟩ := z_ws_it (S := S) (dr := dr) (b := b) h6 q (by omega)
    have e1 : z_ws S dr b (q + 1) = z_ws S dr b q + (if z_pl S dr b q then z_wd S dr b q else 0) := rfl
    have e2 : z_ls S dr b (q + 1) = z_ls S dr b q + (if z_pl S dr b q then z_le S dr b q else 0) := rfl
    have e3 : z_pc S dr b (q + 1) = z_pc S dr b q + (if z_pl S dr b q then 1 else 0) := rfl
    rw [e1, e2, e3, h1, h2]
    cases hn : z_pl S dr b q
    · exact ⟨rfl, rfl⟩
    · have ex := z_st_eq h6 (show q < S 1 b by omega) hn
      refine ⟨?_, ?_⟩
      · show _ = z_sm (z_sw S dr b) (z_pc S dr b q) + z_sw S dr b (z_pc S dr b q)
        unfold z_sw
        rw [ex, if_neg h6]; rfl
      · show _ = z_sm (z_sl S dr b) (z_pc S dr b q) + z_sl S dr b (z_pc S dr b q)
        unfold z_sl
        rw [ex, if_neg h6]; rfl
theorem z_pl_ex {S : z_S} {dr b i : Nat} (h : i < z_pc S dr b (S 1 b)) : ∃ q, q < S 1 b ∧ z_pl S dr b q = true ∧ z_pc S dr b q = i := z_cnt_ex (p := z_pl S dr b) (S 1 b) i h
theorem z_Wb_sm {S : z_S} {dr b : Nat} : z_Wb S dr b = z_sm (z_sw S dr b) (z_np S dr b) ∧ z_Lb S dr b = z_sm (z_sl S dr b) (z_np S dr b) := by
  unfold z_Wb z_Lb z_np
  by_cases e : dr = 6
  · rw [if_pos e, if_pos e, if_pos e]
    refine ⟨?_, ?_⟩
    · show 24 = 0 + z_sw S dr b 0
      unfold z_sw
      rw [if_pos e]
    · show 16 = 0 + z_sl S dr b 0
      unfold z_sl
      rw [if_pos e]
  · rw [if_neg e, if_neg e, if_neg e]
    exact z_ws_it e _ (Nat.le_refl _)
theorem z_np_b {S : z_S} {dr b : Nat} (hl : S 1 b ≤ 32) : z_np S dr b ≤ 32 := by
  unfold z_np
  split
  · omega
  · have : z_pc S dr b (S 1 b) ≤ S 1 b := z_cnt_le _
    omega
theorem z_st_b {S : z_S} {dr b i : Nat} (h : i < z_np S dr b) (hl : S 1 b ≤ 32) : z_st S dr b i < 32 := by
  unfold z_np at h
  by_cases e : dr = 6
  · unfold z_st
    rw [if_pos e]; omega
  · rw [if_neg e] at h
    obtain ⟨q, h1, h2, h3⟩ := z_pl_ex h
    rw [← h3, z_st_eq e h1 h2]
    omega
theorem z_swl {S : z_S} {dr b i : Nat} : z_sl S dr b i ≤ z_sw S dr b i ∧ 1 ≤ z_sw S dr b i := by
  unfold z_sl z_sw
  by_cases e : dr = 6
  · rw [if_pos e, if_pos e]; omega
  · rw [if_neg e, if_neg e]
    have h4 : 4 ≤ z_le S dr b (z_st S dr b i) := Nat.le_add_right _ _
    unfold z_wd
    split <;> omega
theorem z_sm_le2 {v w : Nat → Nat} (h : ∀ x, v x ≤ w x) : ∀ n, z_sm v n ≤ z_sm w n
  | 0 => Nat.le_refl _
  | n + 1 => Nat.add_le_add (z_sm_le2 h n) (h n)
/-- a drawing, spring by spring -/
theorem z_dn.at_ {f : sx_F} {S : z_S} {dr b : Nat} (D : z_dn f S dr b) : f 9 0 = nI (z_np S dr b) ∧ (∀ i, i < z_np S dr b → f 10 i = nI (z_st S dr b i)) ∧ ∀ i, i ≤ z_np S dr b → f 11 i = nI (z_sm (z_sw S dr b) i) ∧ f 12 i = nI (z_sm (z_sl S dr b) i) := by
  obtain ⟨z1, z2, D⟩ := D
  rcases D with ⟨h1, h2, h3, h4, h5⟩ | ⟨h1, h2, h3, h4⟩
  · have enp : z_np S dr b = 1 := by unfold z_np; exact if_pos h1
    rw [enp]
    refine ⟨h2, fun i hi => ?_, fun i hi => ?_⟩
    · have e : i = 0 := by omega
      rw [e, h3]
      unfold z_st
      rw [if_pos h1]; rfl
    · rcases (show i = 0 ∨ i = 1 by omega) with e | e
      · rw [e]; exact ⟨z1, z2⟩
      · rw [e, h4, h5]
        have e1 : z_sm (z_sw S dr b) 1 = 24 := by
          show 0 + z_sw S dr b 0 = 24
          unfold z_sw
          rw [if_pos h1]
        have e2 : z_sm (z_sl S dr b) 1 = 16 := by
          show 0 + z_sl S dr b 0 = 16
          unfold z_sl
          rw [if_pos h1]
        rw [e1, e2]
        exact ⟨rfl, rfl⟩
  · have enp : z_np S dr b = z_pc S dr b (S 1 b) := by unfold z_np; exact if_neg h1
    rw [enp]
    refine ⟨h2, fun i hi => ?_, fun i hi => ?_⟩
    · obtain ⟨q, q1, q2, q3⟩ := z_pl_ex hi
      rw [← q3, z_st_eq h1 q1 q2]
      exact h3 q q1 q2
    · by_cases e : i = z_pc S dr b (S 1 b)
      · obtain ⟨w1, w2⟩ := z_ws_it (S := S) (b := b) h1 (S 1 b) (Nat.le_refl _)
        rw [e, ← w1, ← w2]
        exact h4 _ (Nat.le_refl _)
      · obtain ⟨q, q1, q2, q3⟩ := z_pl_ex (show i < z_pc S dr b (S 1 b) by omega)
        obtain ⟨w1, w2⟩ := z_ws_it (S := S) (b := b) h1 q (by omega)
        rw [← q3, ← w1, ← w2]
        exact h4 q (by omega)
/-- the reference's row of an item, spring by spring -/
theorem z_F1.at_ {g : sx_F} {S : z_S} {dr b s0 : Nat} (F : z_F1 g S dr b s0) : ∀ i, i < z_np S dr b → g 17 (s0 + i) = nI (z_st S dr b i) ∧ g 18 (s0 + i) = nI (z_sw S dr b i) ∧ g 19 (s0 + i) = nI (z_sl S dr b i) := by
  intro i hi
  unfold z_np at hi
  rcases F with ⟨h1, h2, h3, h4⟩ | ⟨h1, h2⟩
  · rw [if_pos h1] at hi
    have e : i = 0 := by omega
    unfold z_sw z_sl z_st
    rw [if_pos h1, if_pos h1, if_pos h1, e, Nat.add_zero]
    exact ⟨h2, h3, h4⟩
  · rw [if_neg h1] at hi
    obtain ⟨q, q1, q2, q3⟩ := z_pl_ex hi
    have e := z_st_eq h1 q1 q2
    rw [q3] at e
    unfold z_sw z_sl
    rw [if_neg h1, if_neg h1, e]
    have := h2 q q1 q2
    rw [q3] at this
    exact this
/-- which spring begins at a sixteenth: the first one, or none -/
theorem x_springFrom {f : sx_F} {N : Nat} {st : Nat → Nat} {x : Int32} {Q : Int32 → Prop} (h9 : f 9 0 = nI N) (hN : N ≤ 32) (h10 : ∀ i, i < N → f 10 i = nI (st i)) (h1 : ∀ i, i < N → x = nI (st i) → (∀ k, k < i → x ≠ nI (st k)) → Q (nI i)) (h0 : (∀ i, i < N → x ≠ nI (st i)) → Q (-1)) : P_X5_springFrom f x Q := by
  intro B2 b2
  have key : (∀ k, k < 0 → x ≠ nI (st k)) → B2 (nI 0) := by
    refine z_up (B := fun i => (∀ k, k < i → x ≠ nI (st k)) → B2 (nI i)) N (fun i hi ih => ?_)
    intro hk
    refine b2 _ ?_
    rw [h9]
    refine pk_le N i (fun c => h0 (fun k hk2 => hk k (by omega))) (fun c => ⟨vp_in_nI (by omega) (by omega), ?_⟩)
    rw [nI_clamp (by omega), h10 i c]
    refine ⟨fun e => h1 i c e.symm hk, fun e => nm_e ?_⟩
    rw [nI_1]
    refine ih c (fun k hk2 => ?_)
    by_cases ek : k = i
    · rw [ek]; exact fun z => e z.symm
    · exact hk k (by omega)
  exact key (fun k hk => absurd hk (by omega))
