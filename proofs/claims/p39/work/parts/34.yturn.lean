theorem y_v05 : vp_in 0 5 := vp_in_nI (n := 0) (by omega) (by omega)
theorem y_v15 : vp_in 1 5 := vp_in_nI (n := 1) (by omega) (by omega)
theorem y_v25 : vp_in 2 5 := vp_in_nI (n := 2) (by omega) (by omega)
theorem y_v35 : vp_in 3 5 := vp_in_nI (n := 3) (by omega) (by omega)
theorem y_v45 : vp_in 4 5 := vp_in_nI (n := 4) (by omega) (by omega)
/-! SILENCE, SIXTEENTH BY SIXTEENTH -/
def y_sk (S : z_S) (s p : Nat) : Nat → Bool | 0 => false | k + 1 => y_sk S s p k || (decide (z_fl S s k ≤ p) && (decide (p < z_fl S s (k + 1)) && decide (¬ S 4 (8 * s + k) = 0)))
theorem y_sk_s (S : z_S) (s p k : Nat) : y_sk S s p (k + 1) = (y_sk S s p k || (decide (z_fl S s k ≤ p) && (decide (p < z_fl S s (k + 1)) && decide (¬ S 4 (8 * s + k) = 0)))) := rfl
theorem l_sounds {f a : sx_F} {o : sl_O} {S : z_S} (Y : y_N a o S) (W : z_W S) {i b p : Nat} (hi : i < 5) (hb : b < S 0 0) (hp : p ≤ 32) {Q : Int32 → Prop} (h : Q (z_b (y_sk S (12 * i + b) p (S 2 (12 * i + b))))) : P_L_sounds f a o (nI i) (nI b) (nI p) Q := by
  intro B9 B73 B77 B78 h9 h73 h77 h78
  have hb6 : b < 6 := Nat.lt_of_lt_of_le hb Y.1
  rw [y_cell] at h9
  have hs : 12 * i + b < 60 := by omega
  have hc := W.2.2.1 (12 * i + b) hs
  have hcnt := (Y.2.2.2 i b hi hb6).1
  have hfl := W.2.2.2.2.2.1 i b hi hb
  have hln := (W.2.1 b hb).2
  have key : B9 (nI (z_fl S (12 * i + b) 0)) (z_b (y_sk S (12 * i + b) p 0)) (nI 0) := by
    refine z_up (B := fun k => B9 (nI (z_fl S (12 * i + b) k)) (z_b (y_sk S (12 * i + b) p k)) (nI k)) (S 2 (12 * i + b)) (fun k hk ih => h9 _ _ _ ⟨vp_in_nI (by omega) (by omega), ?_⟩)
    rw [nI_clamp (by omega), hcnt]
    refine pk_le (S 2 (12 * i + b)) k (fun c => ?_) (fun c => l_length Y W hi hb6 c (nm_e ?_))
    · rw [show k = S 2 (12 * i + b) by omega]
      exact ⟨z_b_cases _, h⟩
    · have hle := z_fl_le (S := S) (12 * i + b) hk
      have hle2 := z_fl_le (S := S) (12 * i + b) (show k + 1 ≤ S 2 (12 * i + b) by omega)
      rw [nI_add, show z_fl S (12 * i + b) k + S 3 (8 * (12 * i + b) + k) = z_fl S (12 * i + b) (k + 1) from rfl]
      have i2 := ih c
      have y73 : y_sk S (12 * i + b) p (k + 1) = true → B73 (nI k) (nI (z_fl S (12 * i + b) (k + 1))) := fun z => h73 _ _ (h78 _ _ _ (nm_e (by rw [z] at i2; rw [nI_1]; exact i2)))
      have y77 : y_sk S (12 * i + b) p (k + 1) = false → B77 (nI k) (nI (z_fl S (12 * i + b) (k + 1))) := fun z => h77 _ _ (h78 _ _ _ (nm_e (by rw [z] at i2; rw [nI_1]; exact i2)))
      rw [y_sk_s] at y73 y77
      have hpp := (W.2.2.2.1 (8 * (12 * i + b) + k) (by omega)).2
      cases v : y_sk S (12 * i + b) p k
      · rw [v, Bool.false_or] at y73 y77
        refine ⟨fun _ => pk_lt p _ (fun c1 => y77 ?_) (fun c1 => pk_le (z_fl S (12 * i + b) (k + 1)) p (fun c2 => y77 ?_) (fun c2 => l_pitch Y W hi hb6 c (pk_le (S 4 (8 * (12 * i + b) + k)) 0 (fun c3 => y77 ?_) (fun c3 => y73 ?_)))), fun z => absurd rfl z⟩
        · rw [decide_eq_false (show ¬ z_fl S (12 * i + b) k ≤ p by omega)]; rfl
        · rw [decide_eq_false (show ¬ p < z_fl S (12 * i + b) (k + 1) by omega), Bool.false_and, Bool.and_false]
        · rw [decide_eq_false (show ¬ ¬ S 4 (8 * (12 * i + b) + k) = 0 by omega), Bool.and_false, Bool.and_false]
        · rw [decide_eq_true (show z_fl S (12 * i + b) k ≤ p by omega), decide_eq_true c2, decide_eq_true (show ¬ S 4 (8 * (12 * i + b) + k) = 0 by omega)]; rfl
      · rw [v, Bool.true_or] at y73
        exact ⟨fun z => absurd z (by decide), fun _ => y73 rfl⟩
  exact key
/-- behind the last note that sounds -/
theorem y_sk_b {S : z_S} {s p : Nat} : ∀ k, z_lsd S s k ≤ p → y_sk S s p k = false
  | 0, _ => rfl
  | k + 1, h => by
    have h1 := z_lsd_le (S := S) (s := s) k
    have h2 : z_fl S s k ≤ z_fl S s (k + 1) := z_fl_le s (Nat.le_succ k)
    have e : z_lsd S s (k + 1) = if S 4 (8 * s + k) = 0 then z_lsd S s k else z_fl S s (k + 1) := rfl
    rw [e] at h
    rw [y_sk_s]
    by_cases c : S 4 (8 * s + k) = 0
    · rw [if_pos c] at h
      rw [y_sk_b k h, decide_eq_false (show ¬ ¬ S 4 (8 * s + k) = 0 by omega), Bool.and_false, Bool.and_false]; rfl
    · rw [if_neg c] at h
      rw [y_sk_b k (by omega), decide_eq_false (show ¬ p < z_fl S s (k + 1) by omega), Bool.false_and, Bool.and_false]; rfl
theorem y_sk_e {S : z_S} (W : z_W S) {s : Nat} (hs : s < 60) : ∀ k, k ≤ S 2 s → 0 < z_lsd S s k → y_sk S s (z_lsd S s k - 1) k = true
  | 0, _, h => absurd h (by show ¬ 0 < 0; omega)
  | k + 1, hk, h => by
    have e : z_lsd S s (k + 1) = if S 4 (8 * s + k) = 0 then z_lsd S s k else z_fl S s (k + 1) := rfl
    by_cases c : S 4 (8 * s + k) = 0
    · rw [e, if_pos c] at h ⊢
      rw [y_sk_s, y_sk_e W hs k (by omega) h]; rfl
    · have h2 := z_fl_lt W hs (show k < k + 1 by omega) hk
      rw [e, if_neg c, y_sk_s, decide_eq_true (show z_fl S s k ≤ z_fl S s (k + 1) - 1 by omega), decide_eq_true (show z_fl S s (k + 1) - 1 < z_fl S s (k + 1) by omega), decide_eq_true c]
      simp
/-- ahead of the first note that sounds -/
theorem y_sk_j {S : z_S} {s p k : Nat} (h : p < z_fl S s k) : ∀ j, k ≤ j → y_sk S s p j = y_sk S s p k
  | 0, hj => by rw [show k = 0 by omega]
  | j + 1, hj => by
    by_cases e : k = j + 1
    · rw [e]
    · have h1 : z_fl S s k ≤ z_fl S s j := z_fl_le s (by omega)
      rw [y_sk_s, y_sk_j h j (by omega), decide_eq_false (show ¬ z_fl S s j ≤ p by omega)]
      simp
theorem y_sk_f {S : z_S} {s len p c : Nat} : ∀ d k, k + d = c → y_sk S s p k = false → p < z_fv S s len d k → y_sk S s p c = false
  | 0, k, hk, h, _ => by rw [← hk]; exact h
  | d + 1, k, hk, h, hp => by
    have e : z_fv S s len (d + 1) k = if S 4 (8 * s + k) = 0 then z_fv S s len d (k + 1) else z_fl S s k := rfl
    rw [e] at hp
    by_cases z : S 4 (8 * s + k) = 0
    · rw [if_pos z] at hp
      refine y_sk_f d (k + 1) (by omega) ?_ hp
      rw [y_sk_s, h, decide_eq_false (show ¬ ¬ S 4 (8 * s + k) = 0 by omega), Bool.and_false, Bool.and_false]; rfl
    · rw [if_neg z] at hp
      rw [y_sk_j hp c (by omega)]; exact h
theorem y_sk_up {S : z_S} {s p k : Nat} (h : y_sk S s p k = true) : ∀ j, k ≤ j → y_sk S s p j = true
  | 0, hj => by rw [show k = 0 by omega] at h; exact h
  | j + 1, hj => by
    by_cases e : k = j + 1
    · rw [← e]; exact h
    · rw [y_sk_s, y_sk_up h j (by omega)]; rfl
theorem y_sk_g {S : z_S} (W : z_W S) {s len c : Nat} (hs : s < 60) (hc : c ≤ S 2 s) : ∀ d k, k + d = c → z_fv S s len d k < len → y_sk S s (z_fv S s len d k) c = true
  | 0, k, hk, h => absurd h (by show ¬ len < len; omega)
  | d + 1, k, hk, h => by
    have e : z_fv S s len (d + 1) k = if S 4 (8 * s + k) = 0 then z_fv S s len d (k + 1) else z_fl S s k := rfl
    by_cases z : S 4 (8 * s + k) = 0
    · rw [e, if_pos z] at h ⊢
      exact y_sk_g W hs hc d (k + 1) (by omega) h
    · rw [e, if_neg z]
      refine y_sk_up (k := k + 1) ?_ c (by omega)
      have h2 := z_fl_lt W hs (show k < k + 1 by omega) (show k + 1 ≤ S 2 s by omega)
      rw [y_sk_s, decide_eq_true (Nat.le_refl (z_fl S s k)), decide_eq_true h2, decide_eq_true z]
      simp
theorem l_turn {f a : sx_F} {o : sl_O} {S : z_S} (Y : y_N a o S) (W : z_W S) {bk b : Nat} (hk : bk ≤ 5) (hb : b < S 0 0) {Q : Int32 → Prop} (h : Q (nI (z_tc S bk (b + 1)))) : P_L_turn f a o (nI bk) (nI b) Q := by
  intro B15 B69 B74 B83 B135 B148 h15 h69 h74 h83 h135 h148
  have n6 := Y.1
  have hl := Y.2.2.1
  refine ⟨vp_in_nI (by omega) (by omega), nm_e ?_⟩
  rw [nI_clamp (by omega), (hl b hb).1]
  by_cases h5 : bk = 5
  · subst h5
    have q0 : Q 0 := h
    have k135 : ∀ v, B135 v := fun v => h135 _ ⟨fun _ => h148 q0, fun c => absurd rfl c⟩
    have k74 : ∀ v, B74 v := fun v => h74 _ (nm_e (h83 _ _ _ ⟨fun _ => k135 v, fun c => absurd (Int32.le_refl _) c⟩))
    exact h15 _ _ _ ⟨fun _ => k74 _, fun c => absurd (Int32.le_refl _) c⟩
  have hi : bk < 5 := by omega
  have b5 : ∀ {A B : Prop}, B → (5 ≤ nI bk → A) ∧ (¬ 5 ≤ nI bk → B) := fun x => ⟨fun c => absurd c (nI_ge (a := bk) (b := 5) hi (by omega)), fun _ => x⟩
  have e : z_tc S bk (b + 1) = 100 * (16 - (z_bk S bk (b + 1) + z_fwd S bk (S 0 0 - (b + 1)) (b + 1))) := if_neg h5
  rw [e] at h
  have w1 := z_bk_le W (i := bk) (b + 1) (by omega)
  have w2 := z_fwd_le W (i := bk) (S 0 0 - (b + 1)) (b + 1) (by omega)
  generalize hA : z_bk S bk (b + 1) = TA at h w1
  generalize hB : z_fwd S bk (S 0 0 - (b + 1)) (b + 1) = TB at h w2
  have k135 : B135 (nI (TA + TB)) := by
    refine h135 _ (pk_eq bk 5 (fun c => absurd c h5) (fun _ => pk_le (TA + TB) 15 (fun c => ?_) (fun c => h148 ?_)))
    · rw [show (16 : Int32) - nI (TA + TB) = nI (16 - (TA + TB)) from pk_sub (a := 16) (b := TA + TB) (by omega), z_l100, pk_mul]; exact h
    · rw [show 16 - (TA + TB) = 0 by omega] at h; exact h
  have hsl : ∀ k, k < S 0 0 → 12 * bk + k < 60 := fun k hk2 => by omega
  -- forward
  have fw : ∀ d k, k + d = S 0 0 → ∀ e p, p + e = S 1 k → k < S 0 0 → p < S 1 k → ∀ cnt, p ≤ z_fv S (12 * bk + k) (S 1 k) (S 2 (12 * bk + k)) 0 → cnt + (z_fv S (12 * bk + k) (S 1 k) (S 2 (12 * bk + k)) 0 - p) + (if z_fv S (12 * bk + k) (S 1 k) (S 2 (12 * bk + k)) 0 < S 1 k then 0 else z_fwd S bk (d - 1) (k + 1)) = TA + TB → B83 (nI cnt) (nI p) (nI k) := by
    intro d
    induction d with
    | zero => intro k hkd e p _ hk2; omega
    | succ d ih =>
      intro k hkd e
      induction e with
      | zero => intro p he _ hp; omega
      | succ e ihe =>
        intro p he hk2 hp cnt hpv hcnt
        have hlk := hl k hk2
        have hfl := W.2.2.2.2.2.1 bk k hi hk2
        have hfv := z_fv_le W (hsl k hk2) hfl (S 2 (12 * bk + k)) 0 (by omega)
        have l1 := (W.2.1 k hk2)
        refine h83 _ _ _ (b5 ⟨y_v05, ?_⟩)
        rw [show (0 : Int32).toNatClampNeg = 0 from rfl, Y.2.1]
        refine pk_le (S 0 0) k (fun c => absurd c (by omega)) (fun _ => l_sounds Y W hi hk2 (by omega) ?_)
        by_cases c : p = z_fv S (12 * bk + k) (S 1 k) (S 2 (12 * bk + k)) 0
        · have s1 := y_sk_g W (len := S 1 k) (hsl k hk2) (Nat.le_refl _) (S 2 (12 * bk + k)) 0 (by omega) (by omega)
          rw [← c] at s1
          rw [s1]
          refine ⟨fun z => absurd z (by decide), fun _ => ?_⟩
          rw [← c, if_pos hp] at hcnt
          rw [show cnt = TA + TB by omega]
          exact k135
        · have s1 := y_sk_f (S := S) (s := 12 * bk + k) (len := S 1 k) (p := p) (c := S 2 (12 * bk + k)) (S 2 (12 * bk + k)) 0 (by omega) rfl (by omega)
          rw [s1]
          refine ⟨fun _ => nm_e (nm_e ⟨vp_in_nI (by omega) (by omega), ?_⟩), fun z => absurd rfl z⟩
          rw [nI_clamp (by omega), hlk.1, nI_1, nI_1]
          refine pk_eq (p + 1) (S 1 k) (fun c1 => nm_e ?_) (fun c1 => ?_)
          · rw [nI_1]
            rw [if_neg (by omega)] at hcnt
            by_cases c2 : k + 1 < S 0 0
            · have l2 := W.2.1 (k + 1) c2
              have hfl2 := W.2.2.2.2.2.1 bk (k + 1) hi c2
              refine ih (k + 1) (by omega) (S 1 (k + 1)) 0 (by omega) c2 (by omega) (cnt + 1) (Nat.zero_le _) ?_
              obtain ⟨d', rfl⟩ : ∃ d', d = d' + 1 := ⟨d - 1, by omega⟩
              have ef : z_fwd S bk (d' + 1) (k + 1) = if z_fv S (12 * bk + (k + 1)) (S 1 (k + 1)) (S 2 (12 * bk + (k + 1))) 0 < S 1 (k + 1) then z_fv S (12 * bk + (k + 1)) (S 1 (k + 1)) (S 2 (12 * bk + (k + 1))) 0 else S 1 (k + 1) + z_fwd S bk d' (k + 1 + 1) := rfl
              rw [show d' + 1 + 1 - 1 = d' + 1 by omega, ef] at hcnt
              rw [show d' + 1 - 1 = d' by omega]
              have hfv2 := z_fv_le W (hsl (k + 1) c2) hfl2 (S 2 (12 * bk + (k + 1))) 0 (by omega)
              split at hcnt
              · rename_i z; rw [if_pos z]; omega
              · rename_i z; rw [if_neg z]; omega
            · have d0 : d = 0 := by omega
              subst d0
              have ef : z_fwd S bk (0 + 1 - 1) (k + 1) = 0 := rfl
              rw [ef] at hcnt
              refine h83 _ _ _ (b5 ⟨y_v05, ?_⟩)
              rw [show (0 : Int32).toNatClampNeg = 0 from rfl, Y.2.1]
              refine pk_le (S 0 0) (k + 1) (fun _ => ?_) (fun c => absurd c (by omega))
              rw [show cnt + 1 = TA + TB by omega]
              exact k135
          · rw [nI_1]; exact ihe (p + 1) (by omega) hk2 (by omega) (cnt + 1) (by omega) (by omega)
  have k74 : B74 (nI TA) := by
    refine h74 _ (nm_e ?_)
    rw [nI_1]
    by_cases c : b + 1 < S 0 0
    · have l2 := W.2.1 (b + 1) c
      have hfl2 := W.2.2.2.2.2.1 bk (b + 1) hi c
      refine fw (S 0 0 - (b + 1)) (b + 1) (by omega) (S 1 (b + 1)) 0 (by omega) c (by omega) TA (Nat.zero_le _) ?_
      obtain ⟨d', hd'⟩ : ∃ d', S 0 0 - (b + 1) = d' + 1 := ⟨S 0 0 - (b + 1) - 1, by omega⟩
      rw [hd'] at hB ⊢
      have ef : z_fwd S bk (d' + 1) (b + 1) = if z_fv S (12 * bk + (b + 1)) (S 1 (b + 1)) (S 2 (12 * bk + (b + 1))) 0 < S 1 (b + 1) then z_fv S (12 * bk + (b + 1)) (S 1 (b + 1)) (S 2 (12 * bk + (b + 1))) 0 else S 1 (b + 1) + z_fwd S bk d' (b + 1 + 1) := rfl
      rw [ef] at hB
      rw [show d' + 1 - 1 = d' by omega]
      have hfv2 := z_fv_le W (hsl (b + 1) c) hfl2 (S 2 (12 * bk + (b + 1))) 0 (by omega)
      split at hB
      · rename_i z; rw [if_pos z]; omega
      · rename_i z; rw [if_neg z]; omega
    · refine h83 _ _ _ (b5 ⟨y_v05, ?_⟩)
      rw [show (0 : Int32).toNatClampNeg = 0 from rfl, Y.2.1]
      refine pk_le (S 0 0) (b + 1) (fun _ => ?_) (fun c => absurd c (by omega))
      rw [show S 0 0 - (b + 1) = 0 by omega] at hB
      have : TB = 0 := hB.symm
      rw [show TA = TA + TB by omega]
      exact k135
  -- backward
  have bw : ∀ k, k ≤ b → ∀ p, p < S 1 k → ∀ cnt, z_lsd S (12 * bk + k) (S 2 (12 * bk + k)) ≤ p + 1 → cnt + (p + 1 - z_lsd S (12 * bk + k) (S 2 (12 * bk + k))) + (if z_lsd S (12 * bk + k) (S 2 (12 * bk + k)) = 0 then z_bk S bk k else 0) = TA → B15 (nI cnt) (nI p) (nI k) := by
    intro k
    induction k with
    | zero =>
      intro hk2 p
      induction p with
      | zero =>
        intro hp cnt hpv hcnt
        have l1 := (W.2.1 0 (by omega))
        refine h15 _ _ _ (b5 ⟨fun c => absurd c (nI_pos (by omega)), fun _ => l_sounds Y W hi (show 0 < S 0 0 by omega) (by omega) ?_⟩)
        by_cases c : z_lsd S (12 * bk + 0) (S 2 (12 * bk + 0)) = 0
        · rw [y_sk_b _ (by omega)]
          refine ⟨fun _ => nm_e (nm_e ⟨fun z => absurd z (by decide), fun _ => nm_e ⟨fun z => absurd z (by decide), fun _ => h69 _ _ _ (h15 _ _ _ (b5 ⟨fun _ => ?_, fun z => absurd (by decide) z⟩))⟩⟩), fun z => absurd rfl z⟩
          rw [if_pos c, show z_bk S bk 0 = 0 from rfl] at hcnt
          rw [nI_1, show cnt + 1 = TA by omega]
          exact k74
        · have s1 := y_sk_e W (hsl 0 (by omega)) (S 2 (12 * bk + 0)) (Nat.le_refl _) (by omega)
          rw [show z_lsd S (12 * bk + 0) (S 2 (12 * bk + 0)) - 1 = 0 by omega] at s1
          rw [s1]
          refine ⟨fun z => absurd z (by decide), fun _ => ?_⟩
          rw [if_neg c] at hcnt
          rw [show cnt = TA by omega]
          exact k74
      | succ p ihp =>
        intro hp cnt hpv hcnt
        have l1 := (W.2.1 0 (by omega))
        refine h15 _ _ _ (b5 ⟨fun c => absurd c (nI_pos (by omega)), fun _ => l_sounds Y W hi (show 0 < S 0 0 by omega) (by omega) ?_⟩)
        by_cases c : z_lsd S (12 * bk + 0) (S 2 (12 * bk + 0)) ≤ p + 1
        · rw [y_sk_b _ c]
          refine ⟨fun _ => nm_e (nm_e ⟨fun _ => ?_, fun z => absurd (by rw [pk_m1]; exact nI_pos' (by omega)) z⟩), fun z => absurd rfl z⟩
          rw [pk_m1, nI_1]
          exact ihp (by omega) (cnt + 1) c (by omega)
        · have s1 := y_sk_e W (hsl 0 (by omega)) (S 2 (12 * bk + 0)) (Nat.le_refl _) (by omega)
          rw [show z_lsd S (12 * bk + 0) (S 2 (12 * bk + 0)) - 1 = p + 1 by omega] at s1
          rw [s1]
          refine ⟨fun z => absurd z (by decide), fun _ => ?_⟩
          rw [if_neg (by omega)] at hcnt
          rw [show cnt = TA by omega]
          exact k74
    | succ k ihk =>
      intro hk2 p
      induction p with
      | zero =>
        intro hp cnt hpv hcnt
        have l1 := (W.2.1 (k + 1) (by omega))
        have l0 := (W.2.1 k (by omega))
        have hfl := W.2.2.2.2.2.1 bk k hi (by omega)
        have hls := z_lsd_le (S := S) (s := 12 * bk + k) (S 2 (12 * bk + k))
        refine h15 _ _ _ (b5 ⟨fun c => absurd c (nI_pos (by omega)), fun _ => l_sounds Y W hi (show k + 1 < S 0 0 by omega) (by omega) ?_⟩)
        by_cases c : z_lsd S (12 * bk + (k + 1)) (S 2 (12 * bk + (k + 1))) = 0
        · rw [y_sk_b _ (by omega)]
          refine ⟨fun _ => nm_e (nm_e ⟨fun z => absurd z (by decide), fun _ => nm_e ⟨fun _ => ⟨?_, h69 _ _ _ ?_⟩, fun z => absurd (by rw [pk_m1]; exact nI_pos' (by omega)) z⟩⟩), fun z => absurd rfl z⟩
          · rw [pk_m1]; exact vp_in_nI (by omega) (by omega)
          · rw [pk_m1, nI_clamp (by omega), (hl k (by omega)).1, nI_1, show nI (S 1 k) - 1 = nI (S 1 k - 1) from pk_sub (a := S 1 k) (b := 1) (by omega)]
            rw [if_pos c] at hcnt
            have eb : z_bk S bk (k + 1) = (S 1 k - z_lsd S (12 * bk + k) (S 2 (12 * bk + k))) + (if z_lsd S (12 * bk + k) (S 2 (12 * bk + k)) = 0 then z_bk S bk k else 0) := rfl
            rw [eb] at hcnt
            refine ihk (by omega) (S 1 k - 1) (by omega) (cnt + 1) (by omega) ?_
            rw [show S 1 k - 1 + 1 = S 1 k by omega]
            omega
        · have s1 := y_sk_e W (hsl (k + 1) (by omega)) (S 2 (12 * bk + (k + 1))) (Nat.le_refl _) (by omega)
          rw [show z_lsd S (12 * bk + (k + 1)) (S 2 (12 * bk + (k + 1))) - 1 = 0 by omega] at s1
          rw [s1]
          refine ⟨fun z => absurd z (by decide), fun _ => ?_⟩
          rw [if_neg c] at hcnt
          rw [show cnt = TA by omega]
          exact k74
      | succ p ihp =>
        intro hp cnt hpv hcnt
        have l1 := (W.2.1 (k + 1) (by omega))
        refine h15 _ _ _ (b5 ⟨fun c => absurd c (nI_pos (by omega)), fun _ => l_sounds Y W hi (show k + 1 < S 0 0 by omega) (by omega) ?_⟩)
        by_cases c : z_lsd S (12 * bk + (k + 1)) (S 2 (12 * bk + (k + 1))) ≤ p + 1
        · rw [y_sk_b _ c]
          refine ⟨fun _ => nm_e (nm_e ⟨fun _ => ?_, fun z => absurd (by rw [pk_m1]; exact nI_pos' (by omega)) z⟩), fun z => absurd rfl z⟩
          rw [pk_m1, nI_1]
          exact ihp (by omega) (cnt + 1) c (by omega)
        · have s1 := y_sk_e W (hsl (k + 1) (by omega)) (S 2 (12 * bk + (k + 1))) (Nat.le_refl _) (by omega)
          rw [show z_lsd S (12 * bk + (k + 1)) (S 2 (12 * bk + (k + 1))) - 1 = p + 1 by omega] at s1
          rw [s1]
          refine ⟨fun z => absurd z (by decide), fun _ => ?_⟩
          rw [if_neg (by omega)] at hcnt
          rw [show cnt = TA by omega]
          exact k74
  have l1 := (W.2.1 b hb)
  have hfl := W.2.2.2.2.2.1 bk b hi hb
  have hls := z_lsd_le (S := S) (s := 12 * bk + b) (S 2 (12 * bk + b))
  rw [show nI (S 1 b) - 1 = nI (S 1 b - 1) from pk_sub (a := S 1 b) (b := 1) (by omega)]
  refine bw b (Nat.le_refl _) (S 1 b - 1) (by omega) 0 (by omega) ?_
  have eb : z_bk S bk (b + 1) = (S 1 b - z_lsd S (12 * bk + b) (S 2 (12 * bk + b))) + (if z_lsd S (12 * bk + b) (S 2 (12 * bk + b)) = 0 then z_bk S bk b else 0) := rfl
  rw [eb] at hA
  rw [show S 1 b - 1 + 1 = S 1 b by omega]
  omega
