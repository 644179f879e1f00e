def z_Bk (f : sx_F) (I : Nat) (W L T : Nat → Nat) (w q : Nat) : Prop := f 8 3 = nI I ∧ (∀ j, j ≤ I → f 17 j = nI (z_sm W j) ∧ f 18 j = nI (z_sm L j)) ∧ (∀ j, j ≤ I → f 20 j = nI (T j)) ∧ f 19 1 = nI w ∧ f 19 2 = nI q
theorem z_widI (W : Nat → Nat) {a e : Nat} (h : a ≤ e) : 8 * (nI e - nI a) + nI (z_sm W e) - nI (z_sm W a) = nI (z_wid W a e) := by
  have m := z_sm_mono (w := W) h
  rw [pk_sub h, z_l8, pk_mul, nI_add, pk_sub (by omega)]
  unfold z_wid
  rw [show 8 * (e - a) + z_sm W e - z_sm W a = 8 * (e - a) + (z_sm W e - z_sm W a) by omega]
theorem x_widthOf {f : sx_F} {I : Nat} {W L T : Nat → Nat} {w q a e : Nat} {Q : Int32 → Prop} (B : z_Bk f I W L T w q) (hI : I ≤ 12) (h1 : a ≤ e) (h2 : e ≤ I) (h : Q (nI (z_wid W a e))) : P_X0_widthOf f (nI a) (nI e) Q := by
  unfold P_X0_widthOf
  rw [nI_clamp (n := e) (by omega), nI_clamp (n := a) (by omega), (B.2.1 e h2).1, (B.2.1 a (by omega)).1, z_widI W h1]
  exact ⟨vp_in_nI (by omega) (by omega), vp_in_nI (by omega) (by omega), h⟩
theorem x_leastOf {f : sx_F} {I : Nat} {W L T : Nat → Nat} {w q a e : Nat} {Q : Int32 → Prop} (B : z_Bk f I W L T w q) (hI : I ≤ 12) (h1 : a ≤ e) (h2 : e ≤ I) (h : Q (nI (z_wid L a e))) : P_X0_leastOf f (nI a) (nI e) Q := by
  unfold P_X0_leastOf
  rw [nI_clamp (n := e) (by omega), nI_clamp (n := a) (by omega), (B.2.1 e h2).2, (B.2.1 a (by omega)).2, z_widI L h1]
  exact ⟨vp_in_nI (by omega) (by omega), vp_in_nI (by omega) (by omega), h⟩
theorem x_mayBeLine {f : sx_F} {I : Nat} {W L T : Nat → Nat} {w q a k : Nat} {Q : Int32 → Prop} (B : z_Bk f I W L T w q) (hI : I ≤ 12) (hw : w ≤ 500) (hL : ∀ j, j < I → L j ≤ 288) (h1 : 1 ≤ k) (h2 : a + k ≤ I) (h : Q (z_b (z_ok L w a k))) : P_X3_mayBeLine f (nI a) (nI (a + k)) Q := by
  intro B23 h23
  rw [pk_sub (by omega), show a + k - a = k by omega]
  unfold z_ok at h
  have hwid := z_wid_le (a := a) hL (a + k) (by omega) h2
  rw [show a + k - a = k by omega] at hwid
  refine pk_eq k 1 (fun c => h23 ?_) (fun c => x_leastOf B hI (by omega) h2 ?_)
  · rw [decide_eq_true (Or.inl c)] at h; exact h
  · rw [B.2.2.2.1]
    refine pk_lt w (z_wid L a (a + k)) (fun y => ?_) (fun y => h23 ?_)
    · rw [decide_eq_false (fun z => z.elim c (fun z => by omega))] at h; exact h
    · rw [decide_eq_true (Or.inr y)] at h; exact h
theorem z_negsq (x : Int32) : -x * -x = x * x := by
  rw [Int32.neg_mul, Int32.mul_neg, Int32.neg_neg]
theorem z_subneg {a b : Nat} (h : a ≤ b) : nI a - nI b = -nI (b - a) := by
  have e : nI b = nI a + nI (b - a) := by rw [nI_add, show a + (b - a) = b by omega]
  rw [e]
  apply Int32.toBitVec_inj.mp
  simp only [Int32.toBitVec_sub, Int32.toBitVec_add, Int32.toBitVec_neg]
  bv_omega
theorem x_badness {f : sx_F} {I : Nat} {W L T : Nat → Nat} {w q a e : Nat} {Q : Int32 → Prop} (B : z_Bk f I W L T w q) (hI : I ≤ 12) (hw : w ≤ 500) (hW : ∀ j, j < I → W j ≤ 768) (h1 : a ≤ e) (h2 : e ≤ I) (h : Q (nI (z_bad w (z_wid W a e) (decide (e = I))))) : P_X3_badness f (nI a) (nI e) Q := by
  have hwid := z_wid_le (a := a) hW e h1 h2
  refine x_widthOf B hI h1 h2 (nm_e ?_)
  rw [B.2.2.2.1, B.1]
  have hb : z_wid W a e ≤ 9312 := by
    have : (8 + 768) * (e - a) ≤ 776 * 12 := Nat.mul_le_mul (Nat.le_refl _) (by omega)
    omega
  unfold z_bad at h
  generalize z_wid W a e = wd at h hb
  by_cases c : w < wd
  · rw [if_pos c] at h
    rw [pk_sub (by omega)]
    refine pk_le (wd - w) 0 (fun y => absurd y (by omega)) (fun _ => ?_)
    rw [z_l2, pk_mul, pk_mul, pk_mul, show 2 * (wd - w) * 2 * (wd - w) = 4 * ((wd - w) * (wd - w)) by rw [Nat.mul_comm (2 * (wd - w)) 2, ← Nat.mul_assoc, Nat.mul_assoc]]
    exact h
  · rw [if_neg c] at h
    rw [z_subneg (by omega)]
    have neg : -nI (w - wd) ≤ 0 := by
      rw [Int32.le_iff_toInt_le]
      rw [← z_subneg (show wd ≤ w by omega), pk_sub_toInt (by omega) (by omega)]
      show ((wd : Int) - w) ≤ 0
      omega
    refine ⟨fun _ => pk_eq e I (fun y => ?_) (fun y => ?_), fun y => absurd neg y⟩
    · rw [decide_eq_true y] at h; exact h
    · rw [decide_eq_false y] at h
      rw [z_negsq, pk_mul]
      exact h
theorem x_nextOnPage {f : sx_F} {q l : Nat} {Q : Int32 → Prop} (h2 : f 19 2 = nI q) (hq : q ≤ 6) (hl : l < 6) (h : Q (nI (z_nl q l))) : P_X3_nextOnPage f (nI l) Q := by
  unfold P_X3_nextOnPage
  unfold z_nl at h
  rw [h2, nI_1]
  refine pk_le q (l + 1) (fun y => ?_) (fun y => ?_)
  · rw [if_neg (by omega)] at h; exact h
  · rw [if_pos y] at h; exact h
theorem x_turnAhead {f : sx_F} {I : Nat} {W L T : Nat → Nat} {w q e l : Nat} {Q : Int32 → Prop} (B : z_Bk f I W L T w q) (hI : I ≤ 12) (hl : l < 6) (h2 : e ≤ I) (h : Q (nI (if l + 1 < q then 0 else T e))) : P_X3_turnAhead f (nI e) (nI (z_nl q l)) Q := by
  have hn : z_nl q l ≤ 6 := by unfold z_nl; split <;> omega
  refine pk_eq (z_nl q l) 0 (fun y => ⟨vp_in_nI (by omega) (by omega), ?_⟩) (fun y => ?_)
  · rw [nI_clamp (by omega), B.2.2.1 e h2]
    unfold z_nl at y
    by_cases c : l + 1 < q
    · rw [if_pos c] at y; omega
    · rw [if_neg c] at h; exact h
  · unfold z_nl at y
    by_cases c : l + 1 < q
    · rw [if_pos c] at h; exact h
    · rw [if_neg c] at y; omega
theorem m_badness {g : sx_F} {w wd : Nat} {l : Bool} {Q : Int32 → Prop} (h6 : g 0 6 = nI w) (hw : w ≤ 500) (hb : wd ≤ 100000) (h : Q (nI (z_bad w wd l))) : P_X7_badness g (nI wd) (z_b l) Q := by
  intro B18 B32 h18 h32
  refine nm_e ?_
  rw [h6]
  unfold z_bad at h
  by_cases c : w < wd
  · rw [if_pos c] at h
    rw [z_subneg (by omega)]
    have neg : ¬ 0 ≤ -nI (wd - w) := by
      rw [Int32.le_iff_toInt_le, ← z_subneg (show w ≤ wd by omega), pk_sub_toInt (by omega) (by omega)]
      show ¬ (0 : Int) ≤ (w : Int) - wd
      omega
    have sq : Q ((2 * -nI (wd - w)) * (2 * -nI (wd - w))) := by
      rw [Int32.mul_neg, z_negsq, z_l2, pk_mul, pk_mul, show 2 * (wd - w) * (2 * (wd - w)) = 4 * ((wd - w) * (wd - w)) by rw [Nat.mul_mul_mul_comm]]
      exact h
    have le0 : -nI (wd - w) ≤ 0 := by
      rcases Int32.le_total 0 (-nI (wd - w)) with z | z
      · exact absurd z neg
      · exact z
    refine ⟨fun y => absurd y neg, fun _ => h18 _ _ ?_⟩
    exact ⟨fun _ => h32 _ sq, fun _ => ⟨fun _ => h32 _ sq, fun y => absurd le0 y⟩⟩
  · rw [if_neg c] at h
    rw [pk_sub (by omega)]
    refine ⟨fun _ => h18 _ _ ?_, fun y => absurd (nI_pos' (by omega)) y⟩
    cases l
    · refine ⟨fun _ => h32 _ ?_, fun y => absurd rfl y⟩
      rw [pk_mul]; exact h
    · refine ⟨fun y => absurd y (by decide), fun _ => pk_le (w - wd) 0 (fun y => h32 _ ?_) (fun y => h)⟩
      rw [show w - wd = 0 by omega]; exact h
