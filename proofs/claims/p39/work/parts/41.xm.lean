/-! WHAT THE CLASS DOES: the calls that change -/
theorem w_bar {t : Nat} {f g : sx_F} {S : z_S} (R : z_R t f g S) {j : Nat} (hj1 : 1 ≤ j) (hj : j ≤ 32) (c : S 0 0 < 12) {Q : Int32 → sx_F → Prop} {X : String → sx_F → Prop} (h : ∀ f', z_R (t + 1) f' (sx_u (sx_u (sx_u g 0 33 0) 1 (S 0 0) (nI j)) 0 5 (nI (S 0 0 + 1))) (z_u (z_u S 1 (S 0 0) j) 0 0 (S 0 0 + 1)) → Q (nI (S 0 0)) f') : P_X6_bar f (nI j) Q X := by
  have hn := R.2.2.1.1
  have h1 : ¬ nI j < 1 := nI_nlt (a := j) (b := 1) hj1 (by omega)
  have h2 : ¬ 32 < nI j := nI_nlt (a := 32) (b := j) hj (by omega)
  unfold P_X6_bar
  refine x_needValue_t h1 h2 ?_
  rw [R.1.1]
  refine pk_lt (S 0 0) 12 (fun c => ?_) (fun c => absurd c (by omega))
  unfold P_X4_addBar
  refine ⟨?_, nm_e ⟨?_, ?_, nm_e (nm_e ?_)⟩⟩
  · rw [R.1.1]; exact vp_in_nI c (by omega)
  · simp (disch := decide) only [sx_u_n]; rw [R.1.1]; exact vp_in_nI (by omega) (by omega)
  · simp (disch := decide) only [sx_u_n]; rw [R.1.1, nI_1]; exact vp_in_nI (by omega) (by omega)
  simp (disch := decide) only [sx_u_n, sx_u_s, pk_us]
  rw [R.1.1, nI_1, nI_clamp (by omega), nI_clamp (by omega), show nI (S 0 0 + 1) - 1 = nI (S 0 0) from nI_pred _]
  have tm := R.2.2.2.1 (S 0 0) (Nat.le_refl _)
  rw [tm, nI_add]
  refine h _ ⟨⟨?_, ?_, ?_, ?_, ?_⟩, ⟨?_, ?_, ?_, ?_, ?_⟩, ⟨?_, ?_, ?_, ?_, ?_, ?_, ?_⟩, ?_, ?_, ?_, ?_, ?_, ?_⟩
  · simp (disch := decide) only [sx_u_n, sx_u_s, pk_us, z_us]
  · intro k hk
    simp (disch := decide) only [sx_u_n, sx_u_s, z_un1]
    by_cases e : k = S 0 0
    · rw [e, pk_us, z_us]
    · rw [pk_un e, z_un (Or.inr e)]; exact R.1.2.1 k hk
  · intro k hk
    simp (disch := decide) only [sx_u_n, z_un1]
    exact R.1.2.2.1 k hk
  · intro k hk
    simp (disch := decide) only [sx_u_n, z_un1]
    exact R.1.2.2.2.1 k hk
  · intro k hk
    simp (disch := decide) only [sx_u_n, z_un1]
    exact R.1.2.2.2.2 k hk
  · simp (disch := decide) only [sx_u_n, sx_u_s, pk_us, z_us]
  · intro k hk
    simp (disch := decide) only [sx_u_n, sx_u_s, z_un1]
    by_cases e : k = S 0 0
    · rw [e, pk_us, z_us]
    · rw [pk_un e, z_un (Or.inr e)]; exact R.2.1.2.1 k hk
  · intro k hk
    simp (disch := decide) only [sx_u_n, z_un1]
    exact R.2.1.2.2.1 k hk
  · intro k hk
    simp (disch := decide) only [sx_u_n, z_un1]
    exact R.2.1.2.2.2.1 k hk
  · intro k hk
    simp (disch := decide) only [sx_u_n, z_un1]
    exact R.2.1.2.2.2.2 k hk
  · rw [z_us]; omega
  · intro k hk
    rw [z_us] at hk
    rw [z_un (Or.inl (by decide))]
    by_cases e : k = S 0 0
    · rw [e, z_us]; omega
    · rw [z_un (Or.inr e)]; exact R.2.2.1.2.1 k (by omega)
  · intro s hs
    rw [z_un (Or.inl (by decide)), z_un (Or.inl (by decide))]
    exact R.2.2.1.2.2.1 s hs
  · intro s hs
    rw [z_un (Or.inl (by decide)), z_un (Or.inl (by decide)), z_un (Or.inl (by decide)), z_un (Or.inl (by decide))]
    exact R.2.2.1.2.2.2.1 s hs
  · intro s k hs
    rw [z_un (Or.inl (by decide)), z_un (Or.inl (by decide)), z_un (Or.inl (by decide)), z_un (Or.inl (by decide))]
    exact R.2.2.1.2.2.2.2.1 s k hs
  · intro i b hi hb
    rw [z_us] at hb
    rw [z_fl_c (S := S) _ (fun k _ => by rw [z_un (Or.inl (by decide)), z_un (Or.inl (by decide))]), z_un (Or.inl (by decide)), z_un (Or.inl (by decide)), z_un (k := 0) (Or.inl (by decide))]
    by_cases e : b = S 0 0
    · rw [e, R.2.2.1.2.2.2.2.2.2 i (S 0 0) hi c (Nat.le_refl _)]
      exact Nat.zero_le _
    · rw [z_un (Or.inr e)]
      exact R.2.2.1.2.2.2.2.2.1 i b hi (by omega)
  · intro i b hi hb hb2
    rw [z_us] at hb2
    rw [z_un (Or.inl (by decide)), z_un (Or.inl (by decide))]
    exact R.2.2.1.2.2.2.2.2.2 i b hi hb (by omega)
  · intro k hk
    rw [z_us] at hk
    have e2 : ∀ i, i ≤ S 0 0 → z_tm (z_u (z_u S 1 (S 0 0) j) 0 0 (S 0 0 + 1)) i = z_tm S i := fun i hi => z_tm_c i (fun q hq => by rw [z_un1 (by decide), z_un (Or.inr (by omega))])
    simp (disch := decide) only [sx_u_n, sx_u_s]
    by_cases e : k = S 0 0 + 1
    · rw [e, pk_us]
      show _ = nI (z_tm (z_u (z_u S 1 (S 0 0) j) 0 0 (S 0 0 + 1)) (S 0 0) + z_u (z_u S 1 (S 0 0) j) 0 0 (S 0 0 + 1) 1 (S 0 0))
      rw [e2 _ (Nat.le_refl _), z_un1 (by decide), z_us]
    · rw [pk_un e, e2 k (by omega)]
      exact R.2.2.2.1 k (by omega)
  · intro s hs
    simp (disch := decide) only [sx_u_n]
    obtain ⟨a1, v, hv, a2⟩ := R.2.2.2.2.1 s hs
    exact ⟨a1, v, by omega, a2⟩
  · obtain ⟨w, q, a⟩ := R.2.2.2.2.2.1
    refine ⟨w, q, ?_⟩
    simp (disch := decide) only [sx_u_n, sx_u_s, pk_un]
    exact a
  · exact R.2.2.2.2.2.2.1.sc (fun k hk => by rw [sx_u_n (by omega), sx_u_n (by omega), sx_u_n (by omega)]) (by simp (disch := decide) only [sx_u_n]) (by simp (disch := decide) only [sx_u_n, sx_u_s, pk_un]) (by simp (disch := decide) only [sx_u_n]) (by simp (disch := decide) only [sx_u_n]) (by simp (disch := decide) only [sx_u_n])
  · simp (disch := decide) only [sx_u_n, sx_u_s, pk_un]
    exact R.2.2.2.2.2.2.2.1
  · exact R.mono.2.2.2.2.2.2.2.2.sc (fun k hk => by rw [sx_u_n (by omega), sx_u_n (by omega), sx_u_n (by omega)]) (by simp (disch := decide) only [sx_u_n]) (by simp (disch := decide) only [sx_u_n]) (by simp (disch := decide) only [sx_u_n]) (by simp (disch := decide) only [sx_u_n]) (by simp (disch := decide) only [sx_u_n])
theorem w_note {t : Nat} {f g : sx_F} {S : z_S} (ht : t < 1000000) (R : z_R t f g S) {i b l p : Nat} (hi : i < 5) (hb : b < S 0 0) (hl1 : 1 ≤ l) (hl : l ≤ 32) (hp : p ≤ 60) {Q : Int32 → sx_F → Prop} {X : String → sx_F → Prop}
    (h0 : S 2 (12 * i + b) < 8 → z_fl S (12 * i + b) (S 2 (12 * i + b)) + l ≤ S 1 b → ∀ f', z_R (t + 1) f' (sx_u (sx_u (sx_u (sx_u (sx_u g 0 33 0) 2 (8 * (12 * i + b) + S 2 (12 * i + b)) (nI l)) 3 (8 * (12 * i + b) + S 2 (12 * i + b)) (nI p)) 4 (12 * i + b) (nI (S 2 (12 * i + b) + 1))) 5 (12 * i + b) (g 5 (12 * i + b) + 1)) (z_u (z_u (z_u S 3 (8 * (12 * i + b) + S 2 (12 * i + b)) l) 4 (8 * (12 * i + b) + S 2 (12 * i + b)) p) 2 (12 * i + b) (S 2 (12 * i + b) + 1)) → Q (nI (S 2 (12 * i + b) + 1)) f')
    (h3 : (8 ≤ S 2 (12 * i + b) ∨ S 1 b < z_fl S (12 * i + b) (S 2 (12 * i + b)) + l) → X "java/lang/IllegalStateException" f) : P_X6_note f (nI i) (nI b) (nI l) (nI p) Q X := by
  have hn := R.2.2.1.1
  have hs : 12 * i + b < 60 := by omega
  have hc8 := R.2.2.1.2.2.1 _ hs
  unfold P_X6_note
  refine x_needSlot_t R.1 R.2.2.1 hi hb ?_
  refine x_needValue_t (nI_nlt (a := l) (b := 1) hl1 (by omega)) (nI_nlt (a := 32) (b := l) hl (by omega)) (x_needValue_t (nI_pos (by omega)) (nI_nlt (a := 60) (b := p) hp (by omega)) ⟨vp_in_nI (by omega) (by omega), ?_⟩)
  rw [nI_clamp (by omega), R.1.2.2.1 _ hs]
  refine pk_lt (S 2 (12 * i + b)) 8 (fun c => x_filled R.1 R.2.2.1 hs ⟨vp_in_nI (by omega) (by omega), ?_⟩) (fun c => h3 (Or.inl c))
  have hfl := R.2.2.1.2.2.2.2.2.1 i b hi hb
  have hlen := (R.2.2.1.2.1 b hb).2
  rw [nI_clamp (by omega), R.1.2.1 b (by omega), nI_add]
  refine pk_le _ _ (fun c1 => ?_) (fun c1 => h3 (Or.inr c1))
  refine x_addNote R.1 hs c (h0 c c1 _ (R.sc ht ?_ ?_ (R.2.2.1.note hi hb c ⟨hl1, hl⟩ hp c1) ?_ ?_ ?_ ?_ ?_ (fun s => if s = 12 * i + b then 1 else 0) ?_))
  · refine ⟨?_, fun k hk => ?_, fun k hk => ?_, fun k hk => ?_, fun k hk => ?_⟩
    · simp (disch := decide) only [sx_u_n, z_un1]; exact R.1.1
    · simp (disch := decide) only [sx_u_n, z_un1]; exact R.1.2.1 k hk
    · simp (disch := decide) only [sx_u_n, sx_u_s]
      by_cases e : k = 12 * i + b
      · rw [e, pk_us, z_us]
      · rw [pk_un e, z_un (Or.inr e)]; simp (disch := decide) only [z_un1]; exact R.1.2.2.1 k hk
    · simp (disch := decide) only [sx_u_n, sx_u_s, z_un1]
      by_cases e : k = 8 * (12 * i + b) + S 2 (12 * i + b)
      · rw [e, pk_us, z_us]
      · rw [pk_un e, z_un (Or.inr e)]; exact R.1.2.2.2.1 k hk
    · simp (disch := decide) only [sx_u_n, sx_u_s, z_un1]
      by_cases e : k = 8 * (12 * i + b) + S 2 (12 * i + b)
      · rw [e, pk_us, z_us]
      · rw [pk_un e, z_un (Or.inr e)]; simp (disch := decide) only [z_un1]; exact R.1.2.2.2.2 k hk
  · refine ⟨?_, fun k hk => ?_, fun k hk => ?_, fun k hk => ?_, fun k hk => ?_⟩
    · simp (disch := decide) only [sx_u_n, sx_u_s, pk_un, z_un1]; exact R.2.1.1
    · simp (disch := decide) only [sx_u_n, z_un1]; exact R.2.1.2.1 k hk
    · simp (disch := decide) only [sx_u_n, sx_u_s]
      by_cases e : k = 12 * i + b
      · rw [e, pk_us, z_us]
      · rw [pk_un e, z_un (Or.inr e)]; simp (disch := decide) only [z_un1]; exact R.2.1.2.2.1 k hk
    · simp (disch := decide) only [sx_u_n, sx_u_s, z_un1]
      by_cases e : k = 8 * (12 * i + b) + S 2 (12 * i + b)
      · rw [e, pk_us, z_us]
      · rw [pk_un e, z_un (Or.inr e)]; exact R.2.1.2.2.2.1 k hk
    · simp (disch := decide) only [sx_u_n, sx_u_s, z_un1]
      by_cases e : k = 8 * (12 * i + b) + S 2 (12 * i + b)
      · rw [e, pk_us, z_us]
      · rw [pk_un e, z_un (Or.inr e)]; simp (disch := decide) only [z_un1]; exact R.2.1.2.2.2.2 k hk
  · simp (disch := decide) only [z_un1]
  · intro k; simp (disch := decide) only [z_un1]
  · intro k hk; rw [sx_u_n (by omega), sx_u_n (by omega), sx_u_n (by omega), sx_u_n (by omega)]
  · intro k hk; rw [sx_u_n (by omega), sx_u_n (by omega), sx_u_n (by omega), sx_u_n (by omega), sx_u_n (by omega)]
  · intro j hj; simp (disch := decide) only [sx_u_n, sx_u_s]; rw [pk_un hj]
  · intro s hs
    simp (disch := decide) only [sx_u_n, sx_u_s]
    by_cases e : s = 12 * i + b
    · rw [e, if_pos rfl, pk_us, pk_us]; exact ⟨Nat.le_refl _, rfl, rfl⟩
    · rw [if_neg e, pk_un e, pk_un e]; exact ⟨by omega, (Int32.add_zero _).symm, (Int32.add_zero _).symm⟩
theorem w_mend {t : Nat} {f g : sx_F} {S : z_S} (ht : t < 1000000) (R : z_R t f g S) {i b k p : Nat} (hi : i < 5) (hb : b < S 0 0) (hk : k < S 2 (12 * i + b)) (hp : p ≤ 60) {Q : Int32 → sx_F → Prop} {X : String → sx_F → Prop}
    (h : ∀ f', z_R (t + 1) f' (sx_u (sx_u (sx_u g 0 33 0) 3 (8 * (12 * i + b) + k) (nI p)) 5 (12 * i + b) (g 5 (12 * i + b) + nI (if S 4 (8 * (12 * i + b) + k) = p then 0 else 1))) (z_u S 4 (8 * (12 * i + b) + k) p) → Q (nI (S 4 (8 * (12 * i + b) + k))) f') : P_X6_mend f (nI i) (nI b) (nI k) (nI p) Q X := by
  have hn := R.2.2.1.1
  have hs : 12 * i + b < 60 := by omega
  have hc8 := R.2.2.1.2.2.1 _ hs
  unfold P_X6_mend
  refine x_needSlot_t R.1 R.2.2.1 hi hb ⟨vp_in_nI (by omega) (by omega), ?_⟩
  rw [nI_clamp (by omega), R.1.2.2.1 _ hs]
  refine x_needIndex_t hk (by omega) (x_needValue_t (nI_pos (by omega)) (nI_nlt (a := 60) (b := p) hp (by omega)) ?_)
  unfold P_X4_changePitch
  rw [z_at]
  refine nm_e ⟨vp_in_nI (by omega) (by omega), ?_⟩
  rw [nI_clamp (by omega), R.1.2.2.2.2 _ (by omega)]
  have hp60 := (R.2.2.1.2.2.2.1 (8 * (12 * i + b) + k) (by omega)).2
  have X' : ∀ f' : sx_F, f' 1 = f 1 → f' 2 = f 2 → f' 5 = f 5 → f' 6 = f 6 → f' 7 = upd (f 7) (8 * (12 * i + b) + k) (nI p) → z_X f' (z_u S 4 (8 * (12 * i + b) + k) p) := by
    intro f' e1 e2 e5 e6 e7
    refine ⟨?_, fun k hk => ?_, fun k hk => ?_, fun k hk => ?_, fun q hq => ?_⟩
    · rw [e1, z_un1 (by decide)]; exact R.1.1
    · rw [e2, z_un1 (by decide)]; exact R.1.2.1 k hk
    · rw [e5, z_un1 (by decide)]; exact R.1.2.2.1 k hk
    · rw [e6, z_un1 (by decide)]; exact R.1.2.2.2.1 k hk
    · rw [e7]
      by_cases e : q = 8 * (12 * i + b) + k
      · rw [e, pk_us, z_us]
      · rw [pk_un e, z_un (Or.inr e)]; exact R.1.2.2.2.2 q hq
  have M' : ∀ x y, z_M (sx_u (sx_u (sx_u g 0 33 0) 3 (8 * (12 * i + b) + k) (nI p)) 5 x y) (z_u S 4 (8 * (12 * i + b) + k) p) := by
    intro x y
    refine ⟨?_, fun k hk => ?_, fun k hk => ?_, fun k hk => ?_, fun q hq => ?_⟩
    · simp (disch := decide) only [sx_u_n, sx_u_s, pk_un, z_un1]; exact R.2.1.1
    · simp (disch := decide) only [sx_u_n, z_un1]; exact R.2.1.2.1 k hk
    · simp (disch := decide) only [sx_u_n, z_un1]; exact R.2.1.2.2.1 k hk
    · simp (disch := decide) only [sx_u_n, z_un1]; exact R.2.1.2.2.2.1 k hk
    · simp (disch := decide) only [sx_u_n, sx_u_s]
      by_cases e : q = 8 * (12 * i + b) + k
      · rw [e, pk_us, z_us]
      · rw [pk_un e, z_un (Or.inr e)]; exact R.2.1.2.2.2.2 q hq
  refine nm_e (pk_eq _ _ (fun c => h _ ?_) (fun c => ⟨vp_in_nI (by omega) (by omega), nm_e ⟨vp_in_nI (by omega) (by omega), vp_in_nI (by omega) (by omega), nm_e (h _ ?_)⟩⟩))
  · refine R.sc ht (X' f rfl rfl rfl rfl ?_) (M' _ _) (R.2.2.1.mend hp) (z_un1 (by decide)) (fun _ => z_un1 (by decide)) (fun _ _ => rfl) ?_ ?_ (fun _ => 0) ?_
    · funext q
      by_cases e : q = 8 * (12 * i + b) + k
      · rw [e, pk_us, R.1.2.2.2.2 _ (by omega), c]
      · rw [pk_un e]
    · intro k hk; rw [sx_u_n (by omega), sx_u_n (by omega), sx_u_n (by omega)]
    · intro j hj; simp (disch := decide) only [sx_u_n, sx_u_s]; rw [pk_un hj]
    · intro s hs
      refine ⟨Nat.zero_le _, (Int32.add_zero _).symm, ?_⟩
      rw [sx_u_s, if_pos c]
      by_cases e : s = 12 * i + b
      · rw [e, pk_us]
      · rw [pk_un e, sx_u_n (by decide), sx_u_n (by decide)]; exact (Int32.add_zero _).symm
  · rw [nI_clamp (n := 12 * i + b) (by omega)]
    refine R.sc ht (X' _ ?_ ?_ ?_ ?_ ?_) (M' _ _) (R.2.2.1.mend hp) (z_un1 (by decide)) (fun _ => z_un1 (by decide)) ?_ ?_ ?_ (fun s => if s = 12 * i + b then 1 else 0) ?_
    · rw [sx_u_n (by decide), sx_u_n (by decide)]
    · rw [sx_u_n (by decide), sx_u_n (by decide)]
    · rw [sx_u_n (by decide), sx_u_n (by decide)]
    · rw [sx_u_n (by decide), sx_u_n (by decide)]
    · rw [sx_u_n (by decide), sx_u_s]
    · intro k hk; rw [sx_u_n (by omega), sx_u_n (by omega)]
    · intro k hk; rw [sx_u_n (by omega), sx_u_n (by omega), sx_u_n (by omega)]
    · intro j hj; simp (disch := decide) only [sx_u_n, sx_u_s]; rw [pk_un hj]
    · intro s hs
      rw [sx_u_s, sx_u_s, if_neg c, sx_u_n (by decide), sx_u_n (by decide), sx_u_n (by decide)]
      by_cases e : s = 12 * i + b
      · rw [e, if_pos rfl, pk_us, pk_us]; exact ⟨Nat.le_refl _, rfl, rfl⟩
      · rw [if_neg e, pk_un e, pk_un e]; exact ⟨by omega, (Int32.add_zero _).symm, (Int32.add_zero _).symm⟩
theorem w_empty {t : Nat} {f g : sx_F} {S : z_S} (ht : t < 1000000) (R : z_R t f g S) {i b : Nat} (hi : i < 5) (hb : b < S 0 0) {Q : Int32 → sx_F → Prop} {X : String → sx_F → Prop}
    (h : ∀ f', z_R (t + 1) f' (sx_u (sx_u (sx_u g 0 33 0) 4 (12 * i + b) 0) 5 (12 * i + b) (g 5 (12 * i + b) + nI (if S 2 (12 * i + b) = 0 then 0 else 1))) (z_u S 2 (12 * i + b) 0) → Q (nI (S 2 (12 * i + b))) f') : P_X6_empty f (nI i) (nI b) Q X := by
  have hn := R.2.2.1.1
  have hs : 12 * i + b < 60 := by omega
  have hc8 := R.2.2.1.2.2.1 _ hs
  unfold P_X6_empty
  refine x_needSlot_t R.1 R.2.2.1 hi hb ?_
  have X' : ∀ f' : sx_F, f' 1 = f 1 → f' 2 = f 2 → f' 5 = upd (f 5) (12 * i + b) 0 → f' 6 = f 6 → f' 7 = f 7 → z_X f' (z_u S 2 (12 * i + b) 0) := by
    intro f' e1 e2 e5 e6 e7
    refine ⟨?_, fun k hk => ?_, fun q hq => ?_, fun k hk => ?_, fun k hk => ?_⟩
    · rw [e1, z_un1 (by decide)]; exact R.1.1
    · rw [e2, z_un1 (by decide)]; exact R.1.2.1 k hk
    · rw [e5]
      by_cases e : q = 12 * i + b
      · rw [e, pk_us, z_us]; rfl
      · rw [pk_un e, z_un (Or.inr e)]; exact R.1.2.2.1 q hq
    · rw [e6, z_un1 (by decide)]; exact R.1.2.2.2.1 k hk
    · rw [e7, z_un1 (by decide)]; exact R.1.2.2.2.2 k hk
  have M' : ∀ x y, z_M (sx_u (sx_u (sx_u g 0 33 0) 4 (12 * i + b) 0) 5 x y) (z_u S 2 (12 * i + b) 0) := by
    intro x y
    refine ⟨?_, fun k hk => ?_, fun q hq => ?_, fun k hk => ?_, fun k hk => ?_⟩
    · simp (disch := decide) only [sx_u_n, sx_u_s, pk_un, z_un1]; exact R.2.1.1
    · simp (disch := decide) only [sx_u_n, z_un1]; exact R.2.1.2.1 k hk
    · simp (disch := decide) only [sx_u_n, sx_u_s]
      by_cases e : q = 12 * i + b
      · rw [e, pk_us, z_us]; rfl
      · rw [pk_un e, z_un (Or.inr e)]; exact R.2.1.2.2.1 q hq
    · simp (disch := decide) only [sx_u_n, z_un1]; exact R.2.1.2.2.2.1 k hk
    · simp (disch := decide) only [sx_u_n, z_un1]; exact R.2.1.2.2.2.2 k hk
  unfold P_X4_takeNotes
  rw [nI_clamp (n := 12 * i + b) (by omega), R.1.2.2.1 _ hs]
  refine ⟨vp_in_nI (by omega) (by omega), nm_e (pk_le _ 0 (fun c => h _ ?_) (fun c => ⟨vp_in_nI (by omega) (by omega), nm_e ⟨vp_in_nI (by omega) (by omega), vp_in_nI (by omega) (by omega), nm_e (h _ ?_)⟩⟩))⟩
  · have c0 : S 2 (12 * i + b) = 0 := by omega
    refine R.sc ht (X' f rfl rfl ?_ rfl rfl) (M' _ _) R.2.2.1.empty (z_un1 (by decide)) (fun _ => z_un1 (by decide)) (fun _ _ => rfl) ?_ ?_ (fun _ => 0) ?_
    · funext q
      by_cases e : q = 12 * i + b
      · rw [e, pk_us, R.1.2.2.1 _ hs, c0]; rfl
      · rw [pk_un e]
    · intro k hk; rw [sx_u_n (by omega), sx_u_n (by omega), sx_u_n (by omega)]
    · intro j hj; simp (disch := decide) only [sx_u_n, sx_u_s]; rw [pk_un hj]
    · intro s hs
      refine ⟨Nat.zero_le _, (Int32.add_zero _).symm, ?_⟩
      rw [sx_u_s, if_pos c0]
      by_cases e : s = 12 * i + b
      · rw [e, pk_us]
      · rw [pk_un e, sx_u_n (by decide), sx_u_n (by decide)]; exact (Int32.add_zero _).symm
  · have c0 : ¬ S 2 (12 * i + b) = 0 := by omega
    refine R.sc ht (X' _ ?_ ?_ ?_ ?_ ?_) (M' _ _) R.2.2.1.empty (z_un1 (by decide)) (fun _ => z_un1 (by decide)) ?_ ?_ ?_ (fun s => if s = 12 * i + b then 1 else 0) ?_
    · rw [sx_u_n (by decide), sx_u_n (by decide)]
    · rw [sx_u_n (by decide), sx_u_n (by decide)]
    · rw [sx_u_n (by decide), sx_u_s]
    · rw [sx_u_n (by decide), sx_u_n (by decide)]
    · rw [sx_u_n (by decide), sx_u_n (by decide)]
    · intro k hk; rw [sx_u_n (by omega), sx_u_n (by omega)]
    · intro k hk; rw [sx_u_n (by omega), sx_u_n (by omega), sx_u_n (by omega)]
    · intro j hj; simp (disch := decide) only [sx_u_n, sx_u_s]; rw [pk_un hj]
    · intro s hs
      rw [sx_u_s, sx_u_s, if_neg c0, sx_u_n (by decide), sx_u_n (by decide), sx_u_n (by decide)]
      by_cases e : s = 12 * i + b
      · rw [e, if_pos rfl, pk_us, pk_us]; exact ⟨Nat.le_refl _, rfl, rfl⟩
      · rw [if_neg e, pk_un e, pk_un e]; exact ⟨by omega, (Int32.add_zero _).symm, (Int32.add_zero _).symm⟩
theorem w_setPaper {t : Nat} {f g : sx_F} {S : z_S} (R : z_R t f g S) {w' q' : Nat} (hw1 : 80 ≤ w') (hw' : w' ≤ 500) (hq1 : 1 ≤ q') (hq' : q' ≤ 6) {Q : Int32 → sx_F → Prop} {X : String → sx_F → Prop}
    (h : ∀ f', z_R (t + 1) f' (sx_u (sx_u (sx_u g 0 33 0) 0 6 (nI w')) 0 7 (nI q')) S → Q (g 0 6) f') : P_X6_setPaper f (nI w') (nI q') Q X := by
  obtain ⟨w, q, p1, p2, p3, p4, p5, p6, p7, p8, p9⟩ := R.2.2.2.2.2.1
  unfold P_X6_setPaper
  refine x_needValue_t (nI_nlt (a := w') (b := 80) hw1 (by omega)) (nI_nlt (a := 500) (b := w') hw' (by omega)) (x_needValue_t (nI_nlt (a := q') (b := 1) hq1 (by omega)) (nI_nlt (a := 6) (b := q') hq' (by omega)) (nm_e (nm_e (nm_e ?_))))
  rw [p5, ← p6]
  refine h _ ?_
  obtain ⟨R1, R2, R3, R4, R5, R6, R7, R8, R9⟩ := R.mono
  refine ⟨z_Xc R1 ?_ ?_ ?_ ?_ ?_, ?_, R3, ?_, ?_, ⟨w', q', hw1, hw', hq1, hq', ?_, ?_, ?_, ?_, ?_⟩, R7.sc ?_ ?_ ?_ ?_ ?_ ?_, ?_, R9.sc ?_ ?_ ?_ ?_ ?_ ?_⟩
  · rw [sx_u_n (by decide), sx_u_n (by decide)]
  · rw [sx_u_n (by decide), sx_u_n (by decide)]
  · rw [sx_u_n (by decide), sx_u_n (by decide)]
  · rw [sx_u_n (by decide), sx_u_n (by decide)]
  · rw [sx_u_n (by decide), sx_u_n (by decide)]
  · unfold z_M
    simp (disch := decide) only [sx_u_n, sx_u_s, pk_un]
    exact R2
  · unfold z_T
    simp (disch := decide) only [sx_u_n]
    exact R4
  · unfold z_V
    simp (disch := decide) only [sx_u_n]
    exact R5
  · simp (disch := decide) only [sx_u_s, pk_un, pk_us]
  · simp (disch := decide) only [sx_u_s, pk_un, pk_us]
  · simp (disch := decide) only [sx_u_s, pk_un, pk_us]
  · simp (disch := decide) only [sx_u_s, pk_un, pk_us]
  · simp (disch := decide) only [sx_u_n]; exact p9
  · intro k hk; rw [sx_u_n (by omega), sx_u_n (by omega)]
  · simp (disch := decide) only [sx_u_n]
  · simp (disch := decide) only [sx_u_s, pk_un]
  · simp (disch := decide) only [sx_u_n]
  · simp (disch := decide) only [sx_u_n]
  · simp (disch := decide) only [sx_u_n]
  · simp (disch := decide) only [sx_u_n, sx_u_s, pk_un]
    exact R8
  · intro k hk; rw [sx_u_n (by omega), sx_u_n (by omega)]
  · simp (disch := decide) only [sx_u_n]
  · simp (disch := decide) only [sx_u_n]
  · simp (disch := decide) only [sx_u_n]
  · simp (disch := decide) only [sx_u_n]
  · simp (disch := decide) only [sx_u_n]
theorem w_copy {t : Nat} {f g : sx_F} {S : z_S} (R : z_R t f g S) {m a : Nat} (c : m < 16) (e2 : g 0 11 = nI m) (ha : a < 5) {Q : Int32 → sx_F → Prop} {X : String → sx_F → Prop}
    (h : ∀ f', z_R (t + 1) f' (sx_u (sx_u (sx_u (sx_u g 0 33 0) 6 m (nI a)) 7 m (-1)) 0 11 (nI (m + 1))) S → Q (nI m) f') : P_X6_copy f (nI a) Q X := by
  obtain ⟨m', hm, e1, e3, C1, C2⟩ := R.2.2.2.2.2.2.1
  have em : m' = m := (nI_eq (by omega) (by omega)).mp (e3.symm.trans e2)
  subst em
  unfold P_X6_copy
  refine x_needIndex_t (n := 5) ha (by omega) ?_
  rw [e1]
  refine pk_lt m' 16 (fun c => ⟨vp_in_nI c (by omega), nm_e (nm_e (nm_e ?_))⟩) (fun z => absurd c (by omega))
  rw [nI_clamp (by omega)]
  rw [show sx_u (sx_u f (66 + 2 * m') 1 (nI a)) 0 5 (sx_u f (66 + 2 * m') 1 (nI a) 0 5 + 1) 0 5 - 1 = nI m' by rw [sx_u_s, pk_us, sx_u_n (by omega), e1, nI_1]; exact nI_pred _]
  refine h _ (R.cp ?_ ?_ ?_ ⟨m' + 1, by omega, ?_, ?_, fun i hi => ?_, fun i hi hi2 => ?_⟩ ?_)
  · intro k hk; rw [sx_u_n (by omega), sx_u_n (by omega)]
  · intro k hk; rw [sx_u_n (by omega), sx_u_n (by omega), sx_u_n (by omega), sx_u_n (by omega)]
  · intro j hj
    rw [sx_u_s, pk_un (by omega), sx_u_n (by decide), sx_u_n (by decide), sx_u_s, pk_un (by omega)]
  · rw [sx_u_s, pk_us, sx_u_n (by omega), e1, nI_1]
  · rw [sx_u_s, pk_us]
  · unfold z_C1
    by_cases e : i = m'
    · subst e
      rw [sx_u_n (by omega), sx_u_s, pk_us, pk_un (by decide), sx_u_n (by decide), sx_u_n (by decide), sx_u_s, pk_us, sx_u_n (by decide), sx_u_s, pk_us]
      exact ⟨⟨a, ha, rfl, rfl⟩, C2 i (Nat.le_refl _) c, Or.inl rfl⟩
    · have hc := C1 i (by omega)
      rw [sx_u_n (by omega), sx_u_n (by omega), sx_u_n (k := 0) (by decide), sx_u_n (k := 7) (by decide), sx_u_s, pk_un (by omega), sx_u_n (by decide), sx_u_n (k := 0) (by decide), sx_u_s, pk_un (by omega), sx_u_n (by decide), sx_u_n (by decide), sx_u_n (by omega), sx_u_n (by omega), sx_u_n (by decide), sx_u_n (by decide), sx_u_n (by decide), sx_u_n (by decide)]
      exact hc
  · rw [sx_u_n (by omega), sx_u_n (by omega)]
    exact C2 i (by omega) hi2
  · rw [sx_u_s, pk_un (by decide), sx_u_n (by omega), sx_u_s, pk_un (by decide), sx_u_n (by decide), sx_u_n (by decide), sx_u_s, pk_un (by decide)]
    exact R.2.2.2.2.2.2.2.1
