/-! the calls that change a copy or a desk -/
def y_ren (g : sx_F) (i a n : Nat) : sx_F := fun k j => if k = 8 ∧ 12 * i ≤ j ∧ j < 12 * i + 12 then (if j - 12 * i < n then g 5 (12 * a + (j - 12 * i)) else -1) else g k j
theorem y_ren1 {g : sx_F} {i a n k : Nat} (h : k ≠ 8) : y_ren g i a n k = g k := funext (fun j => if_neg (fun z => h z.1))
theorem y_ren2 {g : sx_F} {i a n j : Nat} (h : j < 12 * i ∨ 12 * i + 12 ≤ j) : y_ren g i a n 8 j = g 8 j := if_neg (fun z => by omega)
theorem y_ren3 {g : sx_F} {i a n k : Nat} (h : k < 12) : y_ren g i a n 8 (12 * i + k) = if k < n then g 5 (12 * a + k) else -1 := by
  unfold y_ren
  rw [if_pos ⟨rfl, by omega, by omega⟩, show 12 * i + k - 12 * i = k by omega]
theorem w_giveBack {t : Nat} {f g : sx_F} {S : z_S} (R : z_R t f g S) {m i a : Nat} (hm : m ≤ 16) (e2 : g 0 11 = nI m) (hi : i < m) (ha : a < 5) (h6 : g 6 i = nI a) {Q : Int32 → sx_F → Prop} {X : String → sx_F → Prop}
    (h0 : ¬ g 7 i = -1 → ∀ f', z_R (t + 1) f' (sx_u (sx_u g 0 33 0) 7 i (-1)) S → Q (nI (z_cnt (z_owm g i a) (S 0 0))) f') (h3 : g 7 i = -1 → X "java/lang/IllegalStateException" f) : P_X6_giveBack f (nI i) Q X := by
  have hn := R.2.2.1.1
  have C2 : ∀ j, m ≤ j → j < 16 → f (66 + 2 * j) 2 = -1 := by
    obtain ⟨m', hm', e1', e2', C1', C2'⟩ := R.2.2.2.2.2.2.1
    have em : m = m' := (nI_eq (by omega) (by omega)).mp (e2.symm.trans e2')
    subst em
    exact C2'
  obtain ⟨e1, C1⟩ := v_m R hm e2
  obtain ⟨⟨a', ha', a1, a2⟩, a3, a4⟩ := C1 i hi
  have ea : a = a' := (nI_eq (by omega) (by omega)).mp (h6.symm.trans a2)
  subst ea
  unfold P_X6_giveBack
  refine x_needCopyOut e1 hm hi (fun c => h3 (by rw [← a3]; exact c)) (fun c => x_countDebts (n := S 0 0) R.1.1 hn a1 ha (nm_e ?_))
  rw [(C1 i hi).cnt R ha hn]
  refine h0 (by rw [← a3]; exact c) _ (R.cp ?_ ?_ ?_ ⟨m, hm, ?_, ?_, fun j hj => ?_, fun j hj hj2 => ?_⟩ ?_)
  · intro k hk; rw [sx_u_n (by omega)]
  · intro k hk; rw [sx_u_n (by omega), sx_u_n (by omega)]
  · intro j hj; rw [sx_u_n (by decide), sx_u_s, pk_un (by omega)]
  · rw [sx_u_n (by omega)]; exact e1
  · rw [sx_u_n (by decide), sx_u_s, pk_un (by decide)]; exact e2
  · unfold z_C1
    by_cases e : j = i
    · subst e
      rw [sx_u_s, pk_us, pk_un (by decide), sx_u_s, pk_us, sx_u_n (by decide), sx_u_n (by decide)]
      exact ⟨⟨a, ha, a1, a2⟩, rfl, Or.inl rfl⟩
    · have hc := C1 j hj
      simp (disch := omega) only [sx_u_n, sx_u_s, pk_un]
      exact hc
  · by_cases e : j = i
    · omega
    · rw [sx_u_n (by omega)]; exact C2 j hj hj2
  · rw [sx_u_n (by omega), sx_u_n (by decide), sx_u_s, pk_un (by decide)]
    exact R.2.2.2.2.2.2.2.1
theorem w_paste {t : Nat} {f g : sx_F} {S : z_S} (R : z_R t f g S) {m i a : Nat} (hm : m ≤ 16) (e2 : g 0 11 = nI m) (hi : i < m) (ha : a < 5) (h6 : g 6 i = nI a) {Q : Int32 → sx_F → Prop} {X : String → sx_F → Prop}
    (h0 : ¬ g 7 i = -1 → ∀ f', z_R (t + 1) f' (y_ren g i a (S 0 0)) S → Q (nI (z_cnt (z_owm g i a) (S 0 0))) f') (h3 : g 7 i = -1 → X "java/lang/IllegalStateException" f) : P_X6_paste f (nI i) Q X := by
  have hn := R.2.2.1.1
  have C2 : ∀ j, m ≤ j → j < 16 → f (66 + 2 * j) 2 = -1 := by
    obtain ⟨m', hm', e1', e2', C1', C2'⟩ := R.2.2.2.2.2.2.1
    have em : m = m' := (nI_eq (by omega) (by omega)).mp (e2.symm.trans e2')
    subst em
    exact C2'
  obtain ⟨e1, C1⟩ := v_m R hm e2
  obtain ⟨⟨a', ha', a1, a2⟩, a3, a4⟩ := C1 i hi
  have ea : a = a' := (nI_eq (by omega) (by omega)).mp (h6.symm.trans a2)
  subst ea
  unfold P_X6_paste
  refine x_needCopyOut e1 hm hi (fun c => h3 (by rw [← a3]; exact c)) (fun c => x_countDebts (n := S 0 0) R.1.1 hn a1 ha (x_takeVersions (by omega) R.1.1 hn a1 ha (fun f' b1 b2 => ?_)))
  rw [(C1 i hi).cnt R ha hn]
  refine h0 (by rw [← a3]; exact c) _ (R.cp ?_ ?_ ?_ ⟨m, hm, ?_, ?_, fun j hj => ?_, fun j hj hj2 => ?_⟩ ?_)
  · intro k hk; exact b1 k (by omega)
  · intro k hk; exact y_ren1 (by omega)
  · intro j hj; rw [y_ren1 (by decide)]
  · rw [b1 0 (by omega)]; exact e1
  · rw [y_ren1 (by decide)]; exact e2
  · by_cases e : j = i
    · subst e
      refine z_C1.taken R ha (by rw [b1 _ (by omega)]; exact a1) (by rw [y_ren1 (by decide)]; exact a2) (by rw [b1 _ (by omega), y_ren1 (by decide)]; exact a3) ?_ b2 (fun k hk => y_ren3 hk)
      rw [y_ren1 (by decide)]
      rcases a4 with z | z
      · exact absurd (a3.trans z) c
      · exact z.1
    · have hc := C1 j hj
      unfold z_C1 at hc ⊢
      rw [b1 _ (by omega), b1 _ (by omega), y_ren1 (k := 6) (by decide), y_ren1 (k := 7) (by decide)]
      refine ⟨hc.1, hc.2.1, hc.2.2.imp id (fun z => ⟨z.1, fun k hk => ?_⟩)⟩
      rw [y_ren2 (by omega)]
      exact z.2 k hk
  · rw [b1 _ (by omega)]; exact C2 j hj hj2
  · rw [b1 0 (by omega), y_ren1 (by decide)]
    exact R.2.2.2.2.2.2.2.1
theorem w_lend {t : Nat} {f g : sx_F} {S : z_S} (R : z_R t f g S) {m i a d : Nat} (hm : m ≤ 16) (e2 : g 0 11 = nI m) (hi : i < m) (ha : a < 5) (h6 : g 6 i = nI a) (hd : d < 6) {Q : Int32 → sx_F → Prop} {X : String → sx_F → Prop}
    (h0 : g 7 i = -1 → z_cnt (fun j => decide (g 7 j = nI d ∧ g 6 j = nI a)) m = 0 → ∀ f', z_R (t + 1) f' (y_ren (sx_u g 7 i (nI d)) i a (S 0 0)) S → Q (nI (z_cnt (fun j => decide (¬ upd (g 7) i (nI d) j = -1)) m)) f') (h3 : (¬ g 7 i = -1 ∨ ¬ z_cnt (fun j => decide (g 7 j = nI d ∧ g 6 j = nI a)) m = 0) → X "java/lang/IllegalStateException" f) : P_X6_lend f (nI i) (nI d) Q X := by
  have hn := R.2.2.1.1
  have C2 : ∀ j, m ≤ j → j < 16 → f (66 + 2 * j) 2 = -1 := by
    obtain ⟨m', hm', e1', e2', C1', C2'⟩ := R.2.2.2.2.2.2.1
    have em : m = m' := (nI_eq (by omega) (by omega)).mp (e2.symm.trans e2')
    subst em
    exact C2'
  obtain ⟨e1, C1⟩ := v_m R hm e2
  obtain ⟨⟨a', ha', a1, a2⟩, a3, a4⟩ := C1 i hi
  have ea : a = a' := (nI_eq (by omega) (by omega)).mp (h6.symm.trans a2)
  subst ea
  unfold P_X6_lend
  rw [e1]
  refine x_needIndex_t hi (by omega) (x_needIndex_t (n := 6) hd (by omega) ⟨vp_in_nI (by omega) (by omega), nm_e ?_⟩)
  rw [nI_clamp (by omega)]
  have hcn : z_cnt (fun j => decide (f (66 + 2 * j) 2 = nI d ∧ f (66 + 2 * j) 1 = nI a)) m = z_cnt (fun j => decide (g 7 j = nI d ∧ g 6 j = nI a)) m := z_cnt_c m (fun j hj => by
    obtain ⟨⟨b, hb, b1, b2⟩, b3, -⟩ := C1 j hj
    rw [b3, b1, b2])
  refine x_isOut ?_
  by_cases c : f (66 + 2 * i) 2 = -1
  · have cg : g 7 i = -1 := by rw [← a3]; exact c
    rw [decide_eq_false (fun z => z c)]
    refine ⟨fun _ => ?_, fun z => absurd rfl z⟩
    rw [a1]
    refine x_deskHasPart e1 hm ?_
    rw [hcn]
    by_cases cc : z_cnt (fun j => decide (g 7 j = nI d ∧ g 6 j = nI a)) m = 0
    · rw [decide_eq_false (fun z => z cc)]
      refine ⟨fun _ => nm_e (x_takeVersions (n := S 0 0) (a := a) (by omega) (by rw [sx_u_n (by omega)]; exact R.1.1) hn (by rw [sx_u_s, pk_un (by decide)]; exact a1) ha (fun f' b1 b2 => ?_)), fun z => absurd rfl z⟩
      have b0 : f' 0 = f 0 := by rw [b1 0 (by omega), sx_u_n (by omega)]
      refine x_copiesOut (m := m) (by rw [b0]; exact e1) hm ?_
      have dk : ∀ k, k ≠ 8 → k ≠ 7 → y_ren (sx_u g 7 i (nI d)) i a (S 0 0) k = g k := fun k h1 h2 => by rw [y_ren1 h1, sx_u_n h2]
      have d7 : y_ren (sx_u g 7 i (nI d)) i a (S 0 0) 7 = upd (g 7) i (nI d) := by rw [y_ren1 (by decide), sx_u_s]
      have fd : ∀ j, j < m → f' (66 + 2 * j) 2 = y_ren (sx_u g 7 i (nI d)) i a (S 0 0) 7 j := fun j hj => by
        rw [b1 _ (by omega), d7]
        by_cases e : j = i
        · subst e; rw [sx_u_s, pk_us, pk_us]
        · rw [sx_u_n (by omega), pk_un e]; exact (C1 j hj).2.1
      rw [z_out_eq fd, d7]
      refine h0 cg cc _ (R.cp ?_ ?_ ?_ ⟨m, hm, by rw [b0]; exact e1, by rw [dk 0 (by decide) (by decide)]; exact e2, fun j hj => ?_, fun j hj hj2 => ?_⟩ ?_)
      · intro k hk; rw [b1 k (by omega), sx_u_n (by omega)]
      · intro k hk; exact dk k (by omega) (by omega)
      · intro j hj; rw [dk 0 (by decide) (by decide)]
      · by_cases e : j = i
        · subst e
          exact z_C1.taken R ha (by rw [b1 _ (by omega), sx_u_s, pk_un (by decide)]; exact a1) (by rw [dk 6 (by decide) (by decide)]; exact a2) (fd j hj) ⟨d, hd, by rw [d7, pk_us]⟩ (fun k hk => by rw [b2 k hk, sx_u_n (by omega)]) (fun k hk => by rw [y_ren3 hk, sx_u_n (by decide)])
        · have hc := C1 j hj
          unfold z_C1 at hc
          refine ⟨?_, fd j hj, ?_⟩
          · rw [b1 _ (by omega), sx_u_n (by omega), dk 6 (by decide) (by decide)]; exact hc.1
          · rw [d7, pk_un e]
            refine hc.2.2.imp id (fun z => ⟨z.1, fun k hk => ?_⟩)
            rw [y_ren2 (by omega), b1 _ (by omega), sx_u_n (by omega), sx_u_n (by decide)]
            exact z.2 k hk
      · rw [b1 _ (by omega), sx_u_n (by omega)]; exact C2 j hj hj2
      · rw [b0, dk 0 (by decide) (by decide)]
        exact R.2.2.2.2.2.2.2.1
    · rw [decide_eq_true cc]
      exact ⟨fun z => absurd z (by decide), fun _ => h3 (Or.inr cc)⟩
  · have cg : ¬ g 7 i = -1 := by rw [← a3]; exact c
    rw [decide_eq_true c]
    exact ⟨fun z => absurd z (by decide), fun _ => h3 (Or.inl cg)⟩
theorem w_play {t : Nat} {f g : sx_F} {S : z_S} (R : z_R t f g S) {m : Nat} (hm : m ≤ 16) (e2 : g 0 11 = nI m) {Q : Int32 → sx_F → Prop} {X : String → sx_F → Prop}
    (h0 : ¬ z_cnt (fun i => decide (¬ g 7 i = -1)) m = 0 → (∀ i a, i < m → a < 5 → g 6 i = nI a → z_cnt (z_owm g i a) (S 0 0) = 0) → ∀ f', z_R (t + 1) f' (sx_u (sx_u g 0 33 0) 0 12 (g 0 12 + 1)) S → Q (nI (z_cnt (fun i => decide (¬ g 7 i = -1)) m)) f')
    (h1 : (z_cnt (fun i => decide (¬ g 7 i = -1)) m = 0 ∨ ∃ i a, i < m ∧ a < 5 ∧ g 6 i = nI a ∧ ¬ z_cnt (z_owm g i a) (S 0 0) = 0) → X "java/lang/IllegalStateException" f) : P_X6_play f Q X := by
  have hn := R.2.2.1.1
  obtain ⟨e1, C1⟩ := v_m R hm e2
  unfold P_X6_play
  have ho := z_out_eq (f := f) (g := g) (m := m) (fun i hi => (C1 i hi).2.1)
  have hle := z_cnt_le (p := fun i => decide (¬ g 7 i = -1)) m
  refine x_copiesOut e1 hm ?_
  rw [ho]
  refine pk_eq _ 0 (fun c => h1 (Or.inl c)) (fun c => x_anyCopyOwes R e1 hm C1 (fun q => ?_) (fun q => ?_))
  · exact ⟨fun z => absurd z (by decide), fun _ => h1 (Or.inr q)⟩
  · refine ⟨fun _ => nm_e (h0 c q _ (R.cp ?_ ?_ ?_ (R.2.2.2.2.2.2.1.sc ?_ ?_ ?_ ?_ ?_ ?_) ?_)), fun z => absurd rfl z⟩
    · intro k hk; rw [sx_u_n (by omega)]
    · intro k hk; rw [sx_u_n (by omega), sx_u_n (by omega)]
    · intro j hj; rw [sx_u_s, pk_un (by omega), sx_u_s, pk_un (by omega)]
    · intro k hk; rw [sx_u_n (by omega)]
    · rw [sx_u_s, pk_un (by decide)]
    · rw [sx_u_s, pk_un (by decide), sx_u_s, pk_un (by decide)]
    · rw [sx_u_n (by decide), sx_u_n (by decide)]
    · rw [sx_u_n (by decide), sx_u_n (by decide)]
    · rw [sx_u_n (by decide), sx_u_n (by decide)]
    · rw [sx_u_s, pk_us, sx_u_s, pk_us, R.2.2.2.2.2.2.2.1]
