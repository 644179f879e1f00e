theorem w_mark {t : Nat} {f g : sx_F} {S : z_S} (R : z_R t f g S) {m i a b p : Nat} (hm : m ≤ 16) (e2 : g 0 11 = nI m) (hi : i < m) (ha : a < 5) (h6 : g 6 i = nI a) (hb : b < S 0 0) (hp : p ≤ 9) {Q : Int32 → sx_F → Prop} {X : String → sx_F → Prop}
    (h0 : ¬ g 8 (12 * i + b) = -1 → ∀ d, d < 6 → g 7 i = nI d → ∀ f', z_R (t + 1) f' (sx_u (sx_u (sx_u g 0 33 0) 9 (60 * d + (12 * a + b)) (nI p)) 10 (60 * d + (12 * a + b)) (g 8 (12 * i + b))) S → Q (g 9 (60 * d + (12 * a + b))) f')
    (h3 : (g 7 i = -1 ∨ g 8 (12 * i + b) = -1) → X "java/lang/IllegalStateException" f) : P_X6_mark f (nI i) (nI b) (nI p) Q X := by
  have hn := R.2.2.1.1
  obtain ⟨e1, C1⟩ := v_m R hm e2
  obtain ⟨⟨a', ha', a1, a2⟩, a3, a4⟩ := C1 i hi
  have ea : a = a' := (nI_eq (by omega) (by omega)).mp (h6.symm.trans a2)
  subst ea
  unfold P_X6_mark
  rw [e1, R.1.1]
  refine x_needIndex_t hi (by omega) (x_needIndex_t hb (by omega) (x_needValue_t (nI_pos (by omega)) (nI_nlt (a := 9) (b := p) hp (by omega)) (x_needCopyOut e1 hm hi (fun c => h3 (Or.inl (by rw [← a3]; exact c))) (fun c => ?_))))
  have cg : ¬ g 7 i = -1 := by rw [← a3]; exact c
  obtain ⟨⟨d, hd, ed⟩, ev⟩ := a4.resolve_left cg
  refine x_versionOf a1 ha (by omega) ?_
  rw [if_neg c, ev b (by omega)]
  refine ⟨fun z => ⟨fun y => absurd y (by decide), fun _ => h3 (Or.inr z)⟩, fun z => ⟨fun _ => ?_, fun y => absurd rfl y⟩⟩
  rw [a1, a3, ed]
  refine x_slotOf ⟨vp_in_nI (by omega) (by omega), nm_e ?_⟩
  rw [nI_clamp (by omega)]
  refine x_versionOf a1 ha (by omega) ?_
  rw [if_neg c, ev b (by omega)]
  unfold P_X2_changeMark
  rw [nI_clamp (by omega)]
  have hs : 12 * a + b < 60 := by omega
  obtain ⟨⟨⟨p0, hp0, q1, q2⟩, q3⟩, -⟩ := R.2.2.2.2.2.2.2.2 d (12 * a + b) hd hs
  have h0' := h0 z d hd ed
  generalize 12 * a + b = s at hs q1 q2 q3 h0'
  refine ⟨vp_in_nI (by omega) (by omega), nm_e ⟨vp_in_nI (by omega) (by omega), nm_e ⟨vp_in_nI (by omega) (by omega), nm_e ?_⟩⟩⟩
  rw [q1, ← q2]
  refine h0' _ (R.dk ?_ ?_ ?_ ?_)
  · intro k hk; rw [sx_u_n (by omega), sx_u_n (by omega)]
  · intro k hk; rw [sx_u_n (by omega), sx_u_n (by omega), sx_u_n (by omega)]
  · intro j hj; rw [sx_u_n (by decide), sx_u_n (by decide), sx_u_s, pk_un hj]
  · intro d' s' hd' hs'
    obtain ⟨⟨⟨r0, hr0, r1, r2⟩, r3⟩, r4⟩ := R.mono.2.2.2.2.2.2.2.2 d' s' hd' hs'
    refine ⟨⟨?_, ?_⟩, ?_⟩
    · by_cases e5 : d' = d
      · subst e5
        by_cases e6 : s' = s
        · subst e6
          simp (disch := omega) only [sx_u_n, sx_u_s, pk_us]
          exact ⟨p, hp, rfl, rfl⟩
        · simp (disch := omega) only [sx_u_n, sx_u_s, pk_un]
          exact ⟨r0, hr0, r1, r2⟩
      · simp (disch := omega) only [sx_u_n, sx_u_s, pk_un]
        exact ⟨r0, hr0, r1, r2⟩
    · by_cases e5 : d' = d
      · subst e5
        by_cases e6 : s' = s
        · subst e6
          simp (disch := omega) only [sx_u_n, sx_u_s, pk_us]
        · simp (disch := omega) only [sx_u_n, sx_u_s, pk_un]
          exact r3
      · simp (disch := omega) only [sx_u_n, sx_u_s, pk_un]
        exact r3
    · unfold z_D2 at r4 ⊢
      simp (disch := omega) only [sx_u_n]
      exact r4
theorem w_bow {t : Nat} {f g : sx_F} {S : z_S} (ht : t < 1000000) (R : z_R t f g S) {m i a b k p : Nat} (hm : m ≤ 16) (e2 : g 0 11 = nI m) (hi : i < m) (ha : a < 5) (h6 : g 6 i = nI a) (hb : b < S 0 0) (hk : k < S 2 (12 * a + b)) (hp : p ≤ 2) {Q : Int32 → sx_F → Prop} {X : String → sx_F → Prop}
    (h0 : z_owm g i a b = false → ∀ d, d < 6 → g 7 i = nI d → ∀ f', z_R (t + 1) f' (sx_u (sx_u (sx_u g 0 33 0) 11 (8 * (60 * d + (12 * a + b)) + k) (nI p)) 12 (8 * (60 * d + (12 * a + b)) + k) (g 5 (12 * a + b))) S → Q (z_bM g d (12 * a + b) k) f')
    (h3 : (g 7 i = -1 ∨ z_owm g i a b = true) → X "java/lang/IllegalStateException" f) : P_X6_bow f (nI i) (nI b) (nI k) (nI p) Q X := by
  have hn := R.2.2.1.1
  obtain ⟨e1, C1⟩ := v_m R hm e2
  obtain ⟨⟨a', ha', a1, a2⟩, a3, a4⟩ := C1 i hi
  have ea : a = a' := (nI_eq (by omega) (by omega)).mp (h6.symm.trans a2)
  subst ea
  unfold P_X6_bow
  rw [e1]
  refine x_needIndex_t hi (by omega) ⟨vp_in_nI (by omega) (by omega), nm_e ?_⟩
  rw [nI_clamp (by omega), a1]
  have hs : 12 * a + b < 60 := by omega
  have hc8 := R.2.2.1.2.2.1 _ hs
  refine x_needSlot_t R.1 R.2.2.1 ha hb ⟨vp_in_nI (by omega) (by omega), ?_⟩
  rw [nI_clamp (by omega), R.1.2.2.1 _ hs]
  have b4 : g 7 i = -1 ∨ ∃ d, d < 6 ∧ g 7 i = nI d := a4.imp id (fun z => z.1)
  refine x_needIndex_t hk (by omega) (x_needValue_t (nI_pos (by omega)) (nI_nlt (a := 2) (b := p) hp (by omega)) (x_needCopyOut e1 hm hi (fun c => h3 (Or.inl (by rw [← a3]; exact c))) (fun c => ?_)))
  have cg : ¬ g 7 i = -1 := by rw [← a3]; exact c
  refine x_owes a1 ha (by omega) ?_
  rw [z_ow_eq R (C1 i hi) ha (by omega)]
  cases hz : z_owm g i a b
  · refine ⟨fun _ => ?_, fun y => absurd rfl y⟩
    obtain ⟨d, hd, ed⟩ := b4.resolve_left cg
    rw [a3, ed, nI_clamp (n := d) (by omega)]
    refine ⟨vp_in_nI (by omega) (by omega), nm_e ⟨vp_in_nI (by omega) (by omega), fun B36 h36 => x_bowingAt hs ⟨vp_in_nI (by omega) (by omega), ?_⟩⟩⟩
    rw [nI_clamp (n := 12 * a + b) (by omega)]
    have fin : ∀ (f' : sx_F) (r : Int32), r = z_bX f d (12 * a + b) k → (∀ q, q ≠ 99 + 5 * d + 3 → q ≠ 99 + 5 * d + 4 → f' q = f q) → (∀ s, s ≠ 12 * a + b → f' (99 + 5 * d + 3) s = f (99 + 5 * d + 3) s ∧ f' (99 + 5 * d + 4) s = f (99 + 5 * d + 4) s) → f' (99 + 5 * d + 4) (12 * a + b) = f 4 (12 * a + b) → (∀ j, j < 8 → z_bit (f' (99 + 5 * d + 3) (12 * a + b)) j = if j = k then nI p else z_bX f d (12 * a + b) j) → Q r f' := by
      intro f' r hr u1 u2 u3 u4
      have h0' := h0 hz d hd ed f'
      rw [hr, (z_bXM ht R hd hs (by omega)).1]
      refine h0' (R.dk ?_ ?_ ?_ ?_)
      · intro q hq; exact u1 q (by omega) (by omega)
      · intro q hq; rw [sx_u_n (by omega), sx_u_n (by omega), sx_u_n (by omega)]
      · intro j hj; rw [sx_u_n (by decide), sx_u_n (by decide), sx_u_s, pk_un hj]
      · clear h0 h0'
        generalize 12 * a + b = s at hs u2 u3 u4
        intro d' s' hd' hs'
        obtain ⟨r1, e, ver, r2, r3, r4, r5, r6⟩ := R.mono.2.2.2.2.2.2.2.2 d' s' hd' hs'
        refine ⟨?_, ?_⟩
        · unfold z_D1 at r1 ⊢
          rw [u1 _ (by omega) (by omega), u1 _ (by omega) (by omega)]
          simp (disch := decide) only [sx_u_n]
          exact r1
        · unfold z_D2
          simp (disch := decide) only [sx_u_n, sx_u_s]
          by_cases e5 : d' = d ∧ s' = s
          · obtain ⟨rfl, rfl⟩ := e5
            have hver := (R.2.2.2.2.1 s' hs).1
            refine ⟨ver, ver, Nat.le_refl _, r3, by rw [u3, hver, r5], r5, fun j hj => ?_⟩
            rw [u4 j hj]
            by_cases ej : j = k
            · subst ej
              refine ⟨p, ver, hp, Nat.le_refl _, by rw [pk_us], by rw [pk_us, r5], by rw [if_pos rfl, if_pos rfl, if_pos rfl]⟩
            · obtain ⟨a', c', f1, f2, f3, f4, f5⟩ := r6 j hj
              refine ⟨a', c', f1, f2, by rw [pk_un (by omega)]; exact f3, by rw [pk_un (by omega)]; exact f4, ?_⟩
              rw [if_pos rfl, if_neg ej, (z_bXM ht R hd hs hj).1]
              unfold z_bM
              rw [f3, f4, r5]
              have i2 : (nI c' = nI ver) ↔ c' = ver := nI_eq (by omega) (by omega)
              simp only [i2]
          · refine ⟨e, ver, r2, r3, ?_, r5, fun j hj => ?_⟩
            · by_cases e6 : d' = d
              · subst e6
                rw [(u2 s' (fun z => e5 ⟨rfl, z⟩)).2]; exact r4
              · rw [u1 _ (by omega) (by omega)]; exact r4
            · obtain ⟨a', c', f1, f2, f3, f4, f5⟩ := r6 j hj
              refine ⟨a', c', f1, f2, by rw [pk_un (by omega)]; exact f3, by rw [pk_un (by omega)]; exact f4, ?_⟩
              by_cases e6 : d' = d
              · subst e6
                rw [(u2 s' (fun z => e5 ⟨rfl, z⟩)).1]; exact f5
              · rw [u1 _ (by omega) (by omega)]; exact f5
    refine ⟨fun ce => h36 _ _ ⟨vp_in_nI (by omega) (by omega), vp_in_nI (by omega) (by omega), nm_e ?_⟩, fun ce => ⟨vp_in_nI (by omega) (by omega), nm_e ⟨vp_in_nI (by omega) (by omega), nm_e (h36 _ _ ⟨vp_in_nI (by omega) (by omega), vp_in_nI (by omega) (by omega), nm_e ?_⟩)⟩⟩⟩
    · rw [nI_clamp (n := 12 * a + b) (by omega)]
      refine fin _ _ rfl (fun q h3 h4 => by rw [sx_u_n h3]) (fun s hs => ⟨by rw [sx_u_s, pk_un hs], by rw [sx_u_n (by omega)]⟩) (by rw [sx_u_n (by omega)]; exact ce) (fun j hj => ?_)
      rw [sx_u_s, pk_us]
      show z_bit (z_put _ (nI p) k) j = _
      by_cases ej : j = k
      · rw [ej, if_pos rfl, z_bit_s (by omega) hp]
      · rw [if_neg ej, z_bit_n (by omega) hj ej hp]
        unfold z_bX
        rw [if_pos ce]
    · rw [nI_clamp (n := 12 * a + b) (by omega)]
      refine fin _ _ rfl (fun q h3 h4 => by rw [sx_u_n h3, sx_u_n h3, sx_u_n h4]) (fun s hs => ⟨by rw [sx_u_s, pk_un hs, sx_u_s, pk_un hs, sx_u_n (by omega)], by rw [sx_u_n (by omega), sx_u_n (by omega), sx_u_s, pk_un hs]⟩) (by rw [sx_u_n (by omega), sx_u_n (by omega), sx_u_s, pk_us]) (fun j hj => ?_)
      rw [sx_u_s, pk_us, sx_u_s, pk_us]
      show z_bit (z_put _ (nI p) k) j = _
      by_cases ej : j = k
      · rw [ej, if_pos rfl, z_bit_s (by omega) hp]
      · rw [if_neg ej, z_bit_n (by omega) hj ej hp, z_bit_0 hj]
        unfold z_bX
        rw [if_neg ce]
  · exact ⟨fun y => absurd y (by decide), fun _ => h3 (Or.inr hz)⟩
