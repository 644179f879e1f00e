theorem y_G4 {a a' g g' : sx_F} {o : sl_O} {S : z_S} {m : Nat} (G : y_G a o g S) (hm : m ≤ 6) (m1 : a 7 3 = nI m) (m2 : g 0 11 = nI m) (ha : ∀ k, k ≠ 4 → a' k = a k) (hg : ∀ k, (k = 5 ∨ 9 ≤ k) → g' k = g k) (hg0 : ∀ j, j ≠ 33 → g' 0 j = g 0 j) (C' : ∀ i, i < m → y_C1 a' g' (S 0 0) i) : y_G a' o g' S :=
  ⟨G.1.c2 (by rw [ha 7 (by decide)]) (ha 3 (by decide)) (ha 1 (by decide)) rfl, G.2.1.c (ha 2 (by decide)) (hg 5 (by omega)), G.2.2.1.c (by rw [ha 7 (by decide)]) (by rw [ha 7 (by decide)]) (hg0 6 (by decide)) (hg0 7 (by decide)), ⟨by rw [ha 7 (by decide), hg0 12 (by decide)]; exact G.2.2.2.1.1, m, hm, by rw [ha 7 (by decide)]; exact m1, by rw [hg0 11 (by decide)]; exact m2, C'⟩, G.2.2.2.2.1.c rfl (hg 9 (by omega)) (hg 10 (by omega)), G.2.2.2.2.2.c rfl (hg 11 (by omega)) (hg 12 (by omega))⟩
theorem y_u_same {a : sx_F} {k j : Nat} {v : Int32} (h : v = a k j) : sx_u a k j v = a := by
  funext i q
  by_cases e : i = k
  · subst e
    rw [sx_u_s]
    by_cases e2 : q = j
    · subst e2; rw [pk_us, h]
    · rw [pk_un e2]
  · rw [sx_u_n e]
theorem y_uL_same {o : sl_O} {k j : Nat} : sl_uL o k j (o k j) = o := by
  funext i q
  by_cases e : i = k
  · subst e
    rw [sl_uL_s]
    by_cases e2 : q = j
    · subst e2; rw [pk_uLs]
    · rw [pk_uLn e2]
  · rw [sl_uL_n e]
def y_ow (g : sx_F) (n j : Nat) : Prop := ∀ i y, i < j → y < 5 → g 6 i = nI y → z_cnt (z_owm g i y) n = 0
theorem y_C1.c {a a' g g' : sx_F} {n i : Nat} (h : y_C1 a g n i) (a4 : a' 4 = a 4) (g6 : g' 6 = g 6) (g7 : g' 7 = g 7) (g8 : g' 8 = g 8) : y_C1 a' g' n i := by
  unfold y_C1 at h ⊢
  rw [a4, g6, g7, g8]
  exact h
theorem l_isCopied {t : Nat} {f a : sx_F} {o : sl_O} {n T z : Nat} {x7 : Int32} (ht : t < 1000000) (I : y_I t f a o n T) (hn1 : 1 ≤ n) (hx : x7 = 0 ∨ x7 = 1 ∨ x7 = 2 ∨ x7 = 3 ∨ x7 = 4 ∨ x7 = 5 ∨ x7 = 6 ∨ x7 = 7 ∨ x7 = 8) (hz : z < 10000000) {Q : Int32 → sx_F → sx_F → sl_O → Prop} (h : ∀ f' a' o', y_I (t + 1) f' a' o' n T → Q 1 f' a' o') : P_L_isCopied f a o x7 (nI z) Q := by
  intro B14 B21 B116 B147 B152 B194 B198 B199 B220 B232 B272 B279 B300 B321 B368 B372 B414 B436 B494 B495 B519 B598 B621 B713 B714 B737 B764 B819 B844 B862 B890 B914 B915 B942 B943 B964 B966 h14 h21 h116 h147 h152 h194 h198 h199 h220 h232 h272 h279 h300 h321 h368 h372 h414 h436 h494 h495 h519 h598 h621 h713 h714 h737 h764 h819 h844 h862 h890 h914 h915 h942 h943 h964 h966
  obtain ⟨g, S, R, ⟨Y, V, P, ⟨c12, m, hm, m1, m2, C⟩, K, Bw⟩, hS, hT⟩ := I
  subst hS
  have G : y_G a o g S := ⟨Y, V, P, ⟨c12, m, hm, m1, m2, C⟩, K, Bw⟩
  have same : Q 1 f a o := h f a o ⟨g, S, R.mono, G, rfl, hT⟩
  have W := R.2.2.1
  have h70 := Y.2.1
  have hn6 := Y.1
  have hz3 : z % 3 < 3 := Nat.mod_lt _ (by omega)
  -- one more copy
  have e21 : m < 6 → B21 f a o := by
    intro hm6
    refine h21 _ _ _ ⟨y_v35, ?_⟩
    rw [y_cl3, m1, y_8, nI_clamp (n := 8 * m) (by omega), show nI z - nI z / 3 * 3 = nI (z % 3) from pk_rem (d := 3) (by omega) (by omega) (by omega)]
    refine ⟨vp_in_nI (by omega) (by omega), nm_e ⟨y_v35, ?_⟩⟩
    rw [show (sx_u a 4 (8 * m) (nI (z % 3))) 7 3 = nI m by rw [sx_u_n (by decide)]; exact m1, y_8, nI_1, nI_clamp (n := 8 * m + 1) (by omega)]
    refine ⟨vp_in_nI (by omega) (by omega), nm_e ⟨y_v35, y_v35, nm_e ?_⟩⟩
    rw [show (sx_u (sx_u a 4 (8 * m) (nI (z % 3))) 4 (8 * m + 1) (-1)) 7 3 = nI m by rw [sx_u_n (by decide), sx_u_n (by decide)]; exact m1, nI_1]
    refine w_copy R (m := m) (by omega) m2 (a := z % 3) (by omega) (fun f' R' => ⟨y_v35, fun _ => h _ _ _ (y_mkI R' ⟨Y.c2 ?_ ?_ ?_ rfl, V.c ?_ ?_, P.c ?_ ?_ ?_ ?_, ⟨?_, m + 1, by omega, ?_, ?_, fun i hi => ?_⟩, K.c rfl ?_ ?_, Bw.c rfl ?_ ?_⟩ rfl (fun _ => rfl) rfl hT), fun c => absurd ?_ c⟩)
    · rw [sx_u_s, pk_un (by decide), sx_u_n (by decide), sx_u_n (by decide)]
    · simp (disch := decide) only [sx_u_n]
    · simp (disch := decide) only [sx_u_n]
    · simp (disch := decide) only [sx_u_n]
    · simp (disch := decide) only [sx_u_n]
    · simp (disch := decide) only [sx_u_s, pk_un, sx_u_n]
    · simp (disch := decide) only [sx_u_s, pk_un, sx_u_n]
    · simp (disch := decide) only [sx_u_s, pk_un, sx_u_n]
    · simp (disch := decide) only [sx_u_s, pk_un, sx_u_n]
    · simp (disch := decide) only [sx_u_s, pk_un, sx_u_n]; exact c12
    · simp (disch := decide) only [sx_u_s, pk_us, sx_u_n]
    · simp (disch := decide) only [sx_u_s, pk_us, sx_u_n]
    · by_cases e : i = m
      · subst e
        refine ⟨z % 3, hz3, ?_, ?_, ?_, Or.inl ?_⟩
        · simp (disch := omega) only [sx_u_s, pk_us, pk_un, sx_u_n]
        · simp (disch := omega) only [sx_u_s, pk_us, pk_un, sx_u_n]
        · simp (disch := omega) only [sx_u_s, pk_us, pk_un, sx_u_n]
        · simp (disch := omega) only [sx_u_s, pk_us, pk_un, sx_u_n]
      · obtain ⟨x, hx', c1, c2, c3, c4⟩ := C i (by omega)
        refine ⟨x, hx', ?_, ?_, ?_, ?_⟩
        · simp (disch := omega) only [sx_u_s, pk_un, sx_u_n]; exact c1
        · simp (disch := omega) only [sx_u_s, pk_un, sx_u_n]; exact c2
        · simp (disch := omega) only [sx_u_s, pk_un, sx_u_n]; exact c3
        · have e7 : (sx_u (sx_u (sx_u (sx_u g 0 33 0) 6 m (nI (z % 3))) 7 m (-1)) 0 11 (nI (m + 1))) 7 i = g 7 i := by simp (disch := omega) only [sx_u_s, pk_un, sx_u_n]
          rw [e7]
          refine c4.imp id (fun y => ⟨y.1, fun b hb => ?_⟩)
          have := y.2 b hb
          simp (disch := omega) only [sx_u_s, pk_un, sx_u_n]
          exact this
    · simp (disch := decide) only [sx_u_n]
    · simp (disch := decide) only [sx_u_n]
    · simp (disch := decide) only [sx_u_n]
    · simp (disch := decide) only [sx_u_n]
    · rw [sx_u_s, pk_us]; exact (nI_pred m).symm
  have e116 : ∀ i x, i < m → x < 3 → a 4 (8 * i) = nI x → g 6 i = nI x → B116 f a o (nI i) (nI (8 * i)) (nI (6 * x)) (z_b (decide (¬ g 7 i = -1))) := by
    intro i x hi hx3 a4i h6
    obtain ⟨x', hx', c1, c2, c3, c4⟩ := C i hi
    have v8 : vp_in (nI (8 * i)) 48 := vp_in_nI (by omega) (by omega)
    have v81 : vp_in (nI (8 * i + 1)) 48 := vp_in_nI (by omega) (by omega)
    have cl8 : (nI (8 * i)).toNatClampNeg = 8 * i := nI_clamp (by omega)
    have cl81 : (nI (8 * i + 1)).toNatClampNeg = 8 * i + 1 := nI_clamp (by omega)
    -- to lend
    have eL : ∀ d, d < 6 → B147 f a o (nI i) (nI (8 * i)) (nI (6 * x)) (nI d) 1 (z_b (decide (g 7 i = -1))) := by
      intro d hd
      refine h147 _ _ _ _ _ _ _ _ _ ?_
      have key : B152 f a o (nI i) (nI (8 * i)) (nI (6 * x)) (nI d) (nI (1 + z_cnt (fun j => decide (¬ g 7 j = -1)) 0)) (z_b (decide (g 7 i = -1 ∧ z_cnt (fun j => decide (g 7 j = nI d ∧ g 6 j = nI x)) 0 = 0))) (nI 0) := by
        refine z_up (B := fun j => B152 f a o (nI i) (nI (8 * i)) (nI (6 * x)) (nI d) (nI (1 + z_cnt (fun j => decide (¬ g 7 j = -1)) j)) (z_b (decide (g 7 i = -1 ∧ z_cnt (fun j => decide (g 7 j = nI d ∧ g 6 j = nI x)) j = 0))) (nI j)) m (fun j hj ih => h152 _ _ _ _ _ _ _ _ _ _ ⟨y_v35, ?_⟩)
        rw [y_cl3, m1]
        refine pk_le m j (fun c => ?_) (fun c => ?_)
        · rw [show j = m by omega]
          by_cases due : g 7 i = -1 ∧ z_cnt (fun j => decide (g 7 j = nI d ∧ g 6 j = nI x)) m = 0
          · rw [decide_eq_true due]
            have wr : ∀ a' : sx_F, (∀ k, k ≠ 4 → a' k = a k) → (∀ q, q < 8 * i + 2 ∨ 8 * i + 8 ≤ q → a' 4 q = a 4 q) → (∀ b, b < 0 → a' 4 (8 * i + 2 + b) = if b < S 0 0 then g 5 (12 * x + b) else -1) → B232 f a' o (nI i) (nI (8 * i)) (nI (6 * x)) (nI d) (nI (1 + z_cnt (fun j => decide (¬ g 7 j = -1)) m)) 1 (nI 0) := by
              refine z_up (B := fun b' => ∀ a' : sx_F, (∀ k, k ≠ 4 → a' k = a k) → (∀ q, q < 8 * i + 2 ∨ 8 * i + 8 ≤ q → a' 4 q = a 4 q) → (∀ b, b < b' → a' 4 (8 * i + 2 + b) = if b < S 0 0 then g 5 (12 * x + b) else -1) → B232 f a' o (nI i) (nI (8 * i)) (nI (6 * x)) (nI d) (nI (1 + z_cnt (fun j => decide (¬ g 7 j = -1)) m)) 1 (nI b')) 6 (fun b hb ihb => ?_)
              intro a' p1 p2 p3
              refine h232 _ _ _ _ _ _ _ _ _ _ (pk_le 6 b (fun c6 => h279 _ _ _ _ _ _ _ _ ⟨fun c => absurd c (by decide), fun _ => h300 _ _ _ _ _ _ _ _ _ ?_⟩) (fun c6 => ⟨fun c => absurd c (by decide), fun _ => ⟨y_v05, ?_⟩⟩))
              · have eb : b = 6 := by omega
                subst eb
                rw [nI_1, cl81]
                refine ⟨v81, nm_e ?_⟩
                refine w_lend R (m := m) (by omega) m2 hi (by omega) h6 hd (fun _ _ f' R' => ⟨fun c => absurd c (by decide), fun _ => h321 _ _ _ _ _ ⟨fun _ => h _ _ _ (y_mkI R' (y_G4 G hm m1 m2 (fun k hk => ?_) (fun k hk => ?_) (fun q hq => ?_) (y_Cset (i := i) C (fun q hq => ?_) ?_ (fun q hq => ?_) (fun q hq => ?_) ?_)) rfl (fun _ => rfl) rfl hT), fun c => absurd ?_ c⟩⟩) (fun z => absurd z (fun z => z.elim (fun z => z due.1) (fun z => z due.2)))
                · rw [sx_u_n hk]; exact p1 k hk
                · rw [y_ren1 (by omega), sx_u_n (by omega)]
                · rw [y_ren1 (by decide), sx_u_n (by decide)]
                · rw [sx_u_s, pk_un (by omega)]; exact p2 q (by omega)
                · rw [y_ren1 (by decide), sx_u_n (by decide)]
                · rw [y_ren1 (by decide), sx_u_s, pk_un hq]
                · rw [y_ren2 hq, sx_u_n (by decide)]
                · have e7 : y_ren (sx_u g 7 i (nI d)) i x (S 0 0) 7 i = nI d := by rw [y_ren1 (by decide), sx_u_s, pk_us]
                  refine ⟨x, hx3, ?_, ?_, ?_, Or.inr ⟨⟨d, hd, e7⟩, fun b hb => ⟨?_, ?_, fun hnb => ?_⟩⟩⟩
                  · rw [sx_u_s, pk_un (by omega), p2 _ (by omega)]; exact a4i
                  · rw [y_ren1 (by decide), sx_u_n (by decide)]; exact h6
                  · rw [e7, sx_u_s, pk_us]
                  · rw [sx_u_s, pk_un (by omega), p3 b hb, y_ren3 (by omega), sx_u_n (by decide)]
                  · rw [y_ren3 (by omega), sx_u_n (by decide)]
                    by_cases hb2 : b < S 0 0
                    · rw [if_pos hb2]
                      obtain ⟨v, hv, -, v2⟩ := V x b (by omega) hb
                      exact Or.inr ⟨v, hv, v2⟩
                    · rw [if_neg hb2]; exact Or.inl rfl
                  · rw [y_ren3 (by omega), if_neg (by omega)]
                · exact congrArg nI (y_cnt_up (i := i) (by exact decide_eq_false (fun z => z due.1)) (by show decide (¬ upd (g 7) i (nI d) i = -1) = true; rw [pk_us]; exact decide_eq_true (z_nm (by omega))) (fun j hj => by show decide (¬ upd (g 7) i (nI d) j = -1) = _; rw [pk_un hj]) m hi)
              · rw [y_cl0, p1 7 (by decide), h70, show nI (8 * i) + 2 = nI (8 * i + 2) from nI_add _ 2, nI_add, nI_add, nI_clamp (n := 6 * x + b) (by omega), p1 2 (by decide)]
                obtain ⟨v, hv, v1, v2⟩ := V x b (by omega) c6
                have go : ∀ r, r = (if b < S 0 0 then g 5 (12 * x + b) else -1) → B272 f a' o (nI i) (nI (8 * i)) (nI (6 * x)) (nI d) (nI (1 + z_cnt (fun j => decide (¬ g 7 j = -1)) m)) 1 (nI b) (nI (8 * i + 2 + b)) r := by
                  intro r hr
                  refine h272 _ _ _ _ _ _ _ _ _ _ _ _ ⟨vp_in_nI (by omega) (by omega), nm_e (nm_e ?_)⟩
                  rw [nI_clamp (by omega), nI_1]
                  refine ihb c6 _ (fun k hk => by rw [sx_u_n hk]; exact p1 k hk) (fun q hq => by rw [sx_u_s, pk_un (by omega)]; exact p2 q hq) (fun b2 hb2 => ?_)
                  rw [sx_u_s]
                  by_cases e : b2 = b
                  · rw [e, pk_us]; exact hr
                  · rw [pk_un (by omega)]; exact p3 b2 (by omega)
                refine pk_le (S 0 0) b (fun c7 => go _ (by rw [if_neg (by omega)])) (fun c7 => ⟨vp_in_nI (by omega) (by omega), go _ (by rw [if_pos c7, v1, v2])⟩)
            exact wr a (fun _ _ => rfl) (fun _ _ => rfl) (fun b hb => absurd hb (by omega))
          · rw [decide_eq_false due]
            refine h232 _ _ _ _ _ _ _ _ _ _ ⟨fun c => absurd c (by decide), fun _ => ⟨fun _ => h279 _ _ _ _ _ _ _ _ ⟨fun _ => ⟨?_, h300 _ _ _ _ _ _ _ _ _ ⟨?_, nm_e ?_⟩⟩, fun c => absurd rfl c⟩, fun c => absurd rfl c⟩⟩
            · rw [nI_1]; exact v81
            · rw [nI_1]; exact v81
            · rw [y_u_same rfl]
              refine w_lend R (m := m) (by omega) m2 hi (by omega) h6 hd (fun z1 z2 => absurd ⟨z1, z2⟩ due) (fun _ => ⟨rfl, fun _ => h321 _ _ _ _ _ ⟨fun _ => same, fun c => absurd rfl c⟩, fun c => absurd rfl c⟩)
        · have i2 : B152 f a o (nI i) (nI (8 * i)) (nI (6 * x)) (nI d) (nI (1 + (z_cnt (fun j => decide (¬ g 7 j = -1)) j + (if decide (¬ g 7 j = -1) then 1 else 0)))) (z_b (decide (g 7 i = -1 ∧ z_cnt (fun j => decide (g 7 j = nI d ∧ g 6 j = nI x)) j + (if decide (g 7 j = nI d ∧ g 6 j = nI x) then 1 else 0) = 0))) (nI (j + 1)) := ih c
          obtain ⟨xj, hxj, j1, j2, j3, j4⟩ := C j c
          have st : ∀ s, s = z_b (decide (g 7 i = -1 ∧ z_cnt (fun j => decide (g 7 j = nI d ∧ g 6 j = nI x)) j + (if decide (g 7 j = nI d ∧ g 6 j = nI x) then 1 else 0) = 0)) → B199 f a o (nI i) (nI (8 * i)) (nI (6 * x)) (nI d) (nI (1 + z_cnt (fun j => decide (¬ g 7 j = -1)) j)) (nI j) s := by
            intro s hs
            rw [← hs] at i2
            refine h199 _ _ _ _ _ _ _ _ _ _ ?_
            rw [y_8, nI_1, nI_clamp (n := 8 * j + 1) (by omega), j3]
            refine ⟨vp_in_nI (by omega) (by omega), ?_⟩
            rcases j4 with e7 | ⟨⟨d', hd', e7⟩, -⟩
            · rw [e7] at i2 ⊢
              rw [decide_eq_false (fun z => z rfl), if_neg (by decide), Nat.add_zero] at i2
              refine ⟨fun _ => h220 _ _ _ _ _ _ _ _ _ _ _ (nm_e (nm_e ?_)), fun c => absurd (show (-1 : Int32) < 0 by decide) c⟩
              rw [Int32.add_zero, nI_1]; exact i2
            · rw [e7] at i2 ⊢
              rw [decide_eq_true (z_nm (by omega)), if_pos rfl] at i2
              refine ⟨fun c => absurd c (nI_pos (by omega)), fun _ => h220 _ _ _ _ _ _ _ _ _ _ _ (nm_e (nm_e ?_))⟩
              rw [nI_1, nI_1, Nat.add_assoc]; exact i2
          by_cases due : g 7 i = -1 ∧ z_cnt (fun j => decide (g 7 j = nI d ∧ g 6 j = nI x)) j = 0
          · rw [decide_eq_true due]
            refine ⟨fun c => absurd c (by decide), fun _ => ?_⟩
            rw [y_8, nI_1, nI_clamp (n := 8 * j + 1) (by omega), nI_clamp (n := 8 * j) (by omega), cl8, j3, j1, a4i]
            refine ⟨vp_in_nI (by omega) (by omega), fun z1 => ⟨vp_in_nI (by omega) (by omega), v8, fun z2 => h198 _ _ _ _ _ _ _ _ _ (st _ ?_), fun z2 => h194 _ _ _ _ _ _ _ _ _ (st _ ?_)⟩, fun z1 => h194 _ _ _ _ _ _ _ _ _ (st _ ?_)⟩
            · rw [decide_eq_true (show g 7 j = nI d ∧ g 6 j = nI x from ⟨z1, by rw [j2]; exact z2⟩), decide_eq_false (fun y => absurd y.2 (by simp))]; rfl
            · rw [decide_eq_false (show ¬ (g 7 j = nI d ∧ g 6 j = nI x) from fun y => z2 (by rw [← j2]; exact y.2)), decide_eq_true ⟨due.1, by rw [due.2]; rfl⟩]; rfl
            · rw [decide_eq_false (show ¬ (g 7 j = nI d ∧ g 6 j = nI x) from fun y => z1 y.1), decide_eq_true ⟨due.1, by rw [due.2]; rfl⟩]; rfl
          · rw [decide_eq_false due]
            refine ⟨fun _ => h198 _ _ _ _ _ _ _ _ _ (st _ ?_), fun c => absurd rfl c⟩
            rw [decide_eq_false (fun y => due ⟨y.1, by omega⟩)]; rfl
      rw [show z_cnt (fun j => decide (g 7 j = nI d ∧ g 6 j = nI x)) 0 = 0 from rfl] at key
      rw [show decide (g 7 i = -1 ∧ (0 : Nat) = 0) = decide (g 7 i = -1) by simp] at key
      exact key
    refine h116 _ _ _ _ _ _ _ ?_
    have lendX : ∀ y37 : Int32, y37 = nI z / 6 - nI z / 6 / 6 * 6 → (z_b (decide (¬ g 7 i = -1)) = 0 → B147 f a o (nI i) (nI (8 * i)) (nI (6 * x)) y37 1 1) ∧ (¬ z_b (decide (¬ g 7 i = -1)) = 0 → B147 f a o (nI i) (nI (8 * i)) (nI (6 * x)) y37 1 0) := by
      rw [show nI z / 6 = nI (z / 6) from pk_div (d := 6) (by omega) (by omega) (by omega), show nI (z / 6) - nI (z / 6) / 6 * 6 = nI (z / 6 % 6) from pk_rem (d := 6) (by omega) (by omega) (by omega)]
      refine nm_e ?_
      have e := eL (z / 6 % 6) (Nat.mod_lt _ (by omega))
      by_cases c7 : g 7 i = -1
      · rw [decide_eq_true c7] at e
        exact ⟨fun _ => e, fun c => absurd (by rw [decide_eq_false (fun z => z c7)]; rfl) c⟩
      · rw [decide_eq_false c7] at e
        exact ⟨fun c => absurd c (by rw [decide_eq_true c7]; decide), fun _ => e⟩
    rcases hx with rfl | rfl | rfl | rfl | rfl | rfl | hx
    · exact ⟨fun c => absurd c (by decide), fun _ => lendX⟩
    · exact ⟨fun c => absurd c (by decide), fun _ => lendX⟩
    · exact ⟨fun c => absurd c (by decide), fun _ => lendX⟩
    · -- given back
      refine ⟨fun _ => ⟨fun c => absurd c (by decide), fun _ => l_owed V (C i hi) hm hi hx3 h6 hn6 h70 ⟨fun _ => h368 _ _ _ _ _ _ _ _ _ _ ⟨by rw [nI_1]; exact v81, nm_e ?_⟩, fun c => absurd rfl c⟩⟩, fun c => absurd (by decide) c⟩
      rw [nI_1, cl81]
      refine h372 _ _ _ _ _ _ _ _ _ ⟨y_v05, ?_⟩
      have e414 : B414 f (sx_u a 4 (8 * i + 1) (-1)) o (nI i) (z_b (decide (¬ g 7 i = -1))) (nI (z_cnt (z_owm g i x) (S 0 0))) := by
        refine h414 _ _ _ _ _ _ ⟨fun _ => w_giveBack R (m := m) (by omega) m2 hi (by omega) h6 (fun c7 f' R' => ?_) (fun c7 => ⟨rfl, ?_⟩), fun c => absurd (by decide) c⟩
        · rw [decide_eq_true c7]
          refine ⟨fun c => absurd c (by decide), fun _ => h436 _ _ _ _ _ ⟨fun _ => h _ _ _ (y_mkI R' (y_G4 G hm m1 m2 (fun k hk => ?_) (fun k hk => ?_) (fun q hq => ?_) (y_Cset (i := i) C (fun q hq => ?_) ?_ (fun q hq => ?_) (fun q hq => ?_) ⟨x, hx3, ?_, ?_, ?_, Or.inl ?_⟩)) rfl (fun _ => rfl) rfl hT), fun c => absurd rfl c⟩⟩
          · rw [sx_u_n hk]
          · rw [sx_u_n (by omega), sx_u_n (by omega)]
          · rw [sx_u_n (by decide), sx_u_s, pk_un hq]
          · rw [sx_u_s, pk_un (by omega)]
          · rw [sx_u_n (by decide), sx_u_n (by decide)]
          · rw [sx_u_s, pk_un hq, sx_u_n (by decide)]
          · rw [sx_u_n (by decide), sx_u_n (by decide)]
          · rw [sx_u_s, pk_un (by omega)]; exact a4i
          · rw [sx_u_n (by decide), sx_u_n (by decide)]; exact h6
          · rw [sx_u_s, pk_us, sx_u_s, pk_us]
          · rw [sx_u_s, pk_us]
        · rw [decide_eq_false (fun z => z c7), y_u_same (by rw [c3, c7])]
          exact ⟨fun _ => h436 _ _ _ _ _ ⟨fun _ => same, fun c => absurd rfl c⟩, fun c => absurd rfl c⟩
      exact ⟨fun _ => e414, fun _ => ⟨fun _ => e414, fun _ => ⟨fun c => absurd c (by decide), fun _ => e414⟩⟩⟩
    · -- pasted
      refine ⟨fun _ => ⟨fun c => absurd c (by decide), fun _ => l_owed V (C i hi) hm hi hx3 h6 hn6 h70 ⟨fun c => absurd c (by decide), fun _ => ⟨by rw [nI_1]; exact v81, h368 _ _ _ _ _ _ _ _ _ _ ⟨by rw [nI_1]; exact v81, nm_e ?_⟩⟩⟩⟩, fun c => absurd (by decide) c⟩
      rw [y_u_same rfl]
      by_cases c7 : g 7 i = -1
      · rw [decide_eq_false (fun z => z c7)]
        have e414 : B414 f a o (nI i) 0 (nI (z_cnt (z_owm g i x) (S 0 0))) := by
          refine h414 _ _ _ _ _ _ ⟨fun c => absurd c (by decide), fun _ => w_paste R (m := m) (by omega) m2 hi (by omega) h6 (fun c => absurd c7 c) (fun _ => ⟨rfl, fun _ => h436 _ _ _ _ _ ⟨fun _ => same, fun c => absurd rfl c⟩, fun c => absurd rfl c⟩)⟩
        exact h372 _ _ _ _ _ _ _ _ _ ⟨y_v05, fun _ => e414, fun _ => ⟨fun _ => e414, fun c => absurd rfl c⟩⟩
      · rw [decide_eq_true c7]
        obtain ⟨⟨d, hd, e7⟩, c5⟩ := c4.resolve_left c7
        have wr : ∀ a' : sx_F, (∀ k, k ≠ 4 → a' k = a k) → (∀ q, q < 8 * i + 2 ∨ 8 * i + 2 + S 0 0 ≤ q → a' 4 q = a 4 q) → (∀ b, b < 0 → a' 4 (8 * i + 2 + b) = g 5 (12 * x + b)) → B372 f a' o (nI i) (nI (8 * i)) (nI (6 * x)) 1 (nI (z_cnt (z_owm g i x) (S 0 0))) (nI 0) := by
          refine z_up (B := fun b' => ∀ a' : sx_F, (∀ k, k ≠ 4 → a' k = a k) → (∀ q, q < 8 * i + 2 ∨ 8 * i + 2 + S 0 0 ≤ q → a' 4 q = a 4 q) → (∀ b, b < b' → a' 4 (8 * i + 2 + b) = g 5 (12 * x + b)) → B372 f a' o (nI i) (nI (8 * i)) (nI (6 * x)) 1 (nI (z_cnt (z_owm g i x) (S 0 0))) (nI b')) (S 0 0) (fun b hb ihb => ?_)
          intro a' p1 p2 p3
          refine h372 _ _ _ _ _ _ _ _ _ ⟨y_v05, ?_⟩
          rw [y_cl0, p1 7 (by decide), h70]
          refine pk_le (S 0 0) b (fun cb => h414 _ _ _ _ _ _ ⟨fun c => absurd c (by decide), fun _ => ?_⟩) (fun cb => ⟨fun c => absurd c (by decide), fun _ => ⟨fun _ => ?_, fun c => absurd rfl c⟩⟩)
          · have eb : b = S 0 0 := by omega
            subst eb
            refine w_paste R (m := m) (by omega) m2 hi (by omega) h6 (fun _ f' R' => ⟨fun c => absurd c (by decide), fun _ => h436 _ _ _ _ _ ⟨fun _ => h _ _ _ (y_mkI R' (y_G4 G hm m1 m2 p1 (fun k hk => ?_) (fun q hq => ?_) (y_Cset (i := i) C (fun q hq => p2 q (by omega)) ?_ (fun q hq => ?_) (fun q hq => ?_) ⟨x, hx3, ?_, ?_, ?_, Or.inr ⟨⟨d, hd, ?_⟩, fun b hb => ⟨?_, ?_, fun hnb => ?_⟩⟩⟩)) rfl (fun _ => rfl) rfl hT), fun c => absurd rfl c⟩⟩) (fun c => absurd c c7)
            · rw [y_ren1 (by omega)]
            · rw [y_ren1 (by decide)]
            · rw [y_ren1 (by decide)]
            · rw [y_ren1 (by decide)]
            · rw [y_ren2 hq]
            · rw [p2 _ (by omega)]; exact a4i
            · rw [y_ren1 (by decide)]; exact h6
            · rw [y_ren1 (by decide), p2 _ (by omega)]; exact c3
            · rw [y_ren1 (by decide)]; exact e7
            · rw [y_ren3 (by omega)]
              by_cases hb2 : b < S 0 0
              · rw [if_pos hb2, p3 b hb2]
              · rw [if_neg hb2, p2 _ (by omega), (c5 b hb).1]; exact (c5 b hb).2.2 (by omega)
            · rw [y_ren3 (by omega)]
              by_cases hb2 : b < S 0 0
              · rw [if_pos hb2]
                obtain ⟨v, hv, -, v2⟩ := V x b (by omega) hb
                exact Or.inr ⟨v, hv, v2⟩
              · rw [if_neg hb2]; exact Or.inl rfl
            · rw [y_ren3 (by omega), if_neg (by omega)]
          · obtain ⟨v, hv, v1, v2⟩ := V x b (by omega) (by omega)
            rw [show nI (8 * i) + 2 = nI (8 * i + 2) from nI_add _ 2, nI_add, nI_add, nI_clamp (n := 6 * x + b) (by omega), nI_clamp (n := 8 * i + 2 + b) (by omega), p1 2 (by decide), nI_1]
            refine ⟨vp_in_nI (by omega) (by omega), vp_in_nI (by omega) (by omega), nm_e (nm_e (ihb cb _ (fun k hk => by rw [sx_u_n hk]; exact p1 k hk) (fun q hq => by rw [sx_u_s, pk_un (by omega)]; exact p2 q hq) (fun b2 hb2 => ?_)))⟩
            rw [sx_u_s]
            by_cases e : b2 = b
            · rw [e, pk_us, v1, v2]
            · rw [pk_un (by omega)]; exact p3 b2 (by omega)
        exact wr a (fun _ _ => rfl) (fun _ _ => rfl) (fun b hb => absurd hb (by omega))
    · -- a mark
      refine ⟨fun _ => ⟨fun _ => ⟨y_v05, ?_⟩, fun c => absurd (by decide) c⟩, fun c => absurd (by decide) c⟩
      rw [y_cl0, h70, show nI z / 6 = nI (z / 6) from pk_div (d := 6) (by omega) (by omega) (by omega), show nI (z / 6) - nI (z / 6) / nI (S 0 0) * nI (S 0 0) = nI (z / 6 % S 0 0) from pk_rem (by omega) (by omega) (by omega)]
      have hb : z / 6 % S 0 0 < S 0 0 := Nat.mod_lt _ (by omega)
      generalize z / 6 % S 0 0 = b at hb
      refine ⟨nI_ne0 (by omega) (by omega), nm_e ⟨fun _ => ?_, fun c => absurd rfl c⟩⟩
      rw [show nI z / 36 = nI (z / 36) from pk_div (d := 36) (by omega) (by omega) (by omega), show nI (z / 36) - nI (z / 36) / 10 * 10 = nI (z / 36 % 10) from pk_rem (d := 10) (by omega) (by omega) (by omega)]
      have hp : z / 36 % 10 < 10 := Nat.mod_lt _ (by omega)
      generalize z / 36 % 10 = p at hp
      refine nm_e ?_
      have ix : nI (8 * i) + 2 + nI b = nI (8 * i + 2 + b) := by rw [show nI (8 * i) + 2 = nI (8 * i + 2) from nI_add _ 2, nI_add]
      have vx : vp_in (nI (8 * i + 2 + b)) 48 := vp_in_nI (by omega) (by omega)
      have v00 : vp_in 0 30 := vp_in_nI (n := 0) (by omega) (by omega)
      have no : (g 7 i = -1 ∨ g 8 (12 * i + b) = -1) → B494 f a o (nI i) (nI (8 * i)) (nI b) (nI p) := fun bad => by
        refine h494 _ _ _ _ _ _ _ (h495 _ _ _ _ _ _ _ _ ⟨fun _ => h519 _ _ _ _ _ _ _ _ _ ⟨v00, nm_e ⟨fun _ => ⟨v00, h598 _ _ _ _ _ _ _ _ _ _ ⟨v00, nm_e ?_⟩⟩, fun c => absurd rfl c⟩⟩, fun c => absurd rfl c⟩)
        rw [y_uL_same]
        exact w_mark R (m := m) (by omega) m2 hi (by omega) h6 hb (by omega) (fun z1 d hd ed => absurd bad (fun z => z.elim (fun z => z_nm (show d < 2 ^ 31 by omega) (ed.symm.trans z)) z1)) (fun _ => ⟨rfl, fun _ => h621 _ _ _ _ _ ⟨fun _ => same, fun c => absurd rfl c⟩, fun c => absurd rfl c⟩)
      rw [ix]
      by_cases c7 : g 7 i = -1
      · rw [decide_eq_false (fun z => z c7)]
        exact ⟨fun _ => no (Or.inl c7), fun c => absurd rfl c⟩
      · obtain ⟨⟨d, hd, e7⟩, c5⟩ := c4.resolve_left c7
        obtain ⟨q1, q2, q3⟩ := c5 b (by omega)
        rw [decide_eq_true c7, nI_clamp (n := 8 * i + 2 + b) (by omega), q1]
        refine ⟨fun c => absurd c (by decide), fun _ => ⟨vx, ?_⟩⟩
        rcases q2 with e8 | ⟨v, hv, e8⟩
        · rw [e8]
          exact ⟨fun _ => no (Or.inr e8), fun c => absurd (show (-1 : Int32) < 0 by decide) c⟩
        · rw [e8]
          refine ⟨fun c => absurd c (nI_pos (by omega)), fun _ => h495 _ _ _ _ _ _ _ _ ⟨fun c => absurd c (by decide), fun _ => ⟨by rw [nI_1]; exact v81, v8, ?_⟩⟩⟩
          rw [nI_1, cl81, cl8, c3, e7, a4i, show (5 : Int32) * nI d = nI (5 * d) from pk_mul 5 d, nI_add]
          have vp5 : vp_in (nI (5 * d + x)) 30 := vp_in_nI (by omega) (by omega)
          refine h519 _ _ _ _ _ _ _ _ _ ⟨vp5, ?_⟩
          obtain ⟨u, v', hu, hv', k1, k2, k3⟩ := (K d x hd (by omega)).1 b (by omega)
          rw [ix, nI_clamp (n := 5 * d + x) (by omega), show (10 : Int32) * nI b = nI (10 * b) from pk_mul 10 b, y_get (m := 4) (by omega) (by omega) (by decide), y_bt4 k1 (by omega), nI_clamp (n := 8 * i + 2 + b) (by omega), q1, e8, show (16 : Int32) * nI v = nI (16 * v) from pk_mul 16 v, nI_add]
          refine nm_e ⟨fun c => absurd c (by decide), fun _ => ⟨vp5, vx, h598 _ _ _ _ _ _ _ _ _ _ ⟨vp5, nm_e ?_⟩⟩⟩
          rw [nI_clamp (n := 5 * d + x) (by omega)]
          refine w_mark R (m := m) (by omega) m2 hi (by omega) h6 hb (show p ≤ 9 by omega) (fun z1 d' hd' ed f' R' => ?_) (fun z => absurd z (fun z => z.elim c7 (fun z => z_nm (show v < 2 ^ 31 by omega) (e8.symm.trans z))))
          have : d = d' := (nI_eq (by omega) (by omega)).mp (e7.symm.trans ed)
          subst this
          rw [k2]
          rw [e8] at R'
          refine ⟨fun c => absurd c (by decide), fun _ => h621 _ _ _ _ _ ⟨fun _ => h _ _ _ (y_mkI R' ⟨Y.c2 rfl rfl rfl (sl_uL_n (by decide)), V.c rfl ?_, P.c rfl rfl ?_ ?_, G.2.2.2.1.c rfl rfl rfl ?_ ?_ ?_ ?_ ?_, y_Kset K hd (show x < 5 by omega) hb hn6 (show p ≤ 9 by omega) hv sl_uL_s ?_ ?_, Bw.c (sl_uL_n (by decide)) ?_ ?_⟩ rfl (fun _ => rfl) rfl hT), fun c => absurd rfl c⟩⟩
          · simp (disch := decide) only [sx_u_n]
          · simp (disch := decide) only [sx_u_n, sx_u_s, pk_un]
          · simp (disch := decide) only [sx_u_n, sx_u_s, pk_un]
          · simp (disch := decide) only [sx_u_n, sx_u_s, pk_un]
          · simp (disch := decide) only [sx_u_n, sx_u_s, pk_un]
          · simp (disch := decide) only [sx_u_n]
          · simp (disch := decide) only [sx_u_n]
          · simp (disch := decide) only [sx_u_n]
          · rw [sx_u_n (by decide), sx_u_s, sx_u_n (by decide)]
          · rw [sx_u_s, sx_u_n (by decide), sx_u_n (by decide)]
          · simp (disch := decide) only [sx_u_n]
          · simp (disch := decide) only [sx_u_n]
    · -- a bowing, or a concert
      have f3 : (3 : Int32) ≤ x7 := by rcases hx with rfl | rfl | rfl <;> decide
      have f5 : (5 : Int32) ≤ x7 := by rcases hx with rfl | rfl | rfl <;> decide
      have f55 : ¬ x7 = 5 := by rcases hx with rfl | rfl | rfl <;> decide
      refine ⟨fun _ => ⟨fun _ => ⟨y_v05, ?_⟩, fun c => absurd f5 c⟩, fun c => absurd f3 c⟩
      rw [y_cl0, h70, show nI z / 6 = nI (z / 6) from pk_div (d := 6) (by omega) (by omega) (by omega), show nI (z / 6) - nI (z / 6) / nI (S 0 0) * nI (S 0 0) = nI (z / 6 % S 0 0) from pk_rem (by omega) (by omega) (by omega)]
      have hb : z / 6 % S 0 0 < S 0 0 := Nat.mod_lt _ (by omega)
      generalize z / 6 % S 0 0 = b at hb
      refine ⟨nI_ne0 (by omega) (by omega), nm_e ⟨fun c => absurd c f55, fun _ => ⟨fun _ => ?_, fun _ => ?_⟩⟩⟩
      · have key : ∀ v : Int32, ((v = 1 ∧ y_ow g (S 0 0) 0) ∨ (v = 0 ∧ ¬ y_ow g (S 0 0) 0)) → B862 f a o (nI (z_cnt (fun i => decide (¬ g 7 i = -1)) 0)) v (nI 0) := by
          refine z_up (B := fun j => ∀ v : Int32, ((v = 1 ∧ y_ow g (S 0 0) j) ∨ (v = 0 ∧ ¬ y_ow g (S 0 0) j)) → B862 f a o (nI (z_cnt (fun i => decide (¬ g 7 i = -1)) j)) v (nI j)) m (fun j hj ih => ?_)
          intro v hv
          refine h862 _ _ _ _ _ _ ⟨y_v35, ?_⟩
          rw [y_cl3, m1]
          have hle := z_cnt_le (p := fun i => decide (¬ g 7 i = -1)) j
          refine pk_le m j (fun c => ⟨y_v45, ?_⟩) (fun c => ?_)
          · have ej : j = m := by omega
            subst ej
            have bad : (z_cnt (fun i => decide (¬ g 7 i = -1)) j = 0 ∨ ¬ y_ow g (S 0 0) j) → B942 f a o (nI (z_cnt (fun i => decide (¬ g 7 i = -1)) j)) v 4 (a 7 (4 : Int32).toNatClampNeg) := fun hbad => by
              refine h942 _ _ _ _ _ _ _ (h943 _ _ _ _ _ _ _ _ ⟨y_v45, nm_e ?_⟩)
              rw [Int32.add_zero, y_u_same rfl]
              have e964 : B964 f a o (-7) := h964 _ _ _ _ (h966 _ _ _ _ _ ⟨fun _ => same, fun c => absurd rfl c⟩)
              refine w_play R (m := j) (by omega) m2 (fun z1 z2 => absurd hbad (fun y => y.elim z1 (fun y => y z2))) (fun _ => ⟨rfl, pk_le (z_cnt (fun i => decide (¬ g 7 i = -1)) j) 0 (fun _ => e964) (fun c1 => ⟨fun _ => e964, fun c2 => ?_⟩)⟩)
              rcases hv with hv | hv
              · exact absurd hbad (fun y => y.elim (fun y => by omega) (fun y => y hv.2))
              · exact absurd hv.1 c2
            refine pk_le (z_cnt (fun i => decide (¬ g 7 i = -1)) j) 0 (fun c1 => bad (Or.inl (by omega))) (fun c1 => ⟨fun v0 => bad (Or.inr ?_), fun v1 => ?_⟩)
            · rcases hv with hv | hv
              · rw [hv.1] at v0; exact absurd v0 (by decide)
              · exact hv.2
            · have ow : y_ow g (S 0 0) j := by
                rcases hv with hv | hv
                · exact hv.2
                · exact absurd hv.1 v1
              refine h943 _ _ _ _ _ _ _ _ ⟨y_v45, nm_e ?_⟩
              rw [y_cl4]
              refine w_play R (m := j) (by omega) m2 (fun z1 z2 f' R' => pk_le (z_cnt (fun i => decide (¬ g 7 i = -1)) j) 0 (fun c2 => absurd c2 (by omega)) (fun _ => ⟨fun c2 => absurd c2 v1, fun _ => h966 _ _ _ _ _ ⟨fun _ => h _ _ _ (y_mkI R' ⟨Y.c2 ?_ ?_ ?_ rfl, V.c ?_ ?_, P.c ?_ ?_ ?_ ?_, ⟨?_, j, hm, ?_, ?_, fun i2 hi2 => (C i2 hi2).c ?_ ?_ ?_ ?_⟩, K.c rfl ?_ ?_, Bw.c rfl ?_ ?_⟩ rfl (fun _ => rfl) rfl hT), fun c => absurd rfl c⟩⟩)) (fun z => absurd z (fun z => z.elim (fun z => by omega) (fun ⟨i2, y2, z1, z2, z3, z4⟩ => z4 (ow i2 y2 z1 z2 z3))))
              · simp (disch := decide) only [sx_u_n, sx_u_s, pk_un]
              · simp (disch := decide) only [sx_u_n, sx_u_s, pk_un]
              · simp (disch := decide) only [sx_u_n, sx_u_s, pk_un]
              · simp (disch := decide) only [sx_u_n, sx_u_s, pk_un]
              · simp (disch := decide) only [sx_u_n, sx_u_s, pk_un]
              · simp (disch := decide) only [sx_u_n, sx_u_s, pk_un]
              · simp (disch := decide) only [sx_u_n, sx_u_s, pk_un]
              · simp (disch := decide) only [sx_u_n, sx_u_s, pk_un]
              · simp (disch := decide) only [sx_u_n, sx_u_s, pk_un]
              · rw [sx_u_s, pk_us, sx_u_s, pk_us, c12]
              · simp (disch := decide) only [sx_u_n, sx_u_s, pk_un]; exact m1
              · simp (disch := decide) only [sx_u_n, sx_u_s, pk_un]; exact m2
              · simp (disch := decide) only [sx_u_n, sx_u_s, pk_un]
              · simp (disch := decide) only [sx_u_n, sx_u_s, pk_un]
              · simp (disch := decide) only [sx_u_n, sx_u_s, pk_un]
              · simp (disch := decide) only [sx_u_n, sx_u_s, pk_un]
              · simp (disch := decide) only [sx_u_n, sx_u_s, pk_un]
              · simp (disch := decide) only [sx_u_n, sx_u_s, pk_un]
              · simp (disch := decide) only [sx_u_n, sx_u_s, pk_un]
              · simp (disch := decide) only [sx_u_n, sx_u_s, pk_un]
          · have Cj := C j c
            obtain ⟨xj, hxj, j1, j2, j3, j4⟩ := C j c
            have no : ¬ y_ow g (S 0 0) (j + 1) → ∀ r : Nat, r = z_cnt (fun i => decide (¬ g 7 i = -1)) (j + 1) → B914 f a o (nI r) (nI j) := fun q r hr => by
              refine h914 _ _ _ _ _ (h915 _ _ _ _ _ _ (nm_e ?_))
              rw [nI_1, hr]
              exact ih c 0 (Or.inr ⟨rfl, q⟩)
            have st : ∀ s1 : Nat, z_cnt (fun i => decide (¬ g 7 i = -1)) j + s1 = z_cnt (fun i => decide (¬ g 7 i = -1)) (j + 1) → B890 f a o v (nI j) (nI (z_cnt (fun i => decide (¬ g 7 i = -1)) j)) (nI s1) := by
              intro s1 hs1
              refine h890 _ _ _ _ _ _ _ (nm_e ?_)
              rw [nI_add]
              refine ⟨fun v0 => no (fun q => ?_) _ hs1, fun v1 => l_owed V Cj hm c hxj j2 hn6 h70 (pk_eq (z_cnt (z_owm g j xj) (S 0 0)) 0 (fun q => h915 _ _ _ _ _ _ (nm_e ?_)) (fun q => no (fun q2 => q (q2 j xj (by omega) (by omega) j2)) _ hs1) rfl rfl ?_ (by omega))⟩
              · rcases hv with hv | hv
                · rw [hv.1] at v0; exact absurd v0 (by decide)
                · exact hv.2 (fun i2 y2 h1 h2 h3 => q i2 y2 (by omega) h2 h3)
              · rw [nI_1, hs1]
                have ow : y_ow g (S 0 0) j := by
                  rcases hv with hv | hv
                  · exact hv.2
                  · exact absurd hv.1 v1
                refine ih c 1 (Or.inl ⟨rfl, fun i2 y2 h1 h2 h3 => ?_⟩)
                by_cases e : i2 = j
                · subst e
                  have : xj = y2 := (nI_eq (by omega) (by omega)).mp (j2.symm.trans h3)
                  subst this
                  exact q
                · exact ow i2 y2 (by omega) h2 h3
              · have := z_cnt_le (p := z_owm g j xj) (S 0 0)
                omega
            rw [y_8, nI_1, nI_clamp (n := 8 * j + 1) (by omega), j3]
            refine ⟨vp_in_nI (by omega) (by omega), ?_⟩
            have e : z_cnt (fun i => decide (¬ g 7 i = -1)) (j + 1) = z_cnt (fun i => decide (¬ g 7 i = -1)) j + (if decide (¬ g 7 j = -1) then 1 else 0) := rfl
            rcases j4 with e7 | ⟨⟨d, hd, e7⟩, -⟩
            · rw [e7, decide_eq_false (fun z => z rfl), if_neg (by decide)] at e
              rw [e7]
              exact ⟨fun _ => st 0 e.symm, fun c => absurd (show (-1 : Int32) < 0 by decide) c⟩
            · rw [e7, decide_eq_true (z_nm (by omega)), if_pos rfl] at e
              rw [e7]
              exact ⟨fun c => absurd c (nI_pos (by omega)), fun _ => st 1 e.symm⟩
        exact key 1 (Or.inl ⟨rfl, fun i2 y2 h1 => absurd h1 (by omega)⟩)
      · rw [show nI z / 36 = nI (z / 36) from pk_div (d := 36) (by omega) (by omega) (by omega), show nI (z / 36) - nI (z / 36) / 3 * 3 = nI (z / 36 % 3) from pk_rem (d := 3) (by omega) (by omega) (by omega), show nI z / 108 = nI (z / 108) from pk_div (d := 108) (by omega) (by omega) (by omega)]
        have hp : z / 36 % 3 < 3 := Nat.mod_lt _ (by omega)
        generalize z / 36 % 3 = p at hp
        have hu : z / 108 < 2 ^ 31 := by omega
        generalize z / 108 = u at hu
        refine nm_e ?_
        rw [nI_add]
        refine nm_e ?_
        have vs : vp_in (nI (6 * x + b)) 30 := vp_in_nI (by omega) (by omega)
        have cls : (nI (6 * x + b)).toNatClampNeg = 6 * x + b := nI_clamp (by omega)
        have v00 : vp_in 0 48 := vp_in_nI (n := 0) (by omega) (by omega)
        obtain ⟨hcnt, -⟩ := Y.2.2.2 x b (by omega) (by omega)
        have hc8 := W.2.2.1 (12 * x + b) (by omega)
        rw [nI_1, cl8, a4i, cl81, c3, cls, hcnt]
        refine ⟨v8, pk_lt 1 x (fun _ => same) (fun hx1 => ⟨v81, ?_⟩)⟩
        have due : (∀ d, d < 6 → g 7 i = nI d → d < 4) → (nI (S 2 (12 * x + b)) = 0 → Q 1 f a o) ∧ (¬ nI (S 2 (12 * x + b)) = 0 → (vp_in (nI (6 * x + b)) 30 ∧ (¬ nI (S 2 (12 * x + b)) = 0 ∧ (∀ y22 : Int32, y22 = (nI u - nI u / nI (S 2 (12 * x + b)) * nI (S 2 (12 * x + b))) → ((z_b (decide (¬ g 7 i = -1)) = 0 → B713 f a o (nI i) (nI (8 * i)) (nI (6 * x + b)) (nI b) (nI p) y22) ∧ (¬ z_b (decide (¬ g 7 i = -1)) = 0 → (P_L_owes f a o (nI i) (nI b) (fun r24 => ((r24 = 0 → B714 f a o (nI i) (nI (8 * i)) (nI (6 * x + b)) (nI b) (nI p) y22 1) ∧ (¬ r24 = 0 → B713 f a o (nI i) (nI (8 * i)) (nI (6 * x + b)) (nI b) (nI p) y22)))))))))) := by
          intro hd4
          refine pk_eq (S 2 (12 * x + b)) 0 (fun _ => same) (fun cn => ⟨vs, nI_ne0 (by omega) (by omega), ?_⟩)
          rw [show nI u - nI u / nI (S 2 (12 * x + b)) * nI (S 2 (12 * x + b)) = nI (u % S 2 (12 * x + b)) from pk_rem (by omega) (by omega) (by omega)]
          have hk : u % S 2 (12 * x + b) < S 2 (12 * x + b) := Nat.mod_lt _ (by omega)
          generalize u % S 2 (12 * x + b) = k at hk
          refine nm_e ?_
          have no : (g 7 i = -1 ∨ z_owm g i x b = true) → B713 f a o (nI i) (nI (8 * i)) (nI (6 * x + b)) (nI b) (nI p) (nI k) := fun bad => by
            refine h713 _ _ _ _ _ _ _ _ _ (h714 _ _ _ _ _ _ _ _ _ _ ⟨fun _ => h737 _ _ _ _ _ _ _ _ _ _ _ ⟨fun _ => h764 _ _ _ _ _ _ _ _ _ _ _ ⟨fun _ => ⟨v00, h819 _ _ _ _ _ _ _ _ _ _ _ ⟨v00, nm_e ?_⟩⟩, fun c => absurd rfl c⟩, fun c => absurd rfl c⟩, fun c => absurd rfl c⟩)
            rw [y_uL_same]
            exact w_bow ht R (m := m) (by omega) m2 hi (by omega) h6 hb hk (by omega) (fun z1 d hd ed => absurd bad (fun z => z.elim (fun z => z_nm (show d < 2 ^ 31 by omega) (ed.symm.trans z)) (fun z => by rw [z1] at z; exact absurd z (by decide)))) (fun _ => ⟨rfl, fun _ => h844 _ _ _ _ _ ⟨fun _ => same, fun c => absurd rfl c⟩, fun c => absurd rfl c⟩)
          by_cases c7 : g 7 i = -1
          · rw [decide_eq_false (fun z => z c7)]
            exact ⟨fun _ => no (Or.inl c7), fun c => absurd rfl c⟩
          · obtain ⟨⟨d, hd, e7⟩, c5⟩ := c4.resolve_left c7
            have hd4' := hd4 d hd e7
            rw [decide_eq_true c7]
            refine ⟨fun c => absurd c (by decide), fun _ => l_owes V (C i hi) hm hi hx3 h6 (by omega) ?_⟩
            cases ho : z_owm g i x b
            · refine ⟨fun _ => h714 _ _ _ _ _ _ _ _ _ _ ⟨fun c => absurd c (by decide), fun _ => ⟨by rw [nI_1]; exact v81, ?_⟩⟩, fun c => absurd rfl c⟩
              rw [nI_1, cl81, c3, e7, show (12 : Int32) * nI d = nI (12 * d) from pk_mul 12 d, nI_add]
              refine h737 _ _ _ _ _ _ _ _ _ _ _ ⟨fun c => absurd c (by decide), fun _ => ⟨by rw [nI_1]; exact v81, ?_⟩⟩
              rw [nI_1, cl81, c3, e7]
              refine l_bowing V Bw hd4' (by omega) (by omega) (by omega) ?_
              have v12 : vp_in (nI (12 * d + (6 * x + b))) 48 := vp_in_nI (by omega) (by omega)
              obtain ⟨v, hv, v1, v2⟩ := V x b (by omega) (by omega)
              refine h764 _ _ _ _ _ _ _ _ _ _ _ ⟨fun c => absurd c (by decide), fun _ => ⟨v12, vs, ?_⟩⟩
              rw [nI_clamp (n := 12 * d + (6 * x + b)) (by omega), cls, v1, y_8, show (4 : Int32) * nI v = nI (4 * v) from pk_mul 4 v, nI_add]
              refine h819 _ _ _ _ _ _ _ _ _ _ _ ⟨v12, nm_e ?_⟩
              rw [nI_clamp (n := 12 * d + (6 * x + b)) (by omega)]
              refine w_bow ht R (m := m) (by omega) m2 hi (by omega) h6 hb hk (show p ≤ 2 by omega) (fun z1 d' hd' ed f' R' => ?_) (fun z => absurd z (fun z => z.elim c7 (fun z => by rw [ho] at z; exact absurd z (by decide))))
              have : d = d' := (nI_eq (by omega) (by omega)).mp (e7.symm.trans ed)
              subst this
              rw [v2] at R'
              refine ⟨fun c => absurd c (by decide), fun _ => h844 _ _ _ _ _ ⟨fun _ => h _ _ _ (y_mkI R' ⟨Y.c2 rfl rfl rfl (sl_uL_n (by decide)), V.c rfl ?_, P.c rfl rfl ?_ ?_, G.2.2.2.1.c rfl rfl rfl ?_ ?_ ?_ ?_ ?_, K.c (sl_uL_n (by decide)) ?_ ?_, y_Bset Bw hd4' (show x < 2 by omega) (show b < 6 by omega) (show k < 8 by omega) (show p ≤ 2 by omega) hv sl_uL_s ?_ ?_⟩ rfl (fun _ => rfl) rfl hT), fun c => absurd rfl c⟩⟩
              · simp (disch := decide) only [sx_u_n]
              · simp (disch := decide) only [sx_u_n, sx_u_s, pk_un]
              · simp (disch := decide) only [sx_u_n, sx_u_s, pk_un]
              · simp (disch := decide) only [sx_u_n, sx_u_s, pk_un]
              · simp (disch := decide) only [sx_u_n, sx_u_s, pk_un]
              · simp (disch := decide) only [sx_u_n]
              · simp (disch := decide) only [sx_u_n]
              · simp (disch := decide) only [sx_u_n]
              · simp (disch := decide) only [sx_u_n]
              · simp (disch := decide) only [sx_u_n]
              · rw [sx_u_n (by decide), sx_u_s, sx_u_n (by decide)]
              · rw [sx_u_s, sx_u_n (by decide), sx_u_n (by decide)]
            · exact ⟨fun c => absurd c (by decide), fun _ => no (Or.inr ho)⟩
        rcases c4 with e7 | ⟨⟨d, hd, e7⟩, -⟩
        · have due2 := due (fun d hd ed => absurd (e7.symm.trans ed) (fun z => z_nm (show d < 2 ^ 31 by omega) z.symm))
          rw [e7] at due2 ⊢
          exact ⟨fun c => absurd c (by decide), fun _ => ⟨vs, due2⟩⟩
        · by_cases h4 : d < 4
          · have due2 := due (fun d' hd' ed => by
              have : d = d' := (nI_eq (by omega) (by omega)).mp (e7.symm.trans ed)
              omega)
            rw [e7] at due2 ⊢
            exact ⟨fun c => absurd c (nI_nlt (a := 3) (b := d) (by omega) (by omega)), fun _ => ⟨vs, due2⟩⟩
          · rw [e7]
            exact ⟨fun _ => same, fun c => absurd (nI_lt (a := 3) (b := d) (by omega) (by omega)) c⟩
  have e14 : B14 f a o := by
    refine h14 _ _ _ ⟨y_v35, ?_⟩
    rw [y_cl3, m1]
    refine pk_eq m 0 (fun c => e21 (by omega)) (fun c => ⟨y_v35, nI_ne0 (by omega) (by omega), ?_⟩)
    rw [show nI z - nI z / nI m * nI m = nI (z % m) from pk_rem (by omega) (by omega) (by omega)]
    have hi : z % m < m := Nat.mod_lt _ (by omega)
    generalize z % m = i at hi
    refine nm_e ?_
    rw [y_8]
    refine nm_e ?_
    obtain ⟨x, hx', c1, c2, c3, c4⟩ := C i hi
    have e := e116 i x hi hx' c1 c2
    rw [nI_clamp (n := 8 * i) (by omega), c1, nI_1, nI_clamp (n := 8 * i + 1) (by omega), c3, show (6 : Int32) * nI x = nI (6 * x) from pk_mul 6 x]
    refine ⟨vp_in_nI (by omega) (by omega), nm_e ⟨vp_in_nI (by omega) (by omega), ?_⟩⟩
    rcases c4 with e7 | ⟨⟨d, hd, e7⟩, -⟩
    · rw [e7] at e ⊢
      exact ⟨fun _ => e, fun c => absurd (show (-1 : Int32) < 0 by decide) c⟩
    · rw [e7] at e ⊢
      rw [decide_eq_true (z_nm (by omega))] at e
      exact ⟨fun c => absurd c (nI_pos (by omega)), fun _ => e⟩
  refine ⟨fun _ => ⟨y_v35, ?_⟩, fun _ => e14⟩
  rw [y_cl3, m1]
  exact pk_lt m 6 e21 (fun _ => e14)
