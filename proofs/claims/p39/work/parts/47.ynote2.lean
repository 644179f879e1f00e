theorem l_isNoted {t : Nat} {f a : sx_F} {o : sl_O} {n T z : Nat} {x6 : Int32} (ht : t < 1000000) (I : y_I t f a o n T) (hn1 : 1 ≤ n) (hx : x6 = 0 ∨ x6 = 8 ∨ x6 = 9) (hz : z < 10000000) {Q : Int32 → sx_F → sx_F → sl_O → Prop} (h : ∀ f' a' o', y_I (t + 1) f' a' o' n T → Q 1 f' a' o') : P_L_isNoted f a o x6 (nI z) Q := by
  intro B64 B74 B137 B138 B214 B240 B286 B312 B328 B425 h64 h74 h137 h138 h214 h240 h286 h312 h328 h425
  obtain ⟨g, S, R, G, hS, hT⟩ := I
  subst hS
  have same : Q 1 f a o := h f a o ⟨g, S, R.mono, G, rfl, hT⟩
  obtain ⟨Y, V, P, Cp, K, Bw⟩ := G
  have W := R.2.2.1
  have h7 := Y.2.1
  have hn6 := Y.1
  rw [y_cl0, h7, show nI z - nI z / 5 * 5 = nI (z % 5) from pk_rem (d := 5) (by omega) (by omega) (by omega), show nI z / 5 = nI (z / 5) from pk_div (d := 5) (by omega) (by omega) (by omega), show nI (z / 5) - nI (z / 5) / nI (S 0 0) * nI (S 0 0) = nI (z / 5 % S 0 0) from pk_rem (by omega) (by omega) (by omega), show nI z / 30 = nI (z / 30) from pk_div (d := 30) (by omega) (by omega) (by omega), show nI (z / 30) - nI (z / 30) / 7 * 7 = nI (z / 30 % 7) from pk_rem (d := 7) (by omega) (by omega) (by omega)]
  rw [show nI z / 210 = nI (z / 210) from pk_div (d := 210) (by omega) (by omega) (by omega)] at h312 ⊢
  refine nm_e ⟨y_v05, nI_ne0 (by omega) (by omega), nm_e ?_⟩
  rw [y_cell]
  refine nm_e (nm_e ?_)
  have hi : z % 5 < 5 := Nat.mod_lt _ (by omega)
  have hb : z / 5 % S 0 0 < S 0 0 := Nat.mod_lt _ (by omega)
  have hp : z / 30 % 7 < 7 := Nat.mod_lt _ (by omega)
  have hu : z / 210 < 100000 := by omega
  have hz3 : nI z - nI z / 3 * 3 = nI (z % 3) := pk_rem (d := 3) (by omega) (by omega) (by omega)
  rw [hz3]
  generalize z / 210 = u at hu h312
  generalize z % 5 = i at hi
  generalize z / 5 % S 0 0 = b at hb
  generalize z / 30 % 7 = p at hp
  generalize z % 3 = z3
  clear hz3
  have hb6 : b < 6 := by omega
  have hs : 12 * i + b < 60 := by omega
  have hc8 := W.2.2.1 (12 * i + b) hs
  obtain ⟨hcnt, hbits⟩ := Y.2.2.2 i b hi hb6
  obtain ⟨hlen, hlen16⟩ := Y.2.2.1 b hb
  obtain ⟨v, hv, v1, v2⟩ := V i b hi hb6
  have hfl := W.2.2.2.2.2.1 i b hi hb
  have vin : vp_in (nI (6 * i + b)) 30 := vp_in_nI (by omega) (by omega)
  have cl : (nI (6 * i + b)).toNatClampNeg = 6 * i + b := nI_clamp (by omega)
  -- the count alone
  have e328 : B328 f a o (nI i) (nI b) (nI (6 * i + b)) := h328 _ _ _ _ _ _ (v_notes R hi hb ⟨vin, fun _ => same, fun c => absurd (by rw [cl, hcnt]) c⟩)
  -- to mend
  have e312 : B312 f a o (nI i) (nI b) (nI (6 * i + b)) (nI p) := by
    refine h312 _ _ _ _ _ _ _ ⟨vin, ?_⟩
    rw [cl, hcnt, v1]
    refine pk_eq (S 2 (12 * i + b)) 0 (fun _ => e328) (fun c0 => ⟨vin, pk_lt v 60 (fun hv60 => ⟨vin, nI_ne0 (by omega) (by omega), ?_⟩) (fun _ => e328)⟩)
    rw [show nI u - nI u / nI (S 2 (12 * i + b)) * nI (S 2 (12 * i + b)) = nI (u % S 2 (12 * i + b)) from pk_rem (by omega) (by omega) (by omega)]
    refine nm_e ?_
    have hk : u % S 2 (12 * i + b) < S 2 (12 * i + b) := Nat.mod_lt _ (by omega)
    generalize u % S 2 (12 * i + b) = k at hk
    have hpk := (W.2.2.2.1 (8 * (12 * i + b) + k) (by omega)).2
    refine l_pitch Y W hi hb6 hk ⟨vin, vin, nm_e ⟨vin, ?_⟩⟩
    have go : ∀ (w : Nat), w = (if S 4 (8 * (12 * i + b) + k) = p then 0 else 1) → B425 f a (sl_uL o 0 (6 * i + b) (y_put (o 0 (6 * i + b)) 7 (nI (8 * k + 5)) (nI p))) (nI i) (nI b) (nI (6 * i + b)) (nI p) (nI k) (nI (S 4 (8 * (12 * i + b) + k))) (nI (6 * i + b)) (nI v) (nI w) := by
      intro w hw
      have hw1 : w ≤ 1 := by rw [hw]; split <;> omega
      refine h425 _ _ _ _ _ _ _ _ _ _ _ _ ⟨vin, nm_e ?_⟩
      rw [cl, nI_add]
      refine w_mend ht R hi hb hk (by omega) (fun f' R' => ⟨fun _ => ?_, fun c => absurd rfl c⟩)
      have Y' : y_N (sx_u a 2 (6 * i + b) (nI (v + w))) (sl_uL o 0 (6 * i + b) (y_put (o 0 (6 * i + b)) 7 (nI (8 * k + 5)) (nI p))) (z_u S 4 (8 * (12 * i + b) + k) p) := Y.mend W hi hb6 hk (by omega) (sx_u_n (by decide)) (sx_u_n (by decide)) (sx_u_n (by decide)) sl_uL_s
      have W' := R'.2.2.1
      have eb : b < z_u S 4 (8 * (12 * i + b) + k) p 0 0 := by rw [z_un1 (by decide)]; exact hb
      have ek : k < z_u S 4 (8 * (12 * i + b) + k) p 2 (12 * i + b) := by rw [z_un1 (by decide)]; exact hk
      refine v_noteAt R' hi eb ek (l_length Y' W' hi hb6 ek ⟨fun _ => v_version R' hi eb ⟨vin, ?_⟩, fun c => absurd (by rw [z_us]) c⟩)
      rw [sx_u_s, sx_u_s, pk_us, pk_us, v2, ← hw, nI_add]
      refine ⟨fun _ => h _ _ _ (y_mkI R' ⟨Y', V.up hi hb6 (show v + w ≤ 60 by omega) sx_u_s ?_, P.c ?_ ?_ ?_ ?_, ?_, ?_, Bw.c ?_ ?_ ?_⟩ (z_un1 (by decide)) (fun q => z_un1 (by decide)) rfl hT), fun c => absurd rfl c⟩
      · rw [sx_u_s, sx_u_n (by decide), sx_u_n (by decide), v2, ← hw, nI_add]
      · rw [sx_u_n (by decide)]
      · rw [sx_u_n (by decide)]
      · simp (disch := decide) only [sx_u_n, sx_u_s, pk_un]
      · simp (disch := decide) only [sx_u_n, sx_u_s, pk_un]
      · rw [z_un1 (by decide)]
        exact Cp.c (by rw [sx_u_n (by decide)]) (by rw [sx_u_n (by decide)]) (by rw [sx_u_n (by decide)]) (by simp (disch := decide) only [sx_u_n, sx_u_s, pk_un]) (by simp (disch := decide) only [sx_u_n, sx_u_s, pk_un]) (by simp (disch := decide) only [sx_u_n]) (by simp (disch := decide) only [sx_u_n]) (by simp (disch := decide) only [sx_u_n])
      · rw [z_un1 (by decide)]
        exact K.c (sl_uL_n (by decide)) (by simp (disch := decide) only [sx_u_n]) (by simp (disch := decide) only [sx_u_n])
      · exact sl_uL_n (by decide)
      · simp (disch := decide) only [sx_u_n]
      · simp (disch := decide) only [sx_u_n]
    rw [y_8, show nI (8 * k) + 5 = nI (8 * k + 5) from nI_add _ 5]
    refine pk_eq (S 4 (8 * (12 * i + b) + k)) p (fun c => ?_) (fun c => ?_)
    · have := go 0 (by rw [if_pos c])
      exact this
    · have := go 1 (by rw [if_neg c])
      exact this
  rcases hx with rfl | rfl | rfl
  · -- to write
    refine ⟨fun c => absurd c (by decide), fun _ => ?_⟩
    have go : ∀ l : Nat, 1 ≤ l → l ≤ 8 → B74 f a o (nI i) (nI b) (nI (6 * i + b)) (nI p) (nI l) 0 0 := by
      intro l hl1 hl8
      have key : B74 f a o (nI i) (nI b) (nI (6 * i + b)) (nI p) (nI l) (nI (z_fl S (12 * i + b) 0)) (nI 0) := by
        refine z_up (B := fun k => B74 f a o (nI i) (nI b) (nI (6 * i + b)) (nI p) (nI l) (nI (z_fl S (12 * i + b) k)) (nI k)) (S 2 (12 * i + b)) (fun k hk ih => h74 _ _ _ _ _ _ _ _ _ _ ⟨vin, ?_⟩)
        rw [cl, hcnt, v1, nI_clamp (n := b) (by omega), hlen]
        refine pk_le (S 2 (12 * i + b)) k (fun c => ⟨vin, ?_⟩) (fun c => l_length Y W hi hb6 c (nm_e (nm_e ?_)))
        · have ek : k = S 2 (12 * i + b) := by omega
          subst ek
          have no : (8 ≤ S 2 (12 * i + b) ∨ S 1 b < z_fl S (12 * i + b) (S 2 (12 * i + b)) + l) → v < 60 → B137 f a o (nI i) (nI b) (nI (6 * i + b)) (nI p) (nI l) := fun hbad hv60 => by
            refine h137 _ _ _ _ _ _ _ _ (h138 _ _ _ _ _ _ _ _ _ ⟨vin, ?_⟩)
            rw [cl, v1]
            refine pk_lt v 60 (fun _ => ⟨fun _ => h214 _ _ _ _ _ _ _ _ _ ?_, fun c => absurd rfl c⟩) (fun c => absurd c (by omega))
            refine w_note ht R hi hb hl1 (by omega) (by omega) (fun c1 c2 => absurd hbad (by omega)) (fun _ => ⟨rfl, fun _ => h240 _ _ _ _ _ ⟨fun _ => same, fun c => absurd rfl c⟩, fun c => absurd rfl c⟩)
          have old : 60 ≤ v → B137 f a o (nI i) (nI b) (nI (6 * i + b)) (nI p) (nI l) := fun hv60 => by
            refine h137 _ _ _ _ _ _ _ _ (h138 _ _ _ _ _ _ _ _ _ ⟨vin, ?_⟩)
            rw [cl, v1]
            exact pk_lt v 60 (fun c => absurd c (by omega)) (fun _ => same)
          have nope : (8 ≤ S 2 (12 * i + b) ∨ S 1 b < z_fl S (12 * i + b) (S 2 (12 * i + b)) + l) → B137 f a o (nI i) (nI b) (nI (6 * i + b)) (nI p) (nI l) := fun hbad => by
            by_cases hv60 : v < 60
            · exact no hbad hv60
            · exact old (by omega)
          rw [nI_add]
          refine pk_le 8 (S 2 (12 * i + b)) (fun c1 => nope (Or.inl c1)) (fun c1 => ⟨vp_in_nI (by omega) (by omega), pk_lt (S 1 b) (z_fl S (12 * i + b) (S 2 (12 * i + b)) + l) (fun c2 => nope (Or.inr c2)) (fun c2 => ⟨vin, pk_le 60 v (fun c3 => old c3) (fun c3 => h138 _ _ _ _ _ _ _ _ _ ⟨vin, ?_⟩)⟩)⟩)
          rw [cl, v1, hcnt, y_8, show (32 : Int32) * nI p = nI (32 * p) from pk_mul 32 p, nI_add, nI_1]
          refine pk_lt v 60 (fun _ => ⟨fun c => absurd c (by decide), fun _ => ⟨vin, vin, vin, vin, nm_e ⟨vin, vin, nm_e ⟨vin, vin, nm_e (h214 _ _ _ _ _ _ _ _ _ ?_)⟩⟩⟩⟩) (fun c => absurd c (by omega))
          rw [sx_u_n (f := a) (k := 1) (i := 2) (by decide), v1, nI_1]
          refine w_note ht R hi hb hl1 (by omega) (by omega) (fun c4 c5 f' R' => ⟨fun c => absurd c (by decide), fun _ => ⟨vin, h240 _ _ _ _ _ ⟨fun _ => h _ _ _ (y_mkI R' ⟨Y.note W hi hb6 c1 (by omega) (by omega) ?_ ?_ ?_ ?_, V.up hi hb6 (show v + 1 ≤ 60 by omega) ?_ ?_, P.c ?_ ?_ ?_ ?_, ?_, ?_, Bw.c ?_ ?_ ?_⟩ (by simp (disch := decide) only [z_un1]) (fun q => by simp (disch := decide) only [z_un1]) rfl hT), fun c => absurd ?_ c⟩⟩⟩) (fun c => absurd c (by omega))
          · rw [sx_u_n (by decide), sx_u_n (by decide)]
          · rw [sx_u_n (by decide), sx_u_n (by decide)]
          · rw [sx_u_n (by decide), sx_u_s]
          · exact sl_uL_s
          · rw [sx_u_s, sx_u_n (by decide)]
          · rw [sx_u_s]; simp (disch := decide) only [sx_u_n]; rw [v2, nI_1]
          · rw [sx_u_n (by decide), sx_u_n (by decide)]
          · rw [sx_u_n (by decide), sx_u_n (by decide)]
          · simp (disch := decide) only [sx_u_n, sx_u_s, pk_un]
          · simp (disch := decide) only [sx_u_n, sx_u_s, pk_un]
          · simp (disch := decide) only [z_un1]
            exact Cp.c (by simp (disch := decide) only [sx_u_n]) (by simp (disch := decide) only [sx_u_n]) (by simp (disch := decide) only [sx_u_n]) (by simp (disch := decide) only [sx_u_n, sx_u_s, pk_un]) (by simp (disch := decide) only [sx_u_n, sx_u_s, pk_un]) (by simp (disch := decide) only [sx_u_n]) (by simp (disch := decide) only [sx_u_n]) (by simp (disch := decide) only [sx_u_n])
          · simp (disch := decide) only [z_un1]
            exact K.c (sl_uL_n (by decide)) (by simp (disch := decide) only [sx_u_n]) (by simp (disch := decide) only [sx_u_n])
          · exact sl_uL_n (by decide)
          · simp (disch := decide) only [sx_u_n]
          · simp (disch := decide) only [sx_u_n]
          · rw [cl, sx_u_n (by decide), sx_u_s, pk_us]
        · rw [nI_add, nI_1]
          exact ih c
      exact key
    have one : ∀ d : Nat, 1 ≤ d → d ≤ 8 → B64 f a o (nI i) (nI b) (nI (6 * i + b)) (nI p) 1 (nI u) (nI d) := fun d hd1 hd8 => by
      refine h64 _ _ _ _ _ _ _ _ _ _ ⟨nI_ne0 (by omega) (by omega), ?_⟩
      rw [show nI u - nI u / nI d * nI d = nI (u % d) from pk_rem (by omega) (by omega) (by omega), show (1 : Int32) + nI (u % d) = nI (1 + u % d) from nI_add 1 _]
      have := Nat.mod_lt u (show 0 < d by omega)
      exact nm_e (go _ (by omega) (by omega))
    exact ⟨fun _ => one 8 (by omega) (by omega), fun _ => one 3 (by omega) (by omega)⟩
  · refine ⟨fun _ => ⟨fun _ => ⟨vin, ?_⟩, fun c => absurd rfl c⟩, fun c => absurd (by decide) c⟩
    rw [cl, v1, hcnt]
    refine pk_le 60 v (fun _ => e312) (fun hv60 => ⟨vin, nm_e ⟨vin, ?_⟩⟩)
    have go : ∀ w : Nat, w = (if S 2 (12 * i + b) = 0 then 0 else 1) → B286 f a o (nI i) (nI b) (nI (6 * i + b)) (nI (S 2 (12 * i + b))) (nI (6 * i + b)) (nI v) (nI w) := by
      intro w hw
      have hw1 : w ≤ 1 := by rw [hw]; split <;> omega
      refine h286 _ _ _ _ _ _ _ _ _ _ ⟨vin, nm_e ⟨vin, nm_e ?_⟩⟩
      rw [cl, nI_add]
      refine w_empty ht R hi hb (fun f' R' => ⟨fun _ => h _ _ _ (y_mkI R' ⟨Y.empty hi hb6 ?_ ?_ ?_ rfl, V.up hi hb6 (show v + w ≤ 60 by omega) ?_ ?_, P.c ?_ ?_ ?_ ?_, ?_, ?_, Bw.c rfl ?_ ?_⟩ (z_un1 (by decide)) (fun q => z_un1 (by decide)) rfl hT), fun c => absurd rfl c⟩)
      · rw [sx_u_n (by decide), sx_u_n (by decide)]
      · rw [sx_u_n (by decide), sx_u_n (by decide)]
      · rw [sx_u_s, sx_u_n (by decide)]
      · rw [sx_u_n (by decide), sx_u_s]
      · rw [sx_u_s, sx_u_n (by decide), sx_u_n (by decide), v2, ← hw, nI_add]
      · rw [sx_u_n (by decide), sx_u_n (by decide)]
      · rw [sx_u_n (by decide), sx_u_n (by decide)]
      · simp (disch := decide) only [sx_u_n, sx_u_s, pk_un]
      · simp (disch := decide) only [sx_u_n, sx_u_s, pk_un]
      · rw [z_un1 (by decide)]
        exact Cp.c (by simp (disch := decide) only [sx_u_n]) (by simp (disch := decide) only [sx_u_n]) (by simp (disch := decide) only [sx_u_n]) (by simp (disch := decide) only [sx_u_n, sx_u_s, pk_un]) (by simp (disch := decide) only [sx_u_n, sx_u_s, pk_un]) (by simp (disch := decide) only [sx_u_n]) (by simp (disch := decide) only [sx_u_n]) (by simp (disch := decide) only [sx_u_n])
      · rw [z_un1 (by decide)]
        exact K.c rfl (by simp (disch := decide) only [sx_u_n]) (by simp (disch := decide) only [sx_u_n])
      · simp (disch := decide) only [sx_u_n]
      · simp (disch := decide) only [sx_u_n]
    refine pk_le (S 2 (12 * i + b)) 0 (fun c => ?_) (fun c => ?_)
    · have := go 0 (by rw [if_pos (by omega)])
      exact this
    · have := go 1 (by rw [if_neg (by omega)])
      exact this
  · exact ⟨fun _ => ⟨fun c => absurd c (by decide), fun _ => e312⟩, fun c => absurd (by decide) c⟩
