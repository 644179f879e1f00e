theorem k_holds : P_L_holds fX0 sl_a0 sl_o0 := by
  intro B74 B120 B159 B245 B246 B251 B285 B324 B370 B435 B442 B475 B507 B511 B512 B520 B523 h74 h120 h159 h245 h246 h251 h285 h324 h370 h435 h442 h475 h507 h511 h512 h520 h523
  -- the six books at the end
  have fin : ∀ d k, k + d = 6 → ∀ (t : Nat) (f a : sx_F) (o : sl_O) (n T ce : Nat), y_I t f a o n T → ce ≤ 50000 + 301 * k → B523 f a o 1 (nI k) ce := by
    intro d
    induction d with
    | zero =>
      intro k hk t f a o n T ce I hce
      exact h523 _ _ _ _ _ _ (pk_le 6 k (fun _ => ⟨by omega, rfl⟩) (fun c => absurd c (by omega)))
    | succ d ih =>
      intro k hk t f a o n T ce I hce
      refine h523 _ _ _ _ _ _ (pk_le 6 k (fun c => absurd c (by omega)) (fun _ => ⟨fun c => absurd c (by decide), fun _ => ⟨by omega, l_isBook I (by omega) (by omega) (fun f' a' I' => nm_e ?_)⟩⟩))
      rw [nI_1]
      exact ih (k + 1) (by omega) t f' a' o n T _ I' (by omega)
  have loop : ∀ d k, k + d = 120 → ∀ (f a : sx_F) (o : sl_O) (n T ce : Nat), y_I k f a o n T → (k = 0 ∨ 1 ≤ n) → ce ≤ 200 + 309 * k → B74 f a o (nI T) 1 (nI k) ce := by
    intro d
    induction d with
    | zero =>
      intro k hk f a o n T ce I _ hce
      exact h74 _ _ _ _ _ _ _ (pk_le 120 k (fun _ => h520 _ _ _ _ _ (fin 6 0 (by omega) k f a o n T ce I (by omega))) (fun c => absurd c (by omega)))
    | succ d ih =>
      intro k hk f a o n T ce I hkn hce
      have nxt := ih (k + 1) (by omega)
      have e507 : ∀ (f a : sx_F) (o : sl_O) (n T ce : Nat), y_I (k + 1) f a o n T → 1 ≤ n → ce ≤ 200 + 309 * (k + 1) → B507 f a o (nI T) (nI k) ce := by
        intro f a o n T ce I h1 hc
        refine h507 _ _ _ _ _ _ (h512 _ _ _ _ _ _ _ (nm_e ?_))
        rw [nI_1]
        exact nxt f a o n T ce I (Or.inr h1) hc
      have e475 : ∀ (f a : sx_F) (o : sl_O) (n T ce z : Nat), y_I (k + 1) f a o n T → 1 ≤ n → ce + 301 ≤ 200 + 309 * (k + 1) → z < 10000000 → B475 f a o (nI T) (nI k) (nI z) ce := by
        intro f a o n T ce z I h1 hc hz
        refine h475 _ _ _ _ _ _ _ ?_
        rw [show nI k - nI k / 6 * 6 = nI (k % 6) from pk_rem (d := 6) (by omega) (by omega) (by omega), show nI z / 7 = nI (z / 7) from pk_div (d := 7) (by omega) (by omega) (by omega), show nI (z / 7) - nI (z / 7) / 6 * 6 = nI (z / 7 % 6) from pk_rem (d := 6) (by omega) (by omega) (by omega)]
        have m6 := Nat.mod_lt (z / 7) (show 0 < 6 by omega)
        generalize z / 7 % 6 = bk at m6
        have hcb : ce + 301 ≤ 100000 := Nat.le_trans hc (show 200 + 309 * (k + 1) ≤ 100000 by clear hc hce; omega)
        refine pk_lt (k % 6) 5 (fun _ => ?_) (fun _ => ⟨hcb, ?_⟩) rfl rfl (by omega) (by omega)
        · exact e507 f a o n T ce I h1 (by omega)
        · refine l_isBook (bk := bk) I (by omega) hz (fun f' a' I' => ?_)
          exact ⟨fun c => absurd c (by decide), fun _ => e507 f' a' o n T (ce + 301) I' h1 hc⟩
      have e442 : ∀ (f a : sx_F) (o : sl_O) (n T ce z : Nat), y_I (k + 1) f a o n T → 1 ≤ n → ce + 301 ≤ 200 + 309 * (k + 1) → z < 10000000 → B442 f a o (nI T) 1 (nI k) (nI z) ce := by
        intro f a o n T ce z I h1 hc hz
        refine h442 _ _ _ _ _ _ _ _ ⟨fun c => absurd c (by decide), fun _ => ?_⟩
        rw [show nI k - nI k / 4 * 4 = nI (k % 4) from pk_rem (d := 4) (by omega) (by omega) (by omega)]
        have m4 := Nat.mod_lt k (show 0 < 4 by omega)
        have go := e475 f a o n T ce z I h1 hc hz
        obtain ⟨g, S, R, G, -, -⟩ := I
        exact pk_lt (k % 4) 3 (fun _ => go) (fun _ => ⟨by omega, l_areCopies (by omega) R G hz ⟨fun c => absurd c (by decide), fun _ => go⟩⟩) rfl rfl (by omega) (by omega)
      have e370 : ∀ (z : Nat) (s6 : Int32), 1 ≤ n → (s6 = 0 ∨ s6 = 8 ∨ s6 = 9) → z < 10000000 → B370 f a o (nI T) (nI k) (nI z) s6 ce := fun z s6 h1 hs hz =>
        h370 _ _ _ _ _ _ _ _ ⟨by omega, l_isNoted (by omega) I h1 hs hz (fun f' a' o' I' => e442 f' a' o' n T _ z I' h1 (by omega) hz)⟩
      have e435 : ∀ (z : Nat) (s7 : Int32), 1 ≤ n → (s7 = 0 ∨ s7 = 1 ∨ s7 = 2 ∨ s7 = 3 ∨ s7 = 4 ∨ s7 = 5 ∨ s7 = 6 ∨ s7 = 7 ∨ s7 = 8) → z < 10000000 → B435 f a o (nI T) (nI k) (nI z) s7 ce := fun z s7 h1 hs hz =>
        h435 _ _ _ _ _ _ _ _ ⟨by omega, l_isCopied (by omega) I h1 hs hz (fun f' a' o' I' => e442 f' a' o' n T _ z I' h1 (by omega) hz)⟩
      have e251 : ∀ z v, v < 30 → 1 ≤ n → z < 10000000 → B251 f a o (nI T) (nI k) (nI z) (nI v) ce := by
        intro z v hv h1 hz
        refine h251 _ _ _ _ _ _ _ _ (pk_eq v 1 (fun _ => ⟨y_v15, nm_e ?_⟩) (fun c1 => pk_le 16 v (fun c16 => pk_le 18 v (fun c18 => ?_) (fun c18 => e435 z 0 h1 (Or.inl rfl) hz)) (fun c16 => pk_le 12 v (fun c12 => pk_le 13 v (fun c13 => e370 z 9 h1 (Or.inr (Or.inr rfl)) hz) (fun c13 => e370 z 8 h1 (Or.inr (Or.inl rfl)) hz)) (fun c12 => e370 z 0 h1 (Or.inl rfl) hz))))
        · obtain ⟨g, S, R, G, hS, hT⟩ := I
          obtain ⟨w, q, w80, w500, q1, q3, p71, g06, p72, g07⟩ := G.2.2.1
          have pap : ∀ m : Nat, 0 < m → m ≤ 421 → B285 f a o (nI T) (nI k) (nI z) (nI w) 1 80 (nI z) (nI m) ce := by
            intro m hm0 hm
            have zm := Nat.mod_lt z hm0
            have z3 := Nat.mod_lt (z / 500) (show 0 < 3 by omega)
            refine h285 _ _ _ _ _ _ _ _ _ _ _ _ ⟨nI_ne0 hm0 (by omega), y_v15, ?_⟩
            rw [show nI z - nI z / nI m * nI m = nI (z % m) from pk_rem (by omega) hm0 (by omega), show (80 : Int32) + nI (z % m) = nI (80 + z % m) from nI_add 80 _, show nI z / 500 = nI (z / 500) from pk_div (d := 500) (by omega) (by omega) (by omega), show nI (z / 500) - nI (z / 500) / 3 * 3 = nI (z / 500 % 3) from pk_rem (d := 3) (by omega) (by omega) (by omega), show (1 : Int32) + nI (z / 500 % 3) = nI (1 + z / 500 % 3) from nI_add 1 _, show (1 : Int32).toNatClampNeg = 1 from rfl, show (2 : Int32).toNatClampNeg = 2 from rfl]
            refine nm_e ⟨y_v25, nm_e ⟨y_v15, y_v25, by omega, ?_⟩⟩
            have a71 : (sx_u (sx_u a 7 1 (nI (80 + z % m))) 7 2 (nI (1 + z / 500 % 3))) 7 1 = nI (80 + z % m) := by rw [sx_u_s, pk_un (by decide), sx_u_s, pk_us]
            have a72 : (sx_u (sx_u a 7 1 (nI (80 + z % m))) 7 2 (nI (1 + z / 500 % 3))) 7 2 = nI (1 + z / 500 % 3) := by rw [sx_u_s, pk_us]
            have aq : ∀ j, j ≠ 1 → j ≠ 2 → (sx_u (sx_u a 7 1 (nI (80 + z % m))) 7 2 (nI (1 + z / 500 % 3))) 7 j = a 7 j := fun j j1 j2 => by rw [sx_u_s, pk_un j2, sx_u_s, pk_un j1]
            have ak : ∀ k, k ≠ 7 → (sx_u (sx_u a 7 1 (nI (80 + z % m))) 7 2 (nI (1 + z / 500 % 3))) k = a k := fun k hk => by rw [sx_u_n hk, sx_u_n hk]
            rw [a71, a72]
            refine w_setPaper R (by omega) (by omega) (by omega) (by omega) (fun f' R' => ⟨fun _ => h324 _ _ _ _ _ _ _ _ (e442 f' _ o n T ce z ?_ h1 (by omega) hz), fun c => absurd g06 c⟩)
            obtain ⟨Y, V, P, ⟨d12, m', hm', m1, m2, C⟩, K, Bw⟩ := G
            refine y_mkI R' ⟨Y.c2 (aq 0 (by decide) (by decide)) (ak 3 (by decide)) (ak 1 (by decide)) rfl, V.c (ak 2 (by decide)) ?_, ⟨80 + z % m, 1 + z / 500 % 3, by omega, by omega, by omega, by omega, a71, ?_, a72, ?_⟩, ⟨?_, m', hm', ?_, ?_, fun i hi => (C i hi).c (ak 4 (by decide)) ?_ ?_ ?_⟩, K.c rfl ?_ ?_, Bw.c rfl ?_ ?_⟩ rfl (fun _ => rfl) hS hT
            · simp (disch := decide) only [sx_u_n]
            · simp (disch := decide) only [sx_u_s, pk_us, pk_un]
            · simp (disch := decide) only [sx_u_s, pk_us, pk_un]
            · rw [aq 4 (by decide) (by decide)]; simp (disch := decide) only [sx_u_s, pk_un]; exact d12
            · rw [aq 3 (by decide) (by decide)]; exact m1
            · simp (disch := decide) only [sx_u_s, pk_un]; exact m2
            · simp (disch := decide) only [sx_u_n]
            · simp (disch := decide) only [sx_u_n]
            · simp (disch := decide) only [sx_u_n]
            · simp (disch := decide) only [sx_u_n]
            · simp (disch := decide) only [sx_u_n]
            · simp (disch := decide) only [sx_u_n]
            · simp (disch := decide) only [sx_u_n]
          rw [show (1 : Int32).toNatClampNeg = 1 from rfl, p71]
          exact ⟨fun _ => pap 60 (by omega) (by omega), fun _ => pap 421 (by omega) (by omega)⟩
        · have e17 : nI v - 17 = nI (v - 17) := pk_sub (a := v) (b := 17) (by omega)
          rw [e17]
          refine pk_le (v - 17) 7 (fun c7 => e435 z _ h1 ?_ hz) (fun _ => ⟨fun _ => e435 z 8 h1 (by simp) hz, fun _ => e435 z 6 h1 (by simp) hz⟩)
          rcases (show v - 17 = 1 ∨ v - 17 = 2 ∨ v - 17 = 3 ∨ v - 17 = 4 ∨ v - 17 = 5 ∨ v - 17 = 6 ∨ v - 17 = 7 by omega) with e | e | e | e | e | e | e <;> rw [e] <;> decide
      -- a bar, or another thing
      have e120 : ∀ z v, v < 30 → z < 10000000 → (k = 0 → v = 0) → B120 f a o (nI T) (nI k) (nI z) (nI v) ce := by
        intro z v hv hz hk0
        have G70 : ∃ S : z_S, S 0 0 = n ∧ n ≤ 6 ∧ a 7 0 = nI n := by
          obtain ⟨g, S, R, G, hS, hT⟩ := I
          exact ⟨S, hS, by rw [← hS]; exact G.1.1, by rw [← hS]; exact G.1.2.1⟩
        obtain ⟨-, -, n6, a70⟩ := G70
        refine h120 _ _ _ _ _ _ _ _ (pk_eq v 0 (fun cv => ⟨y_v05, ?_⟩) (fun cv => e251 z v hv (hkn.resolve_left (fun z => cv (hk0 z))) hz))
        subst cv
        rw [y_cl0, a70]
        refine pk_le 6 n (fun c6 => e251 z 0 (by omega) (by omega) hz) (fun c6 => ⟨y_v05, ?_⟩)
        have bar : ∀ m : Nat, 0 < m → m ≤ 16 → B159 f a o (nI T) (nI k) (nI z) (nI n) 1 (nI z) (nI m) ce := by
          intro m hm0 hm
          have zm := Nat.mod_lt z hm0
          obtain ⟨g, S, R, G, hS, hT⟩ := I
          subst hS
          refine h159 _ _ _ _ _ _ _ _ _ _ _ ⟨nI_ne0 hm0 (by omega), vp_in_nI (by omega) (by omega), ?_⟩
          rw [show nI z - nI z / nI m * nI m = nI (z % m) from pk_rem (by omega) hm0 (by omega), show (1 : Int32) + nI (z % m) = nI (1 + z % m) from nI_add 1 _, nI_clamp (n := S 0 0) (by omega)]
          have hj : 1 + z % m ≤ 16 := by omega
          have hj1 : 1 ≤ 1 + z % m := by omega
          generalize 1 + z % m = j at hj hj1
          refine nm_e ⟨y_v05, ?_⟩
          rw [y_cl0, show (sx_u a 3 (S 0 0) (nI j)) 7 0 = nI (S 0 0) by rw [sx_u_n (by decide)]; exact a70, nI_clamp (n := S 0 0) (by omega), show (sx_u a 3 (S 0 0) (nI j)) 3 (S 0 0) = nI j by rw [sx_u_s, pk_us], nI_add, nI_1]
          refine ⟨vp_in_nI (by omega) (by omega), nm_e ⟨y_v05, y_v05, nm_e ⟨y_v05, ?_⟩⟩⟩
          have b70 : (sx_u (sx_u a 3 (S 0 0) (nI j)) 7 0 (nI (S 0 0 + 1))) 7 0 = nI (S 0 0 + 1) := by rw [sx_u_s, pk_us]
          have b3 : (sx_u (sx_u a 3 (S 0 0) (nI j)) 7 0 (nI (S 0 0 + 1))) 3 (S 0 0) = nI j := by rw [sx_u_n (by decide), sx_u_s, pk_us]
          rw [b70, nI_pred, nI_clamp (n := S 0 0) (by omega), b3]
          refine ⟨vp_in_nI (by omega) (by omega), by omega, w_bar R hj1 (by omega) (by omega) (fun f' R' => ⟨y_v05, fun _ => ⟨y_v05, by omega, ?_⟩, fun c => absurd rfl c⟩)⟩
          have S0 : (z_u (z_u S 1 (S 0 0) j) 0 0 (S 0 0 + 1)) 0 0 = S 0 0 + 1 := z_us
          have et : z_tm (z_u (z_u S 1 (S 0 0) j) 0 0 (S 0 0 + 1)) (S 0 0 + 1) = T + j := by
            have e2 : z_tm (z_u (z_u S 1 (S 0 0) j) 0 0 (S 0 0 + 1)) (S 0 0) = z_tm S (S 0 0) := z_tm_c (S 0 0) (fun q hq => by rw [z_un1 (by decide), z_un (Or.inr (by omega))])
            show z_tm (z_u (z_u S 1 (S 0 0) j) 0 0 (S 0 0 + 1)) (S 0 0) + z_u (z_u S 1 (S 0 0) j) 0 0 (S 0 0 + 1) 1 (S 0 0) = T + j
            rw [e2, hT, z_un1 (by decide), z_us]
          have I' : y_I (k + 1) f' (sx_u (sx_u a 3 (S 0 0) (nI j)) 7 0 (nI (S 0 0 + 1))) o (S 0 0 + 1) (T + j) := by
            refine ⟨_, _, R', G.bar (by omega) hj ?_ ?_ (fun k h1 h2 => ?_) (fun k hk => ?_) (fun q h1 h2 => ?_), S0, et⟩
            · rw [sx_u_s, sx_u_n (by decide)]
            · rw [sx_u_n (by decide), sx_u_s]
            · rw [sx_u_n h1, sx_u_n h2]
            · rw [sx_u_n (by omega), sx_u_n (by omega), sx_u_n (by omega)]
            · rw [sx_u_s, pk_un h2, sx_u_n (by decide), sx_u_s, pk_un h1]
          refine v_time R' (b := S 0 0 + 1) (by rw [S0]; exact Nat.le_refl _) ?_
          rw [et]
          refine ⟨fun _ => ⟨y_v05, by omega, v_timeByBars R' (b := S 0 0 + 1) (by rw [S0]; exact Nat.le_refl _) ?_⟩, fun c => absurd rfl c⟩
          rw [et]
          refine ⟨fun _ => ⟨by omega, v_bars R' ⟨y_v05, ?_⟩⟩, fun c => absurd rfl c⟩
          rw [S0]
          exact ⟨fun _ => h246 _ _ _ _ _ _ _ _ (e442 f' _ o (S 0 0 + 1) (T + j) ce z I' (by omega) (by omega) hz), fun c => absurd rfl c⟩
        exact ⟨fun _ => bar 16 (by omega) (by omega), fun _ => bar 8 (by omega) (by omega)⟩
      refine h74 _ _ _ _ _ _ _ (pk_le 120 k (fun c => absurd c (by omega)) (fun _ => ⟨fun c => absurd c (by decide), fun _ => ⟨2 * k + 1, 10000000, ?_, rfl, by omega, by omega, by omega, by omega, fun z hz => nm_e (pk_le 3 k (fun c3 => ⟨2 * k, 30, pk_mul 2 k, rfl, by omega, by omega, by omega, by omega, fun v hv => e120 z v hv hz (fun k0 => by omega)⟩) (fun c3 => e120 z 0 (by omega) hz (fun _ => rfl)))⟩⟩))
      rw [show (2 : Int32) * nI k = nI (2 * k) from pk_mul 2 k, nI_1]
  exact ⟨y_v15, nm_e ⟨y_v25, nm_e (loop 120 0 (by omega) _ _ _ 0 0 200 y_start (Or.inl rfl) (by omega))⟩⟩
