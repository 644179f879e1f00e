theorem y_bt0 {k m : Nat} : y_bt 0 k m = 0 := by
  show 0 / 2 ^ k % 2 ^ m = 0
  rw [Nat.zero_div, Nat.zero_mod]
theorem y_start : y_I 0 fX0 (sx_u (sx_u sl_a0 7 1 200) 7 2 3) sl_o0 0 0 := by
  obtain ⟨S, R⟩ := z_start
  have W := R.2.2.1
  have h00 : S 0 0 = 0 := by
    have e := R.2.1.1
    have hn := W.1
    have e2 : fM0 0 5 = nI 0 := rfl
    exact ((nI_eq (by omega) (by omega)).mp (e2.symm.trans e)).symm
  have h2 : ∀ s, s < 60 → S 2 s = 0 := fun s hs => by
    have e := R.1.2.2.1 s hs
    have hc := W.2.2.1 s hs
    have e2 : fX0 5 s = nI 0 := by rw [fX0_z (by decide) (by decide)]; rfl
    exact ((nI_eq (by omega) (by omega)).mp (e2.symm.trans e)).symm
  have a0 : ∀ k, k ≠ 7 → ∀ j, (sx_u (sx_u sl_a0 7 1 200) 7 2 3) k j = 0 := fun k hk j => by rw [sx_u_n hk, sx_u_n hk]; rfl
  have m0 : ∀ k, k ≠ 0 → ∀ j, fM0 k j = 0 := fun k hk j => by rw [fM0_z hk]
  refine ⟨fM0, S, R, ⟨⟨by omega, ?_, fun b hb => by omega, fun i b hi hb => ⟨?_, fun k hk => ?_⟩⟩, fun i b hi hb => ⟨0, by omega, a0 2 (by decide) _, m0 5 (by decide) _⟩, ⟨200, 3, by omega, by omega, by omega, by omega, ?_, rfl, ?_, rfl⟩, ⟨?_, 0, by omega, ?_, rfl, fun i hi => absurd hi (by omega)⟩, fun d i hd hi => ⟨fun b hb => ⟨0, 0, by omega, by omega, y_bt0, m0 9 (by decide) _, m0 10 (by decide) _⟩, fun b _ _ => m0 9 (by decide) _⟩, fun d i b k hd hi hb hk => ⟨0, 0, by omega, by omega, y_bt0, m0 11 (by decide) _, m0 12 (by decide) _⟩, fun d s k h1 h2 h3 h4 => m0 11 (by decide) _⟩, h00, rfl⟩
  · rw [sx_u_s, pk_un (by decide), sx_u_s, pk_un (by decide), h00]; rfl
  · rw [a0 1 (by decide), h2 _ (by omega)]; rfl
  · rw [h2 _ (by omega)] at hk; exact absurd hk (by omega)
  · rw [sx_u_s, pk_un (by decide), sx_u_s, pk_us]; rfl
  · rw [sx_u_s, pk_us]; rfl
  · rw [sx_u_s, pk_un (by decide), sx_u_s, pk_un (by decide)]; rfl
  · rw [sx_u_s, pk_un (by decide), sx_u_s, pk_un (by decide)]; rfl
/-- a bar more, in the law's numbers -/
theorem y_G.bar {a a' g g' : sx_F} {o : sl_O} {S : z_S} {j : Nat} (G : y_G a o g S) (hn : S 0 0 < 6) (hj : j ≤ 16) (a7 : a' 7 = upd (a 7) 0 (nI (S 0 0 + 1))) (a3 : a' 3 = upd (a 3) (S 0 0) (nI j)) (ha : ∀ k, k ≠ 7 → k ≠ 3 → a' k = a k) (hg : ∀ k, (5 ≤ k) → g' k = g k) (hg0 : ∀ q, q ≠ 33 → q ≠ 5 → g' 0 q = g 0 q) : y_G a' o g' (z_u (z_u S 1 (S 0 0) j) 0 0 (S 0 0 + 1)) := by
  obtain ⟨⟨Y0, Y1, Y2, Y3⟩, V, P, ⟨c12, m, hm, m1, m2, C⟩, K, Bw⟩ := G
  have aq : ∀ q, q ≠ 0 → a' 7 q = a 7 q := fun q hq => by rw [a7, pk_un hq]
  refine ⟨⟨?_, ?_, fun b hb => ?_, fun i b hi hb => ?_⟩, V.c (ha 2 (by decide) (by decide)) (hg 5 (by omega)), P.c (aq 1 (by decide)) (aq 2 (by decide)) (hg0 6 (by decide) (by decide)) (hg0 7 (by decide) (by decide)), ⟨?_, m, hm, ?_, ?_, fun i hi => ?_⟩, ?_, Bw.c rfl (hg 11 (by omega)) (hg 12 (by omega))⟩
  · rw [z_us]; omega
  · rw [z_us, a7, pk_us]
  · rw [z_us] at hb
    rw [z_un1 (by decide), a3]
    by_cases e : b = S 0 0
    · rw [e, pk_us, z_us]; exact ⟨rfl, hj⟩
    · rw [pk_un e, z_un (Or.inr e)]
      exact Y2 b (by omega)
  · simp (disch := decide) only [z_un1]
    rw [ha 1 (by decide) (by decide)]
    exact Y3 i b hi hb
  · rw [aq 4 (by decide), hg0 12 (by decide) (by decide)]; exact c12
  · rw [aq 3 (by decide)]; exact m1
  · rw [hg0 11 (by decide) (by decide)]; exact m2
  · obtain ⟨x, hx, d1, d2, d3, d4⟩ := (C i hi).c (a' := a') (g' := g') (ha 4 (by decide) (by decide)) (hg 6 (by omega)) (hg 7 (by omega)) (hg 8 (by omega))
    rw [z_us]
    exact ⟨x, hx, d1, d2, d3, d4.imp id (fun y => ⟨y.1, fun b hb => ⟨(y.2 b hb).1, (y.2 b hb).2.1, fun hb2 => (y.2 b hb).2.2 (by omega)⟩⟩)⟩
  · rw [z_us]
    intro d i hd hi
    obtain ⟨k1, k2⟩ := K d i hd hi
    rw [hg 9 (by omega), hg 10 (by omega)]
    exact ⟨k1, fun b hb => k2 b (by omega)⟩
