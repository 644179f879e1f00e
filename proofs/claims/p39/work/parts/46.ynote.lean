/-! NOTES: the law writes, the class is called -/
def y_I (t : Nat) (f a : sx_F) (o : sl_O) (n T : Nat) : Prop := ∃ g S, z_R t f g S ∧ y_G a o g S ∧ S 0 0 = n ∧ z_tm S n = T
theorem y_mkI {t : Nat} {f' a' g' : sx_F} {o' : sl_O} {S S' : z_S} {n T : Nat} (R' : z_R t f' g' S') (G' : y_G a' o' g' S') (h0 : S' 0 0 = S 0 0) (h1 : ∀ k, S' 1 k = S 1 k) (hn : S 0 0 = n) (hT : z_tm S n = T) : y_I t f' a' o' n T :=
  ⟨g', S', R', G', h0.trans hn, (z_tm_c n (fun q _ => h1 q)).trans hT⟩
theorem y_Vr.up {a a' g g' : sx_F} {i b v : Nat} (V : y_Vr a g) (hi : i < 5) (hb : b < 6) (hv : v ≤ 60) (h2 : a' 2 = upd (a 2) (6 * i + b) (nI v)) (h5 : g' 5 = upd (g 5) (12 * i + b) (nI v)) : y_Vr a' g' := by
  intro i' b' hi' hb'
  rw [h2, h5]
  by_cases e : i' = i ∧ b' = b
  · obtain ⟨rfl, rfl⟩ := e
    exact ⟨v, hv, pk_us, pk_us⟩
  · rw [pk_un (by omega), pk_un (by omega)]
    exact V i' b' hi' hb'
theorem y_N.note {a a' : sx_F} {o o' : sl_O} {S : z_S} {i b l p : Nat} (Y : y_N a o S) (W : z_W S) (hi : i < 5) (hb : b < 6) (hc : S 2 (12 * i + b) < 8) (hl : l < 32) (hp : p < 8) (h7 : a' 7 = a 7) (h3 : a' 3 = a 3) (h1 : a' 1 = upd (a 1) (6 * i + b) (nI (S 2 (12 * i + b) + 1))) (h0 : o' 0 = vp_updL (o 0) (6 * i + b) (y_put (o 0 (6 * i + b)) 255 (nI (8 * S 2 (12 * i + b))) (nI (l + 32 * p)))) : y_N a' o' (z_u (z_u (z_u S 3 (8 * (12 * i + b) + S 2 (12 * i + b)) l) 4 (8 * (12 * i + b) + S 2 (12 * i + b)) p) 2 (12 * i + b) (S 2 (12 * i + b) + 1)) := by
  obtain ⟨Y0, Y1, Y2, Y3⟩ := Y
  refine ⟨?_, ?_, fun q hq => ?_, fun i' b' hi' hb' => ?_⟩
  · simp (disch := decide) only [z_un1]; exact Y0
  · simp (disch := decide) only [z_un1]; rw [h7]; exact Y1
  · simp (disch := decide) only [z_un1] at hq ⊢; rw [h3]; exact Y2 q hq
  · have hc' := W.2.2.1 (12 * i' + b') (by omega)
    obtain ⟨y1, y2⟩ := Y3 i' b' hi' hb'
    rw [h1, h0]
    by_cases e : i' = i ∧ b' = b
    · obtain ⟨rfl, rfl⟩ := e
      rw [z_us, pk_us]
      refine ⟨rfl, fun k hk => ?_⟩
      rw [pk_uLs]
      simp (disch := decide) only [z_un1]
      by_cases ek : k = S 2 (12 * i' + b')
      · subst ek
        rw [z_us, z_us]
        refine ⟨?_, ?_⟩
        · rw [y_put_in (m := 8) (by omega) (by decide) (by omega) (by omega) (by omega) (by omega), Nat.sub_self]
          show (l + 32 * p) / 1 % 32 = l
          omega
        · rw [y_put_in (m := 8) (by omega) (by decide) (by omega) (by omega) (by omega) (by omega), show 8 * S 2 (12 * i' + b') + 5 - 8 * S 2 (12 * i' + b') = 5 by omega]
          show (l + 32 * p) / 32 % 8 = p
          omega
      · rw [z_un (Or.inr (by omega)), z_un (Or.inr (by omega))]
        obtain ⟨z1, z2⟩ := y2 k (by omega)
        refine ⟨?_, ?_⟩
        · rw [y_put_out (m := 8) (show l + 32 * p < 256 by omega) (by omega) (by decide) (by omega) (by omega) (by omega)]; exact z1
        · rw [y_put_out (m := 8) (show l + 32 * p < 256 by omega) (by omega) (by decide) (by omega) (by omega) (by omega)]; exact z2
    · rw [z_un (Or.inr (show 12 * i' + b' ≠ 12 * i + b by omega)), pk_un (by omega)]
      simp (disch := decide) only [z_un1]
      refine ⟨y1, fun k hk => ?_⟩
      rw [pk_uLn (by omega), z_un (Or.inr (by omega)), z_un (Or.inr (by omega))]
      exact y2 k hk
theorem y_N.mend {a a' : sx_F} {o o' : sl_O} {S : z_S} {i b k p : Nat} (Y : y_N a o S) (W : z_W S) (hi : i < 5) (hb : b < 6) (hk : k < S 2 (12 * i + b)) (hp : p < 8) (h7 : a' 7 = a 7) (h3 : a' 3 = a 3) (h1 : a' 1 = a 1) (h0 : o' 0 = vp_updL (o 0) (6 * i + b) (y_put (o 0 (6 * i + b)) 7 (nI (8 * k + 5)) (nI p))) : y_N a' o' (z_u S 4 (8 * (12 * i + b) + k) p) := by
  obtain ⟨Y0, Y1, Y2, Y3⟩ := Y
  have hc := W.2.2.1 (12 * i + b) (by omega)
  refine ⟨?_, ?_, fun q hq => ?_, fun i' b' hi' hb' => ?_⟩
  · simp (disch := decide) only [z_un1]; exact Y0
  · simp (disch := decide) only [z_un1]; rw [h7]; exact Y1
  · simp (disch := decide) only [z_un1] at hq ⊢; rw [h3]; exact Y2 q hq
  · have hc' := W.2.2.1 (12 * i' + b') (by omega)
    obtain ⟨y1, y2⟩ := Y3 i' b' hi' hb'
    rw [h1, h0]
    simp (disch := decide) only [z_un1]
    refine ⟨y1, fun j hj => ?_⟩
    obtain ⟨z1, z2⟩ := y2 j hj
    by_cases e : i' = i ∧ b' = b
    · obtain ⟨rfl, rfl⟩ := e
      rw [pk_uLs]
      refine ⟨?_, ?_⟩
      · rw [y_put_out (m := 3) (show p < 8 by omega) (by omega) (by decide) (by omega) (by omega) (by omega)]; exact z1
      · by_cases ek : j = k
        · subst ek
          rw [z_us, y_put_in (m := 3) (by omega) (by decide) (by omega) (by omega) (by omega) (by omega), Nat.sub_self]
          show p / 1 % 8 = p
          omega
        · rw [z_un (Or.inr (by omega)), y_put_out (m := 3) (show p < 8 by omega) (by omega) (by decide) (by omega) (by omega) (by omega)]; exact z2
    · rw [pk_uLn (by omega), z_un (Or.inr (by omega))]
      exact ⟨z1, z2⟩
theorem y_N.empty {a a' : sx_F} {o o' : sl_O} {S : z_S} {i b : Nat} (Y : y_N a o S) (hi : i < 5) (hb : b < 6) (h7 : a' 7 = a 7) (h3 : a' 3 = a 3) (h1 : a' 1 = upd (a 1) (6 * i + b) 0) (h0 : o' 0 = o 0) : y_N a' o' (z_u S 2 (12 * i + b) 0) := by
  obtain ⟨Y0, Y1, Y2, Y3⟩ := Y
  refine ⟨?_, ?_, fun q hq => ?_, fun i' b' hi' hb' => ?_⟩
  · simp (disch := decide) only [z_un1]; exact Y0
  · simp (disch := decide) only [z_un1]; rw [h7]; exact Y1
  · simp (disch := decide) only [z_un1] at hq ⊢; rw [h3]; exact Y2 q hq
  · obtain ⟨y1, y2⟩ := Y3 i' b' hi' hb'
    rw [h1, h0]
    by_cases e : i' = i ∧ b' = b
    · obtain ⟨rfl, rfl⟩ := e
      rw [z_us, pk_us]
      exact ⟨rfl, fun k hk => absurd hk (by omega)⟩
    · rw [z_un (Or.inr (show 12 * i' + b' ≠ 12 * i + b by omega)), pk_un (by omega)]
      simp (disch := decide) only [z_un1]
      exact ⟨y1, y2⟩
