theorem y_Cset {a a' g g' : sx_F} {n m i : Nat} (C : ∀ j, j < m → y_C1 a g n j) (h4 : ∀ q, q < 8 * i ∨ 8 * i + 8 ≤ q → a' 4 q = a 4 q) (h6 : g' 6 = g 6) (h7 : ∀ j, j ≠ i → g' 7 j = g 7 j) (h8 : ∀ q, q < 12 * i ∨ 12 * i + 12 ≤ q → g' 8 q = g 8 q) (hi : y_C1 a' g' n i) : ∀ j, j < m → y_C1 a' g' n j := by
  intro j hj
  by_cases e : j = i
  · rw [e]; exact hi
  · obtain ⟨x, hx, c1, c2, c3, c4⟩ := C j hj
    refine ⟨x, hx, by rw [h4 _ (by omega)]; exact c1, by rw [h6]; exact c2, by rw [h4 _ (by omega), h7 j e]; exact c3, ?_⟩
    rw [h7 j e]
    refine c4.imp id (fun y => ⟨y.1, fun b hb => ?_⟩)
    rw [h4 _ (by omega), h8 _ (by omega)]
    exact y.2 b hb
theorem y_cnt_up {p q : Nat → Bool} {i : Nat} (hp : p i = false) (hq : q i = true) (h : ∀ j, j ≠ i → q j = p j) : ∀ m, i < m → z_cnt q m = 1 + z_cnt p m
  | 0, hi => absurd hi (by omega)
  | m + 1, hi => by
    show z_cnt q m + (if q m then 1 else 0) = 1 + (z_cnt p m + (if p m then 1 else 0))
    by_cases e : m = i
    · subst e
      rw [hp, hq, z_cnt_c m (fun j hj => h j (by omega))]
      simp
      omega
    · rw [y_cnt_up hp hq h m (by omega), h m e]
      omega
theorem y_bt4 {x : Int64} {k s v : Nat} (h : y_bt x k 10 = s + 16 * v) (hs : s < 16) : y_bt x k 4 = s := by
  unfold y_bt at h ⊢
  have e : x.toBitVec.toNat / 2 ^ k % 2 ^ 4 = x.toBitVec.toNat / 2 ^ k % 2 ^ 10 % 2 ^ 4 := (Nat.mod_mod_of_dvd _ (by decide)).symm
  rw [e, h]
  omega
theorem y_Kset {o o' : sl_O} {g g' : sx_F} {n d i b s v : Nat} (K : y_K o g n) (hd : d < 6) (hi : i < 5) (hb : b < n) (hn : n ≤ 6) (hs : s ≤ 9) (hv : v ≤ 60) (h5 : o' 5 = vp_updL (o 5) (5 * d + i) (y_put (o 5 (5 * d + i)) 1023 (nI (10 * b)) (nI (s + 16 * v)))) (h9 : g' 9 = upd (g 9) (60 * d + (12 * i + b)) (nI s)) (h10 : g' 10 = upd (g 10) (60 * d + (12 * i + b)) (nI v)) : y_K o' g' n := by
  intro d' i' hd' hi'
  obtain ⟨k1, k2⟩ := K d' i' hd' hi'
  rw [h5, h9, h10]
  refine ⟨fun b' hb' => ?_, fun b' h1 h2 => ?_⟩
  · obtain ⟨s', v', e1, e2, e3, e4, e5⟩ := k1 b' hb'
    by_cases e : d' = d ∧ i' = i
    · obtain ⟨rfl, rfl⟩ := e
      rw [pk_uLs]
      by_cases eb : b' = b
      · subst eb
        refine ⟨s, v, hs, hv, ?_, pk_us, pk_us⟩
        rw [y_put_in (m := 10) (by omega) (by decide) (by omega) (by omega) (by omega) (by omega), Nat.sub_self]
        show (s + 16 * v) / 1 % 1024 = s + 16 * v
        omega
      · refine ⟨s', v', e1, e2, ?_, by rw [pk_un (by omega)]; exact e4, by rw [pk_un (by omega)]; exact e5⟩
        rw [y_put_out (m := 10) (show s + 16 * v < 1024 by omega) (by omega) (by decide) (by omega) (by omega) (by omega)]
        exact e3
    · refine ⟨s', v', e1, e2, ?_, by rw [pk_un (by omega)]; exact e4, by rw [pk_un (by omega)]; exact e5⟩
      rw [pk_uLn (by omega)]
      exact e3
  · rw [pk_un (by omega)]
    exact k2 b' h1 h2
theorem y_Bset {o o' : sl_O} {g g' : sx_F} {d i b k s v : Nat} (B : y_Bw o g) (hd : d < 4) (hi : i < 2) (hb : b < 6) (hk : k < 8) (hs : s ≤ 2) (hv : v ≤ 60) (h6 : o' 6 = vp_updL (o 6) (12 * d + (6 * i + b)) (y_put (o 6 (12 * d + (6 * i + b))) 255 (nI (8 * k)) (nI (s + 4 * v)))) (h11 : g' 11 = upd (g 11) (8 * (60 * d + (12 * i + b)) + k) (nI s)) (h12 : g' 12 = upd (g 12) (8 * (60 * d + (12 * i + b)) + k) (nI v)) : y_Bw o' g' := by
  refine ⟨fun d' i' b' k' hd' hi' hb' hk' => ?_, fun d' s' k' h1 h2 h3 h4 => ?_⟩
  · obtain ⟨s', v', e1, e2, e3, e4, e5⟩ := B.1 d' i' b' k' hd' hi' hb' hk'
    rw [h6, h11, h12]
    by_cases e : d' = d ∧ i' = i ∧ b' = b
    · obtain ⟨rfl, rfl, rfl⟩ := e
      rw [pk_uLs]
      by_cases ek : k' = k
      · subst ek
        refine ⟨s, v, hs, hv, ?_, pk_us, pk_us⟩
        rw [y_put_in (m := 8) (by omega) (by decide) (by omega) (by omega) (by omega) (by omega), Nat.sub_self]
        show (s + 4 * v) / 1 % 256 = s + 4 * v
        omega
      · refine ⟨s', v', e1, e2, ?_, by rw [pk_un (by omega)]; exact e4, by rw [pk_un (by omega)]; exact e5⟩
        rw [y_put_out (m := 8) (show s + 4 * v < 256 by omega) (by omega) (by decide) (by omega) (by omega) (by omega)]
        exact e3
    · refine ⟨s', v', e1, e2, ?_, by rw [pk_un (by omega)]; exact e4, by rw [pk_un (by omega)]; exact e5⟩
      rw [pk_uLn (by omega)]
      exact e3
  · rw [h11, pk_un (by omega)]
    exact B.2 d' s' k' h1 h2 h3 h4
