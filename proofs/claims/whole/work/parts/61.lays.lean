/-- a book laid out, in the reference -/
theorem m_lays {g : sx_F} {S : z_S} {bk w q : Nat} {Q : sx_F → Prop} (M : z_M g S) (W : z_W S) (hbk : bk ≤ 5) (hw : w ≤ 500) (hq1 : 1 ≤ q) (hq : q ≤ 6) (p1 : g 0 6 = nI w) (p2 : g 0 7 = nI q) (h : ∀ g' : sx_F, z_gx g g' → (∀ j, j ≠ 20 → j ≠ 31 → j ≠ 32 → g' 0 j = g 0 j) → z_H g' S bk (S 0 0) → z_Y g' S bk (z_it S bk (S 0 0)) → z_Rm g' (z_it S bk (S 0 0)) (z_IW S bk) (z_IL S bk) (z_IT S bk) w q 0 → g' 0 31 = nI (z_Z (z_it S bk (S 0 0)) (z_IW S bk) (z_IL S bk) (z_IT S bk) w q 0 0).2.1 → g' 0 32 = nI (z_tn (z_Z (z_it S bk (S 0 0)) (z_IW S bk) (z_IL S bk) (z_IT S bk) w q) (z_IT S bk) q (z_Z (z_it S bk (S 0 0)) (z_IW S bk) (z_IL S bk) (z_IT S bk) w q 0 0).2.1) → (∀ l j, l < (z_Z (z_it S bk (S 0 0)) (z_IW S bk) (z_IL S bk) (z_IT S bk) w q 0 0).2.1 → z_ps (z_Z (z_it S bk (S 0 0)) (z_IW S bk) (z_IL S bk) (z_IT S bk) w q) q l ≤ j → j < z_ps (z_Z (z_it S bk (S 0 0)) (z_IW S bk) (z_IL S bk) (z_IT S bk) w q) q (l + 1) → g' 25 j = nI l) → Q g') : P_X7_lays g (nI bk) Q := by
  have hn := W.1
  have hitn : z_it S bk (S 0 0) ≤ S 0 0 := z_cnt_le _
  refine m_laysItems M W hbk (fun g1 a1 a2 a3 => ?_)
  have M1 : z_M g1 S := M.gx (z_gx_items a1 a2)
  refine m_laysSprings M1 W hbk a3 (fun g2 b1 b2 => ?_)
  have hit : ∀ j, j < z_it S bk (S 0 0) → ∃ x, x < S 0 0 ∧ z_new S bk x = true ∧ z_it S bk x = j ∧ z_xb S bk j = x := fun j hj => by
    obtain ⟨x, hx, hnx, hjx⟩ := z_cnt_ex (p := z_new S bk) (S 0 0) j hj
    have hjx : z_it S bk x = j := hjx
    have ex := z_xb_eq hx hnx
    rw [hjx] at ex
    exact ⟨x, hx, hnx, hjx, ex⟩
  refine m_breaks (W := z_IW S bk) (L := z_IL S bk) (T := z_IT S bk) (w := w) (q := q) (I := z_it S bk (S 0 0)) ⟨by rw [b1 0 (by decide)]; exact a3.1, fun j hj => ?_, by rw [b1 0 (by decide), a2 6 (by decide)]; exact p1, by rw [b1 0 (by decide), a2 7 (by decide)]; exact p2⟩ (by omega) hw hq1 hq (fun j hj => (z_IW_b W hbk hj).1) (fun j hj => (z_IW_b W hbk hj).2.2) (fun j => z_IT_le) (if_neg (Nat.lt_irrefl _)) (fun g' QQ e c1 c2 he he2 hQ => ?_) (fun g' c1 c2 c3 c4 c5 c6 => ?_)
  · obtain ⟨x, hx, hnx, hjx, ex⟩ := hit j hj
    have y := (b2.2 x hx hnx (by omega)).2
    rw [hjx] at y
    unfold z_IW z_IL
    rw [ex]
    exact y
  · obtain ⟨x, hx, hnx, hjx, ex⟩ := hit e he2
    have x0 : x ≠ 0 := fun z => by rw [z] at hjx; exact absurd hjx (by show (0 : Nat) ≠ e; omega)
    have hl := a3.2.2 (x - 1) (by omega) (Or.inr (by rw [show x - 1 + 1 = x by omega]; exact hnx))
    rw [show x - 1 + 1 = x by omega, hjx] at hl
    rw [c1 14 (by decide) (by decide) (by decide) (by decide) (by decide), b1 14 (by decide), hl]
    have M' : z_M g' S := by
      unfold z_M at M1 ⊢
      rw [c2 5 (by decide) (by decide), b1 0 (by decide), c1 1 (by decide) (by decide) (by decide) (by decide) (by decide), c1 2 (by decide) (by decide) (by decide) (by decide) (by decide), c1 3 (by decide) (by decide) (by decide) (by decide) (by decide), c1 4 (by decide) (by decide) (by decide) (by decide) (by decide), b1 1 (by decide), b1 2 (by decide), b1 3 (by decide), b1 4 (by decide)]
      exact M1
    refine m_turnCost M' W hbk (by omega) ?_
    rw [show x - 1 + 1 = x by omega]
    unfold z_IT at hQ
    rw [if_pos he2, ex] at hQ
    exact hQ
  · refine h g' ⟨fun k hk => ?_, fun j hj => ?_⟩ (fun j h1 h2 h3 => ?_) ?_ ?_ c3 c4 c5 c6
    · rw [c1 k (by omega) (by omega) (by omega) (by omega) (by omega), b1 k (by omega)]; exact a1 k (Or.inl hk)
    · rw [c2 j (by omega) (by omega), b1 0 (by decide)]; exact a2 j (by omega)
    · rw [c2 j h2 h3, b1 0 (by decide)]; exact a2 j h1
    · unfold z_H at a3 ⊢
      rw [c2 20 (by decide) (by decide), b1 0 (by decide), c1 13 (by decide) (by decide) (by decide) (by decide) (by decide), c1 14 (by decide) (by decide) (by decide) (by decide) (by decide), c1 15 (by decide) (by decide) (by decide) (by decide) (by decide), b1 13 (by decide), b1 14 (by decide), b1 15 (by decide)]
      exact a3
    · unfold z_Y z_F1 at b2 ⊢
      rw [c1 16 (by decide) (by decide) (by decide) (by decide) (by decide), c1 17 (by decide) (by decide) (by decide) (by decide) (by decide), c1 18 (by decide) (by decide) (by decide) (by decide) (by decide), c1 19 (by decide) (by decide) (by decide) (by decide) (by decide), c1 20 (by decide) (by decide) (by decide) (by decide) (by decide), c1 21 (by decide) (by decide) (by decide) (by decide) (by decide)]
      exact b2
