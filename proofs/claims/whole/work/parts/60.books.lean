/-- a book broken, in the class -/
theorem x_breakBook {t : Nat} {f g : sx_F} {S : z_S} {bk : Nat} {Q : sx_F → Prop} {X : String → sx_F → Prop} (R : z_R t f g S) (hbk : bk ≤ 5) (h : ∀ (f' : sx_F) (w q : Nat), 80 ≤ w → w ≤ 500 → 1 ≤ q → q ≤ 6 → g 0 6 = nI w → g 0 7 = nI q → z_fx f f' → z_X f' S → f' 11 0 = 0 → f' 12 0 = 0 → z_G f' S bk (S 0 0) → z_Bk f' (z_it S bk (S 0 0)) (z_IW S bk) (z_IL S bk) (z_IT S bk) w q → z_Rw f' (z_it S bk (S 0 0)) (z_IW S bk) (z_IL S bk) (z_IT S bk) w q 0 → f' 19 7 = nI (z_Z (z_it S bk (S 0 0)) (z_IW S bk) (z_IL S bk) (z_IT S bk) w q 0 0).2.1 → f' 19 8 = nI (z_tn (z_Z (z_it S bk (S 0 0)) (z_IW S bk) (z_IL S bk) (z_IT S bk) w q) (z_IT S bk) q (z_Z (z_it S bk (S 0 0)) (z_IW S bk) (z_IL S bk) (z_IT S bk) w q 0 0).2.1) → z_Ln f' (z_Z (z_it S bk (S 0 0)) (z_IW S bk) (z_IL S bk) (z_IT S bk) w q) q (z_Z (z_it S bk (S 0 0)) (z_IW S bk) (z_IL S bk) (z_IT S bk) w q 0 0).2.1 → f' 63 (z_Z (z_it S bk (S 0 0)) (z_IW S bk) (z_IL S bk) (z_IT S bk) w q 0 0).2.1 = nI (z_it S bk (S 0 0)) → Q f') : P_X6_breakBook f (nI bk) Q X := by
  obtain ⟨w, q, p1, p2, p3, p4, p5, p6, p7, p8, p11, p12, p17, p18⟩ := R.2.2.2.2.2.1
  have W := R.2.2.1
  have hn := W.1
  have hitn : z_it S bk (S 0 0) ≤ S 0 0 := z_cnt_le _
  refine x_needIndex_t (n := 6) (by omega) (by omega) (x_gather R.1 W hbk p11 p12 p17 p18 (fun f1 a1 a2 a3 a4 a5 => ?_))
  have Z1 : z_X f1 S := z_Xc R.1 (a1 1 (by decide)) (a1 2 (by decide)) (a1 5 (by decide)) (a1 6 (by decide)) (a1 7 (by decide))
  refine x_breakLines Z1 W hbk a4 a5 p2 p3 p4 (by rw [a1 19 (by decide)]; exact p5) (by rw [a1 19 (by decide)]; exact p7) (fun f2 b1 b2 b3 => ?_)
  refine x_setLines b2 b3 p2 (by omega) p3 p4 (fun j hj => (z_IW_b W hbk hj).1) (fun j => z_IT_le) (fun f3 c1 c2 c3 c4 c5 c6 => ?_)
  have a0 := a5.2.2.2.1 0 (by omega)
  have fx : z_fx f f3 := by
    refine ⟨fun k hk => by rw [c1 k (by omega) (by omega) (by omega), b1 k (by omega)]; exact a1 k (by omega), fun k j hk => ?_⟩
    rcases hk with ⟨rfl, hk⟩ | ⟨rfl, rfl | rfl | rfl | rfl⟩
    · rw [c2 j (by omega) (by omega), b1 19 (by omega), a1 19 (by omega)]
    · rw [c1 11 (by decide) (by decide) (by decide), b1 11 (by omega), a2, p11]
    · rw [c1 12 (by decide) (by decide) (by decide), b1 12 (by omega), a3, p12]
    · rw [c1 17 (by decide) (by decide) (by decide), b1 17 (by omega), p17]; exact a0.1
    · rw [c1 18 (by decide) (by decide) (by decide), b1 18 (by omega), p18]; exact a0.2
  have lo : ∀ k, k ≤ 18 → f3 k = f1 k := fun k hk => by rw [c1 k (by omega) (by omega) (by omega), b1 k (by omega)]
  refine h f3 w q p1 p2 p3 p4 p6 p8 fx (R.1.fx fx) (by rw [lo 11 (by omega)]; exact a2) (by rw [lo 12 (by omega)]; exact a3) ?_ ?_ ?_ c3 c4 c5 c6
  · unfold z_G at a5 ⊢
    rw [lo 8 (by omega), lo 14 (by omega), lo 15 (by omega), lo 16 (by omega), lo 17 (by omega), lo 18 (by omega)]
    exact a5
  · unfold z_Bk at b2 ⊢
    rw [c1 8 (by decide) (by decide) (by decide), c1 17 (by decide) (by decide) (by decide), c1 18 (by decide) (by decide) (by decide), c1 20 (by decide) (by decide) (by decide), c2 1 (by decide) (by decide), c2 2 (by decide) (by decide)]
    exact b2
  · intro e l he he2 hl
    rw [c1 _ (by omega) (by omega) (by omega), c1 _ (by omega) (by omega) (by omega), c1 _ (by omega) (by omega) (by omega)]
    exact b3 e l he he2 hl
