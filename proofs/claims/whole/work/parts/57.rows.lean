theorem z_IT_le {S : z_S} {bk j : Nat} : z_IT S bk j ≤ 1600 := by
  unfold z_IT
  have := z_tc_le (S := S) (bk := bk) (b := z_xb S bk j)
  split <;> omega
theorem x_breakLines {f : sx_F} {S : z_S} {bk w q : Nat} {Q : sx_F → Prop} (Z : z_X f S) (W : z_W S) (hbk : bk ≤ 5) (h8 : f 8 2 = nI bk) (G : z_G f S bk (S 0 0)) (hw : w ≤ 500) (hq1 : 1 ≤ q) (hq : q ≤ 6) (p1 : f 19 1 = nI w) (p2 : f 19 2 = nI q) (h : ∀ f' : sx_F, (∀ k, (k ≤ 19 ∨ 63 ≤ k) → f' k = f k) → z_Bk f' (z_it S bk (S 0 0)) (z_IW S bk) (z_IL S bk) (z_IT S bk) w q → z_Rw f' (z_it S bk (S 0 0)) (z_IW S bk) (z_IL S bk) (z_IT S bk) w q 0 → P_X3_setLines f' Q) : P_X3_breakLines f Q := by
  have hn := W.1
  have hitn : z_it S bk (S 0 0) ≤ S 0 0 := z_cnt_le _
  have hI : z_it S bk (S 0 0) ≤ 12 := by omega
  have hW : ∀ j, j < z_it S bk (S 0 0) → z_IW S bk j ≤ 768 := fun j hj => (z_IW_b W hbk hj).1
  have hL : ∀ j, j < z_it S bk (S 0 0) → z_IL S bk j ≤ 288 := fun j hj => (z_IW_b W hbk hj).2.2
  intro B6 B60 B66 b6 b60 b66
  refine x_priceTurns Z W hbk h8 G (fun f1 a1 a2 a3 => ?_)
  have hB1 : z_Bk f1 (z_it S bk (S 0 0)) (z_IW S bk) (z_IL S bk) (z_IT S bk) w q := by
    refine ⟨by rw [a1 8 (by decide)]; exact G.1, fun j hj => by rw [a1 17 (by decide), a1 18 (by decide)]; exact G.sums hj, fun j hj => ?_, by rw [a1 19 (by decide)]; exact p1, by rw [a1 19 (by decide)]; exact p2⟩
    unfold z_IT
    by_cases e : j < z_it S bk (S 0 0)
    · rw [if_pos e]
      obtain ⟨x, hx, hnx, hjx⟩ := z_cnt_ex (p := z_new S bk) (S 0 0) j e
      have hjx : z_it S bk x = j := hjx
      have ex := z_xb_eq hx hnx
      rw [hjx] at ex
      rw [ex, ← hjx]
      exact a2 x hx hnx
    · rw [if_neg e, show j = z_it S bk (S 0 0) by omega]
      exact a3
  have ha1 : ∀ k, (k ≤ 19 ∨ 63 ≤ k) → f1 k = f k := fun k hk => a1 k (by omega)
  generalize hIg : z_it S bk (S 0 0) = I at hI hW hL hB1 h
  generalize z_IW S bk = Wd at hW hB1 h
  generalize z_IL S bk = Ld at hL hB1 h
  have hT : ∀ j, z_IT S bk j ≤ 1600 := fun j => z_IT_le
  generalize z_IT S bk = T at hT hB1 h
  -- the rows from the end on
  have rows : ∀ a f2, a ≤ I → (∀ k, (k ≤ 19 ∨ 63 ≤ k) → f2 k = f k) → z_Bk f2 I Wd Ld T w q → z_Rw f2 I Wd Ld T w q a → ∀ v, ((a = 0 ∧ v < 0) ∨ (0 < a ∧ v = nI (a - 1))) → B60 f2 v := by
    intro a
    induction a with
    | zero =>
      intro f2 _ c1 c2 c3 v hv
      rcases hv with ⟨-, hv⟩ | ⟨hv, -⟩
      · exact b60 _ _ ⟨fun _ => h f2 c1 c2 c3, fun y => absurd hv y⟩
      · omega
    | succ a ih =>
      intro f2 ha c1 c2 c3 v hv
      rcases hv with ⟨hv, -⟩ | ⟨-, hv⟩
      · omega
      rw [hv, show a + 1 - 1 = a by omega]
      refine b60 _ _ ⟨fun y => absurd y (nI_pos (by omega)), fun _ => ?_⟩
      have loop : ∀ f3 : sx_F, (∀ k, (k ≤ 19 ∨ 63 ≤ k) → f3 k = f k) → z_Bk f3 I Wd Ld T w q → z_Rw f3 I Wd Ld T w q (a + 1) → (∀ l, l < 0 → f3 (22 + a) l = nI (z_Z I Wd Ld T w q a l).1 ∧ f3 (36 + a) l = nI (z_Z I Wd Ld T w q a l).2.1 ∧ f3 (50 + a) l = nI (a + (z_Z I Wd Ld T w q a l).2.2)) → B66 f3 (nI a) (nI 0) := by
        refine z_up (B := fun l0 => ∀ f3 : sx_F, (∀ k, (k ≤ 19 ∨ 63 ≤ k) → f3 k = f k) → z_Bk f3 I Wd Ld T w q → z_Rw f3 I Wd Ld T w q (a + 1) → (∀ l, l < l0 → f3 (22 + a) l = nI (z_Z I Wd Ld T w q a l).1 ∧ f3 (36 + a) l = nI (z_Z I Wd Ld T w q a l).2.1 ∧ f3 (50 + a) l = nI (a + (z_Z I Wd Ld T w q a l).2.2)) → B66 f3 (nI a) (nI l0)) q (fun l0 hl0 ihl => ?_)
        intro f3 d1 d2 d3 d4
        refine b66 _ _ _ ?_
        rw [d2.2.2.2.2]
        refine pk_le q l0 (fun y => nm_e ?_) (fun y => x_chooseLine d2 hI hw hq hW hL hT (by omega) y d3 (fun f4 u1 u2 u3 u4 u5 => nm_e ?_))
        · refine ih f3 (by omega) d1 d2 (fun e l he he2 hl => ?_) _ ?_
          · by_cases ee : e = a
            · rw [ee]
              obtain ⟨v1, v2, v3⟩ := d4 l (by omega)
              exact ⟨v1, v2, fun _ => v3⟩
            · exact d3 e l (by omega) he2 hl
          · by_cases e0 : a = 0
            · exact Or.inl ⟨e0, by rw [e0]; decide⟩
            · refine Or.inr ⟨by omega, ?_⟩
              rw [show a = (a - 1) + 1 by omega, pk_m1]; rfl
        · rw [nI_1]
          refine ihl y f4 (fun k hk => by rw [u1 k (by omega) (by omega) (by omega)]; exact d1 k hk) (d2.cg (u1 8 (by omega) (by omega) (by omega)) (u1 17 (by omega) (by omega) (by omega)) (u1 18 (by omega) (by omega) (by omega)) (u1 19 (by omega) (by omega) (by omega)) (u1 20 (by omega) (by omega) (by omega))) (fun e l he he2 hl => ?_) (fun l hl => ?_)
          · rw [u1 _ (by omega) (by omega) (by omega), u1 _ (by omega) (by omega) (by omega), u1 _ (by omega) (by omega) (by omega)]
            exact d3 e l he he2 hl
          · by_cases el : l = l0
            · rw [el]; exact ⟨u3, u4, u5⟩
            · obtain ⟨w1, w2, w3⟩ := u2 l el
              rw [w1, w2, w3]
              exact d4 l (by omega)
      exact loop f2 c1 c2 c3 (fun l hl => absurd hl (by omega))
  -- behind the last item
  have start : ∀ f2 : sx_F, (∀ k, (k ≤ 19 ∨ 63 ≤ k) → f2 k = f k) → z_Bk f2 I Wd Ld T w q → (∀ l, l < 0 → f2 (22 + I) l = 0 ∧ f2 (36 + I) l = 0) → B6 f2 (nI 0) := by
    refine z_up (B := fun l0 => ∀ f2 : sx_F, (∀ k, (k ≤ 19 ∨ 63 ≤ k) → f2 k = f k) → z_Bk f2 I Wd Ld T w q → (∀ l, l < l0 → f2 (22 + I) l = 0 ∧ f2 (36 + I) l = 0) → B6 f2 (nI l0)) q (fun l0 hl0 ihl => ?_)
    intro f2 c1 c2 c3
    refine b6 _ _ ?_
    rw [c2.2.2.2.2, c2.1]
    refine pk_le q l0 (fun y => nm_e ?_) (fun y => ⟨vp_in_nI (by omega) (by omega), nm_e ⟨vp_in_nI (by omega) (by omega), nm_e ?_⟩⟩)
    · refine rows I f2 (Nat.le_refl _) c1 c2 (fun e l he he2 hl => ?_) _ ?_
      · have ee : e = I := by omega
        rw [ee, z_Z_end]
        obtain ⟨v1, v2⟩ := c3 l (by omega)
        exact ⟨v1, v2, fun z => by omega⟩
      · by_cases e0 : I = 0
        · exact Or.inl ⟨e0, by rw [e0]; decide⟩
        · exact Or.inr ⟨by omega, pk_sub (a := I) (b := 1) (by omega)⟩
    · rw [nI_clamp (n := I) (by omega), nI_clamp (n := l0) (by omega), sx_u_n (by omega), c2.1]
      refine ⟨vp_in_nI (by omega) (by omega), nm_e ⟨vp_in_nI (by omega) (by omega), nm_e (nm_e ?_)⟩⟩
      rw [nI_clamp (n := I) (by omega), nI_1]
      refine ihl y _ (fun k hk => by rw [sx_u_n (by omega), sx_u_n (by omega)]; exact c1 k hk) (c2.cg (by rw [sx_u_n (by omega), sx_u_n (by omega)]) (by rw [sx_u_n (by omega), sx_u_n (by omega)]) (by rw [sx_u_n (by omega), sx_u_n (by omega)]) (by rw [sx_u_n (by omega), sx_u_n (by omega)]) (by rw [sx_u_n (by omega), sx_u_n (by omega)])) (fun l hl => ?_)
      rw [sx_u_n (by omega), sx_u_s, sx_u_s, sx_u_n (by omega)]
      by_cases el : l = l0
      · rw [el, pk_us, pk_us]; exact ⟨rfl, rfl⟩
      · rw [pk_un el, pk_un el]; exact c3 l (by omega)
  exact start f1 ha1 hB1 (fun l hl => absurd hl (by omega))
