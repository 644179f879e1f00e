theorem z_F1.cg {g g' : sx_F} {S : z_S} {dr b s0 : Nat} (h : z_F1 g S dr b s0) (c : ∀ k i, k = 17 ∨ k = 18 ∨ k = 19 → s0 ≤ i → i < s0 + z_np S dr b → g' k i = g k i) : z_F1 g' S dr b s0 := by
  unfold z_np at c
  rcases h with ⟨h1, h2, h3, h4⟩ | ⟨h1, h2⟩
  · rw [if_pos h1] at c
    exact Or.inl ⟨h1, by rw [c 17 s0 (by decide) (by omega) (by omega)]; exact h2, by rw [c 18 s0 (by decide) (by omega) (by omega)]; exact h3, by rw [c 19 s0 (by decide) (by omega) (by omega)]; exact h4⟩
  · rw [if_neg h1] at c
    refine Or.inr ⟨h1, fun q hq hp => ?_⟩
    have lt := z_cnt_lt (p := z_pl S dr b) hq hp
    have lt' : z_pc S dr b q < z_pc S dr b (S 1 b) := lt
    obtain ⟨a1, a2, a3⟩ := h2 q hq hp
    rw [c 17 _ (by decide) (by omega) (by omega), c 18 _ (by decide) (by omega) (by omega), c 19 _ (by decide) (by omega) (by omega)]
    exact ⟨a1, a2, a3⟩
theorem m_laysSprings {g : sx_F} {S : z_S} {bk : Nat} {Q : sx_F → Prop} (M : z_M g S) (W : z_W S) (hbk : bk ≤ 5) (H : z_H g S bk (S 0 0)) (h : ∀ g' : sx_F, (∀ k, (k ≤ 15 ∨ 22 ≤ k) → g' k = g k) → z_Y g' S bk (z_it S bk (S 0 0)) → Q g') : P_X7_laysSprings g Q := by
  have hn := W.1
  have hitn : z_it S bk (S 0 0) ≤ S 0 0 := z_cnt_le _
  intro B9 B51 B73 B78 B109 B139 B155 B174 B195 B201 B209 B241 B293 B336 B369 b9 b51 b73 b78 b109 b139 b155 b174 b195 b201 b209 b241 b293 b336 b369
  refine ⟨by unfold vp_in; decide, nm_e ?_⟩
  rw [sb_cl0]
  have key : ∀ g' : sx_F, (∀ k, (k ≤ 15 ∨ 22 ≤ k) → g' k = g k) → z_Y g' S bk 0 → B9 g' (nI 0) := by
    refine z_up (B := fun j => ∀ g' : sx_F, (∀ k, (k ≤ 15 ∨ 22 ≤ k) → g' k = g k) → z_Y g' S bk j → B9 g' (nI j)) (z_it S bk (S 0 0)) (fun j hj ih => ?_)
    intro g1 f1 Y
    refine b9 _ _ ?_
    rw [f1 0 (by decide), H.1]
    refine pk_le (z_it S bk (S 0 0)) j (fun c => h g1 f1 (by rw [show z_it S bk (S 0 0) = j by omega]; exact Y)) (fun c => ?_)
    obtain ⟨x, hx, hnx, hjx⟩ := z_cnt_ex (p := z_new S bk) (S 0 0) j c
    have hjx : z_it S bk x = j := hjx
    have hlen := W.2.1 x hx
    have hH := H.2.1 x hx hnx
    rw [hjx] at hH
    have hs := Y.1 x (by omega) (by omega)
    rw [hjx] at hs
    have hsle := z_spb_le (bk := bk) W x (by omega)
    have hnple := z_np_le (bk := bk) W hx
    have hdr := z_drw_le (S := S) (bk := bk) (b := x) hbk
    have hsp1 : z_spb S bk (x + 1) = z_spb S bk x + z_np S (z_drw S bk x) x := by
      show z_spb S bk x + (if z_new S bk x then z_np S (z_drw S bk x) x else 0) = _
      rw [hnx]; rfl
    have hold : ∀ b, z_new S bk b = true → z_it S bk b < j → z_spb S bk b + z_np S (z_drw S bk b) b ≤ z_spb S bk x := fun b hb hb2 => by
      have lt : b < x := Nat.lt_of_not_le (fun z => by
        have := z_cnt_mono (p := z_new S bk) z
        have e : z_it S bk x ≤ z_it S bk b := this
        omega)
      have m := z_sm_mono (w := fun b => if z_new S bk b then z_np S (z_drw S bk b) b else 0) (show b + 1 ≤ x from lt)
      have e : z_spb S bk (b + 1) = z_spb S bk b + z_np S (z_drw S bk b) b := by
        show z_spb S bk b + (if z_new S bk b then z_np S (z_drw S bk b) b else 0) = _
        rw [hb]; rfl
      have m' : z_spb S bk (b + 1) ≤ z_spb S bk x := m
      omega
    have hsame : ∀ b, z_new S bk b = true → z_it S bk b = j → b = x := fun b hb hb2 => by
      rcases Nat.lt_trichotomy b x with z | z | z
      · have := z_cnt_lt z hb
        have e : z_it S bk b < z_it S bk x := this
        omega
      · exact z
      · have := z_cnt_lt z hnx
        have e : z_it S bk x < z_it S bk b := this
        omega
    have hspb : ∀ b, b ≤ S 0 0 → z_it S bk b = j + 1 → z_spb S bk b = z_spb S bk x + z_np S (z_drw S bk x) x := fun b hb hb2 => by
      rw [← hsp1]
      refine z_sm_cnt' (p := z_new S bk) (w := fun b => z_np S (z_drw S bk b) b) ?_
      show z_it S bk b = z_it S bk (x + 1)
      rw [hb2, z_it_s, hnx, hjx]; rfl
    have hWb : z_Wb S (z_drw S bk x) x = if z_drw S bk x = 6 then 24 else z_ws S (z_drw S bk x) x (S 1 x) := rfl
    have hLb : z_Lb S (z_drw S bk x) x = if z_drw S bk x = 6 then 16 else z_ls S (z_drw S bk x) x (S 1 x) := rfl
    have hnp : z_np S (z_drw S bk x) x = if z_drw S bk x = 6 then 1 else z_pc S (z_drw S bk x) x (S 1 x) := rfl
    generalize hdg : z_drw S bk x = dr at hH hnple hdr hsp1 hspb hWb hLb hnp
    generalize hs0 : z_spb S bk x = s0 at hs hsle hsp1 hold hspb
    generalize hnpg : z_np S dr x = np at hnple hsp1 hspb hnp
    -- the item's end: its sums
    have T336 : ∀ g3 : sx_F, (∀ k, k ≠ 17 → k ≠ 18 → k ≠ 19 → g3 k = g1 k) → (∀ k i, i < s0 → g3 k i = g1 k i) → z_F1 g3 S dr x s0 → B336 g3 (nI j) (nI (s0 + np)) := by
      intro g3 a1 a2 a3
      refine b336 _ _ _ ?_
      rw [nI_1, nI_clamp (n := j + 1) (by omega), nI_clamp (n := j) (by omega)]
      refine ⟨vp_in_nI (by omega) (by omega), nm_e ⟨vp_in_nI (by omega) (by omega), nm_e ⟨vp_in_nI (by omega) (by omega), nm_e ⟨vp_in_nI (by omega) (by omega), nm_e ?_⟩⟩⟩⟩
      rw [show (sx_u (sx_u (sx_u g3 16 (j + 1) (nI (s0 + np))) 20 j 8) 21 j 8) 16 j = nI s0 by rw [sx_u_n (by decide), sx_u_n (by decide), sx_u_s, pk_un (by omega), a1 16 (by decide) (by decide) (by decide)]; exact hs]
      generalize hg4 : sx_u (sx_u (sx_u g3 16 (j + 1) (nI (s0 + np))) 20 j 8) 21 j 8 = g4
      have c20 : g4 20 j = nI (8 + 0) := by rw [← hg4, sx_u_n (by decide), sx_u_s, pk_us]; rfl
      have c21 : g4 21 j = nI (8 + 0) := by rw [← hg4, sx_u_s, pk_us]; rfl
      have c20' : ∀ i, i ≠ j → g4 20 i = g1 20 i := fun i hi => by rw [← hg4, sx_u_n (by decide), sx_u_s, pk_un hi, sx_u_n (by decide), a1 20 (by decide) (by decide) (by decide)]
      have c21' : ∀ i, i ≠ j → g4 21 i = g1 21 i := fun i hi => by rw [← hg4, sx_u_s, pk_un hi, sx_u_n (by decide), sx_u_n (by decide), a1 21 (by decide) (by decide) (by decide)]
      have c16 : g4 16 (j + 1) = nI (s0 + np) := by rw [← hg4, sx_u_n (by decide), sx_u_n (by decide), sx_u_s, pk_us]
      have c16' : ∀ i, i ≠ j + 1 → g4 16 i = g1 16 i := fun i hi => by rw [← hg4, sx_u_n (by decide), sx_u_n (by decide), sx_u_s, pk_un hi, a1 16 (by decide) (by decide) (by decide)]
      have ck : ∀ k, k ≠ 16 → k ≠ 20 → k ≠ 21 → g4 k = g3 k := fun k h1 h2 h3 => by rw [← hg4, sx_u_n h3, sx_u_n h2, sx_u_n h1]
      have loop : ∀ g5 : sx_F, (∀ k, k ≠ 20 → k ≠ 21 → g5 k = g4 k) → (∀ i, i ≠ j → g5 20 i = g4 20 i ∧ g5 21 i = g4 21 i) → (∃ a c, g5 20 j = nI (8 + a) ∧ g5 21 j = nI (8 + c) ∧ ((dr = 6 ∧ a = 24 * 0 ∧ c = 16 * 0) ∨ (dr ≠ 6 ∧ ∃ q, q ≤ S 1 x ∧ z_pc S dr x q = 0 ∧ a = z_ws S dr x q ∧ c = z_ls S dr x q))) → B369 g5 (nI j) (nI (s0 + np)) (nI (s0 + 0)) := by
        refine z_up (B := fun i => ∀ g5 : sx_F, (∀ k, k ≠ 20 → k ≠ 21 → g5 k = g4 k) → (∀ i, i ≠ j → g5 20 i = g4 20 i ∧ g5 21 i = g4 21 i) → (∃ a c, g5 20 j = nI (8 + a) ∧ g5 21 j = nI (8 + c) ∧ ((dr = 6 ∧ a = 24 * i ∧ c = 16 * i) ∨ (dr ≠ 6 ∧ ∃ q, q ≤ S 1 x ∧ z_pc S dr x q = i ∧ a = z_ws S dr x q ∧ c = z_ls S dr x q))) → B369 g5 (nI j) (nI (s0 + np)) (nI (s0 + i))) np (fun i hi ihi => ?_)
        intro g5 d1 d2 d3
        obtain ⟨a, cc, d4, d5, d6⟩ := d3
        refine b369 _ _ _ _ (pk_le (s0 + np) (s0 + i) (fun z => nm_e ?_) (fun z => ?_))
        · have ei : i = np := by omega
          rw [nI_1]
          refine ih c g5 (fun k hk => by rw [d1 k (by omega) (by omega), ck k (by omega) (by omega) (by omega), a1 k (by omega) (by omega) (by omega)]; exact f1 k hk) ⟨fun b hb hb2 => ?_, fun b hb hb2 hb3 => ?_⟩
          · rw [d1 16 (by decide) (by decide)]
            by_cases e : z_it S bk b = j + 1
            · rw [e, c16, hspb b hb e]
            · rw [c16' _ e]; exact Y.1 b hb (by omega)
          · by_cases e : z_it S bk b = j
            · have := hsame b hb2 e
              subst this
              rw [hdg, hs0, e, d4, d5]
              refine ⟨a3.cg (fun k i hk _ _ => by rw [d1 k (by omega) (by omega), ck k (by omega) (by omega) (by omega)]), ?_⟩
              rw [hWb, hLb]
              rcases d6 with ⟨e1, e2, e3⟩ | ⟨e1, q, e2, e3, e4, e5⟩
              · rw [if_pos e1] at hnp ⊢
                rw [if_pos e1, e2, e3, ei, hnp]
                exact ⟨rfl, rfl⟩
              · rw [if_neg e1] at hnp ⊢
                rw [if_neg e1, e4, e5]
                have eq : z_cnt (z_pl S dr b) q = z_cnt (z_pl S dr b) (S 1 b) := by
                  show z_pc S dr b q = z_pc S dr b (S 1 b)
                  rw [e3, ei, hnp]
                have q1 : z_ws S dr b q = z_ws S dr b (S 1 b) := z_sm_cnt' eq
                have q2 : z_ls S dr b q = z_ls S dr b (S 1 b) := z_sm_cnt' eq
                rw [q1, q2]
                exact ⟨rfl, rfl⟩
            · have lt : z_it S bk b < j := by omega
              obtain ⟨y1, y2, y3⟩ := Y.2 b hb hb2 lt
              have ho := hold b hb2 lt
              refine ⟨y1.cg (fun k i hk h1 h2 => ?_), ?_, ?_⟩
              · rw [d1 k (by omega) (by omega), ck k (by omega) (by omega) (by omega)]
                exact a2 k i (by omega)
              · rw [(d2 _ e).1, c20' _ e]; exact y2
              · rw [(d2 _ e).2, c21' _ e]; exact y3
        · -- one spring more
          have hin : i < np := by omega
          rw [nI_clamp (n := s0 + i) (by omega), nI_clamp (n := j) (by omega)]
          have v18 : ∃ wi li, g5 18 (s0 + i) = nI wi ∧ g5 19 (s0 + i) = nI li ∧ ((dr = 6 ∧ a + wi = 24 * (i + 1) ∧ cc + li = 16 * (i + 1)) ∨ (dr ≠ 6 ∧ ∃ q, q ≤ S 1 x ∧ z_pc S dr x q = i + 1 ∧ a + wi = z_ws S dr x q ∧ cc + li = z_ls S dr x q)) := by
            have g18 : g5 18 = g3 18 := by rw [d1 18 (by decide) (by decide), ck 18 (by decide) (by decide) (by decide)]
            have g19 : g5 19 = g3 19 := by rw [d1 19 (by decide) (by decide), ck 19 (by decide) (by decide) (by decide)]
            rw [g18, g19]
            rcases d6 with ⟨e1, e2, e3⟩ | ⟨e1, q, e2, e3, e4, e5⟩
            · rw [if_pos e1] at hnp
              have i0 : i = 0 := by omega
              rcases a3 with ⟨-, h2, h3, h4⟩ | ⟨h1, -⟩
              · exact ⟨24, 16, by rw [i0, Nat.add_zero]; exact h3, by rw [i0, Nat.add_zero]; exact h4, Or.inl ⟨e1, by omega, by omega⟩⟩
              · exact absurd e1 h1
            · rw [if_neg e1] at hnp
              rcases a3 with ⟨h1, -⟩ | ⟨-, h2⟩
              · exact absurd h1 e1
              · obtain ⟨q0, k1, k2, k3⟩ := z_cnt_ex (p := z_pl S dr x) (S 1 x) i (by show i < z_pc S dr x (S 1 x); omega)
                have k3' : z_pc S dr x q0 = i := k3
                obtain ⟨-, m2, m3⟩ := h2 q0 k1 k2
                rw [k3'] at m2 m3
                refine ⟨_, _, m2, m3, Or.inr ⟨e1, q0 + 1, by omega, ?_, ?_, ?_⟩⟩
                · show z_pc S dr x q0 + (if z_pl S dr x q0 then 1 else 0) = _
                  rw [k2, k3']; rfl
                · show _ = z_ws S dr x q0 + (if z_pl S dr x q0 then z_wd S dr x q0 else 0)
                  rw [k2, e4, show z_ws S dr x q = z_ws S dr x q0 from z_sm_cnt' (by show z_pc S dr x q = z_pc S dr x q0; rw [e3, k3'])]; rfl
                · show _ = z_ls S dr x q0 + (if z_pl S dr x q0 then z_le S dr x q0 else 0)
                  rw [k2, e5, show z_ls S dr x q = z_ls S dr x q0 from z_sm_cnt' (by show z_pc S dr x q = z_pc S dr x q0; rw [e3, k3'])]; rfl
          obtain ⟨wi, li, v1, v2, v3⟩ := v18
          refine ⟨vp_in_nI (by omega) (by omega), vp_in_nI (by omega) (by omega), vp_in_nI (by omega) (by omega), nm_e ⟨vp_in_nI (by omega) (by omega), vp_in_nI (by omega) (by omega), vp_in_nI (by omega) (by omega), nm_e (nm_e ?_)⟩⟩
          rw [nI_1, d4, v1, nI_add, sx_u_n (by decide : (21 : Nat) ≠ 20), sx_u_n (by decide : (19 : Nat) ≠ 20), d5, v2, nI_add]
          refine ihi hin _ (fun k h1 h2 => by rw [sx_u_n h2, sx_u_n h1]; exact d1 k h1 h2) (fun i' hi' => ⟨by rw [sx_u_n (by decide), sx_u_s, pk_un hi']; exact (d2 i' hi').1, by rw [sx_u_s, pk_un hi', sx_u_n (by decide)]; exact (d2 i' hi').2⟩) ⟨a + wi, cc + li, by rw [sx_u_n (by decide), sx_u_s, pk_us, Nat.add_assoc], by rw [sx_u_s, pk_us, Nat.add_assoc], v3⟩
      refine loop g4 (fun _ _ _ => rfl) (fun _ _ => ⟨rfl, rfl⟩) ⟨0, 0, c20, c21, ?_⟩
      by_cases e : dr = 6
      · exact Or.inl ⟨e, rfl, rfl⟩
      · exact Or.inr ⟨e, 0, by omega, rfl, rfl, rfl⟩
    have f13 : g1 13 j = nI x := by rw [f1 13 (by decide)]; exact hH.1
    have f15 : g1 15 j = z_dr dr := by rw [f1 15 (by decide)]; exact hH.2
    have flen : g1 1 x = nI (S 1 x) := by rw [f1 1 (by decide)]; exact M.2.1 x (by omega)
    have hpcl : z_pc S dr x (S 1 x) ≤ S 1 x := z_cnt_le _
    -- the widths
    have T201 : ∀ (nn : Nat) (g2 : sx_F), nn = (if dr = 6 then 0 else z_pc S dr x (S 1 x)) → (∀ k, k ≠ 17 → k ≠ 18 → k ≠ 19 → g2 k = g1 k) → (∀ k i, i < s0 → g2 k i = g1 k i) → (dr ≠ 6 → z_Fa g2 S dr x s0 (S 1 x)) → B201 g2 (nI j) (nI (s0 + nn)) (nI x) := by
      intro nn g2 hnn a1 a2 a3
      have hnn32 : nn ≤ 32 := by rw [hnn]; split <;> omega
      refine b201 _ _ _ _ ⟨vp_in_nI (by omega) (by omega), nm_e ?_⟩
      rw [nI_clamp (by omega), a1 16 (by decide) (by decide) (by decide), hs]
      have loop : ∀ g3 : sx_F, (∀ k, k ≠ 18 → g3 k = g2 k) → (∀ i, i < s0 → g3 18 i = g2 18 i) → (∀ q, q < S 1 x → z_pl S dr x q = true → z_pc S dr x q < 0 → g3 18 (s0 + z_pc S dr x q) = nI (z_wd S dr x q)) → B209 g3 (nI j) (nI (s0 + nn)) (nI x) (nI (s0 + 0)) := by
        refine z_up (B := fun i => ∀ g3 : sx_F, (∀ k, k ≠ 18 → g3 k = g2 k) → (∀ i, i < s0 → g3 18 i = g2 18 i) → (∀ q, q < S 1 x → z_pl S dr x q = true → z_pc S dr x q < i → g3 18 (s0 + z_pc S dr x q) = nI (z_wd S dr x q)) → B209 g3 (nI j) (nI (s0 + nn)) (nI x) (nI (s0 + i))) nn (fun i hi ihi => ?_)
        intro g3 d1 d2 d3
        refine b209 _ _ _ _ _ (pk_le (s0 + nn) (s0 + i) (fun z => ⟨vp_in_nI (by omega) (by omega), ?_⟩) (fun z => ?_))
        · rw [nI_clamp (n := j) (by omega), d1 15 (by decide), a1 15 (by decide) (by decide) (by decide), f15]
          by_cases e6 : dr = 6
          · rw [if_pos e6] at hnp hnn
            rw [hnn, Nat.add_zero, nI_clamp (n := s0) (by omega)]
            refine ⟨fun _ => ⟨vp_in_nI (by omega) (by omega), nm_e ⟨vp_in_nI (by omega) (by omega), nm_e ⟨vp_in_nI (by omega) (by omega), nm_e (nm_e ?_)⟩⟩⟩, fun y => absurd ((z_dr_m1 (by omega)).mpr e6) y⟩
            rw [nI_1, ← hnp]
            refine T336 _ (fun k h1 h2 h3 => by rw [sx_u_n h3, sx_u_n h2, sx_u_n h1, d1 k h2]; exact a1 k h1 h2 h3) (fun k i hi => ?_) (Or.inl ⟨e6, ?_, ?_, ?_⟩)
            · have base : g3 k i = g1 k i := by
                by_cases e : k = 18
                · rw [e, d2 i hi]; exact a2 18 i hi
                · rw [d1 k e]; exact a2 k i hi
              unfold sx_u
              unfold upd
              by_cases e1 : k = 19
              · subst e1; rw [if_pos rfl, if_neg (by omega), if_neg (by decide), if_neg (by decide)]; exact base
              · rw [if_neg e1]
                by_cases e2 : k = 18
                · subst e2; rw [if_pos rfl, if_neg (by omega), if_neg (by decide)]; exact base
                · rw [if_neg e2]
                  by_cases e3 : k = 17
                  · subst e3; rw [if_pos rfl, if_neg (by omega)]; exact base
                  · rw [if_neg e3]; exact base
            · rw [sx_u_n (by decide), sx_u_n (by decide), sx_u_s, pk_us]
            · rw [sx_u_n (by decide), sx_u_s, pk_us]; rfl
            · rw [sx_u_s, pk_us]; rfl
          · rw [if_neg e6] at hnp hnn
            refine ⟨fun y => absurd ((z_dr_m1 (by omega)).mp y) e6, fun _ => ?_⟩
            rw [hnn, ← hnp]
            have fa := a3 e6
            refine T336 g3 (fun k h1 h2 h3 => by rw [d1 k h2]; exact a1 k h1 h2 h3) (fun k i hi => ?_) (Or.inr ⟨e6, fun q hq hp => ?_⟩)
            · by_cases e : k = 18
              · rw [e, d2 i hi]; exact a2 18 i hi
              · rw [d1 k e]; exact a2 k i hi
            · have lt := z_cnt_lt (p := z_pl S dr x) hq hp
              have lt' : z_pc S dr x q < z_pc S dr x (S 1 x) := lt
              obtain ⟨m1, m2⟩ := fa q hq hp
              rw [d1 17 (by decide), d1 19 (by decide)]
              exact ⟨m1, d3 q hq hp (by omega), m2⟩
        · have hin : i < nn := by omega
          have e6 : dr ≠ 6 := fun e => by rw [if_pos e] at hnn; omega
          rw [if_neg e6] at hnn
          have fa := a3 e6
          obtain ⟨q, k1, k2, k3⟩ := z_cnt_ex (p := z_pl S dr x) (S 1 x) i (by show i < z_pc S dr x (S 1 x); omega)
          have k3' : z_pc S dr x q = i := k3
          obtain ⟨m1, m2⟩ := fa q k1 k2
          rw [k3'] at m1 m2
          have epc : z_pc S dr x (q + 1) = i + 1 := by
            show z_pc S dr x q + (if z_pl S dr x q then 1 else 0) = _
            rw [k2, k3']; rfl
          have hnx := z_nx_le (p := z_pl S dr x) (S 1 x - (q + 1)) (q + 1)
          have hhv := z_hv_le 6 (z_nx (z_pl S dr x) (S 1 x - (q + 1)) (q + 1) - q)
          have h5 := z_sn_5 (S := S) (dr := dr) (b := x) (p := q)
          have hle : z_le S dr x q = 4 + z_sn S dr x q 5 := rfl
          have put : B293 g3 (nI j) (nI (s0 + nn)) (nI x) (nI (s0 + i)) (nI (s0 + i)) (nI (z_wd S dr x q)) := by
            refine b293 _ _ _ _ _ _ _ ⟨vp_in_nI (by omega) (by omega), nm_e (nm_e ?_)⟩
            rw [nI_1, nI_clamp (by omega)]
            refine ihi hin _ (fun k hk => by rw [sx_u_n hk]; exact d1 k hk) (fun i' hi' => by rw [sx_u_s, pk_un (by omega)]; exact d2 i' hi') (fun q' h1 h2 h3 => ?_)
            rw [sx_u_s]
            by_cases e : z_pc S dr x q' = i
            · have eq : q' = q := by
                rcases Nat.lt_trichotomy q' q with y | y | y
                · have := z_cnt_lt y h2
                  have e2 : z_pc S dr x q' < z_pc S dr x q := this
                  omega
                · exact y
                · have := z_cnt_lt y k2
                  have e2 : z_pc S dr x q < z_pc S dr x q' := this
                  omega
              rw [e, eq, pk_us]
            · rw [pk_un (by omega)]
              exact d3 q' h1 h2 (by omega)
          have go : B241 g3 (nI j) (nI (s0 + nn)) (nI x) (nI (s0 + i)) (nI (z_nx (z_pl S dr x) (S 1 x - (q + 1)) (q + 1))) := by
            refine b241 _ _ _ _ _ _ ⟨vp_in_nI (by omega) (by omega), nm_e ?_⟩
            rw [nI_clamp (n := s0 + i) (by omega), d1 17 (by decide), m1, pk_sub (by omega)]
            refine m_halvings (by omega) (nm_e ⟨vp_in_nI (by omega) (by omega), ?_⟩)
            rw [d1 19 (by decide), m2, show (6 : Int32) + 3 * nI (z_hv 6 (z_nx (z_pl S dr x) (S 1 x - (q + 1)) (q + 1) - q)) = nI (6 + 3 * z_hv 6 (z_nx (z_pl S dr x) (S 1 x - (q + 1)) (q + 1) - q)) by rw [z_l3, z_l6, pk_mul, nI_add]]
            unfold z_wd at put
            refine pk_le (z_le S dr x q) (6 + 3 * z_hv 6 (z_nx (z_pl S dr x) (S 1 x - (q + 1)) (q + 1) - q)) (fun y => ?_) (fun y => ⟨vp_in_nI (by omega) (by omega), ?_⟩)
            · rw [if_neg (by omega)] at put; exact put
            · rw [if_pos y] at put; exact put
          rw [nI_1, nI_clamp (n := x) (by omega), nI_clamp (n := s0 + i + 1) (by omega)]
          refine pk_le (s0 + nn) (s0 + i + 1) (fun y => ⟨vp_in_nI (by omega) (by omega), ?_⟩) (fun y => ⟨vp_in_nI (by omega) (by omega), ?_⟩)
          · rw [z_nx_no (S 1 x - (q + 1)) (q + 1) (fun w hw hw2 => by
              cases hp : z_pl S dr x w
              · rfl
              · have q1 := z_cnt_lt (p := z_pl S dr x) (show w < S 1 x by omega) hp
                have q2 := z_cnt_mono (p := z_pl S dr x) hw
                have q1' : z_pc S dr x w < z_pc S dr x (S 1 x) := q1
                have q2' : z_pc S dr x (q + 1) ≤ z_pc S dr x w := q2
                omega), show q + 1 + (S 1 x - (q + 1)) = S 1 x by omega] at go
            rw [d1 1 (by decide), a1 1 (by decide) (by decide) (by decide), flen]
            exact go
          · obtain ⟨q', r1, r2, r3⟩ := z_cnt_ex (p := z_pl S dr x) (S 1 x) (i + 1) (by show i + 1 < z_pc S dr x (S 1 x); omega)
            have r3' : z_pc S dr x q' = i + 1 := r3
            have lt : q < q' := Nat.lt_of_not_le (fun w => by
              have := z_cnt_mono (p := z_pl S dr x) w
              have e2 : z_pc S dr x q' ≤ z_pc S dr x q := this
              omega)
            rw [z_nx_yes (q := q') (S 1 x - (q + 1)) (q + 1) lt (by omega) r2 (fun w hw hw2 => by
              cases hp : z_pl S dr x w
              · rfl
              · have q1 := z_cnt_lt (p := z_pl S dr x) hw2 hp
                have q2 := z_cnt_mono (p := z_pl S dr x) hw
                have q1' : z_pc S dr x w < z_pc S dr x q' := q1
                have q2' : z_pc S dr x (q + 1) ≤ z_pc S dr x w := q2
                omega)] at go
            have m1' := (fa q' r1 r2).1
            rw [r3'] at m1'
            rw [d1 17 (by decide), show s0 + i + 1 = s0 + (i + 1) by omega, m1']
            exact go
      exact loop g2 (fun _ _ => rfl) (fun _ _ => rfl) (fun q _ _ hq => absurd hq (by omega))
    -- the places
    have T78 : dr ≠ 6 → B78 g1 (nI j) (nI (s0 + 0)) (nI x) (nI (if dr = 5 then 0 else dr)) (nI (if dr = 5 then 4 else dr)) (nI 0) := by
      intro e6
      have hd5 : dr ≤ 5 := by omega
      have loop : ∀ g2 : sx_F, (∀ k, k ≠ 17 → k ≠ 19 → g2 k = g1 k) → (∀ k i, i < s0 → g2 k i = g1 k i) → z_Fa g2 S dr x s0 0 → B78 g2 (nI j) (nI (s0 + z_pc S dr x 0)) (nI x) (nI (if dr = 5 then 0 else dr)) (nI (if dr = 5 then 4 else dr)) (nI 0) := by
        refine z_up (B := fun p => ∀ g2 : sx_F, (∀ k, k ≠ 17 → k ≠ 19 → g2 k = g1 k) → (∀ k i, i < s0 → g2 k i = g1 k i) → z_Fa g2 S dr x s0 p → B78 g2 (nI j) (nI (s0 + z_pc S dr x p)) (nI x) (nI (if dr = 5 then 0 else dr)) (nI (if dr = 5 then 4 else dr)) (nI p)) (S 1 x) (fun p hp ihp => ?_)
        intro g2 a1 a2 a3
        have hpcp : z_pc S dr x p ≤ p := z_cnt_le p
        have M2 : z_M g2 S := by
          unfold z_M at M ⊢
          rw [a1 0 (by decide) (by decide), a1 1 (by decide) (by decide), a1 2 (by decide) (by decide), a1 3 (by decide) (by decide), a1 4 (by decide) (by decide), f1 0 (by decide), f1 1 (by decide), f1 2 (by decide), f1 3 (by decide), f1 4 (by decide)]
          exact M
        refine b78 _ _ _ _ _ _ _ ⟨vp_in_nI (by omega) (by omega), ?_⟩
        rw [nI_clamp (n := x) (by omega), M2.2.1 x (by omega)]
        refine pk_le (S 1 x) p (fun z => ?_) (fun z => ⟨vp_in_nI (by omega) (by omega), ?_⟩)
        · have ep : p = S 1 x := by omega
          rw [ep] at a3 ⊢
          exact T201 _ g2 (by rw [if_neg e6]) (fun k h1 h2 h3 => a1 k h1 h3) a2 (fun _ => a3)
        rw [nI_clamp (n := j) (by omega), a1 15 (by decide) (by decide), f15]
        refine ⟨fun y => absurd ((z_dr_m1 (by omega)).mp y) e6, fun _ => ?_⟩
        have epc : z_pc S dr x (p + 1) = z_pc S dr x p + (if z_pl S dr x p then 1 else 0) := rfl
        refine m_count (p := p) (b := x) (S := S) (B := fun u v w => B109 g2 (nI j) (nI (s0 + z_pc S dr x p)) (nI x) (nI (if dr = 5 then 0 else dr)) (nI (if dr = 5 then 4 else dr)) (nI p) u v w) hd5 (fun k u v hk hin hnext => ?_) ?_
        · have hto : k ≤ (if dr = 5 then 4 else dr) := by
            have := of_decide_eq_true hin
            split <;> omega
          have hto5 : (if dr = 5 then 4 else dr) ≤ 5 := by split <;> omega
          have hb2 := z_bg_le (S := S) (s := 12 * k + x) (len := S 1 x) (p := p)
          refine b109 _ _ _ _ _ _ _ _ _ _ (pk_lt (if dr = 5 then 4 else dr) k (fun y => absurd y (by omega)) (fun _ => m_begins M2 W hk hx (by omega) ?_))
          generalize z_bg S (12 * k + x) (S 1 x) p = bb at hb2 hnext
          have nx2 : ∀ w : Nat, w = u + (if 0 < bb then 1 else 0) → B139 g2 (nI j) (nI (s0 + z_pc S dr x p)) (nI x) (nI (if dr = 5 then 0 else dr)) (nI (if dr = 5 then 4 else dr)) (nI p) (nI v) (nI k) (nI bb) (nI u) (nI (if 0 < bb then 1 else 0)) := by
            intro w hw
            refine b139 _ _ _ _ _ _ _ _ _ _ _ _ (nm_e ?_)
            rw [nI_add]
            refine pk_eq bb 2 (fun y => b155 _ _ _ _ _ _ _ _ _ _ _ (nm_e (nm_e ?_))) (fun y => b155 _ _ _ _ _ _ _ _ _ _ _ (nm_e (nm_e ?_)))
            · rw [if_pos y] at hnext
              rw [nI_1, nI_1]; exact hnext
            · rw [if_neg y] at hnext
              rw [nI_1, Int32.add_zero]; exact hnext
          refine pk_le bb 0 (fun y => ?_) (fun y => ?_)
          · have := nx2 _ rfl
            rw [if_neg (show ¬ 0 < bb by omega)] at this
            exact this
          · have := nx2 _ rfl
            rw [if_pos y] at this
            exact this
        · have h5 := z_sn_5 (S := S) (dr := dr) (b := x) (p := p)
          have hbn : z_bn S dr x p 5 ≤ 5 := z_cnt_le 5
          have hto5 : (if dr = 5 then 4 else dr) < (if dr = 5 then 5 else dr + 1) ∧ (if dr = 5 then 5 else dr + 1) ≤ 6 := by split <;> omega
          have nextP : ∀ g3 : sx_F, (∀ k, k ≠ 17 → k ≠ 19 → g3 k = g1 k) → (∀ k i, i < s0 → g3 k i = g1 k i) → z_Fa g3 S dr x s0 (p + 1) → B195 g3 (nI j) (nI (s0 + z_pc S dr x (p + 1))) (nI x) (nI (if dr = 5 then 0 else dr)) (nI (if dr = 5 then 4 else dr)) (nI p) := fun g3 u1 u2 u3 => b195 _ _ _ _ _ _ _ (nm_e (by rw [nI_1]; exact ihp z g3 u1 u2 u3))
          have yes : z_pl S dr x p = true → B174 g2 (nI j) (nI (s0 + z_pc S dr x p)) (nI x) (nI (if dr = 5 then 0 else dr)) (nI (if dr = 5 then 4 else dr)) (nI p) (nI (z_sn S dr x p 5)) := by
            intro y
            rw [y] at epc
            refine b174 _ _ _ _ _ _ _ _ ⟨vp_in_nI (by omega) (by omega), nm_e ⟨vp_in_nI (by omega) (by omega), nm_e (nm_e ?_)⟩⟩
            rw [nI_1, nI_clamp (by omega), show s0 + z_pc S dr x p + 1 = s0 + z_pc S dr x (p + 1) by rw [epc]; rfl, show (4 : Int32) + nI (z_sn S dr x p 5) = nI (z_le S dr x p) from nI_add 4 _]
            refine nextP _ (fun k h1 h2 => by rw [sx_u_n h2, sx_u_n h1]; exact a1 k h1 h2) (fun k i hi => ?_) (fun q hq hq2 => ?_)
            · have base := a2 k i hi
              by_cases e1 : k = 19
              · subst e1; rw [sx_u_s, pk_un (by omega), sx_u_n (by decide)]; exact base
              · rw [sx_u_n e1]
                by_cases e3 : k = 17
                · subst e3; rw [sx_u_s, pk_un (by omega)]; exact base
                · rw [sx_u_n e3]; exact base
            · rw [sx_u_n (by decide : (17 : Nat) ≠ 19), sx_u_s, sx_u_s, sx_u_n (by decide : (19 : Nat) ≠ 17)]
              by_cases eq : q = p
              · rw [eq, pk_us, pk_us]; exact ⟨rfl, rfl⟩
              · have := z_cnt_lt (p := z_pl S dr x) (show q < p by omega) hq2
                have e2 : z_pc S dr x q < z_pc S dr x p := this
                rw [pk_un (by omega), pk_un (by omega)]
                exact a3 q (by omega) hq2
          refine b109 _ _ _ _ _ _ _ _ _ _ (pk_lt (if dr = 5 then 4 else dr) (if dr = 5 then 5 else dr + 1) (fun _ => pk_eq p 0 (fun y => yes (by rw [y]; exact z_pl0 W hd5 hx)) (fun y => pk_le (z_bn S dr x p 5) 0 (fun w => ?_) (fun w => yes (decide_eq_true w)))) (fun y => absurd y (by omega)))
          have np0 : z_pl S dr x p = false := decide_eq_false (by omega)
          rw [np0] at epc
          have nP := nextP g2 a1 a2 (fun q hq hq2 => by
            by_cases eq : q = p
            · rw [eq, np0] at hq2; exact absurd hq2 (by decide)
            · exact a3 q (by omega) hq2)
          rw [epc] at nP
          exact nP
      exact loop g1 (fun _ _ _ => rfl) (fun _ _ _ => rfl) (fun q hq => absurd hq (by omega))
    -- the item's beginning
    rw [nI_clamp (by omega), hs, f13, f15]
    refine ⟨vp_in_nI (by omega) (by omega), nm_e ⟨vp_in_nI (by omega) (by omega), nm_e ⟨vp_in_nI (by omega) (by omega), ?_⟩⟩⟩
    by_cases e6 : dr = 6
    · have em : z_dr dr = -1 := by rw [e6]; rfl
      rw [em]
      refine ⟨fun y => absurd y (by decide), fun _ => ⟨vp_in_nI (by omega) (by omega), b51 _ _ _ _ _ ⟨vp_in_nI (by omega) (by omega), ?_⟩⟩⟩
      rw [nI_clamp (by omega), f15, em]
      refine ⟨fun y => absurd y (by decide), fun _ => ⟨vp_in_nI (by omega) (by omega), b73 _ _ _ _ _ _ (b78 _ _ _ _ _ _ _ ⟨vp_in_nI (by omega) (by omega), ?_⟩)⟩⟩
      have t := T201 0 g1 (by rw [if_pos e6]) (fun _ _ _ _ => rfl) (fun _ _ _ => rfl) (fun y => absurd e6 y)
      rw [nI_clamp (n := j) (by omega), f15, em]
      exact ⟨fun _ => t, fun _ => ⟨vp_in_nI (by omega) (by omega), fun _ => t, fun y => absurd rfl y⟩⟩
    · have t := T78 e6
      rw [z_drn e6]
      refine pk_eq dr 5 (fun y => b51 _ _ _ _ _ ⟨vp_in_nI (by omega) (by omega), ?_⟩) (fun y => ⟨vp_in_nI (by omega) (by omega), b51 _ _ _ _ _ ⟨vp_in_nI (by omega) (by omega), ?_⟩⟩)
      · rw [nI_clamp (by omega), f15, z_drn e6]
        rw [if_pos y, if_pos y] at t
        exact pk_eq dr 5 (fun _ => b73 _ _ _ _ _ _ t) (fun w => absurd y w)
      · rw [nI_clamp (by omega), f15, z_drn e6]
        rw [if_neg y, if_neg y] at t
        exact pk_eq dr 5 (fun w => absurd w y) (fun _ => ⟨vp_in_nI (by omega) (by omega), b73 _ _ _ _ _ _ t⟩)
  refine key _ (fun k hk => sx_u_n (by omega)) ⟨fun b hb hb2 => ?_, fun b hb hb2 hb3 => absurd hb3 (by omega)⟩
  have e0 : z_it S bk b = 0 := by omega
  rw [e0, sx_u_s, pk_us, show z_spb S bk b = z_spb S bk 0 from z_sm_cnt' (by show z_it S bk b = 0; exact e0)]
  rfl
