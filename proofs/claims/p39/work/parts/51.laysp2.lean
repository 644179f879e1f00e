theorem z_F1.cg {g g' : sx_F} {S : z_S} {dr b s0 : Nat} (h : z_F1 g S dr b s0) (c : ∀ k i, k = 17 ∨ k = 18 ∨ k = 19 → s0 ≤ i → i < s0 + z_np S dr b → g' k i = g k i) : z_F1 g' S dr b s0 := by
  unfold z_np at c
  rcases h with ⟨h1, h2, h3, h4⟩ | ⟨h1, h2⟩
  · rw [if_pos h1] at c
    exact Or.inl ⟨h1, by rw [c 17 s0 (by decide) (by omega) (by omega)]; exact h2, by rw [c 18 s0 (by decide) (by omega) (by omega)]; exact h3, by rw [c 19 s0 (by decide) (by omega) (by omega)]; exact h4⟩
  · rw [if_neg h1] at c
    refine Or.inr ⟨h1, fun q hq hp => ?_⟩
    have lt := z_cnt_lt (p := z_pl S dr b) hq hp
    have lt' : z_pc S dr b q < z_pc S dr b (S 1 b) := lt
    obtain ⟨a1, a2, a3⟩ := h2 q hq hp
    rw [c 17 _ (by decide) (by omega) (by omega), c 18 _ (by decide) (by omega) (by omega), c 19 _ (by decide) (by omega) (by omega)]
    exact ⟨a1, a2, a3⟩
theorem m_laysSprings {g : sx_F} {S : z_S} {bk : Nat} {Q : sx_F → Prop} (M : z_M g S) (W : z_W S) (hbk : bk ≤ 5) (H : z_H g S bk (S 0 0)) (h : ∀ g' : sx_F, (∀ k, (k ≤ 15 ∨ 22 ≤ k) → g' k = g k) → z_Y g' S bk (z_it S bk (S 0 0)) → Q g') : P_X7_laysSprings g Q := by
  have hn := W.1
  have hitn : z_it S bk (S 0 0) ≤ S 0 0 := z_cnt_le _
  intro B9 B51 B73 B78 B109 B139 B155 B174 B195 B201 B209 B241 B293 B336 B369 b9 b51 b73 b78 b109 b139 b155 b174 b195 b201 b209 b241 b293 b336 b369
  refine ⟨by unfold vp_in; decide, nm_e ?_⟩
  rw [sb_cl0]
  have key : ∀ g' : sx_F, (∀ k, (k ≤ 15 ∨ 22 ≤ k) → g' k = g k) → z_Y g' S bk 0 → B9 g' (nI 0) := by
    refine z_up (B := fun j => ∀ g' : sx_F, (∀ k, (k ≤ 15 ∨ 22 ≤ k) → g' k = g k) → z_Y g' S bk j → B9 g' (nI j)) (z_it S bk (S 0 0)) (fun j hj ih => ?_)
    intro g1 f1 Y
    refine b9 _ _ ?_
    rw [f1 0 (by decide), H.1]
    refine pk_le (z_it S bk (S 0 0)) j (fun c => h g1 f1 (by rw [show z_it S bk (S 0 0) = j by omega]; exact Y)) (fun c => ?_)
    obtain ⟨x, hx, hnx, hjx⟩ := z_cnt_ex (p := z_new S bk) (S 0 0) j c
    have hjx : z_it S bk x = j := hjx
    have hlen := W.2.1 x hx
    have hH := H.2.1 x hx hnx
    rw [hjx] at hH
    have hs := Y.1 x (by omega) (by omega)
    rw [hjx] at hs
    have hsle := z_spb_le (bk := bk) W x (by omega)
    have hnple := z_np_le (bk := bk) W hx
    have hdr := z_drw_le (S := S) (bk := bk) (b := x) hbk
    have hsp1 : z_spb S bk (x + 1) = z_spb S bk x + z_np S (z_drw S bk x) x := by
      show z_spb S bk x + (if z_new S bk x then z_np S (z_drw S bk x) x else 0) = _
      rw [hnx]; rfl
    have hold : ∀ b, z_new S bk b = true → z_it S bk b < j → z_spb S bk b + z_np S (z_drw S bk b) b ≤ z_spb S bk x := fun b hb hb2 => by
      have lt : b < x := Nat.lt_of_not_le (fun z => by
        have := z_cnt_mono (p := z_new S bk) z
        have e : z_it S bk x ≤ z_it S bk b := this
        omega)
      have m := z_sm_mono (w := fun b => if z_new S bk b then z_np S (z_drw S bk b) b else 0) (show b + 1 ≤ x from lt)
      have e : z_spb S bk (b + 1) = z_spb S bk b + z_np S (z_drw S bk b) b := by
        show z_spb S bk b + (if z_new S bk b then z_np S (z_drw S bk b) b else 0) = _
        rw [hb]; rfl
      have m' : z_spb S bk (b + 1) ≤ z_spb S bk x := m
      omega
    have hsame : ∀ b, z_new S bk b = true → z_it S bk b = j → b = x := fun b hb hb2 => by
      rcases Nat.lt_trichotomy b x with z | z | z
      · have := z_cnt_lt z hb
        have e : z_it S bk b < z_it S bk x := this
        omega
      · exact z
      · have := z_cnt_lt z hnx
        have e : z_it S bk x < z_it S bk b := this
        omega
    have hspb : ∀ b, b ≤ S 0 0 → z_it S bk b = j + 1 → z_spb S bk b = z_spb S bk x + z_np S (z_drw S bk x) x := fun b hb hb2 => by
      rw [← hsp1]
      refine z_sm_cnt' (p := z_new S bk) (w := fun b => z_np S (z_drw S bk b) b) ?_
      show z_it S bk b = z_it S bk (x + 1)
      rw [hb2, z_it_s, hnx, hjx]; rfl
    have hWb : z_Wb S (z_drw S bk x) x = if z_drw S bk x = 6 then 24 else z_ws S (z_drw S bk x) x (S 1 x) := rfl
    have hLb : z_Lb S (z_drw S bk x) x = if z_drw S bk x = 6 then 16 else z_ls S (z_drw S bk x) x (S 1 x) := rfl
    have hnp : z_np S (z_drw S bk x) x = if z_drw S bk x = 6 then 1 else z_pc S (z_drw S bk x) x (S 1 x) := rfl
    generalize hdg : z_drw S bk x = dr at hH hnple hdr hsp1 hspb hWb hLb hnp
    generalize hs0 : z_spb S bk x = s0 at hs hsle hsp1 hold hspb
    generalize hnpg : z_np S dr x = np at hnple hsp1 hspb hnp
    -- the item's end: its sums
    have T336 : ∀ g3 : sx_F, (∀ k, k ≠ 17 → k ≠ 18 → k ≠ 19 → g3 k = g1 k) → (∀ k i, i < s0 → g3 k i = g1 k i) → z_F1 g3 S dr x s0 → B336 g3 (nI j) (nI (s0 + np)) := by
      intro g3 a1 a2 a3
      refine b336 _ _ _ ?_
      rw [nI_1, nI_clamp (n := j + 1) (by omega), nI_clamp (n := j) (by omega)]
      refine ⟨vp_in_nI (by omega) (by omega), nm_e ⟨vp_in_nI (by omega) (by omega), nm_e ⟨vp_in_nI (by omega) (by omega), nm_e ⟨vp_in_nI (by omega) (by omega), nm_e ?_⟩⟩⟩⟩
      rw [show (sx_u (sx_u (sx_u g3 16 (j + 1) (nI (s0 + np))) 20 j 8) 21 j 8) 16 j = nI s0 by rw [sx_u_n (by decide), sx_u_n (by decide), sx_u_s, pk_un (by omega), a1 16 (by decide) (by decide) (by decide)]; exact hs]
      generalize hg4 : sx_u (sx_u (sx_u g3 16 (j + 1) (nI (s0 + np))) 20 j 8) 21 j 8 = g4
      have c20 : g4 20 j = nI (8 + 0) := by rw [← hg4, sx_u_n (by decide), sx_u_s, pk_us]; rfl
      have c21 : g4 21 j = nI (8 + 0) := by rw [← hg4, sx_u_s, pk_us]; rfl
      have c20' : ∀ i, i ≠ j → g4 20 i = g1 20 i := fun i hi => by rw [← hg4, sx_u_n (by decide), sx_u_s, pk_un hi, sx_u_n (by decide), a1 20 (by decide) (by decide) (by decide)]
      have c21' : ∀ i, i ≠ j → g4 21 i = g1 21 i := fun i hi => by rw [← hg4, sx_u_s, pk_un hi, sx_u_n (by decide), sx_u_n (by decide), a1 21 (by decide) (by decide) (by decide)]
      have c16 : g4 16 (j + 1) = nI (s0 + np) := by rw [← hg4, sx_u_n (by decide), sx_u_n (by decide), sx_u_s, pk_us]
      have c16' : ∀ i, i ≠ j + 1 → g4 16 i = g1 16 i := fun i hi => by rw [← hg4, sx_u_n (by decide), sx_u_n (by decide), sx_u_s, pk_un hi, a1 16 (by decide) (by decide) (by decide)]
      have ck : ∀ k, k ≠ 16 → k ≠ 20 → k ≠ 21 → g4 k = g3 k := fun k h1 h2 h3 => by rw [← hg4, sx_u_n h3, sx_u_n h2, sx_u_n h1]
      have loop : ∀ g5 : sx_F, (∀ k, k ≠ 20 → k ≠ 21 → g5 k = g4 k) → (∀ i, i ≠ j → g5 20 i = g4 20 i ∧ g5 21 i = g4 21 i) → (∃ a c, g5 20 j = nI (8 + a) ∧ g5 21 j = nI (8 + c) ∧ ((dr = 6 ∧ a = 24 * 0 ∧ c = 16 * 0) ∨ (dr ≠ 6 ∧ ∃ q, q ≤ S 1 x ∧ z_pc S dr x q = 0 ∧ a = z_ws S dr x q ∧ c = z_ls S dr x q))) → B369 g5 (nI j) (nI (s0 + np)) (nI (s0 + 0)) := by
        refine z_up (B := fun i => ∀ g5 : sx_F, (∀ k, k ≠ 20 → k ≠ 21 → g5 k = g4 k) → (∀ i, i ≠ j → g5 20 i = g4 20 i ∧ g5 21 i = g4 21 i) → (∃ a c, g5 20 j = nI (8 + a) ∧ g5 21 j = nI (8 + c) ∧ ((dr = 6 ∧ a = 24 * i ∧ c = 16 * i) ∨ (dr ≠ 6 ∧ ∃ q, q ≤ S 1 x ∧ z_pc S dr x q = i ∧ a = z_ws S dr x q ∧ c = z_ls S dr x q))) → B369 g5 (nI j) (nI (s0 + np)) (nI (s0 + i))) np (fun i hi ihi => ?_)
        intro g5 d1 d2 d3
        obtain ⟨a, cc, d4, d5, d6⟩ := d3
        refine b369 _ _ _ _ (pk_le (s0 + np) (s0 + i) (fun z => nm_e ?_) (fun z => ?_))
        · have ei : i = np := by omega
          rw [nI_1]
          refine ih c g5 (fun k hk => by rw [d1 k (by omega) (by omega), ck k (by omega) (by omega) (by omega), a1 k (by omega) (by omega) (by omega)]; exact f1 k hk) ⟨fun b hb hb2 => ?_, fun b hb hb2 hb3 => ?_⟩
          · rw [d1 16 (by decide) (by decide)]
            by_cases e : z_it S bk b = j + 1
            · rw [e, c16, hspb b hb e]
            · rw [c16' _ e]; exact Y.1 b hb (by omega)
          · by_cases e : z_it S bk b = j
            · have := hsame b hb2 e
              subst this
              rw [hdg, hs0, e, d4, d5]
              refine ⟨a3.cg (fun k i hk _ _ => by rw [d1 k (by omega) (by omega), ck k (by omega) (by omega) (by omega)]), ?_⟩
              rw [hWb, hLb]
              rcases d6 with ⟨e1, e2, e3⟩ | ⟨e1, q, e2, e3, e4, e5⟩
              · rw [if_pos e1] at hnp ⊢
                rw [if_pos e1, e2, e3, ei, hnp]
                exact ⟨rfl, rfl⟩
              · rw [if_neg e1] at hnp ⊢
                rw [if_neg e1, e4, e5]
                have eq : z_cnt (z_pl S dr b) q = z_cnt (z_pl S dr b) (S 1 b) := by
                  show z_pc S dr b q = z_pc S dr b (S 1 b)
                  rw [e3, ei, hnp]
                have q1 : z_ws S dr b q = z_ws S dr b (S 1 b) := z_sm_cnt' eq
                have q2 : z_ls S dr b q = z_ls S dr b (S 1 b) := z_sm_cnt' eq
                rw [q1, q2]
                exact ⟨rfl, rfl⟩
            · have lt : z_it S bk b < j := by omega
              obtain ⟨y1, y2, y3⟩ := Y.2 b hb hb2 lt
              have ho := hold b hb2 lt
              refine ⟨y1.cg (fun k i hk h1 h2 => ?_), ?_, ?_⟩
              · rw [d1 k (by omega) (by omega), ck k (by omega) (by omega) (by omega)]
                exact a2 k i (by omega)
              · rw [(d2 _ e).1, c20' _ e]; exact y2
              · rw [(d2 _ e).2, c21' _ e]; exact y3
        · -- one spring more
          have hin : i < np := by omega
          rw [nI_clamp (n := s0 + i) (by omega), nI_clamp (n := j) (by omega)]
          have v18 : ∃ wi li, g5 18 (s0 + i) = nI wi ∧ g5 19 (s0 + i) = nI li ∧ ((dr = 6 ∧ a + wi = 24 * (i + 1) ∧ cc + li = 16 * (i + 1)) ∨ (dr ≠ 6 ∧ ∃ q, q ≤ S 1 x ∧ z_pc S dr x q = i + 1 ∧ a + wi = z_ws S dr x q ∧ cc + li = z_ls S dr x q)) := by
            have g18 : g5 18 = g3 18 := by rw [d1 18 (by decide) (by decide), ck 18 (by decide) (by decide) (by decide)]
            have g19 : g5 19 = g3 19 := by rw [d1 19 (by decide) (by decide), ck 19 (by decide) (by decide) (by decide)]
            rw [g18, g19]
            rcases d6 with ⟨e1, e2, e3⟩ | ⟨e1, q, e2, e3, e4, e5⟩
            · rw [if_pos e1] at hnp
              have i0 : i = 0 := by omega
              rcases a3 with ⟨-, h2, h3, h4⟩ | ⟨h1, -⟩
              · exact ⟨24, 16, by rw [i0, Nat.add_zero]; exact h3, by rw [i0, Nat.add_zero]; exact h4, Or.inl ⟨e1, by omega, by omega⟩⟩
              · exact absurd e1 h1
            · rw [if_neg e1] at hnp
              rcases a3 with ⟨h1, -⟩ | ⟨-, h2⟩
              · exact absurd h1 e1
              · obtain ⟨q0, k1, k2, k3⟩ := z_cnt_ex (p := z_pl S dr x) (S 1 x) i (by show i < z_pc S dr x (S 1 x); omega)
                have k3' : z_pc S dr x q0 = i := k3
                obtain ⟨-, m2, m3⟩ := h2 q0 k1 k2
                rw [k3'] at m2 m3
                refine ⟨_, _, m2, m3, Or.inr ⟨e1, q0 + 1, by omega, ?_, ?_, ?_⟩⟩
                · show z_pc S dr x q0 + (if z_pl S dr x q0 then 1 else 0) = _
                  rw [k2, k3']; rfl
                · show _ = z_ws S dr x q0 + (if z_pl S dr x q0 then z_wd S dr x q0 else 0)
                  rw [k2, e4, show z_ws S dr x q = z_ws S dr x q0 from z_sm_cnt' (by show z_pc S dr x q = z_pc S dr x q0; rw [e3, k3'])]; rfl
                · show _ = z_ls S dr x q0 + (if z_pl S dr x q0 then z_le S dr x q0 else 0)
                  rw [k2, e5, show z_ls S dr x q = z_ls S dr x q0 from z_sm_cnt' (by show z_pc S dr x q = z_pc S dr x q0; rw [e3, k3'])]; rfl
          obtain ⟨wi, li, v1, v2, v3⟩ := v18
          refine ⟨vp_in_nI (by omega) (by omega), vp_in_nI (by omega) (by omega), vp_in_nI (by omega) (by omega), nm_e ⟨vp_in_nI (by omega) (by omega), vp_in_nI (by omega) (by omega), vp_in_nI (by omega) (by omega), nm_e (nm_e ?_)⟩⟩
          rw [nI_1, d4, v1, nI_add, sx_u_n (by decide : (21 : Nat) ≠ 20), sx_u_n (by decide : (19 : Nat) ≠ 20), d5, v2, nI_add]
          refine ihi hin _ (fun k h1 h2 => by rw [sx_u_n h2, sx_u_n h1]; exact d1 k h1 h2) (fun i' hi' => ⟨by rw [sx_u_n (by decide), sx_u_s, pk_un hi']; exact (d2 i' hi').1, by rw [sx_u_s, pk_un hi', sx_u_n (by decide)]; exact (d2 i' hi').2⟩) ⟨a + wi, cc + li, by rw [sx_u_n (by decide), sx_u_s, pk_us, Nat.add_assoc], by rw [sx_u_s, pk_us, Nat.add_assoc], v3⟩
      refine loop g4 (fun _ _ _ => rfl) (fun _ _ => ⟨rfl, rfl⟩) ⟨0, 0, c20, c21, ?_⟩
      by_cases e : dr = 6
      · exact Or.inl ⟨e, rfl, rfl⟩
      · exact Or.inr ⟨e, 0, by omega, rfl, rfl, rfl⟩
    sorry
  refine key _ (fun k hk => sx_u_n (by omega)) ⟨fun b hb hb2 => ?_, fun b hb hb2 hb3 => absurd hb3 (by omega)⟩
  have e0 : z_it S bk b = 0 := by omega
  rw [e0, sx_u_s, pk_us, show z_spb S bk b = z_spb S bk 0 from z_sm_cnt' (by show z_it S bk b = 0; exact e0)]
  rfl
