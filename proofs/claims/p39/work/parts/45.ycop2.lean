def y_old (g : sx_F) (d : Nat) : Nat → Bool := fun s => decide (¬ g 9 (60 * d + s) = 0 ∧ ¬ g 10 (60 * d + s) = g 5 s)
def y_cl (g : sx_F) (S : z_S) (i b : Nat) : Nat := z_sm (fun k => z_cl g 0 (12 * i + b) k + z_cl g 1 (12 * i + b) k) (S 2 (12 * i + b))
theorem y_cl_sum {g : sx_F} {o : sl_O} {S : z_S} {i : Nat} (B : y_Bw o g) (W : z_W S) (hi : i < 2) : z_sm (fun b => z_sm (z_cl g 0 (12 * i + b)) (S 2 (12 * i + b))) (S 0 0) + z_sm (fun b => z_sm (z_cl g 1 (12 * i + b)) (S 2 (12 * i + b))) (S 0 0) + z_sm (fun b => z_sm (z_cl g 2 (12 * i + b)) (S 2 (12 * i + b))) (S 0 0) = z_sm (y_cl g S i) (S 0 0) := by
  have hn := W.1
  have e2 : z_sm (fun b => z_sm (z_cl g 2 (12 * i + b)) (S 2 (12 * i + b))) (S 0 0) = 0 := y_sm_z _ (fun b hb => y_sm_z _ (fun k hk => by
    have hc := W.2.2.1 (12 * i + b) (by omega)
    have z : z_bM g (2 * 2) (12 * i + b) k = 0 := by
      unfold z_bM
      rw [B.2 (2 * 2) (12 * i + b) k (by omega) (by omega) (by omega) (by omega)]
      split <;> rfl
    unfold z_cl
    rw [if_neg (fun y => y.1 z)]))
  rw [e2, Nat.add_zero, ← y_sm_add]
  refine z_sm_cg _ (fun b _ => ?_)
  exact (y_sm_add _).symm
theorem l_areCopies {t : Nat} {f a g : sx_F} {o : sl_O} {S : z_S} {z : Nat} (ht : t < 1000000) (R : z_R t f g S) (G : y_G a o g S) (hz : z < 10000000) {Q : Int32 → Prop} (h : Q 1) : P_L_areCopies f a o (nI z) Q := by
  intro B26 B27 B32 B86 B87 B92 B156 B164 B172 B178 B191 B205 B274 B275 B301 B309 B315 B318 B339 B357 B369 B421 B458 B466 h26 h27 h32 h86 h87 h92 h156 h164 h172 h178 h191 h205 h274 h275 h301 h309 h315 h318 h339 h357 h369 h421 h458 h466
  obtain ⟨Y, V, P, ⟨c12, m, hm, m1, m2, C⟩, K, Bw⟩ := G
  have W := R.2.2.1
  have hn := Y.1
  have h7 := Y.2.1
  refine v_copies R ⟨y_v35, ?_⟩
  rw [m2, y_cl3, m1]
  refine ⟨fun _ => v_concerts R ⟨y_v45, ?_⟩, fun c => absurd rfl c⟩
  rw [y_cl4, c12]
  refine ⟨fun _ => h27 _ ?_, fun c => absurd rfl c⟩
  -- the end: old marks
  have e466 : ∀ d, d < 6 → B466 1 (nI d) (nI (z_cnt (y_old g d) 60)) := fun d hd => h466 _ _ _ ⟨fun c => absurd c (by decide), fun _ => v_oldMarks R hd ⟨fun _ => h, fun c => absurd rfl c⟩⟩
  -- clashes
  have e318 : ∀ d, d < 6 → B318 1 (nI d) (nI (z_cnt (y_old g d) 60)) (nI 0) := by
    intro d hd
    refine z_up (B := fun i => B318 1 (nI d) (nI (z_cnt (y_old g d) 60)) (nI i)) 2 (fun i hi ih => h318 _ _ _ _ (pk_le 2 i (fun _ => e466 d hd) (fun c => ⟨fun c => absurd c (by decide), fun _ => nm_e ?_⟩)))
    have i1 := ih c
    rw [show (6 : Int32) * nI i = nI (6 * i + 0) from pk_mul 6 i]
    have hle : z_sm (y_cl g S i) 0 = 0 := rfl
    have key : B339 (nI d) (nI (z_cnt (y_old g d) 60)) (nI i) (nI (z_sm (y_cl g S i) 0)) (nI (6 * i + 0)) := by
      refine z_up (B := fun b => B339 (nI d) (nI (z_cnt (y_old g d) 60)) (nI i) (nI (z_sm (y_cl g S i) b)) (nI (6 * i + b))) (S 0 0) (fun b hb ih2 => h339 _ _ _ _ _ ⟨y_v05, ?_⟩)
      rw [y_cl0, h7, show (6 : Int32) * nI i = nI (6 * i) from pk_mul 6 i, nI_add]
      refine pk_le (6 * i + S 0 0) (6 * i + b) (fun c1 => ?_) (fun c1 => ?_)
      · rw [show b = S 0 0 by omega]
        refine v_clashes R ht (by omega) ?_
        rw [y_cl_sum Bw W c]
        exact ⟨fun _ => h458 _ _ _ _ (nm_e (by rw [nI_1]; exact i1)), fun c => absurd rfl c⟩
      · have hb2 : b < S 0 0 := by omega
        have i2 : B339 (nI d) (nI (z_cnt (y_old g d) 60)) (nI i) (nI (z_sm (y_cl g S i) b + y_cl g S i b)) (nI (6 * i + (b + 1))) := ih2 hb2
        unfold y_cl at i2 ⊢
        have hs : 12 * i + b < 60 := by omega
        have hc := W.2.2.1 (12 * i + b) hs
        have hcnt := (Y.2.2.2 i b (by omega) (by omega)).1
        generalize z_sm (fun b => z_sm (fun k => z_cl g 0 (12 * i + b) k + z_cl g 1 (12 * i + b) k) (S 2 (12 * i + b))) b = y at i2 ⊢
        have key2 : B357 (nI d) (nI (z_cnt (y_old g d) 60)) (nI i) (nI (y + z_sm (fun k => z_cl g 0 (12 * i + b) k + z_cl g 1 (12 * i + b) k) 0)) (nI (6 * i + b)) (nI 0) := by
          refine z_up (B := fun k => B357 (nI d) (nI (z_cnt (y_old g d) 60)) (nI i) (nI (y + z_sm (fun k => z_cl g 0 (12 * i + b) k + z_cl g 1 (12 * i + b) k) k)) (nI (6 * i + b)) (nI k)) (S 2 (12 * i + b)) (fun k hk ih3 => h357 _ _ _ _ _ _ ⟨vp_in_nI (by omega) (by omega), ?_⟩)
          rw [nI_clamp (by omega), hcnt]
          refine pk_le (S 2 (12 * i + b)) k (fun c2 => nm_e ?_) (fun c2 => ?_)
          · rw [nI_1, show k = S 2 (12 * i + b) by omega]
            exact i2
          · have i3 : B357 (nI d) (nI (z_cnt (y_old g d) 60)) (nI i) (nI (y + (z_sm (fun k => z_cl g 0 (12 * i + b) k + z_cl g 1 (12 * i + b) k) k + (z_cl g 0 (12 * i + b) k + z_cl g 1 (12 * i + b) k)))) (nI (6 * i + b)) (nI (k + 1)) := ih3 c2
            generalize z_sm (fun k => z_cl g 0 (12 * i + b) k + z_cl g 1 (12 * i + b) k) k = u at i3
            have two : ∀ (st r : Nat), st < 2 → B369 (nI d) (nI (z_cnt (y_old g d) 60)) (nI i) (nI (r + z_cl g st (12 * i + b) k)) (nI (6 * i + b)) (nI k) (nI (2 * (st + 1))) → B369 (nI d) (nI (z_cnt (y_old g d) 60)) (nI i) (nI r) (nI (6 * i + b)) (nI k) (nI (2 * st)) := by
              intro st r hst nx
              refine h369 _ _ _ _ _ _ _ (pk_le 4 (2 * st) (fun c => absurd c (by omega)) (fun _ => ?_))
              rw [nI_1]
              refine l_bowing V Bw (by omega) (by omega) (by omega) (by omega) (l_bowing V Bw (by omega) (by omega) (by omega) (by omega) ?_)
              obtain ⟨-, a1, ha1, ea1⟩ := z_bXM ht R (d := 2 * st) (s := 12 * i + b) (k := k) (by omega) hs (by omega)
              obtain ⟨-, a2, ha2, ea2⟩ := z_bXM ht R (d := 2 * st + 1) (s := 12 * i + b) (k := k) (by omega) hs (by omega)
              unfold z_cl at nx
              rw [ea1, ea2] at nx ⊢
              by_cases cc : ¬ nI a1 = 0 ∧ ¬ nI a2 = 0 ∧ ¬ nI a1 = nI a2
              · rw [if_pos cc] at nx
                refine ⟨fun _ => h421 _ _ _ _ _ _ _ _ (nm_e (nm_e ?_)), fun c => absurd ((y_clp ha1 ha2).mpr cc) c⟩
                rw [nI_1, show nI (2 * st) + 2 = nI (2 * (st + 1)) from nI_add _ 2]
                exact nx
              · rw [if_neg cc] at nx
                refine ⟨fun c => absurd ((y_clp ha1 ha2).mp c) cc, fun _ => h421 _ _ _ _ _ _ _ _ (nm_e (nm_e ?_))⟩
                rw [Int32.add_zero, show nI (2 * st) + 2 = nI (2 * (st + 1)) from nI_add _ 2]
                exact nx
            refine two 0 _ (by omega) (two 1 _ (by omega) (h369 _ _ _ _ _ _ _ (pk_le 4 4 (fun _ => nm_e ?_) (fun c => absurd c (by omega)))))
            rw [nI_1, Nat.add_assoc, Nat.add_assoc]
            exact i3
        exact key2
    exact key
  -- marks
  have e178 : B178 1 := by
    refine h178 _ (nm_e ?_)
    rw [show nI z - nI z / 6 * 6 = nI (z % 6) from pk_rem (d := 6) (by omega) (by omega) (by omega)]
    have hd : z % 6 < 6 := Nat.mod_lt _ (by omega)
    generalize z % 6 = d at hd
    have key : B191 1 (nI d) (nI (z_cnt (y_old g d) (12 * 0 + 0))) (nI 0) := by
      refine z_up (B := fun i => B191 1 (nI d) (nI (z_cnt (y_old g d) (12 * i + 0))) (nI i)) 5 (fun i hi ih => h191 _ _ _ _ (pk_le 5 i (fun c => ?_) (fun c => ⟨fun c => absurd c (by decide), fun _ => ?_⟩)))
      · rw [show i = 5 by omega]
        exact h315 _ _ _ (e318 d hd)
      · have i1 := ih c
        have kk := K d i hd c
        refine z_up (B := fun b => B205 1 (nI d) (nI (z_cnt (y_old g d) (12 * i + b))) (nI i) (nI b)) (S 0 0) (fun b hb ih2 => h205 _ _ _ _ _ ⟨y_v05, ?_⟩)
        rw [y_cl0, h7]
        refine pk_le (S 0 0) b (fun c1 => h309 _ _ _ _ (nm_e ?_)) (fun c1 => ⟨fun c => absurd c (by decide), fun _ => ?_⟩)
        · rw [nI_1]
          have e : z_cnt (y_old g d) (12 * (i + 1) + 0) = z_cnt (y_old g d) (12 * i + b) := y_cnt_fl _ (by omega) (fun j j1 j2 => by
            have := kk.2 (j - 12 * i) (by omega) (by omega)
            rw [show 12 * i + (j - 12 * i) = j by omega] at this
            exact decide_eq_false (fun y => y.1 this))
          rw [← e]
          exact i1
        · have i2 : B205 1 (nI d) (nI (z_cnt (y_old g d) (12 * i + b) + (if y_old g d (12 * i + b) then 1 else 0))) (nI i) (nI (b + 1)) := ih2 c1
          obtain ⟨s, v, hs, hv, e1, e2, e3⟩ := kk.1 b (by omega)
          obtain ⟨w, hw, w1, w2⟩ := V i b c (by omega)
          rw [show y_old g d (12 * i + b) = decide (¬ nI s = 0 ∧ ¬ nI v = nI w) by unfold y_old; rw [e2, e3, w2]] at i2
          rw [show (5 : Int32) * nI d = nI (5 * d) from pk_mul 5 d, nI_add, nI_clamp (n := 5 * d + i) (by omega), show (10 : Int32) * nI b = nI (10 * b) from pk_mul 10 b, y_get (m := 10) (by omega) (by omega) (by decide), e1, y_cell, nI_clamp (n := 6 * i + b) (by omega), w1]
          refine ⟨vp_in_nI (by omega) (by omega), nm_e ?_⟩
          have r1 : nI (s + 16 * v) - nI (s + 16 * v) / 16 * 16 = nI s := (show _ = nI ((s + 16 * v) % 16) from pk_rem (d := 16) (by omega) (by omega) (by omega)).trans (by rw [show (s + 16 * v) % 16 = s by omega])
          have r2 : nI (s + 16 * v) / 16 = nI v := (show _ = nI ((s + 16 * v) / 16) from pk_div (d := 16) (by omega) (by omega) (by omega)).trans (by rw [show (s + 16 * v) / 16 = v by omega])
          have fin : ∀ r : Int32, r = nI (z_cnt (y_old g d) (12 * i + b)) + (if decide (¬ nI s = 0 ∧ ¬ nI v = nI w) then 1 else 0) → B275 (nI d) (nI i) (nI b) (nI (s + 16 * v)) (nI (z_cnt (y_old g d) (12 * i + b))) (if decide (¬ nI s = 0 ∧ ¬ nI v = nI w) then 1 else 0) := by
            intro r hr
            refine h275 _ _ _ _ _ _ (nm_e ?_)
            refine v_markOf R hd c c1 ?_
            rw [e2, r1]
            refine ⟨fun _ => h301 _ _ _ _ _ (nm_e ?_), fun c => absurd rfl c⟩
            rw [nI_1]
            by_cases q : ¬ nI s = 0 ∧ ¬ nI v = nI w
            · rw [decide_eq_true q] at i2 ⊢
              rw [if_pos rfl] at i2 ⊢
              rw [nI_1]
              exact i2
            · rw [decide_eq_false q] at i2 ⊢
              rw [if_neg (by decide)] at i2 ⊢
              rw [Int32.add_zero]
              exact i2
          have fin2 := fin _ rfl
          rw [r1, r2]
          have no : ¬ (¬ nI s = 0 ∧ ¬ nI v = nI w) → B274 (nI d) (nI i) (nI b) (nI (s + 16 * v)) (nI (z_cnt (y_old g d) (12 * i + b))) := fun q => by
            rw [decide_eq_false q, if_neg (by decide)] at fin2
            exact h274 _ _ _ _ _ fin2
          refine pk_le s 0 (fun c2 => no (fun y => y.1 (by rw [show s = 0 by omega]; rfl))) (fun c2 => ⟨vp_in_nI (by omega) (by omega), fun c3 => no (fun y => y.2 c3), fun c3 => ?_⟩)
          rw [decide_eq_true ⟨nI_ne0 (by omega) (by omega), c3⟩, if_pos rfl] at fin2
          exact fin2
    exact key
  -- the copies
  have key : B32 1 (nI 0) := by
    refine z_up (B := fun i => B32 1 (nI i)) m (fun i hi ih => h32 _ _ ⟨y_v35, ?_⟩)
    rw [y_cl3, m1]
    refine pk_le m i (fun _ => e178) (fun c => ⟨fun c => absurd c (by decide), fun _ => v_deskOf R (by omega) m2 c ?_⟩)
    have Ci := C i c
    obtain ⟨x, hx, c1, c2, c3, c4⟩ := C i c
    have i1 := ih c
    rw [y_8, nI_1, nI_clamp (n := 8 * i + 1) (by omega), c3]
    refine ⟨vp_in_nI (by omega) (by omega), fun _ => v_owed R (by omega) m2 c (show x < 5 by omega) c2 (l_owed V Ci hm c hx c2 hn h7 ⟨fun _ => h87 _ _ ?_, fun c => absurd rfl c⟩), fun c => absurd rfl c⟩
    refine z_up (B := fun b => B92 1 (nI i) (nI b)) (S 0 0) (fun b hb ih2 => h92 _ _ _ ⟨y_v05, ?_⟩)
    rw [y_cl0, h7]
    refine pk_le (S 0 0) b (fun _ => h172 _ _ (nm_e (by rw [nI_1]; exact i1))) (fun c5 => ⟨fun c => absurd c (by decide), fun _ => v_has R (by omega) m2 c (show x < 5 by omega) c2 c5 ?_⟩)
    have nx : ∀ r, B156 (nI i) (nI b) r r := fun r => h156 _ _ _ _ ⟨fun _ => h164 _ _ _ (nm_e (by rw [nI_1]; exact ih2 c5)), fun c => absurd rfl c⟩
    rw [y_8, nI_1, nI_clamp (n := 8 * i + 1) (by omega), c3, show nI (8 * i) + 2 = nI (8 * i + 2) from nI_add _ 2, nI_add, nI_clamp (n := 8 * i) (by omega), c1, y_cell, nI_clamp (n := 8 * i + 2 + b) (by omega), nI_clamp (n := 6 * x + b) (by omega)]
    refine ⟨vp_in_nI (by omega) (by omega), ?_⟩
    rcases c4 with e | ⟨⟨d, hd, e⟩, c6⟩
    · rw [e, if_pos rfl]
      obtain ⟨w, hw, w1, w2⟩ := V x b (by omega) (by omega)
      rw [w1, w2]
      exact ⟨fun c => absurd c (by decide), fun _ => ⟨vp_in_nI (by omega) (by omega), vp_in_nI (by omega) (by omega), nx _⟩⟩
    · rw [e, if_neg (z_nm (by omega)), (c6 b (by omega)).1]
      exact ⟨fun _ => ⟨vp_in_nI (by omega) (by omega), nx _⟩, fun c => absurd (nI_pos' (by omega)) c⟩
  exact key
