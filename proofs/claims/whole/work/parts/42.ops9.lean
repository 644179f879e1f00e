def z_sm (p : Nat → Nat) : Nat → Nat | 0 => 0 | k + 1 => z_sm p k + p k
theorem z_sm_c {p q : Nat → Nat} : ∀ k, (∀ j, j < k → p j = q j) → z_sm p k = z_sm q k
  | 0, _ => rfl
  | k + 1, h => by
    unfold z_sm
    rw [z_sm_c k (fun j hj => h j (by omega)), h k (by omega)]
theorem z_sm_3 (p q r : Nat → Nat) : ∀ n, z_sm (fun k => p k + q k + r k) n = z_sm p n + z_sm q n + z_sm r n
  | 0 => rfl
  | n + 1 => by
    have := z_sm_3 p q r n
    unfold z_sm
    omega
def z_cl (g : sx_F) (st s k : Nat) : Nat := if ¬ z_bM g (2 * st) s k = 0 ∧ ¬ z_bM g (2 * st + 1) s k = 0 ∧ ¬ z_bM g (2 * st) s k = z_bM g (2 * st + 1) s k then 1 else 0
theorem x_clashesAt {t : Nat} {f g : sx_F} {S : z_S} {i st : Nat} {Q : Int32 → Prop} (ht : t < 1000000) (R : z_R t f g S) (hi : i < 5) (hst : st < 3) (h : Q (nI (z_sm (fun b => z_sm (z_cl g st (12 * i + b)) (S 2 (12 * i + b))) (S 0 0)))) : P_X6_clashesAt f (99 + 5 * (2 * st)) (99 + 5 * (2 * st + 1)) (nI i) Q := by
  have hn := R.2.2.1.1
  intro B6 B41 B100 h6 h41 h100
  refine z_up (B := fun b => B6 (nI (z_sm (fun b => z_sm (z_cl g st (12 * i + b)) (S 2 (12 * i + b))) b)) (nI b)) (S 0 0) (fun b hb ih => h6 _ _ ?_)
  rw [R.1.1]
  refine pk_le (S 0 0) b (fun c => by rw [show b = S 0 0 by omega]; exact h) (fun c => x_slotOf ⟨vp_in_nI (by omega) (by omega), nm_e ?_⟩)
  have i1 : B6 (nI (z_sm (fun b => z_sm (z_cl g st (12 * i + b)) (S 2 (12 * i + b))) b + z_sm (z_cl g st (12 * i + b)) (S 2 (12 * i + b)))) (nI (b + 1)) := ih c
  have hs : 12 * i + b < 60 := by omega
  generalize 12 * i + b = s at hs i1
  have hc := R.2.2.1.2.2.1 s hs
  rw [nI_clamp (by omega)]
  generalize z_sm (fun b => z_sm (z_cl g st (12 * i + b)) (S 2 (12 * i + b))) b = z at i1
  have key : B41 (nI (z + z_sm (z_cl g st s) 0)) (nI b) (nI s) (f 4 s) (nI 0) := by
    refine z_up (B := fun k => B41 (nI (z + z_sm (z_cl g st s) k)) (nI b) (nI s) (f 4 s) (nI k)) (S 2 s) (fun k hk ih => h41 _ _ _ _ _ ⟨vp_in_nI (by omega) (by omega), ?_⟩)
    rw [nI_clamp (by omega), R.1.2.2.1 s hs]
    refine pk_le (S 2 s) k (fun c => nm_e ?_) (fun c => x_bowingAt hs (x_bowingAt hs ?_))
    · rw [show k = S 2 s by omega, nI_1]; exact i1
    · have i2 : B41 (nI (z + (z_sm (z_cl g st s) k + z_cl g st s k))) (nI b) (nI s) (f 4 s) (nI (k + 1)) := ih c
      rw [(z_bXM ht R (d := 2 * st) (by omega) hs (by omega)).1, (z_bXM ht R (d := 2 * st + 1) (by omega) hs (by omega)).1]
      unfold z_cl at i2
      have no : ¬ (¬ z_bM g (2 * st) s k = 0 ∧ ¬ z_bM g (2 * st + 1) s k = 0 ∧ ¬ z_bM g (2 * st) s k = z_bM g (2 * st + 1) s k) → B100 (nI (z + z_sm (z_cl g st s) k)) (nI b) (nI s) (f 4 s) (nI k) := fun y => by
        rw [if_neg y] at i2
        exact h100 _ _ _ _ _ (nm_e (by rw [nI_1]; exact i2))
      refine ⟨fun y => no (fun w => w.1 y), fun y1 => ⟨fun y => no (fun w => w.2.1 y), fun y2 => ⟨fun y => no (fun w => w.2.2 y), fun y3 => nm_e ?_⟩⟩⟩
      rw [if_pos ⟨y1, y2, y3⟩] at i2
      exact h100 _ _ _ _ _ (nm_e (by rw [nI_1, nI_1]; exact i2))
  exact key
theorem m_clashes {t : Nat} {f g : sx_F} {S : z_S} {i : Nat} {QQ : Int32 → sx_F → Prop} (ht : t < 1000000) (R : z_R t f g S) (hi : i < 5) (h : QQ (nI (z_sm (fun b => z_sm (fun k => z_cl g 0 (12 * i + b) k + z_cl g 1 (12 * i + b) k + z_cl g 2 (12 * i + b) k) (S 2 (12 * i + b))) (S 0 0))) (sx_u g 0 33 0)) : P_X7_clashes g (nI i) QQ := by
  have hn := R.2.2.1.1
  intro B16 B40 B55 B110 B111 h16 h40 h55 h110 h111
  refine m_isInstrument ?_
  rw [z_yes hi (by omega)]
  refine m_goes_0 ?_
  have g5 : (sx_u g 0 33 0) 0 5 = nI (S 0 0) := by rw [sx_u_s, pk_un (by decide)]; exact R.2.1.1
  have gb : ∀ d s k, z_bM (sx_u g 0 33 0) d s k = z_bM g d s k := fun d s k => by unfold z_bM; rw [sx_u_n (by decide), sx_u_n (by decide), sx_u_n (by decide)]
  have g4 : (sx_u g 0 33 0) 4 = g 4 := sx_u_n (by decide)
  generalize sx_u g 0 33 0 = g0 at g5 gb g4 h ⊢
  refine z_up (B := fun b => B16 g0 (nI (z_sm (fun b => z_sm (fun k => z_cl g 0 (12 * i + b) k + z_cl g 1 (12 * i + b) k + z_cl g 2 (12 * i + b) k) (S 2 (12 * i + b))) b)) 1 (nI b)) (S 0 0) (fun b hb ih => h16 _ _ _ _ ⟨fun c => absurd c (by decide), fun _ => ?_⟩)
  rw [g5]
  refine pk_le (S 0 0) b (fun c => by rw [show b = S 0 0 by omega]; exact h) (fun c => m_cell ?_)
  have i1 : B16 g0 (nI (z_sm (fun b => z_sm (fun k => z_cl g 0 (12 * i + b) k + z_cl g 1 (12 * i + b) k + z_cl g 2 (12 * i + b) k) (S 2 (12 * i + b))) b + z_sm (fun k => z_cl g 0 (12 * i + b) k + z_cl g 1 (12 * i + b) k + z_cl g 2 (12 * i + b) k) (S 2 (12 * i + b)))) 1 (nI (b + 1)) := ih c
  have hs : 12 * i + b < 60 := by omega
  generalize 12 * i + b = s at hs i1
  have hc := R.2.2.1.2.2.1 s hs
  generalize z_sm (fun b => z_sm (fun k => z_cl g 0 (12 * i + b) k + z_cl g 1 (12 * i + b) k + z_cl g 2 (12 * i + b) k) (S 2 (12 * i + b))) b = z at i1
  have key : B40 g0 (nI (z + z_sm (fun k => z_cl g 0 s k + z_cl g 1 s k + z_cl g 2 s k) 0)) 1 (nI b) (nI s) (nI 0) := by
    refine z_up (B := fun k => B40 g0 (nI (z + z_sm (fun k => z_cl g 0 s k + z_cl g 1 s k + z_cl g 2 s k) k)) 1 (nI b) (nI s) (nI k)) (S 2 s) (fun k hk ih => h40 _ _ _ _ _ _ ⟨vp_in_nI (by omega) (by omega), ?_⟩)
    rw [nI_clamp (by omega), g4, R.2.1.2.2.1 s hs]
    refine pk_le (S 2 s) k (fun c => nm_e ?_) (fun c => ?_)
    · rw [show k = S 2 s by omega, nI_1]; exact i1
    have i2 : B40 g0 (nI (z + (z_sm (fun k => z_cl g 0 s k + z_cl g 1 s k + z_cl g 2 s k) k + (z_cl g 0 s k + z_cl g 1 s k + z_cl g 2 s k)))) 1 (nI b) (nI s) (nI (k + 1)) := ih c
    generalize z_sm (fun k => z_cl g 0 s k + z_cl g 1 s k + z_cl g 2 s k) k = y at i2
    -- one stand
    have one : ∀ st x, st < 3 → B55 g0 (nI (x + z_cl g st s k)) 1 (nI b) (nI s) (nI k) (nI (2 * st + 2)) → B55 g0 (nI x) 1 (nI b) (nI s) (nI k) (nI (2 * st)) := by
      intro st x hst nx
      refine h55 _ _ _ _ _ _ _ (pk_le 6 (2 * st) (fun c => absurd c (by omega)) (fun _ => m_bowing (by omega) hs (by omega) ?_))
      rw [nI_1]
      refine m_bowing (by omega) hs (by omega) ?_
      rw [gb, gb]
      obtain ⟨a, ha, ea⟩ := (z_bXM ht R (d := 2 * st) (by omega) hs (show k < 8 by omega)).2
      obtain ⟨a', ha', ea'⟩ := (z_bXM ht R (d := 2 * st + 1) (by omega) hs (show k < 8 by omega)).2
      unfold z_cl at nx
      rw [ea, ea'] at nx ⊢
      have e1 : (nI a = 0) ↔ a = 0 := nI_eq (a := a) (b := 0) (by omega) (by omega)
      have e2 : (nI a' = 0) ↔ a' = 0 := nI_eq (a := a') (b := 0) (by omega) (by omega)
      have e3 : (nI a = nI a') ↔ a = a' := nI_eq (by omega) (by omega)
      simp only [e1, e2, e3] at nx
      have no : ¬ (¬ a = 0 ∧ ¬ a' = 0 ∧ ¬ a = a') → B110 g0 1 (nI b) (nI s) (nI k) (nI (2 * st)) (nI x) := fun w => by
        rw [if_neg w] at nx
        refine h110 _ _ _ _ _ _ _ (h111 _ _ _ _ _ _ _ _ (nm_e (nm_e ?_)))
        rw [Int32.add_zero, z_l2, nI_add]; exact nx
      refine pk_le a 0 (fun c => no (fun w => w.1 (by omega))) (fun c1 => pk_le a' 0 (fun c => no (fun w => w.2.1 (by omega))) (fun c2 => pk_eq a a' (fun c => no (fun w => w.2.2 c)) (fun c3 => h111 _ _ _ _ _ _ _ _ (nm_e (nm_e ?_)))))
      rw [if_pos ⟨by omega, by omega, c3⟩] at nx
      rw [nI_1, z_l2, nI_add]; exact nx
    refine one 0 _ (by omega) (one 1 _ (by omega) (one 2 _ (by omega) (h55 _ _ _ _ _ _ _ (pk_le 6 6 (fun _ => nm_e ?_) (fun c => absurd c (by omega))))))
    rw [nI_1, show z + y + z_cl g 0 s k + z_cl g 1 s k + z_cl g 2 s k = z + (y + (z_cl g 0 s k + z_cl g 1 s k + z_cl g 2 s k)) by omega]
    exact i2
  exact key
theorem k_clashes {t : Nat} {f g : sx_F} {o : Nat → Int64} {x : Int32} (ht : t < 1000000) (h : z_I t f g) : P_case_clashes f g o x (z_I (t + 1)) := by
  have hI := h
  obtain ⟨S, R⟩ := h
  unfold P_case_clashes P_L_clashes
  have bad : ∀ QQ : Int32 → sx_F → Prop, (x < 0 ∨ nI 5 ≤ x) → QQ 0 (sx_u g 0 33 1) → P_X7_clashes g x QQ := by
    intro QQ hb q B16 B40 B55 B110 B111 h16 h40 h55 h110 h111
    refine m_isInstrument ?_
    rw [z_no hb]
    exact m_goes_1 (h16 _ _ _ _ ⟨fun _ => q, fun c => absurd rfl c⟩)
  intro B9 h9
  rcases pk_ix x (n := 5) (by omega) with hx | hx | ⟨i, hi, rfl⟩
  · exact x_needIndex_f (Or.inl hx) ⟨rfl, bad _ (Or.inl hx) (z_finE z_33 (by decide) (hI.go _))⟩
  · exact x_needIndex_f (Or.inr hx) ⟨rfl, bad _ (Or.inr hx) (z_finE z_33 (by decide) (hI.go _))⟩
  refine x_needIndex_t (n := 5) hi (by omega) ?_
  have one : ∀ st y, st < 3 → B9 (nI (y + z_sm (fun b => z_sm (z_cl g st (12 * i + b)) (S 2 (12 * i + b))) (S 0 0))) (nI (st + 1)) → B9 (nI y) (nI st) := by
    intro st y hst nx
    refine h9 _ _ (pk_le 3 st (fun c => absurd c (by omega)) (fun _ => ?_))
    rw [show (2 : Int32) * nI st = nI (2 * st) from pk_mul 2 st, nI_1, nI_clamp (by omega), nI_clamp (by omega)]
    refine ⟨vp_in_nI (by omega) (by omega), nm_e ⟨vp_in_nI (by omega) (by omega), nm_e (x_clashesAt ht R hi hst (nm_e (nm_e ?_)))⟩⟩
    rw [nI_add, nI_1]
    exact nx
  refine one 0 0 (by omega) (one 1 _ (by omega) (one 2 _ (by omega) (h9 _ _ (pk_le 3 3 (fun _ => nm_e (m_clashes ht R hi (z_fin0 z_33 ?_ (hI.go _)))) (fun c => absurd c (by omega))))))
  refine congrArg nI ?_
  rw [z_sm_c (p := fun b => z_sm (fun k => z_cl g 0 (12 * i + b) k + z_cl g 1 (12 * i + b) k + z_cl g 2 (12 * i + b) k) (S 2 (12 * i + b))) (q := fun b => z_sm (z_cl g 0 (12 * i + b)) (S 2 (12 * i + b)) + z_sm (z_cl g 1 (12 * i + b)) (S 2 (12 * i + b)) + z_sm (z_cl g 2 (12 * i + b)) (S 2 (12 * i + b))) (S 0 0) (fun b _ => z_sm_3 _ _ _ _), z_sm_3]
  omega
