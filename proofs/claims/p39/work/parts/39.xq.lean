/-! WHAT THE CLASS ANSWERS: the calls that ask -/
section XQ
variable {t : Nat} {f g : sx_F} {S : z_S}
theorem v_bars (R : z_R t f g S) {Q : Int32 → Prop} (h : Q (nI (S 0 0))) : P_X6_bars f Q := by
  unfold P_X6_bars
  rw [R.1.1]; exact h
theorem v_notes (R : z_R t f g S) {i b : Nat} (hi : i < 5) (hb : b < S 0 0) {Q : Int32 → Prop} {X : String → Prop} (h : Q (nI (S 2 (12 * i + b)))) : P_X6_notes f (nI i) (nI b) Q X := by
  have hn := R.2.2.1.1
  have hs : 12 * i + b < 60 := by omega
  refine x_needSlot_t R.1 R.2.2.1 hi hb ⟨vp_in_nI (by omega) (by omega), ?_⟩
  rw [nI_clamp (by omega), R.1.2.2.1 _ hs]
  exact h
theorem v_version (R : z_R t f g S) {i b : Nat} (hi : i < 5) (hb : b < S 0 0) {Q : Int32 → Prop} {X : String → Prop} (h : Q (g 5 (12 * i + b))) : P_X6_version f (nI i) (nI b) Q X := by
  have hn := R.2.2.1.1
  have hs : 12 * i + b < 60 := by omega
  refine x_needSlot_t R.1 R.2.2.1 hi hb ⟨vp_in_nI (by omega) (by omega), ?_⟩
  rw [nI_clamp (by omega), (R.2.2.2.2.1 _ hs).1]
  exact h
theorem v_noteAt (R : z_R t f g S) {i b k : Nat} (hi : i < 5) (hb : b < S 0 0) (hk : k < S 2 (12 * i + b)) {Q : Int32 → Prop} {X : String → Prop} (h : Q (100 * nI (S 3 (8 * (12 * i + b) + k)) + nI (S 4 (8 * (12 * i + b) + k)))) : P_X6_noteAt f (nI i) (nI b) (nI k) Q X := by
  have hn := R.2.2.1.1
  have hs : 12 * i + b < 60 := by omega
  have hc8 := R.2.2.1.2.2.1 _ hs
  refine x_needSlot_t R.1 R.2.2.1 hi hb ⟨vp_in_nI (by omega) (by omega), ?_⟩
  rw [nI_clamp (by omega), R.1.2.2.1 _ hs]
  exact x_needIndex_t hk (by omega) (x_lengthAt R.1 hs (by omega) (x_pitchAt R.1 hs (by omega) h))
theorem v_time (R : z_R t f g S) {b : Nat} (hb : b ≤ S 0 0) {Q : Int32 → Prop} {X : String → Prop} (h : Q (nI (z_tm S b))) : P_X6_time f (nI b) Q X := by
  have hn := R.2.2.1.1
  unfold P_X6_time
  rw [R.1.1, nI_1]
  refine x_needIndex_t (by omega) (by omega) ⟨vp_in_nI (by omega) (by omega), ?_⟩
  rw [nI_clamp (by omega), R.2.2.2.1 b hb]
  exact h
theorem v_timeByBars (R : z_R t f g S) {b : Nat} (hb : b ≤ S 0 0) {Q : Int32 → Prop} {X : String → Prop} (h : Q (nI (z_tm S b))) : P_X6_timeByBars f (nI b) Q X := by
  have hn := R.2.2.1.1
  unfold P_X6_timeByBars
  rw [R.1.1, nI_1]
  exact x_needIndex_t (by omega) (by omega) (x_countTime R.1 R.2.2.1 hb h)
theorem v_copies (R : z_R t f g S) {Q : Int32 → Prop} (h : Q (g 0 11)) : P_X6_copies f Q := by
  obtain ⟨m, hm, e1, e2, -⟩ := R.2.2.2.2.2.2.1
  unfold P_X6_copies
  rw [e1, ← e2]; exact h
theorem v_concerts (R : z_R t f g S) {Q : Int32 → Prop} (h : Q (g 0 12)) : P_X6_concerts f Q := by
  unfold P_X6_concerts
  rw [R.2.2.2.2.2.2.2.1]; exact h
theorem v_m (R : z_R t f g S) {m : Nat} (hm : m ≤ 16) (e : g 0 11 = nI m) : f 0 5 = nI m ∧ ∀ i, i < m → z_C1 f g i := by
  obtain ⟨m', hm', e1, e2, C1, C2⟩ := R.2.2.2.2.2.2.1
  have em : m = m' := (nI_eq (by omega) (by omega)).mp (e.symm.trans e2)
  subst em
  exact ⟨e1, C1⟩
theorem v_deskOf (R : z_R t f g S) {m i : Nat} (hm : m ≤ 16) (e : g 0 11 = nI m) (hi : i < m) {Q : Int32 → Prop} {X : String → Prop} (h : Q (g 7 i)) : P_X6_deskOf f (nI i) Q X := by
  obtain ⟨e1, C1⟩ := v_m R hm e
  unfold P_X6_deskOf
  rw [e1]
  refine x_needIndex_t hi (by omega) ⟨vp_in_nI (by omega) (by omega), nm_e ?_⟩
  rw [nI_clamp (by omega), (C1 i hi).2.1]
  exact h
theorem v_owed (R : z_R t f g S) {m i a : Nat} (hm : m ≤ 16) (e : g 0 11 = nI m) (hi : i < m) (ha : a < 5) (h6 : g 6 i = nI a) {Q : Int32 → Prop} {X : String → Prop} (h : Q (nI (z_cnt (z_owm g i a) (S 0 0)))) : P_X6_owed f (nI i) Q X := by
  obtain ⟨e1, C1⟩ := v_m R hm e
  have hn := R.2.2.1.1
  obtain ⟨⟨a', ha', a1, a2⟩, a3, a4⟩ := C1 i hi
  have ea : a = a' := (nI_eq (by omega) (by omega)).mp (h6.symm.trans a2)
  subst ea
  unfold P_X6_owed
  rw [e1]
  refine x_needIndex_t hi (by omega) ⟨vp_in_nI (by omega) (by omega), nm_e ?_⟩
  rw [nI_clamp (by omega)]
  refine x_countDebts (n := S 0 0) R.1.1 hn a1 ha ?_
  rw [(C1 i hi).cnt R ha hn]
  exact h
theorem v_has (R : z_R t f g S) {m i a b : Nat} (hm : m ≤ 16) (e : g 0 11 = nI m) (hi : i < m) (ha : a < 5) (h6 : g 6 i = nI a) (hb : b < S 0 0) {Q : Int32 → Prop} {X : String → Prop} (h : Q (if g 7 i = -1 then g 5 (12 * a + b) else g 8 (12 * i + b))) : P_X6_has f (nI i) (nI b) Q X := by
  obtain ⟨e1, C1⟩ := v_m R hm e
  have hn := R.2.2.1.1
  obtain ⟨⟨a', ha', a1, a2⟩, a3, a4⟩ := C1 i hi
  have ea : a = a' := (nI_eq (by omega) (by omega)).mp (h6.symm.trans a2)
  subst ea
  unfold P_X6_has
  rw [e1, R.1.1]
  refine x_needIndex_t hi (by omega) (x_needIndex_t hb (by omega) ⟨vp_in_nI (by omega) (by omega), nm_e ?_⟩)
  rw [nI_clamp (by omega)]
  refine x_versionOf a1 ha (by omega) ?_
  rw [a3, (R.2.2.2.2.1 _ (by omega)).1]
  by_cases c : g 7 i = -1
  · rw [if_pos c] at h ⊢; exact h
  · rw [if_neg c] at h ⊢
    rw [(a4.resolve_left c).2 b (by omega)]; exact h
theorem v_markOf (R : z_R t f g S) {d i b : Nat} (hd : d < 6) (hi : i < 5) (hb : b < S 0 0) {Q : Int32 → Prop} {X : String → Prop} (h : Q (g 9 (60 * d + (12 * i + b)))) : P_X6_markOf f (nI d) (nI i) (nI b) Q X := by
  have hn := R.2.2.1.1
  unfold P_X6_markOf
  refine x_needIndex_t (n := 6) hd (by omega) ⟨vp_in_nI (by omega) (by omega), nm_e ?_⟩
  rw [nI_clamp (by omega)]
  refine x_needSlot_t R.1 R.2.2.1 hi hb ⟨vp_in_nI (by omega) (by omega), ?_⟩
  rw [nI_clamp (by omega)]
  obtain ⟨⟨⟨a, ha, a1, a2⟩, -⟩, -⟩ := R.2.2.2.2.2.2.2.2 d (12 * i + b) hd (by omega)
  rw [a1, ← a2]; exact h
theorem v_oldMarks (R : z_R t f g S) {d : Nat} (hd : d < 6) {Q : Int32 → Prop} {X : String → Prop} (h : Q (nI (z_cnt (fun s => decide (¬ g 9 (60 * d + s) = 0 ∧ ¬ g 10 (60 * d + s) = g 5 s)) 60))) : P_X6_oldMarks f (nI d) Q X := by
  unfold P_X6_oldMarks
  refine x_needIndex_t (n := 6) hd (by omega) ⟨vp_in_nI (by omega) (by omega), nm_e ?_⟩
  rw [nI_clamp (by omega)]
  have hD := fun s (hs : s < 60) => (R.2.2.2.2.2.2.2.2 d s hd hs).1
  have hv := fun s (hs : s < 60) => (R.2.2.2.2.1 s hs).1
  have hc : z_cnt (fun s => decide (¬ f (99 + 5 * d + 1) s = 0 ∧ ¬ f (99 + 5 * d + 2) s = f 4 s)) 60 = z_cnt (fun s => decide (¬ g 9 (60 * d + s) = 0 ∧ ¬ g 10 (60 * d + s) = g 5 s)) 60 := z_cnt_c 60 (fun s hs => by
    obtain ⟨⟨a, ha, a1, a2⟩, a3⟩ := hD s hs
    rw [a1, a2, a3, hv s hs])
  intro B4 B37 h4 h37
  refine z_up (B := fun k => B4 (nI (z_cnt (fun s => decide (¬ f (99 + 5 * d + 1) s = 0 ∧ ¬ f (99 + 5 * d + 2) s = f 4 s)) k)) (nI k)) 60 (fun k hk ih => h4 _ _ (pk_le 60 k (fun c => ?_) (fun c => ?_)))
  · rw [show k = 60 by omega, hc]
    exact h
  · rw [nI_clamp (by omega)]
    have i2 : B4 (nI (z_cnt (fun s => decide (¬ f (99 + 5 * d + 1) s = 0 ∧ ¬ f (99 + 5 * d + 2) s = f 4 s)) k + (if decide (¬ f (99 + 5 * d + 1) k = 0 ∧ ¬ f (99 + 5 * d + 2) k = f 4 k) then 1 else 0))) (nI (k + 1)) := ih c
    have no : ¬ (¬ f (99 + 5 * d + 1) k = 0 ∧ ¬ f (99 + 5 * d + 2) k = f 4 k) → B37 (nI (z_cnt (fun s => decide (¬ f (99 + 5 * d + 1) s = 0 ∧ ¬ f (99 + 5 * d + 2) s = f 4 s)) k)) (nI k) := fun z => by
      rw [decide_eq_false z] at i2
      exact h37 _ _ (nm_e (by rw [nI_1]; exact i2))
    refine ⟨vp_in_nI (by omega) (by omega), fun y => no (fun w => w.1 y), fun y => ⟨vp_in_nI (by omega) (by omega), vp_in_nI (by omega) (by omega), fun y2 => no (fun w => w.2 y2), fun y2 => nm_e ?_⟩⟩
    rw [decide_eq_true (show ¬ f (99 + 5 * d + 1) k = 0 ∧ ¬ f (99 + 5 * d + 2) k = f 4 k from ⟨y, y2⟩)] at i2
    exact h37 _ _ (nm_e (by rw [nI_1, nI_1]; exact i2))
theorem v_clashes (R : z_R t f g S) (ht : t < 1000000) {i : Nat} (hi : i < 5) {Q : Int32 → Prop} {X : String → Prop} (h : Q (nI (z_sm (fun b => z_sm (z_cl g 0 (12 * i + b)) (S 2 (12 * i + b))) (S 0 0) + z_sm (fun b => z_sm (z_cl g 1 (12 * i + b)) (S 2 (12 * i + b))) (S 0 0) + z_sm (fun b => z_sm (z_cl g 2 (12 * i + b)) (S 2 (12 * i + b))) (S 0 0)))) : P_X6_clashes f (nI i) Q X := by
  intro B9 h9
  refine x_needIndex_t (n := 5) hi (by omega) ?_
  have one : ∀ st y, st < 3 → B9 (nI (y + z_sm (fun b => z_sm (z_cl g st (12 * i + b)) (S 2 (12 * i + b))) (S 0 0))) (nI (st + 1)) → B9 (nI y) (nI st) := by
    intro st y hst nx
    refine h9 _ _ (pk_le 3 st (fun c => absurd c (by omega)) (fun _ => ?_))
    rw [show (2 : Int32) * nI st = nI (2 * st) from pk_mul 2 st, nI_1, nI_clamp (by omega), nI_clamp (by omega)]
    refine ⟨vp_in_nI (by omega) (by omega), nm_e ⟨vp_in_nI (by omega) (by omega), nm_e (x_clashesAt ht R hi hst (nm_e (nm_e ?_)))⟩⟩
    rw [nI_add, nI_1]
    exact nx
  refine one 0 0 (by omega) (one 1 _ (by omega) (one 2 _ (by omega) (h9 _ _ (pk_le 3 3 (fun _ => ?_) (fun c => absurd c (by omega))))))
  rw [Nat.zero_add]
  exact h
theorem v_items (R : z_R t f g S) {bk : Nat} (hbk : bk ≤ 5) {Q : Int32 → sx_F → Prop} {X : String → sx_F → Prop} (h : ∀ f', z_fx f f' → Q (nI (z_it S bk (S 0 0))) f') : P_X6_items f (nI bk) Q X := by
  unfold P_X6_items
  refine x_openBook R hbk (fun f' fx _ _ _ _ _ G => ?_)
  rw [G.1]; exact h f' fx
theorem v_itemOf (R : z_R t f g S) {bk b : Nat} (hbk : bk ≤ 5) (hb : b < S 0 0) {Q : Int32 → sx_F → Prop} {X : String → sx_F → Prop} (h : ∀ f', z_fx f f' → Q (nI (z_it S bk (b + 1) - 1)) f') : P_X6_itemOf f (nI bk) (nI b) Q X := by
  have hn := R.2.2.1.1
  unfold P_X6_itemOf
  refine x_openBook R hbk (fun f' fx Z' _ _ _ _ G => ?_)
  rw [Z'.1]
  refine x_needIndex_t hb (by omega) ⟨vp_in_nI (by omega) (by omega), ?_⟩
  rw [nI_clamp (by omega), G.2.2.1 b hb]
  exact h f' fx
theorem v_cue (R : z_R t f g S) {i b : Nat} (hi : i < 5) (hb : b < S 0 0) {Q : Int32 → Prop} {X : String → Prop} (h : Q (z_dr (z_cueX S i b))) : P_X6_cue f (nI i) (nI b) Q X :=
  x_needSlot_t R.1 R.2.2.1 hi hb (x_cuePlayer R.1 R.2.2.1 hi hb h)
theorem v_width (R : z_R t f g S) {bk j : Nat} (hbk : bk ≤ 5) (hj : j < z_it S bk (S 0 0)) {Q : Int32 → sx_F → Prop} {X : String → sx_F → Prop} (h : ∀ f', z_fx f f' → Q (nI (8 + z_IW S bk j)) f') : P_X6_width f (nI bk) (nI j) Q X := by
  have hn := R.2.2.1.1
  have hitn : z_it S bk (S 0 0) ≤ S 0 0 := z_cnt_le _
  unfold P_X6_width
  refine x_openBook R hbk (fun f' fx Z' _ _ _ _ G => ?_)
  rw [G.1]
  refine x_needIndex_t hj (by omega) ?_
  unfold P_X0_widthOf
  rw [nI_1, nI_clamp (n := j + 1) (by omega), nI_clamp (n := j) (by omega), (G.sums (show j + 1 ≤ _ from hj)).1, (G.sums (show j ≤ _ by omega)).1, z_widI (z_IW S bk) (by omega), z_wid_1]
  exact ⟨vp_in_nI (by omega) (by omega), vp_in_nI (by omega) (by omega), h f' fx⟩
theorem v_wq (R : z_R t f g S) {w q w' q' : Nat} (h1 : g 0 6 = nI w) (h2 : w ≤ 500) (h3 : g 0 7 = nI q) (h4 : q ≤ 6) (e1 : g 0 6 = nI w') (e2 : w' ≤ 500) (e3 : g 0 7 = nI q') (e4 : q' ≤ 6) : w' = w ∧ q' = q :=
  ⟨(nI_eq (by omega) (by omega)).mp (e1.symm.trans h1), (nI_eq (by omega) (by omega)).mp (e3.symm.trans h3)⟩
theorem v_lines (R : z_R t f g S) {bk w q : Nat} (hbk : bk ≤ 5) (h1 : g 0 6 = nI w) (h2 : w ≤ 500) (h3 : g 0 7 = nI q) (h4 : q ≤ 6) {Q : Int32 → sx_F → Prop} {X : String → sx_F → Prop} (h : ∀ f', z_fx f f' → Q (nI (z_Z (z_it S bk (S 0 0)) (z_IW S bk) (z_IL S bk) (z_IT S bk) w q 0 0).2.1) f') : P_X6_lines f (nI bk) Q X := by
  unfold P_X6_lines
  refine x_breakBook R hbk (fun f' w' q' p1 p2 p3 p4 p5 p6 fx _ _ _ _ _ _ u1 _ _ _ => ?_)
  obtain ⟨rfl, rfl⟩ := v_wq R h1 h2 h3 h4 p5 p2 p6 p4
  rw [u1]; exact h f' fx
theorem v_turns (R : z_R t f g S) {bk w q : Nat} (hbk : bk ≤ 5) (h1 : g 0 6 = nI w) (h2 : w ≤ 500) (h3 : g 0 7 = nI q) (h4 : q ≤ 6) {Q : Int32 → sx_F → Prop} {X : String → sx_F → Prop} (h : ∀ f', z_fx f f' → Q (nI (z_tn (z_Z (z_it S bk (S 0 0)) (z_IW S bk) (z_IL S bk) (z_IT S bk) w q) (z_IT S bk) q (z_Z (z_it S bk (S 0 0)) (z_IW S bk) (z_IL S bk) (z_IT S bk) w q 0 0).2.1)) f') : P_X6_turns f (nI bk) Q X := by
  unfold P_X6_turns
  refine x_breakBook R hbk (fun f' w' q' p1 p2 p3 p4 p5 p6 fx _ _ _ _ _ _ _ u2 _ _ => ?_)
  obtain ⟨rfl, rfl⟩ := v_wq R h1 h2 h3 h4 p5 p2 p6 p4
  rw [u2]; exact h f' fx
theorem v_cost (R : z_R t f g S) {bk w q : Nat} (hbk : bk ≤ 5) (h1 : g 0 6 = nI w) (h2 : w ≤ 500) (h3 : g 0 7 = nI q) (h4 : q ≤ 6) {Q : Int32 → sx_F → Prop} {X : String → sx_F → Prop} (h : ∀ f', z_fx f f' → Q (nI (z_Z (z_it S bk (S 0 0)) (z_IW S bk) (z_IL S bk) (z_IT S bk) w q 0 0).1) f') : P_X6_cost f (nI bk) Q X := by
  unfold P_X6_cost
  refine x_breakBook R hbk (fun f' w' q' p1 p2 p3 p4 p5 p6 fx _ _ _ _ _ rw0 _ _ _ _ => ⟨by unfold vp_in; decide, nm_e ⟨by unfold vp_in; decide, ?_⟩⟩)
  obtain ⟨rfl, rfl⟩ := v_wq R h1 h2 h3 h4 p5 p2 p6 p4
  rw [sb_cl0, show f' (22 + 0) 0 = _ from (rw0 0 0 (Nat.le_refl _) (Nat.zero_le _) (by omega)).1]
  exact h f' fx
theorem v_costByAll (R : z_R t f g S) {bk w q : Nat} (hbk : bk ≤ 5) (h1 : g 0 6 = nI w) (h2 : w ≤ 500) (h3 : g 0 7 = nI q) (h4 : q ≤ 6) {Q : Int32 → sx_F → Prop} {X : String → sx_F → Prop} (h : ∀ f', z_fx f f' → Q (nI (z_Z (z_it S bk (S 0 0)) (z_IW S bk) (z_IL S bk) (z_IT S bk) w q 0 0).1) f') : P_X6_costByAll f (nI bk) Q X := by
  have W := R.2.2.1
  have hn := W.1
  obtain ⟨w', q', p1, p2, p3, p4, p5, p6, p7, p8, -⟩ := R.2.2.2.2.2.1
  obtain ⟨rfl, rfl⟩ := v_wq R h1 h2 h3 h4 p6 p2 p8 p4
  unfold P_X6_costByAll
  have hitn : z_it S bk (S 0 0) ≤ S 0 0 := z_cnt_le _
  refine x_openBook R hbk (fun f' fx Z' f19 _ _ h8 G => ?_)
  refine x_priceTurns Z' W hbk h8 G (fun f1 a1 a2 a3 => ?_)
  have hB : z_Bk f1 (z_it S bk (S 0 0)) (z_IW S bk) (z_IL S bk) (z_IT S bk) w' q' := by
    refine ⟨by rw [a1 8 (by decide)]; exact G.1, fun j hj => by rw [a1 17 (by decide), a1 18 (by decide)]; exact G.sums hj, fun j hj => ?_, by rw [a1 19 (by decide), f19 19 (by omega)]; exact p5, by rw [a1 19 (by decide), f19 19 (by omega)]; exact p7⟩
    unfold z_IT
    by_cases e : j < z_it S bk (S 0 0)
    · rw [if_pos e]
      obtain ⟨x, hx, hnx, hjx⟩ := z_cnt_ex (p := z_new S bk) (S 0 0) j e
      have hjx : z_it S bk x = j := hjx
      have ex := z_xb_eq hx hnx
      rw [hjx] at ex
      rw [ex, ← hjx]
      exact a2 x hx hnx
    · rw [if_neg e, show j = z_it S bk (S 0 0) by omega]
      exact a3
  have fx1 : z_fx f f1 := fx.trans ⟨fun k hk => a1 k (by omega), fun k j hk => by rw [a1 k (by omega)]⟩
  exact x_leastOfAllWays hB (by omega) p2 p4 (fun j hj => (z_IW_b W hbk hj).1) (fun j hj => (z_IW_b W hbk hj).2.2) (fun j => z_IT_le) (z_it S bk (S 0 0)) 14 0 0 0 (by omega) (by omega) (by omega) (by omega) _ (h f1 fx1)
theorem v_lineOf (R : z_R t f g S) {bk b w q l : Nat} (hbk : bk ≤ 5) (hb : b < S 0 0) (h1 : g 0 6 = nI w) (h2 : w ≤ 500) (h3 : g 0 7 = nI q) (h4 : q ≤ 6) (l1 : l < (z_Z (z_it S bk (S 0 0)) (z_IW S bk) (z_IL S bk) (z_IT S bk) w q 0 0).2.1) (l2 : z_ps (z_Z (z_it S bk (S 0 0)) (z_IW S bk) (z_IL S bk) (z_IT S bk) w q) q l ≤ z_it S bk (b + 1) - 1) (l3 : z_it S bk (b + 1) - 1 < z_ps (z_Z (z_it S bk (S 0 0)) (z_IW S bk) (z_IL S bk) (z_IT S bk) w q) q (l + 1)) {Q : Int32 → sx_F → Prop} {X : String → sx_F → Prop} (h : ∀ f', z_fx f f' → Q (nI l) f') : P_X6_lineOf f (nI bk) (nI b) Q X := by
  have hn := R.2.2.1.1
  unfold P_X6_lineOf
  refine x_breakBook R hbk (fun f' w' q' p1 p2 p3 p4 p5 p6 fx Z' _ _ G _ _ _ _ ln _ => ?_)
  obtain ⟨rfl, rfl⟩ := v_wq R h1 h2 h3 h4 p5 p2 p6 p4
  rw [Z'.1]
  have hitn : z_it S bk (S 0 0) ≤ S 0 0 := z_cnt_le _
  have hp := z_it_pos (S := S) (bk := bk) (show 0 < b + 1 by omega)
  have hmono : z_it S bk (b + 1) ≤ z_it S bk (S 0 0) := z_cnt_mono (show b + 1 ≤ S 0 0 from hb)
  refine x_needIndex_t hb (by omega) ⟨vp_in_nI (by omega) (by omega), ?_⟩
  rw [nI_clamp (n := b) (by omega), G.2.2.1 b hb]
  refine ⟨vp_in_nI (by omega) (by omega), ?_⟩
  rw [nI_clamp (n := z_it S bk (b + 1) - 1) (by omega), ln.2 l _ l1 l2 l3]
  exact h f' fx
end XQ
