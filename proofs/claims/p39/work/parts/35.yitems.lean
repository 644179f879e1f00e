/-! THE LAW'S ITEMS -/
def y_xe (S : z_S) (bk j : Nat) : Nat := if j + 1 < z_it S bk (S 0 0) then z_xb S bk (j + 1) else S 0 0
def y_R (t : Nat → Int32) (S : z_S) (bk j : Nat) : Prop := t (5 * j) = nI (z_xb S bk j) ∧ t (5 * j + 1) = nI (y_xe S bk j - 1) ∧ t (5 * j + 2) = z_dr (z_drw S bk (z_xb S bk j))
def y_T (t : Nat → Int32) (S : z_S) (bk : Nat) : Prop := ∀ j, j < z_it S bk (S 0 0) → y_R t S bk j ∧ t (5 * j + 3) = nI (8 + z_IW S bk j) ∧ t (5 * j + 4) = nI (8 + z_IL S bk j)
theorem y_N.cg {a a' : sx_F} {o : sl_O} {S : z_S} (Y : y_N a o S) (h : ∀ i, i ≠ 8 → a' i = a i) : y_N a' o S := by
  unfold y_N at Y ⊢
  rw [h 7 (by decide), h 3 (by decide), h 1 (by decide)]
  exact Y
def y_si (S : z_S) (bk x : Nat) : Bool := decide (bk < 5) && z_sil S (12 * bk + x)
theorem y_si_t {S : z_S} {bk x : Nat} : y_si S bk x = true ↔ bk < 5 ∧ z_sil S (12 * bk + x) = true := by
  unfold y_si
  rw [Bool.and_eq_true, decide_eq_true_iff]
theorem y_drw_f {S : z_S} {bk x : Nat} (hk : bk ≤ 5) (h : y_si S bk x = false) : z_drw S bk x = bk := by
  unfold z_drw
  refine if_pos ?_
  by_cases c : bk = 5
  · exact Or.inl c
  · right
    cases s : z_sil S (12 * bk + x)
    · rfl
    · have := y_si_t.mpr ⟨show bk < 5 by omega, s⟩
      rw [h] at this
      exact absurd this (by decide)
theorem y_drw_t {S : z_S} {bk x : Nat} (h : y_si S bk x = true) : z_drw S bk x = z_cueX S bk x := by
  obtain ⟨h1, h2⟩ := y_si_t.mp h
  exact if_neg (fun z => z.elim (by omega) (fun z => by rw [h2] at z; exact absurd z (by decide)))
theorem y_si_f {S : z_S} {bk x : Nat} (hk : bk < 5) (h : y_si S bk x = false) : z_sil S (12 * bk + x) = false := by
  cases s : z_sil S (12 * bk + x)
  · rfl
  · rw [y_si_t.mpr ⟨hk, s⟩] at h
    exact absurd h (by decide)
theorem y_new_d {S : z_S} {bk x : Nat} (h : z_drw S bk x ≠ 6 ∨ x = 0 ∨ z_drw S bk (x - 1) ≠ 6) : z_new S bk x = true := decide_eq_true (fun z => by
  rcases h with h | h | h
  · exact h z.2.1
  · omega
  · exact h z.2.2)
theorem y_it_le {S : z_S} {bk : Nat} (n : Nat) : z_it S bk n ≤ n := z_cnt_le n
theorem y_it_mono {S : z_S} {bk a b : Nat} (h : a ≤ b) : z_it S bk a ≤ z_it S bk b := z_cnt_mono h
theorem y_it_new {S : z_S} {bk x : Nat} (h : z_new S bk x = true) : z_it S bk (x + 1) = z_it S bk x + 1 := by rw [z_it_s, h]; rfl
/-- where an item ends -/
theorem y_xe_eq {S : z_S} {bk x w : Nat} (hx : x < w) (hw : w ≤ S 0 0) (h1 : z_new S bk x = true) (h2 : z_it S bk w = z_it S bk x + 1) (h3 : w = S 0 0 ∨ z_new S bk w = true) : y_xe S bk (z_it S bk x) = w := by
  unfold y_xe
  by_cases c : w = S 0 0
  · rw [if_neg (by rw [← c]; omega)]; exact c.symm
  · have hn : z_new S bk w = true := h3.resolve_left c
    have h4 := y_it_new hn
    have h5 := y_it_mono (S := S) (bk := bk) (show w + 1 ≤ S 0 0 by omega)
    rw [if_pos (by omega), ← h2, z_xb_eq (by omega) hn]
def y_3 (a : sx_F) (J : Nat) (p q r : Int32) : sx_F := sx_u (sx_u (sx_u a 8 (5 * J) p) 8 (5 * J + 1) q) 8 (5 * J + 2) r
theorem y_3_o {a : sx_F} {J : Nat} {p q r : Int32} {i : Nat} (h : i ≠ 8) : y_3 a J p q r i = a i := by
  unfold y_3
  rw [sx_u_n h, sx_u_n h, sx_u_n h]
theorem y_3_8 {a : sx_F} {J : Nat} {p q r : Int32} : y_3 a J p q r 8 (5 * J) = p ∧ y_3 a J p q r 8 (5 * J + 1) = q ∧ y_3 a J p q r 8 (5 * J + 2) = r ∧ ∀ x, x < 5 * J → y_3 a J p q r 8 x = a 8 x := by
  unfold y_3
  refine ⟨?_, ?_, ?_, fun x hx => ?_⟩
  · rw [sx_u_s, sx_u_s, sx_u_s, pk_un (by omega), pk_un (by omega), pk_us]
  · rw [sx_u_s, sx_u_s, sx_u_s, pk_un (by omega), pk_us]
  · rw [sx_u_s, pk_us]
  · rw [sx_u_s, sx_u_s, sx_u_s, pk_un (by omega), pk_un (by omega), pk_un (by omega)]
/-- a row more -/
theorem y_R_add {a : sx_F} {S : z_S} {bk J : Nat} {p q r : Int32} (h : ∀ j, j < J → y_R (a 8) S bk j) (hp : p = nI (z_xb S bk J)) (hq : q = nI (y_xe S bk J - 1)) (hr : r = z_dr (z_drw S bk (z_xb S bk J))) : ∀ j, j < J + 1 → y_R (y_3 a J p q r 8) S bk j := by
  intro j hj
  obtain ⟨e1, e2, e3, e4⟩ := y_3_8 (a := a) (J := J) (p := p) (q := q) (r := r)
  by_cases c : j = J
  · subst c
    exact ⟨by rw [e1]; exact hp, by rw [e2]; exact hq, by rw [e3]; exact hr⟩
  · obtain ⟨g1, g2, g3⟩ := h j (by omega)
    exact ⟨by rw [e4 _ (by omega)]; exact g1, by rw [e4 _ (by omega)]; exact g2, by rw [e4 _ (by omega)]; exact g3⟩
theorem y_5 (j : Nat) : 5 * nI j = nI (5 * j) := by rw [z_l5, pk_mul]
theorem y_a1 (n : Nat) : nI n + 1 = nI (n + 1) := nI_add n 1
theorem y_a2 (n : Nat) : nI n + 2 = nI (n + 2) := nI_add n 2
theorem y_a3 (n : Nat) : nI n + 3 = nI (n + 3) := nI_add n 3
theorem y_a4 (n : Nat) : nI n + 4 = nI (n + 4) := nI_add n 4
def y_Wp (S : z_S) (dr x p : Nat) : Nat := if dr = 6 then (if p = 0 then 0 else 24) else z_ws S dr x p
def y_Lp (S : z_S) (dr x p : Nat) : Nat := if dr = 6 then (if p = 0 then 0 else 16) else z_ls S dr x p
theorem y_100 {w l : Nat} (h : l < 100) (hw : w ≤ 1000) : nI (100 * w + l) / 100 = nI w ∧ nI (100 * w + l) - nI (100 * w + l) / 100 * 100 = nI l := by
  have h1 : nI (100 * w + l) / nI 100 = nI ((100 * w + l) / 100) := pk_div (by omega) (by omega) (by omega)
  have h2 : nI (100 * w + l) - nI (100 * w + l) / nI 100 * nI 100 = nI ((100 * w + l) % 100) := pk_rem (by omega) (by omega) (by omega)
  rw [show (100 : Int32) = nI 100 from rfl, h2, h1]
  refine ⟨congrArg nI (by omega), congrArg nI (by omega)⟩
theorem l_items {f a : sx_F} {o : sl_O} {S : z_S} (Y : y_N a o S) (W : z_W S) {bk : Nat} (hbk : bk ≤ 5) {Q : Int32 → sx_F → sx_F → sl_O → Prop} (h : ∀ a' : sx_F, (∀ i, i ≠ 8 → a' i = a i) → y_T (a' 8) S bk → Q (nI (z_it S bk (S 0 0))) f a' o) : P_L_items f a o (nI bk) Q := by
  intro B9 B47 B48 B89 B90 B133 B147 B190 B232 B235 B244 B296 B336 h9 h47 h48 h89 h90 h133 h147 h190 h232 h235 h244 h296 h336
  have n6 := Y.1
  have hl := Y.2.2.1
  have it6 := y_it_le (S := S) (bk := bk) (S 0 0)
  -- the second loop
  have k244 : ∀ d j, j + d = z_it S bk (S 0 0) → ∀ a' : sx_F, (∀ i, i ≠ 8 → a' i = a i) → (∀ i, i < z_it S bk (S 0 0) → y_R (a' 8) S bk i) → (∀ i, i < j → a' 8 (5 * i + 3) = nI (8 + z_IW S bk i) ∧ a' 8 (5 * i + 4) = nI (8 + z_IL S bk i)) → B244 f a' o (nI (z_it S bk (S 0 0))) (nI j) := by
    intro d
    induction d with
    | zero =>
      intro j hj a' ha hR hW
      refine h244 _ _ _ _ _ (pk_le (z_it S bk (S 0 0)) j (fun _ => h a' ha (fun i hi => ⟨hR i hi, hW i (by omega)⟩)) (fun c => absurd c (by omega)))
    | succ d ih =>
      intro j hj a' ha hR hW
      obtain ⟨x, hx, hxn, hxj⟩ := z_cnt_ex (p := z_new S bk) (S 0 0) j (by show j < z_it S bk (S 0 0); omega)
      have ex : z_xb S bk j = x := by
        have := z_xb_eq hx hxn
        rw [show z_it S bk x = j from hxj] at this
        exact this
      obtain ⟨r1, r2, r3⟩ := hR j (by omega)
      rw [ex] at r1 r3
      have hdr := z_drw_le (S := S) (b := x) hbk
      have hx1 := W.2.1 x hx
      have hx16 := (hl x hx).2
      refine h244 _ _ _ _ _ (pk_le (z_it S bk (S 0 0)) j (fun c => absurd c (by omega)) (fun c => ?_))
      rw [y_5, y_a2, y_a3, y_a4]
      refine ⟨vp_in_nI (by omega) (by omega), nm_e ⟨vp_in_nI (by omega) (by omega), nm_e ⟨vp_in_nI (by omega) (by omega), nm_e ⟨vp_in_nI (by omega) (by omega), nm_e ?_⟩⟩⟩⟩
      rw [nI_clamp (by omega), nI_clamp (by omega), nI_clamp (by omega), nI_clamp (by omega), r1, r3]
      have IWe : z_IW S bk j = y_Wp S (z_drw S bk x) x (S 1 x) ∧ z_IL S bk j = y_Lp S (z_drw S bk x) x (S 1 x) := by
        unfold z_IW z_IL z_Wb z_Lb y_Wp y_Lp
        rw [ex]
        by_cases c6 : z_drw S bk x = 6
        · rw [if_pos c6, if_pos c6, if_pos c6, if_pos c6, if_neg (by omega), if_neg (by omega)]; exact ⟨rfl, rfl⟩
        · rw [if_neg c6, if_neg c6, if_neg c6, if_neg c6]; exact ⟨rfl, rfl⟩
      have k296 : ∀ e p, p + e = S 1 x → ∀ b' : sx_F, (∀ i, i ≠ 8 → b' i = a i) → (∀ i, i ≠ 5 * j + 3 → i ≠ 5 * j + 4 → b' 8 i = a' 8 i) → b' 8 (5 * j + 3) = nI (8 + y_Wp S (z_drw S bk x) x p) → b' 8 (5 * j + 4) = nI (8 + y_Lp S (z_drw S bk x) x p) → B296 f b' o (nI (z_it S bk (S 0 0))) (nI j) (z_dr (z_drw S bk x)) (nI x) (nI p) := by
        intro e
        induction e with
        | zero =>
          intro p hp b' hb1 hb2 hb3 hb4
          refine h296 _ _ _ _ _ _ _ _ ⟨vp_in_nI (by omega) (by omega), ?_⟩
          rw [nI_clamp (by omega), hb1 3 (by decide), (hl x hx).1]
          refine pk_le (S 1 x) p (fun _ => nm_e ?_) (fun c => absurd c (by omega))
          rw [nI_1]
          refine ih (j + 1) (by omega) b' hb1 (fun i hi => ?_) (fun i hi => ?_)
          · obtain ⟨g1, g2, g3⟩ := hR i hi
            exact ⟨by rw [hb2 _ (by omega) (by omega)]; exact g1, by rw [hb2 _ (by omega) (by omega)]; exact g2, by rw [hb2 _ (by omega) (by omega)]; exact g3⟩
          · by_cases ci : i = j
            · rw [ci, IWe.1, IWe.2, hb3, hb4, show p = S 1 x by omega]; exact ⟨rfl, rfl⟩
            · rw [hb2 _ (by omega) (by omega), hb2 _ (by omega) (by omega)]
              exact hW i (by omega)
        | succ e ihe =>
          intro p hp b' hb1 hb2 hb3 hb4
          have Yb : y_N b' o S := Y.cg hb1
          refine h296 _ _ _ _ _ _ _ _ ⟨vp_in_nI (by omega) (by omega), ?_⟩
          rw [nI_clamp (by omega), hb1 3 (by decide), (hl x hx).1]
          refine pk_le (S 1 x) p (fun c => absurd c (by omega)) (fun c1 => ?_)
          have st : ∀ w l, l < 100 → w ≤ 1000 → y_Wp S (z_drw S bk x) x (p + 1) = y_Wp S (z_drw S bk x) x p + w → y_Lp S (z_drw S bk x) x (p + 1) = y_Lp S (z_drw S bk x) x p + l → B336 f b' o (nI (z_it S bk (S 0 0))) (nI j) (z_dr (z_drw S bk x)) (nI x) (nI p) (nI (100 * w + l)) := by
            intro w l hl1 hw1 e1 e2
            obtain ⟨d1, d2⟩ := y_100 (w := w) (l := l) hl1 hw1
            refine h336 _ _ _ _ _ _ _ _ _ ?_
            rw [d2, d1, y_5, y_a3, y_a4]
            refine ⟨vp_in_nI (by omega) (by omega), vp_in_nI (by omega) (by omega), nm_e ⟨vp_in_nI (by omega) (by omega), vp_in_nI (by omega) (by omega), nm_e (nm_e ?_)⟩⟩
            rw [nI_clamp (by omega), nI_clamp (by omega), nI_1]
            refine ihe (p + 1) (by omega) _ (fun i hi => ?_) (fun i hi hi2 => ?_) ?_ ?_
            · rw [sx_u_n hi, sx_u_n hi]; exact hb1 i hi
            · rw [sx_u_s, sx_u_s, pk_un hi2, pk_un hi]; exact hb2 i hi hi2
            · rw [sx_u_s, sx_u_s, pk_un (by omega), pk_us, hb3, nI_add, e1]; congr 1; omega
            · rw [sx_u_s, pk_us, sx_u_s, pk_un (by omega), hb4, nI_add, e2]; congr 1; omega
          by_cases c6 : z_drw S bk x = 6
          · rw [c6] at st ⊢
            rw [z_dr6] at st ⊢
            refine l_isSpring6 (by omega) ?_
            by_cases p0 : p = 0
            · rw [decide_eq_true p0]
              refine ⟨fun z => absurd z (by decide), fun _ => l_spring6 ?_⟩
              have := st 24 16 (by omega) (by omega)
              unfold y_Wp y_Lp at this
              rw [if_pos rfl, if_neg (by omega), if_pos rfl, if_pos p0, if_pos rfl, if_neg (by omega), if_pos rfl, if_pos p0] at this
              exact this rfl rfl
            · rw [decide_eq_false p0]
              refine ⟨fun _ => ?_, fun z => absurd rfl z⟩
              have := st 0 0 (by omega) (by omega)
              unfold y_Wp y_Lp at this
              rw [if_pos rfl, if_neg (by omega), if_pos rfl, if_neg p0, if_pos rfl, if_neg (by omega), if_pos rfl, if_neg p0] at this
              exact this rfl rfl
          · have wb := z_wd_b (S := S) (dr := z_drw S bk x) (b := x) (p := p)
            have lb := z_sn_b (S := S) (dr := z_drw S bk x) (b := x) (p := p)
            unfold y_Wp y_Lp at st
            rw [if_neg c6, if_neg c6, if_neg c6, if_neg c6] at st
            have sw : z_ws S (z_drw S bk x) x (p + 1) = z_ws S (z_drw S bk x) x p + (if z_pl S (z_drw S bk x) x p then z_wd S (z_drw S bk x) x p else 0) := rfl
            have sl2 : z_ls S (z_drw S bk x) x (p + 1) = z_ls S (z_drw S bk x) x p + (if z_pl S (z_drw S bk x) x p then z_le S (z_drw S bk x) x p else 0) := rfl
            rw [sw, sl2] at st
            rw [z_drn c6] at st ⊢
            refine l_isSpring Yb W (by omega) hx (by omega) ?_
            rw [decide_eq_true c1, Bool.true_and]
            cases hP : z_pl S (z_drw S bk x) x p
            · rw [hP] at st
              exact ⟨fun _ => st 0 0 (by omega) (by omega) rfl rfl, fun z => absurd rfl z⟩
            · rw [hP] at st
              exact ⟨fun z => absurd z (by decide), fun _ => l_spring Yb W (by omega) hx c1 hP (st _ _ (by omega) (by omega) rfl rfl)⟩
      refine k296 (S 1 x) 0 (by omega) _ (fun i hi => ?_) (fun i hi hi2 => ?_) ?_ ?_
      · rw [sx_u_n hi, sx_u_n hi]; exact ha i hi
      · rw [sx_u_s, sx_u_s, pk_un hi2, pk_un hi]
      · rw [sx_u_s, sx_u_s, pk_un (by omega), pk_us]
        have : y_Wp S (z_drw S bk x) x 0 = 0 := by
          unfold y_Wp
          by_cases c6 : z_drw S bk x = 6
          · rw [if_pos c6]; rfl
          · rw [if_neg c6]; rfl
        rw [this]; rfl
      · rw [sx_u_s, pk_us]
        have : y_Lp S (z_drw S bk x) x 0 = 0 := by
          unfold y_Lp
          by_cases c6 : z_drw S bk x = 6
          · rw [if_pos c6]; rfl
          · rw [if_neg c6]; rfl
        rw [this]; rfl
  -- behind a run of rests
  have flush : ∀ k, k ≤ S 0 0 → (k < S 0 0 → ∀ a' : sx_F, (∀ i, i ≠ 8 → a' i = a i) → (∀ i, i < z_it S bk (k + 1) → y_R (a' 8) S bk i) → B9 f a' o (nI (z_it S bk (k + 1))) 0 (nI (k + 1))) → ∀ r (a' : sx_F), (∀ i, i ≠ 8 → a' i = a i) → r ≤ k → (∀ x, k - r ≤ x → x < k → y_si S bk x = true) → (k - r = 0 ∨ y_si S bk (k - r - 1) = false) → (∀ i, i < z_it S bk (k - r) → y_R (a' 8) S bk i) → (k = S 0 0 ∨ y_si S bk k = false) → B48 f a' o (nI (z_it S bk (k - r))) (nI r) (nI k) 0 := by
    intro k hk next r a' ha hr hs h0 hR hend
    have itk := y_it_le (S := S) (bk := bk) k
    have k190 : ∀ a' : sx_F, (∀ i, i ≠ 8 → a' i = a i) → (∀ i, i < z_it S bk k → y_R (a' 8) S bk i) → B190 f a' o (nI (z_it S bk k)) (nI k) := by
      intro a' ha hR
      refine h190 _ _ _ _ _ ⟨y_v05, ?_⟩
      rw [show (0 : Int32).toNatClampNeg = 0 from rfl, ha 7 (by decide), Y.2.1]
      refine pk_le (S 0 0) k (fun c => h232 _ _ _ _ _ (h235 _ _ _ _ _ _ (nm_e ?_))) (fun c => ?_)
      · have ek : k = S 0 0 := by omega
        subst ek
        rw [nI_1]
        refine h9 _ _ _ _ _ _ ⟨y_v05, ?_⟩
        rw [show (0 : Int32).toNatClampNeg = 0 from rfl, ha 7 (by decide), Y.2.1]
        exact pk_lt (S 0 0) (S 0 0 + 1) (fun _ => k244 (z_it S bk (S 0 0)) 0 (by omega) a' ha hR (fun i hi => absurd hi (by omega))) (fun c => absurd c (by omega))
      · have sk : y_si S bk k = false := hend.resolve_left (by omega)
        have dk : z_drw S bk k = bk := y_drw_f hbk sk
        have nk : z_new S bk k = true := y_new_d (Or.inl (by rw [dk]; omega))
        have itk1 := y_it_new nk
        have itk2 := y_it_mono (S := S) (bk := bk) (show k + 1 ≤ S 0 0 by omega)
        rw [y_5, y_a1, y_a2]
        refine ⟨vp_in_nI (by omega) (by omega), nm_e ⟨vp_in_nI (by omega) (by omega), nm_e ⟨vp_in_nI (by omega) (by omega), nm_e (nm_e (h232 _ _ _ _ _ (h235 _ _ _ _ _ _ (nm_e ?_))))⟩⟩⟩
        rw [nI_clamp (by omega), nI_clamp (by omega), nI_clamp (by omega), nI_1, nI_1, ← itk1]
        refine next c (y_3 a' (z_it S bk k) (nI k) (nI k) (nI bk)) (fun i hi => by rw [y_3_o hi]; exact ha i hi) ?_
        rw [itk1]
        refine y_R_add hR (by rw [z_xb_eq c nk]) ?_ (by rw [z_xb_eq c nk, dk, z_drn (by omega)])
        rw [y_xe_eq (w := k + 1) (by omega) (by omega) nk itk1 ?_, show k + 1 - 1 = k by omega]
        by_cases c2 : k + 1 = S 0 0
        · exact Or.inl c2
        · exact Or.inr (y_new_d (Or.inr (Or.inr (by rw [show k + 1 - 1 = k by omega, dk]; omega))))
    have k147 : ∀ (a' : sx_F) J cu, (∀ i, i ≠ 8 → a' i = a i) → (∀ i, i < J → y_R (a' 8) S bk i) → (cu = 6 → J = z_it S bk k) → (cu ≠ 6 → cu < 5 ∧ 0 < k ∧ J = z_it S bk (k - 1) ∧ z_drw S bk (k - 1) = cu ∧ k < S 0 0) → B147 f a' o (nI J) (nI k) (z_dr cu) := by
      intro a' J cu ha hR c1 c2
      refine h147 _ _ _ _ _ _ ?_
      by_cases c6 : cu = 6
      · rw [c6, z_dr6]
        rw [c1 c6] at hR ⊢
        exact ⟨fun _ => k190 a' ha hR, fun c => absurd (by decide) c⟩
      · obtain ⟨e1, e2, e3, e4, e5⟩ := c2 c6
        have nk1 : z_new S bk (k - 1) = true := y_new_d (Or.inl (by rw [e4]; exact c6))
        have it1 := y_it_new nk1
        rw [show k - 1 + 1 = k by omega] at it1
        have sk : y_si S bk k = false := hend.resolve_left (by omega)
        have nk : z_new S bk k = true := y_new_d (Or.inl (by rw [y_drw_f hbk sk]; omega))
        rw [z_drn c6]
        refine ⟨fun c => absurd c (nI_pos (by omega)), fun _ => ?_⟩
        rw [y_5, y_a1, y_a2, show nI k - 1 = nI (k - 1) from pk_sub (a := k) (b := 1) (by omega)]
        refine ⟨vp_in_nI (by omega) (by omega), nm_e ⟨vp_in_nI (by omega) (by omega), nm_e ⟨vp_in_nI (by omega) (by omega), nm_e (nm_e ?_)⟩⟩⟩
        rw [nI_clamp (by omega), nI_clamp (by omega), nI_clamp (by omega), nI_1, show J + 1 = z_it S bk k by omega]
        refine k190 (y_3 a' J (nI (k - 1)) (nI (k - 1)) (nI cu)) (fun i hi => by rw [y_3_o hi]; exact ha i hi) ?_
        rw [show z_it S bk k = J + 1 by omega]
        have xb : z_xb S bk J = k - 1 := by rw [e3]; exact z_xb_eq (by omega) nk1
        refine y_R_add hR (by rw [xb]) ?_ (by rw [xb, e4, z_drn c6])
        have xe : y_xe S bk J = k := by rw [e3]; exact y_xe_eq (w := k) (by omega) (by omega) nk1 (by omega) (Or.inr nk)
        rw [xe]
    have k90 : ∀ cu, cu = (if 3 ≤ r ∧ k < S 0 0 then z_best S bk (k - 1) 5 else 6) → B90 f a' o (nI (z_it S bk (k - r))) (nI r) (nI k) (z_dr cu) := by
      intro cu hcu
      refine h90 _ _ _ _ _ _ _ (pk_le r 0 (fun c => ?_) (fun c => ?_))
      · have r0 : r = 0 := by omega
        subst r0
        rw [if_neg (by omega)] at hcu
        exact k147 a' _ cu ha hR (fun _ => rfl) (fun z => absurd hcu z)
      · have hb5 : bk < 5 := (y_si_t.mp (hs (k - r) (Nat.le_refl _) (by omega))).1
        have sil : ∀ x, k - r ≤ x → x < k → z_sil S (12 * bk + x) = true := fun x h1 h2 => (y_si_t.mp (hs x h1 h2)).2
        have d6 : ∀ x, k - r ≤ x → x + 1 < k → z_drw S bk x = 6 := by
          intro x h1 h2
          rw [y_drw_t (hs x h1 (by omega))]
          refine if_neg (fun z => ?_)
          have := z.2.2.2.2.2
          rw [sil (x + 1) (by omega) (by omega)] at this
          exact absurd this (by decide)
        have dk1 : z_drw S bk (k - 1) = cu := by
          rw [y_drw_t (hs (k - 1) (by omega) (by omega)), hcu]
          unfold z_cueX
          by_cases c3 : 3 ≤ r ∧ k < S 0 0
          · have sf : z_sil S (12 * bk + (k - 1 + 1)) = false := by
              rw [show k - 1 + 1 = k by omega]
              exact y_si_f hb5 (hend.resolve_left (by omega))
            rw [if_pos c3, if_pos ⟨by omega, by omega, sil _ (by omega) (by omega), sil _ (by omega) (by omega), sil _ (by omega) (by omega), sf⟩]
          · rw [if_neg c3]
            refine if_neg (fun z => ?_)
            obtain ⟨z1, z2, z3, z4, -, -⟩ := z
            rcases h0 with h0 | h0
            · omega
            · have s0 := y_si_f hb5 h0
              rcases (show r = 1 ∨ r = 2 by omega) with r1 | r1
              · rw [r1] at s0
                rw [show k - 1 - 1 = k - 2 by omega] at s0 z4
                rw [s0] at z4
                exact absurd z4 (by decide)
              · rw [r1, show k - 2 - 1 = k - 1 - 2 by omega] at s0
                rw [s0] at z3
                exact absurd z3 (by decide)
        have nv : z_new S bk (k - r) = true := y_new_d (by
          rcases h0 with h0 | h0
          · exact Or.inr (Or.inl h0)
          · exact Or.inr (Or.inr (by rw [y_drw_f hbk h0]; omega)))
        have nf : ∀ x, k - r < x → x < k → z_drw S bk x = 6 → z_new S bk x = false := fun x h1 h2 h3 => decide_eq_false (fun z => z ⟨by omega, h3, d6 (x - 1) (by omega) (by omega)⟩)
        have itv := y_it_mono (S := S) (bk := bk) (show k - r + 1 ≤ k by omega)
        have itv1 := y_it_new nv
        have xb : z_xb S bk (z_it S bk (k - r)) = k - r := z_xb_eq (by omega) nv
        have row : ∀ w, k - r < w → w ≤ k → z_drw S bk (k - r) = 6 → z_it S bk w = z_it S bk (k - r) + 1 → (w = S 0 0 ∨ z_new S bk w = true) → ∀ i, i < z_it S bk w → y_R (y_3 a' (z_it S bk (k - r)) (nI (k - r)) (nI (w - 1)) (-1) 8) S bk i := by
          intro w h1 h2 h3 h4 h5
          rw [h4]
          exact y_R_add hR (by rw [xb]) (by rw [y_xe_eq h1 (by omega) nv h4 h5]) (by rw [xb, h3]; rfl)
        rw [y_5, y_a1, show nI k - nI r = nI (k - r) from pk_sub hr]
        refine ⟨vp_in_nI (by omega) (by omega), nm_e ?_⟩
        rw [nI_clamp (by omega)]
        by_cases c6 : cu = 6
        · rw [c6, z_dr6]
          refine ⟨fun z => absurd z (by decide), fun _ => h133 _ _ _ _ _ _ _ _ ?_⟩
          rw [y_5, y_a2, show nI k - 1 = nI (k - 1) from pk_sub (a := k) (b := 1) (by omega)]
          refine ⟨vp_in_nI (by omega) (by omega), nm_e ⟨vp_in_nI (by omega) (by omega), nm_e (nm_e ?_)⟩⟩
          rw [nI_clamp (by omega), nI_clamp (by omega), nI_1]
          have e6 : z_drw S bk (k - 1) = 6 := by rw [dk1]; exact c6
          have dv : z_drw S bk (k - r) = 6 := by
            by_cases c1 : r = 1
            · rw [c1]; exact e6
            · exact d6 _ (Nat.le_refl _) (by omega)
          have itk2 : z_it S bk k = z_it S bk (k - r) + 1 := z_it_run k (by omega) nv (fun x h1 h2 => nf x h1 h2 (by
            by_cases c1 : x = k - 1
            · rw [c1]; exact e6
            · exact d6 x (by omega) (by omega)))
          refine k147 (y_3 a' (z_it S bk (k - r)) (nI (k - r)) (nI (k - 1)) (-1)) (z_it S bk (k - r) + 1) 6 (fun i hi => by rw [y_3_o hi]; exact ha i hi) ?_ (fun _ => itk2.symm) (fun z => absurd rfl z)
          rw [← itk2]
          exact row k (by omega) (Nat.le_refl _) dv itk2 (hend.elim Or.inl (fun z => Or.inr (y_new_d (Or.inl (by rw [y_drw_f hbk z]; omega)))))
        · have c3 : 3 ≤ r ∧ k < S 0 0 := by
            refine Decidable.byContradiction (fun z => ?_)
            rw [if_neg z] at hcu
            exact c6 hcu
          have cu5 : cu < 5 := by
            rw [if_pos c3] at hcu
            rcases z_best_r (S := S) (bk := bk) (b := k - 1) 5 (Nat.le_refl _) with z | z
            · rw [← hcu] at z; exact absurd z c6
            · rw [← hcu] at z; exact z.1
          have nk1 : z_new S bk (k - 1) = true := y_new_d (Or.inl (by rw [dk1]; exact c6))
          rw [z_drn c6]
          refine ⟨fun _ => h133 _ _ _ _ _ _ _ _ ?_, fun z => absurd (nI_pos' (by omega)) z⟩
          rw [y_5, y_a2, show nI k - 2 = nI (k - 2) from pk_sub (a := k) (b := 2) (by omega)]
          refine ⟨vp_in_nI (by omega) (by omega), nm_e ⟨vp_in_nI (by omega) (by omega), nm_e (nm_e ?_)⟩⟩
          rw [nI_clamp (by omega), nI_clamp (by omega), nI_1]
          have itk2 : z_it S bk (k - 1) = z_it S bk (k - r) + 1 := z_it_run (k - 1) (by omega) nv (fun x h1 h2 => nf x h1 (by omega) (d6 x (by omega) (by omega)))
          rw [← z_drn c6]
          refine k147 (y_3 a' (z_it S bk (k - r)) (nI (k - r)) (nI (k - 2)) (-1)) (z_it S bk (k - r) + 1) cu (fun i hi => by rw [y_3_o hi]; exact ha i hi) ?_ (fun z => absurd z c6) (fun _ => ⟨cu5, by omega, itk2.symm, dk1, c3.2⟩)
          have := row (k - 1) (by omega) (by omega) (d6 _ (Nat.le_refl _) (by omega)) itk2 (Or.inr nk1)
          rw [show k - 1 - 1 = k - 2 by omega, itk2] at this
          exact this
    have k89 : ¬ (3 ≤ r ∧ k < S 0 0) → B89 f a' o (nI (z_it S bk (k - r))) (nI r) (nI k) := fun z => h89 _ _ _ _ _ _ (k90 6 (if_neg z).symm)
    refine h48 _ _ _ _ _ _ _ ⟨fun _ => pk_le r 2 (fun c => k89 (by omega)) (fun c => ⟨y_v05, ?_⟩), fun z => absurd rfl z⟩
    rw [show (0 : Int32).toNatClampNeg = 0 from rfl, ha 7 (by decide), Y.2.1]
    refine pk_le (S 0 0) k (fun c => k89 (by omega)) (fun c2 => ?_)
    rw [show nI k - 1 = nI (k - 1) from pk_sub (a := k) (b := 1) (by omega)]
    have hb5 : bk < 5 := (y_si_t.mp (hs (k - r) (Nat.le_refl _) (by omega))).1
    exact l_cue (Y.cg ha) W hb5 (by omega) (k90 _ (if_pos ⟨by omega, c2⟩).symm)
  -- the first loop
  have k9 : ∀ d k, k + d = S 0 0 → ∀ r (a' : sx_F), (∀ i, i ≠ 8 → a' i = a i) → r ≤ k → (∀ x, k - r ≤ x → x < k → y_si S bk x = true) → (k - r = 0 ∨ y_si S bk (k - r - 1) = false) → (∀ i, i < z_it S bk (k - r) → y_R (a' 8) S bk i) → B9 f a' o (nI (z_it S bk (k - r))) (nI r) (nI k) := by
    intro d
    induction d with
    | zero =>
      intro k hk r a' ha hr hs h0 hR
      refine h9 _ _ _ _ _ _ ⟨y_v05, ?_⟩
      rw [show (0 : Int32).toNatClampNeg = 0 from rfl, ha 7 (by decide), Y.2.1]
      refine pk_lt (S 0 0) k (fun c => absurd c (by omega)) (fun _ => ⟨y_v05, pk_le (S 0 0) k (fun c => h47 _ _ _ _ _ _ ?_) (fun c => absurd c (by omega))⟩)
      exact flush k (by omega) (fun c => absurd c (by omega)) r a' ha hr hs h0 hR (Or.inl (by omega))
    | succ d ih =>
      intro k hk r a' ha hr hs h0 hR
      refine h9 _ _ _ _ _ _ ⟨y_v05, ?_⟩
      rw [show (0 : Int32).toNatClampNeg = 0 from rfl, ha 7 (by decide), Y.2.1]
      refine pk_lt (S 0 0) k (fun c => absurd c (by omega)) (fun _ => ⟨y_v05, pk_le (S 0 0) k (fun c => absurd c (by omega)) (fun c => ?_)⟩)
      have no : y_si S bk k = false → B47 f a' o (nI (z_it S bk (k - r))) (nI r) (nI k) := fun z => h47 _ _ _ _ _ _ (flush k (by omega) (fun c2 a2 ha2 hR2 => by
        have := ih (k + 1) (by omega) 0 a2 ha2 (Nat.zero_le _) (fun x h1 h2 => by omega) (Or.inr (by rw [show k + 1 - 0 - 1 = k by omega]; exact z)) hR2
        exact this) r a' ha hr hs h0 hR (Or.inr z))
      by_cases h5 : bk = 5
      · refine ⟨fun _ => no (Bool.eq_false_iff.mpr (fun z => by have := (y_si_t.mp z).1; omega)), fun z => absurd (by rw [h5]; exact Int32.le_refl _) z⟩
      · refine ⟨fun z => absurd z (nI_ge (a := bk) (b := 5) (by omega) (by omega)), fun _ => l_isSilent (Y.cg ha) W (by omega) (by omega) ?_⟩
        cases s : z_sil S (12 * bk + k)
        · exact ⟨fun _ => no (Bool.eq_false_iff.mpr (fun z => by
            have := (y_si_t.mp z).2
            rw [s] at this
            exact absurd this (by decide))), fun z => absurd rfl z⟩
        · refine ⟨fun z => absurd z (by decide), fun _ => h48 _ _ _ _ _ _ _ ⟨fun z => absurd z (by decide), fun _ => nm_e (h235 _ _ _ _ _ _ (nm_e ?_))⟩⟩
          rw [nI_1, nI_1]
          have e : k + 1 - (r + 1) = k - r := by omega
          have := ih (k + 1) (by omega) (r + 1) a' ha (by omega) (fun x h1 h2 => by
            by_cases ex : x = k
            · rw [ex]; exact y_si_t.mpr ⟨by omega, s⟩
            · exact hs x (by omega) (by omega)) (by rw [e]; exact h0) (by rw [e]; exact hR)
          rw [e] at this
          exact this
  exact k9 (S 0 0) 0 (by omega) 0 a (fun _ _ => rfl) (Nat.le_refl _) (fun x h1 h2 => by omega) (Or.inl rfl) (fun i hi => absurd hi (by show ¬ i < z_it S bk 0; exact Nat.not_lt_zero _))
