def z_new (S : z_S) (bk b : Nat) : Bool := decide (¬ (0 < b ∧ z_drw S bk b = 6 ∧ z_drw S bk (b - 1) = 6))
def z_it (S : z_S) (bk : Nat) : Nat → Nat := z_cnt (z_new S bk)
def z_Wb (S : z_S) (dr b : Nat) : Nat := if dr = 6 then 24 else z_ws S dr b (S 1 b)
def z_Lb (S : z_S) (dr b : Nat) : Nat := if dr = 6 then 16 else z_ls S dr b (S 1 b)
def z_wsum (S : z_S) (bk : Nat) : Nat → Nat := z_sm (fun b => if z_new S bk b then z_Wb S (z_drw S bk b) b else 0)
def z_lsum (S : z_S) (bk : Nat) : Nat → Nat := z_sm (fun b => if z_new S bk b then z_Lb S (z_drw S bk b) b else 0)
/-- the items of a book's first bars, as they stand in the class's rows -/
def z_G (f : sx_F) (S : z_S) (bk e : Nat) : Prop := f 8 3 = nI (z_it S bk e) ∧ (∀ b, b < e → z_new S bk b = true → f 14 (z_it S bk b) = nI b ∧ f 16 (z_it S bk b) = z_dr (z_drw S bk b)) ∧ (∀ b, b < e → f 15 b = nI (z_it S bk (b + 1) - 1)) ∧ (∀ b, b ≤ e → f 17 (z_it S bk b) = nI (z_wsum S bk b) ∧ f 18 (z_it S bk b) = nI (z_lsum S bk b)) ∧ (0 < e → f 16 (z_it S bk e - 1) = z_dr (z_drw S bk (e - 1)))
theorem z_it_s (S : z_S) (bk b : Nat) : z_it S bk (b + 1) = z_it S bk b + (if z_new S bk b then 1 else 0) := rfl
theorem z_new0 (S : z_S) (bk : Nat) : z_new S bk 0 = true := decide_eq_true (fun z => absurd z.1 (by omega))
theorem z_it_pos {S : z_S} {bk e : Nat} (h : 0 < e) : 0 < z_it S bk e := Nat.lt_of_le_of_lt (Nat.zero_le _) (z_cnt_lt (p := z_new S bk) h (z_new0 S bk))
theorem x_widthOfAll {f : sx_F} {S : z_S} {dr b : Nat} {Q : Int32 → Prop} (hl : S 1 b ≤ 32) (h : z_dn f S dr b) (hq : Q (nI (z_Wb S dr b))) : P_X5_widthOfAll f Q := by
  unfold P_X5_widthOfAll
  rcases h.2.2 with ⟨h1, h2, h3, h4, h5⟩ | ⟨h1, h2, h3, h4⟩
  · rw [h2]
    exact ⟨by unfold vp_in; decide, by rw [show (1 : Int32).toNatClampNeg = 1 by decide, h4]; rw [show z_Wb S dr b = 24 from if_pos h1] at hq; exact hq⟩
  · have := z_cnt_le (p := z_pl S dr b) (S 1 b)
    have e : z_pc S dr b (S 1 b) ≤ S 1 b := this
    rw [h2, nI_clamp (by omega), (h4 _ (Nat.le_refl _)).1]
    rw [show z_Wb S dr b = z_ws S dr b (S 1 b) from if_neg h1] at hq
    exact ⟨vp_in_nI (by omega) (by omega), hq⟩
theorem x_leastOfAll {f : sx_F} {S : z_S} {dr b : Nat} {Q : Int32 → Prop} (hl : S 1 b ≤ 32) (h : z_dn f S dr b) (hq : Q (nI (z_Lb S dr b))) : P_X5_leastOfAll f Q := by
  unfold P_X5_leastOfAll
  rcases h.2.2 with ⟨h1, h2, h3, h4, h5⟩ | ⟨h1, h2, h3, h4⟩
  · rw [h2]
    exact ⟨by unfold vp_in; decide, by rw [show (1 : Int32).toNatClampNeg = 1 by decide, h5]; rw [show z_Lb S dr b = 16 from if_pos h1] at hq; exact hq⟩
  · have := z_cnt_le (p := z_pl S dr b) (S 1 b)
    have e : z_pc S dr b (S 1 b) ≤ S 1 b := this
    rw [h2, nI_clamp (by omega), (h4 _ (Nat.le_refl _)).2]
    rw [show z_Lb S dr b = z_ls S dr b (S 1 b) from if_neg h1] at hq
    exact ⟨vp_in_nI (by omega) (by omega), hq⟩
theorem z_dn.cg {f f' : sx_F} {S : z_S} {dr b : Nat} (h : z_dn f S dr b) (h9 : f' 9 = f 9) (h10 : f' 10 = f 10) (h11 : f' 11 = f 11) (h12 : f' 12 = f 12) : z_dn f' S dr b := by
  unfold z_dn z_sp at h ⊢
  rw [h9, h10, h11, h12]
  exact h
theorem x_addItem {f : sx_F} {S : z_S} {dr b c : Nat} {Q : sx_F → Prop} (Z : z_X f S) (W : z_W S) (hd : dr ≤ 6) (hb : b < S 0 0) (h11 : f 11 0 = 0) (h12 : f 12 0 = 0) (h8 : f 8 3 = nI c) (hc : c < 12) (h : ∀ f' : sx_F, (∀ k, (k ≤ 7 ∨ k = 15 ∨ 19 ≤ k) → f' k = f k) → f' 11 0 = 0 → f' 12 0 = 0 → f' 8 2 = f 8 2 → f' 8 3 = nI (c + 1) → f' 14 = upd (f 14) c (nI b) → f' 16 = upd (f 16) c (z_dr dr) → f' 17 = upd (f 17) (c + 1) (f 17 c + nI (z_Wb S dr b)) → f' 18 = upd (f 18) (c + 1) (f 18 c + nI (z_Lb S dr b)) → Q f') : P_X0_addItem f (nI b) (z_dr dr) Q := by
  have hn := W.1
  have hlen := W.2.1 b hb
  unfold P_X0_addItem
  rw [h8, nI_clamp (by omega)]
  refine ⟨vp_in_nI (by omega) (by omega), nm_e ?_⟩
  rw [sx_u_n (by decide : (8 : Nat) ≠ 14), h8, nI_clamp (by omega)]
  refine ⟨vp_in_nI (by omega) (by omega), nm_e (x_draw (z_Xu (z_Xu Z (by decide)) (by decide)) W hd hb (by rw [sx_u_n (by decide), sx_u_n (by decide)]; exact h11) (by rw [sx_u_n (by decide), sx_u_n (by decide)]; exact h12) (fun g3 g1 g2 => ?_))⟩
  have e8 : g3 8 = f 8 := by rw [g1 8 (by decide) (by decide) (by decide) (by decide) (by decide), sx_u_n (by decide), sx_u_n (by decide)]
  rw [show g3 8 3 = nI c by rw [e8]; exact h8, nI_1, nI_clamp (by omega), nI_clamp (by omega)]
  refine ⟨vp_in_nI (by omega) (by omega), x_widthOfAll hlen.2 g2 ⟨vp_in_nI (by omega) (by omega), nm_e ?_⟩⟩
  rw [sx_u_n (by decide : (8 : Nat) ≠ 17), e8, h8, nI_1, nI_clamp (by omega), nI_clamp (by omega)]
  refine ⟨vp_in_nI (by omega) (by omega), x_leastOfAll hlen.2 (g2.cg (sx_u_n (by decide)) (sx_u_n (by decide)) (sx_u_n (by decide)) (sx_u_n (by decide))) ⟨vp_in_nI (by omega) (by omega), nm_e (nm_e ?_)⟩⟩
  rw [show (sx_u (sx_u g3 17 (c + 1) (g3 17 c + nI (z_Wb S dr b))) 18 (c + 1) ((sx_u g3 17 (c + 1) (g3 17 c + nI (z_Wb S dr b))) 18 c + nI (z_Lb S dr b))) 8 3 = nI c by rw [sx_u_n (by decide), sx_u_n (by decide), e8, h8], nI_1]
  have gk : ∀ k, k ≠ 9 → k ≠ 10 → k ≠ 11 → k ≠ 12 → k ≠ 13 → k ≠ 14 → k ≠ 16 → g3 k = f k := fun k a1 a2 a3 a4 a5 a6 a7 => by rw [g1 k a1 a2 a3 a4 a5, sx_u_n a7, sx_u_n a6]
  refine h _ (fun k hk => ?_) ?_ ?_ ?_ ?_ ?_ ?_ ?_ ?_
  · rw [sx_u_n (by omega), sx_u_n (by omega), sx_u_n (by omega)]
    exact gk k (by omega) (by omega) (by omega) (by omega) (by omega) (by omega) (by omega)
  · rw [sx_u_n (by decide), sx_u_n (by decide), sx_u_n (by decide)]; exact g2.1
  · rw [sx_u_n (by decide), sx_u_n (by decide), sx_u_n (by decide)]; exact g2.2.1
  · rw [sx_u_s, pk_un (by decide), sx_u_n (by decide), sx_u_n (by decide), e8]
  · rw [sx_u_s, pk_us]
  · rw [sx_u_n (by decide), sx_u_n (by decide), sx_u_n (by decide), g1 14 (by decide) (by decide) (by decide) (by decide) (by decide), sx_u_n (by decide), sx_u_s]
  · rw [sx_u_n (by decide), sx_u_n (by decide), sx_u_n (by decide), g1 16 (by decide) (by decide) (by decide) (by decide) (by decide), sx_u_s, sx_u_n (by decide)]
  · rw [sx_u_n (by decide), sx_u_n (by decide), sx_u_s, gk 17 (by decide) (by decide) (by decide) (by decide) (by decide) (by decide) (by decide)]
  · rw [sx_u_n (by decide), sx_u_s, sx_u_n (by decide), gk 18 (by decide) (by decide) (by decide) (by decide) (by decide) (by decide) (by decide)]
theorem x_gather {f : sx_F} {S : z_S} {bk : Nat} {Q : sx_F → Prop} (Z : z_X f S) (W : z_W S) (hbk : bk ≤ 5) (h11 : f 11 0 = 0) (h12 : f 12 0 = 0) (h17 : f 17 0 = 0) (h18 : f 18 0 = 0) (h : ∀ f' : sx_F, (∀ k, (k ≤ 7 ∨ 19 ≤ k) → f' k = f k) → f' 11 0 = 0 → f' 12 0 = 0 → f' 8 2 = nI bk → z_G f' S bk (S 0 0) → Q f') : P_X0_gather f (nI bk) Q := by
  have hn := W.1
  intro B12 B60 B61 B74 b12 b60 b61 b74
  refine nm_e (nm_e ?_)
  have key : ∀ f' : sx_F, (∀ k, (k ≤ 7 ∨ 19 ≤ k) → f' k = f k) → f' 11 0 = 0 → f' 12 0 = 0 → f' 8 2 = nI bk → z_G f' S bk 0 → B12 f' (nI 0) := by
    refine z_up (B := fun e => ∀ f' : sx_F, (∀ k, (k ≤ 7 ∨ 19 ≤ k) → f' k = f k) → f' 11 0 = 0 → f' 12 0 = 0 → f' 8 2 = nI bk → z_G f' S bk e → B12 f' (nI e)) (S 0 0) (fun e he ih => ?_)
    intro f' f1 f2 f3 f4 f5
    have Z' : z_X f' S := z_Xc Z (f1 1 (by decide)) (f1 2 (by decide)) (f1 5 (by decide)) (f1 6 (by decide)) (f1 7 (by decide))
    refine b12 _ _ ?_
    rw [Z'.1]
    refine pk_le (S 0 0) e (fun c => h f' f1 f2 f3 f4 (by rw [show S 0 0 = e by omega]; exact f5)) (fun c => x_drawerOf Z' W hbk c f4 ?_)
    have hdr := z_drw_le (S := S) (bk := bk) (b := e) hbk
    have hit : z_it S bk e ≤ e := z_cnt_le e
    obtain ⟨g1, g2, g3, g4, g5⟩ := f5
    have eit := z_it_s S bk e
    have ews : z_wsum S bk (e + 1) = z_wsum S bk e + (if z_new S bk e then z_Wb S (z_drw S bk e) e else 0) := rfl
    have els : z_lsum S bk (e + 1) = z_lsum S bk e + (if z_new S bk e then z_Lb S (z_drw S bk e) e else 0) := rfl
    -- behind the item, the bar's own
    have tail : ∀ f2' : sx_F, (∀ k, (k ≤ 7 ∨ 19 ≤ k) → f2' k = f k) → f2' 11 0 = 0 → f2' 12 0 = 0 → f2' 8 2 = nI bk → f2' 15 = f' 15 → f2' 8 3 = nI (z_it S bk (e + 1)) → (∀ b, b < e + 1 → z_new S bk b = true → f2' 14 (z_it S bk b) = nI b ∧ f2' 16 (z_it S bk b) = z_dr (z_drw S bk b)) → (∀ b, b ≤ e + 1 → f2' 17 (z_it S bk b) = nI (z_wsum S bk b) ∧ f2' 18 (z_it S bk b) = nI (z_lsum S bk b)) → f2' 16 (z_it S bk (e + 1) - 1) = z_dr (z_drw S bk e) → B74 f2' (nI e) := by
      intro f2' a1 a2 a3 a4 a5 a6 a7 a8 a9
      have hp := z_it_pos (S := S) (bk := bk) (show 0 < e + 1 by omega)
      refine b74 _ _ ⟨vp_in_nI (by omega) (by omega), nm_e (nm_e ?_)⟩
      rw [nI_1, nI_clamp (by omega), a6, show nI (z_it S bk (e + 1)) - 1 = nI (z_it S bk (e + 1) - 1) from pk_sub (a := z_it S bk (e + 1)) (b := 1) (by omega)]
      refine ih c _ (fun k hk => by rw [sx_u_n (by omega)]; exact a1 k hk) (by rw [sx_u_n (by decide)]; exact a2) (by rw [sx_u_n (by decide)]; exact a3) (by rw [sx_u_n (by decide)]; exact a4) ⟨by rw [sx_u_n (by decide)]; exact a6, fun b hb hb2 => by rw [sx_u_n (by decide), sx_u_n (by decide)]; exact a7 b hb hb2, fun b hb => ?_, fun b hb => by rw [sx_u_n (by decide), sx_u_n (by decide)]; exact a8 b hb, fun _ => by rw [sx_u_n (by decide)]; exact a9⟩
      rw [sx_u_s]
      by_cases eb : b = e
      · rw [eb, pk_us]
      · rw [pk_un eb, a5]; exact g3 b (by omega)
    have isnew : z_new S bk e = true → B61 f' (nI e) (z_dr (z_drw S bk e)) 0 := fun hnw => by
      refine b61 _ _ _ _ ⟨fun _ => x_addItem Z' W hdr c f2 f3 g1 (by omega) (fun f2' a1 a2 a3 a4 a5 a6 a7 a8 a9 => ?_), fun z => absurd rfl z⟩
      rw [hnw] at eit ews els
      simp only [if_true] at eit ews els
      refine tail f2' (fun k hk => by rw [a1 k (by omega)]; exact f1 k hk) a2 a3 (by rw [a4]; exact f4) (a1 15 (by omega)) (by rw [eit]; exact a5) (fun b hb hb2 => ?_) (fun b hb => ?_) ?_
      · rw [a6, a7]
        by_cases eb : b = e
        · rw [eb, pk_us, pk_us]; exact ⟨rfl, rfl⟩
        · have := z_cnt_lt (p := z_new S bk) (show b < e by omega) hb2
          have ne : z_it S bk b ≠ z_it S bk e := by show z_cnt (z_new S bk) b ≠ z_cnt (z_new S bk) e; omega
          rw [pk_un ne, pk_un ne]
          exact g2 b (by omega) hb2
      · rw [a8, a9]
        by_cases eb : b = e + 1
        · rw [eb, eit, pk_us, pk_us, ews, els, (g4 e (Nat.le_refl _)).1, (g4 e (Nat.le_refl _)).2, nI_add, nI_add]
          exact ⟨rfl, rfl⟩
        · have := z_cnt_mono (p := z_new S bk) (show b ≤ e by omega)
          have ne : z_it S bk b ≠ z_it S bk e + 1 := by show z_cnt (z_new S bk) b ≠ z_cnt (z_new S bk) e + 1; omega
          rw [pk_un ne, pk_un ne]
          exact g4 b (by omega)
      · rw [eit, a7, show z_it S bk e + 1 - 1 = z_it S bk e by omega, pk_us]
    have old : z_drw S bk e = 6 → 0 < e → z_drw S bk (e - 1) = 6 → B61 f' (nI e) (z_dr (z_drw S bk e)) 1 := fun d1 d2 d3 => b61 _ _ _ _ ⟨fun z => absurd z (by decide), fun _ => by
      have hnw : z_new S bk e = false := decide_eq_false (fun z => z ⟨d2, d1, d3⟩)
      rw [hnw] at eit ews els
      refine tail f' f1 f2 f3 f4 rfl (by rw [eit]; exact g1) (fun b hb hb2 => ?_) (fun b hb => ?_) ?_
      · by_cases eb : b = e
        · rw [eb, hnw] at hb2; exact absurd hb2 (by decide)
        · exact g2 b (by omega) hb2
      · by_cases eb : b = e + 1
        · rw [eb, eit, ews, els]; exact g4 e (Nat.le_refl _)
        · exact g4 b (by omega)
      · rw [eit]
        have := g5 d2
        rw [d3, ← d1] at this
        exact this⟩
    have n60 : z_new S bk e = true → B60 f' (nI e) (z_dr (z_drw S bk e)) := fun z => b60 _ _ _ (isnew z)
    refine ⟨fun z => ?_, fun z => n60 (decide_eq_true (fun y => z ((z_dr_m1 hdr).mpr y.2.1)))⟩
    have d1 := (z_dr_m1 hdr).mp z
    rw [g1]
    refine pk_le _ 0 (fun z1 => ?_) (fun z1 => ?_)
    · have e0 : e = 0 := Nat.eq_zero_of_not_pos (fun z2 => by have := z_it_pos (S := S) (bk := bk) z2; omega)
      exact n60 (decide_eq_true (fun y => by omega))
    · have ep : 0 < e := Nat.pos_of_ne_zero (fun y => by rw [y] at z1; exact absurd (show 0 < 0 from z1) (Nat.lt_irrefl 0))
      rw [show nI (z_it S bk e) - 1 = nI (z_it S bk e - 1) from pk_sub (a := z_it S bk e) (b := 1) (by omega), nI_clamp (by omega), g5 ep]
      have hdr2 := z_drw_le (S := S) (bk := bk) (b := e - 1) hbk
      refine ⟨vp_in_nI (by omega) (by omega), fun y => old d1 ep ((z_dr_m1 hdr2).mp y), fun y => n60 (decide_eq_true (fun w => y ((z_dr_m1 hdr2).mpr w.2.2)))⟩
  refine key _ (fun k hk => by rw [sx_u_n (by omega), sx_u_n (by omega)]) (by rw [sx_u_n (by decide), sx_u_n (by decide)]; exact h11) (by rw [sx_u_n (by decide), sx_u_n (by decide)]; exact h12) (by rw [sx_u_s, pk_un (by decide), sx_u_s, pk_us]) ⟨by rw [sx_u_s, pk_us]; rfl, fun b hb => absurd hb (by omega), fun b hb => absurd hb (by omega), fun b hb => ?_, fun z => absurd z (by omega)⟩
  rw [show b = 0 by omega, sx_u_n (by decide), sx_u_n (by decide), sx_u_n (by decide), sx_u_n (by decide)]
  exact ⟨h17, h18⟩
