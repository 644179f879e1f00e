theorem z_ss (a b c : Int32) : a - b - c = a - (b + c) := by
  apply Int32.toBitVec_inj.mp
  simp only [Int32.toBitVec_sub, Int32.toBitVec_add]
  bv_omega
def z_tc (S : z_S) (bk b : Nat) : Nat := if bk = 5 then 0 else 100 * (16 - (z_bk S bk b + z_fwd S bk (S 0 0 - b) b))
theorem z_tc_le {S : z_S} {bk b : Nat} : z_tc S bk b ≤ 1600 := by
  unfold z_tc
  split <;> omega
theorem m_turnCost {g : sx_F} {S : z_S} (M : z_M g S) (W : z_W S) {bk b : Nat} (hbk : bk ≤ 5) (hb : b < S 0 0) {Q : Int32 → Prop} (h : Q (nI (z_tc S bk (b + 1)))) : P_X7_turnCost g (nI bk) (nI b) Q := by
  have hn := W.1
  intro B27 h27
  unfold z_tc at h
  refine pk_eq bk 5 (fun c => h27 _ ⟨fun _ => ?_, fun z => absurd (by decide) z⟩) (fun c => m_silentTo M W (by omega) hb ?_)
  · rw [if_pos c] at h; exact h
  · rw [if_neg c] at h
    rw [nI_1]
    refine m_silentFrom M W (by omega) (by omega) (h27 _ ?_)
    have h1 := z_bk_le W (i := bk) (b + 1) (by omega)
    have h2 := z_fwd_le W (i := bk) (S 0 0 - (b + 1)) (b + 1) (by omega)
    rw [z_ss, nI_add]
    have hle : z_bk S bk (b + 1) + z_fwd S bk (S 0 0 - (b + 1)) (b + 1) ≤ 800 := by omega
    generalize z_bk S bk (b + 1) + z_fwd S bk (S 0 0 - (b + 1)) (b + 1) = m at h hle ⊢
    by_cases z : m ≤ 16
    · rw [show (16 : Int32) - nI m = nI (16 - m) from pk_sub (a := 16) z]
      refine pk_le (16 - m) 0 (fun y => ?_) (fun y => ?_)
      · rw [show 16 - m = 0 by omega] at h; exact h
      · rw [show (100 : Int32) * nI (16 - m) = nI (100 * (16 - m)) from pk_mul 100 _]; exact h
    · have neg : (16 : Int32) - nI m < 0 := pk_sneg (a := 16) (b := m) (by omega) (by omega)
      refine ⟨fun _ => ?_, fun y => absurd (Int32.le_of_lt neg) y⟩
      rw [show 16 - m = 0 by omega] at h; exact h
theorem x_priceTurns {f : sx_F} {S : z_S} {bk : Nat} {Q : sx_F → Prop} (Z : z_X f S) (W : z_W S) (hbk : bk ≤ 5) (h8 : f 8 2 = nI bk) (G : z_G f S bk (S 0 0)) (h : ∀ f' : sx_F, (∀ k, k ≠ 20 → f' k = f k) → (∀ b, b < S 0 0 → z_new S bk b = true → f' 20 (z_it S bk b) = nI (z_tc S bk b)) → f' 20 (z_it S bk (S 0 0)) = 0 → Q f') : P_X3_priceTurns f Q := by
  have hn := W.1
  have hitn : z_it S bk (S 0 0) ≤ S 0 0 := z_cnt_le _
  have hlt : ∀ b, b < S 0 0 → z_new S bk b = true → z_it S bk b < z_it S bk (S 0 0) := fun b hb hb2 => z_cnt_lt hb hb2
  intro B22 h22
  refine x_fill (by omega) (fun f0 a1 a2 => ?_)
  rw [show f0 8 2 = nI bk by rw [a1 8 (by decide)]; exact h8]
  refine pk_eq bk 5 (fun c => h f0 a1 (fun b hb hb2 => ?_) ?_) (fun c => ?_)
  · have := hlt b hb hb2
    rw [a2 _ (by omega)]
    unfold z_tc
    rw [if_pos c]; rfl
  · rw [a2 _ (by omega)]
  · have key : ∀ f' : sx_F, (∀ k, k ≠ 20 → f' k = f k) → (∀ b, b < S 0 0 → z_new S bk b = true → z_it S bk b < 0 → f' 20 (z_it S bk b) = nI (z_tc S bk b)) → (∀ i, 0 ≤ i → i < 13 → f' 20 i = 0) → B22 f' (nI 0) := by
      refine z_up (B := fun j => ∀ f' : sx_F, (∀ k, k ≠ 20 → f' k = f k) → (∀ b, b < S 0 0 → z_new S bk b = true → z_it S bk b < j → f' 20 (z_it S bk b) = nI (z_tc S bk b)) → (∀ i, j ≤ i → i < 13 → f' 20 i = 0) → B22 f' (nI j)) (z_it S bk (S 0 0)) (fun j hj ih => ?_)
      intro f' f1 f2 f3
      have Z' : z_X f' S := z_Xc Z (f1 1 (by decide)) (f1 2 (by decide)) (f1 5 (by decide)) (f1 6 (by decide)) (f1 7 (by decide))
      refine h22 _ _ ?_
      rw [f1 8 (by decide), G.1]
      refine pk_le (z_it S bk (S 0 0)) j (fun z => ?_) (fun z => ?_)
      · exact h f' f1 (fun b hb hb2 => f2 b hb hb2 (by have := hlt b hb hb2; omega)) (f3 _ (by omega) (by omega))
      · obtain ⟨x, hx, hnx, hjx⟩ := z_cnt_ex (p := z_new S bk) (S 0 0) j z
        have hjx : z_it S bk x = j := hjx
        have h14 := (G.2.1 x hx hnx).1
        rw [hjx] at h14
        rw [nI_clamp (n := j) (by omega), f1 14 (by decide), h14, h8]
        refine ⟨vp_in_nI (by omega) (by omega), x_silenceAround Z' W (by omega) hx ⟨vp_in_nI (by omega) (by omega), nm_e (nm_e ?_)⟩⟩
        rw [nI_1]
        have h1 := z_bk_le W (i := bk) x (by omega)
        have h2 := z_fwd_le W (i := bk) (S 0 0 - x) x (by omega)
        have etc : (100 : Int32) * (if 0 < (16 : Int32) - nI (z_bk S bk x + z_fwd S bk (S 0 0 - x) x) then (16 : Int32) - nI (z_bk S bk x + z_fwd S bk (S 0 0 - x) x) else 0) = nI (z_tc S bk x) := by
          unfold z_tc
          rw [if_neg c]
          have hle : z_bk S bk x + z_fwd S bk (S 0 0 - x) x ≤ 800 := by omega
          generalize z_bk S bk x + z_fwd S bk (S 0 0 - x) x = m at hle
          by_cases y : m < 16
          · rw [show (16 : Int32) - nI m = nI (16 - m) from pk_sub (a := 16) (by omega), if_pos (show (0 : Int32) < nI (16 - m) from nI_lt (a := 0) (b := 16 - m) (by omega) (by omega))]
            exact pk_mul 100 _
          · have nn : ¬ (0 : Int32) < (16 : Int32) - nI m := by
              by_cases e : m = 16
              · rw [e]; decide
              · have neg : (16 : Int32) - nI m < 0 := pk_sneg (a := 16) (b := m) (by omega) (by omega)
                exact fun w => absurd (Int32.lt_trans w neg) (by decide)
            rw [if_neg nn, show 16 - m = 0 by omega]
            rfl
        rw [etc]
        refine ih z _ (fun k hk => by rw [sx_u_n hk]; exact f1 k hk) (fun b hb hb2 hb3 => ?_) (fun i hi hi2 => ?_)
        · rw [sx_u_s]
          by_cases e : z_it S bk b = j
          · have eb : b = x := by
              rcases Nat.lt_trichotomy b x with y | y | y
              · have := z_cnt_lt y hb2
                have e2 : z_it S bk b < z_it S bk x := this
                omega
              · exact y
              · have := z_cnt_lt y hnx
                have e2 : z_it S bk x < z_it S bk b := this
                omega
            rw [e, pk_us, eb]
          · rw [pk_un e]; exact f2 b hb hb2 (by omega)
        · rw [sx_u_s, pk_un (by omega)]
          exact f3 i (by omega) hi2
    exact key f0 a1 (fun b _ _ hb => absurd hb (by omega)) (fun i _ hi => a2 i hi)
/-! THE ITEMS BY THEIR NUMBERS -/
def z_nth (p : Nat → Bool) (j : Nat) : Nat → Nat | 0 => 0 | e + 1 => if p e = true ∧ z_cnt p e = j then e else z_nth p j e
theorem z_nth_eq {p : Nat → Bool} {x : Nat} (hp : p x = true) : ∀ e, x < e → z_nth p (z_cnt p x) e = x
  | 0, h => absurd h (Nat.not_lt_zero _)
  | e + 1, h => by
    show (if p e = true ∧ z_cnt p e = z_cnt p x then e else z_nth p (z_cnt p x) e) = x
    by_cases c : e = x
    · rw [c, if_pos ⟨hp, rfl⟩]
    · have := z_cnt_lt (p := p) (show x < e by omega) hp
      rw [if_neg (fun z => by omega)]
      exact z_nth_eq hp e (by omega)
/-- the first bar of an item -/
def z_xb (S : z_S) (bk j : Nat) : Nat := z_nth (z_new S bk) j (S 0 0)
def z_IW (S : z_S) (bk j : Nat) : Nat := z_Wb S (z_drw S bk (z_xb S bk j)) (z_xb S bk j)
def z_IL (S : z_S) (bk j : Nat) : Nat := z_Lb S (z_drw S bk (z_xb S bk j)) (z_xb S bk j)
def z_IT (S : z_S) (bk j : Nat) : Nat := if j < z_it S bk (S 0 0) then z_tc S bk (z_xb S bk j) else 0
theorem z_xb_eq {S : z_S} {bk x : Nat} (hx : x < S 0 0) (hn : z_new S bk x = true) : z_xb S bk (z_it S bk x) = x := z_nth_eq hn _ hx
theorem z_wsum_it {S : z_S} {bk : Nat} : ∀ b, b ≤ S 0 0 → z_wsum S bk b = z_sm (z_IW S bk) (z_it S bk b) ∧ z_lsum S bk b = z_sm (z_IL S bk) (z_it S bk b)
  | 0, _ => ⟨rfl, rfl⟩
  | b + 1, h => by
    obtain ⟨h1, h2⟩ := z_wsum_it (S := S) (bk := bk) b (by omega)
    have e1 : z_wsum S bk (b + 1) = z_wsum S bk b + (if z_new S bk b then z_Wb S (z_drw S bk b) b else 0) := rfl
    have e2 : z_lsum S bk (b + 1) = z_lsum S bk b + (if z_new S bk b then z_Lb S (z_drw S bk b) b else 0) := rfl
    rw [e1, e2, z_it_s, h1, h2]
    cases hn : z_new S bk b
    · exact ⟨rfl, rfl⟩
    · have ex := z_xb_eq (show b < S 0 0 by omega) hn
      refine ⟨?_, ?_⟩
      · show _ = z_sm (z_IW S bk) (z_it S bk b) + z_IW S bk (z_it S bk b)
        unfold z_IW
        rw [ex]; rfl
      · show _ = z_sm (z_IL S bk) (z_it S bk b) + z_IL S bk (z_it S bk b)
        unfold z_IL
        rw [ex]; rfl
/-- the class's sums of items -/
theorem z_G.sums {f : sx_F} {S : z_S} {bk j : Nat} (G : z_G f S bk (S 0 0)) (hj : j ≤ z_it S bk (S 0 0)) : f 17 j = nI (z_sm (z_IW S bk) j) ∧ f 18 j = nI (z_sm (z_IL S bk) j) := by
  by_cases e : j = z_it S bk (S 0 0)
  · have h := G.2.2.2.1 (S 0 0) (Nat.le_refl _)
    obtain ⟨h1, h2⟩ := z_wsum_it (S := S) (bk := bk) (S 0 0) (Nat.le_refl _)
    rw [e, ← h1, ← h2]; exact h
  · obtain ⟨x, hx, hn, hjx⟩ := z_cnt_ex (p := z_new S bk) (S 0 0) j (by show j < z_it S bk (S 0 0); omega)
    have hjx : z_it S bk x = j := hjx
    have h := G.2.2.2.1 x (by omega)
    obtain ⟨h1, h2⟩ := z_wsum_it (S := S) (bk := bk) x (by omega)
    rw [hjx] at h h1 h2
    rw [← h1, ← h2]; exact h
theorem z_sn_b {S : z_S} {dr b p : Nat} : z_le S dr b p ≤ 9 := by
  have := z_sn_5 (S := S) (dr := dr) (b := b) (p := p)
  unfold z_le
  omega
theorem z_wd_b {S : z_S} {dr b p : Nat} : z_wd S dr b p ≤ 24 := by
  have h1 := z_sn_b (S := S) (dr := dr) (b := b) (p := p)
  have h2 := z_hv_le 6 (z_nx (z_pl S dr b) (S 1 b - (p + 1)) (p + 1) - p)
  unfold z_wd
  split <;> omega
/-- an item's width and least: bounds enough for every cost -/
theorem z_IW_b {S : z_S} {bk j : Nat} (W : z_W S) (hbk : bk ≤ 5) (hj : j < z_it S bk (S 0 0)) : z_IW S bk j ≤ 768 ∧ 1 ≤ z_IL S bk j ∧ z_IL S bk j ≤ 288 := by
  obtain ⟨x, hx, hn, hjx⟩ := z_cnt_ex (p := z_new S bk) (S 0 0) j hj
  have hjx : z_it S bk x = j := hjx
  have hl := W.2.1 x hx
  have ex := z_xb_eq hx hn
  rw [hjx] at ex
  unfold z_IW z_IL z_Wb z_Lb
  rw [ex]
  by_cases e : z_drw S bk x = 6
  · rw [if_pos e, if_pos e]; omega
  · rw [if_neg e, if_neg e]
    have w1 := z_sm_le (w := fun p => if z_pl S (z_drw S bk x) x p then z_wd S (z_drw S bk x) x p else 0) (c := 24) (fun p => by
      have := z_wd_b (S := S) (dr := z_drw S bk x) (b := x) (p := p)
      show (if z_pl S (z_drw S bk x) x p then z_wd S (z_drw S bk x) x p else 0) ≤ 24
      split <;> omega) (S 1 x)
    have l1 := z_sm_le (w := fun p => if z_pl S (z_drw S bk x) x p then z_le S (z_drw S bk x) x p else 0) (c := 9) (fun p => by
      have := z_sn_b (S := S) (dr := z_drw S bk x) (b := x) (p := p)
      show (if z_pl S (z_drw S bk x) x p then z_le S (z_drw S bk x) x p else 0) ≤ 9
      split <;> omega) (S 1 x)
    have hd := z_drw_le (S := S) (bk := bk) (b := x) hbk
    have l0 : 0 < z_ls S (z_drw S bk x) x (S 1 x) := by
      have m := z_sm_mono (w := fun p => if z_pl S (z_drw S bk x) x p then z_le S (z_drw S bk x) x p else 0) (show 1 ≤ S 1 x from hl.1)
      have e1 : z_sm (fun p => if z_pl S (z_drw S bk x) x p then z_le S (z_drw S bk x) x p else 0) 1 = 0 + (if z_pl S (z_drw S bk x) x 0 then z_le S (z_drw S bk x) x 0 else 0) := rfl
      rw [z_pl0 W (by omega) hx, if_pos rfl] at e1
      have e2 : 4 ≤ z_le S (z_drw S bk x) x 0 := Nat.le_add_right _ _
      have m' : z_sm (fun p => if z_pl S (z_drw S bk x) x p then z_le S (z_drw S bk x) x p else 0) 1 ≤ z_ls S (z_drw S bk x) x (S 1 x) := m
      omega
    have w1' : z_ws S (z_drw S bk x) x (S 1 x) ≤ 24 * S 1 x := w1
    have l1' : z_ls S (z_drw S bk x) x (S 1 x) ≤ 9 * S 1 x := l1
    omega
