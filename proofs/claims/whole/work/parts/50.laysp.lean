/-! THE REFERENCE'S SPRINGS -/
def z_np (S : z_S) (dr b : Nat) : Nat := if dr = 6 then 1 else z_pc S dr b (S 1 b)
def z_spb (S : z_S) (bk : Nat) : Nat → Nat := z_sm (fun b => if z_new S bk b then z_np S (z_drw S bk b) b else 0)
/-- one item's springs from a place of the rows on -/
def z_F1 (g : sx_F) (S : z_S) (dr b s0 : Nat) : Prop := (dr = 6 ∧ g 17 s0 = 0 ∧ g 18 s0 = nI 24 ∧ g 19 s0 = nI 16) ∨ (dr ≠ 6 ∧ ∀ q, q < S 1 b → z_pl S dr b q = true → g 17 (s0 + z_pc S dr b q) = nI q ∧ g 18 (s0 + z_pc S dr b q) = nI (z_wd S dr b q) ∧ g 19 (s0 + z_pc S dr b q) = nI (z_le S dr b q))
/-- the places of a bar, written one behind the other -/
def z_Fa (g : sx_F) (S : z_S) (dr b s0 p : Nat) : Prop := ∀ q, q < p → z_pl S dr b q = true → g 17 (s0 + z_pc S dr b q) = nI q ∧ g 19 (s0 + z_pc S dr b q) = nI (z_le S dr b q)
/-- the instruments of a drawer, at one sixteenth: how many begin, how many sound -/
theorem m_count {S : z_S} {dr b p : Nat} {B : Int32 → Int32 → Int32 → Prop} (hd : dr ≤ 5) (st : ∀ k x y, k < 5 → z_in dr k = true → B (nI (x + (if 0 < z_bg S (12 * k + b) (S 1 b) p then 1 else 0))) (nI (y + (if z_bg S (12 * k + b) (S 1 b) p = 2 then 1 else 0))) (nI (k + 1)) → B (nI x) (nI y) (nI k)) (fin : B (nI (z_bn S dr b p 5)) (nI (z_sn S dr b p 5)) (nI (if dr = 5 then 5 else dr + 1))) : B (nI 0) (nI 0) (nI (if dr = 5 then 0 else dr)) := by
  by_cases e : dr = 5
  · rw [if_pos e] at fin ⊢
    have all : ∀ k, z_in dr k = true := fun k => decide_eq_true (Or.inl e)
    refine z_up (B := fun k => B (nI (z_bn S dr b p k)) (nI (z_sn S dr b p k)) (nI k)) 5 (fun k hk ih => ?_)
    by_cases c : k = 5
    · rw [c]; exact fin
    · refine st k _ _ (by omega) (all k) ?_
      have i2 := ih (by omega)
      rw [show z_bn S dr b p (k + 1) = z_bn S dr b p k + (if z_in dr k && decide (0 < z_bg S (12 * k + b) (S 1 b) p) then 1 else 0) from rfl, show z_sn S dr b p (k + 1) = z_sn S dr b p k + (if z_in dr k && decide (z_bg S (12 * k + b) (S 1 b) p = 2) then 1 else 0) from rfl, all k] at i2
      simp only [Bool.true_and, decide_eq_true_eq] at i2
      exact i2
  · rw [if_neg e] at fin ⊢
    have hd5 : dr < 5 := by omega
    refine st dr 0 0 hd5 (decide_eq_true (Or.inr rfl)) ?_
    have e1 : z_bn S dr b p 5 = 0 + (if 0 < z_bg S (12 * dr + b) (S 1 b) p then 1 else 0) := by
      unfold z_bn
      rw [z_cnt_in2 hd5 5 hd5, z_cnt_s, z_cnt_in hd5 dr (Nat.le_refl _), show z_in dr dr = true from decide_eq_true (Or.inr rfl)]
      simp only [Bool.true_and, decide_eq_true_eq]
    have e2 : z_sn S dr b p 5 = 0 + (if z_bg S (12 * dr + b) (S 1 b) p = 2 then 1 else 0) := by
      unfold z_sn
      rw [z_cnt_in2 hd5 5 hd5, z_cnt_s, z_cnt_in hd5 dr (Nat.le_refl _), show z_in dr dr = true from decide_eq_true (Or.inr rfl)]
      simp only [Bool.true_and, decide_eq_true_eq]
    rw [← e1, ← e2]
    exact fin
theorem z_sm_cnt {p : Nat → Bool} {w : Nat → Nat} {a : Nat} : ∀ b, a ≤ b → z_cnt p a = z_cnt p b → z_sm (fun x => if p x then w x else 0) a = z_sm (fun x => if p x then w x else 0) b
  | 0, h, _ => by rw [show a = 0 by omega]
  | b + 1, h, h2 => by
    by_cases e : a = b + 1
    · rw [e]
    · have m1 := z_cnt_mono (p := p) (show a ≤ b by omega)
      rw [z_cnt_s] at h2
      cases hn : p b
      · rw [hn] at h2
        rw [z_sm_cnt b (by omega) (by simpa using h2)]
        show _ = z_sm _ b + (if p b then w b else 0)
        rw [hn]; rfl
      · rw [hn] at h2
        simp at h2
        omega
theorem z_sm_cnt' {p : Nat → Bool} {w : Nat → Nat} {a b : Nat} (h : z_cnt p a = z_cnt p b) : z_sm (fun x => if p x then w x else 0) a = z_sm (fun x => if p x then w x else 0) b := by
  rcases Nat.le_total a b with c | c
  · exact z_sm_cnt b c h
  · exact (z_sm_cnt a c h.symm).symm
theorem z_sm_mono {w : Nat → Nat} {a b : Nat} (h : a ≤ b) : z_sm w a ≤ z_sm w b := by
  induction b with
  | zero => rw [show a = 0 by omega]; exact Nat.le_refl _
  | succ b ih =>
    by_cases e : a = b + 1
    · rw [e]; exact Nat.le_refl _
    · exact Nat.le_trans (ih (by omega)) (Nat.le_add_right _ _)
theorem z_sm_le {w : Nat → Nat} {c : Nat} (h : ∀ x, w x ≤ c) : ∀ n, z_sm w n ≤ c * n
  | 0 => Nat.zero_le _
  | n + 1 => by
    have := z_sm_le h n
    have := h n
    show z_sm w n + w n ≤ _
    rw [Nat.mul_succ]
    omega
theorem z_nx_yes {p : Nat → Bool} {q : Nat} : ∀ d a, a ≤ q → q < a + d → p q = true → (∀ y, a ≤ y → y < q → p y = false) → z_nx p d a = q
  | 0, a, h1, h2, _, _ => by omega
  | d + 1, a, h1, h2, h3, h4 => by
    show (if p a then a else z_nx p d (a + 1)) = q
    by_cases e : a = q
    · rw [e, h3]; rfl
    · rw [h4 a (Nat.le_refl _) (by omega)]
      exact z_nx_yes d (a + 1) (by omega) (by omega) h3 (fun y hy hy2 => h4 y (by omega) hy2)
theorem z_nx_no {p : Nat → Bool} : ∀ d a, (∀ y, a ≤ y → y < a + d → p y = false) → z_nx p d a = a + d
  | 0, a, _ => rfl
  | d + 1, a, h => by
    show (if p a then a else z_nx p d (a + 1)) = _
    rw [h a (Nat.le_refl _) (by omega)]
    show z_nx p d (a + 1) = _
    rw [z_nx_no d (a + 1) (fun y hy hy2 => h y (by omega) (by omega))]
    omega
/-- the items' springs as they stand in the reference's rows, of the items before one -/
def z_Y (g : sx_F) (S : z_S) (bk j : Nat) : Prop := (∀ b, b ≤ S 0 0 → z_it S bk b ≤ j → g 16 (z_it S bk b) = nI (z_spb S bk b)) ∧ ∀ b, b < S 0 0 → z_new S bk b = true → z_it S bk b < j → z_F1 g S (z_drw S bk b) b (z_spb S bk b) ∧ g 20 (z_it S bk b) = nI (8 + z_Wb S (z_drw S bk b) b) ∧ g 21 (z_it S bk b) = nI (8 + z_Lb S (z_drw S bk b) b)
theorem z_np_le {S : z_S} {bk b : Nat} (W : z_W S) (hb : b < S 0 0) : z_np S (z_drw S bk b) b ≤ 32 := by
  have hlen := W.2.1 b hb
  unfold z_np
  split
  · omega
  · have := z_cnt_le (p := z_pl S (z_drw S bk b) b) (S 1 b)
    have e : z_pc S (z_drw S bk b) b (S 1 b) ≤ S 1 b := this
    omega
theorem z_spb_le {S : z_S} {bk : Nat} (W : z_W S) : ∀ b, b ≤ S 0 0 → z_spb S bk b ≤ 32 * b
  | 0, _ => Nat.zero_le _
  | b + 1, h => by
    have i := z_spb_le (bk := bk) W b (by omega)
    have q := z_np_le (bk := bk) W (show b < S 0 0 by omega)
    have e : z_spb S bk (b + 1) = z_spb S bk b + (if z_new S bk b then z_np S (z_drw S bk b) b else 0) := rfl
    rw [e]
    split <;> omega
