/-! THE REFERENCE'S SPRINGS -/
def z_np (S : z_S) (dr b : Nat) : Nat := if dr = 6 then 1 else z_pc S dr b (S 1 b)
def z_spb (S : z_S) (bk : Nat) : Nat → Nat := z_sm (fun b => if z_new S bk b then z_np S (z_drw S bk b) b else 0)
/-- one item's springs from a place of the rows on -/
def z_F1 (g : sx_F) (S : z_S) (dr b s0 : Nat) : Prop := (dr = 6 ∧ g 17 s0 = 0 ∧ g 18 s0 = nI 24 ∧ g 19 s0 = nI 16) ∨ (dr ≠ 6 ∧ ∀ q, q < S 1 b → z_pl S dr b q = true → g 17 (s0 + z_pc S dr b q) = nI q ∧ g 18 (s0 + z_pc S dr b q) = nI (z_wd S dr b q) ∧ g 19 (s0 + z_pc S dr b q) = nI (z_le S dr b q))
/-- the places of a bar, written one behind the other -/
def z_Fa (g : sx_F) (S : z_S) (dr b s0 p : Nat) : Prop := ∀ q, q < p → z_pl S dr b q = true → g 17 (s0 + z_pc S dr b q) = nI q ∧ g 19 (s0 + z_pc S dr b q) = nI (z_le S dr b q)
/-- the instruments of a drawer, at one sixteenth: how many begin, how many sound -/
theorem m_count {g : sx_F} {S : z_S} {dr b p : Nat} {B : Int32 → Int32 → Int32 → Prop} (hd : dr ≤ 5) (hP : ∀ k, k < 5 → z_in dr k = true → B (nI (z_bn S dr b p k)) (nI (z_sn S dr b p k)) (nI k) ∨ True) (st : ∀ k x y, k < 5 → z_in dr k = true → B (nI (x + (if 0 < z_bg S (12 * k + b) (S 1 b) p then 1 else 0))) (nI (y + (if z_bg S (12 * k + b) (S 1 b) p = 2 then 1 else 0))) (nI (k + 1)) → B (nI x) (nI y) (nI k)) (fin : B (nI (z_bn S dr b p 5)) (nI (z_sn S dr b p 5)) (nI (if dr = 5 then 5 else dr + 1))) : B (nI 0) (nI 0) (nI (if dr = 5 then 0 else dr)) := by
  by_cases e : dr = 5
  · rw [if_pos e] at fin ⊢
    have all : ∀ k, z_in dr k = true := fun k => decide_eq_true (Or.inl e)
    refine z_up (B := fun k => B (nI (z_bn S dr b p k)) (nI (z_sn S dr b p k)) (nI k)) 5 (fun k hk ih => ?_)
    by_cases c : k = 5
    · rw [c]; exact fin
    · refine st k _ _ (by omega) (all k) ?_
      have i2 := ih (by omega)
      rw [show z_bn S dr b p (k + 1) = z_bn S dr b p k + (if z_in dr k && decide (0 < z_bg S (12 * k + b) (S 1 b) p) then 1 else 0) from rfl, show z_sn S dr b p (k + 1) = z_sn S dr b p k + (if z_in dr k && decide (z_bg S (12 * k + b) (S 1 b) p = 2) then 1 else 0) from rfl, all k] at i2
      simp only [Bool.true_and, decide_eq_true_eq] at i2
      exact i2
  · rw [if_neg e] at fin ⊢
    have hd5 : dr < 5 := by omega
    refine st dr 0 0 hd5 (decide_eq_true (Or.inr rfl)) ?_
    have e1 : z_bn S dr b p 5 = 0 + (if 0 < z_bg S (12 * dr + b) (S 1 b) p then 1 else 0) := by
      unfold z_bn
      rw [z_cnt_in2 hd5 5 hd5, z_cnt_s, z_cnt_in hd5 dr (Nat.le_refl _), show z_in dr dr = true from decide_eq_true (Or.inr rfl)]
      simp only [Bool.true_and, decide_eq_true_eq]
    have e2 : z_sn S dr b p 5 = 0 + (if z_bg S (12 * dr + b) (S 1 b) p = 2 then 1 else 0) := by
      unfold z_sn
      rw [z_cnt_in2 hd5 5 hd5, z_cnt_s, z_cnt_in hd5 dr (Nat.le_refl _), show z_in dr dr = true from decide_eq_true (Or.inr rfl)]
      simp only [Bool.true_and, decide_eq_true_eq]
    rw [← e1, ← e2]
    exact fin
theorem z_sm_it {S : z_S} {bk : Nat} {w : Nat → Nat} {a : Nat} : ∀ b, a ≤ b → z_it S bk a = z_it S bk b → z_sm (fun x => if z_new S bk x then w x else 0) a = z_sm (fun x => if z_new S bk x then w x else 0) b
  | 0, h, _ => by rw [show a = 0 by omega]
  | b + 1, h, h2 => by
    by_cases e : a = b + 1
    · rw [e]
    · have m1 := z_cnt_mono (p := z_new S bk) (show a ≤ b by omega)
      have m1' : z_it S bk a ≤ z_it S bk b := m1
      rw [z_it_s] at h2
      cases hn : z_new S bk b
      · rw [hn] at h2
        rw [z_sm_it b (by omega) (by simpa using h2)]
        show _ = z_sm _ b + (if z_new S bk b then w b else 0)
        rw [hn]; rfl
      · rw [hn] at h2
        simp at h2
        omega
