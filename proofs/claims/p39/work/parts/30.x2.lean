theorem z_it_run {S : z_S} {bk v : Nat} : ∀ w, v < w → z_new S bk v = true → (∀ b, v < b → b < w → z_new S bk b = false) → z_it S bk w = z_it S bk v + 1 := by
  intro w
  induction w with
  | zero => intro h; omega
  | succ w ih =>
    intro h h1 h2
    rw [z_it_s]
    by_cases e : w = v
    · rw [e, h1]; rfl
    · rw [ih (by omega) h1 (fun b hb hb2 => h2 b hb (by omega)), h2 w (by omega) (by omega)]; rfl
theorem z_cnt_ex {p : Nat → Bool} : ∀ e j, j < z_cnt p e → ∃ x, x < e ∧ p x = true ∧ z_cnt p x = j
  | 0, j, h => absurd h (Nat.not_lt_zero _)
  | e + 1, j, h => by
    rw [z_cnt_s] at h
    by_cases c : j < z_cnt p e
    · obtain ⟨x, h1, h2, h3⟩ := z_cnt_ex e j c
      exact ⟨x, by omega, h2, h3⟩
    · cases hp : p e
      · rw [hp] at h; simp at h; exact absurd h c
      · rw [hp] at h
        simp at h
        exact ⟨e, by omega, hp, by omega⟩
theorem z_first {S : z_S} {bk : Nat} : ∀ b, ∃ x, x ≤ b ∧ z_new S bk x = true ∧ z_it S bk (b + 1) = z_it S bk x + 1 ∧ z_drw S bk x = z_drw S bk b ∧ (x < b → z_drw S bk b = 6)
  | 0 => ⟨0, Nat.le_refl _, z_new0 S bk, by rw [z_it_s, z_new0]; rfl, rfl, fun z => absurd z (by omega)⟩
  | b + 1 => by
    cases hn : z_new S bk (b + 1)
    · obtain ⟨x, h1, h2, h3, h4, h5⟩ := z_first (S := S) (bk := bk) b
      have hq : 0 < b + 1 ∧ z_drw S bk (b + 1) = 6 ∧ z_drw S bk (b + 1 - 1) = 6 := by
        unfold z_new at hn
        rw [decide_eq_false_iff_not] at hn
        exact Decidable.not_not.mp hn
      rw [show b + 1 - 1 = b by omega] at hq
      exact ⟨x, by omega, h2, by rw [z_it_s, hn, h3]; rfl, by rw [h4, hq.2.1, hq.2.2], fun _ => hq.2.1⟩
    · exact ⟨b + 1, Nat.le_refl _, hn, by rw [z_it_s, hn]; rfl, rfl, fun z => absurd z (by omega)⟩
theorem z_last {S : z_S} {bk n : Nat} : ∀ d b, b + d + 1 = n → ∃ l, b ≤ l ∧ l < n ∧ (l + 1 = n ∨ z_new S bk (l + 1) = true) ∧ z_it S bk (l + 1) = z_it S bk (b + 1)
  | 0, b, h => ⟨b, Nat.le_refl _, by omega, Or.inl (by omega), rfl⟩
  | d + 1, b, h => by
    cases hn : z_new S bk (b + 1)
    · obtain ⟨l, h1, h2, h3, h4⟩ := z_last (S := S) (bk := bk) (n := n) d (b + 1) (by omega)
      exact ⟨l, by omega, h2, h3, by rw [h4, z_it_s, hn]; rfl⟩
    · exact ⟨b, Nat.le_refl _, by omega, Or.inr hn, rfl⟩
theorem x_openBook {t : Nat} {f g : sx_F} {S : z_S} {bk : Nat} {Q : sx_F → Prop} {X : String → sx_F → Prop} (R : z_R t f g S) (hbk : bk ≤ 5) (h : ∀ f' : sx_F, z_fx f f' → z_X f' S → (∀ k, 19 ≤ k → f' k = f k) → f' 11 0 = 0 → f' 12 0 = 0 → f' 8 2 = nI bk → z_G f' S bk (S 0 0) → Q f') : P_X6_openBook f (nI bk) Q X := by
  obtain ⟨w, q, p1, p2, p3, p4, p5, p6, p7, p8, p11, p12, p17, p18⟩ := R.2.2.2.2.2.1
  refine x_needIndex_t (n := 6) (by omega) (by omega) (x_gather R.1 R.2.2.1 hbk p11 p12 p17 p18 (fun f' a1 a2 a3 a4 a5 => ?_))
  have a0 := a5.2.2.2.1 0 (by omega)
  have fx : z_fx f f' := by
    refine ⟨fun k hk => a1 k (by omega), fun k j hk => ?_⟩
    rcases hk with ⟨rfl, hk⟩ | ⟨rfl, rfl | rfl | rfl | rfl⟩
    · rw [a1 19 (by omega)]
    · rw [a2, p11]
    · rw [a3, p12]
    · rw [p17]; exact a0.1
    · rw [p18]; exact a0.2
  exact h f' fx (R.1.fx fx) (fun k hk => a1 k (by omega)) a2 a3 a4 a5
theorem z_gx_items {g g' : sx_F} (h1 : ∀ k, (1 ≤ k ∧ k ≤ 12) ∨ 16 ≤ k → g' k = g k) (h2 : ∀ j, j ≠ 20 → g' 0 j = g 0 j) : z_gx g g' := ⟨fun k hk => h1 k (Or.inl hk), fun j hj => h2 j (by omega)⟩
theorem z_bgk_at {S : z_S} (W : z_W S) {s p k : Nat} (hs : s < 60) (hk : z_fl S s k = p) : ∀ c, k < c → c ≤ S 2 s → z_bgk S s p c = if S 4 (8 * s + k) = 0 then 1 else 2
  | 0, h, _ => absurd h (Nat.not_lt_zero _)
  | c + 1, h, h2 => by
    show (if z_fl S s c = p then (if S 4 (8 * s + c) = 0 then 1 else 2) else z_bgk S s p c) = _
    by_cases e : c = k
    · rw [e, if_pos hk]
    · have := z_fl_lt W hs (show k < c by omega) (by omega)
      rw [if_neg (by omega)]
      exact z_bgk_at W hs hk c (by omega) (by omega)
theorem z_pl0 {S : z_S} {dr b : Nat} (W : z_W S) (hd : dr ≤ 5) (hb : b < S 0 0) : z_pl S dr b 0 = true := by
  have hn := W.1
  have hlen := W.2.1 b hb
  obtain ⟨i, hi, hin⟩ : ∃ i, i < 5 ∧ z_in dr i = true := by
    by_cases e : dr = 5
    · exact ⟨0, by omega, decide_eq_true (Or.inl e)⟩
    · exact ⟨dr, by omega, decide_eq_true (Or.inr rfl)⟩
  have hs : 12 * i + b < 60 := by omega
  have pos : 0 < z_bg S (12 * i + b) (S 1 b) 0 := by
    unfold z_bg
    by_cases c : S 2 (12 * i + b) = 0
    · rw [c]
      rw [if_pos (show z_bgk S (12 * i + b) 0 0 = 0 from rfl), if_pos (show z_fl S (12 * i + b) 0 = 0 ∧ 0 < S 1 b from ⟨rfl, by omega⟩)]
      omega
    · rw [z_bgk_at W hs (show z_fl S (12 * i + b) 0 = 0 from rfl) _ (by omega) (Nat.le_refl _)]
      by_cases z : S 4 (8 * (12 * i + b) + 0) = 0
      · rw [if_pos z, if_neg (by decide)]; omega
      · rw [if_neg z, if_neg (by decide)]; omega
  refine decide_eq_true ?_
  refine Nat.pos_of_ne_zero (fun z => ?_)
  have := (z_cnt_0 (p := fun k => z_in dr k && decide (0 < z_bg S (12 * k + b) (S 1 b) 0)) 5).mp z i hi
  rw [hin, decide_eq_true pos] at this
  exact absurd this (by decide)
theorem z_cnt_in {dr : Nat} {p : Nat → Bool} (hd : dr < 5) : ∀ m, m ≤ dr → z_cnt (fun k => z_in dr k && p k) m = 0
  | 0, _ => rfl
  | m + 1, h => by
    rw [z_cnt_s, z_cnt_in hd m (by omega), show z_in dr m = false from decide_eq_false (fun z => by omega)]
    rfl
theorem z_cnt_in2 {dr : Nat} {p : Nat → Bool} (hd : dr < 5) : ∀ m, dr < m → z_cnt (fun k => z_in dr k && p k) m = z_cnt (fun k => z_in dr k && p k) (dr + 1)
  | 0, h => absurd h (Nat.not_lt_zero _)
  | m + 1, h => by
    by_cases e : m = dr
    · rw [e]
    · rw [z_cnt_s, z_cnt_in2 hd m (by omega), show z_in dr m = false from decide_eq_false (fun z => by omega)]
      simp
def z_np (S : z_S) (dr b : Nat) : Nat := if dr = 6 then 1 else z_pc S dr b (S 1 b)
def z_spb (S : z_S) (bk : Nat) : Nat → Nat := z_sm (fun b => if z_new S bk b then z_np S (z_drw S bk b) b else 0)
def z_F1 (g : sx_F) (S : z_S) (dr b s0 : Nat) : Prop := (dr = 6 ∧ g 17 s0 = 0 ∧ g 18 s0 = nI 24 ∧ g 19 s0 = nI 16) ∨ (dr ≠ 6 ∧ ∀ q, q < S 1 b → z_pl S dr b q = true → g 17 (s0 + z_pc S dr b q) = nI q ∧ g 18 (s0 + z_pc S dr b q) = nI (z_wd S dr b q) ∧ g 19 (s0 + z_pc S dr b q) = nI (z_le S dr b q))
def z_Fa (g : sx_F) (S : z_S) (dr b s0 p : Nat) : Prop := ∀ q, q < p → z_pl S dr b q = true → g 17 (s0 + z_pc S dr b q) = nI q ∧ g 19 (s0 + z_pc S dr b q) = nI (z_le S dr b q)
theorem m_count {S : z_S} {dr b p : Nat} {B : Int32 → Int32 → Int32 → Prop} (hd : dr ≤ 5) (st : ∀ k x y, k < 5 → z_in dr k = true → B (nI (x + (if 0 < z_bg S (12 * k + b) (S 1 b) p then 1 else 0))) (nI (y + (if z_bg S (12 * k + b) (S 1 b) p = 2 then 1 else 0))) (nI (k + 1)) → B (nI x) (nI y) (nI k)) (fin : B (nI (z_bn S dr b p 5)) (nI (z_sn S dr b p 5)) (nI (if dr = 5 then 5 else dr + 1))) : B (nI 0) (nI 0) (nI (if dr = 5 then 0 else dr)) := by
  by_cases e : dr = 5
  · rw [if_pos e] at fin ⊢
    have all : ∀ k, z_in dr k = true := fun k => decide_eq_true (Or.inl e)
    refine z_up (B := fun k => B (nI (z_bn S dr b p k)) (nI (z_sn S dr b p k)) (nI k)) 5 (fun k hk ih => ?_)
    by_cases c : k = 5
    · rw [c]; exact fin
    · refine st k _ _ (by omega) (all k) ?_
      have i2 := ih (by omega)
      rw [show z_bn S dr b p (k + 1) = z_bn S dr b p k + (if z_in dr k && decide (0 < z_bg S (12 * k + b) (S 1 b) p) then 1 else 0) from rfl, show z_sn S dr b p (k + 1) = z_sn S dr b p k + (if z_in dr k && decide (z_bg S (12 * k + b) (S 1 b) p = 2) then 1 else 0) from rfl, all k] at i2
      simp only [Bool.true_and, decide_eq_true_eq] at i2
      exact i2
  · rw [if_neg e] at fin ⊢
    have hd5 : dr < 5 := by omega
    refine st dr 0 0 hd5 (decide_eq_true (Or.inr rfl)) ?_
    have e1 : z_bn S dr b p 5 = 0 + (if 0 < z_bg S (12 * dr + b) (S 1 b) p then 1 else 0) := by
      unfold z_bn
      rw [z_cnt_in2 hd5 5 hd5, z_cnt_s, z_cnt_in hd5 dr (Nat.le_refl _), show z_in dr dr = true from decide_eq_true (Or.inr rfl)]
      simp only [Bool.true_and, decide_eq_true_eq]
    have e2 : z_sn S dr b p 5 = 0 + (if z_bg S (12 * dr + b) (S 1 b) p = 2 then 1 else 0) := by
      unfold z_sn
      rw [z_cnt_in2 hd5 5 hd5, z_cnt_s, z_cnt_in hd5 dr (Nat.le_refl _), show z_in dr dr = true from decide_eq_true (Or.inr rfl)]
      simp only [Bool.true_and, decide_eq_true_eq]
    rw [← e1, ← e2]
    exact fin
theorem z_sm_cnt {p : Nat → Bool} {w : Nat → Nat} {a : Nat} : ∀ b, a ≤ b → z_cnt p a = z_cnt p b → z_sm (fun x => if p x then w x else 0) a = z_sm (fun x => if p x then w x else 0) b
  | 0, h, _ => by rw [show a = 0 by omega]
  | b + 1, h, h2 => by
    by_cases e : a = b + 1
    · rw [e]
    · have m1 := z_cnt_mono (p := p) (show a ≤ b by omega)
      rw [z_cnt_s] at h2
      cases hn : p b
      · rw [hn] at h2
        rw [z_sm_cnt b (by omega) (by simpa using h2)]
        show _ = z_sm _ b + (if p b then w b else 0)
        rw [hn]; rfl
      · rw [hn] at h2
        simp at h2
        omega
theorem z_sm_cnt' {p : Nat → Bool} {w : Nat → Nat} {a b : Nat} (h : z_cnt p a = z_cnt p b) : z_sm (fun x => if p x then w x else 0) a = z_sm (fun x => if p x then w x else 0) b := by
  rcases Nat.le_total a b with c | c
  · exact z_sm_cnt b c h
  · exact (z_sm_cnt a c h.symm).symm
theorem z_sm_mono {w : Nat → Nat} {a b : Nat} (h : a ≤ b) : z_sm w a ≤ z_sm w b := by
  induction b with
  | zero => rw [show a = 0 by omega]; exact Nat.le_refl _
  | succ b ih =>
    by_cases e : a = b + 1
    · rw [e]; exact Nat.le_refl _
    · exact Nat.le_trans (ih (by omega)) (Nat.le_add_right _ _)
theorem z_sm_le {w : Nat → Nat} {c : Nat} (h : ∀ x, w x ≤ c) : ∀ n, z_sm w n ≤ c * n
  | 0 => Nat.zero_le _
  | n + 1 => by
    have := z_sm_le h n
    have := h n
    show z_sm w n + w n ≤ _
    rw [Nat.mul_succ]
    omega
theorem z_nx_yes {p : Nat → Bool} {q : Nat} : ∀ d a, a ≤ q → q < a + d → p q = true → (∀ y, a ≤ y → y < q → p y = false) → z_nx p d a = q
  | 0, a, h1, h2, _, _ => by omega
  | d + 1, a, h1, h2, h3, h4 => by
    show (if p a then a else z_nx p d (a + 1)) = q
    by_cases e : a = q
    · rw [e, h3]; rfl
    · rw [h4 a (Nat.le_refl _) (by omega)]
      exact z_nx_yes d (a + 1) (by omega) (by omega) h3 (fun y hy hy2 => h4 y (by omega) hy2)
theorem z_nx_no {p : Nat → Bool} : ∀ d a, (∀ y, a ≤ y → y < a + d → p y = false) → z_nx p d a = a + d
  | 0, a, _ => rfl
  | d + 1, a, h => by
    show (if p a then a else z_nx p d (a + 1)) = _
    rw [h a (Nat.le_refl _) (by omega)]
    show z_nx p d (a + 1) = _
    rw [z_nx_no d (a + 1) (fun y hy hy2 => h y (by omega) (by omega))]
    omega
def z_Y (g : sx_F) (S : z_S) (bk j : Nat) : Prop := (∀ b, b ≤ S 0 0 → z_it S bk b ≤ j → g 16 (z_it S bk b) = nI (z_spb S bk b)) ∧ ∀ b, b < S 0 0 → z_new S bk b = true → z_it S bk b < j → z_F1 g S (z_drw S bk b) b (z_spb S bk b) ∧ g 20 (z_it S bk b) = nI (8 + z_Wb S (z_drw S bk b) b) ∧ g 21 (z_it S bk b) = nI (8 + z_Lb S (z_drw S bk b) b)
theorem z_np_le {S : z_S} {bk b : Nat} (W : z_W S) (hb : b < S 0 0) : z_np S (z_drw S bk b) b ≤ 32 := by
  have hlen := W.2.1 b hb
  unfold z_np
  split
  · omega
  · have := z_cnt_le (p := z_pl S (z_drw S bk b) b) (S 1 b)
    have e : z_pc S (z_drw S bk b) b (S 1 b) ≤ S 1 b := this
    omega
theorem z_spb_le {S : z_S} {bk : Nat} (W : z_W S) : ∀ b, b ≤ S 0 0 → z_spb S bk b ≤ 32 * b
  | 0, _ => Nat.zero_le _
  | b + 1, h => by
    have i := z_spb_le (bk := bk) W b (by omega)
    have q := z_np_le (bk := bk) W (show b < S 0 0 by omega)
    have e : z_spb S bk (b + 1) = z_spb S bk b + (if z_new S bk b then z_np S (z_drw S bk b) b else 0) := rfl
    rw [e]
    split <;> omega
theorem z_F1.cg {g g' : sx_F} {S : z_S} {dr b s0 : Nat} (h : z_F1 g S dr b s0) (c : ∀ k i, k = 17 ∨ k = 18 ∨ k = 19 → s0 ≤ i → i < s0 + z_np S dr b → g' k i = g k i) : z_F1 g' S dr b s0 := by
  unfold z_np at c
  rcases h with ⟨h1, h2, h3, h4⟩ | ⟨h1, h2⟩
  · rw [if_pos h1] at c
    exact Or.inl ⟨h1, by rw [c 17 s0 (by decide) (by omega) (by omega)]; exact h2, by rw [c 18 s0 (by decide) (by omega) (by omega)]; exact h3, by rw [c 19 s0 (by decide) (by omega) (by omega)]; exact h4⟩
  · rw [if_neg h1] at c
    refine Or.inr ⟨h1, fun q hq hp => ?_⟩
    have lt := z_cnt_lt (p := z_pl S dr b) hq hp
    have lt' : z_pc S dr b q < z_pc S dr b (S 1 b) := lt
    obtain ⟨a1, a2, a3⟩ := h2 q hq hp
    rw [c 17 _ (by decide) (by omega) (by omega), c 18 _ (by decide) (by omega) (by omega), c 19 _ (by decide) (by omega) (by omega)]
    exact ⟨a1, a2, a3⟩
def z_lsd (S : z_S) (s : Nat) : Nat → Nat | 0 => 0 | k + 1 => if S 4 (8 * s + k) = 0 then z_lsd S s k else z_fl S s (k + 1)
theorem z_lsd_le {S : z_S} {s : Nat} : ∀ k, z_lsd S s k ≤ z_fl S s k
  | 0 => Nat.le_refl _
  | k + 1 => by
    have := z_lsd_le (S := S) (s := s) k
    have e : z_fl S s (k + 1) = z_fl S s k + S 3 (8 * s + k) := rfl
    show (if S 4 (8 * s + k) = 0 then z_lsd S s k else z_fl S s (k + 1)) ≤ _
    split <;> omega
def z_bk (S : z_S) (i : Nat) : Nat → Nat | 0 => 0 | b + 1 => (S 1 b - z_lsd S (12 * i + b) (S 2 (12 * i + b))) + (if z_lsd S (12 * i + b) (S 2 (12 * i + b)) = 0 then z_bk S i b else 0)
def z_fv (S : z_S) (s len : Nat) : Nat → Nat → Nat | 0, _ => len | d + 1, k => if S 4 (8 * s + k) = 0 then z_fv S s len d (k + 1) else z_fl S s k
def z_fwd (S : z_S) (i : Nat) : Nat → Nat → Nat | 0, _ => 0 | d + 1, b => if z_fv S (12 * i + b) (S 1 b) (S 2 (12 * i + b)) 0 < S 1 b then z_fv S (12 * i + b) (S 1 b) (S 2 (12 * i + b)) 0 else S 1 b + z_fwd S i d (b + 1)
theorem z_fv_le {S : z_S} (W : z_W S) {s len : Nat} (hs : s < 60) (hf : z_fl S s (S 2 s) ≤ len) : ∀ d k, k + d = S 2 s → z_fv S s len d k ≤ len
  | 0, _, _ => Nat.le_refl _
  | d + 1, k, h => by
    show (if S 4 (8 * s + k) = 0 then z_fv S s len d (k + 1) else z_fl S s k) ≤ len
    have := z_fv_le W hs hf d (k + 1) (by omega)
    have h2 := z_fl_le (S := S) s (show k ≤ S 2 s by omega)
    split <;> omega
theorem z_bk_le {S : z_S} (W : z_W S) {i : Nat} : ∀ b, b ≤ S 0 0 → z_bk S i b ≤ 32 * b
  | 0, _ => Nat.zero_le _
  | b + 1, h => by
    have := z_bk_le W (i := i) b (by omega)
    have hl := W.2.1 b (by omega)
    show (S 1 b - z_lsd S (12 * i + b) (S 2 (12 * i + b))) + (if z_lsd S (12 * i + b) (S 2 (12 * i + b)) = 0 then z_bk S i b else 0) ≤ _
    split <;> omega
theorem z_fwd_le {S : z_S} (W : z_W S) {i : Nat} : ∀ d b, b + d ≤ S 0 0 → z_fwd S i d b ≤ 32 * d
  | 0, _, _ => Nat.zero_le _
  | d + 1, b, h => by
    have := z_fwd_le W (i := i) d (b + 1) (by omega)
    have hl := W.2.1 b (by omega)
    show (if z_fv S (12 * i + b) (S 1 b) (S 2 (12 * i + b)) 0 < S 1 b then z_fv S (12 * i + b) (S 1 b) (S 2 (12 * i + b)) 0 else S 1 b + z_fwd S i d (b + 1)) ≤ _
    split <;> omega
theorem x_silenceAtEnd {f : sx_F} {S : z_S} (Z : z_X f S) (W : z_W S) {i b : Nat} (hi : i < 5) (hb : b < S 0 0) {Q : Int32 → Prop} (h : Q (nI (S 1 b - z_lsd S (12 * i + b) (S 2 (12 * i + b))))) : P_X4_silenceAtEnd f (nI i) (nI b) Q := by
  have hn := W.1
  intro B15 B52 h15 h52
  refine x_slotOf ?_
  have hs : 12 * i + b < 60 := by omega
  have hfl := W.2.2.2.2.2.1 i b hi hb
  generalize 12 * i + b = s at hs h hfl
  have hc := W.2.2.1 s hs
  refine z_up (B := fun k => B15 (nI s) (nI (z_fl S s k)) (nI (z_lsd S s k)) (nI k)) (S 2 s) (fun k hk ih => h15 _ _ _ _ ⟨vp_in_nI (by omega) (by omega), ?_⟩)
  rw [nI_clamp (by omega), Z.2.2.1 s hs]
  refine pk_le (S 2 s) k (fun c => ⟨vp_in_nI (by omega) (by omega), ?_⟩) (fun c => x_lengthAt Z hs (by omega) (nm_e (x_pitchAt Z hs (by omega) ?_)))
  · have ek : k = S 2 s := by omega
    have hl := z_lsd_le (S := S) (s := s) (S 2 s)
    rw [nI_clamp (by omega), Z.2.1 b (by omega), ek, pk_sub (by omega)]
    exact h
  · have hp60 := (W.2.2.2.1 (8 * s + k) (by omega)).2
    have i2 : B15 (nI s) (nI (z_fl S s k + S 3 (8 * s + k))) (nI (if S 4 (8 * s + k) = 0 then z_lsd S s k else z_fl S s (k + 1))) (nI (k + 1)) := ih c
    rw [nI_add]
    refine pk_le (S 4 (8 * s + k)) 0 (fun z => h52 _ _ _ _ (nm_e ?_)) (fun z => h52 _ _ _ _ (nm_e ?_))
    · rw [if_pos (by omega)] at i2
      rw [nI_1]; exact i2
    · rw [if_neg (by omega)] at i2
      rw [nI_1]; exact i2
theorem x_silenceAtBeginning {f : sx_F} {S : z_S} (Z : z_X f S) (W : z_W S) {i b : Nat} (hi : i < 5) (hb : b < S 0 0) {Q : Int32 → Prop} (h : Q (nI (z_fv S (12 * i + b) (S 1 b) (S 2 (12 * i + b)) 0))) : P_X4_silenceAtBeginning f (nI i) (nI b) Q := by
  have hn := W.1
  intro B12 h12
  refine x_slotOf ?_
  have hs : 12 * i + b < 60 := by omega
  generalize 12 * i + b = s at hs h
  have hc := W.2.2.1 s hs
  have key : ∀ d k, k + d = S 2 s → Q (nI (z_fv S s (S 1 b) d k)) → B12 (nI s) (nI (z_fl S s k)) (nI k) := by
    intro d
    induction d with
    | zero =>
      intro k hk hq
      refine h12 _ _ _ ⟨vp_in_nI (by omega) (by omega), ?_⟩
      rw [nI_clamp (n := s) (by omega), Z.2.2.1 s hs, nI_clamp (n := b) (by omega), Z.2.1 b (by omega)]
      exact pk_le (S 2 s) k (fun c => ⟨vp_in_nI (by omega) (by omega), hq⟩) (fun c => absurd c (by omega))
    | succ d ih =>
      intro k hk hq
      refine h12 _ _ _ ⟨vp_in_nI (by omega) (by omega), ?_⟩
      rw [nI_clamp (n := s) (by omega), Z.2.2.1 s hs]
      have hp60 := (W.2.2.2.1 (8 * s + k) (by omega)).2
      have hq : Q (nI (if S 4 (8 * s + k) = 0 then z_fv S s (S 1 b) d (k + 1) else z_fl S s k)) := hq
      refine pk_le (S 2 s) k (fun c => absurd c (by omega)) (fun c => x_pitchAt Z hs (by omega) (pk_le (S 4 (8 * s + k)) 0 (fun z => x_lengthAt Z hs (by omega) (nm_e (nm_e ?_))) (fun z => ?_)))
      · rw [if_pos (by omega)] at hq
        rw [nI_add, nI_1]
        exact ih (k + 1) (by omega) hq
      · rw [if_neg (by omega)] at hq
        exact hq
  exact key (S 2 s) 0 (by omega) h
theorem x_silenceAround {f : sx_F} {S : z_S} (Z : z_X f S) (W : z_W S) {i b : Nat} (hi : i < 5) (hb : b < S 0 0) {Q : Int32 → Prop} (h : Q (nI (z_bk S i b + z_fwd S i (S 0 0 - b) b))) : P_X4_silenceAround f (nI i) (nI b) Q := by
  have hn := W.1
  intro B7 B47 B50 h7 h47 h50
  have fw : ∀ d c acc, c + d = S 0 0 → Q (nI (acc + z_fwd S i d c)) → B50 (nI acc) (nI c) := by
    intro d
    induction d with
    | zero =>
      intro c acc hc hq
      refine h50 _ _ ?_
      rw [Z.1]
      exact pk_le (S 0 0) c (fun _ => hq) (fun z => absurd z (by omega))
    | succ d ih =>
      intro c acc hc hq
      refine h50 _ _ ?_
      rw [Z.1]
      refine pk_le (S 0 0) c (fun z => absurd z (by omega)) (fun z => x_silenceAtBeginning Z W hi z (nm_e ⟨vp_in_nI (by omega) (by omega), ?_⟩))
      have hl := W.2.1 c z
      have hle := z_fv_le W (s := 12 * i + c) (by omega) (W.2.2.2.2.2.1 i c hi z) (S 2 (12 * i + c)) 0 (by omega)
      rw [nI_clamp (by omega), Z.2.1 c (by omega), nI_add]
      have hq : Q (nI (acc + (if z_fv S (12 * i + c) (S 1 c) (S 2 (12 * i + c)) 0 < S 1 c then z_fv S (12 * i + c) (S 1 c) (S 2 (12 * i + c)) 0 else S 1 c + z_fwd S i d (c + 1)))) := hq
      refine pk_le (S 1 c) (z_fv S (12 * i + c) (S 1 c) (S 2 (12 * i + c)) 0) (fun y => nm_e ?_) (fun y => ?_)
      · rw [if_neg (by omega)] at hq
        rw [nI_1]
        refine ih (c + 1) _ (by omega) ?_
        rw [show acc + z_fv S (12 * i + c) (S 1 c) (S 2 (12 * i + c)) 0 + z_fwd S i d (c + 1) = acc + (S 1 c + z_fwd S i d (c + 1)) by omega]
        exact hq
      · rw [if_pos y] at hq; exact hq
  have bw : ∀ c acc v, c ≤ b → ((c = 0 ∧ v < 0) ∨ (0 < c ∧ v = nI (c - 1))) → B47 (nI (acc + z_bk S i c)) → B7 (nI acc) v := by
    intro c
    induction c with
    | zero =>
      intro acc v hc hv hq
      rcases hv with ⟨-, hv⟩ | ⟨hv, -⟩
      · exact h7 _ _ ⟨fun _ => hq, fun z => absurd hv z⟩
      · omega
    | succ c ih =>
      intro acc v hc hv hq
      rcases hv with ⟨hv, -⟩ | ⟨-, hv⟩
      · omega
      rw [hv, show c + 1 - 1 = c by omega]
      have hl := W.2.1 c (by omega)
      have hls := z_lsd_le (S := S) (s := 12 * i + c) (S 2 (12 * i + c))
      have hfl := W.2.2.2.2.2.1 i c hi (by omega)
      refine h7 _ _ ⟨fun z => absurd z (nI_pos (by omega)), fun _ => x_silenceAtEnd Z W hi (by omega) (nm_e ⟨vp_in_nI (by omega) (by omega), ?_⟩)⟩
      rw [nI_clamp (by omega), Z.2.1 c (by omega), nI_add]
      have hq : B47 (nI (acc + ((S 1 c - z_lsd S (12 * i + c) (S 2 (12 * i + c))) + (if z_lsd S (12 * i + c) (S 2 (12 * i + c)) = 0 then z_bk S i c else 0)))) := hq
      refine pk_le (S 1 c) (S 1 c - z_lsd S (12 * i + c) (S 2 (12 * i + c))) (fun y => nm_e (ih _ _ (by omega) ?_ ?_)) (fun y => ?_)
      · by_cases e : c = 0
        · exact Or.inl ⟨e, by rw [e]; decide⟩
        · refine Or.inr ⟨by omega, ?_⟩
          rw [show c = (c - 1) + 1 by omega, pk_m1]; rfl
      · rw [if_pos (by omega)] at hq
        rw [Nat.add_assoc]; exact hq
      · rw [if_neg (by omega)] at hq; exact hq
  refine nm_e (bw b 0 _ (Nat.le_refl _) ?_ (h47 _ (fw (S 0 0 - b) b _ (by omega) (by rw [Nat.zero_add]; exact h))))
  by_cases e : b = 0
  · exact Or.inl ⟨e, by rw [e]; decide⟩
  · refine Or.inr ⟨by omega, pk_sub (a := b) (b := 1) (by omega)⟩
theorem z_ss (a b c : Int32) : a - b - c = a - (b + c) := by
  apply Int32.toBitVec_inj.mp
  simp only [Int32.toBitVec_sub, Int32.toBitVec_add]
  bv_omega
def z_tc (S : z_S) (bk b : Nat) : Nat := if bk = 5 then 0 else 100 * (16 - (z_bk S bk b + z_fwd S bk (S 0 0 - b) b))
theorem z_tc_le {S : z_S} {bk b : Nat} : z_tc S bk b ≤ 1600 := by
  unfold z_tc
  split <;> omega
theorem x_priceTurns {f : sx_F} {S : z_S} {bk : Nat} {Q : sx_F → Prop} (Z : z_X f S) (W : z_W S) (hbk : bk ≤ 5) (h8 : f 8 2 = nI bk) (G : z_G f S bk (S 0 0)) (h : ∀ f' : sx_F, (∀ k, k ≠ 20 → f' k = f k) → (∀ b, b < S 0 0 → z_new S bk b = true → f' 20 (z_it S bk b) = nI (z_tc S bk b)) → f' 20 (z_it S bk (S 0 0)) = 0 → Q f') : P_X3_priceTurns f Q := by
  have hn := W.1
  have hitn : z_it S bk (S 0 0) ≤ S 0 0 := z_cnt_le _
  have hlt : ∀ b, b < S 0 0 → z_new S bk b = true → z_it S bk b < z_it S bk (S 0 0) := fun b hb hb2 => z_cnt_lt hb hb2
  intro B22 h22
  refine x_fill (by omega) (fun f0 a1 a2 => ?_)
  rw [show f0 8 2 = nI bk by rw [a1 8 (by decide)]; exact h8]
  refine pk_eq bk 5 (fun c => h f0 a1 (fun b hb hb2 => ?_) ?_) (fun c => ?_)
  · have := hlt b hb hb2
    rw [a2 _ (by omega)]
    unfold z_tc
    rw [if_pos c]; rfl
  · rw [a2 _ (by omega)]
  · have key : ∀ f' : sx_F, (∀ k, k ≠ 20 → f' k = f k) → (∀ b, b < S 0 0 → z_new S bk b = true → z_it S bk b < 0 → f' 20 (z_it S bk b) = nI (z_tc S bk b)) → (∀ i, 0 ≤ i → i < 13 → f' 20 i = 0) → B22 f' (nI 0) := by
      refine z_up (B := fun j => ∀ f' : sx_F, (∀ k, k ≠ 20 → f' k = f k) → (∀ b, b < S 0 0 → z_new S bk b = true → z_it S bk b < j → f' 20 (z_it S bk b) = nI (z_tc S bk b)) → (∀ i, j ≤ i → i < 13 → f' 20 i = 0) → B22 f' (nI j)) (z_it S bk (S 0 0)) (fun j hj ih => ?_)
      intro f' f1 f2 f3
      have Z' : z_X f' S := z_Xc Z (f1 1 (by decide)) (f1 2 (by decide)) (f1 5 (by decide)) (f1 6 (by decide)) (f1 7 (by decide))
      refine h22 _ _ ?_
      rw [f1 8 (by decide), G.1]
      refine pk_le (z_it S bk (S 0 0)) j (fun z => ?_) (fun z => ?_)
      · exact h f' f1 (fun b hb hb2 => f2 b hb hb2 (by have := hlt b hb hb2; omega)) (f3 _ (by omega) (by omega))
      · obtain ⟨x, hx, hnx, hjx⟩ := z_cnt_ex (p := z_new S bk) (S 0 0) j z
        have hjx : z_it S bk x = j := hjx
        have h14 := (G.2.1 x hx hnx).1
        rw [hjx] at h14
        rw [nI_clamp (n := j) (by omega), f1 14 (by decide), h14, h8]
        refine ⟨vp_in_nI (by omega) (by omega), x_silenceAround Z' W (by omega) hx ⟨vp_in_nI (by omega) (by omega), nm_e (nm_e ?_)⟩⟩
        rw [nI_1]
        have h1 := z_bk_le W (i := bk) x (by omega)
        have h2 := z_fwd_le W (i := bk) (S 0 0 - x) x (by omega)
        have etc : (100 : Int32) * (if 0 < (16 : Int32) - nI (z_bk S bk x + z_fwd S bk (S 0 0 - x) x) then (16 : Int32) - nI (z_bk S bk x + z_fwd S bk (S 0 0 - x) x) else 0) = nI (z_tc S bk x) := by
          unfold z_tc
          rw [if_neg c]
          have hle : z_bk S bk x + z_fwd S bk (S 0 0 - x) x ≤ 800 := by omega
          generalize z_bk S bk x + z_fwd S bk (S 0 0 - x) x = m at hle
          by_cases y : m < 16
          · rw [show (16 : Int32) - nI m = nI (16 - m) from pk_sub (a := 16) (by omega), if_pos (show (0 : Int32) < nI (16 - m) from nI_lt (a := 0) (b := 16 - m) (by omega) (by omega))]
            exact pk_mul 100 _
          · have nn : ¬ (0 : Int32) < (16 : Int32) - nI m := by
              by_cases e : m = 16
              · rw [e]; decide
              · have neg : (16 : Int32) - nI m < 0 := pk_sneg (a := 16) (b := m) (by omega) (by omega)
                exact fun w => absurd (Int32.lt_trans w neg) (by decide)
            rw [if_neg nn, show 16 - m = 0 by omega]
            rfl
        rw [etc]
        refine ih z _ (fun k hk => by rw [sx_u_n hk]; exact f1 k hk) (fun b hb hb2 hb3 => ?_) (fun i hi hi2 => ?_)
        · rw [sx_u_s]
          by_cases e : z_it S bk b = j
          · have eb : b = x := by
              rcases Nat.lt_trichotomy b x with y | y | y
              · have := z_cnt_lt y hb2
                have e2 : z_it S bk b < z_it S bk x := this
                omega
              · exact y
              · have := z_cnt_lt y hnx
                have e2 : z_it S bk x < z_it S bk b := this
                omega
            rw [e, pk_us, eb]
          · rw [pk_un e]; exact f2 b hb hb2 (by omega)
        · rw [sx_u_s, pk_un (by omega)]
          exact f3 i (by omega) hi2
    exact key f0 a1 (fun b _ _ hb => absurd hb (by omega)) (fun i _ hi => a2 i hi)
def z_nth (p : Nat → Bool) (j : Nat) : Nat → Nat | 0 => 0 | e + 1 => if p e = true ∧ z_cnt p e = j then e else z_nth p j e
theorem z_nth_eq {p : Nat → Bool} {x : Nat} (hp : p x = true) : ∀ e, x < e → z_nth p (z_cnt p x) e = x
  | 0, h => absurd h (Nat.not_lt_zero _)
  | e + 1, h => by
    show (if p e = true ∧ z_cnt p e = z_cnt p x then e else z_nth p (z_cnt p x) e) = x
    by_cases c : e = x
    · rw [c, if_pos ⟨hp, rfl⟩]
    · have := z_cnt_lt (p := p) (show x < e by omega) hp
      rw [if_neg (fun z => by omega)]
      exact z_nth_eq hp e (by omega)
def z_xb (S : z_S) (bk j : Nat) : Nat := z_nth (z_new S bk) j (S 0 0)
def z_IW (S : z_S) (bk j : Nat) : Nat := z_Wb S (z_drw S bk (z_xb S bk j)) (z_xb S bk j)
def z_IL (S : z_S) (bk j : Nat) : Nat := z_Lb S (z_drw S bk (z_xb S bk j)) (z_xb S bk j)
def z_IT (S : z_S) (bk j : Nat) : Nat := if j < z_it S bk (S 0 0) then z_tc S bk (z_xb S bk j) else 0
theorem z_xb_eq {S : z_S} {bk x : Nat} (hx : x < S 0 0) (hn : z_new S bk x = true) : z_xb S bk (z_it S bk x) = x := z_nth_eq hn _ hx
theorem z_wsum_it {S : z_S} {bk : Nat} : ∀ b, b ≤ S 0 0 → z_wsum S bk b = z_sm (z_IW S bk) (z_it S bk b) ∧ z_lsum S bk b = z_sm (z_IL S bk) (z_it S bk b)
  | 0, _ => ⟨rfl, rfl⟩
  | b + 1, h => by
    obtain ⟨h1, h2⟩ := z_wsum_it (S := S) (bk := bk) b (by omega)
    have e1 : z_wsum S bk (b + 1) = z_wsum S bk b + (if z_new S bk b then z_Wb S (z_drw S bk b) b else 0) := rfl
    have e2 : z_lsum S bk (b + 1) = z_lsum S bk b + (if z_new S bk b then z_Lb S (z_drw S bk b) b else 0) := rfl
    rw [e1, e2, z_it_s, h1, h2]
    cases hn : z_new S bk b
    · exact ⟨rfl, rfl⟩
    · have ex := z_xb_eq (show b < S 0 0 by omega) hn
      refine ⟨?_, ?_⟩
      · show _ = z_sm (z_IW S bk) (z_it S bk b) + z_IW S bk (z_it S bk b)
        unfold z_IW
        rw [ex]; rfl
      · show _ = z_sm (z_IL S bk) (z_it S bk b) + z_IL S bk (z_it S bk b)
        unfold z_IL
        rw [ex]; rfl
theorem z_G.sums {f : sx_F} {S : z_S} {bk j : Nat} (G : z_G f S bk (S 0 0)) (hj : j ≤ z_it S bk (S 0 0)) : f 17 j = nI (z_sm (z_IW S bk) j) ∧ f 18 j = nI (z_sm (z_IL S bk) j) := by
  by_cases e : j = z_it S bk (S 0 0)
  · have h := G.2.2.2.1 (S 0 0) (Nat.le_refl _)
    obtain ⟨h1, h2⟩ := z_wsum_it (S := S) (bk := bk) (S 0 0) (Nat.le_refl _)
    rw [e, ← h1, ← h2]; exact h
  · obtain ⟨x, hx, hn, hjx⟩ := z_cnt_ex (p := z_new S bk) (S 0 0) j (by show j < z_it S bk (S 0 0); omega)
    have hjx : z_it S bk x = j := hjx
    have h := G.2.2.2.1 x (by omega)
    obtain ⟨h1, h2⟩ := z_wsum_it (S := S) (bk := bk) x (by omega)
    rw [hjx] at h h1 h2
    rw [← h1, ← h2]; exact h
theorem z_sn_b {S : z_S} {dr b p : Nat} : z_le S dr b p ≤ 9 := by
  have := z_sn_5 (S := S) (dr := dr) (b := b) (p := p)
  unfold z_le
  omega
theorem z_wd_b {S : z_S} {dr b p : Nat} : z_wd S dr b p ≤ 24 := by
  have h1 := z_sn_b (S := S) (dr := dr) (b := b) (p := p)
  have h2 := z_hv_le 6 (z_nx (z_pl S dr b) (S 1 b - (p + 1)) (p + 1) - p)
  unfold z_wd
  split <;> omega
theorem z_IW_b {S : z_S} {bk j : Nat} (W : z_W S) (hbk : bk ≤ 5) (hj : j < z_it S bk (S 0 0)) : z_IW S bk j ≤ 768 ∧ 1 ≤ z_IL S bk j ∧ z_IL S bk j ≤ 288 := by
  obtain ⟨x, hx, hn, hjx⟩ := z_cnt_ex (p := z_new S bk) (S 0 0) j hj
  have hjx : z_it S bk x = j := hjx
  have hl := W.2.1 x hx
  have ex := z_xb_eq hx hn
  rw [hjx] at ex
  unfold z_IW z_IL z_Wb z_Lb
  rw [ex]
  by_cases e : z_drw S bk x = 6
  · rw [if_pos e, if_pos e]; omega
  · rw [if_neg e, if_neg e]
    have w1 := z_sm_le (w := fun p => if z_pl S (z_drw S bk x) x p then z_wd S (z_drw S bk x) x p else 0) (c := 24) (fun p => by
      have := z_wd_b (S := S) (dr := z_drw S bk x) (b := x) (p := p)
      show (if z_pl S (z_drw S bk x) x p then z_wd S (z_drw S bk x) x p else 0) ≤ 24
      split <;> omega) (S 1 x)
    have l1 := z_sm_le (w := fun p => if z_pl S (z_drw S bk x) x p then z_le S (z_drw S bk x) x p else 0) (c := 9) (fun p => by
      have := z_sn_b (S := S) (dr := z_drw S bk x) (b := x) (p := p)
      show (if z_pl S (z_drw S bk x) x p then z_le S (z_drw S bk x) x p else 0) ≤ 9
      split <;> omega) (S 1 x)
    have hd := z_drw_le (S := S) (bk := bk) (b := x) hbk
    have l0 : 0 < z_ls S (z_drw S bk x) x (S 1 x) := by
      have m := z_sm_mono (w := fun p => if z_pl S (z_drw S bk x) x p then z_le S (z_drw S bk x) x p else 0) (show 1 ≤ S 1 x from hl.1)
      have e1 : z_sm (fun p => if z_pl S (z_drw S bk x) x p then z_le S (z_drw S bk x) x p else 0) 1 = 0 + (if z_pl S (z_drw S bk x) x 0 then z_le S (z_drw S bk x) x 0 else 0) := rfl
      rw [z_pl0 W (by omega) hx, if_pos rfl] at e1
      have e2 : 4 ≤ z_le S (z_drw S bk x) x 0 := Nat.le_add_right _ _
      have m' : z_sm (fun p => if z_pl S (z_drw S bk x) x p then z_le S (z_drw S bk x) x p else 0) 1 ≤ z_ls S (z_drw S bk x) x (S 1 x) := m
      omega
    have w1' : z_ws S (z_drw S bk x) x (S 1 x) ≤ 24 * S 1 x := w1
    have l1' : z_ls S (z_drw S bk x) x (S 1 x) ≤ 9 * S 1 x := l1
    omega
def z_sc (c n : Nat → Nat) (ok : Nat → Bool) : Nat → Nat × Nat × Nat
  | 0 => (0, 0, 0)
  | k + 1 => if ok (k + 1) = true ∧ ((z_sc c n ok k).2.2 = 0 ∨ c (k + 1) < (z_sc c n ok k).1 ∨ (c (k + 1) = (z_sc c n ok k).1 ∧ n (k + 1) < (z_sc c n ok k).2.1)) then (c (k + 1), n (k + 1), k + 1) else z_sc c n ok k
theorem z_sc_c {c c' n n' : Nat → Nat} {ok : Nat → Bool} : ∀ k, (∀ i, 1 ≤ i → i ≤ k → c i = c' i ∧ n i = n' i) → z_sc c n ok k = z_sc c' n' ok k
  | 0, _ => rfl
  | k + 1, h => by
    have e := z_sc_c (ok := ok) k (fun i h1 h2 => h i h1 (by omega))
    obtain ⟨h1, h2⟩ := h (k + 1) (by omega) (Nat.le_refl _)
    show (if _ then _ else _) = (if _ then _ else _)
    rw [e, h1, h2]
theorem z_sc_way {c n : Nat → Nat} {ok : Nat → Bool} (h1 : ok 1 = true) : ∀ k, 1 ≤ k → 1 ≤ (z_sc c n ok k).2.2 ∧ (z_sc c n ok k).2.2 ≤ k ∧ ok (z_sc c n ok k).2.2 = true ∧ (z_sc c n ok k).1 = c (z_sc c n ok k).2.2 ∧ (z_sc c n ok k).2.1 = n (z_sc c n ok k).2.2 ∧ ∀ i, 1 ≤ i → i ≤ k → ok i = true → (z_sc c n ok k).1 ≤ c i
  | 0, h => absurd h (by omega)
  | k + 1, _ => by
    have e : z_sc c n ok (k + 1) = if ok (k + 1) = true ∧ ((z_sc c n ok k).2.2 = 0 ∨ c (k + 1) < (z_sc c n ok k).1 ∨ (c (k + 1) = (z_sc c n ok k).1 ∧ n (k + 1) < (z_sc c n ok k).2.1)) then (c (k + 1), n (k + 1), k + 1) else z_sc c n ok k := rfl
    by_cases k0 : k = 0
    · subst k0
      rw [e, if_pos ⟨h1, Or.inl rfl⟩]
      exact ⟨Nat.le_refl _, Nat.le_refl _, h1, rfl, rfl, fun i a b _ => by rw [show i = 1 by omega]; exact Nat.le_refl _⟩
    · obtain ⟨p1, p2, p3, p4, p5, p6⟩ := z_sc_way (c := c) (n := n) h1 k (by omega)
      by_cases cnd : ok (k + 1) = true ∧ ((z_sc c n ok k).2.2 = 0 ∨ c (k + 1) < (z_sc c n ok k).1 ∨ (c (k + 1) = (z_sc c n ok k).1 ∧ n (k + 1) < (z_sc c n ok k).2.1))
      · rw [e, if_pos cnd]
        refine ⟨by omega, Nat.le_refl _, cnd.1, rfl, rfl, fun i a b o => ?_⟩
        by_cases ei : i = k + 1
        · rw [ei]; exact Nat.le_refl _
        · have := p6 i a (by omega) o
          rcases cnd.2 with z | z | z
          · omega
          · show c (k + 1) ≤ c i; omega
          · show c (k + 1) ≤ c i; omega
      · rw [e, if_neg cnd]
        refine ⟨p1, by omega, p3, p4, p5, fun i a b o => ?_⟩
        by_cases ei : i = k + 1
        · rw [ei] at o ⊢
          exact Nat.le_of_not_lt (fun z => cnd ⟨o, Or.inr (Or.inl z)⟩)
        · exact p6 i a (by omega) o
theorem z_sc_stop {c n : Nat → Nat} {ok : Nat → Bool} {k : Nat} : ∀ m, k ≤ m → (∀ i, k < i → i ≤ m → ok i = false) → z_sc c n ok m = z_sc c n ok k
  | 0, h, _ => by rw [show k = 0 by omega]
  | m + 1, h, h2 => by
    by_cases e : k = m + 1
    · rw [e]
    · show (if ok (m + 1) = true ∧ ((z_sc c n ok m).2.2 = 0 ∨ c (m + 1) < (z_sc c n ok m).1 ∨ (c (m + 1) = (z_sc c n ok m).1 ∧ n (m + 1) < (z_sc c n ok m).2.1)) then (c (m + 1), n (m + 1), m + 1) else z_sc c n ok m) = _
      rw [if_neg (fun z => by rw [h2 (m + 1) (by omega) (Nat.le_refl _)] at z; exact absurd z.1 (by decide))]
      exact z_sc_stop m (by omega) (fun i a b => h2 i a (by omega))
def z_wid (W : Nat → Nat) (a e : Nat) : Nat := 8 * (e - a) + (z_sm W e - z_sm W a)
def z_bad (w wd : Nat) (last : Bool) : Nat := if w < wd then 4 * ((wd - w) * (wd - w)) else if last then 0 else (w - wd) * (w - wd)
def z_nl (q l : Nat) : Nat := if l + 1 < q then l + 1 else 0
def z_lc (I : Nat) (W T : Nat → Nat) (w q a l k : Nat) : Nat := z_bad w (z_wid W a (a + k)) (decide (a + k = I)) + (if l + 1 < q then 0 else T (a + k))
def z_ok (L : Nat → Nat) (w a k : Nat) : Bool := decide (k = 1 ∨ z_wid L a (a + k) ≤ w)
def z_dp (I : Nat) (W L T : Nat → Nat) (w q : Nat) : Nat → Nat → Nat → Nat × Nat × Nat
  | 0 => fun _ _ => (0, 0, 0)
  | d + 1 => fun a l => if a + (d + 1) = I then z_sc (fun k => z_lc I W T w q a l k + (z_dp I W L T w q d (a + k) (z_nl q l)).1) (fun k => 1 + (z_dp I W L T w q d (a + k) (z_nl q l)).2.1) (z_ok L w a) (d + 1) else z_dp I W L T w q d a l
theorem z_dp_up {I : Nat} {W L T : Nat → Nat} {w q a l : Nat} : ∀ m d, d ≤ m → I ≤ a + d → z_dp I W L T w q m a l = z_dp I W L T w q d a l
  | 0, d, h, _ => by rw [show d = 0 by omega]
  | m + 1, d, h, h2 => by
    by_cases e : d = m + 1
    · rw [e]
    · show (if a + (m + 1) = I then z_sc (fun k => z_lc I W T w q a l k + (z_dp I W L T w q m (a + k) (z_nl q l)).1) (fun k => 1 + (z_dp I W L T w q m (a + k) (z_nl q l)).2.1) (z_ok L w a) (m + 1) else z_dp I W L T w q m a l) = _
      rw [if_neg (by omega)]
      exact z_dp_up m d (by omega) h2
def z_Z (I : Nat) (W L T : Nat → Nat) (w q : Nat) : Nat → Nat → Nat × Nat × Nat := z_dp I W L T w q I
theorem z_Z_end {I : Nat} {W L T : Nat → Nat} {w q l : Nat} : z_Z I W L T w q I l = (0, 0, 0) := z_dp_up I 0 (Nat.zero_le _) (by omega)
theorem z_Z_eq {I : Nat} {W L T : Nat → Nat} {w q a l : Nat} (h : a < I) : z_Z I W L T w q a l = z_sc (fun k => z_lc I W T w q a l k + (z_Z I W L T w q (a + k) (z_nl q l)).1) (fun k => 1 + (z_Z I W L T w q (a + k) (z_nl q l)).2.1) (z_ok L w a) (I - a) := by
  have e1 : z_Z I W L T w q a l = z_dp I W L T w q (I - a) a l := z_dp_up I (I - a) (by omega) (by omega)
  rw [e1]
  obtain ⟨d, hd⟩ : ∃ d, I - a = d + 1 := ⟨I - a - 1, by omega⟩
  rw [hd]
  show (if a + (d + 1) = I then z_sc (fun k => z_lc I W T w q a l k + (z_dp I W L T w q d (a + k) (z_nl q l)).1) (fun k => 1 + (z_dp I W L T w q d (a + k) (z_nl q l)).2.1) (z_ok L w a) (d + 1) else z_dp I W L T w q d a l) = _
  rw [if_pos (by omega)]
  refine z_sc_c (d + 1) (fun i h1 h2 => ?_)
  have e2 : z_Z I W L T w q (a + i) (z_nl q l) = z_dp I W L T w q d (a + i) (z_nl q l) := z_dp_up I d (by omega) (by omega)
  rw [e2]
  exact ⟨rfl, rfl⟩
theorem z_wid_le {W : Nat → Nat} {c I a : Nat} (h : ∀ j, j < I → W j ≤ c) : ∀ e, a ≤ e → e ≤ I → z_wid W a e ≤ (8 + c) * (e - a)
  | 0, h1, _ => by
    rw [show a = 0 by omega]
    exact Nat.zero_le _
  | e + 1, h1, h2 => by
    by_cases c1 : a = e + 1
    · rw [c1]; unfold z_wid; omega
    · have i := z_wid_le (c := c) (I := I) (a := a) h e (by omega) (by omega)
      have m := z_sm_mono (w := W) (show a ≤ e by omega)
      have hj := h e (by omega)
      have s : z_sm W (e + 1) = z_sm W e + W e := rfl
      unfold z_wid at i ⊢
      rw [s, show e + 1 - a = (e - a) + 1 by omega, Nat.mul_succ (8 + c)]
      omega
theorem z_wid_1 {W : Nat → Nat} {a : Nat} : z_wid W a (a + 1) = 8 + W a := by
  unfold z_wid
  rw [show z_sm W (a + 1) = z_sm W a + W a from rfl]
  omega
theorem z_wid_lt {W : Nat → Nat} {a e : Nat} (h : a ≤ e) : z_wid W a e < z_wid W a (e + 1) := by
  unfold z_wid
  have m := z_sm_mono (w := W) h
  rw [show z_sm W (e + 1) = z_sm W e + W e from rfl]
  omega
theorem z_bad_le {w wd c : Nat} {l : Bool} (hw : w ≤ 500) (h : wd ≤ c) (hc : 500 ≤ c) : z_bad w wd l ≤ 4 * (c * c) := by
  unfold z_bad
  have sq : ∀ x y : Nat, x ≤ y → x * x ≤ y * y := fun x y h => Nat.mul_le_mul h h
  split
  · have := sq (wd - w) c (by omega); omega
  · split
    · omega
    · have := sq (w - wd) c (by omega); omega
theorem z_ok1 {L : Nat → Nat} {w a : Nat} : z_ok L w a 1 = true := decide_eq_true (Or.inl rfl)
theorem z_Z_le {I : Nat} {W L T : Nat → Nat} {w q : Nat} (hw : w ≤ 500) (hI : I ≤ 12) (hW : ∀ j, j < I → W j ≤ 768) (hT : ∀ j, T j ≤ 1600) : ∀ d a l, a + d = I → (z_Z I W L T w q a l).1 ≤ 3000000 * d ∧ (z_Z I W L T w q a l).2.1 ≤ d ∧ (0 < d → 1 ≤ (z_Z I W L T w q a l).2.1) := by
  intro d
  induction d using Nat.strongRecOn with
  | ind d ih =>
  intro a l h
  by_cases d0 : d = 0
  · rw [show a = I by omega, z_Z_end]
    exact ⟨Nat.zero_le _, Nat.zero_le _, fun z => by omega⟩
  · rw [z_Z_eq (by omega)]
    obtain ⟨p1, p2, p3, p4, p5, p6⟩ := z_sc_way (c := fun k => z_lc I W T w q a l k + (z_Z I W L T w q (a + k) (z_nl q l)).1) (n := fun k => 1 + (z_Z I W L T w q (a + k) (z_nl q l)).2.1) (ok := z_ok L w a) z_ok1 (I - a) (by omega)
    have one := p6 1 (Nat.le_refl _) (by omega) z_ok1
    obtain ⟨i1, -, -⟩ := ih (d - 1) (by omega) (a + 1) (z_nl q l) (by omega)
    generalize hk : (z_sc (fun k => z_lc I W T w q a l k + (z_Z I W L T w q (a + k) (z_nl q l)).1) (fun k => 1 + (z_Z I W L T w q (a + k) (z_nl q l)).2.1) (z_ok L w a) (I - a)).2.2 = k at p1 p2 p3 p4 p5
    obtain ⟨-, j2, -⟩ := ih (d - k) (by omega) (a + k) (z_nl q l) (by omega)
    have hWa := hW a (by omega)
    have hTa := hT (a + 1)
    have lc : z_lc I W T w q a l 1 ≤ 4 * (776 * 776) + 1600 := by
      unfold z_lc
      rw [z_wid_1]
      have := z_bad_le (w := w) (wd := 8 + W a) (c := 776) (l := decide (a + 1 = I)) hw (by omega) (by omega)
      split <;> omega
    refine ⟨?_, ?_, fun _ => ?_⟩
    · refine Nat.le_trans one ?_
      show z_lc I W T w q a l 1 + (z_Z I W L T w q (a + 1) (z_nl q l)).1 ≤ 3000000 * d
      omega
    · rw [p5]; omega
    · rw [p5]; omega
theorem z_lc_le {I : Nat} {W T : Nat → Nat} {w q a l k : Nat} (hw : w ≤ 500) (hI : I ≤ 12) (hW : ∀ j, j < I → W j ≤ 768) (hT : ∀ j, T j ≤ 1600) (hk : a + k ≤ I) : z_lc I W T w q a l k ≤ 400000000 := by
  unfold z_lc
  have h1 := z_wid_le (a := a) hW (a + k) (by omega) hk
  have h2 : z_wid W a (a + k) ≤ 9312 := by
    rw [show a + k - a = k by omega] at h1
    omega
  have := z_bad_le (w := w) (l := decide (a + k = I)) hw h2 (by omega)
  have := hT (a + k)
  split <;> omega
def z_Bk (f : sx_F) (I : Nat) (W L T : Nat → Nat) (w q : Nat) : Prop := f 8 3 = nI I ∧ (∀ j, j ≤ I → f 17 j = nI (z_sm W j) ∧ f 18 j = nI (z_sm L j)) ∧ (∀ j, j ≤ I → f 20 j = nI (T j)) ∧ f 19 1 = nI w ∧ f 19 2 = nI q
theorem z_widI (W : Nat → Nat) {a e : Nat} (h : a ≤ e) : 8 * (nI e - nI a) + nI (z_sm W e) - nI (z_sm W a) = nI (z_wid W a e) := by
  have m := z_sm_mono (w := W) h
  rw [pk_sub h, z_l8, pk_mul, nI_add, pk_sub (by omega)]
  unfold z_wid
  rw [show 8 * (e - a) + z_sm W e - z_sm W a = 8 * (e - a) + (z_sm W e - z_sm W a) by omega]
theorem x_widthOf {f : sx_F} {I : Nat} {W L T : Nat → Nat} {w q a e : Nat} {Q : Int32 → Prop} (B : z_Bk f I W L T w q) (hI : I ≤ 12) (h1 : a ≤ e) (h2 : e ≤ I) (h : Q (nI (z_wid W a e))) : P_X0_widthOf f (nI a) (nI e) Q := by
  unfold P_X0_widthOf
  rw [nI_clamp (n := e) (by omega), nI_clamp (n := a) (by omega), (B.2.1 e h2).1, (B.2.1 a (by omega)).1, z_widI W h1]
  exact ⟨vp_in_nI (by omega) (by omega), vp_in_nI (by omega) (by omega), h⟩
theorem x_leastOf {f : sx_F} {I : Nat} {W L T : Nat → Nat} {w q a e : Nat} {Q : Int32 → Prop} (B : z_Bk f I W L T w q) (hI : I ≤ 12) (h1 : a ≤ e) (h2 : e ≤ I) (h : Q (nI (z_wid L a e))) : P_X0_leastOf f (nI a) (nI e) Q := by
  unfold P_X0_leastOf
  rw [nI_clamp (n := e) (by omega), nI_clamp (n := a) (by omega), (B.2.1 e h2).2, (B.2.1 a (by omega)).2, z_widI L h1]
  exact ⟨vp_in_nI (by omega) (by omega), vp_in_nI (by omega) (by omega), h⟩
theorem x_mayBeLine {f : sx_F} {I : Nat} {W L T : Nat → Nat} {w q a k : Nat} {Q : Int32 → Prop} (B : z_Bk f I W L T w q) (hI : I ≤ 12) (hw : w ≤ 500) (hL : ∀ j, j < I → L j ≤ 288) (h1 : 1 ≤ k) (h2 : a + k ≤ I) (h : Q (z_b (z_ok L w a k))) : P_X3_mayBeLine f (nI a) (nI (a + k)) Q := by
  intro B23 h23
  rw [pk_sub (by omega), show a + k - a = k by omega]
  unfold z_ok at h
  have hwid := z_wid_le (a := a) hL (a + k) (by omega) h2
  rw [show a + k - a = k by omega] at hwid
  refine pk_eq k 1 (fun c => h23 ?_) (fun c => x_leastOf B hI (by omega) h2 ?_)
  · rw [decide_eq_true (Or.inl c)] at h; exact h
  · rw [B.2.2.2.1]
    refine pk_lt w (z_wid L a (a + k)) (fun y => ?_) (fun y => h23 ?_)
    · rw [decide_eq_false (fun z => z.elim c (fun z => by omega))] at h; exact h
    · rw [decide_eq_true (Or.inr y)] at h; exact h
theorem z_negsq (x : Int32) : -x * -x = x * x := by
  rw [Int32.neg_mul, Int32.mul_neg, Int32.neg_neg]
theorem z_subneg {a b : Nat} (h : a ≤ b) : nI a - nI b = -nI (b - a) := by
  have e : nI b = nI a + nI (b - a) := by rw [nI_add, show a + (b - a) = b by omega]
  rw [e]
  apply Int32.toBitVec_inj.mp
  simp only [Int32.toBitVec_sub, Int32.toBitVec_add, Int32.toBitVec_neg]
  bv_omega
theorem x_badness {f : sx_F} {I : Nat} {W L T : Nat → Nat} {w q a e : Nat} {Q : Int32 → Prop} (B : z_Bk f I W L T w q) (hI : I ≤ 12) (hw : w ≤ 500) (hW : ∀ j, j < I → W j ≤ 768) (h1 : a ≤ e) (h2 : e ≤ I) (h : Q (nI (z_bad w (z_wid W a e) (decide (e = I))))) : P_X3_badness f (nI a) (nI e) Q := by
  have hwid := z_wid_le (a := a) hW e h1 h2
  refine x_widthOf B hI h1 h2 (nm_e ?_)
  rw [B.2.2.2.1, B.1]
  have hb : z_wid W a e ≤ 9312 := by
    have : (8 + 768) * (e - a) ≤ 776 * 12 := Nat.mul_le_mul (Nat.le_refl _) (by omega)
    omega
  unfold z_bad at h
  generalize z_wid W a e = wd at h hb
  by_cases c : w < wd
  · rw [if_pos c] at h
    rw [pk_sub (by omega)]
    refine pk_le (wd - w) 0 (fun y => absurd y (by omega)) (fun _ => ?_)
    rw [z_l2, pk_mul, pk_mul, pk_mul, show 2 * (wd - w) * 2 * (wd - w) = 4 * ((wd - w) * (wd - w)) by rw [Nat.mul_comm (2 * (wd - w)) 2, ← Nat.mul_assoc, Nat.mul_assoc]]
    exact h
  · rw [if_neg c] at h
    rw [z_subneg (by omega)]
    have neg : -nI (w - wd) ≤ 0 := by
      rw [Int32.le_iff_toInt_le]
      rw [← z_subneg (show wd ≤ w by omega), pk_sub_toInt (by omega) (by omega)]
      show ((wd : Int) - w) ≤ 0
      omega
    refine ⟨fun _ => pk_eq e I (fun y => ?_) (fun y => ?_), fun y => absurd neg y⟩
    · rw [decide_eq_true y] at h; exact h
    · rw [decide_eq_false y] at h
      rw [z_negsq, pk_mul]
      exact h
theorem x_nextOnPage {f : sx_F} {q l : Nat} {Q : Int32 → Prop} (h2 : f 19 2 = nI q) (hq : q ≤ 6) (hl : l < 6) (h : Q (nI (z_nl q l))) : P_X3_nextOnPage f (nI l) Q := by
  unfold P_X3_nextOnPage
  unfold z_nl at h
  rw [h2, nI_1]
  refine pk_le q (l + 1) (fun y => ?_) (fun y => ?_)
  · rw [if_neg (by omega)] at h; exact h
  · rw [if_pos y] at h; exact h
theorem x_turnAhead {f : sx_F} {I : Nat} {W L T : Nat → Nat} {w q e l : Nat} {Q : Int32 → Prop} (B : z_Bk f I W L T w q) (hI : I ≤ 12) (hl : l < 6) (h2 : e ≤ I) (h : Q (nI (if l + 1 < q then 0 else T e))) : P_X3_turnAhead f (nI e) (nI (z_nl q l)) Q := by
  have hn : z_nl q l ≤ 6 := by unfold z_nl; split <;> omega
  refine pk_eq (z_nl q l) 0 (fun y => ⟨vp_in_nI (by omega) (by omega), ?_⟩) (fun y => ?_)
  · rw [nI_clamp (by omega), B.2.2.1 e h2]
    unfold z_nl at y
    by_cases c : l + 1 < q
    · rw [if_pos c] at y; omega
    · rw [if_neg c] at h; exact h
  · unfold z_nl at y
    by_cases c : l + 1 < q
    · rw [if_pos c] at h; exact h
    · rw [if_neg c] at y; omega
def z_Rw (f : sx_F) (I : Nat) (W L T : Nat → Nat) (w q a : Nat) : Prop := ∀ e l, a ≤ e → e ≤ I → l < q → f (22 + e) l = nI (z_Z I W L T w q e l).1 ∧ f (36 + e) l = nI (z_Z I W L T w q e l).2.1 ∧ (e < I → f (50 + e) l = nI (e + (z_Z I W L T w q e l).2.2))
theorem z_Bk.cg {f f' : sx_F} {I : Nat} {W L T : Nat → Nat} {w q : Nat} (B : z_Bk f I W L T w q) (h8 : f' 8 = f 8) (h17 : f' 17 = f 17) (h18 : f' 18 = f 18) (h19 : f' 19 = f 19) (h20 : f' 20 = f 20) : z_Bk f' I W L T w q := by
  unfold z_Bk at B ⊢
  rw [h8, h17, h18, h19, h20]
  exact B
theorem x_chooseLine {f : sx_F} {I : Nat} {W L T : Nat → Nat} {w q a l : Nat} {Q : sx_F → Prop} (B : z_Bk f I W L T w q) (hI : I ≤ 12) (hw : w ≤ 500) (hq : q ≤ 6) (hW : ∀ j, j < I → W j ≤ 768) (hL : ∀ j, j < I → L j ≤ 288) (hT : ∀ j, T j ≤ 1600) (ha : a < I) (hl : l < q) (R : z_Rw f I W L T w q (a + 1)) (h : ∀ f' : sx_F, (∀ k, k ≠ 22 + a → k ≠ 36 + a → k ≠ 50 + a → f' k = f k) → (∀ x, x ≠ l → f' (22 + a) x = f (22 + a) x ∧ f' (36 + a) x = f (36 + a) x ∧ f' (50 + a) x = f (50 + a) x) → f' (22 + a) l = nI (z_Z I W L T w q a l).1 → f' (36 + a) l = nI (z_Z I W L T w q a l).2.1 → f' (50 + a) l = nI (a + (z_Z I W L T w q a l).2.2) → Q f') : P_X3_chooseLine f (nI a) (nI l) Q := by
  intro B30 B134 B164 b30 b134 b164
  have hnl : z_nl q l < q := by unfold z_nl; split <;> omega
  rw [nI_clamp (n := a) (by omega), nI_clamp (n := l) (by omega)] at b30 b134 ⊢
  refine x_nextOnPage B.2.2.2.2 hq (by omega) ⟨vp_in_nI (by omega) (by omega), nm_e ⟨vp_in_nI (by omega) (by omega), nm_e ⟨vp_in_nI (by omega) (by omega), nm_e ⟨vp_in_nI (by omega) (by omega), nm_e (nm_e ?_)⟩⟩⟩⟩
  rw [nI_1]
  generalize hc : (fun k => z_lc I W T w q a l k + (z_Z I W L T w q (a + k) (z_nl q l)).1) = c
  generalize hnn : (fun k => 1 + (z_Z I W L T w q (a + k) (z_nl q l)).2.1) = n
  have hZ : z_Z I W L T w q a l = z_sc c n (z_ok L w a) (I - a) := by rw [← hc, ← hnn]; exact z_Z_eq ha
  have hcv : ∀ k, c k = z_lc I W T w q a l k + (z_Z I W L T w q (a + k) (z_nl q l)).1 := fun k => by rw [← hc]
  have hnv : ∀ k, n k = 1 + (z_Z I W L T w q (a + k) (z_nl q l)).2.1 := fun k => by rw [← hnn]
  have hcb : ∀ k, 1 ≤ k → a + k ≤ I → c k ≤ 500000000 ∧ n k ≤ 13 := fun k h1 h2 => by
    have b1 := z_lc_le (a := a) (l := l) (k := k) (q := q) hw hI hW hT h2
    obtain ⟨b2, b3, -⟩ := z_Z_le (L := L) (q := q) hw hI hW hT (I - (a + k)) (a + k) (z_nl q l) (by omega)
    rw [hcv, hnv]
    omega
  rw [hZ] at h
  have loop : ∀ f' : sx_F, (∀ k, k ≠ 22 + a → k ≠ 36 + a → k ≠ 50 + a → f' k = f k) → (∀ x, x ≠ l → f' (22 + a) x = f (22 + a) x ∧ f' (36 + a) x = f (36 + a) x ∧ f' (50 + a) x = f (50 + a) x) → ((0 = 0 ∧ f' (22 + a) l = 1000000000 ∧ f' (36 + a) l = 0) ∨ (1 ≤ 0 ∧ f' (22 + a) l = nI (z_sc c n (z_ok L w a) 0).1 ∧ f' (36 + a) l = nI (z_sc c n (z_ok L w a) 0).2.1 ∧ f' (50 + a) l = nI (a + (z_sc c n (z_ok L w a) 0).2.2))) → B30 f' (nI (z_nl q l)) (nI (a + (0 + 1))) := by
    refine z_up (B := fun k => ∀ f' : sx_F, (∀ k, k ≠ 22 + a → k ≠ 36 + a → k ≠ 50 + a → f' k = f k) → (∀ x, x ≠ l → f' (22 + a) x = f (22 + a) x ∧ f' (36 + a) x = f (36 + a) x ∧ f' (50 + a) x = f (50 + a) x) → ((k = 0 ∧ f' (22 + a) l = 1000000000 ∧ f' (36 + a) l = 0) ∨ (1 ≤ k ∧ f' (22 + a) l = nI (z_sc c n (z_ok L w a) k).1 ∧ f' (36 + a) l = nI (z_sc c n (z_ok L w a) k).2.1 ∧ f' (50 + a) l = nI (a + (z_sc c n (z_ok L w a) k).2.2))) → B30 f' (nI (z_nl q l)) (nI (a + (k + 1)))) (I - a) (fun k hk ih => ?_)
    intro f' f1 f2 f3
    have B' : z_Bk f' I W L T w q := B.cg (f1 8 (by omega) (by omega) (by omega)) (f1 17 (by omega) (by omega) (by omega)) (f1 18 (by omega) (by omega) (by omega)) (f1 19 (by omega) (by omega) (by omega)) (f1 20 (by omega) (by omega) (by omega))
    refine b30 _ _ _ ?_
    rw [B'.1]
    refine pk_lt I (a + (k + 1)) (fun z => ?_) (fun z => x_mayBeLine B' hI hw hL (by omega) z ?_)
    · have ek : k = I - a := by omega
      rcases f3 with ⟨k0, -⟩ | ⟨-, g1, g2, g3⟩
      · omega
      · rw [ek] at g1 g2 g3
        exact h f' f1 f2 g1 g2 g3
    cases hok : z_ok L w a (k + 1)
    · refine ⟨fun _ => ?_, fun y => absurd rfl y⟩
      have hk1 : 1 ≤ k := Nat.pos_of_ne_zero (fun y => by rw [y, z_ok1] at hok; exact absurd hok (by decide))
      have hw2 : w < z_wid L a (a + (k + 1)) := by
        unfold z_ok at hok
        rw [decide_eq_false_iff_not] at hok
        omega
      have grow : ∀ m, k + 1 ≤ m → w < z_wid L a (a + m) := by
        intro m hm
        induction m with
        | zero => omega
        | succ m ihm =>
          by_cases em : m + 1 = k + 1
          · rw [em]; exact hw2
          · have := ihm (by omega)
            have := z_wid_lt (W := L) (show a ≤ a + m by omega)
            rw [show a + (m + 1) = a + m + 1 by omega]
            omega
      have stop : z_sc c n (z_ok L w a) (I - a) = z_sc c n (z_ok L w a) k := z_sc_stop (I - a) hk (fun i h1 h2 => decide_eq_false (fun y => by
        have := grow i (by omega)
        omega))
      rcases f3 with ⟨k0, -⟩ | ⟨-, g1, g2, g3⟩
      · omega
      · rw [← stop] at g1 g2 g3
        exact h f' f1 f2 g1 g2 g3
    refine ⟨fun y => absurd y (by decide), fun _ => x_badness B' hI hw hW (by omega) z (x_turnAhead B' hI (by omega) z ⟨vp_in_nI (by omega) (by omega), nm_e ⟨vp_in_nI (by omega) (by omega), nm_e ⟨vp_in_nI (by omega) (by omega), nm_e ⟨vp_in_nI (by omega) (by omega), nm_e ⟨vp_in_nI (by omega) (by omega), nm_e ⟨vp_in_nI (by omega) (by omega), ?_⟩⟩⟩⟩⟩⟩)⟩
    obtain ⟨r1, r2, -⟩ := R (a + (k + 1)) (z_nl q l) (by omega) z hnl
    have ec : nI (z_bad w (z_wid W a (a + (k + 1))) (decide (a + (k + 1) = I))) + nI (if l + 1 < q then 0 else T (a + (k + 1))) + f' (22 + (nI (a + (k + 1))).toNatClampNeg) (nI (z_nl q l)).toNatClampNeg = nI (c (k + 1)) := by
      rw [nI_clamp (by omega), nI_clamp (by omega), f1 _ (by omega) (by omega) (by omega), r1, nI_add, nI_add, hcv]
      rfl
    have en : (1 : Int32) + f' (36 + (nI (a + (k + 1))).toNatClampNeg) (nI (z_nl q l)).toNatClampNeg = nI (n (k + 1)) := by
      rw [nI_clamp (by omega), nI_clamp (by omega), f1 _ (by omega) (by omega) (by omega), r2, hnv]
      exact nI_add 1 _
    rw [ec, en]
    obtain ⟨cb, nb⟩ := hcb (k + 1) (by omega) z
    have es : z_sc c n (z_ok L w a) (k + 1) = if z_ok L w a (k + 1) = true ∧ ((z_sc c n (z_ok L w a) k).2.2 = 0 ∨ c (k + 1) < (z_sc c n (z_ok L w a) k).1 ∨ (c (k + 1) = (z_sc c n (z_ok L w a) k).1 ∧ n (k + 1) < (z_sc c n (z_ok L w a) k).2.1)) then (c (k + 1), n (k + 1), k + 1) else z_sc c n (z_ok L w a) k := rfl
    -- it is taken
    have take : ((z_sc c n (z_ok L w a) k).2.2 = 0 ∨ c (k + 1) < (z_sc c n (z_ok L w a) k).1 ∨ (c (k + 1) = (z_sc c n (z_ok L w a) k).1 ∧ n (k + 1) < (z_sc c n (z_ok L w a) k).2.1)) → B134 f' (nI (z_nl q l)) (nI (a + (k + 1))) (nI (c (k + 1))) (nI (n (k + 1))) := by
      intro cnd
      rw [if_pos ⟨hok, cnd⟩] at es
      refine b134 _ _ _ _ _ ⟨vp_in_nI (by omega) (by omega), nm_e ⟨vp_in_nI (by omega) (by omega), nm_e ⟨vp_in_nI (by omega) (by omega), nm_e ⟨vp_in_nI (by omega) (by omega), nm_e ⟨vp_in_nI (by omega) (by omega), nm_e ⟨vp_in_nI (by omega) (by omega), nm_e (b164 _ _ _ (nm_e ?_))⟩⟩⟩⟩⟩⟩
      rw [nI_1, show a + (k + 1) + 1 = a + (k + 1 + 1) by omega]
      refine ih (by omega) _ (fun i h1 h2 h3 => by rw [sx_u_n h3, sx_u_n h2, sx_u_n h1]; exact f1 i h1 h2 h3) (fun x hx => ?_) (Or.inr ⟨by omega, ?_, ?_, ?_⟩)
      · obtain ⟨u1, u2, u3⟩ := f2 x hx
        simp (disch := omega) only [sx_u_n, sx_u_s, pk_un]
        exact ⟨u1, u2, u3⟩
      · rw [es]; simp (disch := omega) only [sx_u_n, sx_u_s, pk_us]
      · rw [es]; simp (disch := omega) only [sx_u_n, sx_u_s, pk_us]
      · rw [es]; simp (disch := omega) only [sx_u_n, sx_u_s, pk_us]
    have pass : ¬ ((z_sc c n (z_ok L w a) k).2.2 = 0 ∨ c (k + 1) < (z_sc c n (z_ok L w a) k).1 ∨ (c (k + 1) = (z_sc c n (z_ok L w a) k).1 ∧ n (k + 1) < (z_sc c n (z_ok L w a) k).2.1)) → B164 f' (nI (z_nl q l)) (nI (a + (k + 1))) := by
      intro cnd
      rw [if_neg (fun y => cnd y.2)] at es
      refine b164 _ _ _ (nm_e ?_)
      rw [nI_1, show a + (k + 1) + 1 = a + (k + 1 + 1) by omega]
      refine ih (by omega) f' f1 f2 (Or.inr ⟨by omega, ?_⟩)
      rw [es]
      rcases f3 with ⟨k0, -⟩ | ⟨-, g1⟩
      · exact absurd (Or.inl (by rw [k0]; rfl)) cnd
      · exact g1
    rcases f3 with ⟨k0, g1, g2⟩ | ⟨k1, g1, g2, g3⟩
    · rw [g1]
      exact pk_lt (c (k + 1)) 1000000000 (fun _ => take (Or.inl (by rw [k0]; rfl))) (fun y => absurd y (by omega))
    · obtain ⟨p1, p2, p3, p4, p5, p6⟩ := z_sc_way (c := c) (n := n) (ok := z_ok L w a) z_ok1 k k1
      obtain ⟨cb2, nb2⟩ := hcb _ p1 (show a + (z_sc c n (z_ok L w a) k).2.2 ≤ I by omega)
      rw [← p4] at cb2
      rw [← p5] at nb2
      rw [g1]
      refine pk_lt (c (k + 1)) (z_sc c n (z_ok L w a) k).1 (fun y => take (Or.inr (Or.inl y))) (fun y => ⟨vp_in_nI (by omega) (by omega), nm_e ⟨vp_in_nI (by omega) (by omega), ?_⟩⟩)
      rw [g1]
      refine pk_eq (c (k + 1)) (z_sc c n (z_ok L w a) k).1 (fun y1 => ⟨vp_in_nI (by omega) (by omega), nm_e ⟨vp_in_nI (by omega) (by omega), ?_⟩⟩) (fun y1 => pass (fun u => ?_))
      · rw [g2]
        exact pk_le (z_sc c n (z_ok L w a) k).2.1 (n (k + 1)) (fun y2 => pass (fun u => by omega)) (fun y2 => take (Or.inr (Or.inr ⟨y1, y2⟩)))
      · omega
  exact loop _ (fun i h1 h2 h3 => by rw [sx_u_n h2, sx_u_n h1]) (fun x hx => by simp (disch := omega) only [sx_u_n, sx_u_s, pk_un]; exact ⟨trivial, trivial, trivial⟩) (Or.inl ⟨rfl, by simp (disch := omega) only [sx_u_n, sx_u_s, pk_us], by simp (disch := omega) only [sx_u_n, sx_u_s, pk_us]⟩)
theorem z_IT_le {S : z_S} {bk j : Nat} : z_IT S bk j ≤ 1600 := by
  unfold z_IT
  have := z_tc_le (S := S) (bk := bk) (b := z_xb S bk j)
  split <;> omega
theorem x_breakLines {f : sx_F} {S : z_S} {bk w q : Nat} {Q : sx_F → Prop} (Z : z_X f S) (W : z_W S) (hbk : bk ≤ 5) (h8 : f 8 2 = nI bk) (G : z_G f S bk (S 0 0)) (hw : w ≤ 500) (hq1 : 1 ≤ q) (hq : q ≤ 6) (p1 : f 19 1 = nI w) (p2 : f 19 2 = nI q) (h : ∀ f' : sx_F, (∀ k, (k ≤ 19 ∨ 63 ≤ k) → f' k = f k) → z_Bk f' (z_it S bk (S 0 0)) (z_IW S bk) (z_IL S bk) (z_IT S bk) w q → z_Rw f' (z_it S bk (S 0 0)) (z_IW S bk) (z_IL S bk) (z_IT S bk) w q 0 → P_X3_setLines f' Q) : P_X3_breakLines f Q := by
  have hn := W.1
  have hitn : z_it S bk (S 0 0) ≤ S 0 0 := z_cnt_le _
  have hI : z_it S bk (S 0 0) ≤ 12 := by omega
  have hW : ∀ j, j < z_it S bk (S 0 0) → z_IW S bk j ≤ 768 := fun j hj => (z_IW_b W hbk hj).1
  have hL : ∀ j, j < z_it S bk (S 0 0) → z_IL S bk j ≤ 288 := fun j hj => (z_IW_b W hbk hj).2.2
  intro B6 B60 B66 b6 b60 b66
  refine x_priceTurns Z W hbk h8 G (fun f1 a1 a2 a3 => ?_)
  have hB1 : z_Bk f1 (z_it S bk (S 0 0)) (z_IW S bk) (z_IL S bk) (z_IT S bk) w q := by
    refine ⟨by rw [a1 8 (by decide)]; exact G.1, fun j hj => by rw [a1 17 (by decide), a1 18 (by decide)]; exact G.sums hj, fun j hj => ?_, by rw [a1 19 (by decide)]; exact p1, by rw [a1 19 (by decide)]; exact p2⟩
    unfold z_IT
    by_cases e : j < z_it S bk (S 0 0)
    · rw [if_pos e]
      obtain ⟨x, hx, hnx, hjx⟩ := z_cnt_ex (p := z_new S bk) (S 0 0) j e
      have hjx : z_it S bk x = j := hjx
      have ex := z_xb_eq hx hnx
      rw [hjx] at ex
      rw [ex, ← hjx]
      exact a2 x hx hnx
    · rw [if_neg e, show j = z_it S bk (S 0 0) by omega]
      exact a3
  have ha1 : ∀ k, (k ≤ 19 ∨ 63 ≤ k) → f1 k = f k := fun k hk => a1 k (by omega)
  generalize hIg : z_it S bk (S 0 0) = I at hI hW hL hB1 h
  generalize z_IW S bk = Wd at hW hB1 h
  generalize z_IL S bk = Ld at hL hB1 h
  have hT : ∀ j, z_IT S bk j ≤ 1600 := fun j => z_IT_le
  generalize z_IT S bk = T at hT hB1 h
  -- the rows from the end on
  have rows : ∀ a f2, a ≤ I → (∀ k, (k ≤ 19 ∨ 63 ≤ k) → f2 k = f k) → z_Bk f2 I Wd Ld T w q → z_Rw f2 I Wd Ld T w q a → ∀ v, ((a = 0 ∧ v < 0) ∨ (0 < a ∧ v = nI (a - 1))) → B60 f2 v := by
    intro a
    induction a with
    | zero =>
      intro f2 _ c1 c2 c3 v hv
      rcases hv with ⟨-, hv⟩ | ⟨hv, -⟩
      · exact b60 _ _ ⟨fun _ => h f2 c1 c2 c3, fun y => absurd hv y⟩
      · omega
    | succ a ih =>
      intro f2 ha c1 c2 c3 v hv
      rcases hv with ⟨hv, -⟩ | ⟨-, hv⟩
      · omega
      rw [hv, show a + 1 - 1 = a by omega]
      refine b60 _ _ ⟨fun y => absurd y (nI_pos (by omega)), fun _ => ?_⟩
      have loop : ∀ f3 : sx_F, (∀ k, (k ≤ 19 ∨ 63 ≤ k) → f3 k = f k) → z_Bk f3 I Wd Ld T w q → z_Rw f3 I Wd Ld T w q (a + 1) → (∀ l, l < 0 → f3 (22 + a) l = nI (z_Z I Wd Ld T w q a l).1 ∧ f3 (36 + a) l = nI (z_Z I Wd Ld T w q a l).2.1 ∧ f3 (50 + a) l = nI (a + (z_Z I Wd Ld T w q a l).2.2)) → B66 f3 (nI a) (nI 0) := by
        refine z_up (B := fun l0 => ∀ f3 : sx_F, (∀ k, (k ≤ 19 ∨ 63 ≤ k) → f3 k = f k) → z_Bk f3 I Wd Ld T w q → z_Rw f3 I Wd Ld T w q (a + 1) → (∀ l, l < l0 → f3 (22 + a) l = nI (z_Z I Wd Ld T w q a l).1 ∧ f3 (36 + a) l = nI (z_Z I Wd Ld T w q a l).2.1 ∧ f3 (50 + a) l = nI (a + (z_Z I Wd Ld T w q a l).2.2)) → B66 f3 (nI a) (nI l0)) q (fun l0 hl0 ihl => ?_)
        intro f3 d1 d2 d3 d4
        refine b66 _ _ _ ?_
        rw [d2.2.2.2.2]
        refine pk_le q l0 (fun y => nm_e ?_) (fun y => x_chooseLine d2 hI hw hq hW hL hT (by omega) y d3 (fun f4 u1 u2 u3 u4 u5 => nm_e ?_))
        · refine ih f3 (by omega) d1 d2 (fun e l he he2 hl => ?_) _ ?_
          · by_cases ee : e = a
            · rw [ee]
              obtain ⟨v1, v2, v3⟩ := d4 l (by omega)
              exact ⟨v1, v2, fun _ => v3⟩
            · exact d3 e l (by omega) he2 hl
          · by_cases e0 : a = 0
            · exact Or.inl ⟨e0, by rw [e0]; decide⟩
            · refine Or.inr ⟨by omega, ?_⟩
              rw [show a = (a - 1) + 1 by omega, pk_m1]; rfl
        · rw [nI_1]
          refine ihl y f4 (fun k hk => by rw [u1 k (by omega) (by omega) (by omega)]; exact d1 k hk) (d2.cg (u1 8 (by omega) (by omega) (by omega)) (u1 17 (by omega) (by omega) (by omega)) (u1 18 (by omega) (by omega) (by omega)) (u1 19 (by omega) (by omega) (by omega)) (u1 20 (by omega) (by omega) (by omega))) (fun e l he he2 hl => ?_) (fun l hl => ?_)
          · rw [u1 _ (by omega) (by omega) (by omega), u1 _ (by omega) (by omega) (by omega), u1 _ (by omega) (by omega) (by omega)]
            exact d3 e l he he2 hl
          · by_cases el : l = l0
            · rw [el]; exact ⟨u3, u4, u5⟩
            · obtain ⟨w1, w2, w3⟩ := u2 l el
              rw [w1, w2, w3]
              exact d4 l (by omega)
      exact loop f2 c1 c2 c3 (fun l hl => absurd hl (by omega))
  -- behind the last item
  have start : ∀ f2 : sx_F, (∀ k, (k ≤ 19 ∨ 63 ≤ k) → f2 k = f k) → z_Bk f2 I Wd Ld T w q → (∀ l, l < 0 → f2 (22 + I) l = 0 ∧ f2 (36 + I) l = 0) → B6 f2 (nI 0) := by
    refine z_up (B := fun l0 => ∀ f2 : sx_F, (∀ k, (k ≤ 19 ∨ 63 ≤ k) → f2 k = f k) → z_Bk f2 I Wd Ld T w q → (∀ l, l < l0 → f2 (22 + I) l = 0 ∧ f2 (36 + I) l = 0) → B6 f2 (nI l0)) q (fun l0 hl0 ihl => ?_)
    intro f2 c1 c2 c3
    refine b6 _ _ ?_
    rw [c2.2.2.2.2, c2.1]
    refine pk_le q l0 (fun y => nm_e ?_) (fun y => ⟨vp_in_nI (by omega) (by omega), nm_e ⟨vp_in_nI (by omega) (by omega), nm_e ?_⟩⟩)
    · refine rows I f2 (Nat.le_refl _) c1 c2 (fun e l he he2 hl => ?_) _ ?_
      · have ee : e = I := by omega
        rw [ee, z_Z_end]
        obtain ⟨v1, v2⟩ := c3 l (by omega)
        exact ⟨v1, v2, fun z => by omega⟩
      · by_cases e0 : I = 0
        · exact Or.inl ⟨e0, by rw [e0]; decide⟩
        · exact Or.inr ⟨by omega, pk_sub (a := I) (b := 1) (by omega)⟩
    · rw [nI_clamp (n := I) (by omega), nI_clamp (n := l0) (by omega), sx_u_n (by omega), c2.1]
      refine ⟨vp_in_nI (by omega) (by omega), nm_e ⟨vp_in_nI (by omega) (by omega), nm_e (nm_e ?_)⟩⟩
      rw [nI_clamp (n := I) (by omega), nI_1]
      refine ihl y _ (fun k hk => by rw [sx_u_n (by omega), sx_u_n (by omega)]; exact c1 k hk) (c2.cg (by rw [sx_u_n (by omega), sx_u_n (by omega)]) (by rw [sx_u_n (by omega), sx_u_n (by omega)]) (by rw [sx_u_n (by omega), sx_u_n (by omega)]) (by rw [sx_u_n (by omega), sx_u_n (by omega)]) (by rw [sx_u_n (by omega), sx_u_n (by omega)])) (fun l hl => ?_)
      rw [sx_u_n (by omega), sx_u_s, sx_u_s, sx_u_n (by omega)]
      by_cases el : l = l0
      · rw [el, pk_us, pk_us]; exact ⟨rfl, rfl⟩
      · rw [pk_un el, pk_un el]; exact c3 l (by omega)
  exact start f1 ha1 hB1 (fun l hl => absurd hl (by omega))
def z_lp (q : Nat) : Nat → Nat | 0 => 0 | l + 1 => z_nl q (z_lp q l)
def z_ps (Z : Nat → Nat → Nat × Nat × Nat) (q : Nat) : Nat → Nat | 0 => 0 | l + 1 => z_ps Z q l + (Z (z_ps Z q l) (z_lp q l)).2.2
def z_tn (Z : Nat → Nat → Nat × Nat × Nat) (T : Nat → Nat) (q : Nat) : Nat → Nat := z_sm (fun l => if z_lp q l + 1 < q then 0 else T (z_ps Z q (l + 1)))
theorem z_lp_lt {q : Nat} (hq : 1 ≤ q) : ∀ l, z_lp q l < q
  | 0 => hq
  | l + 1 => by
    show z_nl q (z_lp q l) < q
    unfold z_nl
    split <;> omega
theorem z_lp_mod {q : Nat} (hq : 1 ≤ q) : ∀ l, z_lp q l = l % q
  | 0 => (Nat.zero_mod q).symm
  | l + 1 => by
    have ih := z_lp_mod hq l
    have lt := Nat.mod_lt l (show 0 < q by omega)
    show z_nl q (z_lp q l) = _
    rw [ih]
    unfold z_nl
    rw [Nat.add_mod]
    by_cases q1 : q = 1
    · subst q1
      rw [if_neg (by omega)]
      exact (Nat.mod_one _).symm
    · rw [Nat.mod_eq_of_lt (show 1 < q by omega)]
      by_cases c : l % q + 1 < q
      · rw [if_pos c, Nat.mod_eq_of_lt c]
      · rw [if_neg c, show l % q + 1 = q by omega, Nat.mod_self]
theorem z_Z_step {I : Nat} {W L T : Nat → Nat} {w q a l : Nat} (h : a < I) : 1 ≤ (z_Z I W L T w q a l).2.2 ∧ a + (z_Z I W L T w q a l).2.2 ≤ I ∧ (z_Z I W L T w q a l).2.1 = 1 + (z_Z I W L T w q (a + (z_Z I W L T w q a l).2.2) (z_nl q l)).2.1 := by
  have e := z_Z_eq (W := W) (L := L) (T := T) (w := w) (q := q) (l := l) h
  obtain ⟨p1, p2, p3, p4, p5, p6⟩ := z_sc_way (c := fun k => z_lc I W T w q a l k + (z_Z I W L T w q (a + k) (z_nl q l)).1) (n := fun k => 1 + (z_Z I W L T w q (a + k) (z_nl q l)).2.1) (ok := z_ok L w a) z_ok1 (I - a) (by omega)
  rw [← e] at p1 p2 p5
  exact ⟨p1, by omega, p5⟩
theorem z_path {I : Nat} {W L T : Nat → Nat} {w q : Nat} : ∀ l, l ≤ (z_Z I W L T w q 0 0).2.1 → z_ps (z_Z I W L T w q) q l ≤ I ∧ (z_Z I W L T w q (z_ps (z_Z I W L T w q) q l) (z_lp q l)).2.1 + l = (z_Z I W L T w q 0 0).2.1 ∧ (l < (z_Z I W L T w q 0 0).2.1 → z_ps (z_Z I W L T w q) q l < I)
  | 0, _ => by
    refine ⟨Nat.zero_le _, rfl, fun h => ?_⟩
    show 0 < I
    refine Nat.pos_of_ne_zero (fun z => ?_)
    subst z
    rw [z_Z_end] at h
    exact absurd h (Nat.lt_irrefl 0)
  | l + 1, h => by
    obtain ⟨p1, p2, p3⟩ := z_path (I := I) (W := W) (L := L) (T := T) (w := w) (q := q) l (by omega)
    obtain ⟨s1, s2, s3⟩ := z_Z_step (W := W) (L := L) (T := T) (w := w) (q := q) (l := z_lp q l) (p3 (by omega))
    have e : z_ps (z_Z I W L T w q) q (l + 1) = z_ps (z_Z I W L T w q) q l + (z_Z I W L T w q (z_ps (z_Z I W L T w q) q l) (z_lp q l)).2.2 := rfl
    rw [e]
    refine ⟨s2, ?_, fun h2 => ?_⟩
    · show (z_Z I W L T w q _ (z_nl q (z_lp q l))).2.1 + (l + 1) = _
      omega
    · refine Nat.lt_of_le_of_ne s2 (fun z => ?_)
      rw [z, z_Z_end] at s3
      have : (z_Z I W L T w q (z_ps (z_Z I W L T w q) q l) (z_lp q l)).2.1 = 1 := s3
      omega
theorem z_path_end {I : Nat} {W L T : Nat → Nat} {w q : Nat} (hw : w ≤ 500) (hI : I ≤ 12) (hW : ∀ j, j < I → W j ≤ 768) (hT : ∀ j, T j ≤ 1600) : z_ps (z_Z I W L T w q) q (z_Z I W L T w q 0 0).2.1 = I := by
  obtain ⟨p1, p2, -⟩ := z_path (I := I) (W := W) (L := L) (T := T) (w := w) (q := q) _ (Nat.le_refl _)
  refine Nat.le_antisymm p1 (Nat.le_of_not_lt (fun z => ?_))
  obtain ⟨-, -, c⟩ := z_Z_le (L := L) (q := q) hw hI hW hT (I - z_ps (z_Z I W L T w q) q (z_Z I W L T w q 0 0).2.1) (z_ps (z_Z I W L T w q) q (z_Z I W L T w q 0 0).2.1) (z_lp q (z_Z I W L T w q 0 0).2.1) (by omega)
  have := c (by omega)
  omega
def z_Ln (f : sx_F) (Z : Nat → Nat → Nat × Nat × Nat) (q n : Nat) : Prop := (∀ l, l < n → f 63 l = nI (z_ps Z q l)) ∧ ∀ l j, l < n → z_ps Z q l ≤ j → j < z_ps Z q (l + 1) → f 64 j = nI l
theorem x_setLines {f : sx_F} {I : Nat} {W L T : Nat → Nat} {w q : Nat} {Q : sx_F → Prop} (B : z_Bk f I W L T w q) (R : z_Rw f I W L T w q 0) (hw : w ≤ 500) (hI : I ≤ 12) (hq1 : 1 ≤ q) (hq : q ≤ 6) (hW : ∀ j, j < I → W j ≤ 768) (hT : ∀ j, T j ≤ 1600) (h : ∀ f' : sx_F, (∀ k, k ≠ 19 → k ≠ 63 → k ≠ 64 → f' k = f k) → (∀ j, j ≠ 7 → j ≠ 8 → f' 19 j = f 19 j) → f' 19 7 = nI (z_Z I W L T w q 0 0).2.1 → f' 19 8 = nI (z_tn (z_Z I W L T w q) T q (z_Z I W L T w q 0 0).2.1) → z_Ln f' (z_Z I W L T w q) q (z_Z I W L T w q 0 0).2.1 → f' 63 (z_Z I W L T w q 0 0).2.1 = nI I → Q f') : P_X3_setLines f Q := by
  intro B23 B51 b23 b51
  have hN : (z_Z I W L T w q 0 0).2.1 ≤ 12 := by
    have := (z_Z_le (L := L) (q := q) hw hI hW hT I 0 0 (by omega)).2.1
    omega
  have hend := z_path_end (L := L) (q := q) hw hI hW hT
  have hpath := @z_path I W L T w q
  generalize hNg : (z_Z I W L T w q 0 0).2.1 = N at hN hend hpath h
  have r0 := (R 0 0 (Nat.le_refl _) (by omega) (by omega)).2.1
  rw [hNg] at r0
  refine ⟨by unfold vp_in; decide, nm_e ⟨by unfold vp_in; decide, nm_e (nm_e ?_)⟩⟩
  rw [sb_cl0, r0]
  have loop : ∀ f' : sx_F, (∀ k, k ≠ 19 → k ≠ 63 → k ≠ 64 → f' k = f k) → (∀ j, j ≠ 7 → j ≠ 8 → f' 19 j = f 19 j) → f' 19 7 = nI N → f' 19 8 = nI (z_tn (z_Z I W L T w q) T q 0) → z_Ln f' (z_Z I W L T w q) q 0 → B23 f' (nI (z_ps (z_Z I W L T w q) q 0)) (nI (z_lp q 0)) (nI 0) := by
    refine z_up (B := fun l => ∀ f' : sx_F, (∀ k, k ≠ 19 → k ≠ 63 → k ≠ 64 → f' k = f k) → (∀ j, j ≠ 7 → j ≠ 8 → f' 19 j = f 19 j) → f' 19 7 = nI N → f' 19 8 = nI (z_tn (z_Z I W L T w q) T q l) → z_Ln f' (z_Z I W L T w q) q l → B23 f' (nI (z_ps (z_Z I W L T w q) q l)) (nI (z_lp q l)) (nI l)) N (fun l hl ih => ?_)
    intro f' f1 f2 f3 f4 f5
    obtain ⟨q1, q2, q3⟩ := hpath l hl
    have hlp := z_lp_lt hq1 l
    refine b23 _ _ _ _ ?_
    rw [f3, nI_clamp (n := N) (by omega)]
    refine pk_le N l (fun y => ⟨vp_in_nI (by omega) (by omega), nm_e ?_⟩) (fun y => ⟨vp_in_nI (by omega) (by omega), nm_e ⟨vp_in_nI (by omega) (by omega), nm_e ⟨vp_in_nI (by omega) (by omega), nm_e ?_⟩⟩⟩)
    · have e : l = N := by omega
      subst e
      refine h _ (fun k h1 h2 h3 => by rw [sx_u_n h2]; exact f1 k h1 h2 h3) (fun j h1 h2 => by rw [sx_u_n (by decide)]; exact f2 j h1 h2) (by rw [sx_u_n (by decide)]; exact f3) (by rw [sx_u_n (by decide)]; exact f4) ⟨fun i hi => by rw [sx_u_s, pk_un (by omega)]; exact f5.1 i hi, fun i j h1 h2 h3 => by rw [sx_u_n (by decide)]; exact f5.2 i j h1 h2 h3⟩ (by rw [sx_u_s, pk_us, hend])
    · have r := (R (z_ps (z_Z I W L T w q) q l) (z_lp q l) (Nat.zero_le _) q1 hlp).2.2 (q3 y)
      obtain ⟨s1, s2, s3⟩ := z_Z_step (W := W) (L := L) (T := T) (w := w) (q := q) (l := z_lp q l) (q3 y)
      have e1 : z_ps (z_Z I W L T w q) q (l + 1) = z_ps (z_Z I W L T w q) q l + (z_Z I W L T w q (z_ps (z_Z I W L T w q) q l) (z_lp q l)).2.2 := rfl
      rw [nI_clamp (n := l) (by omega), nI_clamp (n := z_ps (z_Z I W L T w q) q l) (by omega), nI_clamp (n := z_lp q l) (by omega), sx_u_n (by omega), f1 _ (by omega) (by omega) (by omega), r, ← e1]
      rw [← e1] at s2
      have lt : z_ps (z_Z I W L T w q) q l < z_ps (z_Z I W L T w q) q (l + 1) := by omega
      clear e1 s1 s3
      generalize hp : z_ps (z_Z I W L T w q) q l = p at q1 q2 q3 lt r
      generalize hp' : z_ps (z_Z I W L T w q) q (l + 1) = p' at s2 lt
      have inner : ∀ m i, i + m = p' → p ≤ i → ∀ f6 : sx_F, (∀ k, k ≠ 19 → k ≠ 63 → k ≠ 64 → f6 k = f k) → f6 19 = f' 19 → f6 63 = upd (f' 63) l (nI p) → (∀ j, j < p → f6 64 j = f' 64 j) → (∀ j, p ≤ j → j < i → f6 64 j = nI l) → B51 f6 (nI (z_lp q l)) (nI l) (nI p') (nI i) := by
        intro m
        induction m with
        | zero =>
          intro i hi hpi f6 v1 v2 v3 v4 v5
          have ei : i = p' := by omega
          subst ei
          refine b51 _ _ _ _ _ (pk_le i i (fun _ => x_nextOnPage (by rw [v2, f2 2 (by decide) (by decide)]; exact B.2.2.2.2) hq (by omega) (x_turnAhead (I := I) (W := W) (L := L) (T := T) (w := w) ?_ hI (by omega) s2 (nm_e (nm_e ?_)))) (fun y => absurd y (by omega)))
          · refine ⟨by rw [v1 8 (by decide) (by decide) (by decide)]; exact B.1, fun j hj => by rw [v1 17 (by decide) (by decide) (by decide), v1 18 (by decide) (by decide) (by decide)]; exact B.2.1 j hj, fun j hj => by rw [v1 20 (by decide) (by decide) (by decide)]; exact B.2.2.1 j hj, by rw [v2, f2 1 (by decide) (by decide)]; exact B.2.2.2.1, by rw [v2, f2 2 (by decide) (by decide)]; exact B.2.2.2.2⟩
          · rw [nI_1, v2, f4, nI_add]
            have ih2 := ih y (sx_u f6 19 8 (nI (z_tn (z_Z I W L T w q) T q l + (if z_lp q l + 1 < q then 0 else T i)))) (fun k h1 h2 h3 => by rw [sx_u_n h1]; exact v1 k h1 h2 h3) (fun j h1 h2 => by rw [sx_u_s, pk_un h2, v2]; exact f2 j h1 h2) (by rw [sx_u_s, pk_un (by decide), v2]; exact f3) ?_ ⟨fun i2 hi2 => ?_, fun i2 j h1 h2 h3 => ?_⟩
            · rw [hp'] at ih2; exact ih2
            · rw [sx_u_s, pk_us]
              show _ = nI (z_tn (z_Z I W L T w q) T q l + (if z_lp q l + 1 < q then 0 else T (z_ps (z_Z I W L T w q) q (l + 1))))
              rw [hp']
            · rw [sx_u_n (by decide), v3]
              by_cases e : i2 = l
              · rw [e, pk_us, hp]
              · rw [pk_un e]; exact f5.1 i2 (by omega)
            · rw [sx_u_n (by decide)]
              by_cases e : i2 = l
              · rw [e] at h2 h3 ⊢
                rw [hp] at h2
                rw [hp'] at h3
                exact v5 j h2 h3
              · have mono : z_ps (z_Z I W L T w q) q (i2 + 1) ≤ p := by
                  have : ∀ a b, a ≤ b → z_ps (z_Z I W L T w q) q a ≤ z_ps (z_Z I W L T w q) q b := by
                    intro a b hab
                    induction b with
                    | zero => rw [show a = 0 by omega]; exact Nat.le_refl _
                    | succ b ihb =>
                      by_cases e3 : a = b + 1
                      · rw [e3]; exact Nat.le_refl _
                      · exact Nat.le_trans (ihb (by omega)) (Nat.le_add_right _ _)
                  rw [← hp]
                  exact this (i2 + 1) l (by omega)
                rw [v4 j (by omega)]
                exact f5.2 i2 j (by omega) h2 h3
        | succ m ihm =>
          intro i hi hpi f6 v1 v2 v3 v4 v5
          refine b51 _ _ _ _ _ (pk_le p' i (fun y => absurd y (by omega)) (fun _ => ⟨vp_in_nI (by omega) (by omega), nm_e (nm_e ?_)⟩))
          rw [nI_1, nI_clamp (by omega)]
          refine ihm (i + 1) (by omega) (by omega) _ (fun k h1 h2 h3 => by rw [sx_u_n h3]; exact v1 k h1 h2 h3) (by rw [sx_u_n (by decide)]; exact v2) (by rw [sx_u_n (by decide)]; exact v3) (fun j hj => by rw [sx_u_s, pk_un (by omega)]; exact v4 j hj) (fun j h1 h2 => ?_)
          rw [sx_u_s]
          by_cases e : j = i
          · rw [e, pk_us]
          · rw [pk_un e]; exact v5 j h1 (by omega)
      exact inner (p' - p) p (by omega) (Nat.le_refl _) _ (fun k h1 h2 h3 => by rw [sx_u_n h2]; exact f1 k h1 h2 h3) (by rw [sx_u_n (by decide)]) (by rw [sx_u_s]) (fun j hj => by rw [sx_u_n (by decide)]) (fun j h1 h2 => absurd h2 (by omega))
  refine loop _ (fun k h1 h2 h3 => by rw [sx_u_n h1, sx_u_n h1]) (fun j h1 h2 => by rw [sx_u_s, pk_un h2, sx_u_s, pk_un h1]) (by rw [sx_u_s, pk_un (by decide), sx_u_s, pk_us]) (by rw [sx_u_s, pk_us]; rfl) ⟨fun i hi => absurd hi (by omega), fun i j hi => absurd hi (by omega)⟩
def z_Bm (g : sx_F) (I : Nat) (W L : Nat → Nat) (w q : Nat) : Prop := g 0 20 = nI I ∧ (∀ j, j < I → g 20 j = nI (8 + W j) ∧ g 21 j = nI (8 + L j)) ∧ g 0 6 = nI w ∧ g 0 7 = nI q
def z_Rm (g : sx_F) (I : Nat) (W L T : Nat → Nat) (w q a : Nat) : Prop := ∀ e l, a ≤ e → e ≤ I → l < q → g 22 (6 * e + l) = nI (z_Z I W L T w q e l).1 ∧ g 23 (6 * e + l) = nI (z_Z I W L T w q e l).2.1 ∧ (e < I → g 24 (6 * e + l) = nI (z_Z I W L T w q e l).2.2)
theorem z_wid_s {W : Nat → Nat} {a e : Nat} (h : a ≤ e) : z_wid W a (e + 1) = z_wid W a e + (8 + W e) := by
  unfold z_wid
  have m := z_sm_mono (w := W) h
  rw [show z_sm W (e + 1) = z_sm W e + W e from rfl]
  omega
theorem z_nl_mod {q l : Nat} (hl : l < q) : (l + 1) % q = z_nl q l := by
  unfold z_nl
  by_cases c : l + 1 < q
  · rw [if_pos c, Nat.mod_eq_of_lt c]
  · rw [if_neg c, show l + 1 = q by omega, Nat.mod_self]
theorem x_breakBook {t : Nat} {f g : sx_F} {S : z_S} {bk : Nat} {Q : sx_F → Prop} {X : String → sx_F → Prop} (R : z_R t f g S) (hbk : bk ≤ 5) (h : ∀ (f' : sx_F) (w q : Nat), 80 ≤ w → w ≤ 500 → 1 ≤ q → q ≤ 6 → g 0 6 = nI w → g 0 7 = nI q → z_fx f f' → z_X f' S → f' 11 0 = 0 → f' 12 0 = 0 → z_G f' S bk (S 0 0) → z_Bk f' (z_it S bk (S 0 0)) (z_IW S bk) (z_IL S bk) (z_IT S bk) w q → z_Rw f' (z_it S bk (S 0 0)) (z_IW S bk) (z_IL S bk) (z_IT S bk) w q 0 → f' 19 7 = nI (z_Z (z_it S bk (S 0 0)) (z_IW S bk) (z_IL S bk) (z_IT S bk) w q 0 0).2.1 → f' 19 8 = nI (z_tn (z_Z (z_it S bk (S 0 0)) (z_IW S bk) (z_IL S bk) (z_IT S bk) w q) (z_IT S bk) q (z_Z (z_it S bk (S 0 0)) (z_IW S bk) (z_IL S bk) (z_IT S bk) w q 0 0).2.1) → z_Ln f' (z_Z (z_it S bk (S 0 0)) (z_IW S bk) (z_IL S bk) (z_IT S bk) w q) q (z_Z (z_it S bk (S 0 0)) (z_IW S bk) (z_IL S bk) (z_IT S bk) w q 0 0).2.1 → f' 63 (z_Z (z_it S bk (S 0 0)) (z_IW S bk) (z_IL S bk) (z_IT S bk) w q 0 0).2.1 = nI (z_it S bk (S 0 0)) → Q f') : P_X6_breakBook f (nI bk) Q X := by
  obtain ⟨w, q, p1, p2, p3, p4, p5, p6, p7, p8, p11, p12, p17, p18⟩ := R.2.2.2.2.2.1
  have W := R.2.2.1
  have hn := W.1
  have hitn : z_it S bk (S 0 0) ≤ S 0 0 := z_cnt_le _
  refine x_needIndex_t (n := 6) (by omega) (by omega) (x_gather R.1 W hbk p11 p12 p17 p18 (fun f1 a1 a2 a3 a4 a5 => ?_))
  have Z1 : z_X f1 S := z_Xc R.1 (a1 1 (by decide)) (a1 2 (by decide)) (a1 5 (by decide)) (a1 6 (by decide)) (a1 7 (by decide))
  refine x_breakLines Z1 W hbk a4 a5 p2 p3 p4 (by rw [a1 19 (by decide)]; exact p5) (by rw [a1 19 (by decide)]; exact p7) (fun f2 b1 b2 b3 => ?_)
  refine x_setLines b2 b3 p2 (by omega) p3 p4 (fun j hj => (z_IW_b W hbk hj).1) (fun j => z_IT_le) (fun f3 c1 c2 c3 c4 c5 c6 => ?_)
  have a0 := a5.2.2.2.1 0 (by omega)
  have fx : z_fx f f3 := by
    refine ⟨fun k hk => by rw [c1 k (by omega) (by omega) (by omega), b1 k (by omega)]; exact a1 k (by omega), fun k j hk => ?_⟩
    rcases hk with ⟨rfl, hk⟩ | ⟨rfl, rfl | rfl | rfl | rfl⟩
    · rw [c2 j (by omega) (by omega), b1 19 (by omega), a1 19 (by omega)]
    · rw [c1 11 (by decide) (by decide) (by decide), b1 11 (by omega), a2, p11]
    · rw [c1 12 (by decide) (by decide) (by decide), b1 12 (by omega), a3, p12]
    · rw [c1 17 (by decide) (by decide) (by decide), b1 17 (by omega), p17]; exact a0.1
    · rw [c1 18 (by decide) (by decide) (by decide), b1 18 (by omega), p18]; exact a0.2
  have lo : ∀ k, k ≤ 18 → f3 k = f1 k := fun k hk => by rw [c1 k (by omega) (by omega) (by omega), b1 k (by omega)]
  refine h f3 w q p1 p2 p3 p4 p6 p8 fx (R.1.fx fx) (by rw [lo 11 (by omega)]; exact a2) (by rw [lo 12 (by omega)]; exact a3) ?_ ?_ ?_ c3 c4 c5 c6
  · unfold z_G at a5 ⊢
    rw [lo 8 (by omega), lo 14 (by omega), lo 15 (by omega), lo 16 (by omega), lo 17 (by omega), lo 18 (by omega)]
    exact a5
  · unfold z_Bk at b2 ⊢
    rw [c1 8 (by decide) (by decide) (by decide), c1 17 (by decide) (by decide) (by decide), c1 18 (by decide) (by decide) (by decide), c1 20 (by decide) (by decide) (by decide), c2 1 (by decide) (by decide), c2 2 (by decide) (by decide)]
    exact b2
  · intro e l he he2 hl
    rw [c1 _ (by omega) (by omega) (by omega), c1 _ (by omega) (by omega) (by omega), c1 _ (by omega) (by omega) (by omega)]
    exact b3 e l he he2 hl
theorem z_line {Z : Nat → Nat → Nat × Nat × Nat} {q j : Nat} : ∀ n, j < z_ps Z q n → ∃ l, l < n ∧ z_ps Z q l ≤ j ∧ j < z_ps Z q (l + 1)
  | 0, h => absurd h (Nat.not_lt_zero _)
  | n + 1, h => by
    by_cases c : j < z_ps Z q n
    · obtain ⟨l, h1, h2, h3⟩ := z_line n c
      exact ⟨l, by omega, h2, h3⟩
    · exact ⟨n, by omega, by omega, h⟩
theorem x_leastOfAllWays {f : sx_F} {I : Nat} {W L T : Nat → Nat} {w q : Nat} (B : z_Bk f I W L T w q) (hI : I ≤ 12) (hw : w ≤ 500) (hq : q ≤ 6) (hW : ∀ j, j < I → W j ≤ 768) (hL : ∀ j, j < I → L j ≤ 288) (hT : ∀ j, T j ≤ 1600) : ∀ d fuel a l dep, a + d = I → d < fuel → dep ≤ a → l < q → ∀ Q : Int32 → Prop, Q (nI (z_Z I W L T w q a l).1) → P_X3_leastOfAllWays fuel f (nI a) (nI l) (nI dep) Q := by
  intro d
  induction d using Nat.strongRecOn with
  | ind d ih =>
  intro fuel a l dep h1 h2 h3 hl Q hQ
  obtain ⟨m, rfl⟩ : ∃ m, fuel = m + 1 := ⟨fuel - 1, by omega⟩
  intro B35 B96 b35 b96
  have hnl : z_nl q l < q := by unfold z_nl; split <;> omega
  rw [B.1]
  refine pk_le I a (fun z => ?_) (fun z => pk_lt dep 12 (fun _ => x_nextOnPage B.2.2.2.2 hq (by omega) (nm_e ?_)) (fun z2 => absurd z2 (by omega)))
  · rw [show a = I by omega, z_Z_end] at hQ; exact hQ
  rw [nI_1]
  generalize hc : (fun k => z_lc I W T w q a l k + (z_Z I W L T w q (a + k) (z_nl q l)).1) = c
  generalize hnn : (fun k => 1 + (z_Z I W L T w q (a + k) (z_nl q l)).2.1) = n
  have hZ : z_Z I W L T w q a l = z_sc c n (z_ok L w a) (I - a) := by rw [← hc, ← hnn]; exact z_Z_eq (by omega)
  have hcv : ∀ k, c k = z_lc I W T w q a l k + (z_Z I W L T w q (a + k) (z_nl q l)).1 := fun k => by rw [← hc]
  have hcb : ∀ k, a + k ≤ I → c k ≤ 500000000 := fun k h2 => by
    have b1 := z_lc_le (a := a) (l := l) (k := k) (q := q) hw hI hW hT h2
    obtain ⟨b2, b3, -⟩ := z_Z_le (L := L) (q := q) hw hI hW hT (I - (a + k)) (a + k) (z_nl q l) (by omega)
    rw [hcv]
    omega
  rw [hZ] at hQ
  have loop : ∀ cur : Nat, ((0 = 0 ∧ cur = 1000000000) ∨ (1 ≤ 0 ∧ cur = (z_sc c n (z_ok L w a) 0).1)) → B35 (nI (z_nl q l)) (nI cur) (nI (a + (0 + 1))) := by
    refine z_up (B := fun k => ∀ cur : Nat, ((k = 0 ∧ cur = 1000000000) ∨ (1 ≤ k ∧ cur = (z_sc c n (z_ok L w a) k).1)) → B35 (nI (z_nl q l)) (nI cur) (nI (a + (k + 1)))) (I - a) (fun k hk ihk => ?_)
    intro cur hcur
    refine b35 _ _ _ ?_
    rw [B.1]
    refine pk_lt I (a + (k + 1)) (fun y => ?_) (fun y => x_mayBeLine B hI hw hL (by omega) y ?_)
    · rcases hcur with ⟨k0, -⟩ | ⟨-, e⟩
      · omega
      · rw [e, show k = I - a by omega]; exact hQ
    have es : z_sc c n (z_ok L w a) (k + 1) = if z_ok L w a (k + 1) = true ∧ ((z_sc c n (z_ok L w a) k).2.2 = 0 ∨ c (k + 1) < (z_sc c n (z_ok L w a) k).1 ∨ (c (k + 1) = (z_sc c n (z_ok L w a) k).1 ∧ n (k + 1) < (z_sc c n (z_ok L w a) k).2.1)) then (c (k + 1), n (k + 1), k + 1) else z_sc c n (z_ok L w a) k := rfl
    have go : ∀ cur' : Nat, cur' = (z_sc c n (z_ok L w a) (k + 1)).1 → B96 (nI (z_nl q l)) (nI cur') (nI (a + (k + 1))) := fun cur' e => b96 _ _ _ (nm_e (by
      rw [nI_1, show a + (k + 1) + 1 = a + (k + 1 + 1) by omega]
      exact ihk (by omega) cur' (Or.inr ⟨by omega, e⟩)))
    cases hok : z_ok L w a (k + 1)
    · refine ⟨fun _ => go cur ?_, fun u => absurd rfl u⟩
      rw [es, if_neg (fun u => by rw [hok] at u; exact absurd u.1 (by decide))]
      rcases hcur with ⟨k0, -⟩ | ⟨-, e⟩
      · rw [k0, z_ok1] at hok; exact absurd hok (by decide)
      · exact e
    · refine ⟨fun u => absurd u (by decide), fun _ => x_badness B hI hw hW (by omega) y (x_turnAhead B hI (by omega) y (nm_e ?_))⟩
      rw [nI_1, nI_add]
      refine ih (d - (k + 1)) (by omega) m (a + (k + 1)) (z_nl q l) (dep + 1) (by omega) (by omega) (by omega) hnl _ (nm_e ?_)
      have cb := hcb (k + 1) y
      have ec : nI (z_bad w (z_wid W a (a + (k + 1))) (decide (a + (k + 1) = I)) + if l + 1 < q then 0 else T (a + (k + 1))) + nI (z_Z I W L T w q (a + (k + 1)) (z_nl q l)).1 = nI (c (k + 1)) := by rw [nI_add, hcv]; rfl
      rw [ec]
      rcases hcur with ⟨k0, e⟩ | ⟨k1, e⟩
      · rw [e, if_pos (nI_lt (by omega) (by omega))]
        refine go _ ?_
        rw [es, if_pos ⟨hok, Or.inl (by rw [k0]; rfl)⟩]
      · obtain ⟨p1, p2, p3, p4, p5, p6⟩ := z_sc_way (c := c) (n := n) (ok := z_ok L w a) z_ok1 k k1
        have cb2 := hcb _ (show a + (z_sc c n (z_ok L w a) k).2.2 ≤ I by omega)
        rw [← p4] at cb2
        rw [e]
        by_cases lt : c (k + 1) < (z_sc c n (z_ok L w a) k).1
        · rw [if_pos (nI_lt lt (by omega))]
          refine go _ ?_
          rw [es, if_pos ⟨hok, Or.inr (Or.inl lt)⟩]
        · rw [if_neg (nI_nlt (by omega) (by omega))]
          refine go _ ?_
          rw [es]
          by_cases cnd : z_ok L w a (k + 1) = true ∧ ((z_sc c n (z_ok L w a) k).2.2 = 0 ∨ c (k + 1) < (z_sc c n (z_ok L w a) k).1 ∨ (c (k + 1) = (z_sc c n (z_ok L w a) k).1 ∧ n (k + 1) < (z_sc c n (z_ok L w a) k).2.1))
          · rw [if_pos cnd]
            show _ = c (k + 1)
            omega
          · rw [if_neg cnd]
  exact loop 1000000000 (Or.inl ⟨rfl, rfl⟩)
def z_st (S : z_S) (dr b i : Nat) : Nat := if dr = 6 then 0 else z_nth (z_pl S dr b) i (S 1 b)
def z_sw (S : z_S) (dr b i : Nat) : Nat := if dr = 6 then 24 else z_wd S dr b (z_st S dr b i)
def z_sl (S : z_S) (dr b i : Nat) : Nat := if dr = 6 then 16 else z_le S dr b (z_st S dr b i)
theorem z_st_eq {S : z_S} {dr b q : Nat} (h6 : dr ≠ 6) (hq : q < S 1 b) (hp : z_pl S dr b q = true) : z_st S dr b (z_pc S dr b q) = q := by
  unfold z_st
  rw [if_neg h6]
  exact z_nth_eq hp _ hq
theorem z_ws_it {S : z_S} {dr b : Nat} (h6 : dr ≠ 6) : ∀ q, q ≤ S 1 b → z_ws S dr b q = z_sm (z_sw S dr b) (z_pc S dr b q) ∧ z_ls S dr b q = z_sm (z_sl S dr b) (z_pc S dr b q)
  | 0, _ => ⟨rfl, rfl⟩
  | q + 1, h => by
    obtain ⟨h1, h2⟩ := z_ws_it (S := S) (dr := dr) (b := b) h6 q (by omega)
    have e1 : z_ws S dr b (q + 1) = z_ws S dr b q + (if z_pl S dr b q then z_wd S dr b q else 0) := rfl
    have e2 : z_ls S dr b (q + 1) = z_ls S dr b q + (if z_pl S dr b q then z_le S dr b q else 0) := rfl
    have e3 : z_pc S dr b (q + 1) = z_pc S dr b q + (if z_pl S dr b q then 1 else 0) := rfl
    rw [e1, e2, e3, h1, h2]
    cases hn : z_pl S dr b q
    · exact ⟨rfl, rfl⟩
    · have ex := z_st_eq h6 (show q < S 1 b by omega) hn
      refine ⟨?_, ?_⟩
      · show _ = z_sm (z_sw S dr b) (z_pc S dr b q) + z_sw S dr b (z_pc S dr b q)
        unfold z_sw
        rw [ex, if_neg h6]; rfl
      · show _ = z_sm (z_sl S dr b) (z_pc S dr b q) + z_sl S dr b (z_pc S dr b q)
        unfold z_sl
        rw [ex, if_neg h6]; rfl
theorem z_pl_ex {S : z_S} {dr b i : Nat} (h : i < z_pc S dr b (S 1 b)) : ∃ q, q < S 1 b ∧ z_pl S dr b q = true ∧ z_pc S dr b q = i := z_cnt_ex (p := z_pl S dr b) (S 1 b) i h
theorem z_Wb_sm {S : z_S} {dr b : Nat} : z_Wb S dr b = z_sm (z_sw S dr b) (z_np S dr b) ∧ z_Lb S dr b = z_sm (z_sl S dr b) (z_np S dr b) := by
  unfold z_Wb z_Lb z_np
  by_cases e : dr = 6
  · rw [if_pos e, if_pos e, if_pos e]
    refine ⟨?_, ?_⟩
    · show 24 = 0 + z_sw S dr b 0
      unfold z_sw
      rw [if_pos e]
    · show 16 = 0 + z_sl S dr b 0
      unfold z_sl
      rw [if_pos e]
  · rw [if_neg e, if_neg e, if_neg e]
    exact z_ws_it e _ (Nat.le_refl _)
theorem z_np_b {S : z_S} {dr b : Nat} (hl : S 1 b ≤ 32) : z_np S dr b ≤ 32 := by
  unfold z_np
  split
  · omega
  · have : z_pc S dr b (S 1 b) ≤ S 1 b := z_cnt_le _
    omega
theorem z_st_b {S : z_S} {dr b i : Nat} (h : i < z_np S dr b) (hl : S 1 b ≤ 32) : z_st S dr b i < 32 := by
  unfold z_np at h
  by_cases e : dr = 6
  · unfold z_st
    rw [if_pos e]; omega
  · rw [if_neg e] at h
    obtain ⟨q, h1, h2, h3⟩ := z_pl_ex h
    rw [← h3, z_st_eq e h1 h2]
    omega
theorem z_swl {S : z_S} {dr b i : Nat} : z_sl S dr b i ≤ z_sw S dr b i ∧ 1 ≤ z_sw S dr b i := by
  unfold z_sl z_sw
  by_cases e : dr = 6
  · rw [if_pos e, if_pos e]; omega
  · rw [if_neg e, if_neg e]
    have h4 : 4 ≤ z_le S dr b (z_st S dr b i) := Nat.le_add_right _ _
    unfold z_wd
    split <;> omega
theorem z_sm_le2 {v w : Nat → Nat} (h : ∀ x, v x ≤ w x) : ∀ n, z_sm v n ≤ z_sm w n
  | 0 => Nat.le_refl _
  | n + 1 => Nat.add_le_add (z_sm_le2 h n) (h n)
theorem z_dn.at_ {f : sx_F} {S : z_S} {dr b : Nat} (D : z_dn f S dr b) : f 9 0 = nI (z_np S dr b) ∧ (∀ i, i < z_np S dr b → f 10 i = nI (z_st S dr b i)) ∧ ∀ i, i ≤ z_np S dr b → f 11 i = nI (z_sm (z_sw S dr b) i) ∧ f 12 i = nI (z_sm (z_sl S dr b) i) := by
  obtain ⟨z1, z2, D⟩ := D
  rcases D with ⟨h1, h2, h3, h4, h5⟩ | ⟨h1, h2, h3, h4⟩
  · have enp : z_np S dr b = 1 := by unfold z_np; exact if_pos h1
    rw [enp]
    refine ⟨h2, fun i hi => ?_, fun i hi => ?_⟩
    · have e : i = 0 := by omega
      rw [e, h3]
      unfold z_st
      rw [if_pos h1]; rfl
    · rcases (show i = 0 ∨ i = 1 by omega) with e | e
      · rw [e]; exact ⟨z1, z2⟩
      · rw [e, h4, h5]
        have e1 : z_sm (z_sw S dr b) 1 = 24 := by
          show 0 + z_sw S dr b 0 = 24
          unfold z_sw
          rw [if_pos h1]
        have e2 : z_sm (z_sl S dr b) 1 = 16 := by
          show 0 + z_sl S dr b 0 = 16
          unfold z_sl
          rw [if_pos h1]
        rw [e1, e2]
        exact ⟨rfl, rfl⟩
  · have enp : z_np S dr b = z_pc S dr b (S 1 b) := by unfold z_np; exact if_neg h1
    rw [enp]
    refine ⟨h2, fun i hi => ?_, fun i hi => ?_⟩
    · obtain ⟨q, q1, q2, q3⟩ := z_pl_ex hi
      rw [← q3, z_st_eq h1 q1 q2]
      exact h3 q q1 q2
    · by_cases e : i = z_pc S dr b (S 1 b)
      · obtain ⟨w1, w2⟩ := z_ws_it (S := S) (b := b) h1 (S 1 b) (Nat.le_refl _)
        rw [e, ← w1, ← w2]
        exact h4 _ (Nat.le_refl _)
      · obtain ⟨q, q1, q2, q3⟩ := z_pl_ex (show i < z_pc S dr b (S 1 b) by omega)
        obtain ⟨w1, w2⟩ := z_ws_it (S := S) (b := b) h1 q (by omega)
        rw [← q3, ← w1, ← w2]
        exact h4 q (by omega)
theorem z_F1.at_ {g : sx_F} {S : z_S} {dr b s0 : Nat} (F : z_F1 g S dr b s0) : ∀ i, i < z_np S dr b → g 17 (s0 + i) = nI (z_st S dr b i) ∧ g 18 (s0 + i) = nI (z_sw S dr b i) ∧ g 19 (s0 + i) = nI (z_sl S dr b i) := by
  intro i hi
  unfold z_np at hi
  rcases F with ⟨h1, h2, h3, h4⟩ | ⟨h1, h2⟩
  · rw [if_pos h1] at hi
    have e : i = 0 := by omega
    unfold z_sw z_sl z_st
    rw [if_pos h1, if_pos h1, if_pos h1, e, Nat.add_zero]
    exact ⟨h2, h3, h4⟩
  · rw [if_neg h1] at hi
    obtain ⟨q, q1, q2, q3⟩ := z_pl_ex hi
    have e := z_st_eq h1 q1 q2
    rw [q3] at e
    unfold z_sw z_sl
    rw [if_neg h1, if_neg h1, e]
    have := h2 q q1 q2
    rw [q3] at this
    exact this
theorem x_springFrom {f : sx_F} {N : Nat} {st : Nat → Nat} {x : Int32} {Q : Int32 → Prop} (h9 : f 9 0 = nI N) (hN : N ≤ 32) (h10 : ∀ i, i < N → f 10 i = nI (st i)) (h1 : ∀ i, i < N → x = nI (st i) → (∀ k, k < i → x ≠ nI (st k)) → Q (nI i)) (h0 : (∀ i, i < N → x ≠ nI (st i)) → Q (-1)) : P_X5_springFrom f x Q := by
  intro B2 b2
  have key : (∀ k, k < 0 → x ≠ nI (st k)) → B2 (nI 0) := by
    refine z_up (B := fun i => (∀ k, k < i → x ≠ nI (st k)) → B2 (nI i)) N (fun i hi ih => ?_)
    intro hk
    refine b2 _ ?_
    rw [h9]
    refine pk_le N i (fun c => h0 (fun k hk2 => hk k (by omega))) (fun c => ⟨vp_in_nI (by omega) (by omega), ?_⟩)
    rw [nI_clamp (by omega), h10 i c]
    refine ⟨fun e => h1 i c e.symm hk, fun e => nm_e ?_⟩
    rw [nI_1]
    refine ih c (fun k hk2 => ?_)
    by_cases ek : k = i
    · rw [ek]; exact fun z => e z.symm
    · exact hk k (by omega)
  exact key (fun k hk => absurd hk (by omega))
def z_plc (I w : Nat) (A L : Nat → Nat) (J p p' ah al : Nat) : Nat :=
  if w < z_wid A p p' then (if z_wid L p p' < z_wid A p p' then 8 * (J - p) + 4 + ah - (if z_wid A p p' - z_wid L p p' < z_wid A p p' - w then z_wid A p p' - z_wid L p p' else z_wid A p p' - w) * (ah - al) / (z_wid A p p' - z_wid L p p') else 8 * (J - p) + 4 + ah) else (if p' = I then 8 * (J - p) + 4 + ah else 8 * (J - p) + 4 + ah + (w - z_wid A p p') * ah / (z_sm A p' - z_sm A p))
theorem z_sm_sub {v w : Nat → Nat} (h : ∀ x, v x ≤ w x) {a : Nat} : ∀ b, a ≤ b → z_sm v b - z_sm v a ≤ z_sm w b - z_sm w a
  | 0, _ => by
    show 0 - _ ≤ _
    omega
  | b + 1, hab => by
    by_cases e : a = b + 1
    · rw [e]; omega
    · have i := z_sm_sub h (a := a) b (by omega)
      have m1 := z_sm_mono (w := v) (show a ≤ b by omega)
      have m2 := z_sm_mono (w := w) (show a ≤ b by omega)
      have hb := h b
      show z_sm v b + v b - _ ≤ z_sm w b + w b - _
      omega
theorem z_sm_lt {w : Nat → Nat} {c I a : Nat} (h : ∀ j, j < I → w j ≤ c) : ∀ b, a ≤ b → b ≤ I → z_sm w b - z_sm w a ≤ c * (b - a)
  | 0, _, _ => by
    show 0 - _ ≤ _
    omega
  | b + 1, hab, hb => by
    by_cases e : a = b + 1
    · rw [e]; omega
    · have i := z_sm_lt h (a := a) b (by omega) (by omega)
      have m1 := z_sm_mono (w := w) (show a ≤ b by omega)
      have hb := h b (by omega)
      show z_sm w b + w b - _ ≤ _
      rw [show b + 1 - a = (b - a) + 1 by omega, Nat.mul_succ]
      omega
theorem z_sm_pos {w : Nat → Nat} {a b : Nat} (h : a < b) (hw : 1 ≤ w a) : 1 ≤ z_sm w b - z_sm w a := by
  have m := z_sm_mono (w := w) (show a + 1 ≤ b from h)
  have e : z_sm w (a + 1) = z_sm w a + w a := rfl
  omega
theorem z_prd {a b : Nat} {d e : Nat} (h1 : a ≤ d) (h2 : b ≤ e) : a * b ≤ d * e := Nat.mul_le_mul h1 h2
theorem x_springAt {f : sx_F} {I : Nat} {W L T : Nat → Nat} {w q J l p p' i sw sl : Nat} {Q : Int32 → Prop} (B : z_Bk f I W L T w q) (hI : I ≤ 12) (hw : w ≤ 500) (hW : ∀ j, j < I → W j ≤ 768) (hLW : ∀ j, L j ≤ W j) (hW1 : ∀ j, j < I → 1 ≤ W j) (hl : l < 12) (h64 : f 64 J = nI l) (h63 : f 63 l = nI p) (h63' : f 63 (l + 1) = nI p') (hp : p ≤ J) (hp' : J < p') (hI' : p' ≤ I) (hi : i ≤ 32) (h11 : f 11 i = nI sw) (h12 : f 12 i = nI sl) (hsw : sw ≤ W J) (hsl : sl ≤ sw) (h : Q (nI (z_plc I w W L J p p' (z_sm W J - z_sm W p + sw) (z_sm L J - z_sm L p + sl)))) : P_X3_springAt f (nI J) (nI i) Q := by
  have mW := z_sm_mono (w := W) hp
  have mL := z_sm_mono (w := L) hp
  have mW' := z_sm_mono (w := W) (show p ≤ p' by omega)
  have mL' := z_sm_mono (w := L) (show p ≤ p' by omega)
  have sJ := z_sm_sub hLW (a := p) J hp
  have sP := z_sm_sub hLW (a := p) p' (by omega)
  have bJ := z_sm_lt hW (a := p) J hp (by omega)
  have bP := z_sm_lt hW (a := p) p' (by omega) hI'
  have aP := z_sm_pos (w := W) (show p < p' by omega) (hW1 p (by omega))
  have hWJ := hW J (by omega)
  have bJ' : z_sm W J - z_sm W p ≤ 9216 := Nat.le_trans bJ (z_prd (Nat.le_refl 768) (show J - p ≤ 12 by omega))
  have bP' : z_sm W p' - z_sm W p ≤ 9216 := Nat.le_trans bP (z_prd (Nat.le_refl 768) (show p' - p ≤ 12 by omega))
  unfold P_X3_springAt
  rw [nI_clamp (n := J) (by omega), nI_clamp (n := i) (by omega), h64, h11, h12]
  refine ⟨vp_in_nI (by omega) (by omega), nm_e ⟨vp_in_nI (by omega) (by omega), ?_⟩⟩
  rw [nI_1, nI_clamp (n := l) (by omega), nI_clamp (n := l + 1) (by omega), h63, h63']
  refine nm_e ⟨vp_in_nI (by omega) (by omega), nm_e ⟨vp_in_nI (by omega) (by omega), vp_in_nI (by omega) (by omega), vp_in_nI (by omega) (by omega), ?_⟩⟩
  rw [nI_clamp (n := p) (by omega), (B.2.1 J (by omega)).1, (B.2.1 p (by omega)).1, (B.2.1 J (by omega)).2, (B.2.1 p (by omega)).2, B.2.2.2.1, B.1, pk_sub (a := z_sm W J) (b := z_sm W p) mW, pk_sub (a := z_sm L J) (b := z_sm L p) mL, nI_add, nI_add, pk_sub (a := J) (b := p) hp, show (8 : Int32) * nI (J - p) + 4 = nI (8 * (J - p) + 4) from by rw [z_l8, z_l4, pk_mul, nI_add]]
  refine nm_e ⟨vp_in_nI (by omega) (by omega), vp_in_nI (by omega) (by omega), vp_in_nI (by omega) (by omega), nm_e ?_⟩
  rw [nI_add]
  refine nm_e (x_widthOf B hI (by omega) hI' (nm_e ?_))
  have eW : z_wid W p p' = 8 * (p' - p) + (z_sm W p' - z_sm W p) := rfl
  have eL : z_wid L p p' = 8 * (p' - p) + (z_sm L p' - z_sm L p) := rfl
  unfold z_plc at h
  generalize hah : z_sm W J - z_sm W p + sw = ah at h ⊢
  generalize hal : z_sm L J - z_sm L p + sl = al at h ⊢
  have hlea : al ≤ ah := by omega
  have hah' : ah ≤ 10000 := by omega
  by_cases c : w < z_wid W p p'
  · rw [if_pos c] at h
    rw [pk_sub (by omega)]
    refine pk_le (z_wid W p p' - w) 0 (fun y => absurd y (by omega)) (fun _ => ?_)
    refine x_widthOf B hI (by omega) hI' (x_leastOf B hI (by omega) hI' ?_)
    rw [pk_sub (a := z_wid W p p') (b := z_wid L p p') (by omega), pk_sub (a := ah) (b := al) hlea]
    refine nm_e (pk_le (z_wid W p p' - z_wid L p p') 0 (fun y => ?_) (fun y => ⟨nI_ne0 (by omega) (by omega), ?_⟩))
    · rw [if_neg (by omega)] at h
      rw [Int32.sub_zero]; exact h
    · rw [if_pos (by omega)] at h
      have emin : (if nI (z_wid W p p' - z_wid L p p') < nI (z_wid W p p' - w) then nI (z_wid W p p' - z_wid L p p') else nI (z_wid W p p' - w)) = nI (if z_wid W p p' - z_wid L p p' < z_wid W p p' - w then z_wid W p p' - z_wid L p p' else z_wid W p p' - w) := by
        by_cases d : z_wid W p p' - z_wid L p p' < z_wid W p p' - w
        · rw [if_pos d, if_pos (nI_lt d (by omega))]
        · rw [if_neg d, if_neg (nI_nlt (by omega) (by omega))]
      rw [emin]
      have hm : (if z_wid W p p' - z_wid L p p' < z_wid W p p' - w then z_wid W p p' - z_wid L p p' else z_wid W p p' - w) ≤ z_wid W p p' - z_wid L p p' := by split <;> omega
      generalize (if z_wid W p p' - z_wid L p p' < z_wid W p p' - w then z_wid W p p' - z_wid L p p' else z_wid W p p' - w) = m at h hm ⊢
      have hle : z_wid W p p' - z_wid L p p' ≤ 10000 := by omega
      generalize z_wid W p p' - z_wid L p p' = ab at h hm y hle ⊢
      have hprod : m * (ah - al) ≤ 10000 * 10000 := z_prd (by omega) (by omega)
      have hdiv : m * (ah - al) / ab ≤ ah - al := by
        refine Nat.div_le_of_le_mul ?_
        exact Nat.mul_le_mul hm (Nat.le_refl _)
      rw [pk_mul, pk_div (by omega) (by omega) (by omega), pk_sub (by omega)]
      exact h
  · rw [if_neg c] at h
    rw [z_subneg (by omega)]
    have neg : -nI (w - z_wid W p p') ≤ 0 := by
      rw [Int32.le_iff_toInt_le]
      rw [← z_subneg (show z_wid W p p' ≤ w by omega), pk_sub_toInt (by omega) (by omega)]
      show ((z_wid W p p' : Int) - w) ≤ 0
      omega
    refine ⟨fun _ => pk_eq p' I (fun y => ?_) (fun y => ?_), fun y => absurd neg y⟩
    · rw [if_pos y] at h; exact h
    · rw [if_neg y] at h
      unfold P_X3_stretchedAhead
      rw [Int32.neg_neg, nI_clamp (n := p') (by omega), nI_clamp (n := p) (by omega), (B.2.1 p' hI').1, (B.2.1 p (by omega)).1, pk_sub (a := z_sm W p') (b := z_sm W p) mW']
      refine ⟨vp_in_nI (by omega) (by omega), vp_in_nI (by omega) (by omega), nm_e (pk_le (z_sm W p' - z_sm W p) 0 (fun y => absurd y (by omega)) (fun _ => ⟨nI_ne0 (by omega) (by omega), ?_⟩))⟩
      have hprod : (w - z_wid W p p') * ah ≤ 500 * 10000 := z_prd (by omega) (by omega)
      rw [pk_mul, pk_div (by omega) (by omega) (by omega)]
      show Q (nI (8 * (J - p) + 4 + ah) + nI ((w - z_wid W p p') * ah / (z_sm W p' - z_sm W p)))
      rw [nI_add]
      exact h
