def z_in (dr k : Nat) : Bool := decide (dr = 5 ∨ dr = k)
def z_bn (S : z_S) (dr b p : Nat) : Nat → Nat := z_cnt (fun k => z_in dr k && decide (0 < z_bg S (12 * k + b) (S 1 b) p))
def z_sn (S : z_S) (dr b p : Nat) : Nat → Nat := z_cnt (fun k => z_in dr k && decide (z_bg S (12 * k + b) (S 1 b) p = 2))
def z_pl (S : z_S) (dr b p : Nat) : Bool := decide (0 < z_bn S dr b p 5)
def z_so (S : z_S) (dr b p m : Nat) : Int32 := if z_bn S dr b p m = 0 then -1 else nI (z_sn S dr b p m)
theorem z_sn_le {S : z_S} {dr b p : Nat} (m : Nat) : z_sn S dr b p m ≤ m := z_cnt_le m
theorem z_cnt_s (p : Nat → Bool) (k : Nat) : z_cnt p (k + 1) = z_cnt p k + (if p k then 1 else 0) := rfl
theorem z_so_s {S : z_S} {dr b p m : Nat} (hm : m < 5) : z_so S dr b p (m + 1) = if z_in dr m then z_ap (z_so S dr b p m) (z_bg S (12 * m + b) (S 1 b) p) else z_so S dr b p m := by
  have h2 := z_bg_le (S := S) (s := 12 * m + b) (len := S 1 b) (p := p)
  have hs := z_sn_le (S := S) (dr := dr) (b := b) (p := p) m
  have eb : z_bn S dr b p (m + 1) = z_bn S dr b p m + (if z_in dr m && decide (0 < z_bg S (12 * m + b) (S 1 b) p) then 1 else 0) := rfl
  have es : z_sn S dr b p (m + 1) = z_sn S dr b p m + (if z_in dr m && decide (z_bg S (12 * m + b) (S 1 b) p = 2) then 1 else 0) := rfl
  unfold z_so
  rw [eb, es]
  cases z_in dr m
  · simp
  · generalize z_bg S (12 * m + b) (S 1 b) p = q at h2
    unfold z_ap
    rcases (show q = 0 ∨ q = 1 ∨ q = 2 by omega) with rfl | rfl | rfl
    · simp
    · by_cases c : z_bn S dr b p m = 0
      · have c' : z_sn S dr b p m = 0 := by
          unfold z_bn at c
          unfold z_sn
          rw [z_cnt_0] at c ⊢
          intro j hj
          have := c j hj
          simp only [Bool.and_eq_false_iff, decide_eq_false_iff_not] at this ⊢
          rcases this with z | z
          · exact Or.inl z
          · exact Or.inr (by omega)
        simp [c, c', nI_0]
      · simp [c, z_nm (show z_sn S dr b p m < 2 ^ 31 by omega)]
    · by_cases c : z_bn S dr b p m = 0
      · have c' : z_sn S dr b p m = 0 := by
          unfold z_bn at c
          unfold z_sn
          rw [z_cnt_0] at c ⊢
          intro j hj
          have := c j hj
          simp only [Bool.and_eq_false_iff, decide_eq_false_iff_not] at this ⊢
          rcases this with z | z
          · exact Or.inl z
          · exact Or.inr (by omega)
        simp [c, c']; rfl
      · simp [c, z_nm (show z_sn S dr b p m < 2 ^ 31 by omega), nI_succ]
def z_nx (p : Nat → Bool) : Nat → Nat → Nat | 0, a => a | d + 1, a => if p a then a else z_nx p d (a + 1)
def z_hv : Nat → Nat → Nat | 0, _ => 0 | d + 1, l => if l ≤ 1 then 0 else z_hv d (l / 2) + 1
theorem z_nx_le {p : Nat → Bool} : ∀ d a, a ≤ z_nx p d a ∧ z_nx p d a ≤ a + d
  | 0, a => ⟨Nat.le_refl _, Nat.le_refl _⟩
  | d + 1, a => by
    have := z_nx_le (p := p) d (a + 1)
    show a ≤ (if p a then a else z_nx p d (a + 1)) ∧ (if p a then a else z_nx p d (a + 1)) ≤ a + (d + 1)
    split <;> omega
theorem z_hv_le : ∀ d l, z_hv d l ≤ d
  | 0, _ => Nat.le_refl _
  | d + 1, l => by
    have := z_hv_le d (l / 2)
    show (if l ≤ 1 then 0 else z_hv d (l / 2) + 1) ≤ d + 1
    split <;> omega
theorem x_nextPlace {f : sx_F} {p len : Nat} {P : Nat → Bool} {Q : Int32 → Prop} (hl : len ≤ 32) (hp : p < len) (hs : ∀ q, q < len → (f 13 q = -1 ↔ P q = false)) (h : Q (nI (z_nx P (len - (p + 1)) (p + 1)))) : P_X5_nextPlace f (nI p) (nI len) Q := by
  intro B4 h4
  refine nm_e ?_
  rw [nI_1]
  have key : ∀ d a, a + d = len → Q (nI (z_nx P d a)) → B4 (nI a) := by
    intro d
    induction d with
    | zero =>
      intro a ha hq
      refine h4 _ (pk_le len a (fun _ => ?_) (fun c => absurd c (by omega)))
      rw [show len = a by omega]; exact hq
    | succ d ih =>
      intro a ha hq
      refine h4 _ (pk_le len a (fun c => absurd c (by omega)) (fun c => ⟨vp_in_nI (by omega) (by omega), ?_⟩))
      rw [nI_clamp (by omega)]
      have e : z_nx P (d + 1) a = if P a then a else z_nx P d (a + 1) := rfl
      rw [e] at hq
      cases hP : P a
      · rw [hP] at hq
        refine ⟨fun _ => nm_e ?_, fun z => absurd ((hs a c).mpr hP) z⟩
        rw [nI_1]; exact ih (a + 1) (by omega) hq
      · rw [hP] at hq
        refine ⟨fun z => ?_, fun _ => hq⟩
        have := (hs a c).mp z
        rw [hP] at this; exact absurd this (by decide)
  exact key (len - (p + 1)) (p + 1) (by omega) h
theorem x_naturalWidth {f : sx_F} {l : Nat} {Q : Int32 → Prop} (hl : l < 2 ^ 6) (h : Q (nI (6 + 3 * z_hv 6 l))) : P_X5_naturalWidth f (nI l) Q := by
  intro B5 h5
  have key : ∀ d l a, l < 2 ^ d → d ≤ 6 → Q (nI (a + 3 * z_hv d l)) → B5 (nI a) (nI l) := by
    intro d
    induction d with
    | zero =>
      intro l a hl _ hq
      exact h5 _ _ (pk_le l 1 (fun _ => hq) (fun c => absurd c (by omega)))
    | succ d ih =>
      intro l a hl hd hq
      have hl' : l < 2 ^ d * 2 := by rw [← Nat.pow_succ]; exact hl
      have h2 : 2 ^ d ≤ 2 ^ 6 := Nat.pow_le_pow_right (by decide) (by omega)
      refine h5 _ _ (pk_le l 1 (fun c => ?_) (fun c => nm_e (nm_e ?_)))
      · rw [show z_hv (d + 1) l = 0 from if_pos c] at hq; exact hq
      · rw [show z_hv (d + 1) l = z_hv d (l / 2) + 1 from if_neg (by omega), show a + 3 * (z_hv d (l / 2) + 1) = (a + 3) + 3 * z_hv d (l / 2) by omega] at hq
        have e : nI l / 2 = nI (l / 2) := pk_div (a := l) (d := 2) (by omega) (by omega) (by omega)
        rw [e]
        rw [show nI a + 3 = nI (a + 3) from nI_add a 3]
        exact ih (l / 2) (a + 3) (by omega) (by omega) hq
  exact key 6 l 6 hl (by omega) h
theorem z_cnt_mono {p : Nat → Bool} {a b : Nat} (h : a ≤ b) : z_cnt p a ≤ z_cnt p b := by
  induction b with
  | zero => rw [show a = 0 by omega]; exact Nat.le_refl _
  | succ b ih =>
    by_cases e : a = b + 1
    · rw [e]; exact Nat.le_refl _
    · rw [z_cnt_s]; exact Nat.le_trans (ih (by omega)) (Nat.le_add_right _ _)
theorem z_cnt_lt {p : Nat → Bool} {a b : Nat} (h : a < b) (hp : p a = true) : z_cnt p a < z_cnt p b := by
  have := z_cnt_mono (p := p) (show a + 1 ≤ b from h)
  rw [z_cnt_s, hp] at this
  exact this
def z_le (S : z_S) (dr b p : Nat) : Nat := 4 + z_sn S dr b p 5
def z_wd (S : z_S) (dr b p : Nat) : Nat := if 6 + 3 * z_hv 6 (z_nx (z_pl S dr b) (S 1 b - (p + 1)) (p + 1) - p) < z_le S dr b p then z_le S dr b p else 6 + 3 * z_hv 6 (z_nx (z_pl S dr b) (S 1 b - (p + 1)) (p + 1) - p)
def z_ws (S : z_S) (dr b : Nat) : Nat → Nat := z_sm (fun p => if z_pl S dr b p then z_wd S dr b p else 0)
def z_ls (S : z_S) (dr b : Nat) : Nat → Nat := z_sm (fun p => if z_pl S dr b p then z_le S dr b p else 0)
def z_pc (S : z_S) (dr b : Nat) : Nat → Nat := z_cnt (z_pl S dr b)
/-- the springs of a bar up to a sixteenth, as they stand in the class's rows -/
def z_sp (f : sx_F) (S : z_S) (dr b e : Nat) : Prop := f 9 0 = nI (z_pc S dr b e) ∧ (∀ q, q < e → z_pl S dr b q = true → f 10 (z_pc S dr b q) = nI q) ∧ ∀ q, q ≤ e → f 11 (z_pc S dr b q) = nI (z_ws S dr b q) ∧ f 12 (z_pc S dr b q) = nI (z_ls S dr b q)
theorem x_addSpring {f : sx_F} {c : Nat} {x1 x2 x3 : Int32} {Q : sx_F → Prop} (h0 : f 9 0 = nI c) (hc : c < 32) (h : ∀ f' : sx_F, (∀ k, k ≠ 9 → k ≠ 10 → k ≠ 11 → k ≠ 12 → f' k = f k) → f' 9 0 = nI (c + 1) → f' 10 = upd (f 10) c x1 → f' 11 = upd (f 11) (c + 1) (f 11 c + x2) → f' 12 = upd (f 12) (c + 1) (f 12 c + x3) → Q f') : P_X5_addSpring f x1 x2 x3 Q := by
  unfold P_X5_addSpring
  rw [h0, nI_clamp (by omega)]
  refine ⟨vp_in_nI (by omega) (by omega), nm_e ?_⟩
  simp (disch := decide) only [sx_u_n]
  rw [h0, nI_1, nI_clamp (by omega), nI_clamp (by omega)]
  refine ⟨vp_in_nI (by omega) (by omega), vp_in_nI (by omega) (by omega), nm_e ?_⟩
  simp (disch := decide) only [sx_u_n]
  rw [h0, nI_1, nI_clamp (by omega), nI_clamp (by omega)]
  refine ⟨vp_in_nI (by omega) (by omega), vp_in_nI (by omega) (by omega), nm_e (nm_e ?_)⟩
  simp (disch := decide) only [sx_u_n]
  rw [h0, nI_1]
  refine h _ (fun k h9 h10 h11 h12 => by rw [sx_u_n h9, sx_u_n h12, sx_u_n h11, sx_u_n h10]) (by rw [sx_u_s, pk_us]) ?_ ?_ ?_
  · simp (disch := decide) only [sx_u_n, sx_u_s]
  · simp (disch := decide) only [sx_u_n, sx_u_s]
  · simp (disch := decide) only [sx_u_n, sx_u_s]
theorem z_sn_5 {S : z_S} {dr b p : Nat} : z_sn S dr b p 5 ≤ 5 := z_cnt_le 5
theorem x_addSprings {f : sx_F} {S : z_S} {dr b : Nat} {Q : sx_F → Prop} (hl : S 1 b ≤ 32) (h13 : ∀ q, q < S 1 b → f 13 q = z_so S dr b q 5) (h0 : z_sp f S dr b 0) (h : ∀ f' : sx_F, (∀ k, k ≠ 9 → k ≠ 10 → k ≠ 11 → k ≠ 12 → f' k = f k) → z_sp f' S dr b (S 1 b) → Q f') : P_X5_addSprings f (nI (S 1 b)) Q := by
  have so : ∀ q, z_so S dr b q 5 = -1 ↔ z_pl S dr b q = false := fun q => by
    unfold z_so z_pl
    have := z_sn_5 (S := S) (dr := dr) (b := b) (p := q)
    by_cases c : z_bn S dr b q 5 = 0
    · rw [if_pos c, decide_eq_false (by omega)]; exact ⟨fun _ => rfl, fun _ => rfl⟩
    · rw [if_neg c, decide_eq_true (by omega)]; exact ⟨fun z => absurd z (z_nm (by omega)), fun z => absurd z (by decide)⟩
  intro B2 B51 h2 h51
  have key : ∀ f' : sx_F, (∀ k, k ≠ 9 → k ≠ 10 → k ≠ 11 → k ≠ 12 → f' k = f k) → z_sp f' S dr b 0 → B2 f' (nI 0) := by
    refine z_up (B := fun p => ∀ f' : sx_F, (∀ k, k ≠ 9 → k ≠ 10 → k ≠ 11 → k ≠ 12 → f' k = f k) → z_sp f' S dr b p → B2 f' (nI p)) (S 1 b) (fun p hp ih => ?_)
    intro f' f1 f2
    refine h2 _ _ (pk_le (S 1 b) p (fun c => ?_) (fun c => ?_))
    · rw [show p = S 1 b by omega] at f2; exact h f' f1 f2
    have hcp : z_pc S dr b p ≤ p := z_cnt_le p
    rw [nI_clamp (n := p) (by omega), f1 13 (by decide) (by decide) (by decide) (by decide), h13 p c]
    have epc : z_pc S dr b (p + 1) = z_pc S dr b p + (if z_pl S dr b p then 1 else 0) := rfl
    have ews : z_ws S dr b (p + 1) = z_ws S dr b p + (if z_pl S dr b p then z_wd S dr b p else 0) := rfl
    have els : z_ls S dr b (p + 1) = z_ls S dr b p + (if z_pl S dr b p then z_le S dr b p else 0) := rfl
    refine ⟨vp_in_nI (by omega) (by omega), fun z => ?_, fun z => ⟨vp_in_nI (by omega) (by omega), nm_e ?_⟩⟩
    · have e := (so p).mp z
      rw [e] at epc ews els
      refine h51 _ _ (nm_e ?_)
      rw [nI_1]
      refine ih c f' f1 ⟨by rw [epc]; exact f2.1, fun q hq hq2 => ?_, fun q hq => ?_⟩
      · by_cases eq : q = p
        · rw [eq, e] at hq2; exact absurd hq2 (by decide)
        · exact f2.2.1 q (by omega) hq2
      · by_cases eq : q = p + 1
        · rw [eq, epc, ews, els]; exact f2.2.2 p (Nat.le_refl _)
        · exact f2.2.2 q (by omega)
    · have e : z_pl S dr b p = true := by
        cases y : z_pl S dr b p
        · exact absurd ((so p).mpr y) z
        · rfl
      have sne : z_so S dr b p 5 = nI (z_sn S dr b p 5) := by
        unfold z_so at z ⊢
        split
        · rename_i y; rw [if_pos y] at z; exact absurd rfl z
        · rfl
      rw [e] at epc ews els
      rw [sne, show (4 : Int32) + nI (z_sn S dr b p 5) = nI (z_le S dr b p) from nI_add 4 _]
      have hnx := z_nx_le (p := z_pl S dr b) (S 1 b - (p + 1)) (p + 1)
      refine x_nextPlace (P := z_pl S dr b) hl c (fun q hq => by rw [f1 13 (by decide) (by decide) (by decide) (by decide), h13 q hq]; exact so q) ?_
      rw [pk_sub (by omega)]
      refine x_naturalWidth (by omega) ?_
      have hhv := z_hv_le 6 (z_nx (z_pl S dr b) (S 1 b - (p + 1)) (p + 1) - p)
      have h5 := z_sn_5 (S := S) (dr := dr) (b := b) (p := p)
      have ewd : (if nI (6 + 3 * z_hv 6 (z_nx (z_pl S dr b) (S 1 b - (p + 1)) (p + 1) - p)) < nI (z_le S dr b p) then nI (z_le S dr b p) else nI (6 + 3 * z_hv 6 (z_nx (z_pl S dr b) (S 1 b - (p + 1)) (p + 1) - p))) = nI (z_wd S dr b p) := by
        unfold z_wd
        by_cases y : 6 + 3 * z_hv 6 (z_nx (z_pl S dr b) (S 1 b - (p + 1)) (p + 1) - p) < z_le S dr b p
        · rw [if_pos y, if_pos (nI_lt y (by unfold z_le; omega))]
        · rw [if_neg y, if_neg (nI_nlt (by omega) (by omega))]
      rw [ewd]
      refine x_addSpring f2.1 (by omega) (fun f3 g1 g2 g3 g4 g5 => h51 _ _ (nm_e ?_))
      rw [nI_1]
      refine ih c f3 (fun k a1 a2 a3 a4 => by rw [g1 k a1 a2 a3 a4]; exact f1 k a1 a2 a3 a4) ⟨by rw [epc]; exact g2, fun q hq hq2 => ?_, fun q hq => ?_⟩
      · rw [g3]
        by_cases eq : q = p
        · rw [eq, pk_us]
        · have := z_cnt_lt (p := z_pl S dr b) (show q < p by omega) hq2
          rw [pk_un (by show z_cnt (z_pl S dr b) q ≠ z_cnt (z_pl S dr b) p; omega)]
          exact f2.2.1 q (by omega) hq2
      · rw [g4, g5]
        by_cases eq : q = p + 1
        · rw [eq, epc, ews, els]
          simp only [if_true]
          rw [pk_us, pk_us, (f2.2.2 p (Nat.le_refl _)).1, (f2.2.2 p (Nat.le_refl _)).2, nI_add, nI_add]
          exact ⟨rfl, rfl⟩
        · have := z_cnt_mono (p := z_pl S dr b) (show q ≤ p by omega)
          have ne : z_pc S dr b q ≠ z_pc S dr b p + 1 := by show z_cnt (z_pl S dr b) q ≠ z_cnt (z_pl S dr b) p + 1; omega
          rw [pk_un ne, pk_un ne]
          exact f2.2.2 q (by omega)
  exact key f (fun _ _ _ _ _ => rfl) h0
theorem x_fill {f : sx_F} {k0 N : Nat} {v : Int32} {Q : sx_F → Prop} (hN : N < 1000) (h : ∀ f' : sx_F, (∀ k, k ≠ k0 → f' k = f k) → (∀ x, x < N → f' k0 x = v) → Q f') : P_J7_fill_53178 f k0 N v Q := by
  intro B5 h5
  refine nm_e ?_
  have key : ∀ f' : sx_F, (∀ k, k ≠ k0 → f' k = f k) → (∀ x, x < 0 → f' k0 x = v) → B5 f' (nI 0) (nI N) := by
    refine z_up (B := fun i => ∀ f' : sx_F, (∀ k, k ≠ k0 → f' k = f k) → (∀ x, x < i → f' k0 x = v) → B5 f' (nI i) (nI N)) N (fun i hi ih => ?_)
    intro f' f1 f2
    refine h5 _ _ _ (pk_le N i (fun c => h f' f1 (fun x hx => f2 x (by omega))) (fun c => ⟨vp_in_nI (by omega) (by omega), nm_e (nm_e ?_)⟩))
    rw [nI_1, nI_clamp (by omega)]
    refine ih c _ (fun k hk => by rw [sx_u_n hk]; exact f1 k hk) (fun x hx => ?_)
    rw [sx_u_s]
    by_cases e : x = i
    · rw [e, pk_us]
    · rw [pk_un e]; exact f2 x (by omega)
  exact key f (fun _ _ => rfl) (fun x hx => absurd hx (by omega))
/-- what a drawing leaves: a bar of a drawer, or a rest -/
def z_dn (f : sx_F) (S : z_S) (dr b : Nat) : Prop := f 11 0 = 0 ∧ f 12 0 = 0 ∧ ((dr = 6 ∧ f 9 0 = 1 ∧ f 10 0 = 0 ∧ f 11 1 = 24 ∧ f 12 1 = 16) ∨ (dr ≠ 6 ∧ z_sp f S dr b (S 1 b)))
theorem x_draw {f : sx_F} {S : z_S} {dr b : Nat} {Q : sx_F → Prop} (Z : z_X f S) (W : z_W S) (hd : dr ≤ 6) (hb : b < S 0 0) (h11 : f 11 0 = 0) (h12 : f 12 0 = 0) (h : ∀ f' : sx_F, (∀ k, k ≠ 9 → k ≠ 10 → k ≠ 11 → k ≠ 12 → k ≠ 13 → f' k = f k) → z_dn f' S dr b → Q f') : P_X5_draw f (z_dr dr) (nI b) Q := by
  have hn := W.1
  have hlen := W.2.1 b hb
  intro B31 B48 B65 h31 h48 h65
  refine nm_e ?_
  by_cases e6 : dr = 6
  · rw [e6]
    refine ⟨fun _ => ?_, fun c => absurd rfl c⟩
    refine x_addSpring (c := 0) (by rw [sx_u_s, pk_us]; rfl) (by omega) (fun f' g1 g2 g3 g4 g5 => h f' (fun k h9 h10 h11 h12 h13 => by rw [g1 k h9 h10 h11 h12, sx_u_n h9]) ?_)
    refine ⟨?_, ?_, Or.inl ⟨e6, g2, ?_, ?_, ?_⟩⟩
    · rw [g4, pk_un (by decide), sx_u_n (by decide)]; exact h11
    · rw [g5, pk_un (by decide), sx_u_n (by decide)]; exact h12
    · rw [g3, pk_us]
    · rw [g4, pk_us, sx_u_n (by decide), h11]; rfl
    · rw [g5, pk_us, sx_u_n (by decide), h12]; rfl
  · have ed : z_dr dr = nI dr := z_drn e6
    rw [ed] at h31 ⊢
    refine ⟨fun c => absurd c (z_nm (by omega)), fun _ => x_fill (by omega) (fun f0 a1 a2 => ?_)⟩
    have key : ∀ f' : sx_F, (∀ k, k ≠ 9 → k ≠ 13 → f' k = f k) → f' 9 0 = 0 → (∀ q, q < S 1 b → f' 13 q = z_so S dr b q 0) → B31 f' (nI 0) := by
      refine z_up (B := fun i => ∀ f' : sx_F, (∀ k, k ≠ 9 → k ≠ 13 → f' k = f k) → f' 9 0 = 0 → (∀ q, q < S 1 b → f' 13 q = z_so S dr b q i) → B31 f' (nI i)) 5 (fun i hi ih => ?_)
      intro f' f1 f2 f3
      have Z' : z_X f' S := z_Xc Z (f1 1 (by decide) (by decide)) (f1 2 (by decide) (by decide)) (f1 5 (by decide) (by decide)) (f1 6 (by decide) (by decide)) (f1 7 (by decide) (by decide))
      refine h31 _ _ (pk_le 5 i (fun c => ⟨vp_in_nI (by omega) (by omega), ?_⟩) (fun c => ?_))
      · rw [nI_clamp (by omega), Z'.2.1 b (by omega)]
        have e5 : i = 5 := by omega
        subst e5
        refine x_addSprings (dr := dr) hlen.2 f3 ⟨f2, fun q hq => absurd hq (by omega), fun q hq => ?_⟩ (fun f4 g1 g2 => h f4 (fun k h9 h10 h11 h12 h13 => by rw [g1 k h9 h10 h11 h12]; exact f1 k h9 h13) ?_)
        · rw [show q = 0 by omega]
          exact ⟨by rw [show z_pc S dr b 0 = 0 from rfl, f1 11 (by decide) (by decide), h11]; rfl, by rw [show z_pc S dr b 0 = 0 from rfl, f1 12 (by decide) (by decide), h12]; rfl⟩
        · exact ⟨(g2.2.2 0 (by omega)).1, (g2.2.2 0 (by omega)).2, Or.inr ⟨e6, g2⟩⟩
      · have go : z_in dr i = true → B48 f' (nI i) := fun z => h48 _ _ (x_slotOf ⟨vp_in_nI (by omega) (by omega), by
          rw [nI_clamp (by omega), Z'.2.1 b (by omega)]
          refine x_addPlaces Z' W (by omega) hlen.2 (W.2.2.2.2.2.1 i b c hb) (fun f4 g1 g2 => h65 _ _ (nm_e ?_))
          rw [nI_1]
          refine ih c f4 (fun k h9 h13 => by rw [g1 k h13]; exact f1 k h9 h13) (by rw [g1 9 (by decide)]; exact f2) (fun q hq => ?_)
          rw [g2 q hq, f3 q hq, z_so_s c, z, if_pos rfl]⟩)
        have pass : z_in dr i = false → B65 f' (nI i) := fun z => h65 _ _ (nm_e (by
          rw [nI_1]
          refine ih c f' f1 f2 (fun q hq => ?_)
          rw [f3 q hq, z_so_s c, z]; rfl))
        refine pk_eq dr 5 (fun c5 => go (decide_eq_true (Or.inl c5))) (fun c5 => pk_eq dr i (fun ci => go (decide_eq_true (Or.inr ci))) (fun ci => pass (decide_eq_false (fun y => y.elim c5 ci))))
    exact key f0 (fun k h9 h13 => by rw [a1 k h13, sx_u_n h9]) (by rw [a1 9 (by decide), sx_u_s, pk_us]) (fun q hq => by rw [a2 q (by omega)]; rfl)
