/-! THE LAW'S NUMBERS: arrays 0 notes (long), 1 counts, 2 versions, 3 lengths, 4 copies, 5 marks (long), 6 bowings (long), 7 sizes, 8 items -/
def y_N (a : sx_F) (o : sl_O) (S : z_S) : Prop := S 0 0 ≤ 6 ∧ a 7 0 = nI (S 0 0) ∧ (∀ b, b < S 0 0 → a 3 b = nI (S 1 b) ∧ S 1 b ≤ 16) ∧ ∀ i b, i < 5 → b < 6 → a 1 (6 * i + b) = nI (S 2 (12 * i + b)) ∧ ∀ k, k < S 2 (12 * i + b) → y_bt (o 0 (6 * i + b)) (8 * k) 5 = S 3 (8 * (12 * i + b) + k) ∧ y_bt (o 0 (6 * i + b)) (8 * k + 5) 3 = S 4 (8 * (12 * i + b) + k)
theorem y_cell (i b : Nat) : 6 * nI i + nI b = nI (6 * i + b) := by rw [z_l6, pk_mul, nI_add]
theorem y_8 (k : Nat) : 8 * nI k = nI (8 * k) := by rw [z_l8, pk_mul]
theorem z_l10 : (10 : Int32) = nI 10 := rfl
theorem z_l24 : (24 : Int32) = nI 24 := rfl
theorem z_l100 : (100 : Int32) = nI 100 := rfl
theorem l_length {f a : sx_F} {o : sl_O} {S : z_S} (Y : y_N a o S) (W : z_W S) {i b k : Nat} (hi : i < 5) (hb : b < 6) (hk : k < S 2 (12 * i + b)) {Q : Int32 → Prop} (h : Q (nI (S 3 (8 * (12 * i + b) + k)))) : P_L_length f a o (nI (6 * i + b)) (nI k) Q := by
  have hc := W.2.2.1 (12 * i + b) (by omega)
  refine ⟨vp_in_nI (by omega) (by omega), ?_⟩
  rw [nI_clamp (by omega), y_8, y_get (m := 5) (by omega) (by omega) (by decide), ((Y.2.2.2 i b hi hb).2 k hk).1]
  exact h
theorem l_pitch {f a : sx_F} {o : sl_O} {S : z_S} (Y : y_N a o S) (W : z_W S) {i b k : Nat} (hi : i < 5) (hb : b < 6) (hk : k < S 2 (12 * i + b)) {Q : Int32 → Prop} (h : Q (nI (S 4 (8 * (12 * i + b) + k)))) : P_L_pitch f a o (nI (6 * i + b)) (nI k) Q := by
  have hc := W.2.2.1 (12 * i + b) (by omega)
  refine ⟨vp_in_nI (by omega) (by omega), ?_⟩
  rw [nI_clamp (by omega), y_8, show nI (8 * k) + 5 = nI (8 * k + 5) from nI_add _ 5, y_get (m := 3) (by omega) (by omega) (by decide), ((Y.2.2.2 i b hi hb).2 k hk).2]
  exact h
theorem l_isSilent {f a : sx_F} {o : sl_O} {S : z_S} (Y : y_N a o S) (W : z_W S) {i b : Nat} (hi : i < 5) (hb : b < 6) {Q : Int32 → Prop} (h : Q (z_b (z_sil S (12 * i + b)))) : P_L_isSilent f a o (nI i) (nI b) Q := by
  intro B6 B43 B44 h6 h43 h44
  rw [y_cell] at h6
  have hc := W.2.2.1 (12 * i + b) (by omega)
  have hcnt := (Y.2.2.2 i b hi hb).1
  have key : B6 (z_b (z_sk S (12 * i + b) 0)) (nI 0) := by
    refine z_up (B := fun k => B6 (z_b (z_sk S (12 * i + b) k)) (nI k)) (S 2 (12 * i + b)) (fun k hk ih => h6 _ _ ⟨vp_in_nI (by omega) (by omega), ?_⟩)
    rw [nI_clamp (by omega), hcnt]
    refine pk_le (S 2 (12 * i + b)) k (fun c => ?_) (fun c => ?_)
    · have e : k = S 2 (12 * i + b) := by omega
      rw [e]
      exact ⟨z_b_cases _, h⟩
    · have i2 : B6 (z_b (z_sk S (12 * i + b) (k + 1))) (nI (k + 1)) := ih c
      unfold z_sk at i2 ⊢
      refine ⟨fun c1 => h43 _ (h44 _ _ (nm_e ?_)), fun c1 => ?_⟩
      · have d1 : ¬ ∀ j, j < k → S 4 (8 * (12 * i + b) + j) = 0 := fun z => by
          rw [decide_eq_true z] at c1
          exact absurd c1 (by decide)
        rw [decide_eq_false (fun z => d1 (fun j hj => z j (by omega)))] at i2
        rw [nI_1]
        exact i2
      · have d1 : ∀ j, j < k → S 4 (8 * (12 * i + b) + j) = 0 := by
          refine Decidable.byContradiction (fun z => ?_)
          rw [decide_eq_false z] at c1
          exact absurd rfl c1
        have hp := (W.2.2.2.1 (8 * (12 * i + b) + k) (by omega)).2
        refine l_pitch Y W hi hb c (pk_eq (S 4 (8 * (12 * i + b) + k)) 0 (fun c2 => h44 _ _ (nm_e ?_)) (fun c2 => h43 _ (h44 _ _ (nm_e ?_))))
        · rw [decide_eq_true (fun j hj => by
            by_cases e : j = k
            · rw [e]; exact c2
            · exact d1 j (by omega))] at i2
          rw [nI_1]
          exact i2
        · rw [decide_eq_false (fun z => c2 (z k (by omega)))] at i2
          rw [nI_1]
          exact i2
  rw [show z_sk S (12 * i + b) 0 = true from decide_eq_true (fun j hj => absurd hj (by omega))] at key
  exact key
theorem l_begins {f a : sx_F} {o : sl_O} {S : z_S} (Y : y_N a o S) (W : z_W S) {i b p : Nat} (hi : i < 5) (hb : b < S 0 0) (hp : p ≤ 32) {Q : Int32 → Prop} (h : Q (nI (z_bg S (12 * i + b) (S 1 b) p))) : P_L_begins f a o (nI i) (nI b) (nI p) Q := by
  intro B18 B55 h18 h55
  have hb6 : b < 6 := Nat.lt_of_lt_of_le hb Y.1
  rw [y_cell]
  refine nm_e ?_
  have hs : 12 * i + b < 60 := by omega
  have hc := W.2.2.1 (12 * i + b) hs
  have hcnt := (Y.2.2.2 i b hi hb6).1
  have hfl := W.2.2.2.2.2.1 i b hi hb
  have hln := (W.2.1 b hb).2
  have key : B18 (nI (6 * i + b)) (nI (z_fl S (12 * i + b) 0)) (nI (z_bgk S (12 * i + b) p 0)) (nI 0) := by
    refine z_up (B := fun k => B18 (nI (6 * i + b)) (nI (z_fl S (12 * i + b) k)) (nI (z_bgk S (12 * i + b) p k)) (nI k)) (S 2 (12 * i + b)) (fun k hk ih => h18 _ _ _ _ ⟨vp_in_nI (by omega) (by omega), ?_⟩)
    rw [nI_clamp (by omega), hcnt]
    have hle := z_fl_le (S := S) (12 * i + b) hk
    refine pk_le (S 2 (12 * i + b)) k (fun c => ?_) (fun c => ?_)
    · have e : k = S 2 (12 * i + b) := by omega
      rw [e]
      unfold z_bg at h
      refine pk_eq _ p (fun e1 => ⟨vp_in_nI (by omega) (by omega), ?_⟩) (fun e1 => ?_)
      · have z0 : z_bgk S (12 * i + b) p (S 2 (12 * i + b)) = 0 := z_bgk_0 _ (fun j hj => by have := z_fl_lt W hs hj (Nat.le_refl _); omega)
        rw [nI_clamp (by omega), (Y.2.2.1 b hb).1]
        rw [if_pos z0] at h
        refine pk_le (S 1 b) _ (fun c1 => ?_) (fun c1 => ?_)
        · rw [if_neg (by omega)] at h
          rw [z0]; exact h
        · rw [if_pos (by omega)] at h
          exact h
      · rw [if_neg (show ¬ (z_fl S (12 * i + b) (S 2 (12 * i + b)) = p ∧ p < S 1 b) from fun z => e1 z.1)] at h
        by_cases z0 : z_bgk S (12 * i + b) p (S 2 (12 * i + b)) = 0
        · rw [if_pos z0] at h
          rw [z0]; exact h
        · rw [if_neg z0] at h
          exact h
    · have st : ∀ v : Nat, v = z_bgk S (12 * i + b) p (k + 1) → B55 (nI (6 * i + b)) (nI (z_fl S (12 * i + b) k)) (nI k) (nI v) := by
        intro v hv
        subst hv
        refine h55 _ _ _ _ (l_length Y W hi hb6 c (nm_e (nm_e ?_)))
        rw [nI_add, nI_1]
        exact ih c
      have e0 : z_bgk S (12 * i + b) p (k + 1) = if z_fl S (12 * i + b) k = p then (if S 4 (8 * (12 * i + b) + k) = 0 then 1 else 2) else z_bgk S (12 * i + b) p k := rfl
      have hpp := (W.2.2.2.1 (8 * (12 * i + b) + k) (by omega)).2
      refine pk_eq _ p (fun e1 => l_pitch Y W hi hb6 c (pk_le (S 4 (8 * (12 * i + b) + k)) 0 (fun c2 => st 1 ?_) (fun c2 => st 2 ?_))) (fun e1 => st _ ?_)
      · rw [e0, if_pos e1, if_pos (by omega)]
      · rw [e0, if_pos e1, if_neg (by omega)]
      · rw [e0, if_neg e1]
  exact key
def y_an (S : z_S) (dr b p m : Nat) : Nat := if p = 0 ∨ 0 < z_bn S dr b p m then 10 else 0
theorem y_ite {p q : Bool} (h : p = true → q = true) : (if p = true then 1 else 0 : Nat) ≤ (if q = true then 1 else 0) := by
  cases p
  · exact Nat.zero_le _
  · rw [h rfl]; exact Nat.le_refl _
theorem z_sn_bn {S : z_S} {dr b p : Nat} : ∀ m, z_sn S dr b p m ≤ z_bn S dr b p m
  | 0 => Nat.le_refl _
  | m + 1 => by
    have ih := z_sn_bn (S := S) (dr := dr) (b := b) (p := p) m
    show z_cnt _ m + _ ≤ z_cnt _ m + _
    refine Nat.add_le_add ih (y_ite (fun h => ?_))
    obtain ⟨h1, h2⟩ := (Bool.and_eq_true _ _).mp h
    have h3 := of_decide_eq_true h2
    exact (Bool.and_eq_true _ _).mpr ⟨h1, decide_eq_true (by omega)⟩
theorem l_begun {f a : sx_F} {o : sl_O} {S : z_S} (Y : y_N a o S) (W : z_W S) {dr b p : Nat} (hd : dr ≤ 5) (hb : b < S 0 0) (hp : p ≤ 32) {Q : Int32 → Prop} (h : Q (nI (y_an S dr b p 5 + z_sn S dr b p 5))) : P_L_begun f a o (nI dr) (nI b) (nI p) Q := by
  intro B11 B19 B36 B52 B66 B81 h11 h19 h36 h52 h66 h81
  have key : B19 (nI (y_an S dr b p 0)) (nI (z_sn S dr b p 0)) (nI 0) := by
    refine z_up (B := fun m => B19 (nI (y_an S dr b p m)) (nI (z_sn S dr b p m)) (nI m)) 5 (fun m hm ih => h19 _ _ _ (pk_le 5 m (fun c => ?_) (fun c => ?_)))
    · rw [show m = 5 by omega, nI_add]; exact h
    · have hsn := z_sn_le (S := S) (dr := dr) (b := b) (p := p) m
      have st : ∀ r : Nat, r ≤ 2 → y_an S dr b p (m + 1) = (if r = 0 then y_an S dr b p m else 10) → z_sn S dr b p (m + 1) = z_sn S dr b p m + (if r = 2 then 1 else 0) → B52 (nI (y_an S dr b p m)) (nI (z_sn S dr b p m)) (nI m) (nI r) := by
        intro r hr e1 e2
        have i2 := ih c
        rw [e1, e2] at i2
        have st2 : ∀ v : Nat, v = (if r = 0 then y_an S dr b p m else 10) → B66 (nI (z_sn S dr b p m)) (nI m) (nI r) (nI v) := by
          intro v hv
          rw [← hv] at i2
          refine h66 _ _ _ _ (pk_eq r 2 (fun c2 => h81 _ _ _ _ (nm_e (nm_e ?_))) (fun c2 => h81 _ _ _ _ (nm_e (nm_e ?_))))
          · rw [if_pos c2] at i2
            rw [nI_1, nI_1]; exact i2
          · rw [if_neg c2] at i2
            rw [Int32.add_zero, nI_1]; exact i2
        refine h52 _ _ _ _ (pk_le r 0 (fun c2 => st2 _ ?_) (fun c2 => st2 10 ?_))
        · rw [if_pos (by omega)]
        · rw [if_neg (by omega)]
      have hb2 : ∀ q : Bool, z_bn S dr b p (m + 1) = z_bn S dr b p m + (if (z_in dr m && decide (0 < z_bg S (12 * m + b) (S 1 b) p)) = true then 1 else 0) := fun _ => rfl
      have hs2 : z_sn S dr b p (m + 1) = z_sn S dr b p m + (if (z_in dr m && decide (z_bg S (12 * m + b) (S 1 b) p = 2)) = true then 1 else 0) := rfl
      have yes : z_in dr m = true → B36 (nI (y_an S dr b p m)) (nI (z_sn S dr b p m)) (nI m) := by
        intro z
        rw [z, Bool.true_and] at hs2
        have hb3 := hb2 true
        rw [z, Bool.true_and] at hb3
        refine h36 _ _ _ (l_begins Y W c hb hp (st _ z_bg_le ?_ ?_))
        · unfold y_an
          rw [hb3]
          by_cases c0 : z_bg S (12 * m + b) (S 1 b) p = 0
          · rw [if_pos c0, decide_eq_false (show ¬ 0 < z_bg S (12 * m + b) (S 1 b) p by omega)]
            rfl
          · rw [if_neg c0, decide_eq_true (show 0 < z_bg S (12 * m + b) (S 1 b) p by omega), if_pos (Or.inr (by rw [if_pos rfl]; omega))]
        · rw [hs2]
          by_cases c0 : z_bg S (12 * m + b) (S 1 b) p = 2
          · rw [if_pos c0, decide_eq_true c0]; rfl
          · rw [if_neg c0, decide_eq_false c0]; rfl
      refine pk_eq dr 5 (fun c1 => yes (decide_eq_true (Or.inl c1))) (fun c1 => pk_eq dr m (fun c2 => yes (decide_eq_true (Or.inr c2))) (fun c2 => ?_))
      have z : z_in dr m = false := decide_eq_false (fun z => z.elim c1 c2)
      have hb3 := hb2 true
      rw [z, Bool.false_and] at hs2 hb3
      refine st 0 (by omega) ?_ ?_
      · unfold y_an
        rw [hb3]; rfl
      · rw [hs2]; rfl
  refine pk_eq p 0 (fun c => h11 _ ?_) (fun c => h11 _ ?_)
  · have e : y_an S dr b p 0 = 10 := if_pos (Or.inl c)
    rw [e] at key; exact key
  · have e : y_an S dr b p 0 = 0 := if_neg (fun z => z.elim c (fun z => absurd z (by show ¬ 0 < 0; omega)))
    rw [e] at key; exact key
theorem y_an_pl {S : z_S} (W : z_W S) {dr b p : Nat} (hd : dr ≤ 5) (hb : b < S 0 0) : y_an S dr b p 5 = if z_pl S dr b p then 10 else 0 := by
  unfold y_an
  by_cases c : p = 0
  · rw [if_pos (Or.inl c), c, z_pl0 W hd hb]; rfl
  · by_cases c2 : 0 < z_bn S dr b p 5
    · rw [if_pos (Or.inr c2), show z_pl S dr b p = true from decide_eq_true c2]; rfl
    · rw [if_neg (fun z => z.elim c c2), show z_pl S dr b p = false from decide_eq_false c2]; rfl
theorem y_bu_0 {S : z_S} (W : z_W S) {dr b p : Nat} (hd : dr ≤ 5) (hb : b < S 0 0) (h : z_pl S dr b p = false) : y_an S dr b p 5 + z_sn S dr b p 5 = 0 := by
  have h1 := z_sn_bn (S := S) (dr := dr) (b := b) (p := p) 5
  have h2 : ¬ 0 < z_bn S dr b p 5 := of_decide_eq_false h
  rw [y_an_pl W hd hb, h]
  show 0 + _ = 0
  omega
theorem y_bu_1 {S : z_S} (W : z_W S) {dr b p : Nat} (hd : dr ≤ 5) (hb : b < S 0 0) (h : z_pl S dr b p = true) : y_an S dr b p 5 + z_sn S dr b p 5 = 6 + z_le S dr b p := by
  rw [y_an_pl W hd hb, h]
  show 10 + _ = 6 + (4 + _)
  omega
theorem z_nx_st {P : Nat → Bool} {e len : Nat} (h : e < len) : z_nx P (len - e) e = if P e then e else z_nx P (len - (e + 1)) (e + 1) := by
  rw [show len - e = (len - (e + 1)) + 1 by omega]; rfl
theorem l_spring {f a : sx_F} {o : sl_O} {S : z_S} (Y : y_N a o S) (W : z_W S) {dr b p : Nat} (hd : dr ≤ 5) (hb : b < S 0 0) (hp : p < S 1 b) (hpl : z_pl S dr b p = true) {Q : Int32 → Prop} (h : Q (nI (100 * z_wd S dr b p + z_le S dr b p))) : P_L_spring f a o (nI dr) (nI b) (nI p) Q := by
  intro B14 B43 B54 B106 h14 h43 h54 h106
  have hb6 : b < 6 := Nat.lt_of_lt_of_le hb Y.1
  obtain ⟨hlen, hl16⟩ := Y.2.2.1 b hb
  have hle9 := z_sn_b (S := S) (dr := dr) (b := b) (p := p)
  refine ⟨fun _ => nm_e ?_, fun c => absurd (nI_pos' (by omega)) c⟩
  rw [nI_1]
  have fin : ∀ x : Nat, x = 6 + 3 * z_hv 6 (z_nx (z_pl S dr b) (S 1 b - (p + 1)) (p + 1) - p) → P_L_begun f a o (nI dr) (nI b) (nI p) (fun r10 => (∀ y14 : Int32, y14 = ((4 + r10) - 10) → ((nI x ≤ y14 → B106 y14 100 y14) ∧ (¬ nI x ≤ y14 → B106 y14 100 (nI x))))) := by
    intro x hx
    have hx64 : x ≤ 24 := by
      have := z_hv_le 6 (z_nx (z_pl S dr b) (S 1 b - (p + 1)) (p + 1) - p)
      omega
    refine l_begun Y W hd hb (by omega) (nm_e ?_)
    rw [y_bu_1 W hd hb hpl, show (4 : Int32) + nI (6 + z_le S dr b p) - 10 = nI (z_le S dr b p) by
      rw [z_l4, nI_add, z_l10, pk_sub (by omega)]
      congr 1; omega]
    have e : z_wd S dr b p = if x < z_le S dr b p then z_le S dr b p else x := by rw [hx]; rfl
    refine pk_le x (z_le S dr b p) (fun c => h106 _ _ _ ?_) (fun c => h106 _ _ _ ?_)
    · have e2 : z_wd S dr b p = z_le S dr b p := by
        rw [e]
        by_cases c2 : x < z_le S dr b p
        · rw [if_pos c2]
        · rw [if_neg c2]; omega
      rw [e2] at h
      rw [z_l100, pk_mul, nI_add]; exact h
    · rw [e, if_neg (by omega)] at h
      rw [z_l100, pk_mul, nI_add]; exact h
  have wid : ∀ d l x, l < 2 ^ d → d ≤ 6 → x + 3 * z_hv d l = 6 + 3 * z_hv 6 (z_nx (z_pl S dr b) (S 1 b - (p + 1)) (p + 1) - p) → B54 (nI x) (nI l) := by
    intro d
    induction d with
    | zero =>
      intro l x hl _ hq
      exact h54 _ _ (pk_le l 1 (fun _ => fin x hq) (fun c => absurd c (by omega)))
    | succ d ih =>
      intro l x hl hd hq
      have hl' : l < 2 ^ d * 2 := by rw [← Nat.pow_succ]; exact hl
      have h2 : 2 ^ d ≤ 2 ^ 6 := Nat.pow_le_pow_right (by decide) (by omega)
      refine h54 _ _ (pk_le l 1 (fun c => ?_) (fun c => nm_e (nm_e ?_)))
      · rw [show z_hv (d + 1) l = 0 from if_pos c] at hq; exact fin x hq
      · rw [show z_hv (d + 1) l = z_hv d (l / 2) + 1 from if_neg (by omega)] at hq
        have e : nI l / 2 = nI (l / 2) := pk_div (a := l) (d := 2) (by omega) (by omega) (by omega)
        rw [e]
        rw [show nI x + 3 = nI (x + 3) from nI_add x 3]
        exact ih (l / 2) (x + 3) (by omega) (by omega) (by omega)
  have b43 : B43 (nI (z_nx (z_pl S dr b) (S 1 b - (p + 1)) (p + 1))) := by
    have hn := z_nx_le (p := z_pl S dr b) (S 1 b - (p + 1)) (p + 1)
    refine h43 _ (nm_e ?_)
    rw [pk_sub (by omega)]
    exact wid 6 _ 6 (by show _ < 64; omega) (by omega) rfl
  have key : ∀ d e, e + d = S 1 b → 0 < e → z_nx (z_pl S dr b) (S 1 b - e) e = z_nx (z_pl S dr b) (S 1 b - (p + 1)) (p + 1) → B14 (nI e) := by
    intro d
    induction d with
    | zero =>
      intro e he _ hq
      refine h14 _ ⟨vp_in_nI (by omega) (by omega), ?_⟩
      rw [nI_clamp (by omega), hlen]
      refine pk_le (S 1 b) e (fun _ => ?_) (fun c => absurd c (by omega))
      rw [show S 1 b - e = 0 by omega] at hq
      rw [← hq] at b43
      exact b43
    | succ d ih =>
      intro e he h0 hq
      refine h14 _ ⟨vp_in_nI (by omega) (by omega), ?_⟩
      rw [nI_clamp (by omega), hlen]
      refine pk_le (S 1 b) e (fun c => absurd c (by omega)) (fun c => l_begun Y W hd hb (by omega) ?_)
      rw [z_nx_st c] at hq
      cases hP : z_pl S dr b e
      · rw [hP] at hq
        rw [y_bu_0 W hd hb hP]
        refine ⟨fun _ => nm_e ?_, fun z => absurd rfl z⟩
        rw [nI_1]; exact ih (e + 1) (by omega) (by omega) hq
      · rw [hP] at hq
        rw [y_bu_1 W hd hb hP]
        have := z_sn_b (S := S) (dr := dr) (b := b) (p := e)
        refine ⟨fun z => absurd z (nI_ne0 (by omega) (by omega)), fun _ => ?_⟩
        have hq : e = _ := hq
        rw [← hq] at b43
        exact b43
  exact key (S 1 b - (p + 1)) (p + 1) (by omega) (by omega) rfl
theorem l_spring6 {f a : sx_F} {o : sl_O} {x p : Int32} {Q : Int32 → Prop} (h : Q (nI 2416)) : P_L_spring f a o (-1) x p Q := by
  intro B14 B43 B54 B106 h14 h43 h54 h106
  exact ⟨fun c => absurd c (by decide), fun _ => h⟩
theorem l_isSpring {f a : sx_F} {o : sl_O} {S : z_S} (Y : y_N a o S) (W : z_W S) {dr b p : Nat} (hd : dr ≤ 5) (hb : b < S 0 0) (hp : p ≤ 32) {Q : Int32 → Prop} (h : Q (z_b (decide (p < S 1 b) && z_pl S dr b p))) : P_L_isSpring f a o (nI dr) (nI b) (nI p) Q := by
  have hb6 : b < 6 := Nat.lt_of_lt_of_le hb Y.1
  obtain ⟨hlen, hl16⟩ := Y.2.2.1 b hb
  refine ⟨fun _ => ⟨vp_in_nI (by omega) (by omega), ?_⟩, fun c => absurd (nI_pos' (by omega)) c⟩
  rw [nI_clamp (by omega), hlen]
  refine pk_le (S 1 b) p (fun c => ?_) (fun c => l_begun Y W hd hb hp ?_)
  · rw [decide_eq_false (show ¬ p < S 1 b by omega)] at h; exact h
  · rw [decide_eq_true c, Bool.true_and] at h
    cases hP : z_pl S dr b p
    · rw [hP] at h
      rw [y_bu_0 W hd hb hP]
      exact ⟨fun _ => h, fun z => absurd (Int32.le_refl _) z⟩
    · rw [hP] at h
      rw [y_bu_1 W hd hb hP]
      have := z_sn_b (S := S) (dr := dr) (b := b) (p := p)
      exact ⟨fun z => absurd z (nI_nle (by omega) (by omega)), fun _ => h⟩
theorem l_isSpring6 {f a : sx_F} {o : sl_O} {x : Int32} {p : Nat} (hp : p ≤ 32) {Q : Int32 → Prop} (h : Q (z_b (decide (p = 0)))) : P_L_isSpring f a o (-1) x (nI p) Q := by
  refine ⟨fun c => absurd c (by decide), fun _ => pk_eq p 0 (fun c => ?_) (fun c => ?_)⟩
  · rw [decide_eq_true c] at h; exact h
  · rw [decide_eq_false c] at h; exact h
