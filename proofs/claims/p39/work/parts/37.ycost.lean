/-! WHAT A WAY COSTS, IN THE LAW -/
theorem y_s5 : ∀ i : Fin 32, ((nI i.val &&& 31).toBitVec.smod 32).toNat = i.val := by decide +kernel
theorem y_bit {y i : Nat} (hy : y < 2 ^ 31) (hi : i < 32) : (nI y >>> (nI i &&& 31)) &&& 1 = nI (y / 2 ^ i % 2) := by
  rw [pk_shrN hy _ i (y_s5 ⟨i, hi⟩), pk_andN (m := 1) (Nat.lt_of_le_of_lt (Nat.div_le_self _ _) (by omega)) 1 rfl]
theorem y_bit1 {y i : Nat} {A B : Prop} (hy : y < 2 ^ 31) (hi : i < 32) (f : y_e y i = true → A) (g : y_e y i = false → B) : (((nI y >>> (nI i &&& 31)) &&& 1) = 1 → A) ∧ (¬ ((nI y >>> (nI i &&& 31)) &&& 1) = 1 → B) := by
  rw [y_bit hy hi]
  exact pk_eq (y / 2 ^ i % 2) 1 (fun c => f (decide_eq_true c)) (fun c => g (decide_eq_false c))
theorem y_len_m {e : Nat → Bool} {I : Nat} : ∀ d m m', (y_l e I d m).length = (y_l e I d m').length
  | 0, _, _ => rfl
  | d + 1, m, m' => by
    rw [y_l_s, y_l_s]
    by_cases c : d = 0 ∨ e (I - (d + 1)) = true
    · rw [if_pos c, if_pos c, List.length_cons, List.length_cons]
    · rw [if_neg c, if_neg c]; exact y_len_m d _ _
theorem l_lines {f a : sx_F} {o : sl_O} {I y : Nat} (hI : I ≤ 6) (hy : y < 2 ^ 31) {Q : Int32 → Prop} (h : Q (nI (y_l (y_e y) I I 0).length)) : P_L_lines f a o (nI I) (nI y) Q := by
  intro B9 B12 h9 h12
  refine pk_eq I 0 (fun c => h9 _ (h12 _ _ (pk_le I 1 (fun _ => ?_) (fun z => absurd z (by omega))))) (fun c => h9 _ ?_)
  · subst c; exact h
  · have key : ∀ d i c, i + (d + 1) = I → c + (y_l (y_e y) I (d + 1) 0).length = (y_l (y_e y) I I 0).length + 1 → B12 (nI c) (nI i) := by
      intro d
      induction d with
      | zero =>
        intro i c hi hc
        have e1 : (y_l (y_e y) I (0 + 1) 0).length = 1 := by rw [y_l_s, if_pos (Or.inl rfl)]; rfl
        refine h12 _ _ ?_
        rw [nI_1]
        refine pk_le I (i + 1) (fun _ => ?_) (fun z => absurd z (by omega))
        rw [show c = (y_l (y_e y) I I 0).length by omega]; exact h
      | succ d ih =>
        intro i c hi hc
        refine h12 _ _ ?_
        rw [nI_1]
        refine pk_le I (i + 1) (fun z => absurd z (by omega)) (fun _ => nm_e (nm_e ?_))
        rw [y_bit hy (by omega), nI_add]
        refine ih (i + 1) _ (by omega) ?_
        rw [y_l_s, show I - (d + 1 + 1) = i by omega] at hc
        by_cases eb : y_e y i = true
        · rw [if_pos (Or.inr eb), List.length_cons] at hc
          have := of_decide_eq_true eb
          omega
        · rw [if_neg (fun z => z.elim (by omega) eb), y_len_m (d + 1) (0 + 1) 0] at hc
          have h2 : ¬ y / 2 ^ i % 2 = 1 := fun z => eb (decide_eq_true z)
          omega
    refine key (I - 1) 0 1 (by omega) ?_
    rw [show I - 1 + 1 = I by omega]; omega
theorem l_row {f a : sx_F} {o : sl_O} {I y : Nat} (hI : I ≤ 6) (hy : y < 2 ^ 31) {Q : Int32 → Prop} (h : Q (nI (y_lr 0 (y_l (y_e y) I I 0)))) : P_L_row f a o (nI I) (nI y) Q := by
  intro B7 B34 B43 h7 h34 h43
  have key : ∀ d i r m, i + d = I → y_lr r (y_l (y_e y) I d m) = y_lr 0 (y_l (y_e y) I I 0) → B7 (nI r) (nI m) (nI i) := by
    intro d
    induction d with
    | zero =>
      intro i r m hi hr
      refine h7 _ _ _ (pk_le I i (fun _ => ?_) (fun z => absurd z (by omega)))
      rw [← hr] at h; exact h
    | succ d ih =>
      intro i r m hi hr
      rw [y_l_s, show I - (d + 1) = i by omega] at hr
      refine h7 _ _ _ (pk_le I i (fun z => absurd z (by omega)) (fun _ => nm_e ?_))
      rw [nI_1, show nI I - 1 = nI (I - 1) from pk_sub (a := I) (b := 1) (by omega)]
      have yes : (d = 0 ∨ y_e y i = true) → B34 (nI r) (nI (m + 1)) (nI i) := fun z => h34 _ _ _ (nm_e (h43 _ _ _ (nm_e (by
        rw [if_pos z] at hr
        rw [nI_1, show (7 : Int32) = nI 7 from rfl, pk_mul, nI_add]
        exact ih (i + 1) (7 * r + (m + 1)) 0 (by omega) hr))))
      refine pk_eq i (I - 1) (fun c => yes (Or.inl (by omega))) (fun c => y_bit1 hy (by omega) (fun z => yes (Or.inr z)) (fun z => h43 _ _ _ (nm_e ?_)))
      rw [if_neg (fun z2 => z2.elim (by omega) (fun z2 => by rw [z] at z2; exact absurd z2 (by decide)))] at hr
      rw [nI_1]
      exact ih (i + 1) r (m + 1) (by omega) hr
  exact key I 0 0 0 (by omega) rfl
theorem y_xe_lt {S : z_S} {bk j : Nat} (h : j + 1 < z_it S bk (S 0 0)) : y_xe S bk j = z_xb S bk (j + 1) ∧ 1 ≤ y_xe S bk j ∧ y_xe S bk j < S 0 0 := by
  have e : y_xe S bk j = z_xb S bk (j + 1) := if_pos h
  obtain ⟨x, hx, hxn, hxj⟩ := z_cnt_ex (p := z_new S bk) (S 0 0) (j + 1) h
  have ex : z_xb S bk (j + 1) = x := by
    have := z_xb_eq hx hxn
    rw [show z_it S bk x = j + 1 from hxj] at this
    exact this
  rw [e, ex]
  refine ⟨rfl, ?_, hx⟩
  refine Nat.one_le_iff_ne_zero.mpr (fun z => ?_)
  rw [z] at hxj
  exact absurd hxj (by show ¬ 0 = j + 1; omega)
theorem l_cost {f a : sx_F} {o : sl_O} {S : z_S} (Y : y_N a o S) (W : z_W S) {bk w q y : Nat} (hbk : bk ≤ 5) (t : y_T (a 8) S bk) (h1 : a 7 1 = nI w) (hw : w ≤ 500) (h2 : a 7 2 = nI q) (hq1 : 1 ≤ q) (hq : q ≤ 6) (hy : y < 2 ^ 31) (tr : Bool) {Q : Int32 → Prop} (h : Q (if y_lk (z_IL S bk) w 0 (y_l (y_e y) (z_it S bk (S 0 0)) (z_it S bk (S 0 0)) 0) = true then nI (if tr = true then y_lt (z_IT S bk) q 0 0 (y_l (y_e y) (z_it S bk (S 0 0)) (z_it S bk (S 0 0)) 0) else y_lb (z_it S bk (S 0 0)) (z_IW S bk) w 0 (y_l (y_e y) (z_it S bk (S 0 0)) (z_it S bk (S 0 0)) 0) + y_lt (z_IT S bk) q 0 0 (y_l (y_e y) (z_it S bk (S 0 0)) (z_it S bk (S 0 0)) 0)) else -1)) : P_L_cost f a o (nI bk) (nI (z_it S bk (S 0 0))) (nI y) (z_b tr) Q := by
  intro B21 B79 B95 B138 B185 B186 B198 h21 h79 h95 h138 h185 h186 h198
  have n6 := Y.1
  have it6 := y_it_le (S := S) (bk := bk) (S 0 0)
  have hIW : ∀ j, j < z_it S bk (S 0 0) → z_IW S bk j ≤ 768 ∧ z_IL S bk j ≤ 288 := fun j hj => ⟨(z_IW_b W hbk hj).1, (z_IW_b W hbk hj).2.2⟩
  generalize hII : z_it S bk (S 0 0) = I at *
  generalize hV : y_lk (z_IL S bk) w 0 (y_l (y_e y) I I 0) = V at h
  generalize hTB : y_lb I (z_IW S bk) w 0 (y_l (y_e y) I I 0) = TB at h
  generalize hTT : y_lt (z_IT S bk) q 0 0 (y_l (y_e y) I I 0) = TT at h
  have wle : ∀ p i, p ≤ i → i ≤ I → z_wid (z_IW S bk) p i ≤ 4656 ∧ z_wid (z_IL S bk) p i ≤ 1776 := fun p i hp hi => by
    have a1 := z_wid_le (W := z_IW S bk) (c := 768) (I := I) (a := p) (fun j hj => (hIW j hj).1) i hp hi
    have a2 := z_wid_le (W := z_IL S bk) (c := 288) (I := I) (a := p) (fun j hj => (hIW j hj).2) i hp hi
    have a3 : (8 + 768) * (i - p) ≤ 776 * 6 := Nat.mul_le_mul_left _ (by omega)
    have a4 : (8 + 288) * (i - p) ≤ 296 * 6 := Nat.mul_le_mul_left _ (by omega)
    omega
  have key : ∀ d i p m ln sb st, i + d = I → p + m = i → ln ≤ p → (d = 0 → m = 0) → sb + y_lb I (z_IW S bk) w p (y_l (y_e y) I d m) = TB → st + y_lt (z_IT S bk) q p (ln % q) (y_l (y_e y) I d m) = TT → y_lk (z_IL S bk) w p (y_l (y_e y) I d m) = V → B21 (nI sb) (nI st) (nI (z_wid (z_IW S bk) p i)) (nI (z_wid (z_IL S bk) p i)) (nI m) (nI ln) (nI i) := by
    intro d
    induction d with
    | zero =>
      intro i p m ln sb st hi hp hln hm hb ht hv
      have e1 : sb = TB := hb
      have e2 : st = TT := ht
      have e3 : true = V := hv
      rw [← e3, if_pos rfl] at h
      refine h21 _ _ _ _ _ _ _ (pk_le I i (fun _ => ?_) (fun z => absurd z (by omega)))
      rw [nI_add, e1, e2]
      cases tr
      · exact ⟨fun _ => h, fun z => absurd rfl z⟩
      · exact ⟨fun z => absurd z (by decide), fun _ => h⟩
    | succ d ih =>
      intro i p m ln sb st hi hp hln hm hb ht hv
      obtain ⟨⟨r1, r2, r3⟩, r4, r5⟩ := t i (by omega)
      rw [y_l_s, show I - (d + 1) = i by omega] at hb ht hv
      refine h21 _ _ _ _ _ _ _ (pk_le I i (fun z => absurd z (by omega)) (fun _ => ?_))
      rw [y_5, y_a3, y_a4]
      refine ⟨vp_in_nI (by omega) (by omega), nm_e ⟨vp_in_nI (by omega) (by omega), nm_e (nm_e ?_)⟩⟩
      rw [nI_clamp (by omega), nI_clamp (by omega), r4, r5, nI_add, nI_add, nI_1, ← z_wid_s (W := z_IW S bk) (a := p) (e := i) (by omega), ← z_wid_s (W := z_IL S bk) (a := p) (e := i) (by omega), show nI I - 1 = nI (I - 1) from pk_sub (a := I) (b := 1) (by omega)]
      obtain ⟨w1, w2⟩ := wle p (i + 1) (by omega) (by omega)
      have yes : (d = 0 ∨ y_e y i = true) → B79 (nI sb) (nI st) (nI (z_wid (z_IW S bk) p (i + 1))) (nI (z_wid (z_IL S bk) p (i + 1))) (nI (m + 1)) (nI ln) (nI i) := by
        intro z
        rw [if_pos z] at hb ht hv
        have hb2 : sb + (z_bad w (z_wid (z_IW S bk) p (p + (m + 1))) (decide (p + (m + 1) = I)) + y_lb I (z_IW S bk) w (p + (m + 1)) (y_l (y_e y) I d 0)) = TB := hb
        have ht2 : st + ((if ln % q + 1 < q then 0 else z_IT S bk (p + (m + 1))) + y_lt (z_IT S bk) q (p + (m + 1)) (z_nl q (ln % q)) (y_l (y_e y) I d 0)) = TT := ht
        have hv2 : (z_ok (z_IL S bk) w p (m + 1) && y_lk (z_IL S bk) w (p + (m + 1)) (y_l (y_e y) I d 0)) = V := hv
        have nlm : (ln + 1) % q = z_nl q (ln % q) := by
          rw [← z_nl_mod (Nat.mod_lt _ hq1), Nat.mod_add_mod]
        rw [show p + (m + 1) = i + 1 by omega] at hb2 ht2 hv2
        have b95 : z_ok (z_IL S bk) w p (m + 1) = true → B95 (nI sb) (nI st) (nI (z_wid (z_IW S bk) p (i + 1))) (nI ln) (nI i) := by
          intro hz
          rw [hz, Bool.true_and] at hv2
          have b138 : ∀ s1, s1 = z_bad w (z_wid (z_IW S bk) p (i + 1)) (decide (i + 1 = I)) → B138 (nI st) (nI ln) (nI i) (nI sb) (nI s1) := by
            intro s1 hs1
            have b186 : ∀ s2, s2 = (if ln % q + 1 < q then 0 else z_IT S bk (i + 1)) → B186 (nI (sb + s1)) (nI (ln + 1)) (nI i) (nI st) (nI s2) := by
              intro s2 hs2
              refine h186 _ _ _ _ _ (nm_e (h198 _ _ _ _ _ _ _ (nm_e ?_)))
              rw [nI_add, nI_1]
              have := ih (i + 1) (i + 1) 0 (ln + 1) (sb + s1) (st + s2) (by omega) rfl (by omega) (fun _ => rfl) (by rw [← hb2, hs1]; omega) (by rw [← ht2, hs2, nlm]; omega) hv2
              rw [show z_wid (z_IW S bk) (i + 1) (i + 1) = 0 by unfold z_wid; omega, show z_wid (z_IL S bk) (i + 1) (i + 1) = 0 by unfold z_wid; omega] at this
              exact this
            have b185 : (if ln % q + 1 < q then 0 else z_IT S bk (i + 1)) = 0 → B185 (nI (sb + s1)) (nI (ln + 1)) (nI i) (nI st) := fun z => h185 _ _ _ _ (b186 0 z.symm)
            refine h138 _ _ _ _ _ (nm_e (nm_e ⟨y_v25, ?_⟩))
            rw [show (2 : Int32).toNatClampNeg = 2 from rfl, h2, nI_add, nI_1]
            refine ⟨nI_ne0 hq1 (by omega), ?_⟩
            have hz7 : z_nl q (ln % q) < 7 := by
              have := Nat.mod_lt ln hq1
              unfold z_nl
              split <;> omega
            have big : ln + 1 < 2 ^ 31 := by omega
            · rw [pk_rem big hq1 (by omega), nlm, show nI I - 1 = nI (I - 1) from pk_sub (a := I) (b := 1) (by omega)]
              refine pk_eq (z_nl q (ln % q)) 0 (fun c => ?_) (fun c => b185 ?_)
              · have c2 : ¬ ln % q + 1 < q := by
                  intro z
                  unfold z_nl at c
                  rw [if_pos z] at c
                  omega
                rw [if_neg c2] at b186 b185
                refine pk_le (I - 1) i (fun c3 => b185 ?_) (fun c3 => ?_)
                · unfold z_IT
                  rw [hII, if_neg (by omega)]
                · obtain ⟨x1, x2, x3⟩ := y_xe_lt (S := S) (bk := bk) (j := i) (by rw [hII]; omega)
                  rw [y_5, y_a1]
                  refine ⟨vp_in_nI (by omega) (by omega), ?_⟩
                  rw [nI_clamp (by omega), r2]
                  refine l_turn Y W hbk (b := y_xe S bk i - 1) (by omega) (b186 _ ?_)
                  rw [show y_xe S bk i - 1 + 1 = z_xb S bk (i + 1) by omega]
                  unfold z_IT
                  rw [hII, if_pos (by omega)]
              · refine if_pos (Decidable.byContradiction (fun z => c ?_))
                unfold z_nl
                rw [if_neg z]
          refine h95 _ _ _ _ _ ⟨y_v15, nm_e ?_⟩
          rw [show (1 : Int32).toNatClampNeg = 1 from rfl, h1]
          by_cases c : w < z_wid (z_IW S bk) p (i + 1)
          · have neg := pk_sneg (a := w) (b := z_wid (z_IW S bk) p (i + 1)) (by omega) c
            refine ⟨fun z => absurd neg (Int32.not_lt.mpr z), fun _ => ?_⟩
            have e1 : (4 * (nI w - nI (z_wid (z_IW S bk) p (i + 1)))) * (nI w - nI (z_wid (z_IW S bk) p (i + 1))) = nI (4 * ((z_wid (z_IW S bk) p (i + 1) - w) * (z_wid (z_IW S bk) p (i + 1) - w))) := by
              rw [z_subneg (Nat.le_of_lt c), Int32.mul_assoc, z_negsq, pk_mul, z_l4, pk_mul]
            rw [e1]
            refine b138 _ ?_
            unfold z_bad
            rw [if_pos c]
          · have e0 : nI w - nI (z_wid (z_IW S bk) p (i + 1)) = nI (w - z_wid (z_IW S bk) p (i + 1)) := pk_sub (by omega)
            rw [e0]
            refine ⟨fun _ => ?_, fun z => absurd (nI_pos' (by omega)) z⟩
            rw [show nI I - 1 = nI (I - 1) from pk_sub (a := I) (b := 1) (by omega)]
            refine pk_eq i (I - 1) (fun c3 => b138 0 ?_) (fun c3 => ?_)
            · unfold z_bad
              rw [if_neg c, decide_eq_true (show i + 1 = I by omega)]; rfl
            · rw [pk_mul]
              refine b138 _ ?_
              unfold z_bad
              rw [if_neg c, decide_eq_false (show ¬ i + 1 = I by omega)]; rfl
        refine h79 _ _ _ _ _ _ _ (pk_le (m + 1) 1 (fun c => b95 (decide_eq_true (Or.inl (by omega)))) (fun c => ⟨y_v15, ?_⟩))
        rw [show (1 : Int32).toNatClampNeg = 1 from rfl, h1]
        refine pk_le (z_wid (z_IL S bk) p (i + 1)) w (fun c2 => b95 (decide_eq_true (Or.inr (by rw [show p + (m + 1) = i + 1 by omega]; exact c2)))) (fun c2 => ?_)
        have e0 : z_ok (z_IL S bk) w p (m + 1) = false := decide_eq_false (fun z => by
          rw [show p + (m + 1) = i + 1 by omega] at z
          omega)
        rw [e0, Bool.false_and] at hv2
        rw [← hv2] at h
        exact h
      refine pk_eq i (I - 1) (fun c => yes (Or.inl (by omega))) (fun c => y_bit1 hy (by omega) (fun z => yes (Or.inr z)) (fun z => h198 _ _ _ _ _ _ _ (nm_e ?_)))
      rw [if_neg (fun z2 => z2.elim (by omega) (fun z2 => by rw [z] at z2; exact absurd z2 (by decide)))] at hb ht hv
      rw [nI_1]
      exact ih (i + 1) p (m + 1) ln sb st (by omega) (by omega) hln (fun z => by omega) hb ht hv
  have := key I 0 0 0 0 0 0 (by omega) rfl (Nat.le_refl _) (fun _ => rfl) (by rw [hTB]; omega) (by rw [Nat.zero_mod, hTT]; omega) hV
  exact this
