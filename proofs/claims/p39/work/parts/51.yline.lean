theorem y_bit0 {y i : Nat} {A B : Prop} (hy : y < 2 ^ 31) (hi : i < 32) (f : y_e y i = false → A) (g : y_e y i = true → B) : (((nI y >>> (nI i &&& 31)) &&& 1) = 0 → A) ∧ (¬ ((nI y >>> (nI i &&& 31)) &&& 1) = 0 → B) := by
  rw [y_bit hy hi]
  have h2 := Nat.mod_lt (y / 2 ^ i) (show 0 < 2 by omega)
  unfold y_e at f g
  refine pk_eq (y / 2 ^ i % 2) 0 (fun c => f (decide_eq_false (by omega))) (fun c => g (decide_eq_true (by omega)))
theorem y_sub3 (a b c : Int32) : a - b - c = a - (b + c) := by
  rw [Int32.sub_eq_add_neg, Int32.sub_eq_add_neg, Int32.sub_eq_add_neg, Int32.neg_add, Int32.sub_eq_add_neg, Int32.add_assoc]
theorem l_place {t : Nat} {f a g : sx_F} {o : sl_O} {S : z_S} {bk w q l J s : Nat} (R : z_R t f g S) (hbk : bk ≤ 5) (hw : w ≤ 500) (h1 : g 0 6 = nI w) (h3 : g 0 7 = nI q) (hq : q ≤ 6) (l1 : l < (z_Z (z_it S bk (S 0 0)) (z_IW S bk) (z_IL S bk) (z_IT S bk) w q 0 0).2.1) (l2 : z_ps (z_Z (z_it S bk (S 0 0)) (z_IW S bk) (z_IL S bk) (z_IT S bk) w q) q l ≤ J) (l3 : J < z_ps (z_Z (z_it S bk (S 0 0)) (z_IW S bk) (z_IL S bk) (z_IT S bk) w q) q (l + 1)) (hJ : J < z_it S bk (S 0 0)) (hs : s < S 1 (z_xb S bk J)) {Q : Int32 → sx_F → sx_F → sl_O → Prop}
    (q1 : y_is S (z_drw S bk (z_xb S bk J)) (z_xb S bk J) s = true → ∀ f', z_R t f' g S → Q (nI (z_plc (z_it S bk (S 0 0)) w (z_IW S bk) (z_IL S bk) J (z_ps (z_Z (z_it S bk (S 0 0)) (z_IW S bk) (z_IL S bk) (z_IT S bk) w q) q l) (z_ps (z_Z (z_it S bk (S 0 0)) (z_IW S bk) (z_IL S bk) (z_IT S bk) w q) q (l + 1)) (z_sm (z_IW S bk) J - z_sm (z_IW S bk) (z_ps (z_Z (z_it S bk (S 0 0)) (z_IW S bk) (z_IL S bk) (z_IT S bk) w q) q l) + z_sm (z_sw S (z_drw S bk (z_xb S bk J)) (z_xb S bk J)) (y_pc S (z_drw S bk (z_xb S bk J)) (z_xb S bk J) s)) (z_sm (z_IL S bk) J - z_sm (z_IL S bk) (z_ps (z_Z (z_it S bk (S 0 0)) (z_IW S bk) (z_IL S bk) (z_IT S bk) w q) q l) + z_sm (z_sl S (z_drw S bk (z_xb S bk J)) (z_xb S bk J)) (y_pc S (z_drw S bk (z_xb S bk J)) (z_xb S bk J) s)))) f' a o)
    (q0 : y_is S (z_drw S bk (z_xb S bk J)) (z_xb S bk J) s = false → ∀ f', z_R t f' g S → Q (-9) f' a o) : P_L_place f a o (nI bk) (nI (z_xb S bk J)) (nI s) Q := by
  obtain ⟨x1, x2, x3⟩ := y_itx hJ
  have hlen := R.2.2.1.2.1 _ x1
  unfold P_L_place
  refine v_place R hbk x1 h1 hw h3 hq x2 l1 (by rw [x3]; exact l2) (by rw [x3]; exact l3) (fun hz f' fx => ⟨rfl, ?_⟩) (fun i hi hu hk f' fx => ?_)
  · cases hsp : y_is S (z_drw S bk (z_xb S bk J)) (z_xb S bk J) s
    · exact q0 hsp f' (R.fx fx (z_gx.refl g))
    · exact absurd (by rw [y_st_pc hs hsp]) (hz _ (y_pc_lt hs hsp))
  · obtain ⟨i1, i2, i3⟩ := y_st_inv (show 1 ≤ S 1 (z_xb S bk J) by omega) hi
    have es : s = z_st S (z_drw S bk (z_xb S bk J)) (z_xb S bk J) i := (nI_eq (by omega) (by omega)).mp hu
    rw [← es] at i1 i3
    have e := q1 i1 f' (R.fx fx (z_gx.refl g))
    rw [i3] at e
    rw [x3]
    exact e
theorem l_isp {f a : sx_F} {o : sl_O} {S : z_S} (Y : y_N a o S) (W : z_W S) {dr b s : Nat} (hd : dr ≤ 6) (hb : b < S 0 0) (hs : s < S 1 b) {Q : Int32 → Prop} (h : Q (z_b (y_is S dr b s))) : P_L_isSpring f a o (z_dr dr) (nI b) (nI s) Q := by
  have hlen := W.2.1 b hb
  unfold y_is at h
  by_cases e : dr = 6
  · subst e
    rw [if_pos rfl] at h
    exact l_isSpring6 (by omega) h
  · rw [if_neg e] at h
    rw [z_drn e]
    refine l_isSpring Y W (by omega) hb (by omega) ?_
    rw [decide_eq_true hs, Bool.true_and]
    exact h
theorem l_spr {f a : sx_F} {o : sl_O} {S : z_S} (Y : y_N a o S) (W : z_W S) {dr b s : Nat} (hd : dr ≤ 6) (hb : b < S 0 0) (hs : s < S 1 b) (hsp : y_is S dr b s = true) {Q : Int32 → Prop} (h : Q (nI (100 * z_sw S dr b (y_pc S dr b s) + z_sl S dr b (y_pc S dr b s)))) : P_L_spring f a o (z_dr dr) (nI b) (nI s) Q := by
  have est := y_st_pc hs hsp
  unfold z_sw z_sl at h
  by_cases e : dr = 6
  · subst e
    rw [if_pos rfl, if_pos rfl] at h
    exact l_spring6 h
  · rw [if_neg e, if_neg e, est] at h
    rw [z_drn e]
    unfold y_is at hsp
    rw [if_neg e] at hsp
    exact l_spring Y W (by omega) hb hs hsp h
theorem y_swl_b {S : z_S} {dr b i : Nat} : z_sw S dr b i ≤ 24 ∧ z_sl S dr b i < 100 := by
  unfold z_sw z_sl
  by_cases e : dr = 6
  · rw [if_pos e, if_pos e]; omega
  · rw [if_neg e, if_neg e]
    have h1 := z_wd_b (S := S) (dr := dr) (b := b) (p := z_st S dr b i)
    have h2 := z_sn_b (S := S) (dr := dr) (b := b) (p := z_st S dr b i)
    omega
