theorem l_isLine {t : Nat} {f a g : sx_F} {o : sl_O} {S : z_S} {bk w q y c l I p p' : Nat} (R : z_R t f g S) (Y : y_N a o S) (T : y_T (a 8) S bk) (hbk : bk ≤ 5) (a1 : a 7 1 = nI w) (hw : w ≤ 500) (h1 : g 0 6 = nI w) (h3 : g 0 7 = nI q) (hq : q ≤ 6) (hy : y < 2 ^ 31) (hI : z_it S bk (S 0 0) = I) (l1 : l < (z_Z I (z_IW S bk) (z_IL S bk) (z_IT S bk) w q 0 0).2.1) (ep : z_ps (z_Z I (z_IW S bk) (z_IL S bk) (z_IT S bk) w q) q l = p) (ep' : z_ps (z_Z I (z_IW S bk) (z_IL S bk) (z_IT S bk) w q) q (l + 1) = p') (hpp : p < p') (hpI : p' ≤ I) (e1 : ∀ i, p ≤ i → i + 1 < p' → y_e y i = false) (e2 : 0 < p → y_e y (p - 1) = true) (e3 : p' < I → y_e y (p' - 1) = true) (c1 : p ≤ c) (c2 : c < p') {Q : Int32 → sx_F → sx_F → sl_O → Prop} (h : ∀ f', z_R t f' g S → Q 1 f' a o) : P_L_isLine f a o (nI bk) (nI I) (nI y) (nI c) Q := by
  intro B14 B37 B62 B66 B164 B179 B214 B299 B300 B328 B351 B402 B404 B410 h14 h37 h62 h66 h164 h179 h214 h299 h300 h328 h351 h402 h404 h410
  have W := R.2.2.1
  have n6 := Y.1
  have I6 : I ≤ 6 := by
    have := y_it_le (S := S) (bk := bk) (S 0 0)
    omega
  have hWa : ∀ j, j < I → z_IW S bk j ≤ 768 := fun j hj => (z_IW_b W hbk (by omega)).1
  have hLW : ∀ j, z_IL S bk j ≤ z_IW S bk j := fun j => by
    rw [← z_IL_eq, ← z_IW_eq]
    exact z_sm_le2 (fun e => z_swl.1) _
  have hL1 : ∀ j, j < I → 1 ≤ z_IL S bk j := fun j hj => (z_IW_b W hbk (by omega)).2.1
  have mono : ∀ j j', j ≤ j' → z_sm (z_IW S bk) j ≤ z_sm (z_IW S bk) j' := fun j j' hj => z_sm_mono hj
  have monoL : ∀ j j', j ≤ j' → z_sm (z_IL S bk) j ≤ z_sm (z_IL S bk) j' := fun j j' hj => z_sm_mono hj
  have big : z_sm (z_IW S bk) p' - z_sm (z_IW S bk) p ≤ 4608 := by
    have := z_sm_lt (w := z_IW S bk) (c := 768) (I := I) (a := p) hWa p' (by omega) hpI
    have h2 : 768 * (p' - p) ≤ 768 * 6 := Nat.mul_le_mul_left _ (by omega)
    omega
  have sub := fun j (hj : p ≤ j) => z_sm_sub hLW (a := p) j hj
  have pos : 1 ≤ z_sm (z_IW S bk) p' - z_sm (z_IW S bk) p := z_sm_pos hpp (Nat.le_trans (hL1 p (by omega)) (hLW p))
  have widA : z_wid (z_IW S bk) p p' = 8 * (p' - p) + (z_sm (z_IW S bk) p' - z_sm (z_IW S bk) p) := rfl
  have widL : z_wid (z_IL S bk) p p' = 8 * (p' - p) + (z_sm (z_IL S bk) p' - z_sm (z_IL S bk) p) := rfl
  have sbp := sub p' (by omega)
  generalize hsA : z_sm (z_IW S bk) p' - z_sm (z_IW S bk) p = sA at big pos widA sbp
  generalize hsL : z_sm (z_IL S bk) p' - z_sm (z_IL S bk) p = sL at widL sbp
  have lastI : nI I - 1 = nI (I - 1) := pk_sub (a := I) (b := 1) (by omega)
  -- the lines' items, spring by spring
  have key : ∀ v14 v15 : Int32, ((z_wid (z_IW S bk) p p' ≤ w ∧ v14 = nI (w - z_wid (z_IW S bk) p p') ∧ v15 = 0) ∨ (w < z_wid (z_IW S bk) p p' ∧ v14 ≤ 0 ∧ v15 = nI (if sA - sL < z_wid (z_IW S bk) p p' - w then sA - sL else z_wid (z_IW S bk) p p' - w))) → ∀ d J, J + d = p' → p ≤ J → ∀ f' ce, z_R t f' g S → ce ≤ 48 * (J - p) → B179 f' a o (nI p) (nI (p' - 1)) (nI sA) (nI sL) v14 v15 (nI (z_sm (z_IW S bk) J - z_sm (z_IW S bk) p)) (nI (z_sm (z_IL S bk) J - z_sm (z_IL S bk) p)) 1 (nI J) ce := by
    intro v14 v15 spec d
    induction d with
    | zero =>
      intro J hJ hpJ f' ce R' hce
      exact h179 _ _ _ _ _ _ _ _ _ _ _ _ _ _ (pk_lt (p' - 1) J (fun _ => ⟨by omega, Or.inr rfl, h f' R'⟩) (fun c => absurd c (by omega)))
    | succ d ih =>
      intro J hJ hpJ f' ce R' hce
      have hJI : J < z_it S bk (S 0 0) := by omega
      obtain ⟨x1, x2, x3⟩ := y_itx hJI
      obtain ⟨⟨t0, -, t2⟩, t3, t4⟩ := T J hJI
      have hdr := z_drw_le (S := S) (bk := bk) (b := z_xb S bk J) hbk
      have eA : z_sm (z_IW S bk) (J + 1) = z_sm (z_IW S bk) J + z_sm (z_sw S (z_drw S bk (z_xb S bk J)) (z_xb S bk J)) (z_np S (z_drw S bk (z_xb S bk J)) (z_xb S bk J)) := by
        show z_sm (z_IW S bk) J + z_IW S bk J = _
        rw [show z_IW S bk J = _ from z_Wb_sm.1]
      have eL : z_sm (z_IL S bk) (J + 1) = z_sm (z_IL S bk) J + z_sm (z_sl S (z_drw S bk (z_xb S bk J)) (z_xb S bk J)) (z_np S (z_drw S bk (z_xb S bk J)) (z_xb S bk J)) := by
        show z_sm (z_IL S bk) J + z_IL S bk J = _
        rw [show z_IL S bk J = _ from z_Wb_sm.2]
      have pl := fun (f' : sx_F) (R' : z_R t f' g S) (s : Nat) (hs : s < S 1 (z_xb S bk J)) (Q' : Int32 → sx_F → sx_F → sl_O → Prop) => l_place (a := a) (o := o) (J := J) (s := s) (w := w) (q := q) (l := l) (Q := Q') R' hbk hw h1 h3 hq (by rw [hI]; exact l1) (by rw [hI, ep]; exact hpJ) (by rw [hI, ep']; omega) hJI hs
      rw [hI, ep, ep'] at pl
      have m1 := mono p J hpJ
      have m2 := mono (J + 1) p' (by omega)
      have m3 := monoL p J hpJ
      have sJ := sub J hpJ
      obtain ⟨hln, hlen16⟩ := Y.2.2.1 _ x1
      have hlen1 := (W.2.1 _ x1).1
      have endp : y_pc S (z_drw S bk (z_xb S bk J)) (z_xb S bk J) (S 1 (z_xb S bk J)) = z_np S (z_drw S bk (z_xb S bk J)) (z_xb S bk J) := y_pc_end hlen1
      generalize z_drw S bk (z_xb S bk J) = dr at *
      generalize z_xb S bk J = b at *
      have v5 : vp_in (nI (5 * J)) 30 := vp_in_nI (by omega) (by omega)
      have v52 : vp_in (nI (5 * J + 2)) 30 := vp_in_nI (by omega) (by omega)
      have vb : vp_in (nI b) 6 := vp_in_nI (by omega) (by omega)
      refine h179 _ _ _ _ _ _ _ _ _ _ _ _ _ _ (pk_lt (p' - 1) J (fun c => absurd c (by omega)) (fun _ => ⟨fun c => absurd c (by decide), fun _ => ?_⟩))
      rw [y_5, y_a2, nI_clamp (n := 5 * J + 2) (by omega), nI_clamp (n := 5 * J) (by omega), t2, t0]
      refine ⟨v52, nm_e ⟨v5, nm_e ?_⟩⟩
      have inner : ∀ d s, s + d = S 1 b → ∀ f' ce, z_R t f' g S → ce ≤ 48 * (J - p) + 3 * s → B214 f' a o (nI p) (nI (p' - 1)) (nI sA) (nI sL) v14 v15 (nI (z_sm (z_IW S bk) J - z_sm (z_IW S bk) p + z_sm (z_sw S dr b) (y_pc S dr b s))) (nI (z_sm (z_IL S bk) J - z_sm (z_IL S bk) p + z_sm (z_sl S dr b) (y_pc S dr b s))) 1 (nI J) (z_dr dr) (nI b) (nI s) ce := by
        intro d2
        induction d2 with
        | zero =>
          intro s hs f' ce R' hce
          have es : s = S 1 b := by omega
          subst es
          refine h214 _ _ _ _ _ _ _ _ _ _ _ _ _ _ _ _ _ ⟨vb, ?_⟩
          rw [nI_clamp (n := b) (by omega), hln]
          refine pk_le (S 1 b) (S 1 b) (fun _ => h410 _ _ _ _ _ _ _ _ _ _ _ _ _ _ (nm_e ?_)) (fun c => absurd c (by omega))
          rw [endp, nI_1, show z_sm (z_IW S bk) J - z_sm (z_IW S bk) p + z_sm (z_sw S dr b) (z_np S dr b) = z_sm (z_IW S bk) (J + 1) - z_sm (z_IW S bk) p by omega, show z_sm (z_IL S bk) J - z_sm (z_IL S bk) p + z_sm (z_sl S dr b) (z_np S dr b) = z_sm (z_IL S bk) (J + 1) - z_sm (z_IL S bk) p by omega]
          exact ih (J + 1) (by omega) (by omega) f' ce R' (by omega)
        | succ d2 ih2 =>
          intro s hs f' ce R' hce
          have hce2 : ce + 3 ≤ 300 := by omega
          refine h214 _ _ _ _ _ _ _ _ _ _ _ _ _ _ _ _ _ ⟨vb, ?_⟩
          rw [nI_clamp (n := b) (by omega), hln]
          have nx : ∀ f' ce' (s0 : Int32), s0 = 1 → z_R t f' g S → ce' ≤ ce + 3 → B404 f' a o (nI p) (nI (p' - 1)) (nI sA) (nI sL) v14 v15 (nI (z_sm (z_IW S bk) J - z_sm (z_IW S bk) p + z_sm (z_sw S dr b) (y_pc S dr b (s + 1)))) (nI (z_sm (z_IL S bk) J - z_sm (z_IL S bk) p + z_sm (z_sl S dr b) (y_pc S dr b (s + 1)))) s0 (nI J) (z_dr dr) (nI b) (nI s) ce' := by
            intro f' ce' s0 hs0 R' hc'
            rw [hs0]
            refine h404 _ _ _ _ _ _ _ _ _ _ _ _ _ _ _ _ _ (nm_e ?_)
            rw [nI_1]
            exact ih2 (s + 1) (by omega) f' ce' R' (by omega)
          have epc : y_pc S dr b (s + 1) = y_pc S dr b s + (if y_is S dr b s then 1 else 0) := rfl
          refine pk_le (S 1 b) s (fun c => absurd c (by omega)) (fun _ => ⟨fun c => absurd c (by decide), fun _ => ⟨by omega, l_isp Y W (by omega) x1 (by omega) ?_⟩⟩)
          cases hsp : y_is S dr b s
          · rw [hsp, if_neg (by decide), Nat.add_zero] at epc
            rw [epc] at nx
            refine ⟨fun _ => pk_eq s 1 (fun es => ⟨hce2, pl f' R' s (by omega) _ (fun z => by rw [hsp] at z; exact absurd z (by decide)) (fun _ f2 R2 => ⟨fun _ => h402 _ _ _ _ _ _ _ _ _ _ _ _ _ _ _ _ _ (nx f2 _ 1 rfl R2 (Nat.le_refl _)), fun c => absurd rfl c⟩)⟩) (fun _ => nx f' ce 1 rfl R' (by omega)), fun c => absurd rfl c⟩
          · rw [hsp, if_pos rfl] at epc
            refine ⟨fun c => absurd c (by decide), fun _ => ⟨by omega, l_spr Y W (by omega) x1 (by omega) hsp (nm_e ?_)⟩⟩
            have nxW : z_sm (z_sw S dr b) (y_pc S dr b (s + 1)) = z_sm (z_sw S dr b) (y_pc S dr b s) + z_sw S dr b (y_pc S dr b s) := by rw [epc]; rfl
            have nxL : z_sm (z_sl S dr b) (y_pc S dr b (s + 1)) = z_sm (z_sl S dr b) (y_pc S dr b s) + z_sl S dr b (y_pc S dr b s) := by rw [epc]; rfl
            have ilt : y_pc S dr b s < z_np S dr b := y_pc_lt (by omega) hsp
            have mW : z_sm (z_sw S dr b) (y_pc S dr b s) ≤ z_sm (z_sw S dr b) (z_np S dr b) := z_sm_mono (by omega)
            have le2 := z_sm_le2 (fun x => (z_swl (S := S) (dr := dr) (b := b) (i := x)).1) (y_pc S dr b s)
            obtain ⟨b1, b2⟩ := y_swl_b (S := S) (dr := dr) (b := b) (i := y_pc S dr b s)
            have pls := pl f' R' s (by omega)
            rw [nxW, nxL] at nx
            generalize z_sw S dr b (y_pc S dr b s) = wd at *
            generalize z_sl S dr b (y_pc S dr b s) = le at *
            generalize hah : z_sm (z_IW S bk) J - z_sm (z_IW S bk) p + z_sm (z_sw S dr b) (y_pc S dr b s) = ah at *
            generalize hal : z_sm (z_IL S bk) J - z_sm (z_IL S bk) p + z_sm (z_sl S dr b) (y_pc S dr b s) = al at *
            have hahb : ah ≤ sA := by omega
            have halb : al ≤ ah := by omega
            obtain ⟨r1, r2⟩ := y_100 (w := wd) (l := le) b2 (by omega)
            have b351 : ∀ f2 ce', z_R t f2 g S → ce' ≤ ce + 3 → B351 f2 a o (nI p) (nI (p' - 1)) (nI sA) (nI sL) v14 v15 (nI ah) (nI al) (nI J) (z_dr dr) (nI b) (nI s) (nI (100 * wd + le)) 1 ce' := by
              intro f2 ce' R2 hc'
              refine h351 _ _ _ _ _ _ _ _ _ _ _ _ _ _ _ _ _ _ ?_
              rw [r2, r1, nI_add, nI_add]
              refine nm_e (nm_e ?_)
              have := nx f2 ce' 1 rfl R2 hc'
              rw [show z_sm (z_IW S bk) J - z_sm (z_IW S bk) p + (z_sm (z_sw S dr b) (y_pc S dr b s) + wd) = ah + wd by omega, show z_sm (z_IL S bk) J - z_sm (z_IL S bk) p + (z_sm (z_sl S dr b) (y_pc S dr b s) + le) = al + le by omega] at this
              exact this
            have b328 : ∀ k1 k2 : Nat, k2 ≤ k1 → k1 - k2 = z_plc I w (z_IW S bk) (z_IL S bk) J p p' ah al → B328 f' a o (nI p) (nI (p' - 1)) (nI sA) (nI sL) v14 v15 (nI ah) (nI al) (nI J) (z_dr dr) (nI b) (nI s) (nI (100 * wd + le)) (nI k1) (nI k2) ce := by
              intro k1 k2 hk hval
              refine h328 _ _ _ _ _ _ _ _ _ _ _ _ _ _ _ _ _ _ _ ?_
              rw [pk_sub hk, hval]
              refine nm_e ⟨hce2, pls _ (fun _ f2 R2 => ⟨fun _ => b351 f2 _ R2 (Nat.le_refl _), fun c => absurd rfl c⟩) (fun z => by rw [hsp] at z; exact absurd z (by decide))⟩
            have hbase : 8 * (nI J - nI p) + 4 + nI ah = nI (8 * (J - p) + 4 + ah) := by
              rw [pk_sub hpJ, y_8, show nI (8 * (J - p)) + 4 = nI (8 * (J - p) + 4) from nI_add _ 4, nI_add]
            rw [hbase]
            unfold z_plc at b328
            rw [hsA, widL] at b328
            rcases spec with ⟨s1, s2, s3⟩ | ⟨s1, s2, s3⟩
            · have b300 : ∀ x : Nat, 8 * (J - p) + 4 + ah + x = (if p' = I then 8 * (J - p) + 4 + ah else 8 * (J - p) + 4 + ah + (w - z_wid (z_IW S bk) p p') * ah / sA) → B300 f' a o (nI p) (nI (p' - 1)) (nI sA) (nI sL) v14 v15 (nI ah) (nI al) (nI J) (z_dr dr) (nI b) (nI s) (nI (100 * wd + le)) (nI (8 * (J - p) + 4 + ah)) (nI x) ce := by
                intro x hx
                refine h300 _ _ _ _ _ _ _ _ _ _ _ _ _ _ _ _ _ _ _ ?_
                rw [nI_add]
                refine nm_e ?_
                have z328 := b328 (8 * (J - p) + 4 + ah + x) 0 (by omega) (by rw [if_neg (by omega)]; exact hx)
                refine ⟨fun _ => z328, fun c => absurd (by rw [s3]; decide) c⟩
              have b299 : 8 * (J - p) + 4 + ah + 0 = (if p' = I then 8 * (J - p) + 4 + ah else 8 * (J - p) + 4 + ah + (w - z_wid (z_IW S bk) p p') * ah / sA) → B299 f' a o (nI p) (nI (p' - 1)) (nI sA) (nI sL) v14 v15 (nI ah) (nI al) (nI J) (z_dr dr) (nI b) (nI s) (nI (100 * wd + le)) (nI (8 * (J - p) + 4 + ah)) ce := fun hx => h299 _ _ _ _ _ _ _ _ _ _ _ _ _ _ _ _ _ _ (b300 0 hx)
              rw [lastI]
              refine pk_le (w - z_wid (z_IW S bk) p p') 0 (fun c => b299 ?_) (fun c => pk_le (I - 1) (p' - 1) (fun c3 => b299 ?_) (fun c3 => ⟨nI_ne0 (by omega) (by omega), ?_⟩)) s2 rfl (by omega) (by omega)
              · rw [show w - z_wid (z_IW S bk) p p' = 0 by omega, Nat.zero_mul, Nat.zero_div]
                split <;> rfl
              · rw [if_pos (show p' = I by omega), Nat.add_zero]
              · have pb : (w - z_wid (z_IW S bk) p p') * ah ≤ 500 * 4608 := z_prd (by omega) (by omega)
                rw [s2, pk_mul, pk_div (by omega) (by omega) (by omega), ← s2]
                exact b300 _ (by rw [if_neg (by omega)])
            · have hs0 : ∀ A B : Prop, A → ((v14 ≤ 0 → A) ∧ (¬ v14 ≤ 0 → B)) := fun A B hA => ⟨fun _ => hA, fun c => absurd s2 c⟩
              refine hs0 _ _ (h299 _ _ _ _ _ _ _ _ _ _ _ _ _ _ _ _ _ _ (h300 _ _ _ _ _ _ _ _ _ _ _ _ _ _ _ _ _ _ _ ?_))
              rw [Int32.add_zero]
              refine nm_e ?_
              have pD : (if sA - sL < z_wid (z_IW S bk) p p' - w then sA - sL else z_wid (z_IW S bk) p p' - w) ≤ sA - sL := by split <;> omega
              have eD : z_wid (z_IW S bk) p p' - (8 * (p' - p) + sL) = sA - sL := by omega
              rw [if_pos s1, eD] at b328
              have pD0 : (if sA - sL < z_wid (z_IW S bk) p p' - w then sA - sL else z_wid (z_IW S bk) p p' - w) = 0 → sA - sL = 0 := by split <;> omega
              generalize (if sA - sL < z_wid (z_IW S bk) p p' - w then sA - sL else z_wid (z_IW S bk) p p' - w) = X at *
              refine pk_le X 0 (fun c => b328 _ 0 (Nat.zero_le _) ?_) (fun c => ⟨?_, ?_⟩) s3 rfl (by omega) (by omega)
              · have := pD0 (by omega)
                rw [if_neg (by omega)]; rfl
              · rw [pk_sub sbp]; exact nI_ne0 (by omega) (by omega)
              · have pb : X * (ah - al) ≤ 4608 * 4608 := z_prd (by omega) (by omega)
                rw [s3, pk_sub halb, pk_mul, pk_sub sbp, pk_div (by omega) (by omega) (by omega), ← s3]
                have dv : X * (ah - al) / (sA - sL) ≤ ah - al := Nat.div_le_of_le_mul (Nat.mul_le_mul_right _ pD)
                exact b328 _ _ (by omega) (by rw [if_pos (by omega)])
      have go := inner (S 1 b) 0 (by omega) f' ce R' (by omega)
      exact go
  -- the line's widths
  have e66 : ∀ d J, J + d = p' → p ≤ J → B66 f a o (nI p) (nI (p' - 1)) (nI (z_sm (z_IW S bk) J - z_sm (z_IW S bk) p)) (nI (z_sm (z_IL S bk) J - z_sm (z_IL S bk) p)) (nI J) 0 := by
    intro d
    induction d with
    | zero =>
      intro J hJ hpJ
      have eJ : J = p' := by omega
      subst eJ
      refine h66 _ _ _ _ _ _ _ _ _ (pk_lt (J - 1) J (fun _ => ⟨y_v15, ?_⟩) (fun c => absurd c (by omega)))
      rw [show (1 : Int32).toNatClampNeg = 1 from rfl, a1, hsA, hsL, pk_sub (show p ≤ J - 1 by omega), nI_1, y_8, show J - 1 - p + 1 = J - p by omega, y_sub3, nI_add, show sA + 8 * (J - p) = z_wid (z_IW S bk) p J by omega]
      have fin : ∀ v14 v15 : Int32, ((z_wid (z_IW S bk) p J ≤ w ∧ v14 = nI (w - z_wid (z_IW S bk) p J) ∧ v15 = 0) ∨ (w < z_wid (z_IW S bk) p J ∧ v14 ≤ 0 ∧ v15 = nI (if sA - sL < z_wid (z_IW S bk) p J - w then sA - sL else z_wid (z_IW S bk) p J - w))) → B164 f a o (nI p) (nI (J - 1)) (nI sA) (nI sL) v14 v15 0 := fun v14 v15 sp => by
        refine h164 _ _ _ _ _ _ _ _ _ _ ?_
        have k := key v14 v15 sp (J - p) p (by omega) (Nat.le_refl _) f 0 R (Nat.zero_le _)
        rw [Nat.sub_self, Nat.sub_self] at k
        exact k
      refine nm_e ?_
      by_cases c : z_wid (z_IW S bk) p J ≤ w
      · rw [pk_sub c]
        exact ⟨fun _ => fin _ _ (Or.inl ⟨c, rfl, rfl⟩), fun z => absurd (nI_pos' (by omega)) z⟩
      · have neg : nI w - nI (z_wid (z_IW S bk) p J) < 0 := pk_sneg (by omega) (by omega)
        refine ⟨fun z => absurd z (Int32.not_le.mpr neg), fun _ => ?_⟩
        have em : -(nI w - nI (z_wid (z_IW S bk) p J)) = nI (z_wid (z_IW S bk) p J - w) := by rw [z_subneg (show w ≤ z_wid (z_IW S bk) p J by omega), Int32.neg_neg]
        rw [em, pk_sub sbp]
        have le0 : nI w - nI (z_wid (z_IW S bk) p J) ≤ 0 := Int32.le_of_lt neg
        refine pk_le (sA - sL) (z_wid (z_IW S bk) p J - w) (fun c2 => fin _ _ (Or.inr ⟨by omega, le0, ?_⟩)) (fun c2 => fin _ _ (Or.inr ⟨by omega, le0, ?_⟩))
        · split
          · rfl
          · exact congrArg nI (by omega)
        · rw [if_neg (by omega)]
    | succ d ih =>
      intro J hJ hpJ
      obtain ⟨-, t3, t4⟩ := T J (by omega)
      have m1 := mono p J hpJ
      have m3 := monoL p J hpJ
      refine h66 _ _ _ _ _ _ _ _ _ (pk_lt (p' - 1) J (fun c => absurd c (by omega)) (fun _ => ?_))
      rw [y_5, y_a3, y_a4, nI_clamp (n := 5 * J + 3) (by omega), nI_clamp (n := 5 * J + 4) (by omega), t3, t4, show nI (8 + z_IW S bk J) - 8 = nI (z_IW S bk J) from (show _ = nI (8 + z_IW S bk J - 8) from pk_sub (a := 8 + z_IW S bk J) (b := 8) (by omega)).trans (by rw [Nat.add_sub_cancel_left]), show nI (8 + z_IL S bk J) - 8 = nI (z_IL S bk J) from (show _ = nI (8 + z_IL S bk J - 8) from pk_sub (a := 8 + z_IL S bk J) (b := 8) (by omega)).trans (by rw [Nat.add_sub_cancel_left]), nI_add, nI_add, nI_1]
      refine ⟨vp_in_nI (by omega) (by omega), nm_e ⟨vp_in_nI (by omega) (by omega), nm_e (nm_e ?_)⟩⟩
      have i := ih (J + 1) (by omega) (by omega)
      rw [show z_sm (z_IW S bk) (J + 1) - z_sm (z_IW S bk) p = z_sm (z_IW S bk) J - z_sm (z_IW S bk) p + z_IW S bk J by show z_sm (z_IW S bk) J + z_IW S bk J - _ = _; omega, show z_sm (z_IL S bk) (J + 1) - z_sm (z_IL S bk) p = z_sm (z_IL S bk) J - z_sm (z_IL S bk) p + z_IL S bk J by show z_sm (z_IL S bk) J + z_IL S bk J - _ = _; omega] at i
      exact i
  have e62 : B62 f a o (nI p) (nI (p' - 1)) 0 0 0 := by
    refine h62 _ _ _ _ _ _ _ _ ?_
    have i := e66 (p' - p) p (by omega) (Nat.le_refl _)
    rw [Nat.sub_self, Nat.sub_self] at i
    exact i
  -- its last item
  have e37 : ∀ d k, k + d = p' - 1 → c ≤ k → B37 f a o (nI p) (nI k) 0 0 0 := by
    intro d
    induction d with
    | zero =>
      intro k hk hck
      have ek : k = p' - 1 := by omega
      subst ek
      refine h37 _ _ _ _ _ _ _ _ ?_
      rw [lastI]
      refine pk_le (I - 1) (p' - 1) (fun _ => e62) (fun c3 => y_bit0 hy (by omega) (fun z => ?_) (fun _ => e62))
      rw [e3 (by omega)] at z
      exact absurd z (by decide)
    | succ d ih =>
      intro k hk hck
      refine h37 _ _ _ _ _ _ _ _ ?_
      rw [lastI]
      refine pk_le (I - 1) k (fun c3 => absurd c3 (by omega)) (fun c3 => y_bit0 hy (by omega) (fun _ => nm_e ?_) (fun z => ?_))
      · rw [nI_1]
        exact ih (k + 1) (by omega) (by omega)
      · rw [e1 k (by omega) (by omega)] at z
        exact absurd z (by decide)
  -- its first item
  have e14 : ∀ d k, p + d = k → k ≤ c → B14 f a o (nI k) (nI c) 0 0 0 := by
    intro d
    induction d with
    | zero =>
      intro k hk hkc
      have ek : k = p := by omega
      subst ek
      have i := e37 (p' - 1 - c) c (by omega) (Nat.le_refl _)
      refine h14 _ _ _ _ _ _ _ _ (pk_le k 0 (fun _ => i) (fun c0 => ?_))
      rw [show nI k - 1 = nI (k - 1) from pk_sub (a := k) (b := 1) (by omega)]
      refine y_bit0 hy (by omega) (fun z => ?_) (fun _ => i)
      rw [e2 c0] at z
      exact absurd z (by decide)
    | succ d ih =>
      intro k hk hkc
      refine h14 _ _ _ _ _ _ _ _ (pk_le k 0 (fun c0 => absurd c0 (by omega)) (fun c0 => ?_))
      rw [show nI k - 1 = nI (k - 1) from pk_sub (a := k) (b := 1) (by omega)]
      refine y_bit0 hy (by omega) (fun _ => nm_e ?_) (fun z => ?_)
      · rw [show k = k - 1 + 1 by omega, pk_m1]
        exact ih (k - 1) (by omega) (by omega)
      · rw [e1 (k - 1) (by omega) (by omega)] at z
        exact absurd z (by decide)
  exact e14 (c - p) c (by omega) (Nat.le_refl _)
