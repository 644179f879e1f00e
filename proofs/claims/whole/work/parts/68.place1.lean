/-! PLACES IN A LINE -/
def z_plc (I w : Nat) (A L : Nat → Nat) (J p p' ah al : Nat) : Nat :=
  if w < z_wid A p p' then (if z_wid L p p' < z_wid A p p' then 8 * (J - p) + 4 + ah - (if z_wid A p p' - z_wid L p p' < z_wid A p p' - w then z_wid A p p' - z_wid L p p' else z_wid A p p' - w) * (ah - al) / (z_wid A p p' - z_wid L p p') else 8 * (J - p) + 4 + ah) else (if p' = I then 8 * (J - p) + 4 + ah else 8 * (J - p) + 4 + ah + (w - z_wid A p p') * ah / (z_sm A p' - z_sm A p))
theorem z_sm_sub {v w : Nat → Nat} (h : ∀ x, v x ≤ w x) {a : Nat} : ∀ b, a ≤ b → z_sm v b - z_sm v a ≤ z_sm w b - z_sm w a
  | 0, _ => by
    show 0 - _ ≤ _
    omega
  | b + 1, hab => by
    by_cases e : a = b + 1
    · rw [e]; omega
    · have i := z_sm_sub h (a := a) b (by omega)
      have m1 := z_sm_mono (w := v) (show a ≤ b by omega)
      have m2 := z_sm_mono (w := w) (show a ≤ b by omega)
      have hb := h b
      show z_sm v b + v b - _ ≤ z_sm w b + w b - _
      omega
theorem z_sm_lt {w : Nat → Nat} {c I a : Nat} (h : ∀ j, j < I → w j ≤ c) : ∀ b, a ≤ b → b ≤ I → z_sm w b - z_sm w a ≤ c * (b - a)
  | 0, _, _ => by
    show 0 - _ ≤ _
    omega
  | b + 1, hab, hb => by
    by_cases e : a = b + 1
    · rw [e]; omega
    · have i := z_sm_lt h (a := a) b (by omega) (by omega)
      have m1 := z_sm_mono (w := w) (show a ≤ b by omega)
      have hb := h b (by omega)
      show z_sm w b + w b - _ ≤ _
      rw [show b + 1 - a = (b - a) + 1 by omega, Nat.mul_succ]
      omega
theorem z_sm_pos {w : Nat → Nat} {a b : Nat} (h : a < b) (hw : 1 ≤ w a) : 1 ≤ z_sm w b - z_sm w a := by
  have m := z_sm_mono (w := w) (show a + 1 ≤ b from h)
  have e : z_sm w (a + 1) = z_sm w a + w a := rfl
  omega
theorem z_prd {a b : Nat} {d e : Nat} (h1 : a ≤ d) (h2 : b ≤ e) : a * b ≤ d * e := Nat.mul_le_mul h1 h2
theorem x_springAt {f : sx_F} {I : Nat} {W L T : Nat → Nat} {w q J l p p' i sw sl : Nat} {Q : Int32 → Prop} (B : z_Bk f I W L T w q) (hI : I ≤ 12) (hw : w ≤ 500) (hW : ∀ j, j < I → W j ≤ 768) (hLW : ∀ j, L j ≤ W j) (hW1 : ∀ j, j < I → 1 ≤ W j) (hl : l < 12) (h64 : f 64 J = nI l) (h63 : f 63 l = nI p) (h63' : f 63 (l + 1) = nI p') (hp : p ≤ J) (hp' : J < p') (hI' : p' ≤ I) (hi : i ≤ 32) (h11 : f 11 i = nI sw) (h12 : f 12 i = nI sl) (hsw : sw ≤ W J) (hsl : sl ≤ sw) (h : Q (nI (z_plc I w W L J p p' (z_sm W J - z_sm W p + sw) (z_sm L J - z_sm L p + sl)))) : P_X3_springAt f (nI J) (nI i) Q := by
  have mW := z_sm_mono (w := W) hp
  have mL := z_sm_mono (w := L) hp
  have mW' := z_sm_mono (w := W) (show p ≤ p' by omega)
  have mL' := z_sm_mono (w := L) (show p ≤ p' by omega)
  have sJ := z_sm_sub hLW (a := p) J hp
  have sP := z_sm_sub hLW (a := p) p' (by omega)
  have bJ := z_sm_lt hW (a := p) J hp (by omega)
  have bP := z_sm_lt hW (a := p) p' (by omega) hI'
  have aP := z_sm_pos (w := W) (show p < p' by omega) (hW1 p (by omega))
  have hWJ := hW J (by omega)
  have bJ' : z_sm W J - z_sm W p ≤ 9216 := Nat.le_trans bJ (z_prd (Nat.le_refl 768) (show J - p ≤ 12 by omega))
  have bP' : z_sm W p' - z_sm W p ≤ 9216 := Nat.le_trans bP (z_prd (Nat.le_refl 768) (show p' - p ≤ 12 by omega))
  unfold P_X3_springAt
  rw [nI_clamp (n := J) (by omega), nI_clamp (n := i) (by omega), h64, h11, h12]
  refine ⟨vp_in_nI (by omega) (by omega), nm_e ⟨vp_in_nI (by omega) (by omega), ?_⟩⟩
  rw [nI_1, nI_clamp (n := l) (by omega), nI_clamp (n := l + 1) (by omega), h63, h63']
  refine nm_e ⟨vp_in_nI (by omega) (by omega), nm_e ⟨vp_in_nI (by omega) (by omega), vp_in_nI (by omega) (by omega), vp_in_nI (by omega) (by omega), ?_⟩⟩
  rw [nI_clamp (n := p) (by omega), (B.2.1 J (by omega)).1, (B.2.1 p (by omega)).1, (B.2.1 J (by omega)).2, (B.2.1 p (by omega)).2, B.2.2.2.1, B.1, pk_sub (a := z_sm W J) (b := z_sm W p) mW, pk_sub (a := z_sm L J) (b := z_sm L p) mL, nI_add, nI_add, pk_sub (a := J) (b := p) hp, show (8 : Int32) * nI (J - p) + 4 = nI (8 * (J - p) + 4) from by rw [z_l8, z_l4, pk_mul, nI_add]]
  refine nm_e ⟨vp_in_nI (by omega) (by omega), vp_in_nI (by omega) (by omega), vp_in_nI (by omega) (by omega), nm_e ?_⟩
  rw [nI_add]
  refine nm_e (x_widthOf B hI (by omega) hI' (nm_e ?_))
  have eW : z_wid W p p' = 8 * (p' - p) + (z_sm W p' - z_sm W p) := rfl
  have eL : z_wid L p p' = 8 * (p' - p) + (z_sm L p' - z_sm L p) := rfl
  unfold z_plc at h
  generalize hah : z_sm W J - z_sm W p + sw = ah at h ⊢
  generalize hal : z_sm L J - z_sm L p + sl = al at h ⊢
  have hlea : al ≤ ah := by omega
  have hah' : ah ≤ 10000 := by omega
  by_cases c : w < z_wid W p p'
  · rw [if_pos c] at h
    rw [pk_sub (by omega)]
    refine pk_le (z_wid W p p' - w) 0 (fun y => absurd y (by omega)) (fun _ => ?_)
    refine x_widthOf B hI (by omega) hI' (x_leastOf B hI (by omega) hI' ?_)
    rw [pk_sub (a := z_wid W p p') (b := z_wid L p p') (by omega), pk_sub (a := ah) (b := al) hlea]
    refine nm_e (pk_le (z_wid W p p' - z_wid L p p') 0 (fun y => ?_) (fun y => ⟨nI_ne0 (by omega) (by omega), ?_⟩))
    · rw [if_neg (by omega)] at h
      rw [Int32.sub_zero]; exact h
    · rw [if_pos (by omega)] at h
      have emin : (if nI (z_wid W p p' - z_wid L p p') < nI (z_wid W p p' - w) then nI (z_wid W p p' - z_wid L p p') else nI (z_wid W p p' - w)) = nI (if z_wid W p p' - z_wid L p p' < z_wid W p p' - w then z_wid W p p' - z_wid L p p' else z_wid W p p' - w) := by
        by_cases d : z_wid W p p' - z_wid L p p' < z_wid W p p' - w
        · rw [if_pos d, if_pos (nI_lt d (by omega))]
        · rw [if_neg d, if_neg (nI_nlt (by omega) (by omega))]
      rw [emin]
      have hm : (if z_wid W p p' - z_wid L p p' < z_wid W p p' - w then z_wid W p p' - z_wid L p p' else z_wid W p p' - w) ≤ z_wid W p p' - z_wid L p p' := by split <;> omega
      generalize (if z_wid W p p' - z_wid L p p' < z_wid W p p' - w then z_wid W p p' - z_wid L p p' else z_wid W p p' - w) = m at h hm ⊢
      have hle : z_wid W p p' - z_wid L p p' ≤ 10000 := by omega
      generalize z_wid W p p' - z_wid L p p' = ab at h hm y hle ⊢
      have hprod : m * (ah - al) ≤ 10000 * 10000 := z_prd (by omega) (by omega)
      have hdiv : m * (ah - al) / ab ≤ ah - al := by
        refine Nat.div_le_of_le_mul ?_
        exact Nat.mul_le_mul hm (Nat.le_refl _)
      rw [pk_mul, pk_div (by omega) (by omega) (by omega), pk_sub (by omega)]
      exact h
  · rw [if_neg c] at h
    rw [z_subneg (by omega)]
    have neg : -nI (w - z_wid W p p') ≤ 0 := by
      rw [Int32.le_iff_toInt_le]
      rw [← z_subneg (show z_wid W p p' ≤ w by omega), pk_sub_toInt (by omega) (by omega)]
      show ((z_wid W p p' : Int) - w) ≤ 0
      omega
    refine ⟨fun _ => pk_eq p' I (fun y => ?_) (fun y => ?_), fun y => absurd neg y⟩
    · rw [if_pos y] at h; exact h
    · rw [if_neg y] at h
      unfold P_X3_stretchedAhead
      rw [Int32.neg_neg, nI_clamp (n := p') (by omega), nI_clamp (n := p) (by omega), (B.2.1 p' hI').1, (B.2.1 p (by omega)).1, pk_sub (a := z_sm W p') (b := z_sm W p) mW']
      refine ⟨vp_in_nI (by omega) (by omega), vp_in_nI (by omega) (by omega), nm_e (pk_le (z_sm W p' - z_sm W p) 0 (fun y => absurd y (by omega)) (fun _ => ⟨nI_ne0 (by omega) (by omega), ?_⟩))⟩
      have hprod : (w - z_wid W p p') * ah ≤ 500 * 10000 := z_prd (by omega) (by omega)
      rw [pk_mul, pk_div (by omega) (by omega) (by omega)]
      show Q (nI (8 * (J - p) + 4 + ah) + nI ((w - z_wid W p p') * ah / (z_sm W p' - z_sm W p)))
      rw [nI_add]
      exact h
