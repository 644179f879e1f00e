set_option maxRecDepth 100000 in
set_option maxHeartbeats 8000000 in
theorem law_turn {p : Program} {l : Launch} {e : Env} {s : State} {m : MethodId} {below : List Frame} {meth : Method} {c : Code} {D : va_G} {G : sx_G} {A : Nat → Prop} {b1 b2 bo bs L : Nat} {xs : Nat → Int32} {Q : State → Prop} {t cl sl : Nat} {f g : sx_F} {o : Nat → Int64} (hf : l.stackTraces = false) (C : sx_Cx p l s m #[.ref bs] meth c D G A cL_law 7 RL) (hNC : sx_NC s) (hB1 : ∀ k, k < 129 → A (b1 + k)) (hB2 : ∀ k, k < 26 → A (b2 + k)) (hA : A bo) (hd12 : b1 + 129 ≤ b2) (hd2 : b2 + 26 ≤ bo) (hX : va_X bs L xs s s.heap) (hbl : bs < s.heap.size) (hbA : ¬ A bs) (hL : L ≤ 2560) (I : z_I t f g) (hin : 5 * t + 5 ≤ L) (hcl : cl + 9 ≤ 601024 ∧ sl + 54 ≤ 7293034) (hend : ∀ (f1 g1 : sx_F) (o1 : Nat → Int64), z_I (t + 1) f1 g1 → sx_J (sx_wl D G b1 129 lyX b2 26 lyM bo) p l e room_1 s m #[.ref bs] below meth c A 7 (cl + 9) (sl + 54) Q (f1, g1, o1) 2395 [(0, .ref bs), (1, .ref (b1 + 0)), (2, .ref (b2 + 0)), (3, .ref bo), (4, .int (nI (5 * t)))] []) : sx_J (sx_wl D G b1 129 lyX b2 26 lyM bo) p l e room_1 s m #[.ref bs] below meth c A 7 cl sl Q (f, g, o) 32 [(0, .ref bs), (1, .ref (b1 + 0)), (2, .ref (b2 + 0)), (3, .ref bo), (4, .int (nI (5 * t)))] [] := by
  refine sx_aload_n C dL_law_32 0 0 rfl rfl 33 rfl ?_
  refine sx_iload C dL_law_33 4 rfl 35 rfl ?_
  refine sx_sld C hX hbl hbA (vp_in_nI (by omega) (by omega)) dL_law_35 36 rfl ?_
  refine sx_bipush C dL_law_36 63 (by decide) 38 rfl ?_
  refine sx_iand C dL_law_38 39 rfl ?_
  have hv1 : vp_in (nI (5 * t) + 1) L := by rw [nI_1]; exact vp_in_nI (by omega) (by omega)
  have hv2 : vp_in (nI (5 * t) + 2) L := by rw [show nI (5 * t) + 2 = nI (5 * t + 2) from nI_add (5 * t) 2]; exact vp_in_nI (by omega) (by omega)
  have hv3 : vp_in (nI (5 * t) + 3) L := by rw [show nI (5 * t) + 3 = nI (5 * t + 3) from nI_add (5 * t) 3]; exact vp_in_nI (by omega) (by omega)
  have hv4 : vp_in (nI (5 * t) + 4) L := by rw [show nI (5 * t) + 4 = nI (5 * t + 4) from nI_add (5 * t) 4]; exact vp_in_nI (by omega) (by omega)
  obtain ⟨j, hj, ej⟩ := pk_andE (xs (nI (5 * t)).toNatClampNeg) (m := 63) 6 rfl
  rw [ej]
  clear ej
  by_cases h36 : j < 36
  · rcases (show j = 0 ∨ j = 1 ∨ j = 2 ∨ j = 3 ∨ j = 4 ∨ j = 5 ∨ j = 6 ∨ j = 7 ∨ j = 8 ∨ j = 9 ∨ j = 10 ∨ j = 11 ∨ j = 12 ∨ j = 13 ∨ j = 14 ∨ j = 15 ∨ j = 16 ∨ j = 17 ∨ j = 18 ∨ j = 19 ∨ j = 20 ∨ j = 21 ∨ j = 22 ∨ j = 23 ∨ j = 24 ∨ j = 25 ∨ j = 26 ∨ j = 27 ∨ j = 28 ∨ j = 29 ∨ j = 30 ∨ j = 31 ∨ j = 32 ∨ j = 33 ∨ j = 34 ∨ j = 35 by omega) with rfl | rfl | rfl | rfl | rfl | rfl | rfl | rfl | rfl | rfl | rfl | rfl | rfl | rfl | rfl | rfl | rfl | rfl | rfl | rfl | rfl | rfl | rfl | rfl | rfl | rfl | rfl | rfl | rfl | rfl | rfl | rfl | rfl | rfl | rfl | rfl
    · exact sx_tabIn C dL_law_39 (by decide) (by decide) 157 196 (by decide +kernel) (by decide) (case_bar hf C hNC hB1 hB2 hA hd12 hd2 hX hbl hbA hcl hv1 hend (k_bar (by omega) I))
    · exact sx_tabIn C dL_law_39 (by decide) (by decide) 213 252 (by decide +kernel) (by decide) (case_note hf C hNC hB1 hB2 hA hd12 hd2 hX hbl hbA hcl hv1 hv2 hv3 hv4 hend (k_note (by omega) I))
    · exact sx_tabIn C dL_law_39 (by decide) (by decide) 305 344 (by decide +kernel) (by decide) (case_mend hf C hNC hB1 hB2 hA hd12 hd2 hX hbl hbA hcl hv1 hv2 hv3 hv4 hend (k_mend (by omega) I))
    · exact sx_tabIn C dL_law_39 (by decide) (by decide) 397 436 (by decide +kernel) (by decide) (case_empty hf C hNC hB1 hB2 hA hd12 hd2 hX hbl hbA hcl hv1 hv2 hend (k_empty (by omega) I))
    · exact sx_tabIn C dL_law_39 (by decide) (by decide) 465 504 (by decide +kernel) (by decide) (case_setPaper hf C hNC hB1 hB2 hA hd12 hd2 hX hbl hbA hcl hv1 hv2 hend (k_setPaper I))
    · exact sx_tabIn C dL_law_39 (by decide) (by decide) 533 572 (by decide +kernel) (by decide) (case_copy hf C hNC hB1 hB2 hA hd12 hd2 hX hbl hbA hcl hv1 hend (k_copy I))
    · exact sx_tabIn C dL_law_39 (by decide) (by decide) 589 628 (by decide +kernel) (by decide) (case_lend hf C hNC hB1 hB2 hA hd12 hd2 hX hbl hbA hcl hv1 hv2 hend (k_lend I))
    · exact sx_tabIn C dL_law_39 (by decide) (by decide) 657 696 (by decide +kernel) (by decide) (case_giveBack hf C hNC hB1 hB2 hA hd12 hd2 hX hbl hbA hcl hv1 hend (k_giveBack I))
    · exact sx_tabIn C dL_law_39 (by decide) (by decide) 713 752 (by decide +kernel) (by decide) (case_paste hf C hNC hB1 hB2 hA hd12 hd2 hX hbl hbA hcl hv1 hend (k_paste I))
    · exact sx_tabIn C dL_law_39 (by decide) (by decide) 769 808 (by decide +kernel) (by decide) (case_mark hf C hNC hB1 hB2 hA hd12 hd2 hX hbl hbA hcl hv1 hv2 hv3 hend (k_mark I))
    · exact sx_tabIn C dL_law_39 (by decide) (by decide) 849 888 (by decide +kernel) (by decide) (case_bow hf C hNC hB1 hB2 hA hd12 hd2 hX hbl hbA hcl hv1 hv2 hv3 hv4 hend (k_bow (by omega) I))
    · exact sx_tabIn C dL_law_39 (by decide) (by decide) 941 980 (by decide +kernel) (by decide) (case_play hf C hNC hB1 hB2 hA hd12 hd2 hX hbl hbA hcl  hend (k_play I))
    · exact sx_tabIn C dL_law_39 (by decide) (by decide) 985 1024 (by decide +kernel) (by decide) (case_bars hf C hNC hB1 hB2 hA hd12 hd2 hX hbl hbA hcl  hend (k_bars I))
    · exact sx_tabIn C dL_law_39 (by decide) (by decide) 998 1037 (by decide +kernel) (by decide) (case_notes hf C hNC hB1 hB2 hA hd12 hd2 hX hbl hbA hcl hv1 hv2 hend (k_notes I))
    · exact sx_tabIn C dL_law_39 (by decide) (by decide) 1066 1105 (by decide +kernel) (by decide) (case_noteAt hf C hNC hB1 hB2 hA hd12 hd2 hX hbl hbA hcl hv1 hv2 hv3 hend (k_noteAt I))
    · exact sx_tabIn C dL_law_39 (by decide) (by decide) 1146 1185 (by decide +kernel) (by decide) (case_version hf C hNC hB1 hB2 hA hd12 hd2 hX hbl hbA hcl hv1 hv2 hend (k_version I))
    · exact sx_tabIn C dL_law_39 (by decide) (by decide) 1214 1253 (by decide +kernel) (by decide) (case_time hf C hNC hB1 hB2 hA hd12 hd2 hX hbl hbA hcl hv1 hend (k_time I))
    · exact sx_tabIn C dL_law_39 (by decide) (by decide) 1270 1309 (by decide +kernel) (by decide) (case_timeByBars hf C hNC hB1 hB2 hA hd12 hd2 hX hbl hbA hcl hv1 hend (k_timeByBars I))
    · exact sx_tabIn C dL_law_39 (by decide) (by decide) 1326 1365 (by decide +kernel) (by decide) (case_items hf C hNC hB1 hB2 hA hd12 hd2 hX hbl hbA hcl hv1 hend (k_items I))
    · exact sx_tabIn C dL_law_39 (by decide) (by decide) 1382 1421 (by decide +kernel) (by decide) (case_itemOf hf C hNC hB1 hB2 hA hd12 hd2 hX hbl hbA hcl hv1 hv2 hend (k_itemOf I))
    · exact sx_tabIn C dL_law_39 (by decide) (by decide) 1450 1489 (by decide +kernel) (by decide) (case_cue hf C hNC hB1 hB2 hA hd12 hd2 hX hbl hbA hcl hv1 hv2 hend (k_cue I))
    · exact sx_tabIn C dL_law_39 (by decide) (by decide) 1518 1557 (by decide +kernel) (by decide) (case_width hf C hNC hB1 hB2 hA hd12 hd2 hX hbl hbA hcl hv1 hv2 hend (k_width I))
    · exact sx_tabIn C dL_law_39 (by decide) (by decide) 1586 1625 (by decide +kernel) (by decide) (case_lines hf C hNC hB1 hB2 hA hd12 hd2 hX hbl hbA hcl hv1 hend (k_lines I))
    · exact sx_tabIn C dL_law_39 (by decide) (by decide) 1642 1681 (by decide +kernel) (by decide) (case_lineOf hf C hNC hB1 hB2 hA hd12 hd2 hX hbl hbA hcl hv1 hv2 hend (k_lineOf I))
    · exact sx_tabIn C dL_law_39 (by decide) (by decide) 1710 1749 (by decide +kernel) (by decide) (case_cost hf C hNC hB1 hB2 hA hd12 hd2 hX hbl hbA hcl hv1 hend (k_cost I))
    · exact sx_tabIn C dL_law_39 (by decide) (by decide) 1766 1805 (by decide +kernel) (by decide) (case_costByAll hf C hNC hB1 hB2 hA hd12 hd2 hX hbl hbA hcl hv1 hend (k_costByAll I))
    · exact sx_tabIn C dL_law_39 (by decide) (by decide) 1822 1861 (by decide +kernel) (by decide) (case_turns hf C hNC hB1 hB2 hA hd12 hd2 hX hbl hbA hcl hv1 hend (k_turns I))
    · exact sx_tabIn C dL_law_39 (by decide) (by decide) 1878 1917 (by decide +kernel) (by decide) (case_place hf C hNC hB1 hB2 hA hd12 hd2 hX hbl hbA hcl hv1 hv2 hv3 hend (k_place I))
    · exact sx_tabIn C dL_law_39 (by decide) (by decide) 1958 1997 (by decide +kernel) (by decide) (case_copies hf C hNC hB1 hB2 hA hd12 hd2 hX hbl hbA hcl  hend (k_copies I))
    · exact sx_tabIn C dL_law_39 (by decide) (by decide) 1971 2010 (by decide +kernel) (by decide) (case_deskOf hf C hNC hB1 hB2 hA hd12 hd2 hX hbl hbA hcl hv1 hend (k_deskOf I))
    · exact sx_tabIn C dL_law_39 (by decide) (by decide) 2027 2066 (by decide +kernel) (by decide) (case_has hf C hNC hB1 hB2 hA hd12 hd2 hX hbl hbA hcl hv1 hv2 hend (k_has I))
    · exact sx_tabIn C dL_law_39 (by decide) (by decide) 2095 2134 (by decide +kernel) (by decide) (case_owed hf C hNC hB1 hB2 hA hd12 hd2 hX hbl hbA hcl hv1 hend (k_owed I))
    · exact sx_tabIn C dL_law_39 (by decide) (by decide) 2151 2190 (by decide +kernel) (by decide) (case_markOf hf C hNC hB1 hB2 hA hd12 hd2 hX hbl hbA hcl hv1 hv2 hv3 hend (k_markOf I))
    · exact sx_tabIn C dL_law_39 (by decide) (by decide) 2231 2270 (by decide +kernel) (by decide) (case_oldMarks hf C hNC hB1 hB2 hA hd12 hd2 hX hbl hbA hcl hv1 hend (k_oldMarks I))
    · exact sx_tabIn C dL_law_39 (by decide) (by decide) 2287 2326 (by decide +kernel) (by decide) (case_clashes hf C hNC hB1 hB2 hA hd12 hd2 hX hbl hbA hcl hv1 hend (k_clashes (by omega) I))
    · exact sx_tabIn C dL_law_39 (by decide) (by decide) 2343 2382 (by decide +kernel) (by decide) (case_concerts hf C hNC hB1 hB2 hA hd12 hd2 hX hbl hbA hcl  hend (k_concerts I))
  · refine sx_tabOut C dL_law_39 (Or.inr ?_) 2395 (by decide) (sx_widen (Nat.le_add_right _ _) (Nat.le_add_right _ _) (hend f g o (I.same (z_fx.refl f) (z_gx.refl g))))
    rw [nI_toInt (by omega)]
    omega
set_option maxRecDepth 100000 in
set_option maxHeartbeats 8000000 in
theorem law_loop {p : Program} {l : Launch} {e : Env} {s : State} {m : MethodId} {below : List Frame} {meth : Method} {c : Code} {D : va_G} {G : sx_G} {A : Nat → Prop} {b1 b2 bo bs L : Nat} {xs : Nat → Int32} (hf : l.stackTraces = false) (C : sx_Cx p l s m #[.ref bs] meth c D G A cL_law 7 RL) (hNC : sx_NC s) (hB1 : ∀ k, k < 129 → A (b1 + k)) (hB2 : ∀ k, k < 26 → A (b2 + k)) (hA : A bo) (hd12 : b1 + 129 ≤ b2) (hd2 : b2 + 26 ≤ bo) (hX : va_X bs L xs s s.heap) (hbl : bs < s.heap.size) (hbA : ¬ A bs) (hL : L ≤ 2560) (hAC : A = sx_AC s.heap.size) (hr : meth.sig.returnType = ret) : ∀ (n t cl sl : Nat) (f g : sx_F) (o : Nat → Int64), z_I t f g → t + n = 513 → cl ≤ 156 + 9 * t → sl ≤ 12739 + 54 * t → sx_J (sx_wl D G b1 129 lyX b2 26 lyM bo) p l e room_1 s m #[.ref bs] below meth c A 7 cl sl (lw_Z below #[Value.ref bs] s) (f, g, o) 23 [(0, .ref bs), (1, .ref (b1 + 0)), (2, .ref (b2 + 0)), (3, .ref bo), (4, .int (nI (5 * t)))] [] := by
  intro n
  induction n with
  | zero =>
    intro t cl sl f g o I h1 h2 h3
    refine sx_iload C dL_law_23 4 rfl 25 rfl ?_
    refine sx_aload_n C dL_law_25 0 0 rfl rfl 26 rfl ?_
    refine sx_slen C hX hbl hbA dL_law_26 27 rfl ?_
    refine sx_iconst C dL_law_27 5 (by decide) 28 rfl ?_
    refine sx_isub C dL_law_28 29 rfl ?_
    refine sx_icmp_gt C dL_law_29 2401 32 (by decide) rfl (fun _ => ?_) (fun z => ?_)
    · refine sx_iconst C dL_law_2401 1 (by decide) 2402 rfl ?_
      subst hAC
      exact fun H locs ls hP hS hl => va_forget (fun q hq => hS.2.2 q hq) (W.widen (k := 601024) (n := 7293034) (by omega) (by omega) (lw_ret C.1 C.2.1 hr C.2.2.2.2.2.2.1 dL_law_2402))
    · exfalso
      refine z ?_
      rw [Int32.lt_iff_toInt_lt, show (Int32.ofNat L - 5 : Int32) = nI L - nI 5 from rfl, pk_sub_toInt (by omega) (by omega), nI_toInt (by omega)]
      omega
  | succ n ih =>
    intro t cl sl f g o I h1 h2 h3
    refine sx_iload C dL_law_23 4 rfl 25 rfl ?_
    refine sx_aload_n C dL_law_25 0 0 rfl rfl 26 rfl ?_
    refine sx_slen C hX hbl hbA dL_law_26 27 rfl ?_
    refine sx_iconst C dL_law_27 5 (by decide) 28 rfl ?_
    refine sx_isub C dL_law_28 29 rfl ?_
    refine sx_icmp_gt C dL_law_29 2401 32 (by decide) rfl (fun _ => ?_) (fun z => ?_)
    · refine sx_iconst C dL_law_2401 1 (by decide) 2402 rfl ?_
      subst hAC
      exact fun H locs ls hP hS hl => va_forget (fun q hq => hS.2.2 q hq) (W.widen (k := 601024) (n := 7293034) (by omega) (by omega) (lw_ret C.1 C.2.1 hr C.2.2.2.2.2.2.1 dL_law_2402))
    · have hin : 5 * t + 5 ≤ L := by
        rw [Int32.lt_iff_toInt_lt, show (Int32.ofNat L - 5 : Int32) = nI L - nI 5 from rfl, pk_sub_toInt (by omega) (by omega), nI_toInt (by omega)] at z
        omega
      refine law_turn hf C hNC hB1 hB2 hA hd12 hd2 hX hbl hbA hL I hin (by omega) (fun f1 g1 o1 I1 => ?_)
      refine sx_iinc C dL_law_2395 4 rfl (nI (5 * (t + 1))) (show nI (5 * t) + nI 5 = _ from nI_add (5 * t) 5) [(4, .int (nI (5 * (t + 1)))), (0, .ref bs), (1, .ref (b1 + 0)), (2, .ref (b2 + 0)), (3, .ref bo)] (by decide) rfl 2398 rfl ?_
      refine sx_goto C dL_law_2398 23 (by decide) ?_
      refine sx_sub [1, 2, 3, 4, 0] rfl ?_
      exact ih (t + 1) (cl + 9) (sl + 54) f1 g1 o1 I1 (by omega) (by omega) (by omega)
