theorem k_holds : P_L_holds fX0 sl_a0 sl_o0 := by
  sorry
