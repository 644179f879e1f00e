def P_X6_slotOf (f : sx_F) (x0 : Int32) (x1 : Int32) (Q : Int32 → Prop) : Prop :=
  Q ((x0 * 12) + x1)
def P_X4_pitchAt (f : sx_F) (x1 : Int32) (x2 : Int32) (Q : Int32 → Prop) : Prop :=
  (vp_in ((x1 * 8) + x2) 480 ∧ Q (f 7 ((x1 * 8) + x2).toNatClampNeg))
def P_X4_isSilent (f : sx_F) (x1 : Int32) (x2 : Int32) (Q : Int32 → Prop) : Prop :=
  ∀ (B9 : Int32 → Int32 → Prop),
  (∀ (v3 : Int32) (v4 : Int32), (vp_in v3 60 ∧ (((f 5 v3.toNatClampNeg) ≤ v4 → Q 1) ∧ (¬ (f 5 v3.toNatClampNeg) ≤ v4 → (P_X4_pitchAt f v3 v4 (fun r2 => ((r2 ≤ 0 → (∀ y5 : Int32, y5 = v4 + 1 → B9 v3 y5)) ∧ (¬ r2 ≤ 0 → Q 0))))))) → B9 v3 v4) →
  (P_X6_slotOf f x1 x2 (fun r6 => B9 r6 0))
def P_X4_cuePlayer (f : sx_F) (x1 : Int32) (x2 : Int32) (Q : Int32 → Prop) : Prop :=
  ∀ (B61 : Prop),
  ∀ (B62 : Int32 → Prop),
  ∀ (B78 : Int32 → Int32 → Int32 → Prop),
  ∀ (B128 : Int32 → Int32 → Int32 → Prop),
  (B62 0 → B61 ) →
  (∀ (s0 : Int32), ((s0 = 0 → Q (-1)) ∧ (¬ s0 = 0 → B78 (-1) 0 0)) → B62 s0) →
  (∀ (v4 : Int32) (v5 : Int32) (v6 : Int32), ((5 ≤ v6 → Q v4) ∧ (¬ 5 ≤ v6 → (P_X6_slotOf f v6 x2 (fun r3 => (vp_in r3 60 ∧ (∀ y5 : Int32, y5 = (f 5 r3.toNatClampNeg) → ((v6 = x1 → B128 v4 v5 v6) ∧ (¬ v6 = x1 → ((y5 ≤ v5 → B128 v4 v5 v6) ∧ (¬ y5 ≤ v5 → (P_X4_isSilent f v6 x2 (fun r8 => ((r8 = 0 → B128 v6 y5 v6) ∧ (¬ r8 = 0 → B128 v4 v5 v6)))))))))))))) → B78 v4 v5 v6) →
  (∀ (v4 : Int32) (v5 : Int32) (v6 : Int32), (∀ y11 : Int32, y11 = v6 + 1 → B78 v4 v5 y11) → B128 v4 v5 v6) →
  ((x2 < 2 → B61) ∧ (¬ x2 < 2 → (((f 1 0) ≤ (x2 + 1) → B61) ∧ (¬ (f 1 0) ≤ (x2 + 1) → (P_X4_isSilent f x1 (x2 - 2) (fun r14 => ((r14 = 0 → B61) ∧ (¬ r14 = 0 → (P_X4_isSilent f x1 (x2 - 1) (fun r17 => ((r17 = 0 → B61) ∧ (¬ r17 = 0 → (P_X4_isSilent f x1 x2 (fun r20 => ((r20 = 0 → B61) ∧ (¬ r20 = 0 → (P_X4_isSilent f x1 (x2 + 1) (fun r23 => ((r23 = 0 → B62 1) ∧ (¬ r23 = 0 → B61))))))))))))))))))))
def P_X0_drawerOf (f : sx_F) (x1 : Int32) (Q : Int32 → Prop) : Prop :=
  ∀ (B23 : Prop),
  (Q (f 8 2) → B23 ) →
  (((f 8 2) = 5 → B23) ∧ (¬ (f 8 2) = 5 → (P_X4_isSilent f (f 8 2) x1 (fun r2 => ((r2 = 0 → B23) ∧ (¬ r2 = 0 → (P_X4_cuePlayer f (f 8 2) x1 (fun r5 => Q r5))))))))
def P_X5_addSpring (f : sx_F) (x1 : Int32) (x2 : Int32) (x3 : Int32) (Q : sx_F → Prop) : Prop :=
  (vp_in (f 9 0) 32 ∧ ∀ g1 : sx_F, g1 = sx_u f 10 (f 9 0).toNatClampNeg x1 → (vp_in (g1 9 0) 33 ∧ (vp_in ((g1 9 0) + 1) 33 ∧ ∀ g2 : sx_F, g2 = sx_u g1 11 ((g1 9 0) + 1).toNatClampNeg ((g1 11 (g1 9 0).toNatClampNeg) + x2) → (vp_in (g2 9 0) 33 ∧ (vp_in ((g2 9 0) + 1) 33 ∧ ∀ g3 : sx_F, g3 = sx_u g2 12 ((g2 9 0) + 1).toNatClampNeg ((g2 12 (g2 9 0).toNatClampNeg) + x3) → (∀ g4 : sx_F, g4 = sx_u g3 9 0 ((g3 9 0) + 1) → Q g4))))))
def P_J7_fill_53178 (f : sx_F) (k0 : Nat) (Nk0 : Nat) (x1 : Int32) (Q : sx_F → Prop) : Prop :=
  ∀ (B5 : sx_F → Int32 → Int32 → Prop),
  (∀ (f : sx_F) (v2 : Int32) (v3 : Int32), ((v3 ≤ v2 → Q f) ∧ (¬ v3 ≤ v2 → (vp_in v2 Nk0 ∧ ∀ g2 : sx_F, g2 = sx_u f k0 v2.toNatClampNeg x1 → (∀ y3 : Int32, y3 = v2 + 1 → B5 g2 y3 v3)))) → B5 f v2 v3) →
  (∀ y4 : Int32, y4 = (Int32.ofNat Nk0) → B5 f 0 y4)
def P_X5_addPlace (f : sx_F) (x1 : Int32) (x2 : Int32) (Q : sx_F → Prop) : Prop :=
  ∀ (B17 : sx_F → Prop),
  (∀ (f : sx_F), ((x2 = 0 → Q f) ∧ (¬ x2 = 0 → (vp_in x1 32 ∧ (vp_in x1 32 ∧ ∀ g2 : sx_F, g2 = sx_u f 13 x1.toNatClampNeg ((f 13 x1.toNatClampNeg) + 1) → Q g2)))) → B17 f) →
  (vp_in x1 32 ∧ (((f 13 x1.toNatClampNeg) = (-1) → (vp_in x1 32 ∧ ∀ g4 : sx_F, g4 = sx_u f 13 x1.toNatClampNeg 0 → B17 g4)) ∧ (¬ (f 13 x1.toNatClampNeg) = (-1) → B17 f)))
def P_X4_lengthAt (f : sx_F) (x1 : Int32) (x2 : Int32) (Q : Int32 → Prop) : Prop :=
  (vp_in ((x1 * 8) + x2) 480 ∧ Q (f 6 ((x1 * 8) + x2).toNatClampNeg))
def P_X5_addPlaces (f : sx_F) (x2 : Int32) (x3 : Int32) (Q : sx_F → Prop) : Prop :=
  ∀ (B6 : sx_F → Int32 → Int32 → Prop),
  ∀ (B41 : sx_F → Int32 → Int32 → Int32 → Int32 → Prop),
  ∀ (B62 : sx_F → Int32 → Prop),
  (∀ (f : sx_F) (v4 : Int32) (v5 : Int32), (vp_in x2 60 ∧ (((f 5 x2.toNatClampNeg) ≤ v5 → B62 f v4) ∧ (¬ (f 5 x2.toNatClampNeg) ≤ v5 → ((x3 ≤ v4 → B62 f v4) ∧ (¬ x3 ≤ v4 → (P_X4_pitchAt f x2 v5 (fun r3 => ((r3 ≤ 0 → B41 f v4 v5 v4 0) ∧ (¬ r3 ≤ 0 → B41 f v4 v5 v4 1))))))))) → B6 f v4 v5) →
  (∀ (f : sx_F) (v4 : Int32) (v5 : Int32) (s1 : Int32) (s2 : Int32), (P_X5_addPlace f s1 s2 (fun g6 => (P_X4_lengthAt g6 x2 v5 (fun r7 => (∀ y9 : Int32, y9 = (v4 + r7) → (∀ y10 : Int32, y10 = v5 + 1 → B6 g6 y9 y10)))))) → B41 f v4 v5 s1 s2) →
  (∀ (f : sx_F) (v4 : Int32), ((x3 ≤ v4 → Q f) ∧ (¬ x3 ≤ v4 → (P_X5_addPlace f v4 0 (fun g12 => Q g12)))) → B62 f v4) →
  B6 f 0 0
def P_X5_nextPlace (f : sx_F) (x1 : Int32) (x2 : Int32) (Q : Int32 → Prop) : Prop :=
  ∀ (B4 : Int32 → Prop),
  (∀ (v3 : Int32), ((x2 ≤ v3 → Q x2) ∧ (¬ x2 ≤ v3 → (vp_in v3 32 ∧ (((f 13 v3.toNatClampNeg) = (-1) → (∀ y3 : Int32, y3 = v3 + 1 → B4 y3)) ∧ (¬ (f 13 v3.toNatClampNeg) = (-1) → Q v3))))) → B4 v3) →
  (∀ y4 : Int32, y4 = (x1 + 1) → B4 y4)
def P_X5_naturalWidth (f : sx_F) (x0 : Int32) (Q : Int32 → Prop) : Prop :=
  ∀ (B5 : Int32 → Int32 → Prop),
  (∀ (v1 : Int32) (v2 : Int32), ((v2 ≤ 1 → Q v1) ∧ (¬ v2 ≤ 1 → (∀ y2 : Int32, y2 = v1 + 3 → (∀ y3 : Int32, y3 = (v2 / 2) → B5 y2 y3)))) → B5 v1 v2) →
  B5 6 x0
def P_X5_addSprings (f : sx_F) (x1 : Int32) (Q : sx_F → Prop) : Prop :=
  ∀ (B2 : sx_F → Int32 → Prop),
  ∀ (B51 : sx_F → Int32 → Prop),
  (∀ (f : sx_F) (v2 : Int32), ((x1 ≤ v2 → Q f) ∧ (¬ x1 ≤ v2 → (vp_in v2 32 ∧ (((f 13 v2.toNatClampNeg) = (-1) → B51 f v2) ∧ (¬ (f 13 v2.toNatClampNeg) = (-1) → (vp_in v2 32 ∧ (∀ y3 : Int32, y3 = (4 + (f 13 v2.toNatClampNeg)) → (P_X5_nextPlace f v2 x1 (fun r4 => (P_X5_naturalWidth f (r4 - v2) (fun r6 => (P_X5_addSpring f v2 (if r6 < y3 then y3 else r6) y3 (fun g8 => B51 g8 v2))))))))))))) → B2 f v2) →
  (∀ (f : sx_F) (v2 : Int32), (∀ y9 : Int32, y9 = v2 + 1 → B2 f y9) → B51 f v2) →
  B2 f 0
def P_X5_draw (f : sx_F) (x2 : Int32) (x3 : Int32) (Q : sx_F → Prop) : Prop :=
  ∀ (B31 : sx_F → Int32 → Prop),
  ∀ (B48 : sx_F → Int32 → Prop),
  ∀ (B65 : sx_F → Int32 → Prop),
  (∀ (f : sx_F) (v4 : Int32), ((5 ≤ v4 → (vp_in x3 12 ∧ (P_X5_addSprings f (f 2 x3.toNatClampNeg) (fun g2 => Q g2)))) ∧ (¬ 5 ≤ v4 → ((x2 = 5 → B48 f v4) ∧ (¬ x2 = 5 → ((x2 = v4 → B48 f v4) ∧ (¬ x2 = v4 → B65 f v4)))))) → B31 f v4) →
  (∀ (f : sx_F) (v4 : Int32), (P_X6_slotOf f v4 x3 (fun r5 => (vp_in x3 12 ∧ (P_X5_addPlaces f r5 (f 2 x3.toNatClampNeg) (fun g7 => B65 g7 v4))))) → B48 f v4) →
  (∀ (f : sx_F) (v4 : Int32), (∀ y8 : Int32, y8 = v4 + 1 → B31 f y8) → B65 f v4) →
  (∀ g9 : sx_F, g9 = sx_u f 9 0 0 → ((x2 = (-1) → (P_X5_addSpring g9 0 24 16 (fun g12 => Q g12))) ∧ (¬ x2 = (-1) → (P_J7_fill_53178 g9 13 32 (-1) (fun g11 => B31 g11 0)))))
def P_X5_widthOfAll (f : sx_F)  (Q : Int32 → Prop) : Prop :=
  (vp_in (f 9 0) 33 ∧ Q (f 11 (f 9 0).toNatClampNeg))
def P_X5_leastOfAll (f : sx_F)  (Q : Int32 → Prop) : Prop :=
  (vp_in (f 9 0) 33 ∧ Q (f 12 (f 9 0).toNatClampNeg))
def P_X0_addItem (f : sx_F) (x1 : Int32) (x2 : Int32) (Q : sx_F → Prop) : Prop :=
  (vp_in (f 8 3) 12 ∧ ∀ g1 : sx_F, g1 = sx_u f 14 (f 8 3).toNatClampNeg x1 → (vp_in (g1 8 3) 12 ∧ ∀ g2 : sx_F, g2 = sx_u g1 16 (g1 8 3).toNatClampNeg x2 → (P_X5_draw g2 x2 x1 (fun g3 => (vp_in (g3 8 3) 13 ∧ (P_X5_widthOfAll g3 (fun r4 => (vp_in ((g3 8 3) + 1) 13 ∧ ∀ g6 : sx_F, g6 = sx_u g3 17 ((g3 8 3) + 1).toNatClampNeg ((g3 17 (g3 8 3).toNatClampNeg) + r4) → (vp_in (g6 8 3) 13 ∧ (P_X5_leastOfAll g6 (fun r7 => (vp_in ((g6 8 3) + 1) 13 ∧ ∀ g9 : sx_F, g9 = sx_u g6 18 ((g6 8 3) + 1).toNatClampNeg ((g6 18 (g6 8 3).toNatClampNeg) + r7) → (∀ g10 : sx_F, g10 = sx_u g9 8 3 ((g9 8 3) + 1) → Q g10)))))))))))))
def P_X0_gather (f : sx_F) (x1 : Int32) (Q : sx_F → Prop) : Prop :=
  ∀ (B12 : sx_F → Int32 → Prop),
  ∀ (B60 : sx_F → Int32 → Int32 → Prop),
  ∀ (B61 : sx_F → Int32 → Int32 → Int32 → Prop),
  ∀ (B74 : sx_F → Int32 → Prop),
  (∀ (f : sx_F) (v2 : Int32), (((f 1 0) ≤ v2 → Q f) ∧ (¬ (f 1 0) ≤ v2 → (P_X0_drawerOf f v2 (fun r2 => ((r2 = (-1) → (((f 8 3) ≤ 0 → B60 f v2 r2) ∧ (¬ (f 8 3) ≤ 0 → (vp_in ((f 8 3) - 1) 12 ∧ (((f 16 ((f 8 3) - 1).toNatClampNeg) = (-1) → B61 f v2 r2 1) ∧ (¬ (f 16 ((f 8 3) - 1).toNatClampNeg) = (-1) → B60 f v2 r2)))))) ∧ (¬ r2 = (-1) → B60 f v2 r2)))))) → B12 f v2) →
  (∀ (f : sx_F) (v2 : Int32) (v3 : Int32), B61 f v2 v3 0 → B60 f v2 v3) →
  (∀ (f : sx_F) (v2 : Int32) (v3 : Int32) (s0 : Int32), ((s0 = 0 → (P_X0_addItem f v2 v3 (fun g8 => B74 g8 v2))) ∧ (¬ s0 = 0 → B74 f v2)) → B61 f v2 v3 s0) →
  (∀ (f : sx_F) (v2 : Int32), (vp_in v2 12 ∧ ∀ g9 : sx_F, g9 = sx_u f 15 v2.toNatClampNeg ((f 8 3) - 1) → (∀ y10 : Int32, y10 = v2 + 1 → B12 g9 y10)) → B74 f v2) →
  (∀ g11 : sx_F, g11 = sx_u f 8 2 x1 → (∀ g12 : sx_F, g12 = sx_u g11 8 3 0 → B12 g12 0))
def P_X5_springFrom (f : sx_F) (x1 : Int32) (Q : Int32 → Prop) : Prop :=
  ∀ (B2 : Int32 → Prop),
  (∀ (v2 : Int32), (((f 9 0) ≤ v2 → Q (-1)) ∧ (¬ (f 9 0) ≤ v2 → (vp_in v2 32 ∧ (((f 10 v2.toNatClampNeg) = x1 → Q v2) ∧ (¬ (f 10 v2.toNatClampNeg) = x1 → (∀ y3 : Int32, y3 = v2 + 1 → B2 y3)))))) → B2 v2) →
  B2 0
def P_X0_drawSpring (f : sx_F) (x1 : Int32) (x2 : Int32) (Q : Int32 → sx_F → Prop) : Prop :=
  (vp_in x1 12 ∧ (∀ y1 : Int32, y1 = (f 15 x1.toNatClampNeg) → (vp_in y1 12 ∧ (vp_in y1 12 ∧ (P_X5_draw f (f 16 y1.toNatClampNeg) (f 14 y1.toNatClampNeg) (fun g2 => (vp_in y1 12 ∧ (((g2 14 y1.toNatClampNeg) = x1 → (P_X5_springFrom g2 x2 (fun r4 => Q r4 g2))) ∧ (¬ (g2 14 y1.toNatClampNeg) = x1 → Q (-1) g2)))))))))
def P_X0_widthOf (f : sx_F) (x1 : Int32) (x2 : Int32) (Q : Int32 → Prop) : Prop :=
  (vp_in x2 13 ∧ (vp_in x1 13 ∧ Q (((8 * (x2 - x1)) + (f 17 x2.toNatClampNeg)) - (f 17 x1.toNatClampNeg))))
def P_X0_leastOf (f : sx_F) (x1 : Int32) (x2 : Int32) (Q : Int32 → Prop) : Prop :=
  (vp_in x2 13 ∧ (vp_in x1 13 ∧ Q (((8 * (x2 - x1)) + (f 18 x2.toNatClampNeg)) - (f 18 x1.toNatClampNeg))))
def P_X1_isOut (f : sx_F) (o0 : Nat) (Q : Int32 → Prop) : Prop :=
  (((f o0 2) = (-1) → Q 0) ∧ (¬ (f o0 2) = (-1) → Q 1))
def P_X1_scoreVersion (f : sx_F) (o0 : Nat) (x1 : Int32) (Q : Int32 → Prop) : Prop :=
  (P_X6_slotOf f (f o0 1) x1 (fun r1 => (vp_in r1 60 ∧ Q (f 4 r1.toNatClampNeg))))
def P_X1_takeVersions (f : sx_F) (o0 : Nat) (Q : sx_F → Prop) : Prop :=
  ∀ (B2 : sx_F → Int32 → Prop),
  ∀ (B33 : sx_F → Int32 → Int32 → Int32 → Prop),
  (∀ (f : sx_F) (v1 : Int32), ((12 ≤ v1 → Q f) ∧ (¬ 12 ≤ v1 → (((f 1 0) ≤ v1 → B33 f v1 v1 (-1)) ∧ (¬ (f 1 0) ≤ v1 → (P_X1_scoreVersion f o0 v1 (fun r3 => B33 f v1 v1 r3)))))) → B2 f v1) →
  (∀ (f : sx_F) (v1 : Int32) (s1 : Int32) (s2 : Int32), (vp_in s1 12 ∧ ∀ g5 : sx_F, g5 = sx_u f (o0 + 1) s1.toNatClampNeg s2 → (∀ y6 : Int32, y6 = v1 + 1 → B2 g5 y6)) → B33 f v1 s1 s2) →
  B2 f 0
def P_X1_versionOf (f : sx_F) (o0 : Nat) (x1 : Int32) (Q : Int32 → Prop) : Prop :=
  (P_X1_isOut f o0 (fun r1 => ((r1 = 0 → (P_X1_scoreVersion f o0 x1 (fun r4 => Q r4))) ∧ (¬ r1 = 0 → (vp_in x1 12 ∧ Q (f (o0 + 1) x1.toNatClampNeg))))))
def P_X1_lacks (f : sx_F) (o0 : Nat) (x1 : Int32) (Q : Int32 → Prop) : Prop :=
  (P_X1_versionOf f o0 x1 (fun r1 => ((r1 = (-1) → Q 1) ∧ (¬ r1 = (-1) → Q 0))))
def P_X1_owes (f : sx_F) (o0 : Nat) (x1 : Int32) (Q : Int32 → Prop) : Prop :=
  (P_X1_versionOf f o0 x1 (fun r1 => (P_X1_scoreVersion f o0 x1 (fun r3 => ((r1 = r3 → Q 0) ∧ (¬ r1 = r3 → Q 1))))))
def P_X1_countDebts (f : sx_F) (o0 : Nat) (Q : Int32 → Prop) : Prop :=
  ∀ (B4 : Int32 → Int32 → Prop),
  ∀ (B26 : Int32 → Int32 → Prop),
  (∀ (v1 : Int32) (v2 : Int32), (((f 1 0) ≤ v2 → Q v1) ∧ (¬ (f 1 0) ≤ v2 → (P_X1_owes f o0 v2 (fun r2 => ((r2 = 0 → B26 v1 v2) ∧ (¬ r2 = 0 → (∀ y5 : Int32, y5 = v1 + 1 → B26 y5 v2))))))) → B4 v1 v2) →
  (∀ (v1 : Int32) (v2 : Int32), (∀ y6 : Int32, y6 = v2 + 1 → B4 v1 y6) → B26 v1 v2) →
  B4 0 0
def P_X2_changeMark (f : sx_F) (o0 : Nat) (x1 : Int32) (x2 : Int32) (x3 : Int32) (Q : Int32 → sx_F → Prop) : Prop :=
  (vp_in x1 60 ∧ (∀ y1 : Int32, y1 = (f (o0 + 1) x1.toNatClampNeg) → (vp_in x1 60 ∧ ∀ g2 : sx_F, g2 = sx_u f (o0 + 1) x1.toNatClampNeg x2 → (vp_in x1 60 ∧ ∀ g3 : sx_F, g3 = sx_u g2 (o0 + 2) x1.toNatClampNeg x3 → Q y1 g3))))
def P_X2_countOldMarks (f : sx_F) (o0 : Nat) (Q : Int32 → Prop) : Prop :=
  ∀ (B4 : Int32 → Int32 → Prop),
  ∀ (B37 : Int32 → Int32 → Prop),
  (∀ (v2 : Int32) (v3 : Int32), ((60 ≤ v3 → Q v2) ∧ (¬ 60 ≤ v3 → (vp_in v3 60 ∧ (((f (o0 + 1) v3.toNatClampNeg) = 0 → B37 v2 v3) ∧ (¬ (f (o0 + 1) v3.toNatClampNeg) = 0 → (vp_in v3 60 ∧ (vp_in v3 60 ∧ (((f (o0 + 2) v3.toNatClampNeg) = (f 4 v3.toNatClampNeg) → B37 v2 v3) ∧ (¬ (f (o0 + 2) v3.toNatClampNeg) = (f 4 v3.toNatClampNeg) → (∀ y4 : Int32, y4 = v2 + 1 → B37 y4 v3)))))))))) → B4 v2 v3) →
  (∀ (v2 : Int32) (v3 : Int32), (∀ y5 : Int32, y5 = v3 + 1 → B4 v2 y5) → B37 v2 v3) →
  B4 0 0
def P_X2_bowingAt (f : sx_F) (o0 : Nat) (x1 : Int32) (x2 : Int32) (x3 : Int32) (Q : Int32 → Prop) : Prop :=
  (vp_in x1 60 ∧ (((f (o0 + 4) x1.toNatClampNeg) = x3 → (vp_in x1 60 ∧ Q (((f (o0 + 3) x1.toNatClampNeg) >>> ((2 * x2) &&& 31)) &&& 3))) ∧ (¬ (f (o0 + 4) x1.toNatClampNeg) = x3 → Q 0)))
def P_X2_changeBowing (f : sx_F) (o0 : Nat) (x1 : Int32) (x2 : Int32) (x3 : Int32) (x4 : Int32) (Q : Int32 → sx_F → Prop) : Prop :=
  ∀ (B36 : sx_F → Int32 → Prop),
  (∀ (f : sx_F) (v5 : Int32), (vp_in x1 60 ∧ (vp_in x1 60 ∧ ∀ g1 : sx_F, g1 = sx_u f (o0 + 3) x1.toNatClampNeg (((f (o0 + 3) x1.toNatClampNeg) &&& ((3 <<< ((2 * x2) &&& 31)) ^^^ (-1))) ||| (x3 <<< ((2 * x2) &&& 31))) → Q v5 g1)) → B36 f v5) →
  (P_X2_bowingAt f o0 x1 x2 x4 (fun r2 => (vp_in x1 60 ∧ (((f (o0 + 4) x1.toNatClampNeg) = x4 → B36 f r2) ∧ (¬ (f (o0 + 4) x1.toNatClampNeg) = x4 → (vp_in x1 60 ∧ ∀ g5 : sx_F, g5 = sx_u f (o0 + 4) x1.toNatClampNeg x4 → (vp_in x1 60 ∧ ∀ g6 : sx_F, g6 = sx_u g5 (o0 + 3) x1.toNatClampNeg 0 → B36 g6 r2)))))))
def P_X4_silenceAtEnd (f : sx_F) (x1 : Int32) (x2 : Int32) (Q : Int32 → Prop) : Prop :=
  ∀ (B15 : Int32 → Int32 → Int32 → Int32 → Prop),
  ∀ (B52 : Int32 → Int32 → Int32 → Int32 → Prop),
  (∀ (v3 : Int32) (v4 : Int32) (v5 : Int32) (v6 : Int32), (vp_in v3 60 ∧ (((f 5 v3.toNatClampNeg) ≤ v6 → (vp_in x2 12 ∧ Q ((f 2 x2.toNatClampNeg) - v5))) ∧ (¬ (f 5 v3.toNatClampNeg) ≤ v6 → (P_X4_lengthAt f v3 v6 (fun r2 => (∀ y4 : Int32, y4 = (v4 + r2) → (P_X4_pitchAt f v3 v6 (fun r5 => ((r5 ≤ 0 → B52 v3 y4 v5 v6) ∧ (¬ r5 ≤ 0 → B52 v3 y4 y4 v6)))))))))) → B15 v3 v4 v5 v6) →
  (∀ (v3 : Int32) (v4 : Int32) (v5 : Int32) (v6 : Int32), (∀ y8 : Int32, y8 = v6 + 1 → B15 v3 v4 v5 y8) → B52 v3 v4 v5 v6) →
  (P_X6_slotOf f x1 x2 (fun r9 => B15 r9 0 0 0))
def P_X4_silenceAtBeginning (f : sx_F) (x1 : Int32) (x2 : Int32) (Q : Int32 → Prop) : Prop :=
  ∀ (B12 : Int32 → Int32 → Int32 → Prop),
  (∀ (v3 : Int32) (v4 : Int32) (v5 : Int32), (vp_in v3 60 ∧ (((f 5 v3.toNatClampNeg) ≤ v5 → (vp_in x2 12 ∧ Q (f 2 x2.toNatClampNeg))) ∧ (¬ (f 5 v3.toNatClampNeg) ≤ v5 → (P_X4_pitchAt f v3 v5 (fun r2 => ((r2 ≤ 0 → (P_X4_lengthAt f v3 v5 (fun r5 => (∀ y7 : Int32, y7 = (v4 + r5) → (∀ y8 : Int32, y8 = v5 + 1 → B12 v3 y7 y8))))) ∧ (¬ r2 ≤ 0 → Q v4))))))) → B12 v3 v4 v5) →
  (P_X6_slotOf f x1 x2 (fun r9 => B12 r9 0 0))
def P_X4_silenceAround (f : sx_F) (x1 : Int32) (x2 : Int32) (Q : Int32 → Prop) : Prop :=
  ∀ (B7 : Int32 → Int32 → Prop),
  ∀ (B47 : Int32 → Prop),
  ∀ (B50 : Int32 → Int32 → Prop),
  (∀ (v3 : Int32) (v4 : Int32), ((v4 < 0 → B47 v3) ∧ (¬ v4 < 0 → (P_X4_silenceAtEnd f x1 v4 (fun r2 => (∀ y4 : Int32, y4 = (v3 + r2) → (vp_in v4 12 ∧ (((f 2 v4.toNatClampNeg) ≤ r2 → (∀ y6 : Int32, y6 = v4 + (-1) → B7 y4 y6)) ∧ (¬ (f 2 v4.toNatClampNeg) ≤ r2 → B47 y4)))))))) → B7 v3 v4) →
  (∀ (v3 : Int32), B50 v3 x2 → B47 v3) →
  (∀ (v3 : Int32) (v4 : Int32), (((f 1 0) ≤ v4 → Q v3) ∧ (¬ (f 1 0) ≤ v4 → (P_X4_silenceAtBeginning f x1 v4 (fun r8 => (∀ y10 : Int32, y10 = (v3 + r8) → (vp_in v4 12 ∧ (((f 2 v4.toNatClampNeg) ≤ r8 → (∀ y12 : Int32, y12 = v4 + 1 → B50 y10 y12)) ∧ (¬ (f 2 v4.toNatClampNeg) ≤ r8 → Q y10)))))))) → B50 v3 v4) →
  (∀ y13 : Int32, y13 = (x2 - 1) → B7 0 y13)
def P_X3_priceTurns (f : sx_F)  (Q : sx_F → Prop) : Prop :=
  ∀ (B22 : sx_F → Int32 → Prop),
  (∀ (f : sx_F) (v1 : Int32), (((f 8 3) ≤ v1 → Q f) ∧ (¬ (f 8 3) ≤ v1 → (vp_in v1 12 ∧ (P_X4_silenceAround f (f 8 2) (f 14 v1.toNatClampNeg) (fun r2 => (vp_in v1 13 ∧ ∀ g4 : sx_F, g4 = sx_u f 20 v1.toNatClampNeg (100 * (if 0 < (16 - r2) then (16 - r2) else 0)) → (∀ y5 : Int32, y5 = v1 + 1 → B22 g4 y5))))))) → B22 f v1) →
  (P_J7_fill_53178 f 20 13 0 (fun g6 => (((g6 8 2) = 5 → Q g6) ∧ (¬ (g6 8 2) = 5 → B22 g6 0))))
def P_X3_nextOnPage (f : sx_F) (x1 : Int32) (Q : Int32 → Prop) : Prop :=
  (((f 19 2) ≤ (x1 + 1) → Q 0) ∧ (¬ (f 19 2) ≤ (x1 + 1) → Q (x1 + 1)))
def P_X3_mayBeLine (f : sx_F) (x1 : Int32) (x2 : Int32) (Q : Int32 → Prop) : Prop :=
  ∀ (B23 : Prop),
  (Q 1 → B23 ) →
  (((x2 - x1) = 1 → B23) ∧ (¬ (x2 - x1) = 1 → (P_X0_leastOf f x1 x2 (fun r2 => (((f 19 1) < r2 → Q 0) ∧ (¬ (f 19 1) < r2 → B23))))))
def P_X3_badness (f : sx_F) (x1 : Int32) (x2 : Int32) (Q : Int32 → Prop) : Prop :=
  (P_X0_widthOf f x1 x2 (fun r1 => (∀ y3 : Int32, y3 = (r1 - (f 19 1)) → ((y3 ≤ 0 → ((x2 = (f 8 3) → Q 0) ∧ (¬ x2 = (f 8 3) → Q (y3 * y3)))) ∧ (¬ y3 ≤ 0 → Q (((2 * y3) * 2) * y3))))))
def P_X3_turnAhead (f : sx_F) (x1 : Int32) (x2 : Int32) (Q : Int32 → Prop) : Prop :=
  ((x2 = 0 → (vp_in x1 13 ∧ Q (f 20 x1.toNatClampNeg))) ∧ (¬ x2 = 0 → Q 0))
def P_X3_chooseLine (f : sx_F) (x1 : Int32) (x2 : Int32) (Q : sx_F → Prop) : Prop :=
  ∀ (B30 : sx_F → Int32 → Int32 → Prop),
  ∀ (B134 : sx_F → Int32 → Int32 → Int32 → Int32 → Prop),
  ∀ (B164 : sx_F → Int32 → Int32 → Prop),
  (∀ (f : sx_F) (v3 : Int32) (v4 : Int32), (((f 8 3) < v4 → Q f) ∧ (¬ (f 8 3) < v4 → (P_X3_mayBeLine f x1 v4 (fun r2 => ((r2 = 0 → Q f) ∧ (¬ r2 = 0 → (P_X3_badness f x1 v4 (fun r5 => (P_X3_turnAhead f v4 v3 (fun r7 => (vp_in v4 13 ∧ ∀ w9 : Nat, w9 = 22 + v4.toNatClampNeg → (vp_in v3 6 ∧ (∀ y11 : Int32, y11 = ((r5 + r7) + (f w9 v3.toNatClampNeg)) → (vp_in v4 13 ∧ ∀ w12 : Nat, w12 = 36 + v4.toNatClampNeg → (vp_in v3 6 ∧ (∀ y14 : Int32, y14 = (1 + (f w12 v3.toNatClampNeg)) → (vp_in x1 13 ∧ ∀ w15 : Nat, w15 = 22 + x1.toNatClampNeg → (vp_in x2 6 ∧ ((y11 < (f w15 x2.toNatClampNeg) → B134 f v3 v4 y11 y14) ∧ (¬ y11 < (f w15 x2.toNatClampNeg) → (vp_in x1 13 ∧ ∀ w18 : Nat, w18 = 22 + x1.toNatClampNeg → (vp_in x2 6 ∧ ((y11 = (f w18 x2.toNatClampNeg) → (vp_in x1 13 ∧ ∀ w21 : Nat, w21 = 36 + x1.toNatClampNeg → (vp_in x2 6 ∧ (((f w21 x2.toNatClampNeg) ≤ y14 → B164 f v3 v4) ∧ (¬ (f w21 x2.toNatClampNeg) ≤ y14 → B134 f v3 v4 y11 y14))))) ∧ (¬ y11 = (f w18 x2.toNatClampNeg) → B164 f v3 v4)))))))))))))))))))))))) → B30 f v3 v4) →
  (∀ (f : sx_F) (v3 : Int32) (v4 : Int32) (v5 : Int32) (v6 : Int32), (vp_in x1 13 ∧ ∀ w24 : Nat, w24 = 22 + x1.toNatClampNeg → (vp_in x2 6 ∧ ∀ g26 : sx_F, g26 = sx_u f w24 x2.toNatClampNeg v5 → (vp_in x1 13 ∧ ∀ w27 : Nat, w27 = 36 + x1.toNatClampNeg → (vp_in x2 6 ∧ ∀ g29 : sx_F, g29 = sx_u g26 w27 x2.toNatClampNeg v6 → (vp_in x1 13 ∧ ∀ w30 : Nat, w30 = 50 + x1.toNatClampNeg → (vp_in x2 6 ∧ ∀ g32 : sx_F, g32 = sx_u g29 w30 x2.toNatClampNeg v4 → B164 g32 v3 v4)))))) → B134 f v3 v4 v5 v6) →
  (∀ (f : sx_F) (v3 : Int32) (v4 : Int32), (∀ y33 : Int32, y33 = v4 + 1 → B30 f v3 y33) → B164 f v3 v4) →
  (P_X3_nextOnPage f x2 (fun r34 => (vp_in x1 13 ∧ ∀ w36 : Nat, w36 = 22 + x1.toNatClampNeg → (vp_in x2 6 ∧ ∀ g38 : sx_F, g38 = sx_u f w36 x2.toNatClampNeg 1000000000 → (vp_in x1 13 ∧ ∀ w39 : Nat, w39 = 36 + x1.toNatClampNeg → (vp_in x2 6 ∧ ∀ g41 : sx_F, g41 = sx_u g38 w39 x2.toNatClampNeg 0 → (∀ y42 : Int32, y42 = (x1 + 1) → B30 g41 r34 y42)))))))
def P_X3_setLines (f : sx_F)  (Q : sx_F → Prop) : Prop :=
  ∀ (B23 : sx_F → Int32 → Int32 → Int32 → Prop),
  ∀ (B51 : sx_F → Int32 → Int32 → Int32 → Int32 → Prop),
  (∀ (f : sx_F) (v1 : Int32) (v2 : Int32) (v3 : Int32), (((f 19 7) ≤ v3 → (vp_in (f 19 7) 13 ∧ ∀ g2 : sx_F, g2 = sx_u f 63 (f 19 7).toNatClampNeg v1 → Q g2)) ∧ (¬ (f 19 7) ≤ v3 → (vp_in v3 13 ∧ ∀ g3 : sx_F, g3 = sx_u f 63 v3.toNatClampNeg v1 → (vp_in v1 13 ∧ ∀ w4 : Nat, w4 = 50 + v1.toNatClampNeg → (vp_in v2 6 ∧ (∀ y6 : Int32, y6 = (g3 w4 v2.toNatClampNeg) → B51 g3 v2 v3 y6 v1)))))) → B23 f v1 v2 v3) →
  (∀ (f : sx_F) (v2 : Int32) (v3 : Int32) (v4 : Int32) (v5 : Int32), ((v4 ≤ v5 → (P_X3_nextOnPage f v2 (fun r8 => (P_X3_turnAhead f v4 r8 (fun r10 => (∀ g12 : sx_F, g12 = sx_u f 19 8 ((f 19 8) + r10) → (∀ y13 : Int32, y13 = v3 + 1 → B23 g12 v4 r8 y13))))))) ∧ (¬ v4 ≤ v5 → (vp_in v5 12 ∧ ∀ g14 : sx_F, g14 = sx_u f 64 v5.toNatClampNeg v3 → (∀ y15 : Int32, y15 = v5 + 1 → B51 g14 v2 v3 v4 y15)))) → B51 f v2 v3 v4 v5) →
  (vp_in 0 13 ∧ ∀ w16 : Nat, w16 = 36 + (0 : Int32).toNatClampNeg → (vp_in 0 6 ∧ (∀ g18 : sx_F, g18 = sx_u f 19 7 (f w16 (0 : Int32).toNatClampNeg) → (∀ g19 : sx_F, g19 = sx_u g18 19 8 0 → B23 g19 0 0 0))))
def P_X3_breakLines (f : sx_F)  (Q : sx_F → Prop) : Prop :=
  ∀ (B6 : sx_F → Int32 → Prop),
  ∀ (B60 : sx_F → Int32 → Prop),
  ∀ (B66 : sx_F → Int32 → Int32 → Prop),
  (∀ (f : sx_F) (v1 : Int32), (((f 19 2) ≤ v1 → (∀ y2 : Int32, y2 = ((f 8 3) - 1) → B60 f y2)) ∧ (¬ (f 19 2) ≤ v1 → (vp_in (f 8 3) 13 ∧ ∀ w3 : Nat, w3 = 22 + (f 8 3).toNatClampNeg → (vp_in v1 6 ∧ ∀ g5 : sx_F, g5 = sx_u f w3 v1.toNatClampNeg 0 → (vp_in (g5 8 3) 13 ∧ ∀ w6 : Nat, w6 = 36 + (g5 8 3).toNatClampNeg → (vp_in v1 6 ∧ ∀ g8 : sx_F, g8 = sx_u g5 w6 v1.toNatClampNeg 0 → (∀ y9 : Int32, y9 = v1 + 1 → B6 g8 y9))))))) → B6 f v1) →
  (∀ (f : sx_F) (v1 : Int32), ((v1 < 0 → (P_X3_setLines f (fun g11 => Q g11))) ∧ (¬ v1 < 0 → B66 f v1 0)) → B60 f v1) →
  (∀ (f : sx_F) (v1 : Int32) (v2 : Int32), (((f 19 2) ≤ v2 → (∀ y13 : Int32, y13 = v1 + (-1) → B60 f y13)) ∧ (¬ (f 19 2) ≤ v2 → (P_X3_chooseLine f v1 v2 (fun g14 => (∀ y15 : Int32, y15 = v2 + 1 → B66 g14 v1 y15))))) → B66 f v1 v2) →
  (P_X3_priceTurns f (fun g16 => B6 g16 0))
def P_X3_leastCost (f : sx_F)  (Q : Int32 → Prop) : Prop :=
  (vp_in 0 13 ∧ ∀ w1 : Nat, w1 = 22 + (0 : Int32).toNatClampNeg → (vp_in 0 6 ∧ Q (f w1 (0 : Int32).toNatClampNeg)))
def P_X3_leastOfAllWays : Nat → sx_F → Int32 → Int32 → Int32 → (Int32 → Prop) → Prop
  | 0, _, _, _, _, _ => False
  | n + 1, f, x1, x2, x3, Q =>
  ∀ (B35 : Int32 → Int32 → Int32 → Prop),
  ∀ (B96 : Int32 → Int32 → Int32 → Prop),
  (∀ (v4 : Int32) (v5 : Int32) (v6 : Int32), (((f 8 3) < v6 → Q v5) ∧ (¬ (f 8 3) < v6 → (P_X3_mayBeLine f x1 v6 (fun r2 => ((r2 = 0 → B96 v4 v5 v6) ∧ (¬ r2 = 0 → (P_X3_badness f x1 v6 (fun r5 => (P_X3_turnAhead f v6 v4 (fun r7 => (∀ y9 : Int32, y9 = (r5 + r7) → (P_X3_leastOfAllWays n f v6 v4 (x3 + 1) (fun r10 => (∀ y12 : Int32, y12 = (if (y9 + r10) < v5 then (y9 + r10) else v5) → B96 v4 y12 v6)))))))))))))) → B35 v4 v5 v6) →
  (∀ (v4 : Int32) (v5 : Int32) (v6 : Int32), (∀ y13 : Int32, y13 = v6 + 1 → B35 v4 v5 y13) → B96 v4 v5 v6) →
  (((f 8 3) ≤ x1 → Q 0) ∧ (¬ (f 8 3) ≤ x1 → ((x3 < 12 → (P_X3_nextOnPage f x2 (fun r16 => (∀ y18 : Int32, y18 = (x1 + 1) → B35 r16 1000000000 y18)))) ∧ (¬ x3 < 12 → Q 0))))
def P_X3_leastByTrying (f : sx_F)  (Q : Int32 → sx_F → Prop) : Prop :=
  (P_X3_priceTurns f (fun g1 => (P_X3_leastOfAllWays 14 g1 0 0 0 (fun r2 => Q r2 g1))))
def P_X3_shrunkAhead (f : sx_F) (x1 : Int32) (x2 : Int32) (x3 : Int32) (x4 : Int32) (Q : Int32 → Prop) : Prop :=
  (P_X0_widthOf f x1 x2 (fun r1 => (P_X0_leastOf f x1 x2 (fun r3 => (∀ y5 : Int32, y5 = (r1 - r3) → ((y5 ≤ 0 → Q 0) ∧ (¬ y5 ≤ 0 → (¬ y5 = 0 ∧ Q (((if y5 < x3 then y5 else x3) * x4) / y5)))))))))
def P_X3_stretchedAhead (f : sx_F) (x1 : Int32) (x2 : Int32) (x3 : Int32) (x4 : Int32) (Q : Int32 → Prop) : Prop :=
  (vp_in x2 13 ∧ (vp_in x1 13 ∧ (∀ y1 : Int32, y1 = ((f 17 x2.toNatClampNeg) - (f 17 x1.toNatClampNeg)) → ((y1 ≤ 0 → Q 0) ∧ (¬ y1 ≤ 0 → (¬ y1 = 0 ∧ Q ((x3 * x4) / y1)))))))
def P_X3_springAt (f : sx_F) (x1 : Int32) (x2 : Int32) (Q : Int32 → Prop) : Prop :=
  (vp_in x1 12 ∧ (∀ y1 : Int32, y1 = (f 64 x1.toNatClampNeg) → (vp_in y1 13 ∧ (∀ y2 : Int32, y2 = (f 63 y1.toNatClampNeg) → (vp_in (y1 + 1) 13 ∧ (∀ y3 : Int32, y3 = (f 63 (y1 + 1).toNatClampNeg) → (vp_in x1 13 ∧ (vp_in y2 13 ∧ (vp_in x2 33 ∧ (∀ y4 : Int32, y4 = (((f 17 x1.toNatClampNeg) - (f 17 y2.toNatClampNeg)) + (f 11 x2.toNatClampNeg)) → (vp_in x1 13 ∧ (vp_in y2 13 ∧ (vp_in x2 33 ∧ (∀ y5 : Int32, y5 = (((f 18 x1.toNatClampNeg) - (f 18 y2.toNatClampNeg)) + (f 12 x2.toNatClampNeg)) → (∀ y6 : Int32, y6 = (((8 * (x1 - y2)) + 4) + y4) → (P_X0_widthOf f y2 y3 (fun r7 => (∀ y9 : Int32, y9 = (r7 - (f 19 1)) → ((y9 ≤ 0 → ((y3 = (f 8 3) → Q y6) ∧ (¬ y3 = (f 8 3) → (P_X3_stretchedAhead f y2 y3 (-y9) y4 (fun r12 => Q (y6 + r12)))))) ∧ (¬ y9 ≤ 0 → (P_X3_shrunkAhead f y2 y3 y9 (y4 - y5) (fun r14 => Q (y6 - r14)))))))))))))))))))))))
def P_X4_addBar (f : sx_F) (x1 : Int32) (Q : Int32 → sx_F → Prop) : Prop :=
  (vp_in (f 1 0) 12 ∧ ∀ g1 : sx_F, g1 = sx_u f 2 (f 1 0).toNatClampNeg x1 → (vp_in (g1 1 0) 13 ∧ (vp_in ((g1 1 0) + 1) 13 ∧ ∀ g2 : sx_F, g2 = sx_u g1 3 ((g1 1 0) + 1).toNatClampNeg ((g1 3 (g1 1 0).toNatClampNeg) + x1) → (∀ g3 : sx_F, g3 = sx_u g2 1 0 ((g2 1 0) + 1) → Q ((g3 1 0) - 1) g3))))
def P_X4_addNote (f : sx_F) (x1 : Int32) (x2 : Int32) (x3 : Int32) (Q : Int32 → sx_F → Prop) : Prop :=
  (vp_in x1 60 ∧ (∀ y1 : Int32, y1 = ((x1 * 8) + (f 5 x1.toNatClampNeg)) → (vp_in y1 480 ∧ ∀ g2 : sx_F, g2 = sx_u f 6 y1.toNatClampNeg x2 → (vp_in y1 480 ∧ ∀ g3 : sx_F, g3 = sx_u g2 7 y1.toNatClampNeg x3 → (vp_in x1 60 ∧ (vp_in x1 60 ∧ ∀ g4 : sx_F, g4 = sx_u g3 5 x1.toNatClampNeg ((g3 5 x1.toNatClampNeg) + 1) → (vp_in x1 60 ∧ (vp_in x1 60 ∧ ∀ g5 : sx_F, g5 = sx_u g4 4 x1.toNatClampNeg ((g4 4 x1.toNatClampNeg) + 1) → (vp_in x1 60 ∧ Q (g5 5 x1.toNatClampNeg) g5)))))))))
def P_X4_changePitch (f : sx_F) (x1 : Int32) (x2 : Int32) (x3 : Int32) (Q : Int32 → sx_F → Prop) : Prop :=
  (∀ y1 : Int32, y1 = ((x1 * 8) + x2) → (vp_in y1 480 ∧ (∀ y2 : Int32, y2 = (f 7 y1.toNatClampNeg) → ((y2 = x3 → Q y2 f) ∧ (¬ y2 = x3 → (vp_in y1 480 ∧ ∀ g4 : sx_F, g4 = sx_u f 7 y1.toNatClampNeg x3 → (vp_in x1 60 ∧ (vp_in x1 60 ∧ ∀ g5 : sx_F, g5 = sx_u g4 4 x1.toNatClampNeg ((g4 4 x1.toNatClampNeg) + 1) → Q y2 g5))))))))
def P_X4_takeNotes (f : sx_F) (x1 : Int32) (Q : Int32 → sx_F → Prop) : Prop :=
  (vp_in x1 60 ∧ (∀ y1 : Int32, y1 = (f 5 x1.toNatClampNeg) → ((y1 ≤ 0 → Q y1 f) ∧ (¬ y1 ≤ 0 → (vp_in x1 60 ∧ ∀ g3 : sx_F, g3 = sx_u f 5 x1.toNatClampNeg 0 → (vp_in x1 60 ∧ (vp_in x1 60 ∧ ∀ g4 : sx_F, g4 = sx_u g3 4 x1.toNatClampNeg ((g3 4 x1.toNatClampNeg) + 1) → Q y1 g4)))))))
def P_X4_filled (f : sx_F) (x1 : Int32) (Q : Int32 → Prop) : Prop :=
  ∀ (B4 : Int32 → Int32 → Prop),
  (∀ (v2 : Int32) (v3 : Int32), (vp_in x1 60 ∧ (((f 5 x1.toNatClampNeg) ≤ v3 → Q v2) ∧ (¬ (f 5 x1.toNatClampNeg) ≤ v3 → (P_X4_lengthAt f x1 v3 (fun r2 => (∀ y4 : Int32, y4 = (v2 + r2) → (∀ y5 : Int32, y5 = v3 + 1 → B4 y4 y5))))))) → B4 v2 v3) →
  B4 0 0
def P_X4_countTime (f : sx_F) (x1 : Int32) (Q : Int32 → Prop) : Prop :=
  ∀ (B4 : Int32 → Int32 → Prop),
  (∀ (v2 : Int32) (v3 : Int32), ((x1 ≤ v3 → Q v2) ∧ (¬ x1 ≤ v3 → (vp_in v3 12 ∧ (∀ y2 : Int32, y2 = (v2 + (f 2 v3.toNatClampNeg)) → (∀ y3 : Int32, y3 = v3 + 1 → B4 y2 y3))))) → B4 v2 v3) →
  B4 0 0
def P_X6_needValue (f : sx_F) (x0 : Int32) (x1 : Int32) (x2 : Int32) (Q : Prop) (X : String → Prop) : Prop :=
  ∀ (B10 : Prop),
  (X "java/lang/IllegalArgumentException" → B10 ) →
  ((x0 < x1 → B10) ∧ (¬ x0 < x1 → ((x0 ≤ x2 → Q) ∧ (¬ x0 ≤ x2 → B10))))
def P_X6_bar (f : sx_F) (x1 : Int32) (Q : Int32 → sx_F → Prop) (X : String → sx_F → Prop) : Prop :=
  (P_X6_needValue f x1 1 32 ((((f 1 0) < 12 → (P_X4_addBar f x1 (fun r4 g3 => Q r4 g3))) ∧ (¬ (f 1 0) < 12 → X "java/lang/IllegalStateException" f))) (fun E => X E f))
def P_X6_needIndex (f : sx_F) (x0 : Int32) (x1 : Int32) (Q : Prop) (X : String → Prop) : Prop :=
  ∀ (B9 : Prop),
  (X "java/lang/IndexOutOfBoundsException" → B9 ) →
  ((x0 < 0 → B9) ∧ (¬ x0 < 0 → ((x0 < x1 → Q) ∧ (¬ x0 < x1 → B9))))
def P_X6_needSlot (f : sx_F) (x1 : Int32) (x2 : Int32) (Q : Int32 → Prop) (X : String → Prop) : Prop :=
  (P_X6_needIndex f x1 5 ((P_X6_needIndex f x2 (f 1 0) ((P_X6_slotOf f x1 x2 (fun r3 => Q r3))) X)) X)
def P_X6_note (f : sx_F) (x1 : Int32) (x2 : Int32) (x3 : Int32) (x4 : Int32) (Q : Int32 → sx_F → Prop) (X : String → sx_F → Prop) : Prop :=
  (P_X6_needSlot f x1 x2 (fun r1 => (P_X6_needValue f x3 1 32 ((P_X6_needValue f x4 0 60 ((vp_in r1 60 ∧ (((f 5 r1.toNatClampNeg) < 8 → (P_X4_filled f r1 (fun r6 => (vp_in x2 12 ∧ (((r6 + x3) ≤ (f 2 x2.toNatClampNeg) → (P_X4_addNote f r1 x3 x4 (fun r10 g9 => Q r10 g9))) ∧ (¬ (r6 + x3) ≤ (f 2 x2.toNatClampNeg) → X "java/lang/IllegalStateException" f)))))) ∧ (¬ (f 5 r1.toNatClampNeg) < 8 → X "java/lang/IllegalStateException" f)))) (fun E => X E f))) (fun E => X E f))) (fun E => X E f))
def P_X6_mend (f : sx_F) (x1 : Int32) (x2 : Int32) (x3 : Int32) (x4 : Int32) (Q : Int32 → sx_F → Prop) (X : String → sx_F → Prop) : Prop :=
  (P_X6_needSlot f x1 x2 (fun r1 => (vp_in r1 60 ∧ (P_X6_needIndex f x3 (f 5 r1.toNatClampNeg) ((P_X6_needValue f x4 0 60 ((P_X4_changePitch f r1 x3 x4 (fun r6 g5 => Q r6 g5))) (fun E => X E f))) (fun E => X E f)))) (fun E => X E f))
def P_X6_empty (f : sx_F) (x1 : Int32) (x2 : Int32) (Q : Int32 → sx_F → Prop) (X : String → sx_F → Prop) : Prop :=
  (P_X6_needSlot f x1 x2 (fun r1 => (P_X4_takeNotes f r1 (fun r4 g3 => Q r4 g3))) (fun E => X E f))
def P_X6_setPaper (f : sx_F) (x1 : Int32) (x2 : Int32) (Q : Int32 → sx_F → Prop) (X : String → sx_F → Prop) : Prop :=
  (P_X6_needValue f x1 80 500 ((P_X6_needValue f x2 1 6 ((∀ y3 : Int32, y3 = (f 19 1) → (∀ g4 : sx_F, g4 = sx_u f 19 1 x1 → (∀ g5 : sx_F, g5 = sx_u g4 19 2 x2 → Q y3 g5)))) (fun E => X E f))) (fun E => X E f))
def P_X6_copy (f : sx_F) (x1 : Int32) (Q : Int32 → sx_F → Prop) (X : String → sx_F → Prop) : Prop :=
  (P_X6_needIndex f x1 5 ((((f 0 5) < 16 → (vp_in (f 0 5) 16 ∧ ∀ w3 : Nat, w3 = 66 + 2 * (f 0 5).toNatClampNeg → (∀ g5 : sx_F, g5 = sx_u f w3 1 x1 → (∀ g6 : sx_F, g6 = sx_u g5 0 5 ((g5 0 5) + 1) → Q ((g6 0 5) - 1) g6)))) ∧ (¬ (f 0 5) < 16 → X "java/lang/IllegalStateException" f))) (fun E => X E f))
def P_X6_deskHasPart (f : sx_F) (x1 : Int32) (x2 : Int32) (Q : Int32 → Prop) : Prop :=
  ∀ (B2 : Int32 → Prop),
  ∀ (B38 : Int32 → Prop),
  (∀ (v3 : Int32), (((f 0 5) ≤ v3 → Q 0) ∧ (¬ (f 0 5) ≤ v3 → (vp_in v3 16 ∧ ∀ w2 : Nat, w2 = 66 + 2 * v3.toNatClampNeg → (((f w2 2) = x1 → (vp_in v3 16 ∧ ∀ w5 : Nat, w5 = 66 + 2 * v3.toNatClampNeg → (((f w5 1) = x2 → Q 1) ∧ (¬ (f w5 1) = x2 → B38 v3)))) ∧ (¬ (f w2 2) = x1 → B38 v3))))) → B2 v3) →
  (∀ (v3 : Int32), (∀ y8 : Int32, y8 = v3 + 1 → B2 y8) → B38 v3) →
  B2 0
def P_X6_copiesOut (f : sx_F)  (Q : Int32 → Prop) : Prop :=
  ∀ (B4 : Int32 → Int32 → Prop),
  ∀ (B27 : Int32 → Int32 → Prop),
  (∀ (v1 : Int32) (v2 : Int32), (((f 0 5) ≤ v2 → Q v1) ∧ (¬ (f 0 5) ≤ v2 → (vp_in v2 16 ∧ ∀ w2 : Nat, w2 = 66 + 2 * v2.toNatClampNeg → (P_X1_isOut f w2 (fun r4 => ((r4 = 0 → B27 v1 v2) ∧ (¬ r4 = 0 → (∀ y7 : Int32, y7 = v1 + 1 → B27 y7 v2)))))))) → B4 v1 v2) →
  (∀ (v1 : Int32) (v2 : Int32), (∀ y8 : Int32, y8 = v2 + 1 → B4 v1 y8) → B27 v1 v2) →
  B4 0 0
def P_X6_lend (f : sx_F) (x1 : Int32) (x2 : Int32) (Q : Int32 → sx_F → Prop) (X : String → sx_F → Prop) : Prop :=
  (P_X6_needIndex f x1 (f 0 5) ((P_X6_needIndex f x2 6 ((vp_in x1 16 ∧ ∀ w3 : Nat, w3 = 66 + 2 * x1.toNatClampNeg → (P_X1_isOut f w3 (fun r5 => ((r5 = 0 → (P_X6_deskHasPart f x2 (f w3 1) (fun r8 => ((r8 = 0 → (∀ g11 : sx_F, g11 = sx_u f w3 2 x2 → (P_X1_takeVersions g11 w3 (fun g12 => (P_X6_copiesOut g12 (fun r13 => Q r13 g12)))))) ∧ (¬ r8 = 0 → X "java/lang/IllegalStateException" f))))) ∧ (¬ r5 = 0 → X "java/lang/IllegalStateException" f)))))) (fun E => X E f))) (fun E => X E f))
def P_X6_needCopyOut (f : sx_F) (x1 : Int32) (Q : Nat → Prop) (X : String → Prop) : Prop :=
  (P_X6_needIndex f x1 (f 0 5) ((vp_in x1 16 ∧ ∀ w2 : Nat, w2 = 66 + 2 * x1.toNatClampNeg → (P_X1_isOut f w2 (fun r4 => ((r4 = 0 → X "java/lang/IllegalStateException") ∧ (¬ r4 = 0 → Q w2)))))) X)
def P_X6_giveBack (f : sx_F) (x1 : Int32) (Q : Int32 → sx_F → Prop) (X : String → sx_F → Prop) : Prop :=
  (P_X6_needCopyOut f x1 (fun r1 => (P_X1_countDebts f r1 (fun r3 => (∀ g5 : sx_F, g5 = sx_u f r1 2 (-1) → Q r3 g5)))) (fun E => X E f))
def P_X6_paste (f : sx_F) (x1 : Int32) (Q : Int32 → sx_F → Prop) (X : String → sx_F → Prop) : Prop :=
  (P_X6_needCopyOut f x1 (fun r1 => (P_X1_countDebts f r1 (fun r3 => (P_X1_takeVersions f r1 (fun g5 => Q r3 g5))))) (fun E => X E f))
def P_X6_mark (f : sx_F) (x1 : Int32) (x2 : Int32) (x3 : Int32) (Q : Int32 → sx_F → Prop) (X : String → sx_F → Prop) : Prop :=
  (P_X6_needIndex f x1 (f 0 5) ((P_X6_needIndex f x2 (f 1 0) ((P_X6_needValue f x3 0 9 ((P_X6_needCopyOut f x1 (fun r4 => (P_X1_lacks f r4 x2 (fun r6 => ((r6 = 0 → (P_X6_slotOf f (f r4 1) x2 (fun r9 => (vp_in (f r4 2) 6 ∧ ∀ w11 : Nat, w11 = 99 + 5 * (f r4 2).toNatClampNeg → (P_X1_versionOf f r4 x2 (fun r13 => (P_X2_changeMark f w11 r9 x3 r13 (fun r16 g15 => Q r16 g15)))))))) ∧ (¬ r6 = 0 → X "java/lang/IllegalStateException" f))))) (fun E => X E f))) (fun E => X E f))) (fun E => X E f))) (fun E => X E f))
def P_X6_bow (f : sx_F) (x1 : Int32) (x2 : Int32) (x3 : Int32) (x4 : Int32) (Q : Int32 → sx_F → Prop) (X : String → sx_F → Prop) : Prop :=
  (P_X6_needIndex f x1 (f 0 5) ((vp_in x1 16 ∧ ∀ w2 : Nat, w2 = 66 + 2 * x1.toNatClampNeg → (P_X6_needSlot f (f w2 1) x2 (fun r4 => (vp_in r4 60 ∧ (P_X6_needIndex f x3 (f 5 r4.toNatClampNeg) ((P_X6_needValue f x4 0 2 ((P_X6_needCopyOut f x1 (fun r8 => (P_X1_owes f r8 x2 (fun r10 => ((r10 = 0 → (vp_in (f r8 2) 6 ∧ ∀ w13 : Nat, w13 = 99 + 5 * (f r8 2).toNatClampNeg → (vp_in r4 60 ∧ (P_X2_changeBowing f w13 r4 x3 x4 (f 4 r4.toNatClampNeg) (fun r16 g15 => Q r16 g15))))) ∧ (¬ r10 = 0 → X "java/lang/IllegalStateException" f))))) (fun E => X E f))) (fun E => X E f))) (fun E => X E f)))) (fun E => X E f)))) (fun E => X E f))
def P_X6_anyCopyOwes (f : sx_F)  (Q : Int32 → Prop) : Prop :=
  ∀ (B2 : Int32 → Prop),
  (∀ (v1 : Int32), (((f 0 5) ≤ v1 → Q 0) ∧ (¬ (f 0 5) ≤ v1 → (vp_in v1 16 ∧ ∀ w2 : Nat, w2 = 66 + 2 * v1.toNatClampNeg → (P_X1_countDebts f w2 (fun r4 => ((r4 ≤ 0 → (∀ y7 : Int32, y7 = v1 + 1 → B2 y7)) ∧ (¬ r4 ≤ 0 → Q 1))))))) → B2 v1) →
  B2 0
def P_X6_play (f : sx_F)  (Q : Int32 → sx_F → Prop) (X : String → sx_F → Prop) : Prop :=
  (P_X6_copiesOut f (fun r1 => ((r1 = 0 → X "java/lang/IllegalStateException" f) ∧ (¬ r1 = 0 → (P_X6_anyCopyOwes f (fun r4 => ((r4 = 0 → (∀ g7 : sx_F, g7 = sx_u f 0 6 ((f 0 6) + 1) → Q r1 g7)) ∧ (¬ r4 = 0 → X "java/lang/IllegalStateException" f))))))))
def P_X6_bars (f : sx_F)  (Q : Int32 → Prop) : Prop :=
  Q (f 1 0)
def P_X6_notes (f : sx_F) (x1 : Int32) (x2 : Int32) (Q : Int32 → Prop) (X : String → Prop) : Prop :=
  (P_X6_needSlot f x1 x2 (fun r1 => (vp_in r1 60 ∧ Q (f 5 r1.toNatClampNeg))) X)
def P_X6_noteAt (f : sx_F) (x1 : Int32) (x2 : Int32) (x3 : Int32) (Q : Int32 → Prop) (X : String → Prop) : Prop :=
  (P_X6_needSlot f x1 x2 (fun r1 => (vp_in r1 60 ∧ (P_X6_needIndex f x3 (f 5 r1.toNatClampNeg) ((P_X4_lengthAt f r1 x3 (fun r4 => (P_X4_pitchAt f r1 x3 (fun r6 => Q ((100 * r4) + r6)))))) X))) X)
def P_X6_version (f : sx_F) (x1 : Int32) (x2 : Int32) (Q : Int32 → Prop) (X : String → Prop) : Prop :=
  (P_X6_needSlot f x1 x2 (fun r1 => (vp_in r1 60 ∧ Q (f 4 r1.toNatClampNeg))) X)
def P_X6_time (f : sx_F) (x1 : Int32) (Q : Int32 → Prop) (X : String → Prop) : Prop :=
  (P_X6_needIndex f x1 ((f 1 0) + 1) ((vp_in x1 13 ∧ Q (f 3 x1.toNatClampNeg))) X)
def P_X6_timeByBars (f : sx_F) (x1 : Int32) (Q : Int32 → Prop) (X : String → Prop) : Prop :=
  (P_X6_needIndex f x1 ((f 1 0) + 1) ((P_X4_countTime f x1 (fun r2 => Q r2))) X)
def P_X6_openBook (f : sx_F) (x1 : Int32) (Q : sx_F → Prop) (X : String → sx_F → Prop) : Prop :=
  (P_X6_needIndex f x1 6 ((P_X0_gather f x1 (fun g2 => Q g2))) (fun E => X E f))
def P_X6_items (f : sx_F) (x1 : Int32) (Q : Int32 → sx_F → Prop) (X : String → sx_F → Prop) : Prop :=
  (P_X6_openBook f x1 (fun g1 => Q (g1 8 3) g1) X)
def P_X6_itemOf (f : sx_F) (x1 : Int32) (x2 : Int32) (Q : Int32 → sx_F → Prop) (X : String → sx_F → Prop) : Prop :=
  (P_X6_openBook f x1 (fun g1 => (P_X6_needIndex g1 x2 (g1 1 0) ((vp_in x2 12 ∧ Q (g1 15 x2.toNatClampNeg) g1)) (fun E => X E g1))) X)
def P_X6_cue (f : sx_F) (x1 : Int32) (x2 : Int32) (Q : Int32 → Prop) (X : String → Prop) : Prop :=
  (P_X6_needSlot f x1 x2 (fun r1 => (P_X4_cuePlayer f x1 x2 (fun r3 => Q r3))) X)
def P_X6_width (f : sx_F) (x1 : Int32) (x2 : Int32) (Q : Int32 → sx_F → Prop) (X : String → sx_F → Prop) : Prop :=
  (P_X6_openBook f x1 (fun g1 => (P_X6_needIndex g1 x2 (g1 8 3) ((P_X0_widthOf g1 x2 (x2 + 1) (fun r3 => Q r3 g1))) (fun E => X E g1))) X)
def P_X6_breakBook (f : sx_F) (x1 : Int32) (Q : sx_F → Prop) (X : String → sx_F → Prop) : Prop :=
  (P_X6_needIndex f x1 6 ((P_X0_gather f x1 (fun g2 => (P_X3_breakLines g2 (fun g3 => Q g3))))) (fun E => X E f))
def P_X6_lines (f : sx_F) (x1 : Int32) (Q : Int32 → sx_F → Prop) (X : String → sx_F → Prop) : Prop :=
  (P_X6_breakBook f x1 (fun g1 => Q (g1 19 7) g1) X)
def P_X6_lineOf (f : sx_F) (x1 : Int32) (x2 : Int32) (Q : Int32 → sx_F → Prop) (X : String → sx_F → Prop) : Prop :=
  (P_X6_breakBook f x1 (fun g1 => (P_X6_needIndex g1 x2 (g1 1 0) ((vp_in x2 12 ∧ (vp_in (g1 15 x2.toNatClampNeg) 12 ∧ Q (g1 64 (g1 15 x2.toNatClampNeg).toNatClampNeg) g1))) (fun E => X E g1))) X)
def P_X6_cost (f : sx_F) (x1 : Int32) (Q : Int32 → sx_F → Prop) (X : String → sx_F → Prop) : Prop :=
  (P_X6_breakBook f x1 (fun g1 => (P_X3_leastCost g1 (fun r2 => Q r2 g1))) X)
def P_X6_costByAll (f : sx_F) (x1 : Int32) (Q : Int32 → sx_F → Prop) (X : String → sx_F → Prop) : Prop :=
  (P_X6_openBook f x1 (fun g1 => (P_X3_leastByTrying g1 (fun r3 g2 => Q r3 g2))) X)
def P_X6_turns (f : sx_F) (x1 : Int32) (Q : Int32 → sx_F → Prop) (X : String → sx_F → Prop) : Prop :=
  (P_X6_breakBook f x1 (fun g1 => Q (g1 19 8) g1) X)
def P_X6_place (f : sx_F) (x1 : Int32) (x2 : Int32) (x3 : Int32) (Q : Int32 → sx_F → Prop) (X : String → sx_F → Prop) : Prop :=
  (P_X6_breakBook f x1 (fun g1 => (P_X6_needIndex g1 x2 (g1 1 0) ((P_X0_drawSpring g1 x2 x3 (fun r4 g3 => ((r4 = (-1) → X "java/lang/IndexOutOfBoundsException" g3) ∧ (¬ r4 = (-1) → (vp_in x2 12 ∧ (P_X3_springAt g3 (g3 15 x2.toNatClampNeg) r4 (fun r6 => Q r6 g3)))))))) (fun E => X E g1))) X)
def P_X6_copies (f : sx_F)  (Q : Int32 → Prop) : Prop :=
  Q (f 0 5)
def P_X6_deskOf (f : sx_F) (x1 : Int32) (Q : Int32 → Prop) (X : String → Prop) : Prop :=
  (P_X6_needIndex f x1 (f 0 5) ((vp_in x1 16 ∧ ∀ w2 : Nat, w2 = 66 + 2 * x1.toNatClampNeg → Q (f w2 2))) X)
def P_X6_has (f : sx_F) (x1 : Int32) (x2 : Int32) (Q : Int32 → Prop) (X : String → Prop) : Prop :=
  (P_X6_needIndex f x1 (f 0 5) ((P_X6_needIndex f x2 (f 1 0) ((vp_in x1 16 ∧ ∀ w3 : Nat, w3 = 66 + 2 * x1.toNatClampNeg → (P_X1_versionOf f w3 x2 (fun r5 => Q r5)))) X)) X)
def P_X6_owed (f : sx_F) (x1 : Int32) (Q : Int32 → Prop) (X : String → Prop) : Prop :=
  (P_X6_needIndex f x1 (f 0 5) ((vp_in x1 16 ∧ ∀ w2 : Nat, w2 = 66 + 2 * x1.toNatClampNeg → (P_X1_countDebts f w2 (fun r4 => Q r4)))) X)
def P_X6_markOf (f : sx_F) (x1 : Int32) (x2 : Int32) (x3 : Int32) (Q : Int32 → Prop) (X : String → Prop) : Prop :=
  (P_X6_needIndex f x1 6 ((vp_in x1 6 ∧ ∀ w2 : Nat, w2 = 99 + 5 * x1.toNatClampNeg → (P_X6_needSlot f x2 x3 (fun r4 => (vp_in r4 60 ∧ Q (f (w2 + 1) r4.toNatClampNeg))) X))) X)
def P_X6_oldMarks (f : sx_F) (x1 : Int32) (Q : Int32 → Prop) (X : String → Prop) : Prop :=
  (P_X6_needIndex f x1 6 ((vp_in x1 6 ∧ ∀ w2 : Nat, w2 = 99 + 5 * x1.toNatClampNeg → (P_X2_countOldMarks f w2 (fun r4 => Q r4)))) X)
def P_X6_clashesAt (f : sx_F) (o1 : Nat) (o2 : Nat) (x3 : Int32) (Q : Int32 → Prop) : Prop :=
  ∀ (B6 : Int32 → Int32 → Prop),
  ∀ (B41 : Int32 → Int32 → Int32 → Int32 → Int32 → Prop),
  ∀ (B100 : Int32 → Int32 → Int32 → Int32 → Int32 → Prop),
  (∀ (v4 : Int32) (v5 : Int32), (((f 1 0) ≤ v5 → Q v4) ∧ (¬ (f 1 0) ≤ v5 → (P_X6_slotOf f x3 v5 (fun r2 => (vp_in r2 60 ∧ (∀ y4 : Int32, y4 = (f 4 r2.toNatClampNeg) → B41 v4 v5 r2 y4 0)))))) → B6 v4 v5) →
  (∀ (v4 : Int32) (v5 : Int32) (v6 : Int32) (v7 : Int32) (v8 : Int32), (vp_in v6 60 ∧ (((f 5 v6.toNatClampNeg) ≤ v8 → (∀ y6 : Int32, y6 = v5 + 1 → B6 v4 y6)) ∧ (¬ (f 5 v6.toNatClampNeg) ≤ v8 → (P_X2_bowingAt f o1 v6 v8 v7 (fun r7 => (P_X2_bowingAt f o2 v6 v8 v7 (fun r9 => ((r7 = 0 → B100 v4 v5 v6 v7 v8) ∧ (¬ r7 = 0 → ((r9 = 0 → B100 v4 v5 v6 v7 v8) ∧ (¬ r9 = 0 → ((r7 = r9 → B100 v4 v5 v6 v7 v8) ∧ (¬ r7 = r9 → (∀ y14 : Int32, y14 = v4 + 1 → B100 y14 v5 v6 v7 v8)))))))))))))) → B41 v4 v5 v6 v7 v8) →
  (∀ (v4 : Int32) (v5 : Int32) (v6 : Int32) (v7 : Int32) (v8 : Int32), (∀ y15 : Int32, y15 = v8 + 1 → B41 v4 v5 v6 v7 y15) → B100 v4 v5 v6 v7 v8) →
  B6 0 0
def P_X6_clashes (f : sx_F) (x1 : Int32) (Q : Int32 → Prop) (X : String → Prop) : Prop :=
  ∀ (B9 : Int32 → Int32 → Prop),
  (∀ (v2 : Int32) (v3 : Int32), ((3 ≤ v3 → Q v2) ∧ (¬ 3 ≤ v3 → (vp_in (2 * v3) 6 ∧ ∀ w2 : Nat, w2 = 99 + 5 * (2 * v3).toNatClampNeg → (vp_in ((2 * v3) + 1) 6 ∧ ∀ w4 : Nat, w4 = 99 + 5 * ((2 * v3) + 1).toNatClampNeg → (P_X6_clashesAt f w2 w4 x1 (fun r6 => (∀ y8 : Int32, y8 = (v2 + r6) → (∀ y9 : Int32, y9 = v3 + 1 → B9 y8 y9)))))))) → B9 v2 v3) →
  (P_X6_needIndex f x1 5 (B9 0 0) X)
def P_X6_concerts (f : sx_F)  (Q : Int32 → Prop) : Prop :=
  Q (f 0 6)
